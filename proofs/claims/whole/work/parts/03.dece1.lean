theorem dX8_sums_78 : decode cX8_sums 78 = .ok (.aload_n 0, 1) := by decide +kernel
theorem dX8_sums_79 : decode cX8_sums 79 = .ok (.iload_n 1, 1) := by decide +kernel
theorem dX8_sums_80 : decode cX8_sums 80 = .ok (.putfield 240, 3) := by decide +kernel
theorem dX8_sums_83 : decode cX8_sums 83 = .ok (.return_, 1) := by decide +kernel
theorem dX8_fact_0 : decode cX8_fact 0 = .ok (.aload_n 0, 1) := by decide +kernel
theorem dX8_fact_1 : decode cX8_fact 1 = .ok (.aload_n 0, 1) := by decide +kernel
theorem dX8_fact_2 : decode cX8_fact 2 = .ok (.getfield 57, 3) := by decide +kernel
theorem dX8_fact_5 : decode cX8_fact 5 = .ok (.invokevirtual 210, 3) := by decide +kernel
theorem dX8_fact_8 : decode cX8_fact 8 = .ok (.ifCond .eq 10, 3) := by decide +kernel
theorem dX8_fact_11 : decode cX8_fact 11 = .ok (.aload_n 0, 1) := by decide +kernel
theorem dX8_fact_12 : decode cX8_fact 12 = .ok (.bipush 17, 2) := by decide +kernel
theorem dX8_fact_14 : decode cX8_fact 14 = .ok (.invokevirtual 236, 3) := by decide +kernel
theorem dX8_fact_17 : decode cX8_fact 17 = .ok (.return_, 1) := by decide +kernel
theorem dX8_fact_18 : decode cX8_fact 18 = .ok (.aload_n 0, 1) := by decide +kernel
theorem dX8_fact_19 : decode cX8_fact 19 = .ok (.invokevirtual 279, 3) := by decide +kernel
theorem dX8_fact_22 : decode cX8_fact 22 = .ok (.aload_n 0, 1) := by decide +kernel
theorem dX8_fact_23 : decode cX8_fact 23 = .ok (.getfield 183, 3) := by decide +kernel
theorem dX8_fact_26 : decode cX8_fact 26 = .ok (.ifCond .eq 4, 3) := by decide +kernel
theorem dX8_fact_29 : decode cX8_fact 29 = .ok (.return_, 1) := by decide +kernel
theorem dX8_fact_30 : decode cX8_fact 30 = .ok (.aload_n 0, 1) := by decide +kernel
theorem dX8_fact_31 : decode cX8_fact 31 = .ok (.invokevirtual 195, 3) := by decide +kernel
theorem dX8_fact_34 : decode cX8_fact 34 = .ok (.istore_n 1, 1) := by decide +kernel
theorem dX8_fact_35 : decode cX8_fact 35 = .ok (.iload_n 1, 1) := by decide +kernel
theorem dX8_fact_36 : decode cX8_fact 36 = .ok (.bipush 60, 2) := by decide +kernel
theorem dX8_fact_38 : decode cX8_fact 38 = .ok (.if_icmp .eq 25, 3) := by decide +kernel
theorem dX8_fact_41 : decode cX8_fact 41 = .ok (.iload_n 1, 1) := by decide +kernel
theorem dX8_fact_42 : decode cX8_fact 42 = .ok (.bipush 62, 2) := by decide +kernel
theorem dX8_fact_44 : decode cX8_fact 44 = .ok (.if_icmp .eq 19, 3) := by decide +kernel
theorem dX8_fact_47 : decode cX8_fact 47 = .ok (.iload_n 1, 1) := by decide +kernel
theorem dX8_fact_48 : decode cX8_fact 48 = .ok (.bipush 61, 2) := by decide +kernel
theorem dX8_fact_50 : decode cX8_fact 50 = .ok (.if_icmp .eq 13, 3) := by decide +kernel
theorem dX8_fact_53 : decode cX8_fact 53 = .ok (.aload_n 0, 1) := by decide +kernel
theorem dX8_fact_54 : decode cX8_fact 54 = .ok (.iconst 1, 1) := by decide +kernel
theorem dX8_fact_55 : decode cX8_fact 55 = .ok (.aload_n 0, 1) := by decide +kernel
theorem dX8_fact_56 : decode cX8_fact 56 = .ok (.getfield 189, 3) := by decide +kernel
theorem dX8_fact_59 : decode cX8_fact 59 = .ok (.invokevirtual 213, 3) := by decide +kernel
theorem dX8_fact_62 : decode cX8_fact 62 = .ok (.return_, 1) := by decide +kernel
theorem dX8_fact_63 : decode cX8_fact 63 = .ok (.aload_n 0, 1) := by decide +kernel
theorem dX8_fact_64 : decode cX8_fact 64 = .ok (.dup, 1) := by decide +kernel
theorem dX8_fact_65 : decode cX8_fact 65 = .ok (.getfield 189, 3) := by decide +kernel
theorem dX8_fact_68 : decode cX8_fact 68 = .ok (.iconst 1, 1) := by decide +kernel
theorem dX8_fact_69 : decode cX8_fact 69 = .ok (.iadd, 1) := by decide +kernel
theorem dX8_fact_70 : decode cX8_fact 70 = .ok (.putfield 189, 3) := by decide +kernel
theorem dX8_fact_73 : decode cX8_fact 73 = .ok (.aload_n 0, 1) := by decide +kernel
theorem dX8_fact_74 : decode cX8_fact 74 = .ok (.invokevirtual 279, 3) := by decide +kernel
theorem dX8_fact_77 : decode cX8_fact 77 = .ok (.aload_n 0, 1) := by decide +kernel
theorem dX8_fact_78 : decode cX8_fact 78 = .ok (.iload_n 1, 1) := by decide +kernel
theorem dX8_fact_79 : decode cX8_fact 79 = .ok (.bipush 60, 2) := by decide +kernel
theorem dX8_fact_81 : decode cX8_fact 81 = .ok (.if_icmp .ne 8, 3) := by decide +kernel
theorem dX8_fact_84 : decode cX8_fact 84 = .ok (.bipush 11, 2) := by decide +kernel
theorem dX8_fact_86 : decode cX8_fact 86 = .ok (.goto 16, 3) := by decide +kernel
theorem dX8_fact_89 : decode cX8_fact 89 = .ok (.iload_n 1, 1) := by decide +kernel
theorem dX8_fact_90 : decode cX8_fact 90 = .ok (.bipush 62, 2) := by decide +kernel
theorem dX8_fact_92 : decode cX8_fact 92 = .ok (.if_icmp .ne 8, 3) := by decide +kernel
theorem dX8_fact_95 : decode cX8_fact 95 = .ok (.bipush 12, 2) := by decide +kernel
theorem dX8_fact_97 : decode cX8_fact 97 = .ok (.goto 5, 3) := by decide +kernel
theorem dX8_fact_100 : decode cX8_fact 100 = .ok (.bipush 13, 2) := by decide +kernel
theorem dX8_fact_102 : decode cX8_fact 102 = .ok (.invokevirtual 236, 3) := by decide +kernel
theorem dX8_fact_105 : decode cX8_fact 105 = .ok (.return_, 1) := by decide +kernel
theorem dX8_hasSquare_0 : decode cX8_hasSquare 0 = .ok (.iconst 0, 1) := by decide +kernel
theorem dX8_hasSquare_1 : decode cX8_hasSquare 1 = .ok (.istore_n 1, 1) := by decide +kernel
theorem dX8_hasSquare_2 : decode cX8_hasSquare 2 = .ok (.iload_n 1, 1) := by decide +kernel
theorem dX8_hasSquare_3 : decode cX8_hasSquare 3 = .ok (.aload_n 0, 1) := by decide +kernel
theorem dX8_hasSquare_4 : decode cX8_hasSquare 4 = .ok (.getfield 233, 3) := by decide +kernel
theorem dX8_hasSquare_7 : decode cX8_hasSquare 7 = .ok (.if_icmp .ge 22, 3) := by decide +kernel
theorem dX8_hasSquare_10 : decode cX8_hasSquare 10 = .ok (.aload_n 0, 1) := by decide +kernel
theorem dX8_hasSquare_11 : decode cX8_hasSquare 11 = .ok (.getfield 124, 3) := by decide +kernel
theorem dX8_hasSquare_14 : decode cX8_hasSquare 14 = .ok (.iload_n 1, 1) := by decide +kernel
theorem dX8_hasSquare_15 : decode cX8_hasSquare 15 = .ok (.iaload, 1) := by decide +kernel
theorem dX8_hasSquare_16 : decode cX8_hasSquare 16 = .ok (.bipush 25, 2) := by decide +kernel
theorem dX8_hasSquare_18 : decode cX8_hasSquare 18 = .ok (.if_icmp .ne 5, 3) := by decide +kernel
theorem dX8_hasSquare_21 : decode cX8_hasSquare 21 = .ok (.iconst 1, 1) := by decide +kernel
theorem dX8_hasSquare_22 : decode cX8_hasSquare 22 = .ok (.ireturn, 1) := by decide +kernel
theorem dX8_hasSquare_23 : decode cX8_hasSquare 23 = .ok (.iinc 1 1, 3) := by decide +kernel
theorem dX8_hasSquare_26 : decode cX8_hasSquare 26 = .ok (.goto (-24), 3) := by decide +kernel
theorem dX8_hasSquare_29 : decode cX8_hasSquare 29 = .ok (.iconst 0, 1) := by decide +kernel
theorem dX8_hasSquare_30 : decode cX8_hasSquare 30 = .ok (.ireturn, 1) := by decide +kernel
theorem dX8_dropsNots_0 : decode cX8_dropsNots 0 = .ok (.aload_n 0, 1) := by decide +kernel
theorem dX8_dropsNots_1 : decode cX8_dropsNots 1 = .ok (.getfield 183, 3) := by decide +kernel
theorem dX8_dropsNots_4 : decode cX8_dropsNots 4 = .ok (.ifCond .ne 29, 3) := by decide +kernel
theorem dX8_dropsNots_7 : decode cX8_dropsNots 7 = .ok (.aload_n 0, 1) := by decide +kernel
theorem dX8_dropsNots_8 : decode cX8_dropsNots 8 = .ok (.bipush 16, 2) := by decide +kernel
theorem dX8_dropsNots_10 : decode cX8_dropsNots 10 = .ok (.invokevirtual 269, 3) := by decide +kernel
theorem dX8_dropsNots_13 : decode cX8_dropsNots 13 = .ok (.ifCond .eq 20, 3) := by decide +kernel
theorem dX8_dropsNots_16 : decode cX8_dropsNots 16 = .ok (.aload_n 0, 1) := by decide +kernel
theorem dX8_dropsNots_17 : decode cX8_dropsNots 17 = .ok (.dup, 1) := by decide +kernel
theorem dX8_dropsNots_18 : decode cX8_dropsNots 18 = .ok (.getfield 230, 3) := by decide +kernel
theorem dX8_dropsNots_21 : decode cX8_dropsNots 21 = .ok (.iconst 1, 1) := by decide +kernel
theorem dX8_dropsNots_22 : decode cX8_dropsNots 22 = .ok (.isub, 1) := by decide +kernel
theorem dX8_dropsNots_23 : decode cX8_dropsNots 23 = .ok (.putfield 230, 3) := by decide +kernel
theorem dX8_dropsNots_26 : decode cX8_dropsNots 26 = .ok (.aload_n 0, 1) := by decide +kernel
theorem dX8_dropsNots_27 : decode cX8_dropsNots 27 = .ok (.invokevirtual 246, 3) := by decide +kernel
theorem dX8_dropsNots_30 : decode cX8_dropsNots 30 = .ok (.goto (-30), 3) := by decide +kernel
theorem dX8_dropsNots_33 : decode cX8_dropsNots 33 = .ok (.return_, 1) := by decide +kernel
theorem dX8_test_0 : decode cX8_test 0 = .ok (.iconst 1, 1) := by decide +kernel
theorem dX8_test_1 : decode cX8_test 1 = .ok (.istore_n 1, 1) := by decide +kernel
theorem dX8_test_2 : decode cX8_test 2 = .ok (.iload_n 1, 1) := by decide +kernel
theorem dX8_test_3 : decode cX8_test 3 = .ok (.ifCond .eq 107, 3) := by decide +kernel
theorem dX8_test_6 : decode cX8_test 6 = .ok (.aload_n 0, 1) := by decide +kernel
theorem dX8_test_7 : decode cX8_test 7 = .ok (.getfield 183, 3) := by decide +kernel
theorem dX8_test_10 : decode cX8_test 10 = .ok (.ifCond .ne 100, 3) := by decide +kernel
theorem dX8_test_13 : decode cX8_test 13 = .ok (.aload_n 0, 1) := by decide +kernel
theorem dX8_test_14 : decode cX8_test 14 = .ok (.invokevirtual 195, 3) := by decide +kernel
theorem dX8_test_17 : decode cX8_test 17 = .ok (.istore_n 2, 1) := by decide +kernel
theorem dX8_test_18 : decode cX8_test 18 = .ok (.iload_n 2, 1) := by decide +kernel
theorem dX8_test_19 : decode cX8_test 19 = .ok (.bipush 91, 2) := by decide +kernel
theorem dX8_test_21 : decode cX8_test 21 = .ok (.if_icmp .ne 26, 3) := by decide +kernel
theorem dX8_test_24 : decode cX8_test 24 = .ok (.aload_n 0, 1) := by decide +kernel
theorem dX8_test_25 : decode cX8_test 25 = .ok (.bipush 25, 2) := by decide +kernel
theorem dX8_test_27 : decode cX8_test 27 = .ok (.aload_n 0, 1) := by decide +kernel
theorem dX8_test_28 : decode cX8_test 28 = .ok (.getfield 189, 3) := by decide +kernel
theorem dX8_test_31 : decode cX8_test 31 = .ok (.invokevirtual 249, 3) := by decide +kernel
theorem dX8_test_34 : decode cX8_test 34 = .ok (.aload_n 0, 1) := by decide +kernel
theorem dX8_test_35 : decode cX8_test 35 = .ok (.dup, 1) := by decide +kernel
theorem dX8_test_36 : decode cX8_test 36 = .ok (.getfield 189, 3) := by decide +kernel
theorem dX8_test_39 : decode cX8_test 39 = .ok (.iconst 1, 1) := by decide +kernel
theorem dX8_test_40 : decode cX8_test 40 = .ok (.iadd, 1) := by decide +kernel
theorem dX8_test_41 : decode cX8_test 41 = .ok (.putfield 189, 3) := by decide +kernel
theorem dX8_test_44 : decode cX8_test 44 = .ok (.goto (-42), 3) := by decide +kernel
theorem dX8_test_47 : decode cX8_test 47 = .ok (.aload_n 0, 1) := by decide +kernel
theorem dX8_test_48 : decode cX8_test 48 = .ok (.aload_n 0, 1) := by decide +kernel
theorem dX8_test_49 : decode cX8_test 49 = .ok (.getfield 54, 3) := by decide +kernel
theorem dX8_test_52 : decode cX8_test 52 = .ok (.invokevirtual 206, 3) := by decide +kernel
theorem dX8_test_55 : decode cX8_test 55 = .ok (.ifCond .eq 24, 3) := by decide +kernel
theorem dX8_test_58 : decode cX8_test 58 = .ok (.aload_n 0, 1) := by decide +kernel
theorem dX8_test_59 : decode cX8_test 59 = .ok (.bipush 16, 2) := by decide +kernel
theorem dX8_test_61 : decode cX8_test 61 = .ok (.aload_n 0, 1) := by decide +kernel
theorem dX8_test_62 : decode cX8_test 62 = .ok (.getfield 189, 3) := by decide +kernel
theorem dX8_test_65 : decode cX8_test 65 = .ok (.invokevirtual 249, 3) := by decide +kernel
theorem dX8_test_68 : decode cX8_test 68 = .ok (.aload_n 0, 1) := by decide +kernel
theorem dX8_test_69 : decode cX8_test 69 = .ok (.aload_n 0, 1) := by decide +kernel
theorem dX8_test_70 : decode cX8_test 70 = .ok (.getfield 54, 3) := by decide +kernel
theorem dX8_test_73 : decode cX8_test 73 = .ok (.invokevirtual 252, 3) := by decide +kernel
theorem dX8_test_76 : decode cX8_test 76 = .ok (.goto (-74), 3) := by decide +kernel
theorem dX8_test_79 : decode cX8_test 79 = .ok (.aload_n 0, 1) := by decide +kernel
theorem dX8_test_80 : decode cX8_test 80 = .ok (.invokevirtual 282, 3) := by decide +kernel
theorem dX8_test_83 : decode cX8_test 83 = .ok (.aload_n 0, 1) := by decide +kernel
theorem dX8_test_84 : decode cX8_test 84 = .ok (.invokevirtual 285, 3) := by decide +kernel
theorem dX8_test_87 : decode cX8_test 87 = .ok (.aload_n 0, 1) := by decide +kernel
theorem dX8_test_88 : decode cX8_test 88 = .ok (.getfield 183, 3) := by decide +kernel
theorem dX8_test_91 : decode cX8_test 91 = .ok (.ifCond .ne 14, 3) := by decide +kernel
theorem dX8_test_94 : decode cX8_test 94 = .ok (.aload_n 0, 1) := by decide +kernel
theorem dX8_test_95 : decode cX8_test 95 = .ok (.invokevirtual 288, 3) := by decide +kernel
theorem dX8_test_98 : decode cX8_test 98 = .ok (.ifCond .eq 7, 3) := by decide +kernel
theorem dX8_test_101 : decode cX8_test 101 = .ok (.iconst 1, 1) := by decide +kernel
theorem dX8_test_102 : decode cX8_test 102 = .ok (.goto 4, 3) := by decide +kernel
theorem dX8_test_105 : decode cX8_test 105 = .ok (.iconst 0, 1) := by decide +kernel
theorem dX8_test_106 : decode cX8_test 106 = .ok (.istore_n 1, 1) := by decide +kernel
theorem dX8_test_107 : decode cX8_test 107 = .ok (.goto (-105), 3) := by decide +kernel
theorem dX8_test_110 : decode cX8_test 110 = .ok (.aload_n 0, 1) := by decide +kernel
theorem dX8_test_111 : decode cX8_test 111 = .ok (.getfield 183, 3) := by decide +kernel
theorem dX8_test_114 : decode cX8_test 114 = .ok (.ifCond .ne 17, 3) := by decide +kernel
theorem dX8_test_117 : decode cX8_test 117 = .ok (.aload_n 0, 1) := by decide +kernel
theorem dX8_test_118 : decode cX8_test 118 = .ok (.getfield 233, 3) := by decide +kernel
theorem dX8_test_121 : decode cX8_test 121 = .ok (.ifCond .le 10, 3) := by decide +kernel
theorem dX8_test_124 : decode cX8_test 124 = .ok (.aload_n 0, 1) := by decide +kernel
theorem dX8_test_125 : decode cX8_test 125 = .ok (.invokevirtual 246, 3) := by decide +kernel
theorem dX8_test_128 : decode cX8_test 128 = .ok (.goto (-18), 3) := by decide +kernel
theorem dX8_test_131 : decode cX8_test 131 = .ok (.return_, 1) := by decide +kernel
theorem dX8_goesOnTest_0 : decode cX8_goesOnTest 0 = .ok (.aload_n 0, 1) := by decide +kernel
theorem dX8_goesOnTest_1 : decode cX8_goesOnTest 1 = .ok (.getfield 183, 3) := by decide +kernel
theorem dX8_goesOnTest_4 : decode cX8_goesOnTest 4 = .ok (.ifCond .ne 72, 3) := by decide +kernel
theorem dX8_goesOnTest_7 : decode cX8_goesOnTest 7 = .ok (.aload_n 0, 1) := by decide +kernel
theorem dX8_goesOnTest_8 : decode cX8_goesOnTest 8 = .ok (.invokevirtual 195, 3) := by decide +kernel
theorem dX8_goesOnTest_11 : decode cX8_goesOnTest 11 = .ok (.bipush 93, 2) := by decide +kernel
theorem dX8_goesOnTest_13 : decode cX8_goesOnTest 13 = .ok (.if_icmp .ne 63, 3) := by decide +kernel
theorem dX8_goesOnTest_16 : decode cX8_goesOnTest 16 = .ok (.aload_n 0, 1) := by decide +kernel
theorem dX8_goesOnTest_17 : decode cX8_goesOnTest 17 = .ok (.invokevirtual 291, 3) := by decide +kernel
theorem dX8_goesOnTest_20 : decode cX8_goesOnTest 20 = .ok (.ifCond .eq 56, 3) := by decide +kernel
theorem dX8_goesOnTest_23 : decode cX8_goesOnTest 23 = .ok (.aload_n 0, 1) := by decide +kernel
theorem dX8_goesOnTest_24 : decode cX8_goesOnTest 24 = .ok (.dup, 1) := by decide +kernel
theorem dX8_goesOnTest_25 : decode cX8_goesOnTest 25 = .ok (.getfield 189, 3) := by decide +kernel
theorem dX8_goesOnTest_28 : decode cX8_goesOnTest 28 = .ok (.iconst 1, 1) := by decide +kernel
theorem dX8_goesOnTest_29 : decode cX8_goesOnTest 29 = .ok (.iadd, 1) := by decide +kernel
theorem dX8_goesOnTest_30 : decode cX8_goesOnTest 30 = .ok (.putfield 189, 3) := by decide +kernel
theorem dX8_goesOnTest_33 : decode cX8_goesOnTest 33 = .ok (.aload_n 0, 1) := by decide +kernel
theorem dX8_goesOnTest_34 : decode cX8_goesOnTest 34 = .ok (.bipush 25, 2) := by decide +kernel
theorem dX8_goesOnTest_36 : decode cX8_goesOnTest 36 = .ok (.invokevirtual 269, 3) := by decide +kernel
theorem dX8_goesOnTest_39 : decode cX8_goesOnTest 39 = .ok (.ifCond .ne 10, 3) := by decide +kernel
theorem dX8_goesOnTest_42 : decode cX8_goesOnTest 42 = .ok (.aload_n 0, 1) := by decide +kernel
theorem dX8_goesOnTest_43 : decode cX8_goesOnTest 43 = .ok (.invokevirtual 246, 3) := by decide +kernel
theorem dX8_goesOnTest_46 : decode cX8_goesOnTest 46 = .ok (.goto (-13), 3) := by decide +kernel
theorem dX8_goesOnTest_49 : decode cX8_goesOnTest 49 = .ok (.aload_n 0, 1) := by decide +kernel
theorem dX8_goesOnTest_50 : decode cX8_goesOnTest 50 = .ok (.dup, 1) := by decide +kernel
theorem dX8_goesOnTest_51 : decode cX8_goesOnTest 51 = .ok (.getfield 233, 3) := by decide +kernel
theorem dX8_goesOnTest_54 : decode cX8_goesOnTest 54 = .ok (.iconst 1, 1) := by decide +kernel
theorem dX8_goesOnTest_55 : decode cX8_goesOnTest 55 = .ok (.isub, 1) := by decide +kernel
theorem dX8_goesOnTest_56 : decode cX8_goesOnTest 56 = .ok (.putfield 233, 3) := by decide +kernel
theorem dX8_goesOnTest_59 : decode cX8_goesOnTest 59 = .ok (.aload_n 0, 1) := by decide +kernel
theorem dX8_goesOnTest_60 : decode cX8_goesOnTest 60 = .ok (.dup, 1) := by decide +kernel
theorem dX8_goesOnTest_61 : decode cX8_goesOnTest 61 = .ok (.getfield 230, 3) := by decide +kernel
theorem dX8_goesOnTest_64 : decode cX8_goesOnTest 64 = .ok (.iconst 1, 1) := by decide +kernel
theorem dX8_goesOnTest_65 : decode cX8_goesOnTest 65 = .ok (.isub, 1) := by decide +kernel
theorem dX8_goesOnTest_66 : decode cX8_goesOnTest 66 = .ok (.putfield 230, 3) := by decide +kernel
theorem dX8_goesOnTest_69 : decode cX8_goesOnTest 69 = .ok (.aload_n 0, 1) := by decide +kernel
theorem dX8_goesOnTest_70 : decode cX8_goesOnTest 70 = .ok (.invokevirtual 285, 3) := by decide +kernel
theorem dX8_goesOnTest_73 : decode cX8_goesOnTest 73 = .ok (.goto (-73), 3) := by decide +kernel
theorem dX8_goesOnTest_76 : decode cX8_goesOnTest 76 = .ok (.aload_n 0, 1) := by decide +kernel
theorem dX8_goesOnTest_77 : decode cX8_goesOnTest 77 = .ok (.aload_n 0, 1) := by decide +kernel
theorem dX8_goesOnTest_78 : decode cX8_goesOnTest 78 = .ok (.getfield 51, 3) := by decide +kernel
theorem dX8_goesOnTest_81 : decode cX8_goesOnTest 81 = .ok (.invokevirtual 210, 3) := by decide +kernel
theorem dX8_goesOnTest_84 : decode cX8_goesOnTest 84 = .ok (.ifCond .eq 42, 3) := by decide +kernel
theorem dX8_goesOnTest_87 : decode cX8_goesOnTest 87 = .ok (.aload_n 0, 1) := by decide +kernel
theorem dX8_goesOnTest_88 : decode cX8_goesOnTest 88 = .ok (.bipush 14, 2) := by decide +kernel
theorem dX8_goesOnTest_90 : decode cX8_goesOnTest 90 = .ok (.invokevirtual 269, 3) := by decide +kernel
theorem dX8_goesOnTest_93 : decode cX8_goesOnTest 93 = .ok (.ifCond .eq 10, 3) := by decide +kernel
theorem dX8_goesOnTest_96 : decode cX8_goesOnTest 96 = .ok (.aload_n 0, 1) := by decide +kernel
theorem dX8_goesOnTest_97 : decode cX8_goesOnTest 97 = .ok (.invokevirtual 246, 3) := by decide +kernel
theorem dX8_goesOnTest_100 : decode cX8_goesOnTest 100 = .ok (.goto (-13), 3) := by decide +kernel
theorem dX8_goesOnTest_103 : decode cX8_goesOnTest 103 = .ok (.aload_n 0, 1) := by decide +kernel
theorem dX8_goesOnTest_104 : decode cX8_goesOnTest 104 = .ok (.getfield 124, 3) := by decide +kernel
theorem dX8_goesOnTest_107 : decode cX8_goesOnTest 107 = .ok (.aload_n 0, 1) := by decide +kernel
theorem dX8_goesOnTest_108 : decode cX8_goesOnTest 108 = .ok (.getfield 233, 3) := by decide +kernel
theorem dX8_goesOnTest_111 : decode cX8_goesOnTest 111 = .ok (.bipush 14, 2) := by decide +kernel
theorem dX8_goesOnTest_113 : decode cX8_goesOnTest 113 = .ok (.iastore, 1) := by decide +kernel
theorem dX8_goesOnTest_114 : decode cX8_goesOnTest 114 = .ok (.aload_n 0, 1) := by decide +kernel
theorem dX8_goesOnTest_115 : decode cX8_goesOnTest 115 = .ok (.dup, 1) := by decide +kernel
theorem dX8_goesOnTest_116 : decode cX8_goesOnTest 116 = .ok (.getfield 233, 3) := by decide +kernel
theorem dX8_goesOnTest_119 : decode cX8_goesOnTest 119 = .ok (.iconst 1, 1) := by decide +kernel
theorem dX8_goesOnTest_120 : decode cX8_goesOnTest 120 = .ok (.iadd, 1) := by decide +kernel
theorem dX8_goesOnTest_121 : decode cX8_goesOnTest 121 = .ok (.putfield 233, 3) := by decide +kernel
theorem dX8_goesOnTest_124 : decode cX8_goesOnTest 124 = .ok (.iconst 1, 1) := by decide +kernel
theorem dX8_goesOnTest_125 : decode cX8_goesOnTest 125 = .ok (.ireturn, 1) := by decide +kernel
theorem dX8_goesOnTest_126 : decode cX8_goesOnTest 126 = .ok (.aload_n 0, 1) := by decide +kernel
theorem dX8_goesOnTest_127 : decode cX8_goesOnTest 127 = .ok (.aload_n 0, 1) := by decide +kernel
theorem dX8_goesOnTest_128 : decode cX8_goesOnTest 128 = .ok (.getfield 48, 3) := by decide +kernel
theorem dX8_goesOnTest_131 : decode cX8_goesOnTest 131 = .ok (.invokevirtual 210, 3) := by decide +kernel
theorem dX8_goesOnTest_134 : decode cX8_goesOnTest 134 = .ok (.ifCond .eq 51, 3) := by decide +kernel
theorem dX8_goesOnTest_137 : decode cX8_goesOnTest 137 = .ok (.aload_n 0, 1) := by decide +kernel
theorem dX8_goesOnTest_138 : decode cX8_goesOnTest 138 = .ok (.bipush 14, 2) := by decide +kernel
theorem dX8_goesOnTest_140 : decode cX8_goesOnTest 140 = .ok (.invokevirtual 269, 3) := by decide +kernel
theorem dX8_goesOnTest_143 : decode cX8_goesOnTest 143 = .ok (.ifCond .ne 12, 3) := by decide +kernel
theorem dX8_goesOnTest_146 : decode cX8_goesOnTest 146 = .ok (.aload_n 0, 1) := by decide +kernel
theorem dX8_goesOnTest_147 : decode cX8_goesOnTest 147 = .ok (.bipush 15, 2) := by decide +kernel
theorem dX8_goesOnTest_149 : decode cX8_goesOnTest 149 = .ok (.invokevirtual 269, 3) := by decide +kernel
theorem dX8_goesOnTest_152 : decode cX8_goesOnTest 152 = .ok (.ifCond .eq 10, 3) := by decide +kernel
theorem dX8_goesOnTest_155 : decode cX8_goesOnTest 155 = .ok (.aload_n 0, 1) := by decide +kernel
theorem dX8_goesOnTest_156 : decode cX8_goesOnTest 156 = .ok (.invokevirtual 246, 3) := by decide +kernel
theorem dX8_goesOnTest_159 : decode cX8_goesOnTest 159 = .ok (.goto (-22), 3) := by decide +kernel
theorem dX8_goesOnTest_162 : decode cX8_goesOnTest 162 = .ok (.aload_n 0, 1) := by decide +kernel
theorem dX8_goesOnTest_163 : decode cX8_goesOnTest 163 = .ok (.getfield 124, 3) := by decide +kernel
theorem dX8_goesOnTest_166 : decode cX8_goesOnTest 166 = .ok (.aload_n 0, 1) := by decide +kernel
theorem dX8_goesOnTest_167 : decode cX8_goesOnTest 167 = .ok (.getfield 233, 3) := by decide +kernel
theorem dX8_goesOnTest_170 : decode cX8_goesOnTest 170 = .ok (.bipush 15, 2) := by decide +kernel
theorem dX8_goesOnTest_172 : decode cX8_goesOnTest 172 = .ok (.iastore, 1) := by decide +kernel
theorem dX8_goesOnTest_173 : decode cX8_goesOnTest 173 = .ok (.aload_n 0, 1) := by decide +kernel
theorem dX8_goesOnTest_174 : decode cX8_goesOnTest 174 = .ok (.dup, 1) := by decide +kernel
theorem dX8_goesOnTest_175 : decode cX8_goesOnTest 175 = .ok (.getfield 233, 3) := by decide +kernel
theorem dX8_goesOnTest_178 : decode cX8_goesOnTest 178 = .ok (.iconst 1, 1) := by decide +kernel
theorem dX8_goesOnTest_179 : decode cX8_goesOnTest 179 = .ok (.iadd, 1) := by decide +kernel
theorem dX8_goesOnTest_180 : decode cX8_goesOnTest 180 = .ok (.putfield 233, 3) := by decide +kernel
theorem dX8_goesOnTest_183 : decode cX8_goesOnTest 183 = .ok (.iconst 1, 1) := by decide +kernel
theorem dX8_goesOnTest_184 : decode cX8_goesOnTest 184 = .ok (.ireturn, 1) := by decide +kernel
theorem dX8_goesOnTest_185 : decode cX8_goesOnTest 185 = .ok (.aload_n 0, 1) := by decide +kernel
theorem dX8_goesOnTest_186 : decode cX8_goesOnTest 186 = .ok (.getfield 183, 3) := by decide +kernel
theorem dX8_goesOnTest_189 : decode cX8_goesOnTest 189 = .ok (.ifCond .ne 19, 3) := by decide +kernel
theorem dX8_goesOnTest_192 : decode cX8_goesOnTest 192 = .ok (.aload_n 0, 1) := by decide +kernel
theorem dX8_goesOnTest_193 : decode cX8_goesOnTest 193 = .ok (.invokevirtual 291, 3) := by decide +kernel
theorem dX8_goesOnTest_196 : decode cX8_goesOnTest 196 = .ok (.ifCond .eq 12, 3) := by decide +kernel
theorem dX8_goesOnTest_199 : decode cX8_goesOnTest 199 = .ok (.aload_n 0, 1) := by decide +kernel
theorem dX8_goesOnTest_200 : decode cX8_goesOnTest 200 = .ok (.iconst 1, 1) := by decide +kernel
theorem dX8_goesOnTest_201 : decode cX8_goesOnTest 201 = .ok (.aload_n 0, 1) := by decide +kernel
theorem dX8_goesOnTest_202 : decode cX8_goesOnTest 202 = .ok (.getfield 189, 3) := by decide +kernel
theorem dX8_goesOnTest_205 : decode cX8_goesOnTest 205 = .ok (.invokevirtual 213, 3) := by decide +kernel
theorem dX8_goesOnTest_208 : decode cX8_goesOnTest 208 = .ok (.iconst 0, 1) := by decide +kernel
theorem dX8_goesOnTest_209 : decode cX8_goesOnTest 209 = .ok (.ireturn, 1) := by decide +kernel
theorem dX8_readsSum_0 : decode cX8_readsSum 0 = .ok (.aload_n 0, 1) := by decide +kernel
theorem dX8_readsSum_1 : decode cX8_readsSum 1 = .ok (.iconst 0, 1) := by decide +kernel
theorem dX8_readsSum_2 : decode cX8_readsSum 2 = .ok (.putfield 233, 3) := by decide +kernel
theorem dX8_readsSum_5 : decode cX8_readsSum 5 = .ok (.aload_n 0, 1) := by decide +kernel
theorem dX8_readsSum_6 : decode cX8_readsSum 6 = .ok (.iconst 0, 1) := by decide +kernel
theorem dX8_readsSum_7 : decode cX8_readsSum 7 = .ok (.putfield 230, 3) := by decide +kernel
theorem dX8_readsSum_10 : decode cX8_readsSum 10 = .ok (.aload_n 0, 1) := by decide +kernel
theorem dX8_readsSum_11 : decode cX8_readsSum 11 = .ok (.iconst 0, 1) := by decide +kernel
theorem dX8_readsSum_12 : decode cX8_readsSum 12 = .ok (.putfield 240, 3) := by decide +kernel
theorem dX8_readsSum_15 : decode cX8_readsSum 15 = .ok (.aload_n 0, 1) := by decide +kernel
theorem dX8_readsSum_16 : decode cX8_readsSum 16 = .ok (.getfield 183, 3) := by decide +kernel
theorem dX8_readsSum_19 : decode cX8_readsSum 19 = .ok (.ifCond .ne 7, 3) := by decide +kernel
theorem dX8_readsSum_22 : decode cX8_readsSum 22 = .ok (.aload_n 0, 1) := by decide +kernel
theorem dX8_readsSum_23 : decode cX8_readsSum 23 = .ok (.invokevirtual 279, 3) := by decide +kernel
theorem dX8_readsSum_26 : decode cX8_readsSum 26 = .ok (.return_, 1) := by decide +kernel
theorem dX8_worthTold_0 : decode cX8_worthTold 0 = .ok (.aload_n 0, 1) := by decide +kernel
theorem dX8_worthTold_1 : decode cX8_worthTold 1 = .ok (.getfield 99, 3) := by decide +kernel
theorem dX8_worthTold_4 : decode cX8_worthTold 4 = .ok (.iconst 0, 1) := by decide +kernel
theorem dX8_worthTold_5 : decode cX8_worthTold 5 = .ok (.iaload, 1) := by decide +kernel
theorem dX8_worthTold_6 : decode cX8_worthTold 6 = .ok (.istore_n 1, 1) := by decide +kernel
theorem dX8_worthTold_7 : decode cX8_worthTold 7 = .ok (.aload_n 0, 1) := by decide +kernel
theorem dX8_worthTold_8 : decode cX8_worthTold 8 = .ok (.getfield 102, 3) := by decide +kernel
theorem dX8_worthTold_11 : decode cX8_worthTold 11 = .ok (.iload_n 1, 1) := by decide +kernel
theorem dX8_worthTold_12 : decode cX8_worthTold 12 = .ok (.aload_n 0, 1) := by decide +kernel
theorem dX8_worthTold_13 : decode cX8_worthTold 13 = .ok (.getfield 227, 3) := by decide +kernel
theorem dX8_worthTold_16 : decode cX8_worthTold 16 = .ok (.iastore, 1) := by decide +kernel
theorem dX8_worthTold_17 : decode cX8_worthTold 17 = .ok (.aload_n 0, 1) := by decide +kernel
theorem dX8_worthTold_18 : decode cX8_worthTold 18 = .ok (.invokevirtual 294, 3) := by decide +kernel
theorem dX8_worthTold_21 : decode cX8_worthTold 21 = .ok (.aload_n 0, 1) := by decide +kernel
theorem dX8_worthTold_22 : decode cX8_worthTold 22 = .ok (.getfield 105, 3) := by decide +kernel
theorem dX8_worthTold_25 : decode cX8_worthTold 25 = .ok (.iload_n 1, 1) := by decide +kernel
theorem dX8_worthTold_26 : decode cX8_worthTold 26 = .ok (.aload_n 0, 1) := by decide +kernel
theorem dX8_worthTold_27 : decode cX8_worthTold 27 = .ok (.getfield 227, 3) := by decide +kernel
theorem dX8_worthTold_30 : decode cX8_worthTold 30 = .ok (.iastore, 1) := by decide +kernel
theorem dX8_worthTold_31 : decode cX8_worthTold 31 = .ok (.aload_n 0, 1) := by decide +kernel
theorem dX8_worthTold_32 : decode cX8_worthTold 32 = .ok (.aload_n 0, 1) := by decide +kernel
theorem dX8_worthTold_33 : decode cX8_worthTold 33 = .ok (.getfield 39, 3) := by decide +kernel
theorem dX8_worthTold_36 : decode cX8_worthTold 36 = .ok (.invokevirtual 252, 3) := by decide +kernel
theorem dX8_worthTold_39 : decode cX8_worthTold 39 = .ok (.aload_n 0, 1) := by decide +kernel
theorem dX8_worthTold_40 : decode cX8_worthTold 40 = .ok (.getfield 183, 3) := by decide +kernel
theorem dX8_worthTold_43 : decode cX8_worthTold 43 = .ok (.ifCond .ne 7, 3) := by decide +kernel
theorem dX8_worthTold_46 : decode cX8_worthTold 46 = .ok (.aload_n 0, 1) := by decide +kernel
theorem dX8_worthTold_47 : decode cX8_worthTold 47 = .ok (.invokevirtual 297, 3) := by decide +kernel
theorem dX8_worthTold_50 : decode cX8_worthTold 50 = .ok (.aload_n 0, 1) := by decide +kernel
theorem dX8_worthTold_51 : decode cX8_worthTold 51 = .ok (.getfield 108, 3) := by decide +kernel
theorem dX8_worthTold_54 : decode cX8_worthTold 54 = .ok (.iload_n 1, 1) := by decide +kernel
theorem dX8_worthTold_55 : decode cX8_worthTold 55 = .ok (.aload_n 0, 1) := by decide +kernel
theorem dX8_worthTold_56 : decode cX8_worthTold 56 = .ok (.getfield 227, 3) := by decide +kernel
theorem dX8_worthTold_59 : decode cX8_worthTold 59 = .ok (.iastore, 1) := by decide +kernel
theorem dX8_worthTold_60 : decode cX8_worthTold 60 = .ok (.aload_n 0, 1) := by decide +kernel
theorem dX8_worthTold_61 : decode cX8_worthTold 61 = .ok (.getfield 99, 3) := by decide +kernel
theorem dX8_worthTold_64 : decode cX8_worthTold 64 = .ok (.iconst 0, 1) := by decide +kernel
theorem dX8_worthTold_65 : decode cX8_worthTold 65 = .ok (.dup2, 1) := by decide +kernel
theorem dX8_worthTold_66 : decode cX8_worthTold 66 = .ok (.iaload, 1) := by decide +kernel
theorem dX8_worthTold_67 : decode cX8_worthTold 67 = .ok (.iconst 1, 1) := by decide +kernel
theorem dX8_worthTold_68 : decode cX8_worthTold 68 = .ok (.iadd, 1) := by decide +kernel
theorem dX8_worthTold_69 : decode cX8_worthTold 69 = .ok (.iastore, 1) := by decide +kernel
theorem dX8_worthTold_70 : decode cX8_worthTold 70 = .ok (.return_, 1) := by decide +kernel
theorem dX8_cleanTold_0 : decode cX8_cleanTold 0 = .ok (.aload_n 0, 1) := by decide +kernel
theorem dX8_cleanTold_1 : decode cX8_cleanTold 1 = .ok (.iconst 1, 1) := by decide +kernel
theorem dX8_cleanTold_2 : decode cX8_cleanTold 2 = .ok (.iconst 3, 1) := by decide +kernel
theorem dX8_cleanTold_3 : decode cX8_cleanTold 3 = .ok (.invokevirtual 259, 3) := by decide +kernel
theorem dX8_cleanTold_6 : decode cX8_cleanTold 6 = .ok (.istore_n 1, 1) := by decide +kernel
theorem dX8_cleanTold_7 : decode cX8_cleanTold 7 = .ok (.aload_n 0, 1) := by decide +kernel
theorem dX8_cleanTold_8 : decode cX8_cleanTold 8 = .ok (.aload_n 0, 1) := by decide +kernel
theorem dX8_cleanTold_9 : decode cX8_cleanTold 9 = .ok (.getfield 30, 3) := by decide +kernel
theorem dX8_cleanTold_12 : decode cX8_cleanTold 12 = .ok (.invokevirtual 252, 3) := by decide +kernel
theorem dX8_cleanTold_15 : decode cX8_cleanTold 15 = .ok (.aload_n 0, 1) := by decide +kernel
theorem dX8_cleanTold_16 : decode cX8_cleanTold 16 = .ok (.iconst 0, 1) := by decide +kernel
theorem dX8_cleanTold_17 : decode cX8_cleanTold 17 = .ok (.iconst 3, 1) := by decide +kernel
theorem dX8_cleanTold_18 : decode cX8_cleanTold 18 = .ok (.invokevirtual 259, 3) := by decide +kernel
theorem dX8_cleanTold_21 : decode cX8_cleanTold 21 = .ok (.istore_n 2, 1) := by decide +kernel
theorem dX8_cleanTold_22 : decode cX8_cleanTold 22 = .ok (.aload_n 0, 1) := by decide +kernel
theorem dX8_cleanTold_23 : decode cX8_cleanTold 23 = .ok (.getfield 183, 3) := by decide +kernel
theorem dX8_cleanTold_26 : decode cX8_cleanTold 26 = .ok (.ifCond .ne 10, 3) := by decide +kernel
theorem dX8_cleanTold_29 : decode cX8_cleanTold 29 = .ok (.aload_n 0, 1) := by decide +kernel
theorem dX8_cleanTold_30 : decode cX8_cleanTold 30 = .ok (.getfield 96, 3) := by decide +kernel
theorem dX8_cleanTold_33 : decode cX8_cleanTold 33 = .ok (.iload_n 1, 1) := by decide +kernel
theorem dX8_cleanTold_34 : decode cX8_cleanTold 34 = .ok (.iload_n 2, 1) := by decide +kernel
theorem dX8_cleanTold_35 : decode cX8_cleanTold 35 = .ok (.iastore, 1) := by decide +kernel
theorem dX8_cleanTold_36 : decode cX8_cleanTold 36 = .ok (.return_, 1) := by decide +kernel
theorem dX8_joinsTold_0 : decode cX8_joinsTold 0 = .ok (.aload_n 0, 1) := by decide +kernel
theorem dX8_joinsTold_1 : decode cX8_joinsTold 1 = .ok (.iconst 0, 1) := by decide +kernel
theorem dX8_joinsTold_2 : decode cX8_joinsTold 2 = .ok (.bipush 8, 2) := by decide +kernel
theorem dX8_joinsTold_4 : decode cX8_joinsTold 4 = .ok (.invokevirtual 259, 3) := by decide +kernel
theorem dX8_joinsTold_7 : decode cX8_joinsTold 7 = .ok (.istore_n 1, 1) := by decide +kernel
theorem dX8_joinsTold_8 : decode cX8_joinsTold 8 = .ok (.aload_n 0, 1) := by decide +kernel
theorem dX8_joinsTold_9 : decode cX8_joinsTold 9 = .ok (.invokevirtual 195, 3) := by decide +kernel
theorem dX8_joinsTold_12 : decode cX8_joinsTold 12 = .ok (.pop, 1) := by decide +kernel
theorem dX8_joinsTold_13 : decode cX8_joinsTold 13 = .ok (.aload_n 0, 1) := by decide +kernel
theorem dX8_joinsTold_14 : decode cX8_joinsTold 14 = .ok (.getfield 189, 3) := by decide +kernel
theorem dX8_joinsTold_17 : decode cX8_joinsTold 17 = .ok (.istore_n 2, 1) := by decide +kernel
theorem dX8_joinsTold_18 : decode cX8_joinsTold 18 = .ok (.aload_n 0, 1) := by decide +kernel
theorem dX8_joinsTold_19 : decode cX8_joinsTold 19 = .ok (.iconst 0, 1) := by decide +kernel
theorem dX8_joinsTold_20 : decode cX8_joinsTold 20 = .ok (.bipush 8, 2) := by decide +kernel
theorem dX8_joinsTold_22 : decode cX8_joinsTold 22 = .ok (.invokevirtual 259, 3) := by decide +kernel
theorem dX8_joinsTold_25 : decode cX8_joinsTold 25 = .ok (.istore_n 3, 1) := by decide +kernel
theorem dX8_joinsTold_26 : decode cX8_joinsTold 26 = .ok (.aload_n 0, 1) := by decide +kernel
theorem dX8_joinsTold_27 : decode cX8_joinsTold 27 = .ok (.getfield 183, 3) := by decide +kernel
theorem dX8_joinsTold_30 : decode cX8_joinsTold 30 = .ok (.ifCond .ne 14, 3) := by decide +kernel
theorem dX8_joinsTold_33 : decode cX8_joinsTold 33 = .ok (.iload_n 1, 1) := by decide +kernel
theorem dX8_joinsTold_34 : decode cX8_joinsTold 34 = .ok (.iload_n 3, 1) := by decide +kernel
theorem dX8_joinsTold_35 : decode cX8_joinsTold 35 = .ok (.if_icmp .ne 9, 3) := by decide +kernel
theorem dX8_joinsTold_38 : decode cX8_joinsTold 38 = .ok (.aload_n 0, 1) := by decide +kernel
theorem dX8_joinsTold_39 : decode cX8_joinsTold 39 = .ok (.iconst 2, 1) := by decide +kernel
theorem dX8_joinsTold_40 : decode cX8_joinsTold 40 = .ok (.iload_n 2, 1) := by decide +kernel
theorem dX8_joinsTold_41 : decode cX8_joinsTold 41 = .ok (.invokevirtual 213, 3) := by decide +kernel
theorem dX8_joinsTold_44 : decode cX8_joinsTold 44 = .ok (.aload_n 0, 1) := by decide +kernel
theorem dX8_joinsTold_45 : decode cX8_joinsTold 45 = .ok (.getfield 183, 3) := by decide +kernel
theorem dX8_joinsTold_48 : decode cX8_joinsTold 48 = .ok (.ifCond .eq 4, 3) := by decide +kernel
theorem dX8_joinsTold_51 : decode cX8_joinsTold 51 = .ok (.return_, 1) := by decide +kernel
theorem dX8_joinsTold_52 : decode cX8_joinsTold 52 = .ok (.aload_n 0, 1) := by decide +kernel
theorem dX8_joinsTold_53 : decode cX8_joinsTold 53 = .ok (.getfield 117, 3) := by decide +kernel
theorem dX8_joinsTold_56 : decode cX8_joinsTold 56 = .ok (.bipush 9, 2) := by decide +kernel
theorem dX8_joinsTold_58 : decode cX8_joinsTold 58 = .ok (.iload_n 1, 1) := by decide +kernel
theorem dX8_joinsTold_59 : decode cX8_joinsTold 59 = .ok (.imul, 1) := by decide +kernel
theorem dX8_joinsTold_60 : decode cX8_joinsTold 60 = .ok (.iload_n 3, 1) := by decide +kernel
theorem dX8_joinsTold_61 : decode cX8_joinsTold 61 = .ok (.iadd, 1) := by decide +kernel
theorem dX8_joinsTold_62 : decode cX8_joinsTold 62 = .ok (.iconst 1, 1) := by decide +kernel
theorem dX8_joinsTold_63 : decode cX8_joinsTold 63 = .ok (.bastore, 1) := by decide +kernel
theorem dX8_joinsTold_64 : decode cX8_joinsTold 64 = .ok (.aload_n 0, 1) := by decide +kernel
theorem dX8_joinsTold_65 : decode cX8_joinsTold 65 = .ok (.getfield 117, 3) := by decide +kernel
theorem dX8_joinsTold_68 : decode cX8_joinsTold 68 = .ok (.bipush 9, 2) := by decide +kernel
theorem dX8_joinsTold_70 : decode cX8_joinsTold 70 = .ok (.iload_n 3, 1) := by decide +kernel
theorem dX8_joinsTold_71 : decode cX8_joinsTold 71 = .ok (.imul, 1) := by decide +kernel
theorem dX8_joinsTold_72 : decode cX8_joinsTold 72 = .ok (.iload_n 1, 1) := by decide +kernel
theorem dX8_joinsTold_73 : decode cX8_joinsTold 73 = .ok (.iadd, 1) := by decide +kernel
theorem dX8_joinsTold_74 : decode cX8_joinsTold 74 = .ok (.iconst 1, 1) := by decide +kernel
theorem dX8_joinsTold_75 : decode cX8_joinsTold 75 = .ok (.bastore, 1) := by decide +kernel
theorem dX8_joinsTold_76 : decode cX8_joinsTold 76 = .ok (.return_, 1) := by decide +kernel
theorem dX8_statement_0 : decode cX8_statement 0 = .ok (.aload_n 0, 1) := by decide +kernel
theorem dX8_statement_1 : decode cX8_statement 1 = .ok (.getfield 300, 3) := by decide +kernel
theorem dX8_statement_4 : decode cX8_statement 4 = .ok (.bipush 30, 2) := by decide +kernel
theorem dX8_statement_6 : decode cX8_statement 6 = .ok (.if_icmp .ne 13, 3) := by decide +kernel
theorem dX8_statement_9 : decode cX8_statement 9 = .ok (.aload_n 0, 1) := by decide +kernel
theorem dX8_statement_10 : decode cX8_statement 10 = .ok (.iconst 5, 1) := by decide +kernel
theorem dX8_statement_11 : decode cX8_statement 11 = .ok (.aload_n 0, 1) := by decide +kernel
theorem dX8_statement_12 : decode cX8_statement 12 = .ok (.getfield 189, 3) := by decide +kernel
theorem dX8_statement_15 : decode cX8_statement 15 = .ok (.invokevirtual 213, 3) := by decide +kernel
theorem dX8_statement_18 : decode cX8_statement 18 = .ok (.return_, 1) := by decide +kernel
theorem dX8_statement_19 : decode cX8_statement 19 = .ok (.aload_n 0, 1) := by decide +kernel
theorem dX8_statement_20 : decode cX8_statement 20 = .ok (.aload_n 0, 1) := by decide +kernel
theorem dX8_statement_21 : decode cX8_statement 21 = .ok (.getfield 17, 3) := by decide +kernel
theorem dX8_statement_24 : decode cX8_statement 24 = .ok (.invokevirtual 210, 3) := by decide +kernel
theorem dX8_statement_27 : decode cX8_statement 27 = .ok (.ifCond .eq 19, 3) := by decide +kernel
theorem dX8_statement_30 : decode cX8_statement 30 = .ok (.aload_n 0, 1) := by decide +kernel
theorem dX8_statement_31 : decode cX8_statement 31 = .ok (.getfield 84, 3) := by decide +kernel
theorem dX8_statement_34 : decode cX8_statement 34 = .ok (.iconst 0, 1) := by decide +kernel
theorem dX8_statement_35 : decode cX8_statement 35 = .ok (.aload_n 0, 1) := by decide +kernel
theorem dX8_statement_36 : decode cX8_statement 36 = .ok (.iconst 1, 1) := by decide +kernel
theorem dX8_statement_37 : decode cX8_statement 37 = .ok (.bipush 9, 2) := by decide +kernel
theorem dX8_statement_39 : decode cX8_statement 39 = .ok (.invokevirtual 259, 3) := by decide +kernel
theorem dX8_statement_42 : decode cX8_statement 42 = .ok (.iastore, 1) := by decide +kernel
theorem dX8_statement_43 : decode cX8_statement 43 = .ok (.goto 169, 3) := by decide +kernel
theorem dX8_statement_46 : decode cX8_statement 46 = .ok (.aload_n 0, 1) := by decide +kernel
theorem dX8_statement_47 : decode cX8_statement 47 = .ok (.aload_n 0, 1) := by decide +kernel
theorem dX8_statement_48 : decode cX8_statement 48 = .ok (.getfield 21, 3) := by decide +kernel
theorem dX8_statement_51 : decode cX8_statement 51 = .ok (.invokevirtual 210, 3) := by decide +kernel
theorem dX8_statement_54 : decode cX8_statement 54 = .ok (.ifCond .eq 19, 3) := by decide +kernel
theorem dX8_statement_57 : decode cX8_statement 57 = .ok (.aload_n 0, 1) := by decide +kernel
theorem dX8_statement_58 : decode cX8_statement 58 = .ok (.getfield 87, 3) := by decide +kernel
theorem dX8_statement_61 : decode cX8_statement 61 = .ok (.iconst 0, 1) := by decide +kernel
theorem dX8_statement_62 : decode cX8_statement 62 = .ok (.aload_n 0, 1) := by decide +kernel
theorem dX8_statement_63 : decode cX8_statement 63 = .ok (.iconst 1, 1) := by decide +kernel
theorem dX8_statement_64 : decode cX8_statement 64 = .ok (.bipush 8, 2) := by decide +kernel
theorem dX8_statement_66 : decode cX8_statement 66 = .ok (.invokevirtual 259, 3) := by decide +kernel
theorem dX8_statement_69 : decode cX8_statement 69 = .ok (.iastore, 1) := by decide +kernel
theorem dX8_statement_70 : decode cX8_statement 70 = .ok (.goto 142, 3) := by decide +kernel
theorem dX8_statement_73 : decode cX8_statement 73 = .ok (.aload_n 0, 1) := by decide +kernel
theorem dX8_statement_74 : decode cX8_statement 74 = .ok (.aload_n 0, 1) := by decide +kernel
theorem dX8_statement_75 : decode cX8_statement 75 = .ok (.getfield 24, 3) := by decide +kernel
theorem dX8_statement_78 : decode cX8_statement 78 = .ok (.invokevirtual 210, 3) := by decide +kernel
theorem dX8_statement_81 : decode cX8_statement 81 = .ok (.ifCond .eq 18, 3) := by decide +kernel
theorem dX8_statement_84 : decode cX8_statement 84 = .ok (.aload_n 0, 1) := by decide +kernel
theorem dX8_statement_85 : decode cX8_statement 85 = .ok (.getfield 90, 3) := by decide +kernel
theorem dX8_statement_88 : decode cX8_statement 88 = .ok (.iconst 0, 1) := by decide +kernel
theorem dX8_statement_89 : decode cX8_statement 89 = .ok (.aload_n 0, 1) := by decide +kernel
theorem dX8_statement_90 : decode cX8_statement 90 = .ok (.iconst 1, 1) := by decide +kernel
theorem dX8_statement_91 : decode cX8_statement 91 = .ok (.iconst 3, 1) := by decide +kernel
theorem dX8_statement_92 : decode cX8_statement 92 = .ok (.invokevirtual 259, 3) := by decide +kernel
theorem dX8_statement_95 : decode cX8_statement 95 = .ok (.iastore, 1) := by decide +kernel
theorem dX8_statement_96 : decode cX8_statement 96 = .ok (.goto 116, 3) := by decide +kernel
theorem dX8_statement_99 : decode cX8_statement 99 = .ok (.aload_n 0, 1) := by decide +kernel
theorem dX8_statement_100 : decode cX8_statement 100 = .ok (.aload_n 0, 1) := by decide +kernel
theorem dX8_statement_101 : decode cX8_statement 101 = .ok (.getfield 27, 3) := by decide +kernel
theorem dX8_statement_104 : decode cX8_statement 104 = .ok (.invokevirtual 210, 3) := by decide +kernel
theorem dX8_statement_107 : decode cX8_statement 107 = .ok (.ifCond .eq 10, 3) := by decide +kernel
theorem dX8_statement_110 : decode cX8_statement 110 = .ok (.aload_n 0, 1) := by decide +kernel
theorem dX8_statement_111 : decode cX8_statement 111 = .ok (.invokevirtual 303, 3) := by decide +kernel
theorem dX8_statement_114 : decode cX8_statement 114 = .ok (.goto 98, 3) := by decide +kernel
theorem dX8_statement_117 : decode cX8_statement 117 = .ok (.aload_n 0, 1) := by decide +kernel
theorem dX8_statement_118 : decode cX8_statement 118 = .ok (.aload_n 0, 1) := by decide +kernel
theorem dX8_statement_119 : decode cX8_statement 119 = .ok (.getfield 33, 3) := by decide +kernel
theorem dX8_statement_122 : decode cX8_statement 122 = .ok (.invokevirtual 210, 3) := by decide +kernel
theorem dX8_statement_125 : decode cX8_statement 125 = .ok (.ifCond .eq 19, 3) := by decide +kernel
theorem dX8_statement_128 : decode cX8_statement 128 = .ok (.aload_n 0, 1) := by decide +kernel
theorem dX8_statement_129 : decode cX8_statement 129 = .ok (.getfield 93, 3) := by decide +kernel
theorem dX8_statement_132 : decode cX8_statement 132 = .ok (.iconst 0, 1) := by decide +kernel
theorem dX8_statement_133 : decode cX8_statement 133 = .ok (.aload_n 0, 1) := by decide +kernel
theorem dX8_statement_134 : decode cX8_statement 134 = .ok (.iconst 0, 1) := by decide +kernel
theorem dX8_statement_135 : decode cX8_statement 135 = .ok (.bipush 10, 2) := by decide +kernel
theorem dX8_statement_137 : decode cX8_statement 137 = .ok (.invokevirtual 259, 3) := by decide +kernel
theorem dX8_statement_140 : decode cX8_statement 140 = .ok (.iastore, 1) := by decide +kernel
theorem dX8_statement_141 : decode cX8_statement 141 = .ok (.goto 71, 3) := by decide +kernel
theorem dX8_statement_144 : decode cX8_statement 144 = .ok (.aload_n 0, 1) := by decide +kernel
theorem dX8_statement_145 : decode cX8_statement 145 = .ok (.aload_n 0, 1) := by decide +kernel
theorem dX8_statement_146 : decode cX8_statement 146 = .ok (.getfield 36, 3) := by decide +kernel
theorem dX8_statement_149 : decode cX8_statement 149 = .ok (.invokevirtual 210, 3) := by decide +kernel
theorem dX8_statement_152 : decode cX8_statement 152 = .ok (.ifCond .eq 10, 3) := by decide +kernel
theorem dX8_statement_155 : decode cX8_statement 155 = .ok (.aload_n 0, 1) := by decide +kernel
theorem dX8_statement_156 : decode cX8_statement 156 = .ok (.invokevirtual 306, 3) := by decide +kernel
theorem dX8_statement_159 : decode cX8_statement 159 = .ok (.goto 53, 3) := by decide +kernel
theorem dX8_statement_162 : decode cX8_statement 162 = .ok (.aload_n 0, 1) := by decide +kernel
theorem dX8_statement_163 : decode cX8_statement 163 = .ok (.aload_n 0, 1) := by decide +kernel
theorem dX8_statement_164 : decode cX8_statement 164 = .ok (.getfield 42, 3) := by decide +kernel
theorem dX8_statement_167 : decode cX8_statement 167 = .ok (.invokevirtual 210, 3) := by decide +kernel
theorem dX8_statement_170 : decode cX8_statement 170 = .ok (.ifCond .eq 30, 3) := by decide +kernel
theorem dX8_statement_173 : decode cX8_statement 173 = .ok (.aload_n 0, 1) := by decide +kernel
theorem dX8_statement_174 : decode cX8_statement 174 = .ok (.getfield 111, 3) := by decide +kernel
theorem dX8_statement_177 : decode cX8_statement 177 = .ok (.iconst 0, 1) := by decide +kernel
theorem dX8_statement_178 : decode cX8_statement 178 = .ok (.aload_n 0, 1) := by decide +kernel
theorem dX8_statement_179 : decode cX8_statement 179 = .ok (.getfield 227, 3) := by decide +kernel
theorem dX8_statement_182 : decode cX8_statement 182 = .ok (.iastore, 1) := by decide +kernel
theorem dX8_statement_183 : decode cX8_statement 183 = .ok (.aload_n 0, 1) := by decide +kernel
theorem dX8_statement_184 : decode cX8_statement 184 = .ok (.invokevirtual 294, 3) := by decide +kernel
theorem dX8_statement_187 : decode cX8_statement 187 = .ok (.aload_n 0, 1) := by decide +kernel
theorem dX8_statement_188 : decode cX8_statement 188 = .ok (.getfield 114, 3) := by decide +kernel
theorem dX8_statement_191 : decode cX8_statement 191 = .ok (.iconst 0, 1) := by decide +kernel
theorem dX8_statement_192 : decode cX8_statement 192 = .ok (.aload_n 0, 1) := by decide +kernel
theorem dX8_statement_193 : decode cX8_statement 193 = .ok (.getfield 227, 3) := by decide +kernel
theorem dX8_statement_196 : decode cX8_statement 196 = .ok (.iastore, 1) := by decide +kernel
theorem dX8_statement_197 : decode cX8_statement 197 = .ok (.goto 15, 3) := by decide +kernel
theorem dX8_statement_200 : decode cX8_statement 200 = .ok (.aload_n 0, 1) := by decide +kernel
theorem dX8_statement_201 : decode cX8_statement 201 = .ok (.aload_n 0, 1) := by decide +kernel
theorem dX8_statement_202 : decode cX8_statement 202 = .ok (.getfield 45, 3) := by decide +kernel
theorem dX8_statement_205 : decode cX8_statement 205 = .ok (.invokevirtual 252, 3) := by decide +kernel
theorem dX8_statement_208 : decode cX8_statement 208 = .ok (.aload_n 0, 1) := by decide +kernel
theorem dX8_statement_209 : decode cX8_statement 209 = .ok (.invokevirtual 309, 3) := by decide +kernel
theorem dX8_statement_212 : decode cX8_statement 212 = .ok (.aload_n 0, 1) := by decide +kernel
theorem dX8_statement_213 : decode cX8_statement 213 = .ok (.bipush 59, 2) := by decide +kernel
theorem dX8_statement_215 : decode cX8_statement 215 = .ok (.invokevirtual 256, 3) := by decide +kernel
theorem dX8_statement_218 : decode cX8_statement 218 = .ok (.aload_n 0, 1) := by decide +kernel
theorem dX8_statement_219 : decode cX8_statement 219 = .ok (.dup, 1) := by decide +kernel
theorem dX8_statement_220 : decode cX8_statement 220 = .ok (.getfield 300, 3) := by decide +kernel
theorem dX8_statement_223 : decode cX8_statement 223 = .ok (.iconst 1, 1) := by decide +kernel
theorem dX8_statement_224 : decode cX8_statement 224 = .ok (.iadd, 1) := by decide +kernel
theorem dX8_statement_225 : decode cX8_statement 225 = .ok (.putfield 300, 3) := by decide +kernel
theorem dX8_statement_228 : decode cX8_statement 228 = .ok (.return_, 1) := by decide +kernel
theorem dX8_forgets_0 : decode cX8_forgets 0 = .ok (.aload_n 0, 1) := by decide +kernel
theorem dX8_forgets_1 : decode cX8_forgets 1 = .ok (.getfield 84, 3) := by decide +kernel
theorem dX8_forgets_4 : decode cX8_forgets 4 = .ok (.iconst 0, 1) := by decide +kernel
theorem dX8_forgets_5 : decode cX8_forgets 5 = .ok (.bipush 9, 2) := by decide +kernel
theorem dX8_forgets_7 : decode cX8_forgets 7 = .ok (.iastore, 1) := by decide +kernel
theorem dX8_forgets_8 : decode cX8_forgets 8 = .ok (.aload_n 0, 1) := by decide +kernel
theorem dX8_forgets_9 : decode cX8_forgets 9 = .ok (.getfield 87, 3) := by decide +kernel
theorem dX8_forgets_12 : decode cX8_forgets 12 = .ok (.iconst 0, 1) := by decide +kernel
theorem dX8_forgets_13 : decode cX8_forgets 13 = .ok (.bipush 6, 2) := by decide +kernel
theorem dX8_forgets_15 : decode cX8_forgets 15 = .ok (.iastore, 1) := by decide +kernel
theorem dX8_forgets_16 : decode cX8_forgets 16 = .ok (.aload_n 0, 1) := by decide +kernel
theorem dX8_forgets_17 : decode cX8_forgets 17 = .ok (.getfield 90, 3) := by decide +kernel
theorem dX8_forgets_20 : decode cX8_forgets 20 = .ok (.iconst 0, 1) := by decide +kernel
theorem dX8_forgets_21 : decode cX8_forgets 21 = .ok (.iconst 2, 1) := by decide +kernel
theorem dX8_forgets_22 : decode cX8_forgets 22 = .ok (.iastore, 1) := by decide +kernel
theorem dX8_forgets_23 : decode cX8_forgets 23 = .ok (.aload_n 0, 1) := by decide +kernel
theorem dX8_forgets_24 : decode cX8_forgets 24 = .ok (.getfield 93, 3) := by decide +kernel
theorem dX8_forgets_27 : decode cX8_forgets 27 = .ok (.iconst 0, 1) := by decide +kernel
theorem dX8_forgets_28 : decode cX8_forgets 28 = .ok (.iconst 0, 1) := by decide +kernel
theorem dX8_forgets_29 : decode cX8_forgets 29 = .ok (.iastore, 1) := by decide +kernel
theorem dX8_forgets_30 : decode cX8_forgets 30 = .ok (.aload_n 0, 1) := by decide +kernel
theorem dX8_forgets_31 : decode cX8_forgets 31 = .ok (.getfield 99, 3) := by decide +kernel
theorem dX8_forgets_34 : decode cX8_forgets 34 = .ok (.iconst 0, 1) := by decide +kernel
theorem dX8_forgets_35 : decode cX8_forgets 35 = .ok (.iconst 0, 1) := by decide +kernel
theorem dX8_forgets_36 : decode cX8_forgets 36 = .ok (.iastore, 1) := by decide +kernel
theorem dX8_forgets_37 : decode cX8_forgets 37 = .ok (.aload_n 0, 1) := by decide +kernel
theorem dX8_forgets_38 : decode cX8_forgets 38 = .ok (.getfield 111, 3) := by decide +kernel
theorem dX8_forgets_41 : decode cX8_forgets 41 = .ok (.iconst 0, 1) := by decide +kernel
theorem dX8_forgets_42 : decode cX8_forgets 42 = .ok (.iconst 0, 1) := by decide +kernel
theorem dX8_forgets_43 : decode cX8_forgets 43 = .ok (.iastore, 1) := by decide +kernel
theorem dX8_forgets_44 : decode cX8_forgets 44 = .ok (.aload_n 0, 1) := by decide +kernel
theorem dX8_forgets_45 : decode cX8_forgets 45 = .ok (.getfield 114, 3) := by decide +kernel
theorem dX8_forgets_48 : decode cX8_forgets 48 = .ok (.iconst 0, 1) := by decide +kernel
theorem dX8_forgets_49 : decode cX8_forgets 49 = .ok (.iconst 0, 1) := by decide +kernel
theorem dX8_forgets_50 : decode cX8_forgets 50 = .ok (.iastore, 1) := by decide +kernel
theorem dX8_forgets_51 : decode cX8_forgets 51 = .ok (.iconst 0, 1) := by decide +kernel
theorem dX8_forgets_52 : decode cX8_forgets 52 = .ok (.istore_n 1, 1) := by decide +kernel
theorem dX8_forgets_53 : decode cX8_forgets 53 = .ok (.iload_n 1, 1) := by decide +kernel
theorem dX8_forgets_54 : decode cX8_forgets 54 = .ok (.iconst 4, 1) := by decide +kernel
theorem dX8_forgets_55 : decode cX8_forgets 55 = .ok (.if_icmp .ge 16, 3) := by decide +kernel
theorem dX8_forgets_58 : decode cX8_forgets 58 = .ok (.aload_n 0, 1) := by decide +kernel
theorem dX8_forgets_59 : decode cX8_forgets 59 = .ok (.getfield 96, 3) := by decide +kernel
theorem dX8_forgets_62 : decode cX8_forgets 62 = .ok (.iload_n 1, 1) := by decide +kernel
theorem dX8_forgets_63 : decode cX8_forgets 63 = .ok (.iconst 0, 1) := by decide +kernel
theorem dX8_forgets_64 : decode cX8_forgets 64 = .ok (.iastore, 1) := by decide +kernel
theorem dX8_forgets_65 : decode cX8_forgets 65 = .ok (.iinc 1 1, 3) := by decide +kernel
theorem dX8_forgets_68 : decode cX8_forgets 68 = .ok (.goto (-15), 3) := by decide +kernel
theorem dX8_forgets_71 : decode cX8_forgets 71 = .ok (.iconst 0, 1) := by decide +kernel
theorem dX8_forgets_72 : decode cX8_forgets 72 = .ok (.istore_n 1, 1) := by decide +kernel
theorem dX8_forgets_73 : decode cX8_forgets 73 = .ok (.iload_n 1, 1) := by decide +kernel
theorem dX8_forgets_74 : decode cX8_forgets 74 = .ok (.bipush 81, 2) := by decide +kernel
theorem dX8_forgets_76 : decode cX8_forgets 76 = .ok (.if_icmp .ge 16, 3) := by decide +kernel
theorem dX8_forgets_79 : decode cX8_forgets 79 = .ok (.aload_n 0, 1) := by decide +kernel
theorem dX8_forgets_80 : decode cX8_forgets 80 = .ok (.getfield 117, 3) := by decide +kernel
theorem dX8_forgets_83 : decode cX8_forgets 83 = .ok (.iload_n 1, 1) := by decide +kernel
theorem dX8_forgets_84 : decode cX8_forgets 84 = .ok (.iconst 0, 1) := by decide +kernel
theorem dX8_forgets_85 : decode cX8_forgets 85 = .ok (.bastore, 1) := by decide +kernel
theorem dX8_forgets_86 : decode cX8_forgets 86 = .ok (.iinc 1 1, 3) := by decide +kernel
theorem dX8_forgets_89 : decode cX8_forgets 89 = .ok (.goto (-16), 3) := by decide +kernel
theorem dX8_forgets_92 : decode cX8_forgets 92 = .ok (.aload_n 0, 1) := by decide +kernel
theorem dX8_forgets_93 : decode cX8_forgets 93 = .ok (.iconst 0, 1) := by decide +kernel
theorem dX8_forgets_94 : decode cX8_forgets 94 = .ok (.putfield 227, 3) := by decide +kernel
theorem dX8_forgets_97 : decode cX8_forgets 97 = .ok (.aload_n 0, 1) := by decide +kernel
theorem dX8_forgets_98 : decode cX8_forgets 98 = .ok (.iconst 0, 1) := by decide +kernel
theorem dX8_forgets_99 : decode cX8_forgets 99 = .ok (.putfield 300, 3) := by decide +kernel
theorem dX8_forgets_102 : decode cX8_forgets 102 = .ok (.return_, 1) := by decide +kernel
theorem dX8_game_0 : decode cX8_game 0 = .ok (.aload_n 0, 1) := by decide +kernel
theorem dX8_game_1 : decode cX8_game 1 = .ok (.aload_n 0, 1) := by decide +kernel
theorem dX8_game_2 : decode cX8_game 2 = .ok (.getfield 180, 3) := by decide +kernel
theorem dX8_game_5 : decode cX8_game 5 = .ok (.putfield 192, 3) := by decide +kernel
theorem dX8_game_8 : decode cX8_game 8 = .ok (.aload_n 0, 1) := by decide +kernel
theorem dX8_game_9 : decode cX8_game 9 = .ok (.iconst 0, 1) := by decide +kernel
theorem dX8_game_10 : decode cX8_game 10 = .ok (.putfield 180, 3) := by decide +kernel
theorem dX8_game_13 : decode cX8_game 13 = .ok (.aload_n 0, 1) := by decide +kernel
theorem dX8_game_14 : decode cX8_game 14 = .ok (.iconst 0, 1) := by decide +kernel
theorem dX8_game_15 : decode cX8_game 15 = .ok (.putfield 189, 3) := by decide +kernel
theorem dX8_game_18 : decode cX8_game 18 = .ok (.aload_n 0, 1) := by decide +kernel
theorem dX8_game_19 : decode cX8_game 19 = .ok (.iconst (-1), 1) := by decide +kernel
theorem dX8_game_20 : decode cX8_game 20 = .ok (.putfield 203, 3) := by decide +kernel
theorem dX8_game_23 : decode cX8_game 23 = .ok (.aload_n 0, 1) := by decide +kernel
theorem dX8_game_24 : decode cX8_game 24 = .ok (.iconst 0, 1) := by decide +kernel
theorem dX8_game_25 : decode cX8_game 25 = .ok (.putfield 183, 3) := by decide +kernel
theorem dX8_game_28 : decode cX8_game 28 = .ok (.aload_n 0, 1) := by decide +kernel
theorem dX8_game_29 : decode cX8_game 29 = .ok (.iconst (-1), 1) := by decide +kernel
theorem dX8_game_30 : decode cX8_game 30 = .ok (.putfield 186, 3) := by decide +kernel
theorem dX8_game_33 : decode cX8_game 33 = .ok (.aload_n 0, 1) := by decide +kernel
theorem dX8_game_34 : decode cX8_game 34 = .ok (.invokevirtual 312, 3) := by decide +kernel
theorem dX8_game_37 : decode cX8_game 37 = .ok (.aload_n 0, 1) := by decide +kernel
theorem dX8_game_38 : decode cX8_game 38 = .ok (.getfield 183, 3) := by decide +kernel
theorem dX8_game_41 : decode cX8_game 41 = .ok (.ifCond .ne 18, 3) := by decide +kernel
theorem dX8_game_44 : decode cX8_game 44 = .ok (.aload_n 0, 1) := by decide +kernel
theorem dX8_game_45 : decode cX8_game 45 = .ok (.invokevirtual 195, 3) := by decide +kernel
theorem dX8_game_48 : decode cX8_game 48 = .ok (.iconst (-1), 1) := by decide +kernel
theorem dX8_game_49 : decode cX8_game 49 = .ok (.if_icmp .eq 10, 3) := by decide +kernel
theorem dX8_game_52 : decode cX8_game 52 = .ok (.aload_n 0, 1) := by decide +kernel
theorem dX8_game_53 : decode cX8_game 53 = .ok (.invokevirtual 315, 3) := by decide +kernel
theorem dX8_game_56 : decode cX8_game 56 = .ok (.goto (-19), 3) := by decide +kernel
theorem dX8_game_59 : decode cX8_game 59 = .ok (.aload_n 0, 1) := by decide +kernel
theorem dX8_game_60 : decode cX8_game 60 = .ok (.aload_n 0, 1) := by decide +kernel
theorem dX8_game_61 : decode cX8_game 61 = .ok (.getfield 183, 3) := by decide +kernel
theorem dX8_game_64 : decode cX8_game 64 = .ok (.putfield 318, 3) := by decide +kernel
theorem dX8_game_67 : decode cX8_game 67 = .ok (.aload_n 0, 1) := by decide +kernel
theorem dX8_game_68 : decode cX8_game 68 = .ok (.aload_n 0, 1) := by decide +kernel
theorem dX8_game_69 : decode cX8_game 69 = .ok (.getfield 186, 3) := by decide +kernel
theorem dX8_game_72 : decode cX8_game 72 = .ok (.putfield 13, 3) := by decide +kernel
theorem dX8_game_75 : decode cX8_game 75 = .ok (.aload_n 0, 1) := by decide +kernel
theorem dX8_game_76 : decode cX8_game 76 = .ok (.getfield 183, 3) := by decide +kernel
theorem dX8_game_79 : decode cX8_game 79 = .ok (.ifCond .eq 5, 3) := by decide +kernel
theorem dX8_game_82 : decode cX8_game 82 = .ok (.iconst (-1), 1) := by decide +kernel
theorem dX8_game_83 : decode cX8_game 83 = .ok (.ireturn, 1) := by decide +kernel
theorem dX8_game_84 : decode cX8_game 84 = .ok (.aload_n 0, 1) := by decide +kernel
theorem dX8_game_85 : decode cX8_game 85 = .ok (.invokevirtual 321, 3) := by decide +kernel
theorem dX8_game_88 : decode cX8_game 88 = .ok (.aload_n 0, 1) := by decide +kernel
theorem dX8_game_89 : decode cX8_game 89 = .ok (.iconst 0, 1) := by decide +kernel
theorem dX8_game_90 : decode cX8_game 90 = .ok (.putfield 324, 3) := by decide +kernel
theorem dX8_game_93 : decode cX8_game 93 = .ok (.aload_n 0, 1) := by decide +kernel
theorem dX8_game_94 : decode cX8_game 94 = .ok (.iconst 0, 1) := by decide +kernel
theorem dX8_game_95 : decode cX8_game 95 = .ok (.putfield 327, 3) := by decide +kernel
theorem dX8_game_98 : decode cX8_game 98 = .ok (.iconst 0, 1) := by decide +kernel
theorem dX8_game_99 : decode cX8_game 99 = .ok (.istore_n 1, 1) := by decide +kernel
theorem dX8_game_100 : decode cX8_game 100 = .ok (.iload_n 1, 1) := by decide +kernel
theorem dX8_game_101 : decode cX8_game 101 = .ok (.bipush 6, 2) := by decide +kernel
theorem dX8_game_103 : decode cX8_game 103 = .ok (.if_icmp .ge 16, 3) := by decide +kernel
theorem dX8_game_106 : decode cX8_game 106 = .ok (.aload_n 0, 1) := by decide +kernel
theorem dX8_game_107 : decode cX8_game 107 = .ok (.getfield 168, 3) := by decide +kernel
theorem dX8_game_110 : decode cX8_game 110 = .ok (.iload_n 1, 1) := by decide +kernel
theorem dX8_game_111 : decode cX8_game 111 = .ok (.iconst 0, 1) := by decide +kernel
theorem dX8_game_112 : decode cX8_game 112 = .ok (.iastore, 1) := by decide +kernel
theorem dX8_game_113 : decode cX8_game 113 = .ok (.iinc 1 1, 3) := by decide +kernel
theorem dX8_game_116 : decode cX8_game 116 = .ok (.goto (-16), 3) := by decide +kernel
theorem dX8_game_119 : decode cX8_game 119 = .ok (.aload_n 0, 1) := by decide +kernel
theorem dX8_game_120 : decode cX8_game 120 = .ok (.iconst 0, 1) := by decide +kernel
theorem dX8_game_121 : decode cX8_game 121 = .ok (.putfield 330, 3) := by decide +kernel
theorem dX8_game_124 : decode cX8_game 124 = .ok (.aload_n 0, 1) := by decide +kernel
theorem dX8_game_125 : decode cX8_game 125 = .ok (.iconst 0, 1) := by decide +kernel
theorem dX8_game_126 : decode cX8_game 126 = .ok (.putfield 334, 3) := by decide +kernel
theorem dX8_game_129 : decode cX8_game 129 = .ok (.aload_n 0, 1) := by decide +kernel
theorem dX8_game_130 : decode cX8_game 130 = .ok (.getfield 300, 3) := by decide +kernel
theorem dX8_game_133 : decode cX8_game 133 = .ok (.ireturn, 1) := by decide +kernel
theorem dX8_stands_0 : decode cX8_stands 0 = .ok (.aload_n 0, 1) := by decide +kernel
theorem dX8_stands_1 : decode cX8_stands 1 = .ok (.getfield 84, 3) := by decide +kernel
theorem dX8_stands_4 : decode cX8_stands 4 = .ok (.iconst 1, 1) := by decide +kernel
theorem dX8_stands_5 : decode cX8_stands 5 = .ok (.aload_n 0, 1) := by decide +kernel
theorem dX8_stands_6 : decode cX8_stands 6 = .ok (.getfield 84, 3) := by decide +kernel
theorem dX8_stands_9 : decode cX8_stands 9 = .ok (.iconst 0, 1) := by decide +kernel
theorem dX8_stands_10 : decode cX8_stands 10 = .ok (.iaload, 1) := by decide +kernel
theorem dX8_stands_11 : decode cX8_stands 11 = .ok (.iastore, 1) := by decide +kernel
theorem dX8_stands_12 : decode cX8_stands 12 = .ok (.aload_n 0, 1) := by decide +kernel
theorem dX8_stands_13 : decode cX8_stands 13 = .ok (.getfield 87, 3) := by decide +kernel
theorem dX8_stands_16 : decode cX8_stands 16 = .ok (.iconst 1, 1) := by decide +kernel
theorem dX8_stands_17 : decode cX8_stands 17 = .ok (.aload_n 0, 1) := by decide +kernel
theorem dX8_stands_18 : decode cX8_stands 18 = .ok (.getfield 87, 3) := by decide +kernel
theorem dX8_stands_21 : decode cX8_stands 21 = .ok (.iconst 0, 1) := by decide +kernel
theorem dX8_stands_22 : decode cX8_stands 22 = .ok (.iaload, 1) := by decide +kernel
theorem dX8_stands_23 : decode cX8_stands 23 = .ok (.iastore, 1) := by decide +kernel
theorem dX8_stands_24 : decode cX8_stands 24 = .ok (.aload_n 0, 1) := by decide +kernel
theorem dX8_stands_25 : decode cX8_stands 25 = .ok (.getfield 90, 3) := by decide +kernel
theorem dX8_stands_28 : decode cX8_stands 28 = .ok (.iconst 1, 1) := by decide +kernel
theorem dX8_stands_29 : decode cX8_stands 29 = .ok (.aload_n 0, 1) := by decide +kernel
theorem dX8_stands_30 : decode cX8_stands 30 = .ok (.getfield 90, 3) := by decide +kernel
theorem dX8_stands_33 : decode cX8_stands 33 = .ok (.iconst 0, 1) := by decide +kernel
theorem dX8_stands_34 : decode cX8_stands 34 = .ok (.iaload, 1) := by decide +kernel
theorem dX8_stands_35 : decode cX8_stands 35 = .ok (.iastore, 1) := by decide +kernel
theorem dX8_stands_36 : decode cX8_stands 36 = .ok (.aload_n 0, 1) := by decide +kernel
theorem dX8_stands_37 : decode cX8_stands 37 = .ok (.getfield 93, 3) := by decide +kernel
theorem dX8_stands_40 : decode cX8_stands 40 = .ok (.iconst 1, 1) := by decide +kernel
theorem dX8_stands_41 : decode cX8_stands 41 = .ok (.aload_n 0, 1) := by decide +kernel
theorem dX8_stands_42 : decode cX8_stands 42 = .ok (.getfield 93, 3) := by decide +kernel
theorem dX8_stands_45 : decode cX8_stands 45 = .ok (.iconst 0, 1) := by decide +kernel
theorem dX8_stands_46 : decode cX8_stands 46 = .ok (.iaload, 1) := by decide +kernel
theorem dX8_stands_47 : decode cX8_stands 47 = .ok (.iastore, 1) := by decide +kernel
theorem dX8_stands_48 : decode cX8_stands 48 = .ok (.aload_n 0, 1) := by decide +kernel
theorem dX8_stands_49 : decode cX8_stands 49 = .ok (.getfield 99, 3) := by decide +kernel
theorem dX8_stands_52 : decode cX8_stands 52 = .ok (.iconst 1, 1) := by decide +kernel
theorem dX8_stands_53 : decode cX8_stands 53 = .ok (.aload_n 0, 1) := by decide +kernel
theorem dX8_stands_54 : decode cX8_stands 54 = .ok (.getfield 99, 3) := by decide +kernel
theorem dX8_stands_57 : decode cX8_stands 57 = .ok (.iconst 0, 1) := by decide +kernel
theorem dX8_stands_58 : decode cX8_stands 58 = .ok (.iaload, 1) := by decide +kernel
theorem dX8_stands_59 : decode cX8_stands 59 = .ok (.iastore, 1) := by decide +kernel
theorem dX8_stands_60 : decode cX8_stands 60 = .ok (.aload_n 0, 1) := by decide +kernel
theorem dX8_stands_61 : decode cX8_stands 61 = .ok (.getfield 111, 3) := by decide +kernel
theorem dX8_stands_64 : decode cX8_stands 64 = .ok (.iconst 1, 1) := by decide +kernel
theorem dX8_stands_65 : decode cX8_stands 65 = .ok (.aload_n 0, 1) := by decide +kernel
theorem dX8_stands_66 : decode cX8_stands 66 = .ok (.getfield 111, 3) := by decide +kernel
theorem dX8_stands_69 : decode cX8_stands 69 = .ok (.iconst 0, 1) := by decide +kernel
theorem dX8_stands_70 : decode cX8_stands 70 = .ok (.iaload, 1) := by decide +kernel
theorem dX8_stands_71 : decode cX8_stands 71 = .ok (.iastore, 1) := by decide +kernel
theorem dX8_stands_72 : decode cX8_stands 72 = .ok (.aload_n 0, 1) := by decide +kernel
theorem dX8_stands_73 : decode cX8_stands 73 = .ok (.getfield 114, 3) := by decide +kernel
theorem dX8_stands_76 : decode cX8_stands 76 = .ok (.iconst 1, 1) := by decide +kernel
theorem dX8_stands_77 : decode cX8_stands 77 = .ok (.aload_n 0, 1) := by decide +kernel
theorem dX8_stands_78 : decode cX8_stands 78 = .ok (.getfield 114, 3) := by decide +kernel
theorem dX8_stands_81 : decode cX8_stands 81 = .ok (.iconst 0, 1) := by decide +kernel
theorem dX8_stands_82 : decode cX8_stands 82 = .ok (.iaload, 1) := by decide +kernel
theorem dX8_stands_83 : decode cX8_stands 83 = .ok (.iastore, 1) := by decide +kernel
theorem dX8_stands_84 : decode cX8_stands 84 = .ok (.iconst 0, 1) := by decide +kernel
theorem dX8_stands_85 : decode cX8_stands 85 = .ok (.istore_n 1, 1) := by decide +kernel
theorem dX8_stands_86 : decode cX8_stands 86 = .ok (.iload_n 1, 1) := by decide +kernel
theorem dX8_stands_87 : decode cX8_stands 87 = .ok (.iconst 4, 1) := by decide +kernel
theorem dX8_stands_88 : decode cX8_stands 88 = .ok (.if_icmp .ge 23, 3) := by decide +kernel
theorem dX8_stands_91 : decode cX8_stands 91 = .ok (.aload_n 0, 1) := by decide +kernel
theorem dX8_stands_92 : decode cX8_stands 92 = .ok (.getfield 96, 3) := by decide +kernel
theorem dX8_stands_95 : decode cX8_stands 95 = .ok (.iconst 4, 1) := by decide +kernel
theorem dX8_stands_96 : decode cX8_stands 96 = .ok (.iload_n 1, 1) := by decide +kernel
theorem dX8_stands_97 : decode cX8_stands 97 = .ok (.iadd, 1) := by decide +kernel
theorem dX8_stands_98 : decode cX8_stands 98 = .ok (.aload_n 0, 1) := by decide +kernel
theorem dX8_stands_99 : decode cX8_stands 99 = .ok (.getfield 96, 3) := by decide +kernel
theorem dX8_stands_102 : decode cX8_stands 102 = .ok (.iload_n 1, 1) := by decide +kernel
theorem dX8_stands_103 : decode cX8_stands 103 = .ok (.iaload, 1) := by decide +kernel
theorem dX8_stands_104 : decode cX8_stands 104 = .ok (.iastore, 1) := by decide +kernel
theorem dX8_stands_105 : decode cX8_stands 105 = .ok (.iinc 1 1, 3) := by decide +kernel
theorem dX8_stands_108 : decode cX8_stands 108 = .ok (.goto (-22), 3) := by decide +kernel
theorem dX8_stands_111 : decode cX8_stands 111 = .ok (.iconst 0, 1) := by decide +kernel
theorem dX8_stands_112 : decode cX8_stands 112 = .ok (.istore_n 1, 1) := by decide +kernel
theorem dX8_stands_113 : decode cX8_stands 113 = .ok (.iload_n 1, 1) := by decide +kernel
theorem dX8_stands_114 : decode cX8_stands 114 = .ok (.bipush 81, 2) := by decide +kernel
theorem dX8_stands_116 : decode cX8_stands 116 = .ok (.if_icmp .ge 24, 3) := by decide +kernel
theorem dX8_stands_119 : decode cX8_stands 119 = .ok (.aload_n 0, 1) := by decide +kernel
theorem dX8_stands_120 : decode cX8_stands 120 = .ok (.getfield 117, 3) := by decide +kernel
theorem dX8_stands_123 : decode cX8_stands 123 = .ok (.bipush 81, 2) := by decide +kernel
theorem dX8_stands_125 : decode cX8_stands 125 = .ok (.iload_n 1, 1) := by decide +kernel
theorem dX8_stands_126 : decode cX8_stands 126 = .ok (.iadd, 1) := by decide +kernel
theorem dX8_stands_127 : decode cX8_stands 127 = .ok (.aload_n 0, 1) := by decide +kernel
theorem dX8_stands_128 : decode cX8_stands 128 = .ok (.getfield 117, 3) := by decide +kernel
theorem dX8_stands_131 : decode cX8_stands 131 = .ok (.iload_n 1, 1) := by decide +kernel
theorem dX8_stands_132 : decode cX8_stands 132 = .ok (.baload, 1) := by decide +kernel
theorem dX8_stands_133 : decode cX8_stands 133 = .ok (.bastore, 1) := by decide +kernel
theorem dX8_stands_134 : decode cX8_stands 134 = .ok (.iinc 1 1, 3) := by decide +kernel
theorem dX8_stands_137 : decode cX8_stands 137 = .ok (.goto (-24), 3) := by decide +kernel
theorem dX8_stands_140 : decode cX8_stands 140 = .ok (.iconst 0, 1) := by decide +kernel
theorem dX8_stands_141 : decode cX8_stands 141 = .ok (.istore_n 1, 1) := by decide +kernel
theorem dX8_stands_142 : decode cX8_stands 142 = .ok (.iload_n 1, 1) := by decide +kernel
theorem dX8_stands_143 : decode cX8_stands 143 = .ok (.bipush 30, 2) := by decide +kernel
theorem dX8_stands_145 : decode cX8_stands 145 = .ok (.if_icmp .ge 54, 3) := by decide +kernel
theorem dX8_stands_148 : decode cX8_stands 148 = .ok (.aload_n 0, 1) := by decide +kernel
theorem dX8_stands_149 : decode cX8_stands 149 = .ok (.getfield 102, 3) := by decide +kernel
theorem dX8_stands_152 : decode cX8_stands 152 = .ok (.bipush 30, 2) := by decide +kernel
theorem dX8_stands_154 : decode cX8_stands 154 = .ok (.iload_n 1, 1) := by decide +kernel
theorem dX8_stands_155 : decode cX8_stands 155 = .ok (.iadd, 1) := by decide +kernel
theorem dX8_stands_156 : decode cX8_stands 156 = .ok (.aload_n 0, 1) := by decide +kernel
theorem dX8_stands_157 : decode cX8_stands 157 = .ok (.getfield 102, 3) := by decide +kernel
theorem dX8_stands_160 : decode cX8_stands 160 = .ok (.iload_n 1, 1) := by decide +kernel
theorem dX8_stands_161 : decode cX8_stands 161 = .ok (.iaload, 1) := by decide +kernel
theorem dX8_stands_162 : decode cX8_stands 162 = .ok (.iastore, 1) := by decide +kernel
theorem dX8_stands_163 : decode cX8_stands 163 = .ok (.aload_n 0, 1) := by decide +kernel
theorem dX8_stands_164 : decode cX8_stands 164 = .ok (.getfield 105, 3) := by decide +kernel
theorem dX8_stands_167 : decode cX8_stands 167 = .ok (.bipush 30, 2) := by decide +kernel
theorem dX8_stands_169 : decode cX8_stands 169 = .ok (.iload_n 1, 1) := by decide +kernel
theorem dX8_stands_170 : decode cX8_stands 170 = .ok (.iadd, 1) := by decide +kernel
theorem dX8_stands_171 : decode cX8_stands 171 = .ok (.aload_n 0, 1) := by decide +kernel
theorem dX8_stands_172 : decode cX8_stands 172 = .ok (.getfield 105, 3) := by decide +kernel
theorem dX8_stands_175 : decode cX8_stands 175 = .ok (.iload_n 1, 1) := by decide +kernel
theorem dX8_stands_176 : decode cX8_stands 176 = .ok (.iaload, 1) := by decide +kernel
theorem dX8_stands_177 : decode cX8_stands 177 = .ok (.iastore, 1) := by decide +kernel
theorem dX8_stands_178 : decode cX8_stands 178 = .ok (.aload_n 0, 1) := by decide +kernel
theorem dX8_stands_179 : decode cX8_stands 179 = .ok (.getfield 108, 3) := by decide +kernel
theorem dX8_stands_182 : decode cX8_stands 182 = .ok (.bipush 30, 2) := by decide +kernel
theorem dX8_stands_184 : decode cX8_stands 184 = .ok (.iload_n 1, 1) := by decide +kernel
theorem dX8_stands_185 : decode cX8_stands 185 = .ok (.iadd, 1) := by decide +kernel
theorem dX8_stands_186 : decode cX8_stands 186 = .ok (.aload_n 0, 1) := by decide +kernel
theorem dX8_stands_187 : decode cX8_stands 187 = .ok (.getfield 108, 3) := by decide +kernel
theorem dX8_stands_190 : decode cX8_stands 190 = .ok (.iload_n 1, 1) := by decide +kernel
theorem dX8_stands_191 : decode cX8_stands 191 = .ok (.iaload, 1) := by decide +kernel
theorem dX8_stands_192 : decode cX8_stands 192 = .ok (.iastore, 1) := by decide +kernel
theorem dX8_stands_193 : decode cX8_stands 193 = .ok (.iinc 1 1, 3) := by decide +kernel
theorem dX8_stands_196 : decode cX8_stands 196 = .ok (.goto (-54), 3) := by decide +kernel
theorem dX8_stands_199 : decode cX8_stands 199 = .ok (.iconst 0, 1) := by decide +kernel
theorem dX8_stands_200 : decode cX8_stands 200 = .ok (.istore_n 1, 1) := by decide +kernel
theorem dX8_stands_201 : decode cX8_stands 201 = .ok (.iload_n 1, 1) := by decide +kernel
theorem dX8_stands_202 : decode cX8_stands 202 = .ok (.aload_n 0, 1) := by decide +kernel
theorem dX8_stands_203 : decode cX8_stands 203 = .ok (.getfield 227, 3) := by decide +kernel
theorem dX8_stands_206 : decode cX8_stands 206 = .ok (.if_icmp .ge 25, 3) := by decide +kernel
theorem dX8_stands_209 : decode cX8_stands 209 = .ok (.aload_n 0, 1) := by decide +kernel
theorem dX8_stands_210 : decode cX8_stands 210 = .ok (.getfield 121, 3) := by decide +kernel
theorem dX8_stands_213 : decode cX8_stands 213 = .ok (.sipush 700, 3) := by decide +kernel
theorem dX8_stands_216 : decode cX8_stands 216 = .ok (.iload_n 1, 1) := by decide +kernel
theorem dX8_stands_217 : decode cX8_stands 217 = .ok (.iadd, 1) := by decide +kernel
theorem dX8_stands_218 : decode cX8_stands 218 = .ok (.aload_n 0, 1) := by decide +kernel
theorem dX8_stands_219 : decode cX8_stands 219 = .ok (.getfield 121, 3) := by decide +kernel
theorem dX8_stands_222 : decode cX8_stands 222 = .ok (.iload_n 1, 1) := by decide +kernel
theorem dX8_stands_223 : decode cX8_stands 223 = .ok (.iaload, 1) := by decide +kernel
theorem dX8_stands_224 : decode cX8_stands 224 = .ok (.iastore, 1) := by decide +kernel
theorem dX8_stands_225 : decode cX8_stands 225 = .ok (.iinc 1 1, 3) := by decide +kernel
theorem dX8_stands_228 : decode cX8_stands 228 = .ok (.goto (-27), 3) := by decide +kernel
theorem dX8_stands_231 : decode cX8_stands 231 = .ok (.return_, 1) := by decide +kernel
theorem dX8_fault_0 : decode cX8_fault 0 = .ok (.iload_n 1, 1) := by decide +kernel
theorem dX8_fault_1 : decode cX8_fault 1 = .ok (.ifCond .ne 10, 3) := by decide +kernel
theorem dX8_fault_4 : decode cX8_fault 4 = .ok (.aload_n 0, 1) := by decide +kernel
theorem dX8_fault_5 : decode cX8_fault 5 = .ok (.getfield 318, 3) := by decide +kernel
theorem dX8_fault_8 : decode cX8_fault 8 = .ok (.goto 16, 3) := by decide +kernel
theorem dX8_fault_11 : decode cX8_fault 11 = .ok (.iload_n 1, 1) := by decide +kernel
theorem dX8_fault_12 : decode cX8_fault 12 = .ok (.iconst 1, 1) := by decide +kernel
theorem dX8_fault_13 : decode cX8_fault 13 = .ok (.if_icmp .ne 10, 3) := by decide +kernel
theorem dX8_fault_16 : decode cX8_fault 16 = .ok (.aload_n 0, 1) := by decide +kernel
theorem dX8_fault_17 : decode cX8_fault 17 = .ok (.getfield 13, 3) := by decide +kernel
theorem dX8_fault_20 : decode cX8_fault 20 = .ok (.goto 4, 3) := by decide +kernel
theorem dX8_fault_23 : decode cX8_fault 23 = .ok (.iconst (-1), 1) := by decide +kernel
theorem dX8_fault_24 : decode cX8_fault 24 = .ok (.ireturn, 1) := by decide +kernel
theorem dX8_has_0 : decode cX8_has 0 = .ok (.iconst 0, 1) := by decide +kernel
theorem dX8_has_1 : decode cX8_has 1 = .ok (.istore_n 2, 1) := by decide +kernel
theorem dX8_has_2 : decode cX8_has 2 = .ok (.iload_n 1, 1) := by decide +kernel
theorem dX8_has_3 : decode cX8_has 3 = .ok (.tableswitch 145 0 8 #[49, 56, 63, 70, 77, 77, 77, 86, 93], 49) := by decide +kernel
theorem dX8_has_52 : decode cX8_has 52 = .ok (.aload_n 0, 1) := by decide +kernel
theorem dX8_has_53 : decode cX8_has 53 = .ok (.getfield 84, 3) := by decide +kernel
theorem dX8_has_56 : decode cX8_has 56 = .ok (.iconst 1, 1) := by decide +kernel
theorem dX8_has_57 : decode cX8_has 57 = .ok (.iaload, 1) := by decide +kernel
theorem dX8_has_58 : decode cX8_has 58 = .ok (.ireturn, 1) := by decide +kernel
theorem dX8_has_59 : decode cX8_has 59 = .ok (.aload_n 0, 1) := by decide +kernel
theorem dX8_has_60 : decode cX8_has 60 = .ok (.getfield 87, 3) := by decide +kernel
theorem dX8_has_63 : decode cX8_has 63 = .ok (.iconst 1, 1) := by decide +kernel
theorem dX8_has_64 : decode cX8_has 64 = .ok (.iaload, 1) := by decide +kernel
theorem dX8_has_65 : decode cX8_has 65 = .ok (.ireturn, 1) := by decide +kernel
theorem dX8_has_66 : decode cX8_has 66 = .ok (.aload_n 0, 1) := by decide +kernel
theorem dX8_has_67 : decode cX8_has 67 = .ok (.getfield 90, 3) := by decide +kernel
theorem dX8_has_70 : decode cX8_has 70 = .ok (.iconst 1, 1) := by decide +kernel
theorem dX8_has_71 : decode cX8_has 71 = .ok (.iaload, 1) := by decide +kernel
theorem dX8_has_72 : decode cX8_has 72 = .ok (.ireturn, 1) := by decide +kernel
theorem dX8_has_73 : decode cX8_has 73 = .ok (.aload_n 0, 1) := by decide +kernel
theorem dX8_has_74 : decode cX8_has 74 = .ok (.getfield 93, 3) := by decide +kernel
theorem dX8_has_77 : decode cX8_has 77 = .ok (.iconst 1, 1) := by decide +kernel
theorem dX8_has_78 : decode cX8_has 78 = .ok (.iaload, 1) := by decide +kernel
theorem dX8_has_79 : decode cX8_has 79 = .ok (.ireturn, 1) := by decide +kernel
theorem dX8_has_80 : decode cX8_has 80 = .ok (.aload_n 0, 1) := by decide +kernel
theorem dX8_has_81 : decode cX8_has 81 = .ok (.getfield 96, 3) := by decide +kernel
theorem dX8_has_84 : decode cX8_has 84 = .ok (.iload_n 1, 1) := by decide +kernel
theorem dX8_has_85 : decode cX8_has 85 = .ok (.iconst 1, 1) := by decide +kernel
theorem dX8_has_86 : decode cX8_has 86 = .ok (.iadd, 1) := by decide +kernel
theorem dX8_has_87 : decode cX8_has 87 = .ok (.iaload, 1) := by decide +kernel
theorem dX8_has_88 : decode cX8_has 88 = .ok (.ireturn, 1) := by decide +kernel
theorem dX8_has_89 : decode cX8_has 89 = .ok (.aload_n 0, 1) := by decide +kernel
theorem dX8_has_90 : decode cX8_has 90 = .ok (.getfield 99, 3) := by decide +kernel
theorem dX8_has_93 : decode cX8_has 93 = .ok (.iconst 1, 1) := by decide +kernel
theorem dX8_has_94 : decode cX8_has 94 = .ok (.iaload, 1) := by decide +kernel
theorem dX8_has_95 : decode cX8_has 95 = .ok (.ireturn, 1) := by decide +kernel
theorem dX8_has_96 : decode cX8_has 96 = .ok (.iconst 0, 1) := by decide +kernel
theorem dX8_has_97 : decode cX8_has 97 = .ok (.istore_n 3, 1) := by decide +kernel
theorem dX8_has_98 : decode cX8_has 98 = .ok (.iload_n 3, 1) := by decide +kernel
theorem dX8_has_99 : decode cX8_has 99 = .ok (.bipush 9, 2) := by decide +kernel
theorem dX8_has_101 : decode cX8_has 101 = .ok (.if_icmp .ge 45, 3) := by decide +kernel
theorem dX8_has_104 : decode cX8_has 104 = .ok (.iconst 0, 1) := by decide +kernel
theorem dX8_has_105 : decode cX8_has 105 = .ok (.istore 4, 2) := by decide +kernel
theorem dX8_has_107 : decode cX8_has 107 = .ok (.iload 4, 2) := by decide +kernel
theorem dX8_has_109 : decode cX8_has 109 = .ok (.iload_n 3, 1) := by decide +kernel
theorem dX8_has_110 : decode cX8_has 110 = .ok (.if_icmp .ge 30, 3) := by decide +kernel
theorem dX8_has_113 : decode cX8_has 113 = .ok (.aload_n 0, 1) := by decide +kernel
theorem dX8_has_114 : decode cX8_has 114 = .ok (.getfield 117, 3) := by decide +kernel
theorem dX8_has_117 : decode cX8_has 117 = .ok (.bipush 81, 2) := by decide +kernel
theorem dX8_has_119 : decode cX8_has 119 = .ok (.bipush 9, 2) := by decide +kernel
theorem dX8_has_121 : decode cX8_has 121 = .ok (.iload_n 3, 1) := by decide +kernel
theorem dX8_has_122 : decode cX8_has 122 = .ok (.imul, 1) := by decide +kernel
theorem dX8_has_123 : decode cX8_has 123 = .ok (.iadd, 1) := by decide +kernel
theorem dX8_has_124 : decode cX8_has 124 = .ok (.iload 4, 2) := by decide +kernel
theorem dX8_has_126 : decode cX8_has 126 = .ok (.iadd, 1) := by decide +kernel
theorem dX8_has_127 : decode cX8_has 127 = .ok (.baload, 1) := by decide +kernel
theorem dX8_has_128 : decode cX8_has 128 = .ok (.ifCond .eq 6, 3) := by decide +kernel
theorem dX8_has_131 : decode cX8_has 131 = .ok (.iinc 2 1, 3) := by decide +kernel
theorem dX8_has_134 : decode cX8_has 134 = .ok (.iinc 4 1, 3) := by decide +kernel
theorem dX8_has_137 : decode cX8_has 137 = .ok (.goto (-30), 3) := by decide +kernel
theorem dX8_has_140 : decode cX8_has 140 = .ok (.iinc 3 1, 3) := by decide +kernel
theorem dX8_has_143 : decode cX8_has 143 = .ok (.goto (-45), 3) := by decide +kernel
theorem dX8_has_146 : decode cX8_has 146 = .ok (.iload_n 2, 1) := by decide +kernel
theorem dX8_has_147 : decode cX8_has 147 = .ok (.ireturn, 1) := by decide +kernel
theorem dX8_has_148 : decode cX8_has 148 = .ok (.iconst (-1), 1) := by decide +kernel
theorem dX8_has_149 : decode cX8_has 149 = .ok (.ireturn, 1) := by decide +kernel
theorem dX8_clip_0 : decode cX8_clip 0 = .ok (.lload_n 0, 1) := by decide +kernel
theorem dX8_clip_1 : decode cX8_clip 1 = .ok (.ldc2_w 337, 3) := by decide +kernel
theorem dX8_clip_4 : decode cX8_clip 4 = .ok (.lcmp, 1) := by decide +kernel
theorem dX8_clip_5 : decode cX8_clip 5 = .ok (.ifCond .le 9, 3) := by decide +kernel
theorem dX8_clip_8 : decode cX8_clip 8 = .ok (.ldc2_w 337, 3) := by decide +kernel
theorem dX8_clip_11 : decode cX8_clip 11 = .ok (.goto 18, 3) := by decide +kernel
theorem dX8_clip_14 : decode cX8_clip 14 = .ok (.lload_n 0, 1) := by decide +kernel
theorem dX8_clip_15 : decode cX8_clip 15 = .ok (.ldc2_w 339, 3) := by decide +kernel
theorem dX8_clip_18 : decode cX8_clip 18 = .ok (.lcmp, 1) := by decide +kernel
theorem dX8_clip_19 : decode cX8_clip 19 = .ok (.ifCond .ge 9, 3) := by decide +kernel
theorem dX8_clip_22 : decode cX8_clip 22 = .ok (.ldc2_w 339, 3) := by decide +kernel
theorem dX8_clip_25 : decode cX8_clip 25 = .ok (.goto 4, 3) := by decide +kernel
theorem dX8_clip_28 : decode cX8_clip 28 = .ok (.lload_n 0, 1) := by decide +kernel
theorem dX8_clip_29 : decode cX8_clip 29 = .ok (.lreturn, 1) := by decide +kernel
theorem dX8_floor_0 : decode cX8_floor 0 = .ok (.lload_n 2, 1) := by decide +kernel
theorem dX8_floor_1 : decode cX8_floor 1 = .ok (.lconst 0, 1) := by decide +kernel
theorem dX8_floor_2 : decode cX8_floor 2 = .ok (.lcmp, 1) := by decide +kernel
theorem dX8_floor_3 : decode cX8_floor 3 = .ok (.ifCond .ne 5, 3) := by decide +kernel
theorem dX8_floor_6 : decode cX8_floor 6 = .ok (.lconst 0, 1) := by decide +kernel
theorem dX8_floor_7 : decode cX8_floor 7 = .ok (.lreturn, 1) := by decide +kernel
theorem dX8_floor_8 : decode cX8_floor 8 = .ok (.lload_n 0, 1) := by decide +kernel
theorem dX8_floor_9 : decode cX8_floor 9 = .ok (.lload_n 2, 1) := by decide +kernel
theorem dX8_floor_10 : decode cX8_floor 10 = .ok (.ldiv, 1) := by decide +kernel
theorem dX8_floor_11 : decode cX8_floor 11 = .ok (.lstore 4, 2) := by decide +kernel
theorem dX8_floor_13 : decode cX8_floor 13 = .ok (.lload_n 0, 1) := by decide +kernel
theorem dX8_floor_14 : decode cX8_floor 14 = .ok (.lload_n 2, 1) := by decide +kernel
theorem dX8_floor_15 : decode cX8_floor 15 = .ok (.lrem, 1) := by decide +kernel
theorem dX8_floor_16 : decode cX8_floor 16 = .ok (.lconst 0, 1) := by decide +kernel
theorem dX8_floor_17 : decode cX8_floor 17 = .ok (.lcmp, 1) := by decide +kernel
theorem dX8_floor_18 : decode cX8_floor 18 = .ok (.ifCond .eq 35, 3) := by decide +kernel
theorem dX8_floor_21 : decode cX8_floor 21 = .ok (.lload_n 0, 1) := by decide +kernel
theorem dX8_floor_22 : decode cX8_floor 22 = .ok (.lconst 0, 1) := by decide +kernel
theorem dX8_floor_23 : decode cX8_floor 23 = .ok (.lcmp, 1) := by decide +kernel
theorem dX8_floor_24 : decode cX8_floor 24 = .ok (.ifCond .ge 7, 3) := by decide +kernel
theorem dX8_floor_27 : decode cX8_floor 27 = .ok (.iconst 1, 1) := by decide +kernel
theorem dX8_floor_28 : decode cX8_floor 28 = .ok (.goto 4, 3) := by decide +kernel
theorem dX8_floor_31 : decode cX8_floor 31 = .ok (.iconst 0, 1) := by decide +kernel
theorem dX8_floor_32 : decode cX8_floor 32 = .ok (.lload_n 2, 1) := by decide +kernel
theorem dX8_floor_33 : decode cX8_floor 33 = .ok (.lconst 0, 1) := by decide +kernel
theorem dX8_floor_34 : decode cX8_floor 34 = .ok (.lcmp, 1) := by decide +kernel
theorem dX8_floor_35 : decode cX8_floor 35 = .ok (.ifCond .ge 7, 3) := by decide +kernel
theorem dX8_floor_38 : decode cX8_floor 38 = .ok (.iconst 1, 1) := by decide +kernel
theorem dX8_floor_39 : decode cX8_floor 39 = .ok (.goto 4, 3) := by decide +kernel
theorem dX8_floor_42 : decode cX8_floor 42 = .ok (.iconst 0, 1) := by decide +kernel
theorem dX8_floor_43 : decode cX8_floor 43 = .ok (.if_icmp .eq 10, 3) := by decide +kernel
theorem dX8_floor_46 : decode cX8_floor 46 = .ok (.lload 4, 2) := by decide +kernel
theorem dX8_floor_48 : decode cX8_floor 48 = .ok (.lconst 1, 1) := by decide +kernel
theorem dX8_floor_49 : decode cX8_floor 49 = .ok (.lsub, 1) := by decide +kernel
theorem dX8_floor_50 : decode cX8_floor 50 = .ok (.goto 5, 3) := by decide +kernel
theorem dX8_floor_53 : decode cX8_floor 53 = .ok (.lload 4, 2) := by decide +kernel
theorem dX8_floor_55 : decode cX8_floor 55 = .ok (.lreturn, 1) := by decide +kernel
theorem dX8_puts_0 : decode cX8_puts 0 = .ok (.aload_n 0, 1) := by decide +kernel
theorem dX8_puts_1 : decode cX8_puts 1 = .ok (.getfield 127, 3) := by decide +kernel
theorem dX8_puts_4 : decode cX8_puts 4 = .ok (.aload_n 0, 1) := by decide +kernel
theorem dX8_puts_5 : decode cX8_puts 5 = .ok (.getfield 341, 3) := by decide +kernel
theorem dX8_puts_8 : decode cX8_puts 8 = .ok (.lload_n 1, 1) := by decide +kernel
theorem dX8_puts_9 : decode cX8_puts 9 = .ok (.lastore, 1) := by decide +kernel
theorem dX8_puts_10 : decode cX8_puts 10 = .ok (.aload_n 0, 1) := by decide +kernel
theorem dX8_puts_11 : decode cX8_puts 11 = .ok (.dup, 1) := by decide +kernel
theorem dX8_puts_12 : decode cX8_puts 12 = .ok (.getfield 341, 3) := by decide +kernel
theorem dX8_puts_15 : decode cX8_puts 15 = .ok (.iconst 1, 1) := by decide +kernel
theorem dX8_puts_16 : decode cX8_puts 16 = .ok (.iadd, 1) := by decide +kernel
theorem dX8_puts_17 : decode cX8_puts 17 = .ok (.putfield 341, 3) := by decide +kernel
theorem dX8_puts_20 : decode cX8_puts 20 = .ok (.return_, 1) := by decide +kernel
theorem dX8_joins_0 : decode cX8_joins 0 = .ok (.aload_n 0, 1) := by decide +kernel
theorem dX8_joins_1 : decode cX8_joins 1 = .ok (.getfield 127, 3) := by decide +kernel
theorem dX8_joins_4 : decode cX8_joins 4 = .ok (.aload_n 0, 1) := by decide +kernel
theorem dX8_joins_5 : decode cX8_joins 5 = .ok (.getfield 341, 3) := by decide +kernel
theorem dX8_joins_8 : decode cX8_joins 8 = .ok (.iconst 1, 1) := by decide +kernel
theorem dX8_joins_9 : decode cX8_joins 9 = .ok (.isub, 1) := by decide +kernel
theorem dX8_joins_10 : decode cX8_joins 10 = .ok (.laload, 1) := by decide +kernel
theorem dX8_joins_11 : decode cX8_joins 11 = .ok (.lstore_n 2, 1) := by decide +kernel
theorem dX8_joins_12 : decode cX8_joins 12 = .ok (.aload_n 0, 1) := by decide +kernel
theorem dX8_joins_13 : decode cX8_joins 13 = .ok (.getfield 127, 3) := by decide +kernel
theorem dX8_joins_16 : decode cX8_joins 16 = .ok (.aload_n 0, 1) := by decide +kernel
theorem dX8_joins_17 : decode cX8_joins 17 = .ok (.getfield 341, 3) := by decide +kernel
theorem dX8_joins_20 : decode cX8_joins 20 = .ok (.iconst 2, 1) := by decide +kernel
theorem dX8_joins_21 : decode cX8_joins 21 = .ok (.isub, 1) := by decide +kernel
theorem dX8_joins_22 : decode cX8_joins 22 = .ok (.laload, 1) := by decide +kernel
theorem dX8_joins_23 : decode cX8_joins 23 = .ok (.lstore 4, 2) := by decide +kernel
theorem dX8_joins_25 : decode cX8_joins 25 = .ok (.aload_n 0, 1) := by decide +kernel
theorem dX8_joins_26 : decode cX8_joins 26 = .ok (.dup, 1) := by decide +kernel
theorem dX8_joins_27 : decode cX8_joins 27 = .ok (.getfield 341, 3) := by decide +kernel
theorem dX8_joins_30 : decode cX8_joins 30 = .ok (.iconst 2, 1) := by decide +kernel
theorem dX8_joins_31 : decode cX8_joins 31 = .ok (.isub, 1) := by decide +kernel
theorem dX8_joins_32 : decode cX8_joins 32 = .ok (.putfield 341, 3) := by decide +kernel
theorem dX8_joins_35 : decode cX8_joins 35 = .ok (.iload_n 1, 1) := by decide +kernel
theorem dX8_joins_36 : decode cX8_joins 36 = .ok (.tableswitch 235 1 14 #[72, 86, 100, 114, 127, 147, 235, 235, 235, 235, 167, 186, 205, 224], 72) := by decide +kernel
theorem dX8_joins_108 : decode cX8_joins 108 = .ok (.aload_n 0, 1) := by decide +kernel
theorem dX8_joins_109 : decode cX8_joins 109 = .ok (.lload 4, 2) := by decide +kernel
theorem dX8_joins_111 : decode cX8_joins 111 = .ok (.lload_n 2, 1) := by decide +kernel
theorem dX8_joins_112 : decode cX8_joins 112 = .ok (.ladd, 1) := by decide +kernel
theorem dX8_joins_113 : decode cX8_joins 113 = .ok (.invokestatic 344, 3) := by decide +kernel
theorem dX8_joins_116 : decode cX8_joins 116 = .ok (.invokevirtual 348, 3) := by decide +kernel
theorem dX8_joins_119 : decode cX8_joins 119 = .ok (.goto 170, 3) := by decide +kernel
theorem dX8_joins_122 : decode cX8_joins 122 = .ok (.aload_n 0, 1) := by decide +kernel
theorem dX8_joins_123 : decode cX8_joins 123 = .ok (.lload 4, 2) := by decide +kernel
theorem dX8_joins_125 : decode cX8_joins 125 = .ok (.lload_n 2, 1) := by decide +kernel
theorem dX8_joins_126 : decode cX8_joins 126 = .ok (.lsub, 1) := by decide +kernel
theorem dX8_joins_127 : decode cX8_joins 127 = .ok (.invokestatic 344, 3) := by decide +kernel
theorem dX8_joins_130 : decode cX8_joins 130 = .ok (.invokevirtual 348, 3) := by decide +kernel
theorem dX8_joins_133 : decode cX8_joins 133 = .ok (.goto 156, 3) := by decide +kernel
theorem dX8_joins_136 : decode cX8_joins 136 = .ok (.aload_n 0, 1) := by decide +kernel
theorem dX8_joins_137 : decode cX8_joins 137 = .ok (.lload 4, 2) := by decide +kernel
theorem dX8_joins_139 : decode cX8_joins 139 = .ok (.lload_n 2, 1) := by decide +kernel
theorem dX8_joins_140 : decode cX8_joins 140 = .ok (.lmul, 1) := by decide +kernel
theorem dX8_joins_141 : decode cX8_joins 141 = .ok (.invokestatic 344, 3) := by decide +kernel
theorem dX8_joins_144 : decode cX8_joins 144 = .ok (.invokevirtual 348, 3) := by decide +kernel
theorem dX8_joins_147 : decode cX8_joins 147 = .ok (.goto 142, 3) := by decide +kernel
theorem dX8_joins_150 : decode cX8_joins 150 = .ok (.aload_n 0, 1) := by decide +kernel
theorem dX8_joins_151 : decode cX8_joins 151 = .ok (.lload 4, 2) := by decide +kernel
theorem dX8_joins_153 : decode cX8_joins 153 = .ok (.lload_n 2, 1) := by decide +kernel
theorem dX8_joins_154 : decode cX8_joins 154 = .ok (.invokestatic 352, 3) := by decide +kernel
theorem dX8_joins_157 : decode cX8_joins 157 = .ok (.invokevirtual 348, 3) := by decide +kernel
theorem dX8_joins_160 : decode cX8_joins 160 = .ok (.goto 129, 3) := by decide +kernel
theorem dX8_joins_163 : decode cX8_joins 163 = .ok (.aload_n 0, 1) := by decide +kernel
theorem dX8_joins_164 : decode cX8_joins 164 = .ok (.lload 4, 2) := by decide +kernel
theorem dX8_joins_166 : decode cX8_joins 166 = .ok (.lload_n 2, 1) := by decide +kernel
theorem dX8_joins_167 : decode cX8_joins 167 = .ok (.lcmp, 1) := by decide +kernel
theorem dX8_joins_168 : decode cX8_joins 168 = .ok (.ifCond .ge 8, 3) := by decide +kernel
theorem dX8_joins_171 : decode cX8_joins 171 = .ok (.lload 4, 2) := by decide +kernel
theorem dX8_joins_173 : decode cX8_joins 173 = .ok (.goto 4, 3) := by decide +kernel
theorem dX8_joins_176 : decode cX8_joins 176 = .ok (.lload_n 2, 1) := by decide +kernel
theorem dX8_joins_177 : decode cX8_joins 177 = .ok (.invokevirtual 348, 3) := by decide +kernel
theorem dX8_joins_180 : decode cX8_joins 180 = .ok (.goto 109, 3) := by decide +kernel
theorem dX8_joins_183 : decode cX8_joins 183 = .ok (.aload_n 0, 1) := by decide +kernel
theorem dX8_joins_184 : decode cX8_joins 184 = .ok (.lload 4, 2) := by decide +kernel
theorem dX8_joins_186 : decode cX8_joins 186 = .ok (.lload_n 2, 1) := by decide +kernel
theorem dX8_joins_187 : decode cX8_joins 187 = .ok (.lcmp, 1) := by decide +kernel
theorem dX8_joins_188 : decode cX8_joins 188 = .ok (.ifCond .le 8, 3) := by decide +kernel
theorem dX8_joins_191 : decode cX8_joins 191 = .ok (.lload 4, 2) := by decide +kernel
theorem dX8_joins_193 : decode cX8_joins 193 = .ok (.goto 4, 3) := by decide +kernel
theorem dX8_joins_196 : decode cX8_joins 196 = .ok (.lload_n 2, 1) := by decide +kernel
theorem dX8_joins_197 : decode cX8_joins 197 = .ok (.invokevirtual 348, 3) := by decide +kernel
theorem dX8_joins_200 : decode cX8_joins 200 = .ok (.goto 89, 3) := by decide +kernel
theorem dX8_joins_203 : decode cX8_joins 203 = .ok (.aload_n 0, 1) := by decide +kernel
theorem dX8_joins_204 : decode cX8_joins 204 = .ok (.lload 4, 2) := by decide +kernel
theorem dX8_joins_206 : decode cX8_joins 206 = .ok (.lload_n 2, 1) := by decide +kernel
theorem dX8_joins_207 : decode cX8_joins 207 = .ok (.lcmp, 1) := by decide +kernel
theorem dX8_joins_208 : decode cX8_joins 208 = .ok (.ifCond .ge 7, 3) := by decide +kernel
theorem dX8_joins_211 : decode cX8_joins 211 = .ok (.lconst 1, 1) := by decide +kernel
theorem dX8_joins_212 : decode cX8_joins 212 = .ok (.goto 4, 3) := by decide +kernel
theorem dX8_joins_215 : decode cX8_joins 215 = .ok (.lconst 0, 1) := by decide +kernel
theorem dX8_joins_216 : decode cX8_joins 216 = .ok (.invokevirtual 348, 3) := by decide +kernel
theorem dX8_joins_219 : decode cX8_joins 219 = .ok (.goto 70, 3) := by decide +kernel
theorem dX8_joins_222 : decode cX8_joins 222 = .ok (.aload_n 0, 1) := by decide +kernel
theorem dX8_joins_223 : decode cX8_joins 223 = .ok (.lload 4, 2) := by decide +kernel
theorem dX8_joins_225 : decode cX8_joins 225 = .ok (.lload_n 2, 1) := by decide +kernel
theorem dX8_joins_226 : decode cX8_joins 226 = .ok (.lcmp, 1) := by decide +kernel
theorem dX8_joins_227 : decode cX8_joins 227 = .ok (.ifCond .le 7, 3) := by decide +kernel
theorem dX8_joins_230 : decode cX8_joins 230 = .ok (.lconst 1, 1) := by decide +kernel
theorem dX8_joins_231 : decode cX8_joins 231 = .ok (.goto 4, 3) := by decide +kernel
theorem dX8_joins_234 : decode cX8_joins 234 = .ok (.lconst 0, 1) := by decide +kernel
theorem dX8_joins_235 : decode cX8_joins 235 = .ok (.invokevirtual 348, 3) := by decide +kernel
theorem dX8_joins_238 : decode cX8_joins 238 = .ok (.goto 51, 3) := by decide +kernel
theorem dX8_joins_241 : decode cX8_joins 241 = .ok (.aload_n 0, 1) := by decide +kernel
theorem dX8_joins_242 : decode cX8_joins 242 = .ok (.lload 4, 2) := by decide +kernel
theorem dX8_joins_244 : decode cX8_joins 244 = .ok (.lload_n 2, 1) := by decide +kernel
theorem dX8_joins_245 : decode cX8_joins 245 = .ok (.lcmp, 1) := by decide +kernel
theorem dX8_joins_246 : decode cX8_joins 246 = .ok (.ifCond .ne 7, 3) := by decide +kernel
theorem dX8_joins_249 : decode cX8_joins 249 = .ok (.lconst 1, 1) := by decide +kernel
theorem dX8_joins_250 : decode cX8_joins 250 = .ok (.goto 4, 3) := by decide +kernel
theorem dX8_joins_253 : decode cX8_joins 253 = .ok (.lconst 0, 1) := by decide +kernel
theorem dX8_joins_254 : decode cX8_joins 254 = .ok (.invokevirtual 348, 3) := by decide +kernel
theorem dX8_joins_257 : decode cX8_joins 257 = .ok (.goto 32, 3) := by decide +kernel
theorem dX8_joins_260 : decode cX8_joins 260 = .ok (.aload_n 0, 1) := by decide +kernel
theorem dX8_joins_261 : decode cX8_joins 261 = .ok (.lload 4, 2) := by decide +kernel
theorem dX8_joins_263 : decode cX8_joins 263 = .ok (.lload_n 2, 1) := by decide +kernel
theorem dX8_joins_264 : decode cX8_joins 264 = .ok (.lmul, 1) := by decide +kernel
theorem dX8_joins_265 : decode cX8_joins 265 = .ok (.invokevirtual 348, 3) := by decide +kernel
theorem dX8_joins_268 : decode cX8_joins 268 = .ok (.goto 21, 3) := by decide +kernel
theorem dX8_joins_271 : decode cX8_joins 271 = .ok (.aload_n 0, 1) := by decide +kernel
theorem dX8_joins_272 : decode cX8_joins 272 = .ok (.lload 4, 2) := by decide +kernel
theorem dX8_joins_274 : decode cX8_joins 274 = .ok (.lload_n 2, 1) := by decide +kernel
theorem dX8_joins_275 : decode cX8_joins 275 = .ok (.ladd, 1) := by decide +kernel
theorem dX8_joins_276 : decode cX8_joins 276 = .ok (.lconst 0, 1) := by decide +kernel
theorem dX8_joins_277 : decode cX8_joins 277 = .ok (.lcmp, 1) := by decide +kernel
theorem dX8_joins_278 : decode cX8_joins 278 = .ok (.ifCond .le 7, 3) := by decide +kernel
theorem dX8_joins_281 : decode cX8_joins 281 = .ok (.lconst 1, 1) := by decide +kernel
theorem dX8_joins_282 : decode cX8_joins 282 = .ok (.goto 4, 3) := by decide +kernel
theorem dX8_joins_285 : decode cX8_joins 285 = .ok (.lconst 0, 1) := by decide +kernel
theorem dX8_joins_286 : decode cX8_joins 286 = .ok (.invokevirtual 348, 3) := by decide +kernel
theorem dX8_joins_289 : decode cX8_joins 289 = .ok (.return_, 1) := by decide +kernel
theorem dX8_tells_0 : decode cX8_tells 0 = .ok (.aload_n 0, 1) := by decide +kernel
theorem dX8_tells_1 : decode cX8_tells 1 = .ok (.iconst 0, 1) := by decide +kernel
theorem dX8_tells_2 : decode cX8_tells 2 = .ok (.putfield 341, 3) := by decide +kernel
theorem dX8_tells_5 : decode cX8_tells 5 = .ok (.iload_n 1, 1) := by decide +kernel
theorem dX8_tells_6 : decode cX8_tells 6 = .ok (.istore_n 3, 1) := by decide +kernel
theorem dX8_tells_7 : decode cX8_tells 7 = .ok (.iload_n 3, 1) := by decide +kernel
theorem dX8_tells_8 : decode cX8_tells 8 = .ok (.iload_n 2, 1) := by decide +kernel
theorem dX8_tells_9 : decode cX8_tells 9 = .ok (.if_icmp .ge 212, 3) := by decide +kernel
theorem dX8_tells_12 : decode cX8_tells 12 = .ok (.aload_n 0, 1) := by decide +kernel
theorem dX8_tells_13 : decode cX8_tells 13 = .ok (.getfield 121, 3) := by decide +kernel
theorem dX8_tells_16 : decode cX8_tells 16 = .ok (.sipush 700, 3) := by decide +kernel
theorem dX8_tells_19 : decode cX8_tells 19 = .ok (.iload_n 3, 1) := by decide +kernel
theorem dX8_tells_20 : decode cX8_tells 20 = .ok (.iadd, 1) := by decide +kernel
theorem dX8_tells_21 : decode cX8_tells 21 = .ok (.iaload, 1) := by decide +kernel
theorem dX8_tells_22 : decode cX8_tells 22 = .ok (.istore 4, 2) := by decide +kernel
theorem dX8_tells_24 : decode cX8_tells 24 = .ok (.iload 4, 2) := by decide +kernel
theorem dX8_tells_26 : decode cX8_tells 26 = .ok (.sipush 1000, 3) := by decide +kernel
theorem dX8_tells_29 : decode cX8_tells 29 = .ok (.if_icmp .lt 17, 3) := by decide +kernel
theorem dX8_tells_32 : decode cX8_tells 32 = .ok (.aload_n 0, 1) := by decide +kernel
theorem dX8_tells_33 : decode cX8_tells 33 = .ok (.iload 4, 2) := by decide +kernel
theorem dX8_tells_35 : decode cX8_tells 35 = .ok (.sipush 1000, 3) := by decide +kernel
theorem dX8_tells_38 : decode cX8_tells 38 = .ok (.isub, 1) := by decide +kernel
theorem dX8_tells_39 : decode cX8_tells 39 = .ok (.i2l, 1) := by decide +kernel
theorem dX8_tells_40 : decode cX8_tells 40 = .ok (.invokevirtual 348, 3) := by decide +kernel
theorem dX8_tells_43 : decode cX8_tells 43 = .ok (.goto 172, 3) := by decide +kernel
theorem dX8_tells_46 : decode cX8_tells 46 = .ok (.iload 4, 2) := by decide +kernel
theorem dX8_tells_48 : decode cX8_tells 48 = .ok (.bipush 7, 2) := by decide +kernel
theorem dX8_tells_50 : decode cX8_tells 50 = .ok (.if_icmp .ne 15, 3) := by decide +kernel
theorem dX8_tells_53 : decode cX8_tells 53 = .ok (.aload_n 0, 1) := by decide +kernel
theorem dX8_tells_54 : decode cX8_tells 54 = .ok (.aload_n 0, 1) := by decide +kernel
theorem dX8_tells_55 : decode cX8_tells 55 = .ok (.getfield 356, 3) := by decide +kernel
theorem dX8_tells_58 : decode cX8_tells 58 = .ok (.i2l, 1) := by decide +kernel
theorem dX8_tells_59 : decode cX8_tells 59 = .ok (.invokevirtual 348, 3) := by decide +kernel
theorem dX8_tells_62 : decode cX8_tells 62 = .ok (.goto 153, 3) := by decide +kernel
theorem dX8_tells_65 : decode cX8_tells 65 = .ok (.iload 4, 2) := by decide +kernel
theorem dX8_tells_67 : decode cX8_tells 67 = .ok (.bipush 8, 2) := by decide +kernel
theorem dX8_tells_69 : decode cX8_tells 69 = .ok (.if_icmp .ne 15, 3) := by decide +kernel
theorem dX8_tells_72 : decode cX8_tells 72 = .ok (.aload_n 0, 1) := by decide +kernel
theorem dX8_tells_73 : decode cX8_tells 73 = .ok (.aload_n 0, 1) := by decide +kernel
theorem dX8_tells_74 : decode cX8_tells 74 = .ok (.getfield 359, 3) := by decide +kernel
theorem dX8_tells_77 : decode cX8_tells 77 = .ok (.i2l, 1) := by decide +kernel
theorem dX8_tells_78 : decode cX8_tells 78 = .ok (.invokevirtual 348, 3) := by decide +kernel
theorem dX8_tells_81 : decode cX8_tells 81 = .ok (.goto 134, 3) := by decide +kernel
theorem dX8_tells_84 : decode cX8_tells 84 = .ok (.iload 4, 2) := by decide +kernel
theorem dX8_tells_86 : decode cX8_tells 86 = .ok (.bipush 9, 2) := by decide +kernel
theorem dX8_tells_88 : decode cX8_tells 88 = .ok (.if_icmp .ne 15, 3) := by decide +kernel
theorem dX8_tells_91 : decode cX8_tells 91 = .ok (.aload_n 0, 1) := by decide +kernel
theorem dX8_tells_92 : decode cX8_tells 92 = .ok (.aload_n 0, 1) := by decide +kernel
theorem dX8_tells_93 : decode cX8_tells 93 = .ok (.getfield 362, 3) := by decide +kernel
theorem dX8_tells_96 : decode cX8_tells 96 = .ok (.i2l, 1) := by decide +kernel
theorem dX8_tells_97 : decode cX8_tells 97 = .ok (.invokevirtual 348, 3) := by decide +kernel
theorem dX8_tells_100 : decode cX8_tells 100 = .ok (.goto 115, 3) := by decide +kernel
theorem dX8_tells_103 : decode cX8_tells 103 = .ok (.iload 4, 2) := by decide +kernel
theorem dX8_tells_105 : decode cX8_tells 105 = .ok (.bipush 10, 2) := by decide +kernel
theorem dX8_tells_107 : decode cX8_tells 107 = .ok (.if_icmp .ne 15, 3) := by decide +kernel
theorem dX8_tells_110 : decode cX8_tells 110 = .ok (.aload_n 0, 1) := by decide +kernel
theorem dX8_tells_111 : decode cX8_tells 111 = .ok (.aload_n 0, 1) := by decide +kernel
theorem dX8_tells_112 : decode cX8_tells 112 = .ok (.getfield 365, 3) := by decide +kernel
theorem dX8_tells_115 : decode cX8_tells 115 = .ok (.i2l, 1) := by decide +kernel
theorem dX8_tells_116 : decode cX8_tells 116 = .ok (.invokevirtual 348, 3) := by decide +kernel
theorem dX8_tells_119 : decode cX8_tells 119 = .ok (.goto 96, 3) := by decide +kernel
theorem dX8_tells_122 : decode cX8_tells 122 = .ok (.iload 4, 2) := by decide +kernel
theorem dX8_tells_124 : decode cX8_tells 124 = .ok (.bipush 18, 2) := by decide +kernel
theorem dX8_tells_126 : decode cX8_tells 126 = .ok (.if_icmp .ne 15, 3) := by decide +kernel
theorem dX8_tells_129 : decode cX8_tells 129 = .ok (.aload_n 0, 1) := by decide +kernel
theorem dX8_tells_130 : decode cX8_tells 130 = .ok (.aload_n 0, 1) := by decide +kernel
theorem dX8_tells_131 : decode cX8_tells 131 = .ok (.getfield 368, 3) := by decide +kernel
theorem dX8_tells_134 : decode cX8_tells 134 = .ok (.i2l, 1) := by decide +kernel
theorem dX8_tells_135 : decode cX8_tells 135 = .ok (.invokevirtual 348, 3) := by decide +kernel
theorem dX8_tells_138 : decode cX8_tells 138 = .ok (.goto 77, 3) := by decide +kernel
theorem dX8_tells_141 : decode cX8_tells 141 = .ok (.iload 4, 2) := by decide +kernel
theorem dX8_tells_143 : decode cX8_tells 143 = .ok (.bipush 30, 2) := by decide +kernel
theorem dX8_tells_145 : decode cX8_tells 145 = .ok (.if_icmp .ne 15, 3) := by decide +kernel
theorem dX8_tells_148 : decode cX8_tells 148 = .ok (.aload_n 0, 1) := by decide +kernel
theorem dX8_tells_149 : decode cX8_tells 149 = .ok (.aload_n 0, 1) := by decide +kernel
theorem dX8_tells_150 : decode cX8_tells 150 = .ok (.getfield 371, 3) := by decide +kernel
theorem dX8_tells_153 : decode cX8_tells 153 = .ok (.i2l, 1) := by decide +kernel
theorem dX8_tells_154 : decode cX8_tells 154 = .ok (.invokevirtual 348, 3) := by decide +kernel
theorem dX8_tells_157 : decode cX8_tells 157 = .ok (.goto 58, 3) := by decide +kernel
theorem dX8_tells_160 : decode cX8_tells 160 = .ok (.iload 4, 2) := by decide +kernel
theorem dX8_tells_162 : decode cX8_tells 162 = .ok (.bipush 17, 2) := by decide +kernel
theorem dX8_tells_164 : decode cX8_tells 164 = .ok (.if_icmp .ne 11, 3) := by decide +kernel
theorem dX8_tells_167 : decode cX8_tells 167 = .ok (.aload_n 0, 1) := by decide +kernel
theorem dX8_tells_168 : decode cX8_tells 168 = .ok (.lconst 1, 1) := by decide +kernel
theorem dX8_tells_169 : decode cX8_tells 169 = .ok (.invokevirtual 348, 3) := by decide +kernel
theorem dX8_tells_172 : decode cX8_tells 172 = .ok (.goto 43, 3) := by decide +kernel
theorem dX8_tells_175 : decode cX8_tells 175 = .ok (.iload 4, 2) := by decide +kernel
theorem dX8_tells_177 : decode cX8_tells 177 = .ok (.bipush 16, 2) := by decide +kernel
theorem dX8_tells_179 : decode cX8_tells 179 = .ok (.if_icmp .ne 30, 3) := by decide +kernel
theorem dX8_tells_182 : decode cX8_tells 182 = .ok (.aload_n 0, 1) := by decide +kernel
theorem dX8_tells_183 : decode cX8_tells 183 = .ok (.getfield 127, 3) := by decide +kernel
theorem dX8_tells_186 : decode cX8_tells 186 = .ok (.aload_n 0, 1) := by decide +kernel
theorem dX8_tells_187 : decode cX8_tells 187 = .ok (.getfield 341, 3) := by decide +kernel
theorem dX8_tells_190 : decode cX8_tells 190 = .ok (.iconst 1, 1) := by decide +kernel
theorem dX8_tells_191 : decode cX8_tells 191 = .ok (.isub, 1) := by decide +kernel
theorem dX8_tells_192 : decode cX8_tells 192 = .ok (.lconst 1, 1) := by decide +kernel
theorem dX8_tells_193 : decode cX8_tells 193 = .ok (.aload_n 0, 1) := by decide +kernel
theorem dX8_tells_194 : decode cX8_tells 194 = .ok (.getfield 127, 3) := by decide +kernel
theorem dX8_tells_197 : decode cX8_tells 197 = .ok (.aload_n 0, 1) := by decide +kernel
theorem dX8_tells_198 : decode cX8_tells 198 = .ok (.getfield 341, 3) := by decide +kernel
theorem dX8_tells_201 : decode cX8_tells 201 = .ok (.iconst 1, 1) := by decide +kernel
theorem dX8_tells_202 : decode cX8_tells 202 = .ok (.isub, 1) := by decide +kernel
theorem dX8_tells_203 : decode cX8_tells 203 = .ok (.laload, 1) := by decide +kernel
theorem dX8_tells_204 : decode cX8_tells 204 = .ok (.lsub, 1) := by decide +kernel
theorem dX8_tells_205 : decode cX8_tells 205 = .ok (.lastore, 1) := by decide +kernel
theorem dX8_tells_206 : decode cX8_tells 206 = .ok (.goto 9, 3) := by decide +kernel
theorem dX8_tells_209 : decode cX8_tells 209 = .ok (.aload_n 0, 1) := by decide +kernel
theorem dX8_tells_210 : decode cX8_tells 210 = .ok (.iload 4, 2) := by decide +kernel
theorem dX8_tells_212 : decode cX8_tells 212 = .ok (.invokevirtual 374, 3) := by decide +kernel
theorem dX8_tells_215 : decode cX8_tells 215 = .ok (.iinc 3 1, 3) := by decide +kernel
theorem dX8_tells_218 : decode cX8_tells 218 = .ok (.goto (-211), 3) := by decide +kernel
theorem dX8_tells_221 : decode cX8_tells 221 = .ok (.aload_n 0, 1) := by decide +kernel
theorem dX8_tells_222 : decode cX8_tells 222 = .ok (.getfield 127, 3) := by decide +kernel
theorem dX8_tells_225 : decode cX8_tells 225 = .ok (.iconst 0, 1) := by decide +kernel
theorem dX8_tells_226 : decode cX8_tells 226 = .ok (.laload, 1) := by decide +kernel
theorem dX8_tells_227 : decode cX8_tells 227 = .ok (.lreturn, 1) := by decide +kernel
theorem dX8_worthOf_0 : decode cX8_worthOf 0 = .ok (.aload_n 0, 1) := by decide +kernel
theorem dX8_worthOf_1 : decode cX8_worthOf 1 = .ok (.iload_n 1, 1) := by decide +kernel
theorem dX8_worthOf_2 : decode cX8_worthOf 2 = .ok (.iconst 1, 1) := by decide +kernel
theorem dX8_worthOf_3 : decode cX8_worthOf 3 = .ok (.iadd, 1) := by decide +kernel
theorem dX8_worthOf_4 : decode cX8_worthOf 4 = .ok (.putfield 356, 3) := by decide +kernel
theorem dX8_worthOf_7 : decode cX8_worthOf 7 = .ok (.aload_n 0, 1) := by decide +kernel
theorem dX8_worthOf_8 : decode cX8_worthOf 8 = .ok (.iload_n 2, 1) := by decide +kernel
theorem dX8_worthOf_9 : decode cX8_worthOf 9 = .ok (.putfield 359, 3) := by decide +kernel
theorem dX8_worthOf_12 : decode cX8_worthOf 12 = .ok (.aload_n 0, 1) := by decide +kernel
theorem dX8_worthOf_13 : decode cX8_worthOf 13 = .ok (.iload_n 3, 1) := by decide +kernel
theorem dX8_worthOf_14 : decode cX8_worthOf 14 = .ok (.putfield 362, 3) := by decide +kernel
theorem dX8_worthOf_17 : decode cX8_worthOf 17 = .ok (.aload_n 0, 1) := by decide +kernel
theorem dX8_worthOf_18 : decode cX8_worthOf 18 = .ok (.iload 4, 2) := by decide +kernel
theorem dX8_worthOf_20 : decode cX8_worthOf 20 = .ok (.putfield 365, 3) := by decide +kernel
theorem dX8_worthOf_23 : decode cX8_worthOf 23 = .ok (.aload_n 0, 1) := by decide +kernel
theorem dX8_worthOf_24 : decode cX8_worthOf 24 = .ok (.iconst 0, 1) := by decide +kernel
theorem dX8_worthOf_25 : decode cX8_worthOf 25 = .ok (.putfield 368, 3) := by decide +kernel
theorem dX8_worthOf_28 : decode cX8_worthOf 28 = .ok (.aload_n 0, 1) := by decide +kernel
theorem dX8_worthOf_29 : decode cX8_worthOf 29 = .ok (.iconst 0, 1) := by decide +kernel
theorem dX8_worthOf_30 : decode cX8_worthOf 30 = .ok (.putfield 371, 3) := by decide +kernel
theorem dX8_worthOf_33 : decode cX8_worthOf 33 = .ok (.bipush 30, 2) := by decide +kernel
theorem dX8_worthOf_35 : decode cX8_worthOf 35 = .ok (.istore 5, 2) := by decide +kernel
theorem dX8_worthOf_37 : decode cX8_worthOf 37 = .ok (.iload 5, 2) := by decide +kernel
theorem dX8_worthOf_39 : decode cX8_worthOf 39 = .ok (.bipush 30, 2) := by decide +kernel
theorem dX8_worthOf_41 : decode cX8_worthOf 41 = .ok (.aload_n 0, 1) := by decide +kernel
theorem dX8_worthOf_42 : decode cX8_worthOf 42 = .ok (.getfield 99, 3) := by decide +kernel
theorem dX8_worthOf_45 : decode cX8_worthOf 45 = .ok (.iconst 1, 1) := by decide +kernel
theorem dX8_worthOf_46 : decode cX8_worthOf 46 = .ok (.iaload, 1) := by decide +kernel
theorem dX8_worthOf_47 : decode cX8_worthOf 47 = .ok (.iadd, 1) := by decide +kernel
theorem dX8_worthOf_48 : decode cX8_worthOf 48 = .ok (.if_icmp .ge 87, 3) := by decide +kernel
theorem dX8_worthOf_51 : decode cX8_worthOf 51 = .ok (.aload_n 0, 1) := by decide +kernel
theorem dX8_worthOf_52 : decode cX8_worthOf 52 = .ok (.aload_n 0, 1) := by decide +kernel
theorem dX8_worthOf_53 : decode cX8_worthOf 53 = .ok (.getfield 105, 3) := by decide +kernel
theorem dX8_worthOf_56 : decode cX8_worthOf 56 = .ok (.iload 5, 2) := by decide +kernel
theorem dX8_worthOf_58 : decode cX8_worthOf 58 = .ok (.iaload, 1) := by decide +kernel
theorem dX8_worthOf_59 : decode cX8_worthOf 59 = .ok (.aload_n 0, 1) := by decide +kernel
theorem dX8_worthOf_60 : decode cX8_worthOf 60 = .ok (.getfield 108, 3) := by decide +kernel
theorem dX8_worthOf_63 : decode cX8_worthOf 63 = .ok (.iload 5, 2) := by decide +kernel
theorem dX8_worthOf_65 : decode cX8_worthOf 65 = .ok (.iaload, 1) := by decide +kernel
theorem dX8_worthOf_66 : decode cX8_worthOf 66 = .ok (.invokevirtual 377, 3) := by decide +kernel
theorem dX8_worthOf_69 : decode cX8_worthOf 69 = .ok (.lconst 1, 1) := by decide +kernel
theorem dX8_worthOf_70 : decode cX8_worthOf 70 = .ok (.lcmp, 1) := by decide +kernel
theorem dX8_worthOf_71 : decode cX8_worthOf 71 = .ok (.ifCond .eq 6, 3) := by decide +kernel
theorem dX8_worthOf_74 : decode cX8_worthOf 74 = .ok (.goto 55, 3) := by decide +kernel
theorem dX8_worthOf_77 : decode cX8_worthOf 77 = .ok (.aload_n 0, 1) := by decide +kernel
theorem dX8_worthOf_78 : decode cX8_worthOf 78 = .ok (.aload_n 0, 1) := by decide +kernel
theorem dX8_worthOf_79 : decode cX8_worthOf 79 = .ok (.getfield 102, 3) := by decide +kernel
theorem dX8_worthOf_82 : decode cX8_worthOf 82 = .ok (.iload 5, 2) := by decide +kernel
theorem dX8_worthOf_84 : decode cX8_worthOf 84 = .ok (.iaload, 1) := by decide +kernel
theorem dX8_worthOf_85 : decode cX8_worthOf 85 = .ok (.aload_n 0, 1) := by decide +kernel
theorem dX8_worthOf_86 : decode cX8_worthOf 86 = .ok (.getfield 105, 3) := by decide +kernel
theorem dX8_worthOf_89 : decode cX8_worthOf 89 = .ok (.iload 5, 2) := by decide +kernel
theorem dX8_worthOf_91 : decode cX8_worthOf 91 = .ok (.iaload, 1) := by decide +kernel
theorem dX8_worthOf_92 : decode cX8_worthOf 92 = .ok (.invokevirtual 377, 3) := by decide +kernel
theorem dX8_worthOf_95 : decode cX8_worthOf 95 = .ok (.lstore 6, 2) := by decide +kernel
theorem dX8_worthOf_97 : decode cX8_worthOf 97 = .ok (.lload 6, 2) := by decide +kernel
theorem dX8_worthOf_99 : decode cX8_worthOf 99 = .ok (.ldc2_w 381, 3) := by decide +kernel
theorem dX8_worthOf_102 : decode cX8_worthOf 102 = .ok (.lcmp, 1) := by decide +kernel
theorem dX8_worthOf_103 : decode cX8_worthOf 103 = .ok (.ifCond .ge 8, 3) := by decide +kernel
theorem dX8_worthOf_106 : decode cX8_worthOf 106 = .ok (.bipush (-20), 2) := by decide +kernel
theorem dX8_worthOf_108 : decode cX8_worthOf 108 = .ok (.goto 20, 3) := by decide +kernel
theorem dX8_worthOf_111 : decode cX8_worthOf 111 = .ok (.lload 6, 2) := by decide +kernel
theorem dX8_worthOf_113 : decode cX8_worthOf 113 = .ok (.ldc2_w 383, 3) := by decide +kernel
theorem dX8_worthOf_116 : decode cX8_worthOf 116 = .ok (.lcmp, 1) := by decide +kernel
theorem dX8_worthOf_117 : decode cX8_worthOf 117 = .ok (.ifCond .le 8, 3) := by decide +kernel
theorem dX8_worthOf_120 : decode cX8_worthOf 120 = .ok (.bipush 20, 2) := by decide +kernel
theorem dX8_worthOf_122 : decode cX8_worthOf 122 = .ok (.goto 6, 3) := by decide +kernel
theorem dX8_worthOf_125 : decode cX8_worthOf 125 = .ok (.lload 6, 2) := by decide +kernel
theorem dX8_worthOf_127 : decode cX8_worthOf 127 = .ok (.l2i, 1) := by decide +kernel
theorem dX8_worthOf_128 : decode cX8_worthOf 128 = .ok (.ireturn, 1) := by decide +kernel
theorem dX8_worthOf_129 : decode cX8_worthOf 129 = .ok (.iinc 5 1, 3) := by decide +kernel
theorem dX8_worthOf_132 : decode cX8_worthOf 132 = .ok (.goto (-95), 3) := by decide +kernel
theorem dX8_worthOf_135 : decode cX8_worthOf 135 = .ok (.iconst 0, 1) := by decide +kernel
theorem dX8_worthOf_136 : decode cX8_worthOf 136 = .ok (.ireturn, 1) := by decide +kernel
theorem dX8_taken_0 : decode cX8_taken 0 = .ok (.iload_n 0, 1) := by decide +kernel
theorem dX8_taken_1 : decode cX8_taken 1 = .ok (.bipush (-2), 2) := by decide +kernel
theorem dX8_taken_3 : decode cX8_taken 3 = .ok (.if_icmp .ne 7, 3) := by decide +kernel
theorem dX8_taken_6 : decode cX8_taken 6 = .ok (.iconst 0, 1) := by decide +kernel
theorem dX8_taken_7 : decode cX8_taken 7 = .ok (.goto 4, 3) := by decide +kernel
theorem dX8_taken_10 : decode cX8_taken 10 = .ok (.iload_n 0, 1) := by decide +kernel
theorem dX8_taken_11 : decode cX8_taken 11 = .ok (.ireturn, 1) := by decide +kernel
theorem dX8_isOver_0 : decode cX8_isOver 0 = .ok (.aload_n 0, 1) := by decide +kernel
theorem dX8_isOver_1 : decode cX8_isOver 1 = .ok (.getfield 140, 3) := by decide +kernel
theorem dX8_isOver_4 : decode cX8_isOver 4 = .ok (.iload_n 1, 1) := by decide +kernel
theorem dX8_isOver_5 : decode cX8_isOver 5 = .ok (.iaload, 1) := by decide +kernel
theorem dX8_isOver_6 : decode cX8_isOver 6 = .ok (.ifCond .gt 18, 3) := by decide +kernel
theorem dX8_isOver_9 : decode cX8_isOver 9 = .ok (.aload_n 0, 1) := by decide +kernel
theorem dX8_isOver_10 : decode cX8_isOver 10 = .ok (.getfield 137, 3) := by decide +kernel
theorem dX8_isOver_13 : decode cX8_isOver 13 = .ok (.iload_n 1, 1) := by decide +kernel
theorem dX8_isOver_14 : decode cX8_isOver 14 = .ok (.iaload, 1) := by decide +kernel
theorem dX8_isOver_15 : decode cX8_isOver 15 = .ok (.aload_n 0, 1) := by decide +kernel
theorem dX8_isOver_16 : decode cX8_isOver 16 = .ok (.getfield 90, 3) := by decide +kernel
theorem dX8_isOver_19 : decode cX8_isOver 19 = .ok (.iconst 1, 1) := by decide +kernel
theorem dX8_isOver_20 : decode cX8_isOver 20 = .ok (.iaload, 1) := by decide +kernel
theorem dX8_isOver_21 : decode cX8_isOver 21 = .ok (.if_icmp .ne 7, 3) := by decide +kernel
theorem dX8_isOver_24 : decode cX8_isOver 24 = .ok (.iconst 1, 1) := by decide +kernel
theorem dX8_isOver_25 : decode cX8_isOver 25 = .ok (.goto 4, 3) := by decide +kernel
theorem dX8_isOver_28 : decode cX8_isOver 28 = .ok (.iconst 0, 1) := by decide +kernel
theorem dX8_isOver_29 : decode cX8_isOver 29 = .ok (.ireturn, 1) := by decide +kernel
theorem dX8_empties_0 : decode cX8_empties 0 = .ok (.aload_n 0, 1) := by decide +kernel
theorem dX8_empties_1 : decode cX8_empties 1 = .ok (.getfield 134, 3) := by decide +kernel
theorem dX8_empties_4 : decode cX8_empties 4 = .ok (.iload_n 1, 1) := by decide +kernel
theorem dX8_empties_5 : decode cX8_empties 5 = .ok (.iload_n 2, 1) := by decide +kernel
theorem dX8_empties_6 : decode cX8_empties 6 = .ok (.iastore, 1) := by decide +kernel
theorem dX8_empties_7 : decode cX8_empties 7 = .ok (.aload_n 0, 1) := by decide +kernel
theorem dX8_empties_8 : decode cX8_empties 8 = .ok (.getfield 137, 3) := by decide +kernel
theorem dX8_empties_11 : decode cX8_empties 11 = .ok (.iload_n 1, 1) := by decide +kernel
theorem dX8_empties_12 : decode cX8_empties 12 = .ok (.iconst 0, 1) := by decide +kernel
theorem dX8_empties_13 : decode cX8_empties 13 = .ok (.iastore, 1) := by decide +kernel
theorem dX8_empties_14 : decode cX8_empties 14 = .ok (.aload_n 0, 1) := by decide +kernel
theorem dX8_empties_15 : decode cX8_empties 15 = .ok (.getfield 140, 3) := by decide +kernel
theorem dX8_empties_18 : decode cX8_empties 18 = .ok (.iload_n 1, 1) := by decide +kernel
theorem dX8_empties_19 : decode cX8_empties 19 = .ok (.iconst 0, 1) := by decide +kernel
theorem dX8_empties_20 : decode cX8_empties 20 = .ok (.iastore, 1) := by decide +kernel
theorem dX8_empties_21 : decode cX8_empties 21 = .ok (.aload_n 0, 1) := by decide +kernel
theorem dX8_empties_22 : decode cX8_empties 22 = .ok (.getfield 143, 3) := by decide +kernel
theorem dX8_empties_25 : decode cX8_empties 25 = .ok (.iload_n 1, 1) := by decide +kernel
theorem dX8_empties_26 : decode cX8_empties 26 = .ok (.iconst 0, 1) := by decide +kernel
theorem dX8_empties_27 : decode cX8_empties 27 = .ok (.iastore, 1) := by decide +kernel
theorem dX8_empties_28 : decode cX8_empties 28 = .ok (.aload_n 0, 1) := by decide +kernel
theorem dX8_empties_29 : decode cX8_empties 29 = .ok (.getfield 146, 3) := by decide +kernel
theorem dX8_empties_32 : decode cX8_empties 32 = .ok (.iload_n 1, 1) := by decide +kernel
theorem dX8_empties_33 : decode cX8_empties 33 = .ok (.iconst 0, 1) := by decide +kernel
theorem dX8_empties_34 : decode cX8_empties 34 = .ok (.iastore, 1) := by decide +kernel
theorem dX8_empties_35 : decode cX8_empties 35 = .ok (.return_, 1) := by decide +kernel
theorem dX8_goesThrough_0 : decode cX8_goesThrough 0 = .ok (.iconst 0, 1) := by decide +kernel
theorem dX8_goesThrough_1 : decode cX8_goesThrough 1 = .ok (.istore_n 1, 1) := by decide +kernel
theorem dX8_goesThrough_2 : decode cX8_goesThrough 2 = .ok (.aload_n 0, 1) := by decide +kernel
theorem dX8_goesThrough_3 : decode cX8_goesThrough 3 = .ok (.iconst 0, 1) := by decide +kernel
theorem dX8_goesThrough_4 : decode cX8_goesThrough 4 = .ok (.putfield 385, 3) := by decide +kernel
theorem dX8_goesThrough_7 : decode cX8_goesThrough 7 = .ok (.aload_n 0, 1) := by decide +kernel
theorem dX8_goesThrough_8 : decode cX8_goesThrough 8 = .ok (.iconst 0, 1) := by decide +kernel
theorem dX8_goesThrough_9 : decode cX8_goesThrough 9 = .ok (.iconst 0, 1) := by decide +kernel
theorem dX8_goesThrough_10 : decode cX8_goesThrough 10 = .ok (.invokevirtual 388, 3) := by decide +kernel
theorem dX8_goesThrough_13 : decode cX8_goesThrough 13 = .ok (.iload_n 1, 1) := by decide +kernel
theorem dX8_goesThrough_14 : decode cX8_goesThrough 14 = .ok (.aload_n 0, 1) := by decide +kernel
theorem dX8_goesThrough_15 : decode cX8_goesThrough 15 = .ok (.getfield 324, 3) := by decide +kernel
theorem dX8_goesThrough_18 : decode cX8_goesThrough 18 = .ok (.if_icmp .ge 158, 3) := by decide +kernel
theorem dX8_goesThrough_21 : decode cX8_goesThrough 21 = .ok (.aload_n 0, 1) := by decide +kernel
theorem dX8_goesThrough_22 : decode cX8_goesThrough 22 = .ok (.getfield 385, 3) := by decide +kernel
theorem dX8_goesThrough_25 : decode cX8_goesThrough 25 = .ok (.aload_n 0, 1) := by decide +kernel
theorem dX8_goesThrough_26 : decode cX8_goesThrough 26 = .ok (.getfield 87, 3) := by decide +kernel
theorem dX8_goesThrough_29 : decode cX8_goesThrough 29 = .ok (.iconst 1, 1) := by decide +kernel
theorem dX8_goesThrough_30 : decode cX8_goesThrough 30 = .ok (.iaload, 1) := by decide +kernel
theorem dX8_goesThrough_31 : decode cX8_goesThrough 31 = .ok (.if_icmp .ge 145, 3) := by decide +kernel
theorem dX8_goesThrough_34 : decode cX8_goesThrough 34 = .ok (.aload_n 0, 1) := by decide +kernel
theorem dX8_goesThrough_35 : decode cX8_goesThrough 35 = .ok (.getfield 131, 3) := by decide +kernel
theorem dX8_goesThrough_38 : decode cX8_goesThrough 38 = .ok (.iload_n 1, 1) := by decide +kernel
theorem dX8_goesThrough_39 : decode cX8_goesThrough 39 = .ok (.iaload, 1) := by decide +kernel
theorem dX8_goesThrough_40 : decode cX8_goesThrough 40 = .ok (.istore_n 2, 1) := by decide +kernel
theorem dX8_goesThrough_41 : decode cX8_goesThrough 41 = .ok (.iinc 1 1, 3) := by decide +kernel
theorem dX8_goesThrough_44 : decode cX8_goesThrough 44 = .ok (.aload_n 0, 1) := by decide +kernel
theorem dX8_goesThrough_45 : decode cX8_goesThrough 45 = .ok (.getfield 137, 3) := by decide +kernel
theorem dX8_goesThrough_48 : decode cX8_goesThrough 48 = .ok (.aload_n 0, 1) := by decide +kernel
theorem dX8_goesThrough_49 : decode cX8_goesThrough 49 = .ok (.getfield 385, 3) := by decide +kernel
theorem dX8_goesThrough_52 : decode cX8_goesThrough 52 = .ok (.dup2, 1) := by decide +kernel
theorem dX8_goesThrough_53 : decode cX8_goesThrough 53 = .ok (.iaload, 1) := by decide +kernel
theorem dX8_goesThrough_54 : decode cX8_goesThrough 54 = .ok (.iconst 1, 1) := by decide +kernel
theorem dX8_goesThrough_55 : decode cX8_goesThrough 55 = .ok (.iadd, 1) := by decide +kernel
theorem dX8_goesThrough_56 : decode cX8_goesThrough 56 = .ok (.iastore, 1) := by decide +kernel
theorem dX8_goesThrough_57 : decode cX8_goesThrough 57 = .ok (.aload_n 0, 1) := by decide +kernel
theorem dX8_goesThrough_58 : decode cX8_goesThrough 58 = .ok (.getfield 143, 3) := by decide +kernel
theorem dX8_goesThrough_61 : decode cX8_goesThrough 61 = .ok (.aload_n 0, 1) := by decide +kernel
theorem dX8_goesThrough_62 : decode cX8_goesThrough 62 = .ok (.getfield 385, 3) := by decide +kernel
theorem dX8_goesThrough_65 : decode cX8_goesThrough 65 = .ok (.dup2, 1) := by decide +kernel
theorem dX8_goesThrough_66 : decode cX8_goesThrough 66 = .ok (.iaload, 1) := by decide +kernel
theorem dX8_goesThrough_67 : decode cX8_goesThrough 67 = .ok (.iload_n 2, 1) := by decide +kernel
theorem dX8_goesThrough_68 : decode cX8_goesThrough 68 = .ok (.invokestatic 391, 3) := by decide +kernel
theorem dX8_goesThrough_71 : decode cX8_goesThrough 71 = .ok (.iadd, 1) := by decide +kernel
theorem dX8_goesThrough_72 : decode cX8_goesThrough 72 = .ok (.iastore, 1) := by decide +kernel
theorem dX8_goesThrough_73 : decode cX8_goesThrough 73 = .ok (.iload_n 2, 1) := by decide +kernel
theorem dX8_goesThrough_74 : decode cX8_goesThrough 74 = .ok (.bipush (-2), 2) := by decide +kernel
theorem dX8_goesThrough_76 : decode cX8_goesThrough 76 = .ok (.if_icmp .ne 16, 3) := by decide +kernel
theorem dX8_goesThrough_79 : decode cX8_goesThrough 79 = .ok (.aload_n 0, 1) := by decide +kernel
theorem dX8_goesThrough_80 : decode cX8_goesThrough 80 = .ok (.getfield 146, 3) := by decide +kernel
theorem dX8_goesThrough_83 : decode cX8_goesThrough 83 = .ok (.aload_n 0, 1) := by decide +kernel
theorem dX8_goesThrough_84 : decode cX8_goesThrough 84 = .ok (.getfield 385, 3) := by decide +kernel
theorem dX8_goesThrough_87 : decode cX8_goesThrough 87 = .ok (.dup2, 1) := by decide +kernel
theorem dX8_goesThrough_88 : decode cX8_goesThrough 88 = .ok (.iaload, 1) := by decide +kernel
theorem dX8_goesThrough_89 : decode cX8_goesThrough 89 = .ok (.iconst 1, 1) := by decide +kernel
theorem dX8_goesThrough_90 : decode cX8_goesThrough 90 = .ok (.iadd, 1) := by decide +kernel
theorem dX8_goesThrough_91 : decode cX8_goesThrough 91 = .ok (.iastore, 1) := by decide +kernel
theorem dX8_goesThrough_92 : decode cX8_goesThrough 92 = .ok (.aload_n 0, 1) := by decide +kernel
theorem dX8_goesThrough_93 : decode cX8_goesThrough 93 = .ok (.getfield 143, 3) := by decide +kernel
theorem dX8_goesThrough_96 : decode cX8_goesThrough 96 = .ok (.aload_n 0, 1) := by decide +kernel
theorem dX8_goesThrough_97 : decode cX8_goesThrough 97 = .ok (.getfield 385, 3) := by decide +kernel
theorem dX8_goesThrough_100 : decode cX8_goesThrough 100 = .ok (.iaload, 1) := by decide +kernel
theorem dX8_goesThrough_101 : decode cX8_goesThrough 101 = .ok (.aload_n 0, 1) := by decide +kernel
theorem dX8_goesThrough_102 : decode cX8_goesThrough 102 = .ok (.getfield 84, 3) := by decide +kernel
theorem dX8_goesThrough_105 : decode cX8_goesThrough 105 = .ok (.iconst 1, 1) := by decide +kernel
theorem dX8_goesThrough_106 : decode cX8_goesThrough 106 = .ok (.iaload, 1) := by decide +kernel
theorem dX8_goesThrough_107 : decode cX8_goesThrough 107 = .ok (.if_icmp .ne 33, 3) := by decide +kernel
theorem dX8_goesThrough_110 : decode cX8_goesThrough 110 = .ok (.aload_n 0, 1) := by decide +kernel
theorem dX8_goesThrough_111 : decode cX8_goesThrough 111 = .ok (.getfield 140, 3) := by decide +kernel
theorem dX8_goesThrough_114 : decode cX8_goesThrough 114 = .ok (.aload_n 0, 1) := by decide +kernel
theorem dX8_goesThrough_115 : decode cX8_goesThrough 115 = .ok (.getfield 385, 3) := by decide +kernel
theorem dX8_goesThrough_118 : decode cX8_goesThrough 118 = .ok (.iaload, 1) := by decide +kernel
theorem dX8_goesThrough_119 : decode cX8_goesThrough 119 = .ok (.ifCond .ne 21, 3) := by decide +kernel
theorem dX8_goesThrough_122 : decode cX8_goesThrough 122 = .ok (.aload_n 0, 1) := by decide +kernel
theorem dX8_goesThrough_123 : decode cX8_goesThrough 123 = .ok (.getfield 140, 3) := by decide +kernel
theorem dX8_goesThrough_126 : decode cX8_goesThrough 126 = .ok (.aload_n 0, 1) := by decide +kernel
theorem dX8_goesThrough_127 : decode cX8_goesThrough 127 = .ok (.getfield 385, 3) := by decide +kernel
theorem dX8_goesThrough_130 : decode cX8_goesThrough 130 = .ok (.aload_n 0, 1) := by decide +kernel
theorem dX8_goesThrough_131 : decode cX8_goesThrough 131 = .ok (.getfield 137, 3) := by decide +kernel
theorem dX8_goesThrough_134 : decode cX8_goesThrough 134 = .ok (.aload_n 0, 1) := by decide +kernel
theorem dX8_goesThrough_135 : decode cX8_goesThrough 135 = .ok (.getfield 385, 3) := by decide +kernel
theorem dX8_goesThrough_138 : decode cX8_goesThrough 138 = .ok (.iaload, 1) := by decide +kernel
theorem dX8_goesThrough_139 : decode cX8_goesThrough 139 = .ok (.iastore, 1) := by decide +kernel
theorem dX8_goesThrough_140 : decode cX8_goesThrough 140 = .ok (.aload_n 0, 1) := by decide +kernel
theorem dX8_goesThrough_141 : decode cX8_goesThrough 141 = .ok (.aload_n 0, 1) := by decide +kernel
theorem dX8_goesThrough_142 : decode cX8_goesThrough 142 = .ok (.getfield 385, 3) := by decide +kernel
theorem dX8_goesThrough_145 : decode cX8_goesThrough 145 = .ok (.invokevirtual 395, 3) := by decide +kernel
theorem dX8_goesThrough_148 : decode cX8_goesThrough 148 = .ok (.ifCond .ne 6, 3) := by decide +kernel
theorem dX8_goesThrough_151 : decode cX8_goesThrough 151 = .ok (.goto (-138), 3) := by decide +kernel
theorem dX8_goesThrough_154 : decode cX8_goesThrough 154 = .ok (.aload_n 0, 1) := by decide +kernel
theorem dX8_goesThrough_155 : decode cX8_goesThrough 155 = .ok (.dup, 1) := by decide +kernel
theorem dX8_goesThrough_156 : decode cX8_goesThrough 156 = .ok (.getfield 385, 3) := by decide +kernel
theorem dX8_goesThrough_159 : decode cX8_goesThrough 159 = .ok (.iconst 1, 1) := by decide +kernel
theorem dX8_goesThrough_160 : decode cX8_goesThrough 160 = .ok (.iadd, 1) := by decide +kernel
theorem dX8_goesThrough_161 : decode cX8_goesThrough 161 = .ok (.putfield 385, 3) := by decide +kernel
theorem dX8_goesThrough_164 : decode cX8_goesThrough 164 = .ok (.aload_n 0, 1) := by decide +kernel
theorem dX8_goesThrough_165 : decode cX8_goesThrough 165 = .ok (.aload_n 0, 1) := by decide +kernel
theorem dX8_goesThrough_166 : decode cX8_goesThrough 166 = .ok (.getfield 385, 3) := by decide +kernel
theorem dX8_goesThrough_169 : decode cX8_goesThrough 169 = .ok (.iload_n 1, 1) := by decide +kernel
theorem dX8_goesThrough_170 : decode cX8_goesThrough 170 = .ok (.invokevirtual 388, 3) := by decide +kernel
theorem dX8_goesThrough_173 : decode cX8_goesThrough 173 = .ok (.goto (-160), 3) := by decide +kernel
theorem dX8_goesThrough_176 : decode cX8_goesThrough 176 = .ok (.aload_n 0, 1) := by decide +kernel
theorem dX8_goesThrough_177 : decode cX8_goesThrough 177 = .ok (.aload_n 0, 1) := by decide +kernel
theorem dX8_goesThrough_178 : decode cX8_goesThrough 178 = .ok (.getfield 84, 3) := by decide +kernel
theorem dX8_goesThrough_181 : decode cX8_goesThrough 181 = .ok (.iconst 1, 1) := by decide +kernel
theorem dX8_goesThrough_182 : decode cX8_goesThrough 182 = .ok (.iaload, 1) := by decide +kernel
theorem dX8_goesThrough_183 : decode cX8_goesThrough 183 = .ok (.putfield 398, 3) := by decide +kernel
theorem dX8_goesThrough_186 : decode cX8_goesThrough 186 = .ok (.aload_n 0, 1) := by decide +kernel
theorem dX8_goesThrough_187 : decode cX8_goesThrough 187 = .ok (.iconst 0, 1) := by decide +kernel
theorem dX8_goesThrough_188 : decode cX8_goesThrough 188 = .ok (.putfield 401, 3) := by decide +kernel
theorem dX8_goesThrough_191 : decode cX8_goesThrough 191 = .ok (.aload_n 0, 1) := by decide +kernel
theorem dX8_goesThrough_192 : decode cX8_goesThrough 192 = .ok (.iconst 0, 1) := by decide +kernel
theorem dX8_goesThrough_193 : decode cX8_goesThrough 193 = .ok (.putfield 404, 3) := by decide +kernel
theorem dX8_goesThrough_196 : decode cX8_goesThrough 196 = .ok (.aload_n 0, 1) := by decide +kernel
theorem dX8_goesThrough_197 : decode cX8_goesThrough 197 = .ok (.getfield 385, 3) := by decide +kernel
theorem dX8_goesThrough_200 : decode cX8_goesThrough 200 = .ok (.aload_n 0, 1) := by decide +kernel
theorem dX8_goesThrough_201 : decode cX8_goesThrough 201 = .ok (.getfield 87, 3) := by decide +kernel
theorem dX8_goesThrough_204 : decode cX8_goesThrough 204 = .ok (.iconst 1, 1) := by decide +kernel
theorem dX8_goesThrough_205 : decode cX8_goesThrough 205 = .ok (.iaload, 1) := by decide +kernel
theorem dX8_goesThrough_206 : decode cX8_goesThrough 206 = .ok (.if_icmp .ge 22, 3) := by decide +kernel
theorem dX8_goesThrough_209 : decode cX8_goesThrough 209 = .ok (.aload_n 0, 1) := by decide +kernel
theorem dX8_goesThrough_210 : decode cX8_goesThrough 210 = .ok (.dup, 1) := by decide +kernel
theorem dX8_goesThrough_211 : decode cX8_goesThrough 211 = .ok (.getfield 398, 3) := by decide +kernel
theorem dX8_goesThrough_214 : decode cX8_goesThrough 214 = .ok (.aload_n 0, 1) := by decide +kernel
theorem dX8_goesThrough_215 : decode cX8_goesThrough 215 = .ok (.getfield 143, 3) := by decide +kernel
theorem dX8_goesThrough_218 : decode cX8_goesThrough 218 = .ok (.aload_n 0, 1) := by decide +kernel
theorem dX8_goesThrough_219 : decode cX8_goesThrough 219 = .ok (.getfield 385, 3) := by decide +kernel
theorem dX8_goesThrough_222 : decode cX8_goesThrough 222 = .ok (.iaload, 1) := by decide +kernel
theorem dX8_goesThrough_223 : decode cX8_goesThrough 223 = .ok (.isub, 1) := by decide +kernel
theorem dX8_goesThrough_224 : decode cX8_goesThrough 224 = .ok (.putfield 398, 3) := by decide +kernel
theorem dX8_goesThrough_227 : decode cX8_goesThrough 227 = .ok (.return_, 1) := by decide +kernel
theorem dX8_goesThrough_228 : decode cX8_goesThrough 228 = .ok (.iconst 0, 1) := by decide +kernel
theorem dX8_goesThrough_229 : decode cX8_goesThrough 229 = .ok (.istore_n 2, 1) := by decide +kernel
theorem dX8_goesThrough_230 : decode cX8_goesThrough 230 = .ok (.iload_n 2, 1) := by decide +kernel
theorem dX8_goesThrough_231 : decode cX8_goesThrough 231 = .ok (.aload_n 0, 1) := by decide +kernel
theorem dX8_goesThrough_232 : decode cX8_goesThrough 232 = .ok (.getfield 87, 3) := by decide +kernel
theorem dX8_goesThrough_235 : decode cX8_goesThrough 235 = .ok (.iconst 1, 1) := by decide +kernel
theorem dX8_goesThrough_236 : decode cX8_goesThrough 236 = .ok (.iaload, 1) := by decide +kernel
theorem dX8_goesThrough_237 : decode cX8_goesThrough 237 = .ok (.if_icmp .ge 59, 3) := by decide +kernel
theorem dX8_goesThrough_240 : decode cX8_goesThrough 240 = .ok (.aload_n 0, 1) := by decide +kernel
theorem dX8_goesThrough_241 : decode cX8_goesThrough 241 = .ok (.iload_n 2, 1) := by decide +kernel
theorem dX8_goesThrough_242 : decode cX8_goesThrough 242 = .ok (.invokevirtual 407, 3) := by decide +kernel
theorem dX8_goesThrough_245 : decode cX8_goesThrough 245 = .ok (.aload_n 0, 1) := by decide +kernel
theorem dX8_goesThrough_246 : decode cX8_goesThrough 246 = .ok (.getfield 134, 3) := by decide +kernel
theorem dX8_goesThrough_249 : decode cX8_goesThrough 249 = .ok (.aload_n 0, 1) := by decide +kernel
theorem dX8_goesThrough_250 : decode cX8_goesThrough 250 = .ok (.getfield 385, 3) := by decide +kernel
theorem dX8_goesThrough_253 : decode cX8_goesThrough 253 = .ok (.iaload, 1) := by decide +kernel
theorem dX8_goesThrough_254 : decode cX8_goesThrough 254 = .ok (.aload_n 0, 1) := by decide +kernel
theorem dX8_goesThrough_255 : decode cX8_goesThrough 255 = .ok (.getfield 134, 3) := by decide +kernel
theorem dX8_goesThrough_258 : decode cX8_goesThrough 258 = .ok (.iload_n 2, 1) := by decide +kernel
theorem dX8_goesThrough_259 : decode cX8_goesThrough 259 = .ok (.iaload, 1) := by decide +kernel
theorem dX8_goesThrough_260 : decode cX8_goesThrough 260 = .ok (.isub, 1) := by decide +kernel
theorem dX8_goesThrough_261 : decode cX8_goesThrough 261 = .ok (.aload_n 0, 1) := by decide +kernel
theorem dX8_goesThrough_262 : decode cX8_goesThrough 262 = .ok (.getfield 137, 3) := by decide +kernel
theorem dX8_goesThrough_265 : decode cX8_goesThrough 265 = .ok (.iload_n 2, 1) := by decide +kernel
theorem dX8_goesThrough_266 : decode cX8_goesThrough 266 = .ok (.iaload, 1) := by decide +kernel
theorem dX8_goesThrough_267 : decode cX8_goesThrough 267 = .ok (.isub, 1) := by decide +kernel
theorem dX8_goesThrough_268 : decode cX8_goesThrough 268 = .ok (.isub, 1) := by decide +kernel
theorem dX8_goesThrough_269 : decode cX8_goesThrough 269 = .ok (.istore_n 3, 1) := by decide +kernel
theorem dX8_goesThrough_270 : decode cX8_goesThrough 270 = .ok (.aload_n 0, 1) := by decide +kernel
theorem dX8_goesThrough_271 : decode cX8_goesThrough 271 = .ok (.iload_n 3, 1) := by decide +kernel
theorem dX8_goesThrough_272 : decode cX8_goesThrough 272 = .ok (.aload_n 0, 1) := by decide +kernel
theorem dX8_goesThrough_273 : decode cX8_goesThrough 273 = .ok (.getfield 401, 3) := by decide +kernel
theorem dX8_goesThrough_276 : decode cX8_goesThrough 276 = .ok (.if_icmp .le 7, 3) := by decide +kernel
theorem dX8_goesThrough_279 : decode cX8_goesThrough 279 = .ok (.iload_n 3, 1) := by decide +kernel
theorem dX8_goesThrough_280 : decode cX8_goesThrough 280 = .ok (.goto 7, 3) := by decide +kernel
theorem dX8_goesThrough_283 : decode cX8_goesThrough 283 = .ok (.aload_n 0, 1) := by decide +kernel
theorem dX8_goesThrough_284 : decode cX8_goesThrough 284 = .ok (.getfield 401, 3) := by decide +kernel
theorem dX8_goesThrough_287 : decode cX8_goesThrough 287 = .ok (.putfield 401, 3) := by decide +kernel
theorem dX8_goesThrough_290 : decode cX8_goesThrough 290 = .ok (.iinc 2 1, 3) := by decide +kernel
theorem dX8_goesThrough_293 : decode cX8_goesThrough 293 = .ok (.goto (-63), 3) := by decide +kernel
theorem dX8_goesThrough_296 : decode cX8_goesThrough 296 = .ok (.aload_n 0, 1) := by decide +kernel
theorem dX8_goesThrough_297 : decode cX8_goesThrough 297 = .ok (.getfield 137, 3) := by decide +kernel
theorem dX8_goesThrough_300 : decode cX8_goesThrough 300 = .ok (.aload_n 0, 1) := by decide +kernel
theorem dX8_goesThrough_301 : decode cX8_goesThrough 301 = .ok (.getfield 385, 3) := by decide +kernel
theorem dX8_goesThrough_304 : decode cX8_goesThrough 304 = .ok (.aload_n 0, 1) := by decide +kernel
theorem dX8_goesThrough_305 : decode cX8_goesThrough 305 = .ok (.getfield 324, 3) := by decide +kernel
theorem dX8_goesThrough_308 : decode cX8_goesThrough 308 = .ok (.aload_n 0, 1) := by decide +kernel
theorem dX8_goesThrough_309 : decode cX8_goesThrough 309 = .ok (.getfield 134, 3) := by decide +kernel
theorem dX8_goesThrough_312 : decode cX8_goesThrough 312 = .ok (.aload_n 0, 1) := by decide +kernel
theorem dX8_goesThrough_313 : decode cX8_goesThrough 313 = .ok (.getfield 385, 3) := by decide +kernel
theorem dX8_goesThrough_316 : decode cX8_goesThrough 316 = .ok (.iaload, 1) := by decide +kernel
theorem dX8_goesThrough_317 : decode cX8_goesThrough 317 = .ok (.isub, 1) := by decide +kernel
theorem dX8_goesThrough_318 : decode cX8_goesThrough 318 = .ok (.iastore, 1) := by decide +kernel
theorem dX8_goesThrough_319 : decode cX8_goesThrough 319 = .ok (.iload_n 1, 1) := by decide +kernel
theorem dX8_goesThrough_320 : decode cX8_goesThrough 320 = .ok (.aload_n 0, 1) := by decide +kernel
theorem dX8_goesThrough_321 : decode cX8_goesThrough 321 = .ok (.getfield 324, 3) := by decide +kernel
theorem dX8_goesThrough_324 : decode cX8_goesThrough 324 = .ok (.if_icmp .ge 51, 3) := by decide +kernel
theorem dX8_goesThrough_327 : decode cX8_goesThrough 327 = .ok (.aload_n 0, 1) := by decide +kernel
theorem dX8_goesThrough_328 : decode cX8_goesThrough 328 = .ok (.dup, 1) := by decide +kernel
theorem dX8_goesThrough_329 : decode cX8_goesThrough 329 = .ok (.getfield 398, 3) := by decide +kernel
theorem dX8_goesThrough_332 : decode cX8_goesThrough 332 = .ok (.aload_n 0, 1) := by decide +kernel
theorem dX8_goesThrough_333 : decode cX8_goesThrough 333 = .ok (.getfield 131, 3) := by decide +kernel
theorem dX8_goesThrough_336 : decode cX8_goesThrough 336 = .ok (.iload_n 1, 1) := by decide +kernel
theorem dX8_goesThrough_337 : decode cX8_goesThrough 337 = .ok (.iaload, 1) := by decide +kernel
theorem dX8_goesThrough_338 : decode cX8_goesThrough 338 = .ok (.invokestatic 391, 3) := by decide +kernel
theorem dX8_goesThrough_341 : decode cX8_goesThrough 341 = .ok (.isub, 1) := by decide +kernel
theorem dX8_goesThrough_342 : decode cX8_goesThrough 342 = .ok (.putfield 398, 3) := by decide +kernel
