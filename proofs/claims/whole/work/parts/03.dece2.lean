theorem dX8_goesThrough_345 : decode cX8_goesThrough 345 = .ok (.aload_n 0, 1) := by decide +kernel
theorem dX8_goesThrough_346 : decode cX8_goesThrough 346 = .ok (.aload_n 0, 1) := by decide +kernel
theorem dX8_goesThrough_347 : decode cX8_goesThrough 347 = .ok (.getfield 398, 3) := by decide +kernel
theorem dX8_goesThrough_350 : decode cX8_goesThrough 350 = .ok (.ifCond .ne 12, 3) := by decide +kernel
theorem dX8_goesThrough_353 : decode cX8_goesThrough 353 = .ok (.aload_n 0, 1) := by decide +kernel
theorem dX8_goesThrough_354 : decode cX8_goesThrough 354 = .ok (.getfield 84, 3) := by decide +kernel
theorem dX8_goesThrough_357 : decode cX8_goesThrough 357 = .ok (.iconst 1, 1) := by decide +kernel
theorem dX8_goesThrough_358 : decode cX8_goesThrough 358 = .ok (.iaload, 1) := by decide +kernel
theorem dX8_goesThrough_359 : decode cX8_goesThrough 359 = .ok (.goto 7, 3) := by decide +kernel
theorem dX8_goesThrough_362 : decode cX8_goesThrough 362 = .ok (.aload_n 0, 1) := by decide +kernel
theorem dX8_goesThrough_363 : decode cX8_goesThrough 363 = .ok (.getfield 398, 3) := by decide +kernel
theorem dX8_goesThrough_366 : decode cX8_goesThrough 366 = .ok (.putfield 398, 3) := by decide +kernel
theorem dX8_goesThrough_369 : decode cX8_goesThrough 369 = .ok (.iinc 1 1, 3) := by decide +kernel
theorem dX8_goesThrough_372 : decode cX8_goesThrough 372 = .ok (.goto (-53), 3) := by decide +kernel
theorem dX8_goesThrough_375 : decode cX8_goesThrough 375 = .ok (.aload_n 0, 1) := by decide +kernel
theorem dX8_goesThrough_376 : decode cX8_goesThrough 376 = .ok (.aload_n 0, 1) := by decide +kernel
theorem dX8_goesThrough_377 : decode cX8_goesThrough 377 = .ok (.getfield 137, 3) := by decide +kernel
theorem dX8_goesThrough_380 : decode cX8_goesThrough 380 = .ok (.aload_n 0, 1) := by decide +kernel
theorem dX8_goesThrough_381 : decode cX8_goesThrough 381 = .ok (.getfield 385, 3) := by decide +kernel
theorem dX8_goesThrough_384 : decode cX8_goesThrough 384 = .ok (.iaload, 1) := by decide +kernel
theorem dX8_goesThrough_385 : decode cX8_goesThrough 385 = .ok (.aload_n 0, 1) := by decide +kernel
theorem dX8_goesThrough_386 : decode cX8_goesThrough 386 = .ok (.getfield 401, 3) := by decide +kernel
theorem dX8_goesThrough_389 : decode cX8_goesThrough 389 = .ok (.if_icmp .ne 7, 3) := by decide +kernel
theorem dX8_goesThrough_392 : decode cX8_goesThrough 392 = .ok (.iconst 1, 1) := by decide +kernel
theorem dX8_goesThrough_393 : decode cX8_goesThrough 393 = .ok (.goto 4, 3) := by decide +kernel
theorem dX8_goesThrough_396 : decode cX8_goesThrough 396 = .ok (.iconst 0, 1) := by decide +kernel
theorem dX8_goesThrough_397 : decode cX8_goesThrough 397 = .ok (.putfield 404, 3) := by decide +kernel
theorem dX8_goesThrough_400 : decode cX8_goesThrough 400 = .ok (.return_, 1) := by decide +kernel
theorem dX8_owed_0 : decode cX8_owed 0 = .ok (.aload_n 0, 1) := by decide +kernel
theorem dX8_owed_1 : decode cX8_owed 1 = .ok (.getfield 140, 3) := by decide +kernel
theorem dX8_owed_4 : decode cX8_owed 4 = .ok (.iload_n 1, 1) := by decide +kernel
theorem dX8_owed_5 : decode cX8_owed 5 = .ok (.iaload, 1) := by decide +kernel
theorem dX8_owed_6 : decode cX8_owed 6 = .ok (.ifCond .le 19, 3) := by decide +kernel
theorem dX8_owed_9 : decode cX8_owed 9 = .ok (.aload_n 0, 1) := by decide +kernel
theorem dX8_owed_10 : decode cX8_owed 10 = .ok (.getfield 96, 3) := by decide +kernel
theorem dX8_owed_13 : decode cX8_owed 13 = .ok (.iconst 4, 1) := by decide +kernel
theorem dX8_owed_14 : decode cX8_owed 14 = .ok (.aload_n 0, 1) := by decide +kernel
theorem dX8_owed_15 : decode cX8_owed 15 = .ok (.getfield 140, 3) := by decide +kernel
theorem dX8_owed_18 : decode cX8_owed 18 = .ok (.iload_n 1, 1) := by decide +kernel
theorem dX8_owed_19 : decode cX8_owed 19 = .ok (.iaload, 1) := by decide +kernel
theorem dX8_owed_20 : decode cX8_owed 20 = .ok (.iadd, 1) := by decide +kernel
theorem dX8_owed_21 : decode cX8_owed 21 = .ok (.iaload, 1) := by decide +kernel
theorem dX8_owed_22 : decode cX8_owed 22 = .ok (.goto 4, 3) := by decide +kernel
theorem dX8_owed_25 : decode cX8_owed 25 = .ok (.iconst 0, 1) := by decide +kernel
theorem dX8_owed_26 : decode cX8_owed 26 = .ok (.ireturn, 1) := by decide +kernel
theorem dX8_roll_0 : decode cX8_roll 0 = .ok (.aload_n 0, 1) := by decide +kernel
theorem dX8_roll_1 : decode cX8_roll 1 = .ok (.invokevirtual 410, 3) := by decide +kernel
theorem dX8_roll_4 : decode cX8_roll 4 = .ok (.aload_n 0, 1) := by decide +kernel
theorem dX8_roll_5 : decode cX8_roll 5 = .ok (.getfield 404, 3) := by decide +kernel
theorem dX8_roll_8 : decode cX8_roll 8 = .ok (.ifCond .ne 23, 3) := by decide +kernel
theorem dX8_roll_11 : decode cX8_roll 11 = .ok (.iload_n 1, 1) := by decide +kernel
theorem dX8_roll_12 : decode cX8_roll 12 = .ok (.bipush (-2), 2) := by decide +kernel
theorem dX8_roll_14 : decode cX8_roll 14 = .ok (.if_icmp .eq 19, 3) := by decide +kernel
theorem dX8_roll_17 : decode cX8_roll 17 = .ok (.iload_n 1, 1) := by decide +kernel
theorem dX8_roll_18 : decode cX8_roll 18 = .ok (.i2l, 1) := by decide +kernel
theorem dX8_roll_19 : decode cX8_roll 19 = .ok (.lconst 0, 1) := by decide +kernel
theorem dX8_roll_20 : decode cX8_roll 20 = .ok (.aload_n 0, 1) := by decide +kernel
theorem dX8_roll_21 : decode cX8_roll 21 = .ok (.getfield 398, 3) := by decide +kernel
theorem dX8_roll_24 : decode cX8_roll 24 = .ok (.i2l, 1) := by decide +kernel
theorem dX8_roll_25 : decode cX8_roll 25 = .ok (.invokestatic 223, 3) := by decide +kernel
theorem dX8_roll_28 : decode cX8_roll 28 = .ok (.ifCond .ne 5, 3) := by decide +kernel
theorem dX8_roll_31 : decode cX8_roll 31 = .ok (.iconst 0, 1) := by decide +kernel
theorem dX8_roll_32 : decode cX8_roll 32 = .ok (.ireturn, 1) := by decide +kernel
theorem dX8_roll_33 : decode cX8_roll 33 = .ok (.aload_n 0, 1) := by decide +kernel
theorem dX8_roll_34 : decode cX8_roll 34 = .ok (.getfield 131, 3) := by decide +kernel
theorem dX8_roll_37 : decode cX8_roll 37 = .ok (.aload_n 0, 1) := by decide +kernel
theorem dX8_roll_38 : decode cX8_roll 38 = .ok (.getfield 324, 3) := by decide +kernel
theorem dX8_roll_41 : decode cX8_roll 41 = .ok (.iload_n 1, 1) := by decide +kernel
theorem dX8_roll_42 : decode cX8_roll 42 = .ok (.iastore, 1) := by decide +kernel
theorem dX8_roll_43 : decode cX8_roll 43 = .ok (.aload_n 0, 1) := by decide +kernel
theorem dX8_roll_44 : decode cX8_roll 44 = .ok (.dup, 1) := by decide +kernel
theorem dX8_roll_45 : decode cX8_roll 45 = .ok (.getfield 324, 3) := by decide +kernel
theorem dX8_roll_48 : decode cX8_roll 48 = .ok (.iconst 1, 1) := by decide +kernel
theorem dX8_roll_49 : decode cX8_roll 49 = .ok (.iadd, 1) := by decide +kernel
theorem dX8_roll_50 : decode cX8_roll 50 = .ok (.putfield 324, 3) := by decide +kernel
theorem dX8_roll_53 : decode cX8_roll 53 = .ok (.aload_n 0, 1) := by decide +kernel
theorem dX8_roll_54 : decode cX8_roll 54 = .ok (.iconst 0, 1) := by decide +kernel
theorem dX8_roll_55 : decode cX8_roll 55 = .ok (.putfield 334, 3) := by decide +kernel
theorem dX8_roll_58 : decode cX8_roll 58 = .ok (.iconst 1, 1) := by decide +kernel
theorem dX8_roll_59 : decode cX8_roll 59 = .ok (.ireturn, 1) := by decide +kernel
theorem dX8_back_0 : decode cX8_back 0 = .ok (.aload_n 0, 1) := by decide +kernel
theorem dX8_back_1 : decode cX8_back 1 = .ok (.getfield 324, 3) := by decide +kernel
theorem dX8_back_4 : decode cX8_back 4 = .ok (.ifCond .ne 5, 3) := by decide +kernel
theorem dX8_back_7 : decode cX8_back 7 = .ok (.iconst 0, 1) := by decide +kernel
theorem dX8_back_8 : decode cX8_back 8 = .ok (.ireturn, 1) := by decide +kernel
theorem dX8_back_9 : decode cX8_back 9 = .ok (.aload_n 0, 1) := by decide +kernel
theorem dX8_back_10 : decode cX8_back 10 = .ok (.dup, 1) := by decide +kernel
theorem dX8_back_11 : decode cX8_back 11 = .ok (.getfield 324, 3) := by decide +kernel
theorem dX8_back_14 : decode cX8_back 14 = .ok (.iconst 1, 1) := by decide +kernel
theorem dX8_back_15 : decode cX8_back 15 = .ok (.isub, 1) := by decide +kernel
theorem dX8_back_16 : decode cX8_back 16 = .ok (.putfield 324, 3) := by decide +kernel
theorem dX8_back_19 : decode cX8_back 19 = .ok (.aload_n 0, 1) := by decide +kernel
theorem dX8_back_20 : decode cX8_back 20 = .ok (.iconst 0, 1) := by decide +kernel
theorem dX8_back_21 : decode cX8_back 21 = .ok (.putfield 327, 3) := by decide +kernel
theorem dX8_back_24 : decode cX8_back 24 = .ok (.aload_n 0, 1) := by decide +kernel
theorem dX8_back_25 : decode cX8_back 25 = .ok (.iconst 0, 1) := by decide +kernel
theorem dX8_back_26 : decode cX8_back 26 = .ok (.putfield 334, 3) := by decide +kernel
theorem dX8_back_29 : decode cX8_back 29 = .ok (.iconst 1, 1) := by decide +kernel
theorem dX8_back_30 : decode cX8_back 30 = .ok (.ireturn, 1) := by decide +kernel
theorem dX8_clear_0 : decode cX8_clear 0 = .ok (.aload_n 0, 1) := by decide +kernel
theorem dX8_clear_1 : decode cX8_clear 1 = .ok (.getfield 324, 3) := by decide +kernel
theorem dX8_clear_4 : decode cX8_clear 4 = .ok (.istore_n 1, 1) := by decide +kernel
theorem dX8_clear_5 : decode cX8_clear 5 = .ok (.aload_n 0, 1) := by decide +kernel
theorem dX8_clear_6 : decode cX8_clear 6 = .ok (.iconst 0, 1) := by decide +kernel
theorem dX8_clear_7 : decode cX8_clear 7 = .ok (.putfield 324, 3) := by decide +kernel
theorem dX8_clear_10 : decode cX8_clear 10 = .ok (.aload_n 0, 1) := by decide +kernel
theorem dX8_clear_11 : decode cX8_clear 11 = .ok (.iconst 0, 1) := by decide +kernel
theorem dX8_clear_12 : decode cX8_clear 12 = .ok (.putfield 327, 3) := by decide +kernel
theorem dX8_clear_15 : decode cX8_clear 15 = .ok (.aload_n 0, 1) := by decide +kernel
theorem dX8_clear_16 : decode cX8_clear 16 = .ok (.iconst 0, 1) := by decide +kernel
theorem dX8_clear_17 : decode cX8_clear 17 = .ok (.putfield 334, 3) := by decide +kernel
theorem dX8_clear_20 : decode cX8_clear 20 = .ok (.iload_n 1, 1) := by decide +kernel
theorem dX8_clear_21 : decode cX8_clear 21 = .ok (.ireturn, 1) := by decide +kernel
theorem dX8_sheet_0 : decode cX8_sheet 0 = .ok (.aload_n 0, 1) := by decide +kernel
theorem dX8_sheet_1 : decode cX8_sheet 1 = .ok (.invokevirtual 410, 3) := by decide +kernel
theorem dX8_sheet_4 : decode cX8_sheet 4 = .ok (.iload_n 1, 1) := by decide +kernel
theorem dX8_sheet_5 : decode cX8_sheet 5 = .ok (.tableswitch 115 0 5 #[39, 44, 60, 81, 97, 110], 39) := by decide +kernel
theorem dX8_sheet_44 : decode cX8_sheet 44 = .ok (.aload_n 0, 1) := by decide +kernel
theorem dX8_sheet_45 : decode cX8_sheet 45 = .ok (.getfield 324, 3) := by decide +kernel
theorem dX8_sheet_48 : decode cX8_sheet 48 = .ok (.ireturn, 1) := by decide +kernel
theorem dX8_sheet_49 : decode cX8_sheet 49 = .ok (.aload_n 0, 1) := by decide +kernel
theorem dX8_sheet_50 : decode cX8_sheet 50 = .ok (.getfield 404, 3) := by decide +kernel
theorem dX8_sheet_53 : decode cX8_sheet 53 = .ok (.ifCond .eq 7, 3) := by decide +kernel
theorem dX8_sheet_56 : decode cX8_sheet 56 = .ok (.iconst (-1), 1) := by decide +kernel
theorem dX8_sheet_57 : decode cX8_sheet 57 = .ok (.goto 7, 3) := by decide +kernel
theorem dX8_sheet_60 : decode cX8_sheet 60 = .ok (.aload_n 0, 1) := by decide +kernel
theorem dX8_sheet_61 : decode cX8_sheet 61 = .ok (.getfield 385, 3) := by decide +kernel
theorem dX8_sheet_64 : decode cX8_sheet 64 = .ok (.ireturn, 1) := by decide +kernel
theorem dX8_sheet_65 : decode cX8_sheet 65 = .ok (.aload_n 0, 1) := by decide +kernel
theorem dX8_sheet_66 : decode cX8_sheet 66 = .ok (.getfield 404, 3) := by decide +kernel
theorem dX8_sheet_69 : decode cX8_sheet 69 = .ok (.ifCond .eq 7, 3) := by decide +kernel
theorem dX8_sheet_72 : decode cX8_sheet 72 = .ok (.iconst 0, 1) := by decide +kernel
theorem dX8_sheet_73 : decode cX8_sheet 73 = .ok (.goto 12, 3) := by decide +kernel
theorem dX8_sheet_76 : decode cX8_sheet 76 = .ok (.aload_n 0, 1) := by decide +kernel
theorem dX8_sheet_77 : decode cX8_sheet 77 = .ok (.getfield 137, 3) := by decide +kernel
theorem dX8_sheet_80 : decode cX8_sheet 80 = .ok (.aload_n 0, 1) := by decide +kernel
theorem dX8_sheet_81 : decode cX8_sheet 81 = .ok (.getfield 385, 3) := by decide +kernel
theorem dX8_sheet_84 : decode cX8_sheet 84 = .ok (.iaload, 1) := by decide +kernel
theorem dX8_sheet_85 : decode cX8_sheet 85 = .ok (.ireturn, 1) := by decide +kernel
theorem dX8_sheet_86 : decode cX8_sheet 86 = .ok (.aload_n 0, 1) := by decide +kernel
theorem dX8_sheet_87 : decode cX8_sheet 87 = .ok (.getfield 404, 3) := by decide +kernel
theorem dX8_sheet_90 : decode cX8_sheet 90 = .ok (.ifCond .eq 7, 3) := by decide +kernel
theorem dX8_sheet_93 : decode cX8_sheet 93 = .ok (.iconst 0, 1) := by decide +kernel
theorem dX8_sheet_94 : decode cX8_sheet 94 = .ok (.goto 7, 3) := by decide +kernel
theorem dX8_sheet_97 : decode cX8_sheet 97 = .ok (.aload_n 0, 1) := by decide +kernel
theorem dX8_sheet_98 : decode cX8_sheet 98 = .ok (.getfield 398, 3) := by decide +kernel
theorem dX8_sheet_101 : decode cX8_sheet 101 = .ok (.ireturn, 1) := by decide +kernel
theorem dX8_sheet_102 : decode cX8_sheet 102 = .ok (.aload_n 0, 1) := by decide +kernel
theorem dX8_sheet_103 : decode cX8_sheet 103 = .ok (.getfield 404, 3) := by decide +kernel
theorem dX8_sheet_106 : decode cX8_sheet 106 = .ok (.ifCond .eq 7, 3) := by decide +kernel
theorem dX8_sheet_109 : decode cX8_sheet 109 = .ok (.iconst 1, 1) := by decide +kernel
theorem dX8_sheet_110 : decode cX8_sheet 110 = .ok (.goto 4, 3) := by decide +kernel
theorem dX8_sheet_113 : decode cX8_sheet 113 = .ok (.iconst 0, 1) := by decide +kernel
theorem dX8_sheet_114 : decode cX8_sheet 114 = .ok (.ireturn, 1) := by decide +kernel
theorem dX8_sheet_115 : decode cX8_sheet 115 = .ok (.aload_n 0, 1) := by decide +kernel
theorem dX8_sheet_116 : decode cX8_sheet 116 = .ok (.getfield 401, 3) := by decide +kernel
theorem dX8_sheet_119 : decode cX8_sheet 119 = .ok (.ireturn, 1) := by decide +kernel
theorem dX8_sheet_120 : decode cX8_sheet 120 = .ok (.iconst (-1), 1) := by decide +kernel
theorem dX8_sheet_121 : decode cX8_sheet 121 = .ok (.ireturn, 1) := by decide +kernel
theorem dX8_rolled_0 : decode cX8_rolled 0 = .ok (.iload_n 1, 1) := by decide +kernel
theorem dX8_rolled_1 : decode cX8_rolled 1 = .ok (.i2l, 1) := by decide +kernel
theorem dX8_rolled_2 : decode cX8_rolled 2 = .ok (.lconst 0, 1) := by decide +kernel
theorem dX8_rolled_3 : decode cX8_rolled 3 = .ok (.aload_n 0, 1) := by decide +kernel
theorem dX8_rolled_4 : decode cX8_rolled 4 = .ok (.getfield 324, 3) := by decide +kernel
theorem dX8_rolled_7 : decode cX8_rolled 7 = .ok (.iconst 1, 1) := by decide +kernel
theorem dX8_rolled_8 : decode cX8_rolled 8 = .ok (.isub, 1) := by decide +kernel
theorem dX8_rolled_9 : decode cX8_rolled 9 = .ok (.i2l, 1) := by decide +kernel
theorem dX8_rolled_10 : decode cX8_rolled 10 = .ok (.invokestatic 223, 3) := by decide +kernel
theorem dX8_rolled_13 : decode cX8_rolled 13 = .ok (.ifCond .eq 12, 3) := by decide +kernel
theorem dX8_rolled_16 : decode cX8_rolled 16 = .ok (.aload_n 0, 1) := by decide +kernel
theorem dX8_rolled_17 : decode cX8_rolled 17 = .ok (.getfield 131, 3) := by decide +kernel
theorem dX8_rolled_20 : decode cX8_rolled 20 = .ok (.iload_n 1, 1) := by decide +kernel
theorem dX8_rolled_21 : decode cX8_rolled 21 = .ok (.iaload, 1) := by decide +kernel
theorem dX8_rolled_22 : decode cX8_rolled 22 = .ok (.goto 4, 3) := by decide +kernel
theorem dX8_rolled_25 : decode cX8_rolled 25 = .ok (.iconst (-1), 1) := by decide +kernel
theorem dX8_rolled_26 : decode cX8_rolled 26 = .ok (.ireturn, 1) := by decide +kernel
theorem dX8_frame_0 : decode cX8_frame 0 = .ok (.aload_n 0, 1) := by decide +kernel
theorem dX8_frame_1 : decode cX8_frame 1 = .ok (.invokevirtual 410, 3) := by decide +kernel
theorem dX8_frame_4 : decode cX8_frame 4 = .ok (.iload_n 1, 1) := by decide +kernel
theorem dX8_frame_5 : decode cX8_frame 5 = .ok (.i2l, 1) := by decide +kernel
theorem dX8_frame_6 : decode cX8_frame 6 = .ok (.lconst 0, 1) := by decide +kernel
theorem dX8_frame_7 : decode cX8_frame 7 = .ok (.aload_n 0, 1) := by decide +kernel
theorem dX8_frame_8 : decode cX8_frame 8 = .ok (.getfield 87, 3) := by decide +kernel
theorem dX8_frame_11 : decode cX8_frame 11 = .ok (.iconst 1, 1) := by decide +kernel
theorem dX8_frame_12 : decode cX8_frame 12 = .ok (.iaload, 1) := by decide +kernel
theorem dX8_frame_13 : decode cX8_frame 13 = .ok (.iconst 1, 1) := by decide +kernel
theorem dX8_frame_14 : decode cX8_frame 14 = .ok (.isub, 1) := by decide +kernel
theorem dX8_frame_15 : decode cX8_frame 15 = .ok (.i2l, 1) := by decide +kernel
theorem dX8_frame_16 : decode cX8_frame 16 = .ok (.invokestatic 223, 3) := by decide +kernel
theorem dX8_frame_19 : decode cX8_frame 19 = .ok (.ifCond .eq 20, 3) := by decide +kernel
theorem dX8_frame_22 : decode cX8_frame 22 = .ok (.iload_n 1, 1) := by decide +kernel
theorem dX8_frame_23 : decode cX8_frame 23 = .ok (.aload_n 0, 1) := by decide +kernel
theorem dX8_frame_24 : decode cX8_frame 24 = .ok (.getfield 385, 3) := by decide +kernel
theorem dX8_frame_27 : decode cX8_frame 27 = .ok (.if_icmp .gt 12, 3) := by decide +kernel
theorem dX8_frame_30 : decode cX8_frame 30 = .ok (.aload_n 0, 1) := by decide +kernel
theorem dX8_frame_31 : decode cX8_frame 31 = .ok (.getfield 137, 3) := by decide +kernel
theorem dX8_frame_34 : decode cX8_frame 34 = .ok (.iload_n 1, 1) := by decide +kernel
theorem dX8_frame_35 : decode cX8_frame 35 = .ok (.iaload, 1) := by decide +kernel
theorem dX8_frame_36 : decode cX8_frame 36 = .ok (.ifCond .ne 5, 3) := by decide +kernel
theorem dX8_frame_39 : decode cX8_frame 39 = .ok (.iconst (-1), 1) := by decide +kernel
theorem dX8_frame_40 : decode cX8_frame 40 = .ok (.ireturn, 1) := by decide +kernel
theorem dX8_frame_41 : decode cX8_frame 41 = .ok (.iload_n 2, 1) := by decide +kernel
theorem dX8_frame_42 : decode cX8_frame 42 = .ok (.tableswitch 58 0 3 #[30, 37, 44, 51], 30) := by decide +kernel
theorem dX8_frame_72 : decode cX8_frame 72 = .ok (.aload_n 0, 1) := by decide +kernel
theorem dX8_frame_73 : decode cX8_frame 73 = .ok (.getfield 143, 3) := by decide +kernel
theorem dX8_frame_76 : decode cX8_frame 76 = .ok (.iload_n 1, 1) := by decide +kernel
theorem dX8_frame_77 : decode cX8_frame 77 = .ok (.iaload, 1) := by decide +kernel
theorem dX8_frame_78 : decode cX8_frame 78 = .ok (.ireturn, 1) := by decide +kernel
theorem dX8_frame_79 : decode cX8_frame 79 = .ok (.aload_n 0, 1) := by decide +kernel
theorem dX8_frame_80 : decode cX8_frame 80 = .ok (.getfield 137, 3) := by decide +kernel
theorem dX8_frame_83 : decode cX8_frame 83 = .ok (.iload_n 1, 1) := by decide +kernel
theorem dX8_frame_84 : decode cX8_frame 84 = .ok (.iaload, 1) := by decide +kernel
theorem dX8_frame_85 : decode cX8_frame 85 = .ok (.ireturn, 1) := by decide +kernel
theorem dX8_frame_86 : decode cX8_frame 86 = .ok (.aload_n 0, 1) := by decide +kernel
theorem dX8_frame_87 : decode cX8_frame 87 = .ok (.getfield 140, 3) := by decide +kernel
theorem dX8_frame_90 : decode cX8_frame 90 = .ok (.iload_n 1, 1) := by decide +kernel
theorem dX8_frame_91 : decode cX8_frame 91 = .ok (.iaload, 1) := by decide +kernel
theorem dX8_frame_92 : decode cX8_frame 92 = .ok (.ireturn, 1) := by decide +kernel
theorem dX8_frame_93 : decode cX8_frame 93 = .ok (.aload_n 0, 1) := by decide +kernel
theorem dX8_frame_94 : decode cX8_frame 94 = .ok (.getfield 146, 3) := by decide +kernel
theorem dX8_frame_97 : decode cX8_frame 97 = .ok (.iload_n 1, 1) := by decide +kernel
theorem dX8_frame_98 : decode cX8_frame 98 = .ok (.iaload, 1) := by decide +kernel
theorem dX8_frame_99 : decode cX8_frame 99 = .ok (.ireturn, 1) := by decide +kernel
theorem dX8_frame_100 : decode cX8_frame 100 = .ok (.iconst (-1), 1) := by decide +kernel
theorem dX8_frame_101 : decode cX8_frame 101 = .ok (.ireturn, 1) := by decide +kernel
theorem dX8_pointsOf_0 : decode cX8_pointsOf 0 = .ok (.aload_n 0, 1) := by decide +kernel
theorem dX8_pointsOf_1 : decode cX8_pointsOf 1 = .ok (.getfield 143, 3) := by decide +kernel
theorem dX8_pointsOf_4 : decode cX8_pointsOf 4 = .ok (.iload_n 1, 1) := by decide +kernel
theorem dX8_pointsOf_5 : decode cX8_pointsOf 5 = .ok (.iaload, 1) := by decide +kernel
theorem dX8_pointsOf_6 : decode cX8_pointsOf 6 = .ok (.aload_n 0, 1) := by decide +kernel
theorem dX8_pointsOf_7 : decode cX8_pointsOf 7 = .ok (.getfield 93, 3) := by decide +kernel
theorem dX8_pointsOf_10 : decode cX8_pointsOf 10 = .ok (.iconst 1, 1) := by decide +kernel
theorem dX8_pointsOf_11 : decode cX8_pointsOf 11 = .ok (.iaload, 1) := by decide +kernel
theorem dX8_pointsOf_12 : decode cX8_pointsOf 12 = .ok (.aload_n 0, 1) := by decide +kernel
theorem dX8_pointsOf_13 : decode cX8_pointsOf 13 = .ok (.getfield 146, 3) := by decide +kernel
theorem dX8_pointsOf_16 : decode cX8_pointsOf 16 = .ok (.iload_n 1, 1) := by decide +kernel
theorem dX8_pointsOf_17 : decode cX8_pointsOf 17 = .ok (.iaload, 1) := by decide +kernel
theorem dX8_pointsOf_18 : decode cX8_pointsOf 18 = .ok (.imul, 1) := by decide +kernel
theorem dX8_pointsOf_19 : decode cX8_pointsOf 19 = .ok (.isub, 1) := by decide +kernel
theorem dX8_pointsOf_20 : decode cX8_pointsOf 20 = .ok (.aload_n 0, 1) := by decide +kernel
theorem dX8_pointsOf_21 : decode cX8_pointsOf 21 = .ok (.iload_n 1, 1) := by decide +kernel
theorem dX8_pointsOf_22 : decode cX8_pointsOf 22 = .ok (.aload_n 0, 1) := by decide +kernel
theorem dX8_pointsOf_23 : decode cX8_pointsOf 23 = .ok (.getfield 143, 3) := by decide +kernel
theorem dX8_pointsOf_26 : decode cX8_pointsOf 26 = .ok (.iload_n 1, 1) := by decide +kernel
theorem dX8_pointsOf_27 : decode cX8_pointsOf 27 = .ok (.iaload, 1) := by decide +kernel
theorem dX8_pointsOf_28 : decode cX8_pointsOf 28 = .ok (.aload_n 0, 1) := by decide +kernel
theorem dX8_pointsOf_29 : decode cX8_pointsOf 29 = .ok (.getfield 137, 3) := by decide +kernel
theorem dX8_pointsOf_32 : decode cX8_pointsOf 32 = .ok (.iload_n 1, 1) := by decide +kernel
theorem dX8_pointsOf_33 : decode cX8_pointsOf 33 = .ok (.iaload, 1) := by decide +kernel
theorem dX8_pointsOf_34 : decode cX8_pointsOf 34 = .ok (.aload_n 0, 1) := by decide +kernel
theorem dX8_pointsOf_35 : decode cX8_pointsOf 35 = .ok (.getfield 146, 3) := by decide +kernel
theorem dX8_pointsOf_38 : decode cX8_pointsOf 38 = .ok (.iload_n 1, 1) := by decide +kernel
theorem dX8_pointsOf_39 : decode cX8_pointsOf 39 = .ok (.iaload, 1) := by decide +kernel
theorem dX8_pointsOf_40 : decode cX8_pointsOf 40 = .ok (.invokevirtual 413, 3) := by decide +kernel
theorem dX8_pointsOf_43 : decode cX8_pointsOf 43 = .ok (.iadd, 1) := by decide +kernel
theorem dX8_pointsOf_44 : decode cX8_pointsOf 44 = .ok (.istore_n 2, 1) := by decide +kernel
theorem dX8_pointsOf_45 : decode cX8_pointsOf 45 = .ok (.aload_n 0, 1) := by decide +kernel
theorem dX8_pointsOf_46 : decode cX8_pointsOf 46 = .ok (.getfield 134, 3) := by decide +kernel
theorem dX8_pointsOf_49 : decode cX8_pointsOf 49 = .ok (.iload_n 1, 1) := by decide +kernel
theorem dX8_pointsOf_50 : decode cX8_pointsOf 50 = .ok (.iaload, 1) := by decide +kernel
theorem dX8_pointsOf_51 : decode cX8_pointsOf 51 = .ok (.aload_n 0, 1) := by decide +kernel
theorem dX8_pointsOf_52 : decode cX8_pointsOf 52 = .ok (.getfield 137, 3) := by decide +kernel
theorem dX8_pointsOf_55 : decode cX8_pointsOf 55 = .ok (.iload_n 1, 1) := by decide +kernel
theorem dX8_pointsOf_56 : decode cX8_pointsOf 56 = .ok (.iaload, 1) := by decide +kernel
theorem dX8_pointsOf_57 : decode cX8_pointsOf 57 = .ok (.iadd, 1) := by decide +kernel
theorem dX8_pointsOf_58 : decode cX8_pointsOf 58 = .ok (.istore_n 3, 1) := by decide +kernel
theorem dX8_pointsOf_59 : decode cX8_pointsOf 59 = .ok (.iload_n 3, 1) := by decide +kernel
theorem dX8_pointsOf_60 : decode cX8_pointsOf 60 = .ok (.istore 4, 2) := by decide +kernel
theorem dX8_pointsOf_62 : decode cX8_pointsOf 62 = .ok (.iload 4, 2) := by decide +kernel
theorem dX8_pointsOf_64 : decode cX8_pointsOf 64 = .ok (.iload_n 3, 1) := by decide +kernel
theorem dX8_pointsOf_65 : decode cX8_pointsOf 65 = .ok (.aload_n 0, 1) := by decide +kernel
theorem dX8_pointsOf_66 : decode cX8_pointsOf 66 = .ok (.iload_n 1, 1) := by decide +kernel
theorem dX8_pointsOf_67 : decode cX8_pointsOf 67 = .ok (.invokevirtual 407, 3) := by decide +kernel
theorem dX8_pointsOf_70 : decode cX8_pointsOf 70 = .ok (.iadd, 1) := by decide +kernel
theorem dX8_pointsOf_71 : decode cX8_pointsOf 71 = .ok (.if_icmp .ge 31, 3) := by decide +kernel
theorem dX8_pointsOf_74 : decode cX8_pointsOf 74 = .ok (.iload 4, 2) := by decide +kernel
theorem dX8_pointsOf_76 : decode cX8_pointsOf 76 = .ok (.aload_n 0, 1) := by decide +kernel
theorem dX8_pointsOf_77 : decode cX8_pointsOf 77 = .ok (.getfield 324, 3) := by decide +kernel
theorem dX8_pointsOf_80 : decode cX8_pointsOf 80 = .ok (.if_icmp .ge 22, 3) := by decide +kernel
theorem dX8_pointsOf_83 : decode cX8_pointsOf 83 = .ok (.iload_n 2, 1) := by decide +kernel
theorem dX8_pointsOf_84 : decode cX8_pointsOf 84 = .ok (.aload_n 0, 1) := by decide +kernel
theorem dX8_pointsOf_85 : decode cX8_pointsOf 85 = .ok (.getfield 131, 3) := by decide +kernel
theorem dX8_pointsOf_88 : decode cX8_pointsOf 88 = .ok (.iload 4, 2) := by decide +kernel
theorem dX8_pointsOf_90 : decode cX8_pointsOf 90 = .ok (.iaload, 1) := by decide +kernel
theorem dX8_pointsOf_91 : decode cX8_pointsOf 91 = .ok (.invokestatic 391, 3) := by decide +kernel
theorem dX8_pointsOf_94 : decode cX8_pointsOf 94 = .ok (.iadd, 1) := by decide +kernel
theorem dX8_pointsOf_95 : decode cX8_pointsOf 95 = .ok (.istore_n 2, 1) := by decide +kernel
theorem dX8_pointsOf_96 : decode cX8_pointsOf 96 = .ok (.iinc 4 1, 3) := by decide +kernel
theorem dX8_pointsOf_99 : decode cX8_pointsOf 99 = .ok (.goto (-37), 3) := by decide +kernel
theorem dX8_pointsOf_102 : decode cX8_pointsOf 102 = .ok (.iload_n 2, 1) := by decide +kernel
theorem dX8_pointsOf_103 : decode cX8_pointsOf 103 = .ok (.ireturn, 1) := by decide +kernel
theorem dX8_points_0 : decode cX8_points 0 = .ok (.aload_n 0, 1) := by decide +kernel
theorem dX8_points_1 : decode cX8_points 1 = .ok (.invokevirtual 410, 3) := by decide +kernel
theorem dX8_points_4 : decode cX8_points 4 = .ok (.iload_n 1, 1) := by decide +kernel
theorem dX8_points_5 : decode cX8_points 5 = .ok (.i2l, 1) := by decide +kernel
theorem dX8_points_6 : decode cX8_points 6 = .ok (.lconst 0, 1) := by decide +kernel
theorem dX8_points_7 : decode cX8_points 7 = .ok (.aload_n 0, 1) := by decide +kernel
theorem dX8_points_8 : decode cX8_points 8 = .ok (.getfield 87, 3) := by decide +kernel
theorem dX8_points_11 : decode cX8_points 11 = .ok (.iconst 1, 1) := by decide +kernel
theorem dX8_points_12 : decode cX8_points 12 = .ok (.iaload, 1) := by decide +kernel
theorem dX8_points_13 : decode cX8_points 13 = .ok (.iconst 1, 1) := by decide +kernel
theorem dX8_points_14 : decode cX8_points 14 = .ok (.isub, 1) := by decide +kernel
theorem dX8_points_15 : decode cX8_points 15 = .ok (.i2l, 1) := by decide +kernel
theorem dX8_points_16 : decode cX8_points 16 = .ok (.invokestatic 223, 3) := by decide +kernel
theorem dX8_points_19 : decode cX8_points 19 = .ok (.ifCond .eq 37, 3) := by decide +kernel
theorem dX8_points_22 : decode cX8_points 22 = .ok (.iload_n 1, 1) := by decide +kernel
theorem dX8_points_23 : decode cX8_points 23 = .ok (.aload_n 0, 1) := by decide +kernel
theorem dX8_points_24 : decode cX8_points 24 = .ok (.getfield 385, 3) := by decide +kernel
theorem dX8_points_27 : decode cX8_points 27 = .ok (.if_icmp .ge 29, 3) := by decide +kernel
theorem dX8_points_30 : decode cX8_points 30 = .ok (.aload_n 0, 1) := by decide +kernel
theorem dX8_points_31 : decode cX8_points 31 = .ok (.getfield 134, 3) := by decide +kernel
theorem dX8_points_34 : decode cX8_points 34 = .ok (.iload_n 1, 1) := by decide +kernel
theorem dX8_points_35 : decode cX8_points 35 = .ok (.iaload, 1) := by decide +kernel
theorem dX8_points_36 : decode cX8_points 36 = .ok (.aload_n 0, 1) := by decide +kernel
theorem dX8_points_37 : decode cX8_points 37 = .ok (.getfield 137, 3) := by decide +kernel
theorem dX8_points_40 : decode cX8_points 40 = .ok (.iload_n 1, 1) := by decide +kernel
theorem dX8_points_41 : decode cX8_points 41 = .ok (.iaload, 1) := by decide +kernel
theorem dX8_points_42 : decode cX8_points 42 = .ok (.iadd, 1) := by decide +kernel
theorem dX8_points_43 : decode cX8_points 43 = .ok (.aload_n 0, 1) := by decide +kernel
theorem dX8_points_44 : decode cX8_points 44 = .ok (.iload_n 1, 1) := by decide +kernel
theorem dX8_points_45 : decode cX8_points 45 = .ok (.invokevirtual 407, 3) := by decide +kernel
theorem dX8_points_48 : decode cX8_points 48 = .ok (.iadd, 1) := by decide +kernel
theorem dX8_points_49 : decode cX8_points 49 = .ok (.aload_n 0, 1) := by decide +kernel
theorem dX8_points_50 : decode cX8_points 50 = .ok (.getfield 324, 3) := by decide +kernel
theorem dX8_points_53 : decode cX8_points 53 = .ok (.if_icmp .le 7, 3) := by decide +kernel
theorem dX8_points_56 : decode cX8_points 56 = .ok (.ldc_w 417, 3) := by decide +kernel
theorem dX8_points_59 : decode cX8_points 59 = .ok (.ireturn, 1) := by decide +kernel
theorem dX8_points_60 : decode cX8_points 60 = .ok (.aload_n 0, 1) := by decide +kernel
theorem dX8_points_61 : decode cX8_points 61 = .ok (.iload_n 1, 1) := by decide +kernel
theorem dX8_points_62 : decode cX8_points 62 = .ok (.invokevirtual 418, 3) := by decide +kernel
theorem dX8_points_65 : decode cX8_points 65 = .ok (.ireturn, 1) := by decide +kernel
theorem dX8_soFar_0 : decode cX8_soFar 0 = .ok (.iconst 0, 1) := by decide +kernel
theorem dX8_soFar_1 : decode cX8_soFar 1 = .ok (.istore_n 1, 1) := by decide +kernel
theorem dX8_soFar_2 : decode cX8_soFar 2 = .ok (.iconst 0, 1) := by decide +kernel
theorem dX8_soFar_3 : decode cX8_soFar 3 = .ok (.istore_n 2, 1) := by decide +kernel
theorem dX8_soFar_4 : decode cX8_soFar 4 = .ok (.iload_n 2, 1) := by decide +kernel
theorem dX8_soFar_5 : decode cX8_soFar 5 = .ok (.aload_n 0, 1) := by decide +kernel
theorem dX8_soFar_6 : decode cX8_soFar 6 = .ok (.getfield 385, 3) := by decide +kernel
theorem dX8_soFar_9 : decode cX8_soFar 9 = .ok (.if_icmp .ge 17, 3) := by decide +kernel
theorem dX8_soFar_12 : decode cX8_soFar 12 = .ok (.iload_n 1, 1) := by decide +kernel
theorem dX8_soFar_13 : decode cX8_soFar 13 = .ok (.aload_n 0, 1) := by decide +kernel
theorem dX8_soFar_14 : decode cX8_soFar 14 = .ok (.iload_n 2, 1) := by decide +kernel
theorem dX8_soFar_15 : decode cX8_soFar 15 = .ok (.invokevirtual 418, 3) := by decide +kernel
theorem dX8_soFar_18 : decode cX8_soFar 18 = .ok (.iadd, 1) := by decide +kernel
theorem dX8_soFar_19 : decode cX8_soFar 19 = .ok (.istore_n 1, 1) := by decide +kernel
theorem dX8_soFar_20 : decode cX8_soFar 20 = .ok (.iinc 2 1, 3) := by decide +kernel
theorem dX8_soFar_23 : decode cX8_soFar 23 = .ok (.goto (-19), 3) := by decide +kernel
theorem dX8_soFar_26 : decode cX8_soFar 26 = .ok (.iload_n 1, 1) := by decide +kernel
theorem dX8_soFar_27 : decode cX8_soFar 27 = .ok (.ireturn, 1) := by decide +kernel
theorem dX8_total_0 : decode cX8_total 0 = .ok (.aload_n 0, 1) := by decide +kernel
theorem dX8_total_1 : decode cX8_total 1 = .ok (.invokevirtual 410, 3) := by decide +kernel
theorem dX8_total_4 : decode cX8_total 4 = .ok (.aload_n 0, 1) := by decide +kernel
theorem dX8_total_5 : decode cX8_total 5 = .ok (.getfield 404, 3) := by decide +kernel
theorem dX8_total_8 : decode cX8_total 8 = .ok (.ifCond .eq 10, 3) := by decide +kernel
theorem dX8_total_11 : decode cX8_total 11 = .ok (.aload_n 0, 1) := by decide +kernel
theorem dX8_total_12 : decode cX8_total 12 = .ok (.invokevirtual 421, 3) := by decide +kernel
theorem dX8_total_15 : decode cX8_total 15 = .ok (.goto 6, 3) := by decide +kernel
theorem dX8_total_18 : decode cX8_total 18 = .ok (.ldc_w 417, 3) := by decide +kernel
theorem dX8_total_21 : decode cX8_total 21 = .ok (.ireturn, 1) := by decide +kernel
theorem dX8_owes_0 : decode cX8_owes 0 = .ok (.bipush 6, 2) := by decide +kernel
theorem dX8_owes_2 : decode cX8_owes 2 = .ok (.iload_n 0, 1) := by decide +kernel
theorem dX8_owes_3 : decode cX8_owes 3 = .ok (.imul, 1) := by decide +kernel
theorem dX8_owes_4 : decode cX8_owes 4 = .ok (.iconst 2, 1) := by decide +kernel
theorem dX8_owes_5 : decode cX8_owes 5 = .ok (.iload_n 1, 1) := by decide +kernel
theorem dX8_owes_6 : decode cX8_owes 6 = .ok (.imul, 1) := by decide +kernel
theorem dX8_owes_7 : decode cX8_owes 7 = .ok (.iadd, 1) := by decide +kernel
theorem dX8_owes_8 : decode cX8_owes 8 = .ok (.iload_n 2, 1) := by decide +kernel
theorem dX8_owes_9 : decode cX8_owes 9 = .ok (.iadd, 1) := by decide +kernel
theorem dX8_owes_10 : decode cX8_owes 10 = .ok (.ireturn, 1) := by decide +kernel
theorem dX8_oneOf_0 : decode cX8_oneOf 0 = .ok (.iload_n 0, 1) := by decide +kernel
theorem dX8_oneOf_1 : decode cX8_oneOf 1 = .ok (.bipush 6, 2) := by decide +kernel
theorem dX8_oneOf_3 : decode cX8_oneOf 3 = .ok (.idiv, 1) := by decide +kernel
theorem dX8_oneOf_4 : decode cX8_oneOf 4 = .ok (.ireturn, 1) := by decide +kernel
theorem dX8_later_0 : decode cX8_later 0 = .ok (.iload_n 0, 1) := by decide +kernel
theorem dX8_later_1 : decode cX8_later 1 = .ok (.iconst 2, 1) := by decide +kernel
theorem dX8_later_2 : decode cX8_later 2 = .ok (.idiv, 1) := by decide +kernel
theorem dX8_later_3 : decode cX8_later 3 = .ok (.iconst 3, 1) := by decide +kernel
theorem dX8_later_4 : decode cX8_later 4 = .ok (.irem, 1) := by decide +kernel
theorem dX8_later_5 : decode cX8_later 5 = .ok (.iload_n 0, 1) := by decide +kernel
theorem dX8_later_6 : decode cX8_later 6 = .ok (.iconst 2, 1) := by decide +kernel
theorem dX8_later_7 : decode cX8_later 7 = .ok (.irem, 1) := by decide +kernel
theorem dX8_later_8 : decode cX8_later 8 = .ok (.iconst 0, 1) := by decide +kernel
theorem dX8_later_9 : decode cX8_later 9 = .ok (.invokestatic 424, 3) := by decide +kernel
theorem dX8_later_12 : decode cX8_later 12 = .ok (.ireturn, 1) := by decide +kernel
theorem dX8_plus_0 : decode cX8_plus 0 = .ok (.iload_n 0, 1) := by decide +kernel
theorem dX8_plus_1 : decode cX8_plus 1 = .ok (.istore_n 2, 1) := by decide +kernel
theorem dX8_plus_2 : decode cX8_plus 2 = .ok (.iload_n 1, 1) := by decide +kernel
theorem dX8_plus_3 : decode cX8_plus 3 = .ok (.ifCond .le 6, 3) := by decide +kernel
theorem dX8_plus_6 : decode cX8_plus 6 = .ok (.iinc 2 6, 3) := by decide +kernel
theorem dX8_plus_9 : decode cX8_plus 9 = .ok (.iload_n 1, 1) := by decide +kernel
theorem dX8_plus_10 : decode cX8_plus 10 = .ok (.iconst 1, 1) := by decide +kernel
theorem dX8_plus_11 : decode cX8_plus 11 = .ok (.if_icmp .le 6, 3) := by decide +kernel
theorem dX8_plus_14 : decode cX8_plus 14 = .ok (.iinc 2 2, 3) := by decide +kernel
theorem dX8_plus_17 : decode cX8_plus 17 = .ok (.iload_n 1, 1) := by decide +kernel
theorem dX8_plus_18 : decode cX8_plus 18 = .ok (.iconst 2, 1) := by decide +kernel
theorem dX8_plus_19 : decode cX8_plus 19 = .ok (.if_icmp .le 6, 3) := by decide +kernel
theorem dX8_plus_22 : decode cX8_plus 22 = .ok (.iinc 2 1, 3) := by decide +kernel
theorem dX8_plus_25 : decode cX8_plus 25 = .ok (.iload_n 2, 1) := by decide +kernel
theorem dX8_plus_26 : decode cX8_plus 26 = .ok (.ireturn, 1) := by decide +kernel
theorem dX8_capped_0 : decode cX8_capped 0 = .ok (.lload_n 0, 1) := by decide +kernel
theorem dX8_capped_1 : decode cX8_capped 1 = .ok (.ldc2_w 428, 3) := by decide +kernel
theorem dX8_capped_4 : decode cX8_capped 4 = .ok (.lcmp, 1) := by decide +kernel
theorem dX8_capped_5 : decode cX8_capped 5 = .ok (.ifCond .le 9, 3) := by decide +kernel
theorem dX8_capped_8 : decode cX8_capped 8 = .ok (.ldc2_w 428, 3) := by decide +kernel
theorem dX8_capped_11 : decode cX8_capped 11 = .ok (.goto 4, 3) := by decide +kernel
theorem dX8_capped_14 : decode cX8_capped 14 = .ok (.lload_n 0, 1) := by decide +kernel
theorem dX8_capped_15 : decode cX8_capped 15 = .ok (.lreturn, 1) := by decide +kernel
theorem dX8_cell_0 : decode cX8_cell 0 = .ok (.bipush 24, 2) := by decide +kernel
theorem dX8_cell_2 : decode cX8_cell 2 = .ok (.iload_n 0, 1) := by decide +kernel
theorem dX8_cell_3 : decode cX8_cell 3 = .ok (.imul, 1) := by decide +kernel
theorem dX8_cell_4 : decode cX8_cell 4 = .ok (.iload_n 1, 1) := by decide +kernel
theorem dX8_cell_5 : decode cX8_cell 5 = .ok (.iadd, 1) := by decide +kernel
theorem dX8_cell_6 : decode cX8_cell 6 = .ok (.sipush 1060, 3) := by decide +kernel
theorem dX8_cell_9 : decode cX8_cell 9 = .ok (.imul, 1) := by decide +kernel
theorem dX8_cell_10 : decode cX8_cell 10 = .ok (.sipush 460, 3) := by decide +kernel
theorem dX8_cell_13 : decode cX8_cell 13 = .ok (.iadd, 1) := by decide +kernel
theorem dX8_cell_14 : decode cX8_cell 14 = .ok (.iload_n 2, 1) := by decide +kernel
theorem dX8_cell_15 : decode cX8_cell 15 = .ok (.iadd, 1) := by decide +kernel
theorem dX8_cell_16 : decode cX8_cell 16 = .ok (.ireturn, 1) := by decide +kernel
theorem dX8_ends_0 : decode cX8_ends 0 = .ok (.iconst 0, 1) := by decide +kernel
theorem dX8_ends_1 : decode cX8_ends 1 = .ok (.istore 6, 2) := by decide +kernel
theorem dX8_ends_3 : decode cX8_ends 3 = .ok (.iload_n 2, 1) := by decide +kernel
theorem dX8_ends_4 : decode cX8_ends 4 = .ok (.istore 7, 2) := by decide +kernel
theorem dX8_ends_6 : decode cX8_ends 6 = .ok (.iload 4, 2) := by decide +kernel
theorem dX8_ends_8 : decode cX8_ends 8 = .ok (.istore 8, 2) := by decide +kernel
theorem dX8_ends_10 : decode cX8_ends 10 = .ok (.iload 5, 2) := by decide +kernel
theorem dX8_ends_12 : decode cX8_ends 12 = .ok (.istore 9, 2) := by decide +kernel
theorem dX8_ends_14 : decode cX8_ends 14 = .ok (.iconst 0, 1) := by decide +kernel
theorem dX8_ends_15 : decode cX8_ends 15 = .ok (.istore 10, 2) := by decide +kernel
theorem dX8_ends_17 : decode cX8_ends 17 = .ok (.iload 10, 2) := by decide +kernel
theorem dX8_ends_19 : decode cX8_ends 19 = .ok (.aload_n 0, 1) := by decide +kernel
theorem dX8_ends_20 : decode cX8_ends 20 = .ok (.getfield 430, 3) := by decide +kernel
theorem dX8_ends_23 : decode cX8_ends 23 = .ok (.if_icmp .ge 76, 3) := by decide +kernel
theorem dX8_ends_26 : decode cX8_ends 26 = .ok (.aload_n 0, 1) := by decide +kernel
theorem dX8_ends_27 : decode cX8_ends 27 = .ok (.getfield 156, 3) := by decide +kernel
theorem dX8_ends_30 : decode cX8_ends 30 = .ok (.iload 10, 2) := by decide +kernel
theorem dX8_ends_32 : decode cX8_ends 32 = .ok (.iaload, 1) := by decide +kernel
theorem dX8_ends_33 : decode cX8_ends 33 = .ok (.invokestatic 391, 3) := by decide +kernel
theorem dX8_ends_36 : decode cX8_ends 36 = .ok (.istore 11, 2) := by decide +kernel
theorem dX8_ends_38 : decode cX8_ends 38 = .ok (.iload 6, 2) := by decide +kernel
theorem dX8_ends_40 : decode cX8_ends 40 = .ok (.iload 11, 2) := by decide +kernel
theorem dX8_ends_42 : decode cX8_ends 42 = .ok (.iconst 1, 1) := by decide +kernel
theorem dX8_ends_43 : decode cX8_ends 43 = .ok (.iload 7, 2) := by decide +kernel
theorem dX8_ends_45 : decode cX8_ends 45 = .ok (.invokestatic 433, 3) := by decide +kernel
theorem dX8_ends_48 : decode cX8_ends 48 = .ok (.iadd, 1) := by decide +kernel
theorem dX8_ends_49 : decode cX8_ends 49 = .ok (.imul, 1) := by decide +kernel
theorem dX8_ends_50 : decode cX8_ends 50 = .ok (.iadd, 1) := by decide +kernel
theorem dX8_ends_51 : decode cX8_ends 51 = .ok (.istore 6, 2) := by decide +kernel
theorem dX8_ends_53 : decode cX8_ends 53 = .ok (.aload_n 0, 1) := by decide +kernel
theorem dX8_ends_54 : decode cX8_ends 54 = .ok (.getfield 156, 3) := by decide +kernel
theorem dX8_ends_57 : decode cX8_ends 57 = .ok (.iload 10, 2) := by decide +kernel
theorem dX8_ends_59 : decode cX8_ends 59 = .ok (.iaload, 1) := by decide +kernel
theorem dX8_ends_60 : decode cX8_ends 60 = .ok (.bipush (-2), 2) := by decide +kernel
theorem dX8_ends_62 : decode cX8_ends 62 = .ok (.if_icmp .ne 17, 3) := by decide +kernel
theorem dX8_ends_65 : decode cX8_ends 65 = .ok (.iinc 9 1, 3) := by decide +kernel
theorem dX8_ends_68 : decode cX8_ends 68 = .ok (.iload 6, 2) := by decide +kernel
theorem dX8_ends_70 : decode cX8_ends 70 = .ok (.aload_n 0, 1) := by decide +kernel
theorem dX8_ends_71 : decode cX8_ends 71 = .ok (.getfield 93, 3) := by decide +kernel
theorem dX8_ends_74 : decode cX8_ends 74 = .ok (.iconst 1, 1) := by decide +kernel
theorem dX8_ends_75 : decode cX8_ends 75 = .ok (.iaload, 1) := by decide +kernel
theorem dX8_ends_76 : decode cX8_ends 76 = .ok (.isub, 1) := by decide +kernel
theorem dX8_ends_77 : decode cX8_ends 77 = .ok (.istore 6, 2) := by decide +kernel
theorem dX8_ends_79 : decode cX8_ends 79 = .ok (.iload 8, 2) := by decide +kernel
theorem dX8_ends_81 : decode cX8_ends 81 = .ok (.iload 11, 2) := by decide +kernel
theorem dX8_ends_83 : decode cX8_ends 83 = .ok (.iadd, 1) := by decide +kernel
theorem dX8_ends_84 : decode cX8_ends 84 = .ok (.istore 8, 2) := by decide +kernel
theorem dX8_ends_86 : decode cX8_ends 86 = .ok (.iload 7, 2) := by decide +kernel
theorem dX8_ends_88 : decode cX8_ends 88 = .ok (.invokestatic 436, 3) := by decide +kernel
theorem dX8_ends_91 : decode cX8_ends 91 = .ok (.istore 7, 2) := by decide +kernel
theorem dX8_ends_93 : decode cX8_ends 93 = .ok (.iinc 10 1, 3) := by decide +kernel
theorem dX8_ends_96 : decode cX8_ends 96 = .ok (.goto (-79), 3) := by decide +kernel
theorem dX8_ends_99 : decode cX8_ends 99 = .ok (.iload_n 3, 1) := by decide +kernel
theorem dX8_ends_100 : decode cX8_ends 100 = .ok (.aload_n 0, 1) := by decide +kernel
theorem dX8_ends_101 : decode cX8_ends 101 = .ok (.getfield 430, 3) := by decide +kernel
theorem dX8_ends_104 : decode cX8_ends 104 = .ok (.iadd, 1) := by decide +kernel
theorem dX8_ends_105 : decode cX8_ends 105 = .ok (.istore 10, 2) := by decide +kernel
theorem dX8_ends_107 : decode cX8_ends 107 = .ok (.iload 8, 2) := by decide +kernel
theorem dX8_ends_109 : decode cX8_ends 109 = .ok (.aload_n 0, 1) := by decide +kernel
theorem dX8_ends_110 : decode cX8_ends 110 = .ok (.getfield 84, 3) := by decide +kernel
theorem dX8_ends_113 : decode cX8_ends 113 = .ok (.iconst 1, 1) := by decide +kernel
theorem dX8_ends_114 : decode cX8_ends 114 = .ok (.iaload, 1) := by decide +kernel
theorem dX8_ends_115 : decode cX8_ends 115 = .ok (.if_icmp .ge 16, 3) := by decide +kernel
theorem dX8_ends_118 : decode cX8_ends 118 = .ok (.iload 10, 2) := by decide +kernel
theorem dX8_ends_120 : decode cX8_ends 120 = .ok (.aload_n 0, 1) := by decide +kernel
theorem dX8_ends_121 : decode cX8_ends 121 = .ok (.getfield 90, 3) := by decide +kernel
theorem dX8_ends_124 : decode cX8_ends 124 = .ok (.iconst 1, 1) := by decide +kernel
theorem dX8_ends_125 : decode cX8_ends 125 = .ok (.iaload, 1) := by decide +kernel
theorem dX8_ends_126 : decode cX8_ends 126 = .ok (.if_icmp .ge 5, 3) := by decide +kernel
theorem dX8_ends_129 : decode cX8_ends 129 = .ok (.iconst 0, 1) := by decide +kernel
theorem dX8_ends_130 : decode cX8_ends 130 = .ok (.ireturn, 1) := by decide +kernel
theorem dX8_ends_131 : decode cX8_ends 131 = .ok (.iload 8, 2) := by decide +kernel
theorem dX8_ends_133 : decode cX8_ends 133 = .ok (.aload_n 0, 1) := by decide +kernel
theorem dX8_ends_134 : decode cX8_ends 134 = .ok (.getfield 84, 3) := by decide +kernel
theorem dX8_ends_137 : decode cX8_ends 137 = .ok (.iconst 1, 1) := by decide +kernel
theorem dX8_ends_138 : decode cX8_ends 138 = .ok (.iaload, 1) := by decide +kernel
theorem dX8_ends_139 : decode cX8_ends 139 = .ok (.if_icmp .ne 8, 3) := by decide +kernel
theorem dX8_ends_142 : decode cX8_ends 142 = .ok (.iload 10, 2) := by decide +kernel
theorem dX8_ends_144 : decode cX8_ends 144 = .ok (.goto 4, 3) := by decide +kernel
theorem dX8_ends_147 : decode cX8_ends 147 = .ok (.iconst 0, 1) := by decide +kernel
theorem dX8_ends_148 : decode cX8_ends 148 = .ok (.istore 11, 2) := by decide +kernel
theorem dX8_ends_150 : decode cX8_ends 150 = .ok (.aload_n 0, 1) := by decide +kernel
theorem dX8_ends_151 : decode cX8_ends 151 = .ok (.iload 6, 2) := by decide +kernel
theorem dX8_ends_153 : decode cX8_ends 153 = .ok (.aload_n 0, 1) := by decide +kernel
theorem dX8_ends_154 : decode cX8_ends 154 = .ok (.iload_n 1, 1) := by decide +kernel
theorem dX8_ends_155 : decode cX8_ends 155 = .ok (.iload 8, 2) := by decide +kernel
theorem dX8_ends_157 : decode cX8_ends 157 = .ok (.iload 10, 2) := by decide +kernel
theorem dX8_ends_159 : decode cX8_ends 159 = .ok (.iload 9, 2) := by decide +kernel
theorem dX8_ends_161 : decode cX8_ends 161 = .ok (.invokevirtual 413, 3) := by decide +kernel
theorem dX8_ends_164 : decode cX8_ends 164 = .ok (.iadd, 1) := by decide +kernel
theorem dX8_ends_165 : decode cX8_ends 165 = .ok (.putfield 439, 3) := by decide +kernel
theorem dX8_ends_168 : decode cX8_ends 168 = .ok (.aload_n 0, 1) := by decide +kernel
theorem dX8_ends_169 : decode cX8_ends 169 = .ok (.iload 7, 2) := by decide +kernel
theorem dX8_ends_171 : decode cX8_ends 171 = .ok (.iload 11, 2) := by decide +kernel
theorem dX8_ends_173 : decode cX8_ends 173 = .ok (.ifCond .le 15, 3) := by decide +kernel
theorem dX8_ends_176 : decode cX8_ends 176 = .ok (.aload_n 0, 1) := by decide +kernel
theorem dX8_ends_177 : decode cX8_ends 177 = .ok (.getfield 96, 3) := by decide +kernel
theorem dX8_ends_180 : decode cX8_ends 180 = .ok (.iconst 4, 1) := by decide +kernel
theorem dX8_ends_181 : decode cX8_ends 181 = .ok (.iload 11, 2) := by decide +kernel
theorem dX8_ends_183 : decode cX8_ends 183 = .ok (.iadd, 1) := by decide +kernel
theorem dX8_ends_184 : decode cX8_ends 184 = .ok (.iaload, 1) := by decide +kernel
theorem dX8_ends_185 : decode cX8_ends 185 = .ok (.goto 4, 3) := by decide +kernel
theorem dX8_ends_188 : decode cX8_ends 188 = .ok (.iconst 0, 1) := by decide +kernel
theorem dX8_ends_189 : decode cX8_ends 189 = .ok (.invokestatic 442, 3) := by decide +kernel
theorem dX8_ends_192 : decode cX8_ends 192 = .ok (.putfield 445, 3) := by decide +kernel
theorem dX8_ends_195 : decode cX8_ends 195 = .ok (.iconst 1, 1) := by decide +kernel
theorem dX8_ends_196 : decode cX8_ends 196 = .ok (.ireturn, 1) := by decide +kernel
theorem dX8_nextRow_0 : decode cX8_nextRow 0 = .ok (.iconst 0, 1) := by decide +kernel
theorem dX8_nextRow_1 : decode cX8_nextRow 1 = .ok (.istore_n 3, 1) := by decide +kernel
theorem dX8_nextRow_2 : decode cX8_nextRow 2 = .ok (.iconst 0, 1) := by decide +kernel
theorem dX8_nextRow_3 : decode cX8_nextRow 3 = .ok (.istore 4, 2) := by decide +kernel
theorem dX8_nextRow_5 : decode cX8_nextRow 5 = .ok (.iload 4, 2) := by decide +kernel
theorem dX8_nextRow_7 : decode cX8_nextRow 7 = .ok (.aload_n 0, 1) := by decide +kernel
theorem dX8_nextRow_8 : decode cX8_nextRow 8 = .ok (.getfield 430, 3) := by decide +kernel
theorem dX8_nextRow_11 : decode cX8_nextRow 11 = .ok (.if_icmp .ge 19, 3) := by decide +kernel
theorem dX8_nextRow_14 : decode cX8_nextRow 14 = .ok (.iload_n 3, 1) := by decide +kernel
theorem dX8_nextRow_15 : decode cX8_nextRow 15 = .ok (.aload_n 0, 1) := by decide +kernel
theorem dX8_nextRow_16 : decode cX8_nextRow 16 = .ok (.getfield 156, 3) := by decide +kernel
theorem dX8_nextRow_19 : decode cX8_nextRow 19 = .ok (.iload 4, 2) := by decide +kernel
theorem dX8_nextRow_21 : decode cX8_nextRow 21 = .ok (.iaload, 1) := by decide +kernel
theorem dX8_nextRow_22 : decode cX8_nextRow 22 = .ok (.iadd, 1) := by decide +kernel
theorem dX8_nextRow_23 : decode cX8_nextRow 23 = .ok (.istore_n 3, 1) := by decide +kernel
theorem dX8_nextRow_24 : decode cX8_nextRow 24 = .ok (.iinc 4 1, 3) := by decide +kernel
theorem dX8_nextRow_27 : decode cX8_nextRow 27 = .ok (.goto (-22), 3) := by decide +kernel
theorem dX8_nextRow_30 : decode cX8_nextRow 30 = .ok (.aload_n 0, 1) := by decide +kernel
theorem dX8_nextRow_31 : decode cX8_nextRow 31 = .ok (.getfield 430, 3) := by decide +kernel
theorem dX8_nextRow_34 : decode cX8_nextRow 34 = .ok (.iload_n 2, 1) := by decide +kernel
theorem dX8_nextRow_35 : decode cX8_nextRow 35 = .ok (.if_icmp .ge 30, 3) := by decide +kernel
theorem dX8_nextRow_38 : decode cX8_nextRow 38 = .ok (.iload_n 3, 1) := by decide +kernel
theorem dX8_nextRow_39 : decode cX8_nextRow 39 = .ok (.iload_n 1, 1) := by decide +kernel
theorem dX8_nextRow_40 : decode cX8_nextRow 40 = .ok (.if_icmp .ge 25, 3) := by decide +kernel
theorem dX8_nextRow_43 : decode cX8_nextRow 43 = .ok (.aload_n 0, 1) := by decide +kernel
theorem dX8_nextRow_44 : decode cX8_nextRow 44 = .ok (.getfield 156, 3) := by decide +kernel
theorem dX8_nextRow_47 : decode cX8_nextRow 47 = .ok (.aload_n 0, 1) := by decide +kernel
theorem dX8_nextRow_48 : decode cX8_nextRow 48 = .ok (.getfield 430, 3) := by decide +kernel
theorem dX8_nextRow_51 : decode cX8_nextRow 51 = .ok (.iconst 0, 1) := by decide +kernel
theorem dX8_nextRow_52 : decode cX8_nextRow 52 = .ok (.iastore, 1) := by decide +kernel
theorem dX8_nextRow_53 : decode cX8_nextRow 53 = .ok (.aload_n 0, 1) := by decide +kernel
theorem dX8_nextRow_54 : decode cX8_nextRow 54 = .ok (.dup, 1) := by decide +kernel
theorem dX8_nextRow_55 : decode cX8_nextRow 55 = .ok (.getfield 430, 3) := by decide +kernel
theorem dX8_nextRow_58 : decode cX8_nextRow 58 = .ok (.iconst 1, 1) := by decide +kernel
theorem dX8_nextRow_59 : decode cX8_nextRow 59 = .ok (.iadd, 1) := by decide +kernel
theorem dX8_nextRow_60 : decode cX8_nextRow 60 = .ok (.putfield 430, 3) := by decide +kernel
theorem dX8_nextRow_63 : decode cX8_nextRow 63 = .ok (.iconst 1, 1) := by decide +kernel
theorem dX8_nextRow_64 : decode cX8_nextRow 64 = .ok (.ireturn, 1) := by decide +kernel
theorem dX8_nextRow_65 : decode cX8_nextRow 65 = .ok (.aload_n 0, 1) := by decide +kernel
theorem dX8_nextRow_66 : decode cX8_nextRow 66 = .ok (.getfield 430, 3) := by decide +kernel
theorem dX8_nextRow_69 : decode cX8_nextRow 69 = .ok (.ifCond .le 65, 3) := by decide +kernel
theorem dX8_nextRow_72 : decode cX8_nextRow 72 = .ok (.aload_n 0, 1) := by decide +kernel
theorem dX8_nextRow_73 : decode cX8_nextRow 73 = .ok (.dup, 1) := by decide +kernel
theorem dX8_nextRow_74 : decode cX8_nextRow 74 = .ok (.getfield 430, 3) := by decide +kernel
theorem dX8_nextRow_77 : decode cX8_nextRow 77 = .ok (.iconst 1, 1) := by decide +kernel
theorem dX8_nextRow_78 : decode cX8_nextRow 78 = .ok (.isub, 1) := by decide +kernel
theorem dX8_nextRow_79 : decode cX8_nextRow 79 = .ok (.putfield 430, 3) := by decide +kernel
theorem dX8_nextRow_82 : decode cX8_nextRow 82 = .ok (.iload_n 3, 1) := by decide +kernel
theorem dX8_nextRow_83 : decode cX8_nextRow 83 = .ok (.aload_n 0, 1) := by decide +kernel
theorem dX8_nextRow_84 : decode cX8_nextRow 84 = .ok (.getfield 156, 3) := by decide +kernel
theorem dX8_nextRow_87 : decode cX8_nextRow 87 = .ok (.aload_n 0, 1) := by decide +kernel
theorem dX8_nextRow_88 : decode cX8_nextRow 88 = .ok (.getfield 430, 3) := by decide +kernel
theorem dX8_nextRow_91 : decode cX8_nextRow 91 = .ok (.iaload, 1) := by decide +kernel
theorem dX8_nextRow_92 : decode cX8_nextRow 92 = .ok (.isub, 1) := by decide +kernel
theorem dX8_nextRow_93 : decode cX8_nextRow 93 = .ok (.istore_n 3, 1) := by decide +kernel
theorem dX8_nextRow_94 : decode cX8_nextRow 94 = .ok (.aload_n 0, 1) := by decide +kernel
theorem dX8_nextRow_95 : decode cX8_nextRow 95 = .ok (.getfield 156, 3) := by decide +kernel
theorem dX8_nextRow_98 : decode cX8_nextRow 98 = .ok (.aload_n 0, 1) := by decide +kernel
theorem dX8_nextRow_99 : decode cX8_nextRow 99 = .ok (.getfield 430, 3) := by decide +kernel
theorem dX8_nextRow_102 : decode cX8_nextRow 102 = .ok (.iaload, 1) := by decide +kernel
theorem dX8_nextRow_103 : decode cX8_nextRow 103 = .ok (.iload_n 3, 1) := by decide +kernel
theorem dX8_nextRow_104 : decode cX8_nextRow 104 = .ok (.iadd, 1) := by decide +kernel
theorem dX8_nextRow_105 : decode cX8_nextRow 105 = .ok (.iload_n 1, 1) := by decide +kernel
theorem dX8_nextRow_106 : decode cX8_nextRow 106 = .ok (.if_icmp .ge (-41), 3) := by decide +kernel
theorem dX8_nextRow_109 : decode cX8_nextRow 109 = .ok (.aload_n 0, 1) := by decide +kernel
theorem dX8_nextRow_110 : decode cX8_nextRow 110 = .ok (.getfield 156, 3) := by decide +kernel
theorem dX8_nextRow_113 : decode cX8_nextRow 113 = .ok (.aload_n 0, 1) := by decide +kernel
theorem dX8_nextRow_114 : decode cX8_nextRow 114 = .ok (.getfield 430, 3) := by decide +kernel
theorem dX8_nextRow_117 : decode cX8_nextRow 117 = .ok (.dup2, 1) := by decide +kernel
theorem dX8_nextRow_118 : decode cX8_nextRow 118 = .ok (.iaload, 1) := by decide +kernel
theorem dX8_nextRow_119 : decode cX8_nextRow 119 = .ok (.iconst 1, 1) := by decide +kernel
theorem dX8_nextRow_120 : decode cX8_nextRow 120 = .ok (.iadd, 1) := by decide +kernel
theorem dX8_nextRow_121 : decode cX8_nextRow 121 = .ok (.iastore, 1) := by decide +kernel
theorem dX8_nextRow_122 : decode cX8_nextRow 122 = .ok (.aload_n 0, 1) := by decide +kernel
theorem dX8_nextRow_123 : decode cX8_nextRow 123 = .ok (.dup, 1) := by decide +kernel
theorem dX8_nextRow_124 : decode cX8_nextRow 124 = .ok (.getfield 430, 3) := by decide +kernel
theorem dX8_nextRow_127 : decode cX8_nextRow 127 = .ok (.iconst 1, 1) := by decide +kernel
theorem dX8_nextRow_128 : decode cX8_nextRow 128 = .ok (.iadd, 1) := by decide +kernel
theorem dX8_nextRow_129 : decode cX8_nextRow 129 = .ok (.putfield 430, 3) := by decide +kernel
theorem dX8_nextRow_132 : decode cX8_nextRow 132 = .ok (.iconst 1, 1) := by decide +kernel
theorem dX8_nextRow_133 : decode cX8_nextRow 133 = .ok (.ireturn, 1) := by decide +kernel
theorem dX8_nextRow_134 : decode cX8_nextRow 134 = .ok (.iconst 0, 1) := by decide +kernel
theorem dX8_nextRow_135 : decode cX8_nextRow 135 = .ok (.ireturn, 1) := by decide +kernel
theorem dX8_fillsAhead_0 : decode cX8_fillsAhead 0 = .ok (.iload_n 2, 1) := by decide +kernel
theorem dX8_fillsAhead_1 : decode cX8_fillsAhead 1 = .ok (.ifCond .ne 7, 3) := by decide +kernel
theorem dX8_fillsAhead_4 : decode cX8_fillsAhead 4 = .ok (.iconst 0, 1) := by decide +kernel
theorem dX8_fillsAhead_5 : decode cX8_fillsAhead 5 = .ok (.goto 26, 3) := by decide +kernel
theorem dX8_fillsAhead_8 : decode cX8_fillsAhead 8 = .ok (.iload_n 2, 1) := by decide +kernel
theorem dX8_fillsAhead_9 : decode cX8_fillsAhead 9 = .ok (.iconst 2, 1) := by decide +kernel
theorem dX8_fillsAhead_10 : decode cX8_fillsAhead 10 = .ok (.irem, 1) := by decide +kernel
theorem dX8_fillsAhead_11 : decode cX8_fillsAhead 11 = .ok (.ifCond .le 7, 3) := by decide +kernel
theorem dX8_fillsAhead_14 : decode cX8_fillsAhead 14 = .ok (.iconst 3, 1) := by decide +kernel
theorem dX8_fillsAhead_15 : decode cX8_fillsAhead 15 = .ok (.goto 16, 3) := by decide +kernel
theorem dX8_fillsAhead_18 : decode cX8_fillsAhead 18 = .ok (.iload_n 2, 1) := by decide +kernel
theorem dX8_fillsAhead_19 : decode cX8_fillsAhead 19 = .ok (.iconst 2, 1) := by decide +kernel
theorem dX8_fillsAhead_20 : decode cX8_fillsAhead 20 = .ok (.idiv, 1) := by decide +kernel
theorem dX8_fillsAhead_21 : decode cX8_fillsAhead 21 = .ok (.iconst 3, 1) := by decide +kernel
theorem dX8_fillsAhead_22 : decode cX8_fillsAhead 22 = .ok (.irem, 1) := by decide +kernel
theorem dX8_fillsAhead_23 : decode cX8_fillsAhead 23 = .ok (.ifCond .le 7, 3) := by decide +kernel
theorem dX8_fillsAhead_26 : decode cX8_fillsAhead 26 = .ok (.iconst 2, 1) := by decide +kernel
theorem dX8_fillsAhead_27 : decode cX8_fillsAhead 27 = .ok (.goto 4, 3) := by decide +kernel
theorem dX8_fillsAhead_30 : decode cX8_fillsAhead 30 = .ok (.iconst 1, 1) := by decide +kernel
theorem dX8_fillsAhead_31 : decode cX8_fillsAhead 31 = .ok (.istore_n 3, 1) := by decide +kernel
theorem dX8_fillsAhead_32 : decode cX8_fillsAhead 32 = .ok (.iconst 0, 1) := by decide +kernel
theorem dX8_fillsAhead_33 : decode cX8_fillsAhead 33 = .ok (.istore 4, 2) := by decide +kernel
theorem dX8_fillsAhead_35 : decode cX8_fillsAhead 35 = .ok (.iload 4, 2) := by decide +kernel
theorem dX8_fillsAhead_37 : decode cX8_fillsAhead 37 = .ok (.iload_n 3, 1) := by decide +kernel
theorem dX8_fillsAhead_38 : decode cX8_fillsAhead 38 = .ok (.ifCond .le 12, 3) := by decide +kernel
theorem dX8_fillsAhead_41 : decode cX8_fillsAhead 41 = .ok (.aload_n 0, 1) := by decide +kernel
theorem dX8_fillsAhead_42 : decode cX8_fillsAhead 42 = .ok (.getfield 84, 3) := by decide +kernel
theorem dX8_fillsAhead_45 : decode cX8_fillsAhead 45 = .ok (.iconst 1, 1) := by decide +kernel
theorem dX8_fillsAhead_46 : decode cX8_fillsAhead 46 = .ok (.iaload, 1) := by decide +kernel
theorem dX8_fillsAhead_47 : decode cX8_fillsAhead 47 = .ok (.goto 4, 3) := by decide +kernel
theorem dX8_fillsAhead_50 : decode cX8_fillsAhead 50 = .ok (.iconst 0, 1) := by decide +kernel
theorem dX8_fillsAhead_51 : decode cX8_fillsAhead 51 = .ok (.if_icmp .gt 152, 3) := by decide +kernel
theorem dX8_fillsAhead_54 : decode cX8_fillsAhead 54 = .ok (.iload 4, 2) := by decide +kernel
theorem dX8_fillsAhead_56 : decode cX8_fillsAhead 56 = .ok (.aload_n 0, 1) := by decide +kernel
theorem dX8_fillsAhead_57 : decode cX8_fillsAhead 57 = .ok (.getfield 84, 3) := by decide +kernel
theorem dX8_fillsAhead_60 : decode cX8_fillsAhead 60 = .ok (.iconst 1, 1) := by decide +kernel
theorem dX8_fillsAhead_61 : decode cX8_fillsAhead 61 = .ok (.iaload, 1) := by decide +kernel
theorem dX8_fillsAhead_62 : decode cX8_fillsAhead 62 = .ok (.if_icmp .ne 12, 3) := by decide +kernel
theorem dX8_fillsAhead_65 : decode cX8_fillsAhead 65 = .ok (.aload_n 0, 1) := by decide +kernel
theorem dX8_fillsAhead_66 : decode cX8_fillsAhead 66 = .ok (.getfield 84, 3) := by decide +kernel
theorem dX8_fillsAhead_69 : decode cX8_fillsAhead 69 = .ok (.iconst 1, 1) := by decide +kernel
theorem dX8_fillsAhead_70 : decode cX8_fillsAhead 70 = .ok (.iaload, 1) := by decide +kernel
theorem dX8_fillsAhead_71 : decode cX8_fillsAhead 71 = .ok (.goto 12, 3) := by decide +kernel
theorem dX8_fillsAhead_74 : decode cX8_fillsAhead 74 = .ok (.aload_n 0, 1) := by decide +kernel
theorem dX8_fillsAhead_75 : decode cX8_fillsAhead 75 = .ok (.getfield 84, 3) := by decide +kernel
theorem dX8_fillsAhead_78 : decode cX8_fillsAhead 78 = .ok (.iconst 1, 1) := by decide +kernel
theorem dX8_fillsAhead_79 : decode cX8_fillsAhead 79 = .ok (.iaload, 1) := by decide +kernel
theorem dX8_fillsAhead_80 : decode cX8_fillsAhead 80 = .ok (.iload 4, 2) := by decide +kernel
theorem dX8_fillsAhead_82 : decode cX8_fillsAhead 82 = .ok (.isub, 1) := by decide +kernel
theorem dX8_fillsAhead_83 : decode cX8_fillsAhead 83 = .ok (.istore 5, 2) := by decide +kernel
theorem dX8_fillsAhead_85 : decode cX8_fillsAhead 85 = .ok (.iconst 0, 1) := by decide +kernel
theorem dX8_fillsAhead_86 : decode cX8_fillsAhead 86 = .ok (.istore 6, 2) := by decide +kernel
theorem dX8_fillsAhead_88 : decode cX8_fillsAhead 88 = .ok (.iload 6, 2) := by decide +kernel
theorem dX8_fillsAhead_90 : decode cX8_fillsAhead 90 = .ok (.iload_n 3, 1) := by decide +kernel
theorem dX8_fillsAhead_91 : decode cX8_fillsAhead 91 = .ok (.iconst 1, 1) := by decide +kernel
theorem dX8_fillsAhead_92 : decode cX8_fillsAhead 92 = .ok (.if_icmp .le 8, 3) := by decide +kernel
theorem dX8_fillsAhead_95 : decode cX8_fillsAhead 95 = .ok (.iload 5, 2) := by decide +kernel
theorem dX8_fillsAhead_97 : decode cX8_fillsAhead 97 = .ok (.goto 4, 3) := by decide +kernel
theorem dX8_fillsAhead_100 : decode cX8_fillsAhead 100 = .ok (.iconst 0, 1) := by decide +kernel
theorem dX8_fillsAhead_101 : decode cX8_fillsAhead 101 = .ok (.if_icmp .gt 96, 3) := by decide +kernel
theorem dX8_fillsAhead_104 : decode cX8_fillsAhead 104 = .ok (.iload 6, 2) := by decide +kernel
theorem dX8_fillsAhead_106 : decode cX8_fillsAhead 106 = .ok (.iload 5, 2) := by decide +kernel
theorem dX8_fillsAhead_108 : decode cX8_fillsAhead 108 = .ok (.if_icmp .ne 12, 3) := by decide +kernel
theorem dX8_fillsAhead_111 : decode cX8_fillsAhead 111 = .ok (.aload_n 0, 1) := by decide +kernel
theorem dX8_fillsAhead_112 : decode cX8_fillsAhead 112 = .ok (.getfield 84, 3) := by decide +kernel
theorem dX8_fillsAhead_115 : decode cX8_fillsAhead 115 = .ok (.iconst 1, 1) := by decide +kernel
theorem dX8_fillsAhead_116 : decode cX8_fillsAhead 116 = .ok (.iaload, 1) := by decide +kernel
theorem dX8_fillsAhead_117 : decode cX8_fillsAhead 117 = .ok (.goto 8, 3) := by decide +kernel
theorem dX8_fillsAhead_120 : decode cX8_fillsAhead 120 = .ok (.iload 5, 2) := by decide +kernel
theorem dX8_fillsAhead_122 : decode cX8_fillsAhead 122 = .ok (.iload 6, 2) := by decide +kernel
theorem dX8_fillsAhead_124 : decode cX8_fillsAhead 124 = .ok (.isub, 1) := by decide +kernel
theorem dX8_fillsAhead_125 : decode cX8_fillsAhead 125 = .ok (.istore 7, 2) := by decide +kernel
theorem dX8_fillsAhead_127 : decode cX8_fillsAhead 127 = .ok (.iconst 0, 1) := by decide +kernel
theorem dX8_fillsAhead_128 : decode cX8_fillsAhead 128 = .ok (.istore 8, 2) := by decide +kernel
theorem dX8_fillsAhead_130 : decode cX8_fillsAhead 130 = .ok (.iload 8, 2) := by decide +kernel
theorem dX8_fillsAhead_132 : decode cX8_fillsAhead 132 = .ok (.iload_n 3, 1) := by decide +kernel
theorem dX8_fillsAhead_133 : decode cX8_fillsAhead 133 = .ok (.iconst 2, 1) := by decide +kernel
theorem dX8_fillsAhead_134 : decode cX8_fillsAhead 134 = .ok (.if_icmp .le 8, 3) := by decide +kernel
theorem dX8_fillsAhead_137 : decode cX8_fillsAhead 137 = .ok (.iload 7, 2) := by decide +kernel
theorem dX8_fillsAhead_139 : decode cX8_fillsAhead 139 = .ok (.goto 4, 3) := by decide +kernel
theorem dX8_fillsAhead_142 : decode cX8_fillsAhead 142 = .ok (.iconst 0, 1) := by decide +kernel
theorem dX8_fillsAhead_143 : decode cX8_fillsAhead 143 = .ok (.if_icmp .gt 48, 3) := by decide +kernel
theorem dX8_fillsAhead_146 : decode cX8_fillsAhead 146 = .ok (.aload_n 1, 1) := by decide +kernel
theorem dX8_fillsAhead_147 : decode cX8_fillsAhead 147 = .ok (.aload_n 0, 1) := by decide +kernel
theorem dX8_fillsAhead_148 : decode cX8_fillsAhead 148 = .ok (.getfield 87, 3) := by decide +kernel
theorem dX8_fillsAhead_151 : decode cX8_fillsAhead 151 = .ok (.iconst 1, 1) := by decide +kernel
theorem dX8_fillsAhead_152 : decode cX8_fillsAhead 152 = .ok (.iaload, 1) := by decide +kernel
theorem dX8_fillsAhead_153 : decode cX8_fillsAhead 153 = .ok (.iload_n 2, 1) := by decide +kernel
theorem dX8_fillsAhead_154 : decode cX8_fillsAhead 154 = .ok (.iload 4, 2) := by decide +kernel
theorem dX8_fillsAhead_156 : decode cX8_fillsAhead 156 = .ok (.iload_n 2, 1) := by decide +kernel
theorem dX8_fillsAhead_157 : decode cX8_fillsAhead 157 = .ok (.invokestatic 433, 3) := by decide +kernel
theorem dX8_fillsAhead_160 : decode cX8_fillsAhead 160 = .ok (.imul, 1) := by decide +kernel
theorem dX8_fillsAhead_161 : decode cX8_fillsAhead 161 = .ok (.iload 6, 2) := by decide +kernel
theorem dX8_fillsAhead_163 : decode cX8_fillsAhead 163 = .ok (.iload_n 2, 1) := by decide +kernel
theorem dX8_fillsAhead_164 : decode cX8_fillsAhead 164 = .ok (.iconst 2, 1) := by decide +kernel
theorem dX8_fillsAhead_165 : decode cX8_fillsAhead 165 = .ok (.idiv, 1) := by decide +kernel
theorem dX8_fillsAhead_166 : decode cX8_fillsAhead 166 = .ok (.iconst 3, 1) := by decide +kernel
theorem dX8_fillsAhead_167 : decode cX8_fillsAhead 167 = .ok (.irem, 1) := by decide +kernel
theorem dX8_fillsAhead_168 : decode cX8_fillsAhead 168 = .ok (.imul, 1) := by decide +kernel
theorem dX8_fillsAhead_169 : decode cX8_fillsAhead 169 = .ok (.iadd, 1) := by decide +kernel
theorem dX8_fillsAhead_170 : decode cX8_fillsAhead 170 = .ok (.iload 8, 2) := by decide +kernel
theorem dX8_fillsAhead_172 : decode cX8_fillsAhead 172 = .ok (.iload_n 2, 1) := by decide +kernel
theorem dX8_fillsAhead_173 : decode cX8_fillsAhead 173 = .ok (.iconst 2, 1) := by decide +kernel
theorem dX8_fillsAhead_174 : decode cX8_fillsAhead 174 = .ok (.irem, 1) := by decide +kernel
theorem dX8_fillsAhead_175 : decode cX8_fillsAhead 175 = .ok (.imul, 1) := by decide +kernel
theorem dX8_fillsAhead_176 : decode cX8_fillsAhead 176 = .ok (.iadd, 1) := by decide +kernel
theorem dX8_fillsAhead_177 : decode cX8_fillsAhead 177 = .ok (.invokestatic 448, 3) := by decide +kernel
theorem dX8_fillsAhead_180 : decode cX8_fillsAhead 180 = .ok (.dup2, 1) := by decide +kernel
theorem dX8_fillsAhead_181 : decode cX8_fillsAhead 181 = .ok (.laload, 1) := by decide +kernel
theorem dX8_fillsAhead_182 : decode cX8_fillsAhead 182 = .ok (.lconst 1, 1) := by decide +kernel
theorem dX8_fillsAhead_183 : decode cX8_fillsAhead 183 = .ok (.ladd, 1) := by decide +kernel
theorem dX8_fillsAhead_184 : decode cX8_fillsAhead 184 = .ok (.lastore, 1) := by decide +kernel
theorem dX8_fillsAhead_185 : decode cX8_fillsAhead 185 = .ok (.iinc 8 1, 3) := by decide +kernel
theorem dX8_fillsAhead_188 : decode cX8_fillsAhead 188 = .ok (.goto (-58), 3) := by decide +kernel
theorem dX8_fillsAhead_191 : decode cX8_fillsAhead 191 = .ok (.iinc 6 1, 3) := by decide +kernel
theorem dX8_fillsAhead_194 : decode cX8_fillsAhead 194 = .ok (.goto (-106), 3) := by decide +kernel
theorem dX8_fillsAhead_197 : decode cX8_fillsAhead 197 = .ok (.iinc 4 1, 3) := by decide +kernel
theorem dX8_fillsAhead_200 : decode cX8_fillsAhead 200 = .ok (.goto (-165), 3) := by decide +kernel
theorem dX8_fillsAhead_203 : decode cX8_fillsAhead 203 = .ok (.return_, 1) := by decide +kernel
theorem dX8_lays_0 : decode cX8_lays 0 = .ok (.iload_n 2, 1) := by decide +kernel
theorem dX8_lays_1 : decode cX8_lays 1 = .ok (.iconst 1, 1) := by decide +kernel
theorem dX8_lays_2 : decode cX8_lays 2 = .ok (.iadd, 1) := by decide +kernel
theorem dX8_lays_3 : decode cX8_lays 3 = .ok (.aload_n 0, 1) := by decide +kernel
theorem dX8_lays_4 : decode cX8_lays 4 = .ok (.getfield 445, 3) := by decide +kernel
theorem dX8_lays_7 : decode cX8_lays 7 = .ok (.sipush (-460), 3) := by decide +kernel
theorem dX8_lays_10 : decode cX8_lays 10 = .ok (.invokestatic 448, 3) := by decide +kernel
theorem dX8_lays_13 : decode cX8_lays 13 = .ok (.istore 4, 2) := by decide +kernel
theorem dX8_lays_15 : decode cX8_lays 15 = .ok (.iload_n 2, 1) := by decide +kernel
theorem dX8_lays_16 : decode cX8_lays 16 = .ok (.iload_n 3, 1) := by decide +kernel
theorem dX8_lays_17 : decode cX8_lays 17 = .ok (.sipush (-460), 3) := by decide +kernel
theorem dX8_lays_20 : decode cX8_lays 20 = .ok (.invokestatic 448, 3) := by decide +kernel
theorem dX8_lays_23 : decode cX8_lays 23 = .ok (.istore 5, 2) := by decide +kernel
theorem dX8_lays_25 : decode cX8_lays 25 = .ok (.iconst 0, 1) := by decide +kernel
theorem dX8_lays_26 : decode cX8_lays 26 = .ok (.istore 6, 2) := by decide +kernel
theorem dX8_lays_28 : decode cX8_lays 28 = .ok (.iload 6, 2) := by decide +kernel
theorem dX8_lays_30 : decode cX8_lays 30 = .ok (.sipush 1060, 3) := by decide +kernel
theorem dX8_lays_33 : decode cX8_lays 33 = .ok (.if_icmp .ge 55, 3) := by decide +kernel
theorem dX8_lays_36 : decode cX8_lays 36 = .ok (.aload_n 1, 1) := by decide +kernel
theorem dX8_lays_37 : decode cX8_lays 37 = .ok (.iload 4, 2) := by decide +kernel
theorem dX8_lays_39 : decode cX8_lays 39 = .ok (.iload 6, 2) := by decide +kernel
theorem dX8_lays_41 : decode cX8_lays 41 = .ok (.iadd, 1) := by decide +kernel
theorem dX8_lays_42 : decode cX8_lays 42 = .ok (.laload, 1) := by decide +kernel
theorem dX8_lays_43 : decode cX8_lays 43 = .ok (.lstore 7, 2) := by decide +kernel
theorem dX8_lays_45 : decode cX8_lays 45 = .ok (.lload 7, 2) := by decide +kernel
theorem dX8_lays_47 : decode cX8_lays 47 = .ok (.lconst 0, 1) := by decide +kernel
theorem dX8_lays_48 : decode cX8_lays 48 = .ok (.lcmp, 1) := by decide +kernel
theorem dX8_lays_49 : decode cX8_lays 49 = .ok (.ifCond .le 33, 3) := by decide +kernel
theorem dX8_lays_52 : decode cX8_lays 52 = .ok (.aload_n 1, 1) := by decide +kernel
theorem dX8_lays_53 : decode cX8_lays 53 = .ok (.iload 5, 2) := by decide +kernel
theorem dX8_lays_55 : decode cX8_lays 55 = .ok (.iload 6, 2) := by decide +kernel
theorem dX8_lays_57 : decode cX8_lays 57 = .ok (.iadd, 1) := by decide +kernel
theorem dX8_lays_58 : decode cX8_lays 58 = .ok (.aload_n 0, 1) := by decide +kernel
theorem dX8_lays_59 : decode cX8_lays 59 = .ok (.getfield 439, 3) := by decide +kernel
theorem dX8_lays_62 : decode cX8_lays 62 = .ok (.iadd, 1) := by decide +kernel
theorem dX8_lays_63 : decode cX8_lays 63 = .ok (.aload_n 1, 1) := by decide +kernel
theorem dX8_lays_64 : decode cX8_lays 64 = .ok (.iload 5, 2) := by decide +kernel
theorem dX8_lays_66 : decode cX8_lays 66 = .ok (.iload 6, 2) := by decide +kernel
theorem dX8_lays_68 : decode cX8_lays 68 = .ok (.iadd, 1) := by decide +kernel
theorem dX8_lays_69 : decode cX8_lays 69 = .ok (.aload_n 0, 1) := by decide +kernel
theorem dX8_lays_70 : decode cX8_lays 70 = .ok (.getfield 439, 3) := by decide +kernel
theorem dX8_lays_73 : decode cX8_lays 73 = .ok (.iadd, 1) := by decide +kernel
theorem dX8_lays_74 : decode cX8_lays 74 = .ok (.laload, 1) := by decide +kernel
theorem dX8_lays_75 : decode cX8_lays 75 = .ok (.lload 7, 2) := by decide +kernel
theorem dX8_lays_77 : decode cX8_lays 77 = .ok (.ladd, 1) := by decide +kernel
theorem dX8_lays_78 : decode cX8_lays 78 = .ok (.invokestatic 451, 3) := by decide +kernel
theorem dX8_lays_81 : decode cX8_lays 81 = .ok (.lastore, 1) := by decide +kernel
theorem dX8_lays_82 : decode cX8_lays 82 = .ok (.iinc 6 1, 3) := by decide +kernel
theorem dX8_lays_85 : decode cX8_lays 85 = .ok (.goto (-57), 3) := by decide +kernel
theorem dX8_lays_88 : decode cX8_lays 88 = .ok (.return_, 1) := by decide +kernel
theorem dX8_opensFrame_0 : decode cX8_opensFrame 0 = .ok (.aload_n 0, 1) := by decide +kernel
theorem dX8_opensFrame_1 : decode cX8_opensFrame 1 = .ok (.iconst 0, 1) := by decide +kernel
theorem dX8_opensFrame_2 : decode cX8_opensFrame 2 = .ok (.putfield 430, 3) := by decide +kernel
theorem dX8_opensFrame_5 : decode cX8_opensFrame 5 = .ok (.aload_n 0, 1) := by decide +kernel
theorem dX8_opensFrame_6 : decode cX8_opensFrame 6 = .ok (.aload_n 0, 1) := by decide +kernel
theorem dX8_opensFrame_7 : decode cX8_opensFrame 7 = .ok (.getfield 84, 3) := by decide +kernel
theorem dX8_opensFrame_10 : decode cX8_opensFrame 10 = .ok (.iconst 1, 1) := by decide +kernel
theorem dX8_opensFrame_11 : decode cX8_opensFrame 11 = .ok (.iaload, 1) := by decide +kernel
theorem dX8_opensFrame_12 : decode cX8_opensFrame 12 = .ok (.aload_n 0, 1) := by decide +kernel
theorem dX8_opensFrame_13 : decode cX8_opensFrame 13 = .ok (.getfield 90, 3) := by decide +kernel
theorem dX8_opensFrame_16 : decode cX8_opensFrame 16 = .ok (.iconst 1, 1) := by decide +kernel
theorem dX8_opensFrame_17 : decode cX8_opensFrame 17 = .ok (.iaload, 1) := by decide +kernel
theorem dX8_opensFrame_18 : decode cX8_opensFrame 18 = .ok (.invokevirtual 454, 3) := by decide +kernel
theorem dX8_opensFrame_21 : decode cX8_opensFrame 21 = .ok (.ifCond .eq 25, 3) := by decide +kernel
theorem dX8_opensFrame_24 : decode cX8_opensFrame 24 = .ok (.aload_n 0, 1) := by decide +kernel
theorem dX8_opensFrame_25 : decode cX8_opensFrame 25 = .ok (.iload_n 2, 1) := by decide +kernel
theorem dX8_opensFrame_26 : decode cX8_opensFrame 26 = .ok (.iload_n 3, 1) := by decide +kernel
theorem dX8_opensFrame_27 : decode cX8_opensFrame 27 = .ok (.iconst 0, 1) := by decide +kernel
theorem dX8_opensFrame_28 : decode cX8_opensFrame 28 = .ok (.iconst 0, 1) := by decide +kernel
theorem dX8_opensFrame_29 : decode cX8_opensFrame 29 = .ok (.iconst 0, 1) := by decide +kernel
theorem dX8_opensFrame_30 : decode cX8_opensFrame 30 = .ok (.invokevirtual 458, 3) := by decide +kernel
theorem dX8_opensFrame_33 : decode cX8_opensFrame 33 = .ok (.ifCond .eq (-28), 3) := by decide +kernel
theorem dX8_opensFrame_36 : decode cX8_opensFrame 36 = .ok (.aload_n 0, 1) := by decide +kernel
theorem dX8_opensFrame_37 : decode cX8_opensFrame 37 = .ok (.aload_n 1, 1) := by decide +kernel
theorem dX8_opensFrame_38 : decode cX8_opensFrame 38 = .ok (.iload_n 2, 1) := by decide +kernel
theorem dX8_opensFrame_39 : decode cX8_opensFrame 39 = .ok (.iload_n 3, 1) := by decide +kernel
theorem dX8_opensFrame_40 : decode cX8_opensFrame 40 = .ok (.invokevirtual 462, 3) := by decide +kernel
theorem dX8_opensFrame_43 : decode cX8_opensFrame 43 = .ok (.goto (-38), 3) := by decide +kernel
theorem dX8_opensFrame_46 : decode cX8_opensFrame 46 = .ok (.return_, 1) := by decide +kernel
theorem dX8_mayOwe_0 : decode cX8_mayOwe 0 = .ok (.iload_n 1, 1) := by decide +kernel
theorem dX8_mayOwe_1 : decode cX8_mayOwe 1 = .ok (.ifCond .gt 7, 3) := by decide +kernel
theorem dX8_mayOwe_4 : decode cX8_mayOwe 4 = .ok (.iload_n 2, 1) := by decide +kernel
theorem dX8_mayOwe_5 : decode cX8_mayOwe 5 = .ok (.ifCond .ne 7, 3) := by decide +kernel
theorem dX8_mayOwe_8 : decode cX8_mayOwe 8 = .ok (.iconst 1, 1) := by decide +kernel
theorem dX8_mayOwe_9 : decode cX8_mayOwe 9 = .ok (.goto 4, 3) := by decide +kernel
theorem dX8_mayOwe_12 : decode cX8_mayOwe 12 = .ok (.iconst 0, 1) := by decide +kernel
theorem dX8_mayOwe_13 : decode cX8_mayOwe 13 = .ok (.ireturn, 1) := by decide +kernel
theorem dX8_tellsAhead_0 : decode cX8_tellsAhead 0 = .ok (.aload_n 0, 1) := by decide +kernel
theorem dX8_tellsAhead_1 : decode cX8_tellsAhead 1 = .ok (.getfield 330, 3) := by decide +kernel
theorem dX8_tellsAhead_4 : decode cX8_tellsAhead 4 = .ok (.ifCond .eq 4, 3) := by decide +kernel
theorem dX8_tellsAhead_7 : decode cX8_tellsAhead 7 = .ok (.return_, 1) := by decide +kernel
theorem dX8_tellsAhead_8 : decode cX8_tellsAhead 8 = .ok (.aload_n 0, 1) := by decide +kernel
theorem dX8_tellsAhead_9 : decode cX8_tellsAhead 9 = .ok (.iconst 1, 1) := by decide +kernel
theorem dX8_tellsAhead_10 : decode cX8_tellsAhead 10 = .ok (.putfield 330, 3) := by decide +kernel
theorem dX8_tellsAhead_13 : decode cX8_tellsAhead 13 = .ok (.iconst 0, 1) := by decide +kernel
theorem dX8_tellsAhead_14 : decode cX8_tellsAhead 14 = .ok (.istore_n 1, 1) := by decide +kernel
theorem dX8_tellsAhead_15 : decode cX8_tellsAhead 15 = .ok (.iload_n 1, 1) := by decide +kernel
theorem dX8_tellsAhead_16 : decode cX8_tellsAhead 16 = .ok (.ldc 149, 2) := by decide +kernel
theorem dX8_tellsAhead_18 : decode cX8_tellsAhead 18 = .ok (.if_icmp .ge 16, 3) := by decide +kernel
theorem dX8_tellsAhead_21 : decode cX8_tellsAhead 21 = .ok (.aload_n 0, 1) := by decide +kernel
theorem dX8_tellsAhead_22 : decode cX8_tellsAhead 22 = .ok (.getfield 150, 3) := by decide +kernel
theorem dX8_tellsAhead_25 : decode cX8_tellsAhead 25 = .ok (.iload_n 1, 1) := by decide +kernel
theorem dX8_tellsAhead_26 : decode cX8_tellsAhead 26 = .ok (.lconst 0, 1) := by decide +kernel
theorem dX8_tellsAhead_27 : decode cX8_tellsAhead 27 = .ok (.lastore, 1) := by decide +kernel
theorem dX8_tellsAhead_28 : decode cX8_tellsAhead 28 = .ok (.iinc 1 1, 3) := by decide +kernel
theorem dX8_tellsAhead_31 : decode cX8_tellsAhead 31 = .ok (.goto (-16), 3) := by decide +kernel
theorem dX8_tellsAhead_34 : decode cX8_tellsAhead 34 = .ok (.iconst 0, 1) := by decide +kernel
theorem dX8_tellsAhead_35 : decode cX8_tellsAhead 35 = .ok (.istore_n 1, 1) := by decide +kernel
theorem dX8_tellsAhead_36 : decode cX8_tellsAhead 36 = .ok (.iload_n 1, 1) := by decide +kernel
theorem dX8_tellsAhead_37 : decode cX8_tellsAhead 37 = .ok (.bipush 24, 2) := by decide +kernel
theorem dX8_tellsAhead_39 : decode cX8_tellsAhead 39 = .ok (.if_icmp .ge 18, 3) := by decide +kernel
theorem dX8_tellsAhead_42 : decode cX8_tellsAhead 42 = .ok (.aload_n 0, 1) := by decide +kernel
theorem dX8_tellsAhead_43 : decode cX8_tellsAhead 43 = .ok (.aload_n 0, 1) := by decide +kernel
theorem dX8_tellsAhead_44 : decode cX8_tellsAhead 44 = .ok (.getfield 150, 3) := by decide +kernel
theorem dX8_tellsAhead_47 : decode cX8_tellsAhead 47 = .ok (.iload_n 1, 1) := by decide +kernel
theorem dX8_tellsAhead_48 : decode cX8_tellsAhead 48 = .ok (.invokevirtual 466, 3) := by decide +kernel
theorem dX8_tellsAhead_51 : decode cX8_tellsAhead 51 = .ok (.iinc 1 1, 3) := by decide +kernel
theorem dX8_tellsAhead_54 : decode cX8_tellsAhead 54 = .ok (.goto (-18), 3) := by decide +kernel
theorem dX8_tellsAhead_57 : decode cX8_tellsAhead 57 = .ok (.aload_n 0, 1) := by decide +kernel
theorem dX8_tellsAhead_58 : decode cX8_tellsAhead 58 = .ok (.getfield 87, 3) := by decide +kernel
theorem dX8_tellsAhead_61 : decode cX8_tellsAhead 61 = .ok (.iconst 1, 1) := by decide +kernel
theorem dX8_tellsAhead_62 : decode cX8_tellsAhead 62 = .ok (.iaload, 1) := by decide +kernel
theorem dX8_tellsAhead_63 : decode cX8_tellsAhead 63 = .ok (.iconst 1, 1) := by decide +kernel
theorem dX8_tellsAhead_64 : decode cX8_tellsAhead 64 = .ok (.isub, 1) := by decide +kernel
theorem dX8_tellsAhead_65 : decode cX8_tellsAhead 65 = .ok (.istore_n 1, 1) := by decide +kernel
theorem dX8_tellsAhead_66 : decode cX8_tellsAhead 66 = .ok (.iload_n 1, 1) := by decide +kernel
theorem dX8_tellsAhead_67 : decode cX8_tellsAhead 67 = .ok (.ifCond .lt 49, 3) := by decide +kernel
theorem dX8_tellsAhead_70 : decode cX8_tellsAhead 70 = .ok (.iconst 0, 1) := by decide +kernel
theorem dX8_tellsAhead_71 : decode cX8_tellsAhead 71 = .ok (.istore_n 2, 1) := by decide +kernel
theorem dX8_tellsAhead_72 : decode cX8_tellsAhead 72 = .ok (.iload_n 2, 1) := by decide +kernel
theorem dX8_tellsAhead_73 : decode cX8_tellsAhead 73 = .ok (.bipush 24, 2) := by decide +kernel
theorem dX8_tellsAhead_75 : decode cX8_tellsAhead 75 = .ok (.if_icmp .ge 35, 3) := by decide +kernel
theorem dX8_tellsAhead_78 : decode cX8_tellsAhead 78 = .ok (.aload_n 0, 1) := by decide +kernel
theorem dX8_tellsAhead_79 : decode cX8_tellsAhead 79 = .ok (.iload_n 1, 1) := by decide +kernel
theorem dX8_tellsAhead_80 : decode cX8_tellsAhead 80 = .ok (.iload_n 2, 1) := by decide +kernel
theorem dX8_tellsAhead_81 : decode cX8_tellsAhead 81 = .ok (.invokevirtual 470, 3) := by decide +kernel
theorem dX8_tellsAhead_84 : decode cX8_tellsAhead 84 = .ok (.ifCond .eq 20, 3) := by decide +kernel
theorem dX8_tellsAhead_87 : decode cX8_tellsAhead 87 = .ok (.iload_n 2, 1) := by decide +kernel
theorem dX8_tellsAhead_88 : decode cX8_tellsAhead 88 = .ok (.invokestatic 473, 3) := by decide +kernel
theorem dX8_tellsAhead_91 : decode cX8_tellsAhead 91 = .ok (.ifCond .eq 13, 3) := by decide +kernel
theorem dX8_tellsAhead_94 : decode cX8_tellsAhead 94 = .ok (.aload_n 0, 1) := by decide +kernel
theorem dX8_tellsAhead_95 : decode cX8_tellsAhead 95 = .ok (.aload_n 0, 1) := by decide +kernel
theorem dX8_tellsAhead_96 : decode cX8_tellsAhead 96 = .ok (.getfield 150, 3) := by decide +kernel
theorem dX8_tellsAhead_99 : decode cX8_tellsAhead 99 = .ok (.iload_n 1, 1) := by decide +kernel
theorem dX8_tellsAhead_100 : decode cX8_tellsAhead 100 = .ok (.iload_n 2, 1) := by decide +kernel
theorem dX8_tellsAhead_101 : decode cX8_tellsAhead 101 = .ok (.invokevirtual 476, 3) := by decide +kernel
theorem dX8_tellsAhead_104 : decode cX8_tellsAhead 104 = .ok (.iinc 2 1, 3) := by decide +kernel
theorem dX8_tellsAhead_107 : decode cX8_tellsAhead 107 = .ok (.goto (-35), 3) := by decide +kernel
theorem dX8_tellsAhead_110 : decode cX8_tellsAhead 110 = .ok (.iinc 1 (-1), 3) := by decide +kernel
theorem dX8_tellsAhead_113 : decode cX8_tellsAhead 113 = .ok (.goto (-47), 3) := by decide +kernel
theorem dX8_tellsAhead_116 : decode cX8_tellsAhead 116 = .ok (.return_, 1) := by decide +kernel
theorem dX8_isOwing_0 : decode cX8_isOwing 0 = .ok (.iload_n 0, 1) := by decide +kernel
theorem dX8_isOwing_1 : decode cX8_isOwing 1 = .ok (.iconst 2, 1) := by decide +kernel
theorem dX8_isOwing_2 : decode cX8_isOwing 2 = .ok (.irem, 1) := by decide +kernel
theorem dX8_isOwing_3 : decode cX8_isOwing 3 = .ok (.iload_n 0, 1) := by decide +kernel
theorem dX8_isOwing_4 : decode cX8_isOwing 4 = .ok (.iconst 2, 1) := by decide +kernel
theorem dX8_isOwing_5 : decode cX8_isOwing 5 = .ok (.idiv, 1) := by decide +kernel
theorem dX8_isOwing_6 : decode cX8_isOwing 6 = .ok (.iconst 3, 1) := by decide +kernel
theorem dX8_isOwing_7 : decode cX8_isOwing 7 = .ok (.irem, 1) := by decide +kernel
theorem dX8_isOwing_8 : decode cX8_isOwing 8 = .ok (.if_icmp .gt 19, 3) := by decide +kernel
theorem dX8_isOwing_11 : decode cX8_isOwing 11 = .ok (.iload_n 0, 1) := by decide +kernel
theorem dX8_isOwing_12 : decode cX8_isOwing 12 = .ok (.iconst 2, 1) := by decide +kernel
theorem dX8_isOwing_13 : decode cX8_isOwing 13 = .ok (.idiv, 1) := by decide +kernel
theorem dX8_isOwing_14 : decode cX8_isOwing 14 = .ok (.iconst 3, 1) := by decide +kernel
theorem dX8_isOwing_15 : decode cX8_isOwing 15 = .ok (.irem, 1) := by decide +kernel
theorem dX8_isOwing_16 : decode cX8_isOwing 16 = .ok (.iload_n 0, 1) := by decide +kernel
theorem dX8_isOwing_17 : decode cX8_isOwing 17 = .ok (.invokestatic 433, 3) := by decide +kernel
theorem dX8_isOwing_20 : decode cX8_isOwing 20 = .ok (.if_icmp .gt 7, 3) := by decide +kernel
theorem dX8_isOwing_23 : decode cX8_isOwing 23 = .ok (.iconst 1, 1) := by decide +kernel
theorem dX8_isOwing_24 : decode cX8_isOwing 24 = .ok (.goto 4, 3) := by decide +kernel
theorem dX8_isOwing_27 : decode cX8_isOwing 27 = .ok (.iconst 0, 1) := by decide +kernel
theorem dX8_isOwing_28 : decode cX8_isOwing 28 = .ok (.ireturn, 1) := by decide +kernel
theorem dX8_owedNow_0 : decode cX8_owedNow 0 = .ok (.iconst 0, 1) := by decide +kernel
theorem dX8_owedNow_1 : decode cX8_owedNow 1 = .ok (.istore_n 1, 1) := by decide +kernel
theorem dX8_owedNow_2 : decode cX8_owedNow 2 = .ok (.iconst 0, 1) := by decide +kernel
theorem dX8_owedNow_3 : decode cX8_owedNow 3 = .ok (.istore_n 2, 1) := by decide +kernel
theorem dX8_owedNow_4 : decode cX8_owedNow 4 = .ok (.iload_n 2, 1) := by decide +kernel
theorem dX8_owedNow_5 : decode cX8_owedNow 5 = .ok (.aload_n 0, 1) := by decide +kernel
theorem dX8_owedNow_6 : decode cX8_owedNow 6 = .ok (.getfield 385, 3) := by decide +kernel
theorem dX8_owedNow_9 : decode cX8_owedNow 9 = .ok (.if_icmp .ge 54, 3) := by decide +kernel
theorem dX8_owedNow_12 : decode cX8_owedNow 12 = .ok (.iload_n 2, 1) := by decide +kernel
theorem dX8_owedNow_13 : decode cX8_owedNow 13 = .ok (.aload_n 0, 1) := by decide +kernel
theorem dX8_owedNow_14 : decode cX8_owedNow 14 = .ok (.getfield 87, 3) := by decide +kernel
theorem dX8_owedNow_17 : decode cX8_owedNow 17 = .ok (.iconst 1, 1) := by decide +kernel
theorem dX8_owedNow_18 : decode cX8_owedNow 18 = .ok (.iaload, 1) := by decide +kernel
theorem dX8_owedNow_19 : decode cX8_owedNow 19 = .ok (.if_icmp .ge 44, 3) := by decide +kernel
theorem dX8_owedNow_22 : decode cX8_owedNow 22 = .ok (.aload_n 0, 1) := by decide +kernel
theorem dX8_owedNow_23 : decode cX8_owedNow 23 = .ok (.iload_n 2, 1) := by decide +kernel
theorem dX8_owedNow_24 : decode cX8_owedNow 24 = .ok (.invokevirtual 407, 3) := by decide +kernel
theorem dX8_owedNow_27 : decode cX8_owedNow 27 = .ok (.aload_n 0, 1) := by decide +kernel
theorem dX8_owedNow_28 : decode cX8_owedNow 28 = .ok (.getfield 324, 3) := by decide +kernel
theorem dX8_owedNow_31 : decode cX8_owedNow 31 = .ok (.aload_n 0, 1) := by decide +kernel
theorem dX8_owedNow_32 : decode cX8_owedNow 32 = .ok (.getfield 134, 3) := by decide +kernel
theorem dX8_owedNow_35 : decode cX8_owedNow 35 = .ok (.iload_n 2, 1) := by decide +kernel
theorem dX8_owedNow_36 : decode cX8_owedNow 36 = .ok (.iaload, 1) := by decide +kernel
theorem dX8_owedNow_37 : decode cX8_owedNow 37 = .ok (.isub, 1) := by decide +kernel
theorem dX8_owedNow_38 : decode cX8_owedNow 38 = .ok (.aload_n 0, 1) := by decide +kernel
theorem dX8_owedNow_39 : decode cX8_owedNow 39 = .ok (.getfield 137, 3) := by decide +kernel
theorem dX8_owedNow_42 : decode cX8_owedNow 42 = .ok (.iload_n 2, 1) := by decide +kernel
theorem dX8_owedNow_43 : decode cX8_owedNow 43 = .ok (.iaload, 1) := by decide +kernel
theorem dX8_owedNow_44 : decode cX8_owedNow 44 = .ok (.isub, 1) := by decide +kernel
theorem dX8_owedNow_45 : decode cX8_owedNow 45 = .ok (.isub, 1) := by decide +kernel
theorem dX8_owedNow_46 : decode cX8_owedNow 46 = .ok (.istore_n 3, 1) := by decide +kernel
theorem dX8_owedNow_47 : decode cX8_owedNow 47 = .ok (.iload_n 3, 1) := by decide +kernel
theorem dX8_owedNow_48 : decode cX8_owedNow 48 = .ok (.ifCond .le 9, 3) := by decide +kernel
theorem dX8_owedNow_51 : decode cX8_owedNow 51 = .ok (.iload_n 1, 1) := by decide +kernel
theorem dX8_owedNow_52 : decode cX8_owedNow 52 = .ok (.iload_n 3, 1) := by decide +kernel
theorem dX8_owedNow_53 : decode cX8_owedNow 53 = .ok (.invokestatic 442, 3) := by decide +kernel
theorem dX8_owedNow_56 : decode cX8_owedNow 56 = .ok (.istore_n 1, 1) := by decide +kernel
theorem dX8_owedNow_57 : decode cX8_owedNow 57 = .ok (.iinc 2 1, 3) := by decide +kernel
theorem dX8_owedNow_60 : decode cX8_owedNow 60 = .ok (.goto (-56), 3) := by decide +kernel
theorem dX8_owedNow_63 : decode cX8_owedNow 63 = .ok (.iload_n 1, 1) := by decide +kernel
theorem dX8_owedNow_64 : decode cX8_owedNow 64 = .ok (.ireturn, 1) := by decide +kernel
theorem dX8_tellsComing_0 : decode cX8_tellsComing 0 = .ok (.aload_n 0, 1) := by decide +kernel
theorem dX8_tellsComing_1 : decode cX8_tellsComing 1 = .ok (.invokevirtual 410, 3) := by decide +kernel
theorem dX8_tellsComing_4 : decode cX8_tellsComing 4 = .ok (.aload_n 0, 1) := by decide +kernel
theorem dX8_tellsComing_5 : decode cX8_tellsComing 5 = .ok (.invokevirtual 479, 3) := by decide +kernel
theorem dX8_tellsComing_8 : decode cX8_tellsComing 8 = .ok (.iconst 0, 1) := by decide +kernel
theorem dX8_tellsComing_9 : decode cX8_tellsComing 9 = .ok (.istore_n 2, 1) := by decide +kernel
theorem dX8_tellsComing_10 : decode cX8_tellsComing 10 = .ok (.iload_n 2, 1) := by decide +kernel
theorem dX8_tellsComing_11 : decode cX8_tellsComing 11 = .ok (.sipush 2120, 3) := by decide +kernel
theorem dX8_tellsComing_14 : decode cX8_tellsComing 14 = .ok (.if_icmp .ge 16, 3) := by decide +kernel
theorem dX8_tellsComing_17 : decode cX8_tellsComing 17 = .ok (.aload_n 0, 1) := by decide +kernel
theorem dX8_tellsComing_18 : decode cX8_tellsComing 18 = .ok (.getfield 159, 3) := by decide +kernel
theorem dX8_tellsComing_21 : decode cX8_tellsComing 21 = .ok (.iload_n 2, 1) := by decide +kernel
theorem dX8_tellsComing_22 : decode cX8_tellsComing 22 = .ok (.lconst 0, 1) := by decide +kernel
theorem dX8_tellsComing_23 : decode cX8_tellsComing 23 = .ok (.lastore, 1) := by decide +kernel
theorem dX8_tellsComing_24 : decode cX8_tellsComing 24 = .ok (.iinc 2 1, 3) := by decide +kernel
theorem dX8_tellsComing_27 : decode cX8_tellsComing 27 = .ok (.goto (-17), 3) := by decide +kernel
theorem dX8_tellsComing_30 : decode cX8_tellsComing 30 = .ok (.aload_n 0, 1) := by decide +kernel
theorem dX8_tellsComing_31 : decode cX8_tellsComing 31 = .ok (.invokevirtual 482, 3) := by decide +kernel
theorem dX8_tellsComing_34 : decode cX8_tellsComing 34 = .ok (.istore_n 2, 1) := by decide +kernel
theorem dX8_tellsComing_35 : decode cX8_tellsComing 35 = .ok (.aload_n 0, 1) := by decide +kernel
theorem dX8_tellsComing_36 : decode cX8_tellsComing 36 = .ok (.invokevirtual 421, 3) := by decide +kernel
theorem dX8_tellsComing_39 : decode cX8_tellsComing 39 = .ok (.istore_n 3, 1) := by decide +kernel
theorem dX8_tellsComing_40 : decode cX8_tellsComing 40 = .ok (.aload_n 0, 1) := by decide +kernel
theorem dX8_tellsComing_41 : decode cX8_tellsComing 41 = .ok (.getfield 385, 3) := by decide +kernel
theorem dX8_tellsComing_44 : decode cX8_tellsComing 44 = .ok (.aload_n 0, 1) := by decide +kernel
theorem dX8_tellsComing_45 : decode cX8_tellsComing 45 = .ok (.getfield 87, 3) := by decide +kernel
theorem dX8_tellsComing_48 : decode cX8_tellsComing 48 = .ok (.iconst 1, 1) := by decide +kernel
theorem dX8_tellsComing_49 : decode cX8_tellsComing 49 = .ok (.iaload, 1) := by decide +kernel
theorem dX8_tellsComing_50 : decode cX8_tellsComing 50 = .ok (.if_icmp .ne 11, 3) := by decide +kernel
theorem dX8_tellsComing_53 : decode cX8_tellsComing 53 = .ok (.aload_n 0, 1) := by decide +kernel
theorem dX8_tellsComing_54 : decode cX8_tellsComing 54 = .ok (.iload_n 3, 1) := by decide +kernel
theorem dX8_tellsComing_55 : decode cX8_tellsComing 55 = .ok (.iload_n 2, 1) := by decide +kernel
theorem dX8_tellsComing_56 : decode cX8_tellsComing 56 = .ok (.iload_n 1, 1) := by decide +kernel
theorem dX8_tellsComing_57 : decode cX8_tellsComing 57 = .ok (.invokevirtual 485, 3) := by decide +kernel
theorem dX8_tellsComing_60 : decode cX8_tellsComing 60 = .ok (.return_, 1) := by decide +kernel
theorem dX8_tellsComing_61 : decode cX8_tellsComing 61 = .ok (.iload_n 3, 1) := by decide +kernel
theorem dX8_tellsComing_62 : decode cX8_tellsComing 62 = .ok (.aload_n 0, 1) := by decide +kernel
theorem dX8_tellsComing_63 : decode cX8_tellsComing 63 = .ok (.getfield 143, 3) := by decide +kernel
theorem dX8_tellsComing_66 : decode cX8_tellsComing 66 = .ok (.aload_n 0, 1) := by decide +kernel
theorem dX8_tellsComing_67 : decode cX8_tellsComing 67 = .ok (.getfield 385, 3) := by decide +kernel
theorem dX8_tellsComing_70 : decode cX8_tellsComing 70 = .ok (.iaload, 1) := by decide +kernel
theorem dX8_tellsComing_71 : decode cX8_tellsComing 71 = .ok (.aload_n 0, 1) := by decide +kernel
theorem dX8_tellsComing_72 : decode cX8_tellsComing 72 = .ok (.getfield 93, 3) := by decide +kernel
theorem dX8_tellsComing_75 : decode cX8_tellsComing 75 = .ok (.iconst 1, 1) := by decide +kernel
theorem dX8_tellsComing_76 : decode cX8_tellsComing 76 = .ok (.iaload, 1) := by decide +kernel
theorem dX8_tellsComing_77 : decode cX8_tellsComing 77 = .ok (.aload_n 0, 1) := by decide +kernel
theorem dX8_tellsComing_78 : decode cX8_tellsComing 78 = .ok (.getfield 146, 3) := by decide +kernel
theorem dX8_tellsComing_81 : decode cX8_tellsComing 81 = .ok (.aload_n 0, 1) := by decide +kernel
theorem dX8_tellsComing_82 : decode cX8_tellsComing 82 = .ok (.getfield 385, 3) := by decide +kernel
theorem dX8_tellsComing_85 : decode cX8_tellsComing 85 = .ok (.iaload, 1) := by decide +kernel
theorem dX8_tellsComing_86 : decode cX8_tellsComing 86 = .ok (.imul, 1) := by decide +kernel
theorem dX8_tellsComing_87 : decode cX8_tellsComing 87 = .ok (.isub, 1) := by decide +kernel
theorem dX8_tellsComing_88 : decode cX8_tellsComing 88 = .ok (.iadd, 1) := by decide +kernel
theorem dX8_tellsComing_89 : decode cX8_tellsComing 89 = .ok (.istore_n 3, 1) := by decide +kernel
theorem dX8_tellsComing_90 : decode cX8_tellsComing 90 = .ok (.aload_n 0, 1) := by decide +kernel
theorem dX8_tellsComing_91 : decode cX8_tellsComing 91 = .ok (.getfield 137, 3) := by decide +kernel
theorem dX8_tellsComing_94 : decode cX8_tellsComing 94 = .ok (.aload_n 0, 1) := by decide +kernel
theorem dX8_tellsComing_95 : decode cX8_tellsComing 95 = .ok (.getfield 385, 3) := by decide +kernel
theorem dX8_tellsComing_98 : decode cX8_tellsComing 98 = .ok (.iaload, 1) := by decide +kernel
theorem dX8_tellsComing_99 : decode cX8_tellsComing 99 = .ok (.ifCond .ne 15, 3) := by decide +kernel
theorem dX8_tellsComing_102 : decode cX8_tellsComing 102 = .ok (.aload_n 0, 1) := by decide +kernel
theorem dX8_tellsComing_103 : decode cX8_tellsComing 103 = .ok (.aload_n 0, 1) := by decide +kernel
theorem dX8_tellsComing_104 : decode cX8_tellsComing 104 = .ok (.getfield 385, 3) := by decide +kernel
theorem dX8_tellsComing_107 : decode cX8_tellsComing 107 = .ok (.aload_n 0, 1) := by decide +kernel
theorem dX8_tellsComing_108 : decode cX8_tellsComing 108 = .ok (.getfield 324, 3) := by decide +kernel
theorem dX8_tellsComing_111 : decode cX8_tellsComing 111 = .ok (.invokevirtual 388, 3) := by decide +kernel
theorem dX8_tellsComing_114 : decode cX8_tellsComing 114 = .ok (.aload_n 0, 1) := by decide +kernel
theorem dX8_tellsComing_115 : decode cX8_tellsComing 115 = .ok (.iconst 0, 1) := by decide +kernel
theorem dX8_tellsComing_116 : decode cX8_tellsComing 116 = .ok (.putfield 430, 3) := by decide +kernel
theorem dX8_tellsComing_119 : decode cX8_tellsComing 119 = .ok (.aload_n 0, 1) := by decide +kernel
theorem dX8_tellsComing_120 : decode cX8_tellsComing 120 = .ok (.aload_n 0, 1) := by decide +kernel
theorem dX8_tellsComing_121 : decode cX8_tellsComing 121 = .ok (.getfield 84, 3) := by decide +kernel
theorem dX8_tellsComing_124 : decode cX8_tellsComing 124 = .ok (.iconst 1, 1) := by decide +kernel
theorem dX8_tellsComing_125 : decode cX8_tellsComing 125 = .ok (.iaload, 1) := by decide +kernel
theorem dX8_tellsComing_126 : decode cX8_tellsComing 126 = .ok (.aload_n 0, 1) := by decide +kernel
theorem dX8_tellsComing_127 : decode cX8_tellsComing 127 = .ok (.getfield 143, 3) := by decide +kernel
theorem dX8_tellsComing_130 : decode cX8_tellsComing 130 = .ok (.aload_n 0, 1) := by decide +kernel
theorem dX8_tellsComing_131 : decode cX8_tellsComing 131 = .ok (.getfield 385, 3) := by decide +kernel
theorem dX8_tellsComing_134 : decode cX8_tellsComing 134 = .ok (.iaload, 1) := by decide +kernel
theorem dX8_tellsComing_135 : decode cX8_tellsComing 135 = .ok (.isub, 1) := by decide +kernel
theorem dX8_tellsComing_136 : decode cX8_tellsComing 136 = .ok (.aload_n 0, 1) := by decide +kernel
theorem dX8_tellsComing_137 : decode cX8_tellsComing 137 = .ok (.getfield 90, 3) := by decide +kernel
theorem dX8_tellsComing_140 : decode cX8_tellsComing 140 = .ok (.iconst 1, 1) := by decide +kernel
theorem dX8_tellsComing_141 : decode cX8_tellsComing 141 = .ok (.iaload, 1) := by decide +kernel
theorem dX8_tellsComing_142 : decode cX8_tellsComing 142 = .ok (.aload_n 0, 1) := by decide +kernel
theorem dX8_tellsComing_143 : decode cX8_tellsComing 143 = .ok (.getfield 137, 3) := by decide +kernel
theorem dX8_tellsComing_146 : decode cX8_tellsComing 146 = .ok (.aload_n 0, 1) := by decide +kernel
theorem dX8_tellsComing_147 : decode cX8_tellsComing 147 = .ok (.getfield 385, 3) := by decide +kernel
theorem dX8_tellsComing_150 : decode cX8_tellsComing 150 = .ok (.iaload, 1) := by decide +kernel
theorem dX8_tellsComing_151 : decode cX8_tellsComing 151 = .ok (.isub, 1) := by decide +kernel
theorem dX8_tellsComing_152 : decode cX8_tellsComing 152 = .ok (.invokevirtual 454, 3) := by decide +kernel
theorem dX8_tellsComing_155 : decode cX8_tellsComing 155 = .ok (.ifCond .eq 167, 3) := by decide +kernel
theorem dX8_tellsComing_158 : decode cX8_tellsComing 158 = .ok (.iload_n 1, 1) := by decide +kernel
theorem dX8_tellsComing_159 : decode cX8_tellsComing 159 = .ok (.iconst (-1), 1) := by decide +kernel
theorem dX8_tellsComing_160 : decode cX8_tellsComing 160 = .ok (.if_icmp .eq 13, 3) := by decide +kernel
theorem dX8_tellsComing_163 : decode cX8_tellsComing 163 = .ok (.aload_n 0, 1) := by decide +kernel
theorem dX8_tellsComing_164 : decode cX8_tellsComing 164 = .ok (.getfield 156, 3) := by decide +kernel
theorem dX8_tellsComing_167 : decode cX8_tellsComing 167 = .ok (.iconst 0, 1) := by decide +kernel
theorem dX8_tellsComing_168 : decode cX8_tellsComing 168 = .ok (.iaload, 1) := by decide +kernel
theorem dX8_tellsComing_169 : decode cX8_tellsComing 169 = .ok (.iload_n 1, 1) := by decide +kernel
theorem dX8_tellsComing_170 : decode cX8_tellsComing 170 = .ok (.if_icmp .ne (-51), 3) := by decide +kernel
theorem dX8_tellsComing_173 : decode cX8_tellsComing 173 = .ok (.aload_n 0, 1) := by decide +kernel
theorem dX8_tellsComing_174 : decode cX8_tellsComing 174 = .ok (.aload_n 0, 1) := by decide +kernel
theorem dX8_tellsComing_175 : decode cX8_tellsComing 175 = .ok (.getfield 385, 3) := by decide +kernel
theorem dX8_tellsComing_178 : decode cX8_tellsComing 178 = .ok (.iload_n 2, 1) := by decide +kernel
theorem dX8_tellsComing_179 : decode cX8_tellsComing 179 = .ok (.aload_n 0, 1) := by decide +kernel
theorem dX8_tellsComing_180 : decode cX8_tellsComing 180 = .ok (.getfield 137, 3) := by decide +kernel
theorem dX8_tellsComing_183 : decode cX8_tellsComing 183 = .ok (.aload_n 0, 1) := by decide +kernel
theorem dX8_tellsComing_184 : decode cX8_tellsComing 184 = .ok (.getfield 385, 3) := by decide +kernel
theorem dX8_tellsComing_187 : decode cX8_tellsComing 187 = .ok (.iaload, 1) := by decide +kernel
theorem dX8_tellsComing_188 : decode cX8_tellsComing 188 = .ok (.aload_n 0, 1) := by decide +kernel
theorem dX8_tellsComing_189 : decode cX8_tellsComing 189 = .ok (.getfield 143, 3) := by decide +kernel
theorem dX8_tellsComing_192 : decode cX8_tellsComing 192 = .ok (.aload_n 0, 1) := by decide +kernel
theorem dX8_tellsComing_193 : decode cX8_tellsComing 193 = .ok (.getfield 385, 3) := by decide +kernel
theorem dX8_tellsComing_196 : decode cX8_tellsComing 196 = .ok (.iaload, 1) := by decide +kernel
theorem dX8_tellsComing_197 : decode cX8_tellsComing 197 = .ok (.aload_n 0, 1) := by decide +kernel
theorem dX8_tellsComing_198 : decode cX8_tellsComing 198 = .ok (.getfield 146, 3) := by decide +kernel
theorem dX8_tellsComing_201 : decode cX8_tellsComing 201 = .ok (.aload_n 0, 1) := by decide +kernel
theorem dX8_tellsComing_202 : decode cX8_tellsComing 202 = .ok (.getfield 385, 3) := by decide +kernel
theorem dX8_tellsComing_205 : decode cX8_tellsComing 205 = .ok (.iaload, 1) := by decide +kernel
theorem dX8_tellsComing_206 : decode cX8_tellsComing 206 = .ok (.invokevirtual 458, 3) := by decide +kernel
theorem dX8_tellsComing_209 : decode cX8_tellsComing 209 = .ok (.ifCond .ne 6, 3) := by decide +kernel
theorem dX8_tellsComing_212 : decode cX8_tellsComing 212 = .ok (.goto (-93), 3) := by decide +kernel
theorem dX8_tellsComing_215 : decode cX8_tellsComing 215 = .ok (.aload_n 0, 1) := by decide +kernel
theorem dX8_tellsComing_216 : decode cX8_tellsComing 216 = .ok (.getfield 385, 3) := by decide +kernel
theorem dX8_tellsComing_219 : decode cX8_tellsComing 219 = .ok (.iconst 1, 1) := by decide +kernel
theorem dX8_tellsComing_220 : decode cX8_tellsComing 220 = .ok (.iadd, 1) := by decide +kernel
theorem dX8_tellsComing_221 : decode cX8_tellsComing 221 = .ok (.aload_n 0, 1) := by decide +kernel
theorem dX8_tellsComing_222 : decode cX8_tellsComing 222 = .ok (.getfield 445, 3) := by decide +kernel
theorem dX8_tellsComing_225 : decode cX8_tellsComing 225 = .ok (.sipush (-460), 3) := by decide +kernel
theorem dX8_tellsComing_228 : decode cX8_tellsComing 228 = .ok (.invokestatic 448, 3) := by decide +kernel
theorem dX8_tellsComing_231 : decode cX8_tellsComing 231 = .ok (.istore 4, 2) := by decide +kernel
theorem dX8_tellsComing_233 : decode cX8_tellsComing 233 = .ok (.iconst 0, 1) := by decide +kernel
theorem dX8_tellsComing_234 : decode cX8_tellsComing 234 = .ok (.istore 5, 2) := by decide +kernel
theorem dX8_tellsComing_236 : decode cX8_tellsComing 236 = .ok (.iload 5, 2) := by decide +kernel
theorem dX8_tellsComing_238 : decode cX8_tellsComing 238 = .ok (.sipush 1060, 3) := by decide +kernel
theorem dX8_tellsComing_241 : decode cX8_tellsComing 241 = .ok (.if_icmp .ge 78, 3) := by decide +kernel
theorem dX8_tellsComing_244 : decode cX8_tellsComing 244 = .ok (.aload_n 0, 1) := by decide +kernel
theorem dX8_tellsComing_245 : decode cX8_tellsComing 245 = .ok (.getfield 150, 3) := by decide +kernel
theorem dX8_tellsComing_248 : decode cX8_tellsComing 248 = .ok (.iload 4, 2) := by decide +kernel
theorem dX8_tellsComing_250 : decode cX8_tellsComing 250 = .ok (.iload 5, 2) := by decide +kernel
theorem dX8_tellsComing_252 : decode cX8_tellsComing 252 = .ok (.iadd, 1) := by decide +kernel
theorem dX8_tellsComing_253 : decode cX8_tellsComing 253 = .ok (.laload, 1) := by decide +kernel
theorem dX8_tellsComing_254 : decode cX8_tellsComing 254 = .ok (.lstore 6, 2) := by decide +kernel
theorem dX8_tellsComing_256 : decode cX8_tellsComing 256 = .ok (.lload 6, 2) := by decide +kernel
theorem dX8_tellsComing_258 : decode cX8_tellsComing 258 = .ok (.lconst 0, 1) := by decide +kernel
theorem dX8_tellsComing_259 : decode cX8_tellsComing 259 = .ok (.lcmp, 1) := by decide +kernel
theorem dX8_tellsComing_260 : decode cX8_tellsComing 260 = .ok (.ifCond .le 53, 3) := by decide +kernel
theorem dX8_tellsComing_263 : decode cX8_tellsComing 263 = .ok (.aload_n 0, 1) := by decide +kernel
theorem dX8_tellsComing_264 : decode cX8_tellsComing 264 = .ok (.getfield 159, 3) := by decide +kernel
theorem dX8_tellsComing_267 : decode cX8_tellsComing 267 = .ok (.sipush 1060, 3) := by decide +kernel
theorem dX8_tellsComing_270 : decode cX8_tellsComing 270 = .ok (.iload_n 3, 1) := by decide +kernel
theorem dX8_tellsComing_271 : decode cX8_tellsComing 271 = .ok (.iadd, 1) := by decide +kernel
theorem dX8_tellsComing_272 : decode cX8_tellsComing 272 = .ok (.aload_n 0, 1) := by decide +kernel
theorem dX8_tellsComing_273 : decode cX8_tellsComing 273 = .ok (.getfield 439, 3) := by decide +kernel
theorem dX8_tellsComing_276 : decode cX8_tellsComing 276 = .ok (.iadd, 1) := by decide +kernel
theorem dX8_tellsComing_277 : decode cX8_tellsComing 277 = .ok (.iload 5, 2) := by decide +kernel
theorem dX8_tellsComing_279 : decode cX8_tellsComing 279 = .ok (.iadd, 1) := by decide +kernel
theorem dX8_tellsComing_280 : decode cX8_tellsComing 280 = .ok (.sipush 460, 3) := by decide +kernel
theorem dX8_tellsComing_283 : decode cX8_tellsComing 283 = .ok (.isub, 1) := by decide +kernel
theorem dX8_tellsComing_284 : decode cX8_tellsComing 284 = .ok (.aload_n 0, 1) := by decide +kernel
theorem dX8_tellsComing_285 : decode cX8_tellsComing 285 = .ok (.getfield 159, 3) := by decide +kernel
theorem dX8_tellsComing_288 : decode cX8_tellsComing 288 = .ok (.sipush 1060, 3) := by decide +kernel
theorem dX8_tellsComing_291 : decode cX8_tellsComing 291 = .ok (.iload_n 3, 1) := by decide +kernel
theorem dX8_tellsComing_292 : decode cX8_tellsComing 292 = .ok (.iadd, 1) := by decide +kernel
theorem dX8_tellsComing_293 : decode cX8_tellsComing 293 = .ok (.aload_n 0, 1) := by decide +kernel
theorem dX8_tellsComing_294 : decode cX8_tellsComing 294 = .ok (.getfield 439, 3) := by decide +kernel
theorem dX8_tellsComing_297 : decode cX8_tellsComing 297 = .ok (.iadd, 1) := by decide +kernel
theorem dX8_tellsComing_298 : decode cX8_tellsComing 298 = .ok (.iload 5, 2) := by decide +kernel
theorem dX8_tellsComing_300 : decode cX8_tellsComing 300 = .ok (.iadd, 1) := by decide +kernel
theorem dX8_tellsComing_301 : decode cX8_tellsComing 301 = .ok (.sipush 460, 3) := by decide +kernel
theorem dX8_tellsComing_304 : decode cX8_tellsComing 304 = .ok (.isub, 1) := by decide +kernel
theorem dX8_tellsComing_305 : decode cX8_tellsComing 305 = .ok (.laload, 1) := by decide +kernel
theorem dX8_tellsComing_306 : decode cX8_tellsComing 306 = .ok (.lload 6, 2) := by decide +kernel
theorem dX8_tellsComing_308 : decode cX8_tellsComing 308 = .ok (.ladd, 1) := by decide +kernel
theorem dX8_tellsComing_309 : decode cX8_tellsComing 309 = .ok (.invokestatic 451, 3) := by decide +kernel
theorem dX8_tellsComing_312 : decode cX8_tellsComing 312 = .ok (.lastore, 1) := by decide +kernel
theorem dX8_tellsComing_313 : decode cX8_tellsComing 313 = .ok (.iinc 5 1, 3) := by decide +kernel
theorem dX8_tellsComing_316 : decode cX8_tellsComing 316 = .ok (.goto (-80), 3) := by decide +kernel
theorem dX8_tellsComing_319 : decode cX8_tellsComing 319 = .ok (.goto (-200), 3) := by decide +kernel
theorem dX8_tellsComing_322 : decode cX8_tellsComing 322 = .ok (.return_, 1) := by decide +kernel
theorem dX8_comesByFills_0 : decode cX8_comesByFills 0 = .ok (.aload_n 0, 1) := by decide +kernel
theorem dX8_comesByFills_1 : decode cX8_comesByFills 1 = .ok (.getfield 401, 3) := by decide +kernel
theorem dX8_comesByFills_4 : decode cX8_comesByFills 4 = .ok (.aload_n 0, 1) := by decide +kernel
theorem dX8_comesByFills_5 : decode cX8_comesByFills 5 = .ok (.getfield 137, 3) := by decide +kernel
theorem dX8_comesByFills_8 : decode cX8_comesByFills 8 = .ok (.aload_n 0, 1) := by decide +kernel
theorem dX8_comesByFills_9 : decode cX8_comesByFills 9 = .ok (.getfield 385, 3) := by decide +kernel
theorem dX8_comesByFills_12 : decode cX8_comesByFills 12 = .ok (.iaload, 1) := by decide +kernel
theorem dX8_comesByFills_13 : decode cX8_comesByFills 13 = .ok (.isub, 1) := by decide +kernel
theorem dX8_comesByFills_14 : decode cX8_comesByFills 14 = .ok (.istore 4, 2) := by decide +kernel
theorem dX8_comesByFills_16 : decode cX8_comesByFills 16 = .ok (.iconst 0, 1) := by decide +kernel
theorem dX8_comesByFills_17 : decode cX8_comesByFills 17 = .ok (.istore 5, 2) := by decide +kernel
theorem dX8_comesByFills_19 : decode cX8_comesByFills 19 = .ok (.iload 5, 2) := by decide +kernel
theorem dX8_comesByFills_21 : decode cX8_comesByFills 21 = .ok (.iload 4, 2) := by decide +kernel
theorem dX8_comesByFills_23 : decode cX8_comesByFills 23 = .ok (.ifCond .le 10, 3) := by decide +kernel
theorem dX8_comesByFills_26 : decode cX8_comesByFills 26 = .ok (.aload_n 0, 1) := by decide +kernel
theorem dX8_comesByFills_27 : decode cX8_comesByFills 27 = .ok (.getfield 398, 3) := by decide +kernel
theorem dX8_comesByFills_30 : decode cX8_comesByFills 30 = .ok (.goto 4, 3) := by decide +kernel
theorem dX8_comesByFills_33 : decode cX8_comesByFills 33 = .ok (.iconst 0, 1) := by decide +kernel
theorem dX8_comesByFills_34 : decode cX8_comesByFills 34 = .ok (.if_icmp .gt 168, 3) := by decide +kernel
theorem dX8_comesByFills_37 : decode cX8_comesByFills 37 = .ok (.iload 4, 2) := by decide +kernel
theorem dX8_comesByFills_39 : decode cX8_comesByFills 39 = .ok (.ifCond .le 17, 3) := by decide +kernel
theorem dX8_comesByFills_42 : decode cX8_comesByFills 42 = .ok (.iload_n 3, 1) := by decide +kernel
theorem dX8_comesByFills_43 : decode cX8_comesByFills 43 = .ok (.iconst (-1), 1) := by decide +kernel
theorem dX8_comesByFills_44 : decode cX8_comesByFills 44 = .ok (.if_icmp .eq 12, 3) := by decide +kernel
theorem dX8_comesByFills_47 : decode cX8_comesByFills 47 = .ok (.iload 5, 2) := by decide +kernel
theorem dX8_comesByFills_49 : decode cX8_comesByFills 49 = .ok (.iload_n 3, 1) := by decide +kernel
theorem dX8_comesByFills_50 : decode cX8_comesByFills 50 = .ok (.if_icmp .eq 6, 3) := by decide +kernel
theorem dX8_comesByFills_53 : decode cX8_comesByFills 53 = .ok (.goto 143, 3) := by decide +kernel
theorem dX8_comesByFills_56 : decode cX8_comesByFills 56 = .ok (.iload 5, 2) := by decide +kernel
theorem dX8_comesByFills_58 : decode cX8_comesByFills 58 = .ok (.aload_n 0, 1) := by decide +kernel
theorem dX8_comesByFills_59 : decode cX8_comesByFills 59 = .ok (.getfield 398, 3) := by decide +kernel
theorem dX8_comesByFills_62 : decode cX8_comesByFills 62 = .ok (.if_icmp .ne 12, 3) := by decide +kernel
theorem dX8_comesByFills_65 : decode cX8_comesByFills 65 = .ok (.aload_n 0, 1) := by decide +kernel
theorem dX8_comesByFills_66 : decode cX8_comesByFills 66 = .ok (.getfield 84, 3) := by decide +kernel
theorem dX8_comesByFills_69 : decode cX8_comesByFills 69 = .ok (.iconst 1, 1) := by decide +kernel
theorem dX8_comesByFills_70 : decode cX8_comesByFills 70 = .ok (.iaload, 1) := by decide +kernel
theorem dX8_comesByFills_71 : decode cX8_comesByFills 71 = .ok (.goto 10, 3) := by decide +kernel
theorem dX8_comesByFills_74 : decode cX8_comesByFills 74 = .ok (.aload_n 0, 1) := by decide +kernel
theorem dX8_comesByFills_75 : decode cX8_comesByFills 75 = .ok (.getfield 398, 3) := by decide +kernel
theorem dX8_comesByFills_78 : decode cX8_comesByFills 78 = .ok (.iload 5, 2) := by decide +kernel
theorem dX8_comesByFills_80 : decode cX8_comesByFills 80 = .ok (.isub, 1) := by decide +kernel
theorem dX8_comesByFills_81 : decode cX8_comesByFills 81 = .ok (.istore 6, 2) := by decide +kernel
theorem dX8_comesByFills_83 : decode cX8_comesByFills 83 = .ok (.iconst 0, 1) := by decide +kernel
theorem dX8_comesByFills_84 : decode cX8_comesByFills 84 = .ok (.istore 7, 2) := by decide +kernel
theorem dX8_comesByFills_86 : decode cX8_comesByFills 86 = .ok (.iload 7, 2) := by decide +kernel
theorem dX8_comesByFills_88 : decode cX8_comesByFills 88 = .ok (.iload 4, 2) := by decide +kernel
theorem dX8_comesByFills_90 : decode cX8_comesByFills 90 = .ok (.iconst 1, 1) := by decide +kernel
theorem dX8_comesByFills_91 : decode cX8_comesByFills 91 = .ok (.if_icmp .le 8, 3) := by decide +kernel
theorem dX8_comesByFills_94 : decode cX8_comesByFills 94 = .ok (.iload 6, 2) := by decide +kernel
theorem dX8_comesByFills_96 : decode cX8_comesByFills 96 = .ok (.goto 4, 3) := by decide +kernel
theorem dX8_comesByFills_99 : decode cX8_comesByFills 99 = .ok (.iconst 0, 1) := by decide +kernel
theorem dX8_comesByFills_100 : decode cX8_comesByFills 100 = .ok (.if_icmp .gt 96, 3) := by decide +kernel
theorem dX8_comesByFills_103 : decode cX8_comesByFills 103 = .ok (.iload 7, 2) := by decide +kernel
theorem dX8_comesByFills_105 : decode cX8_comesByFills 105 = .ok (.iload 6, 2) := by decide +kernel
theorem dX8_comesByFills_107 : decode cX8_comesByFills 107 = .ok (.if_icmp .ne 12, 3) := by decide +kernel
theorem dX8_comesByFills_110 : decode cX8_comesByFills 110 = .ok (.aload_n 0, 1) := by decide +kernel
theorem dX8_comesByFills_111 : decode cX8_comesByFills 111 = .ok (.getfield 84, 3) := by decide +kernel
theorem dX8_comesByFills_114 : decode cX8_comesByFills 114 = .ok (.iconst 1, 1) := by decide +kernel
theorem dX8_comesByFills_115 : decode cX8_comesByFills 115 = .ok (.iaload, 1) := by decide +kernel
theorem dX8_comesByFills_116 : decode cX8_comesByFills 116 = .ok (.goto 8, 3) := by decide +kernel
theorem dX8_comesByFills_119 : decode cX8_comesByFills 119 = .ok (.iload 6, 2) := by decide +kernel
theorem dX8_comesByFills_121 : decode cX8_comesByFills 121 = .ok (.iload 7, 2) := by decide +kernel
theorem dX8_comesByFills_123 : decode cX8_comesByFills 123 = .ok (.isub, 1) := by decide +kernel
theorem dX8_comesByFills_124 : decode cX8_comesByFills 124 = .ok (.istore 8, 2) := by decide +kernel
theorem dX8_comesByFills_126 : decode cX8_comesByFills 126 = .ok (.iconst 0, 1) := by decide +kernel
theorem dX8_comesByFills_127 : decode cX8_comesByFills 127 = .ok (.istore 9, 2) := by decide +kernel
theorem dX8_comesByFills_129 : decode cX8_comesByFills 129 = .ok (.iload 9, 2) := by decide +kernel
theorem dX8_comesByFills_131 : decode cX8_comesByFills 131 = .ok (.iload 4, 2) := by decide +kernel
theorem dX8_comesByFills_133 : decode cX8_comesByFills 133 = .ok (.iconst 2, 1) := by decide +kernel
theorem dX8_comesByFills_134 : decode cX8_comesByFills 134 = .ok (.if_icmp .le 8, 3) := by decide +kernel
theorem dX8_comesByFills_137 : decode cX8_comesByFills 137 = .ok (.iload 8, 2) := by decide +kernel
theorem dX8_comesByFills_139 : decode cX8_comesByFills 139 = .ok (.goto 4, 3) := by decide +kernel
theorem dX8_comesByFills_142 : decode cX8_comesByFills 142 = .ok (.iconst 0, 1) := by decide +kernel
theorem dX8_comesByFills_143 : decode cX8_comesByFills 143 = .ok (.if_icmp .gt 47, 3) := by decide +kernel
theorem dX8_comesByFills_146 : decode cX8_comesByFills 146 = .ok (.aload_n 0, 1) := by decide +kernel
theorem dX8_comesByFills_147 : decode cX8_comesByFills 147 = .ok (.getfield 159, 3) := by decide +kernel
theorem dX8_comesByFills_150 : decode cX8_comesByFills 150 = .ok (.sipush 1060, 3) := by decide +kernel
theorem dX8_comesByFills_153 : decode cX8_comesByFills 153 = .ok (.iload_n 1, 1) := by decide +kernel
theorem dX8_comesByFills_154 : decode cX8_comesByFills 154 = .ok (.iadd, 1) := by decide +kernel
theorem dX8_comesByFills_155 : decode cX8_comesByFills 155 = .ok (.iload 5, 2) := by decide +kernel
theorem dX8_comesByFills_157 : decode cX8_comesByFills 157 = .ok (.iload_n 2, 1) := by decide +kernel
theorem dX8_comesByFills_158 : decode cX8_comesByFills 158 = .ok (.invokestatic 433, 3) := by decide +kernel
theorem dX8_comesByFills_161 : decode cX8_comesByFills 161 = .ok (.imul, 1) := by decide +kernel
theorem dX8_comesByFills_162 : decode cX8_comesByFills 162 = .ok (.iadd, 1) := by decide +kernel
theorem dX8_comesByFills_163 : decode cX8_comesByFills 163 = .ok (.iload 7, 2) := by decide +kernel
theorem dX8_comesByFills_165 : decode cX8_comesByFills 165 = .ok (.iload_n 2, 1) := by decide +kernel
theorem dX8_comesByFills_166 : decode cX8_comesByFills 166 = .ok (.iconst 2, 1) := by decide +kernel
theorem dX8_comesByFills_167 : decode cX8_comesByFills 167 = .ok (.idiv, 1) := by decide +kernel
theorem dX8_comesByFills_168 : decode cX8_comesByFills 168 = .ok (.iconst 3, 1) := by decide +kernel
theorem dX8_comesByFills_169 : decode cX8_comesByFills 169 = .ok (.irem, 1) := by decide +kernel
theorem dX8_comesByFills_170 : decode cX8_comesByFills 170 = .ok (.imul, 1) := by decide +kernel
theorem dX8_comesByFills_171 : decode cX8_comesByFills 171 = .ok (.iadd, 1) := by decide +kernel
theorem dX8_comesByFills_172 : decode cX8_comesByFills 172 = .ok (.iload 9, 2) := by decide +kernel
theorem dX8_comesByFills_174 : decode cX8_comesByFills 174 = .ok (.iload_n 2, 1) := by decide +kernel
theorem dX8_comesByFills_175 : decode cX8_comesByFills 175 = .ok (.iconst 2, 1) := by decide +kernel
theorem dX8_comesByFills_176 : decode cX8_comesByFills 176 = .ok (.irem, 1) := by decide +kernel
theorem dX8_comesByFills_177 : decode cX8_comesByFills 177 = .ok (.imul, 1) := by decide +kernel
theorem dX8_comesByFills_178 : decode cX8_comesByFills 178 = .ok (.iadd, 1) := by decide +kernel
theorem dX8_comesByFills_179 : decode cX8_comesByFills 179 = .ok (.dup2, 1) := by decide +kernel
theorem dX8_comesByFills_180 : decode cX8_comesByFills 180 = .ok (.laload, 1) := by decide +kernel
theorem dX8_comesByFills_181 : decode cX8_comesByFills 181 = .ok (.lconst 1, 1) := by decide +kernel
theorem dX8_comesByFills_182 : decode cX8_comesByFills 182 = .ok (.ladd, 1) := by decide +kernel
theorem dX8_comesByFills_183 : decode cX8_comesByFills 183 = .ok (.lastore, 1) := by decide +kernel
theorem dX8_comesByFills_184 : decode cX8_comesByFills 184 = .ok (.iinc 9 1, 3) := by decide +kernel
theorem dX8_comesByFills_187 : decode cX8_comesByFills 187 = .ok (.goto (-58), 3) := by decide +kernel
theorem dX8_comesByFills_190 : decode cX8_comesByFills 190 = .ok (.iinc 7 1, 3) := by decide +kernel
theorem dX8_comesByFills_193 : decode cX8_comesByFills 193 = .ok (.goto (-107), 3) := by decide +kernel
theorem dX8_comesByFills_196 : decode cX8_comesByFills 196 = .ok (.iinc 5 1, 3) := by decide +kernel
theorem dX8_comesByFills_199 : decode cX8_comesByFills 199 = .ok (.goto (-180), 3) := by decide +kernel
theorem dX8_comesByFills_202 : decode cX8_comesByFills 202 = .ok (.return_, 1) := by decide +kernel
theorem dX8_endOfComing_0 : decode cX8_endOfComing 0 = .ok (.iconst 0, 1) := by decide +kernel
theorem dX8_endOfComing_1 : decode cX8_endOfComing 1 = .ok (.istore_n 2, 1) := by decide +kernel
theorem dX8_endOfComing_2 : decode cX8_endOfComing 2 = .ok (.iload_n 2, 1) := by decide +kernel
theorem dX8_endOfComing_3 : decode cX8_endOfComing 3 = .ok (.sipush 2120, 3) := by decide +kernel
theorem dX8_endOfComing_6 : decode cX8_endOfComing 6 = .ok (.if_icmp .ge 40, 3) := by decide +kernel
theorem dX8_endOfComing_9 : decode cX8_endOfComing 9 = .ok (.iload_n 1, 1) := by decide +kernel
theorem dX8_endOfComing_10 : decode cX8_endOfComing 10 = .ok (.ifCond .eq 11, 3) := by decide +kernel
theorem dX8_endOfComing_13 : decode cX8_endOfComing 13 = .ok (.sipush 2119, 3) := by decide +kernel
theorem dX8_endOfComing_16 : decode cX8_endOfComing 16 = .ok (.iload_n 2, 1) := by decide +kernel
theorem dX8_endOfComing_17 : decode cX8_endOfComing 17 = .ok (.isub, 1) := by decide +kernel
theorem dX8_endOfComing_18 : decode cX8_endOfComing 18 = .ok (.goto 4, 3) := by decide +kernel
theorem dX8_endOfComing_21 : decode cX8_endOfComing 21 = .ok (.iload_n 2, 1) := by decide +kernel
theorem dX8_endOfComing_22 : decode cX8_endOfComing 22 = .ok (.istore_n 3, 1) := by decide +kernel
theorem dX8_endOfComing_23 : decode cX8_endOfComing 23 = .ok (.aload_n 0, 1) := by decide +kernel
theorem dX8_endOfComing_24 : decode cX8_endOfComing 24 = .ok (.getfield 159, 3) := by decide +kernel
theorem dX8_endOfComing_27 : decode cX8_endOfComing 27 = .ok (.iload_n 3, 1) := by decide +kernel
theorem dX8_endOfComing_28 : decode cX8_endOfComing 28 = .ok (.laload, 1) := by decide +kernel
theorem dX8_endOfComing_29 : decode cX8_endOfComing 29 = .ok (.lconst 0, 1) := by decide +kernel
theorem dX8_endOfComing_30 : decode cX8_endOfComing 30 = .ok (.lcmp, 1) := by decide +kernel
theorem dX8_endOfComing_31 : decode cX8_endOfComing 31 = .ok (.ifCond .le 9, 3) := by decide +kernel
theorem dX8_endOfComing_34 : decode cX8_endOfComing 34 = .ok (.iload_n 3, 1) := by decide +kernel
theorem dX8_endOfComing_35 : decode cX8_endOfComing 35 = .ok (.sipush 1060, 3) := by decide +kernel
theorem dX8_endOfComing_38 : decode cX8_endOfComing 38 = .ok (.isub, 1) := by decide +kernel
theorem dX8_endOfComing_39 : decode cX8_endOfComing 39 = .ok (.ireturn, 1) := by decide +kernel
theorem dX8_endOfComing_40 : decode cX8_endOfComing 40 = .ok (.iinc 2 1, 3) := by decide +kernel
theorem dX8_endOfComing_43 : decode cX8_endOfComing 43 = .ok (.goto (-41), 3) := by decide +kernel
theorem dX8_endOfComing_46 : decode cX8_endOfComing 46 = .ok (.ldc_w 417, 3) := by decide +kernel
theorem dX8_endOfComing_49 : decode cX8_endOfComing 49 = .ok (.ireturn, 1) := by decide +kernel
theorem dX8_come_0 : decode cX8_come 0 = .ok (.aload_n 0, 1) := by decide +kernel
theorem dX8_come_1 : decode cX8_come 1 = .ok (.iconst (-1), 1) := by decide +kernel
theorem dX8_come_2 : decode cX8_come 2 = .ok (.invokevirtual 489, 3) := by decide +kernel
theorem dX8_come_5 : decode cX8_come 5 = .ok (.aload_n 0, 1) := by decide +kernel
theorem dX8_come_6 : decode cX8_come 6 = .ok (.iload_n 1, 1) := by decide +kernel
theorem dX8_come_7 : decode cX8_come 7 = .ok (.invokevirtual 492, 3) := by decide +kernel
theorem dX8_come_10 : decode cX8_come 10 = .ok (.ireturn, 1) := by decide +kernel
theorem dX8_ways_0 : decode cX8_ways 0 = .ok (.aload_n 0, 1) := by decide +kernel
theorem dX8_ways_1 : decode cX8_ways 1 = .ok (.iconst (-1), 1) := by decide +kernel
theorem dX8_ways_2 : decode cX8_ways 2 = .ok (.invokevirtual 489, 3) := by decide +kernel
theorem dX8_ways_5 : decode cX8_ways 5 = .ok (.lconst 0, 1) := by decide +kernel
theorem dX8_ways_6 : decode cX8_ways 6 = .ok (.lstore_n 3, 1) := by decide +kernel
theorem dX8_ways_7 : decode cX8_ways 7 = .ok (.iconst 0, 1) := by decide +kernel
theorem dX8_ways_8 : decode cX8_ways 8 = .ok (.istore 5, 2) := by decide +kernel
theorem dX8_ways_10 : decode cX8_ways 10 = .ok (.iload 5, 2) := by decide +kernel
theorem dX8_ways_12 : decode cX8_ways 12 = .ok (.sipush 2120, 3) := by decide +kernel
theorem dX8_ways_15 : decode cX8_ways 15 = .ok (.if_icmp .ge 49, 3) := by decide +kernel
theorem dX8_ways_18 : decode cX8_ways 18 = .ok (.iload_n 2, 1) := by decide +kernel
theorem dX8_ways_19 : decode cX8_ways 19 = .ok (.ifCond .eq 16, 3) := by decide +kernel
theorem dX8_ways_22 : decode cX8_ways 22 = .ok (.iload 5, 2) := by decide +kernel
theorem dX8_ways_24 : decode cX8_ways 24 = .ok (.sipush 1060, 3) := by decide +kernel
theorem dX8_ways_27 : decode cX8_ways 27 = .ok (.isub, 1) := by decide +kernel
theorem dX8_ways_28 : decode cX8_ways 28 = .ok (.iload_n 1, 1) := by decide +kernel
theorem dX8_ways_29 : decode cX8_ways 29 = .ok (.if_icmp .lt 29, 3) := by decide +kernel
theorem dX8_ways_32 : decode cX8_ways 32 = .ok (.goto 13, 3) := by decide +kernel
theorem dX8_ways_35 : decode cX8_ways 35 = .ok (.iload 5, 2) := by decide +kernel
theorem dX8_ways_37 : decode cX8_ways 37 = .ok (.sipush 1060, 3) := by decide +kernel
theorem dX8_ways_40 : decode cX8_ways 40 = .ok (.isub, 1) := by decide +kernel
theorem dX8_ways_41 : decode cX8_ways 41 = .ok (.iload_n 1, 1) := by decide +kernel
theorem dX8_ways_42 : decode cX8_ways 42 = .ok (.if_icmp .ne 16, 3) := by decide +kernel
theorem dX8_ways_45 : decode cX8_ways 45 = .ok (.lload_n 3, 1) := by decide +kernel
theorem dX8_ways_46 : decode cX8_ways 46 = .ok (.aload_n 0, 1) := by decide +kernel
theorem dX8_ways_47 : decode cX8_ways 47 = .ok (.getfield 159, 3) := by decide +kernel
theorem dX8_ways_50 : decode cX8_ways 50 = .ok (.iload 5, 2) := by decide +kernel
theorem dX8_ways_52 : decode cX8_ways 52 = .ok (.laload, 1) := by decide +kernel
theorem dX8_ways_53 : decode cX8_ways 53 = .ok (.ladd, 1) := by decide +kernel
theorem dX8_ways_54 : decode cX8_ways 54 = .ok (.invokestatic 451, 3) := by decide +kernel
theorem dX8_ways_57 : decode cX8_ways 57 = .ok (.lstore_n 3, 1) := by decide +kernel
theorem dX8_ways_58 : decode cX8_ways 58 = .ok (.iinc 5 1, 3) := by decide +kernel
theorem dX8_ways_61 : decode cX8_ways 61 = .ok (.goto (-51), 3) := by decide +kernel
theorem dX8_ways_64 : decode cX8_ways 64 = .ok (.lload_n 3, 1) := by decide +kernel
theorem dX8_ways_65 : decode cX8_ways 65 = .ok (.lreturn, 1) := by decide +kernel
theorem dX8_needs_0 : decode cX8_needs 0 = .ok (.aload_n 0, 1) := by decide +kernel
theorem dX8_needs_1 : decode cX8_needs 1 = .ok (.invokevirtual 410, 3) := by decide +kernel
theorem dX8_needs_4 : decode cX8_needs 4 = .ok (.aload_n 0, 1) := by decide +kernel
theorem dX8_needs_5 : decode cX8_needs 5 = .ok (.getfield 404, 3) := by decide +kernel
theorem dX8_needs_8 : decode cX8_needs 8 = .ok (.ifCond .eq 5, 3) := by decide +kernel
theorem dX8_needs_11 : decode cX8_needs 11 = .ok (.iconst (-1), 1) := by decide +kernel
theorem dX8_needs_12 : decode cX8_needs 12 = .ok (.ireturn, 1) := by decide +kernel
theorem dX8_needs_13 : decode cX8_needs 13 = .ok (.aload_n 0, 1) := by decide +kernel
theorem dX8_needs_14 : decode cX8_needs 14 = .ok (.getfield 398, 3) := by decide +kernel
theorem dX8_needs_17 : decode cX8_needs 17 = .ok (.istore_n 3, 1) := by decide +kernel
theorem dX8_needs_18 : decode cX8_needs 18 = .ok (.iconst 0, 1) := by decide +kernel
theorem dX8_needs_19 : decode cX8_needs 19 = .ok (.istore 4, 2) := by decide +kernel
theorem dX8_needs_21 : decode cX8_needs 21 = .ok (.iload 4, 2) := by decide +kernel
theorem dX8_needs_23 : decode cX8_needs 23 = .ok (.iload_n 3, 1) := by decide +kernel
theorem dX8_needs_24 : decode cX8_needs 24 = .ok (.if_icmp .gt 35, 3) := by decide +kernel
theorem dX8_needs_27 : decode cX8_needs 27 = .ok (.aload_n 0, 1) := by decide +kernel
theorem dX8_needs_28 : decode cX8_needs 28 = .ok (.iload 4, 2) := by decide +kernel
theorem dX8_needs_30 : decode cX8_needs 30 = .ok (.invokevirtual 489, 3) := by decide +kernel
theorem dX8_needs_33 : decode cX8_needs 33 = .ok (.aload_n 0, 1) := by decide +kernel
theorem dX8_needs_34 : decode cX8_needs 34 = .ok (.iload_n 2, 1) := by decide +kernel
theorem dX8_needs_35 : decode cX8_needs 35 = .ok (.ifCond .ne 7, 3) := by decide +kernel
theorem dX8_needs_38 : decode cX8_needs 38 = .ok (.iconst 1, 1) := by decide +kernel
theorem dX8_needs_39 : decode cX8_needs 39 = .ok (.goto 4, 3) := by decide +kernel
theorem dX8_needs_42 : decode cX8_needs 42 = .ok (.iconst 0, 1) := by decide +kernel
theorem dX8_needs_43 : decode cX8_needs 43 = .ok (.invokevirtual 492, 3) := by decide +kernel
theorem dX8_needs_46 : decode cX8_needs 46 = .ok (.iload_n 1, 1) := by decide +kernel
theorem dX8_needs_47 : decode cX8_needs 47 = .ok (.if_icmp .lt 6, 3) := by decide +kernel
theorem dX8_needs_50 : decode cX8_needs 50 = .ok (.iload 4, 2) := by decide +kernel
theorem dX8_needs_52 : decode cX8_needs 52 = .ok (.ireturn, 1) := by decide +kernel
theorem dX8_needs_53 : decode cX8_needs 53 = .ok (.iinc 4 1, 3) := by decide +kernel
theorem dX8_needs_56 : decode cX8_needs 56 = .ok (.goto (-35), 3) := by decide +kernel
theorem dX8_needs_59 : decode cX8_needs 59 = .ok (.iconst (-1), 1) := by decide +kernel
theorem dX8_needs_60 : decode cX8_needs 60 = .ok (.ireturn, 1) := by decide +kernel
theorem dX8_tear_0 : decode cX8_tear 0 = .ok (.aload_n 0, 1) := by decide +kernel
theorem dX8_tear_1 : decode cX8_tear 1 = .ok (.invokevirtual 410, 3) := by decide +kernel
theorem dX8_tear_4 : decode cX8_tear 4 = .ok (.aload_n 0, 1) := by decide +kernel
theorem dX8_tear_5 : decode cX8_tear 5 = .ok (.getfield 404, 3) := by decide +kernel
theorem dX8_tear_8 : decode cX8_tear 8 = .ok (.ifCond .eq 19, 3) := by decide +kernel
theorem dX8_tear_11 : decode cX8_tear 11 = .ok (.iload_n 1, 1) := by decide +kernel
theorem dX8_tear_12 : decode cX8_tear 12 = .ok (.i2l, 1) := by decide +kernel
theorem dX8_tear_13 : decode cX8_tear 13 = .ok (.lconst 0, 1) := by decide +kernel
theorem dX8_tear_14 : decode cX8_tear 14 = .ok (.aload_n 0, 1) := by decide +kernel
theorem dX8_tear_15 : decode cX8_tear 15 = .ok (.getfield 87, 3) := by decide +kernel
theorem dX8_tear_18 : decode cX8_tear 18 = .ok (.iconst 1, 1) := by decide +kernel
theorem dX8_tear_19 : decode cX8_tear 19 = .ok (.iaload, 1) := by decide +kernel
theorem dX8_tear_20 : decode cX8_tear 20 = .ok (.i2l, 1) := by decide +kernel
theorem dX8_tear_21 : decode cX8_tear 21 = .ok (.invokestatic 223, 3) := by decide +kernel
theorem dX8_tear_24 : decode cX8_tear 24 = .ok (.ifCond .ne 5, 3) := by decide +kernel
theorem dX8_tear_27 : decode cX8_tear 27 = .ok (.iconst 0, 1) := by decide +kernel
theorem dX8_tear_28 : decode cX8_tear 28 = .ok (.ireturn, 1) := by decide +kernel
theorem dX8_tear_29 : decode cX8_tear 29 = .ok (.aload_n 0, 1) := by decide +kernel
theorem dX8_tear_30 : decode cX8_tear 30 = .ok (.iload_n 2, 1) := by decide +kernel
theorem dX8_tear_31 : decode cX8_tear 31 = .ok (.ifCond .eq 14, 3) := by decide +kernel
theorem dX8_tear_34 : decode cX8_tear 34 = .ok (.aload_n 0, 1) := by decide +kernel
theorem dX8_tear_35 : decode cX8_tear 35 = .ok (.getfield 327, 3) := by decide +kernel
theorem dX8_tear_38 : decode cX8_tear 38 = .ok (.iconst 1, 1) := by decide +kernel
theorem dX8_tear_39 : decode cX8_tear 39 = .ok (.iload_n 1, 1) := by decide +kernel
theorem dX8_tear_40 : decode cX8_tear 40 = .ok (.ishl, 1) := by decide +kernel
theorem dX8_tear_41 : decode cX8_tear 41 = .ok (.ior, 1) := by decide +kernel
theorem dX8_tear_42 : decode cX8_tear 42 = .ok (.goto 13, 3) := by decide +kernel
theorem dX8_tear_45 : decode cX8_tear 45 = .ok (.aload_n 0, 1) := by decide +kernel
theorem dX8_tear_46 : decode cX8_tear 46 = .ok (.getfield 327, 3) := by decide +kernel
theorem dX8_tear_49 : decode cX8_tear 49 = .ok (.iconst 1, 1) := by decide +kernel
theorem dX8_tear_50 : decode cX8_tear 50 = .ok (.iload_n 1, 1) := by decide +kernel
theorem dX8_tear_51 : decode cX8_tear 51 = .ok (.ishl, 1) := by decide +kernel
theorem dX8_tear_52 : decode cX8_tear 52 = .ok (.iconst (-1), 1) := by decide +kernel
theorem dX8_tear_53 : decode cX8_tear 53 = .ok (.ixor, 1) := by decide +kernel
theorem dX8_tear_54 : decode cX8_tear 54 = .ok (.iand, 1) := by decide +kernel
theorem dX8_tear_55 : decode cX8_tear 55 = .ok (.putfield 327, 3) := by decide +kernel
theorem dX8_tear_58 : decode cX8_tear 58 = .ok (.aload_n 0, 1) := by decide +kernel
theorem dX8_tear_59 : decode cX8_tear 59 = .ok (.iconst 0, 1) := by decide +kernel
theorem dX8_tear_60 : decode cX8_tear 60 = .ok (.putfield 334, 3) := by decide +kernel
theorem dX8_tear_63 : decode cX8_tear 63 = .ok (.iconst 1, 1) := by decide +kernel
theorem dX8_tear_64 : decode cX8_tear 64 = .ok (.ireturn, 1) := by decide +kernel
theorem dX8_isTorn_0 : decode cX8_isTorn 0 = .ok (.aload_n 0, 1) := by decide +kernel
theorem dX8_isTorn_1 : decode cX8_isTorn 1 = .ok (.getfield 327, 3) := by decide +kernel
theorem dX8_isTorn_4 : decode cX8_isTorn 4 = .ok (.iload_n 1, 1) := by decide +kernel
theorem dX8_isTorn_5 : decode cX8_isTorn 5 = .ok (.ishr, 1) := by decide +kernel
theorem dX8_isTorn_6 : decode cX8_isTorn 6 = .ok (.iconst 1, 1) := by decide +kernel
theorem dX8_isTorn_7 : decode cX8_isTorn 7 = .ok (.iand, 1) := by decide +kernel
theorem dX8_isTorn_8 : decode cX8_isTorn 8 = .ok (.iconst 1, 1) := by decide +kernel
theorem dX8_isTorn_9 : decode cX8_isTorn 9 = .ok (.if_icmp .ne 7, 3) := by decide +kernel
theorem dX8_isTorn_12 : decode cX8_isTorn 12 = .ok (.iconst 1, 1) := by decide +kernel
theorem dX8_isTorn_13 : decode cX8_isTorn 13 = .ok (.goto 4, 3) := by decide +kernel
theorem dX8_isTorn_16 : decode cX8_isTorn 16 = .ok (.iconst 0, 1) := by decide +kernel
theorem dX8_isTorn_17 : decode cX8_isTorn 17 = .ok (.ireturn, 1) := by decide +kernel
theorem dX8_asThere_0 : decode cX8_asThere 0 = .ok (.aload_n 0, 1) := by decide +kernel
theorem dX8_asThere_1 : decode cX8_asThere 1 = .ok (.aload_n 0, 1) := by decide +kernel
theorem dX8_asThere_2 : decode cX8_asThere 2 = .ok (.getfield 137, 3) := by decide +kernel
theorem dX8_asThere_5 : decode cX8_asThere 5 = .ok (.iload_n 1, 1) := by decide +kernel
theorem dX8_asThere_6 : decode cX8_asThere 6 = .ok (.iaload, 1) := by decide +kernel
theorem dX8_asThere_7 : decode cX8_asThere 7 = .ok (.putfield 430, 3) := by decide +kernel
theorem dX8_asThere_10 : decode cX8_asThere 10 = .ok (.iconst 0, 1) := by decide +kernel
theorem dX8_asThere_11 : decode cX8_asThere 11 = .ok (.istore_n 2, 1) := by decide +kernel
theorem dX8_asThere_12 : decode cX8_asThere 12 = .ok (.iload_n 2, 1) := by decide +kernel
theorem dX8_asThere_13 : decode cX8_asThere 13 = .ok (.aload_n 0, 1) := by decide +kernel
theorem dX8_asThere_14 : decode cX8_asThere 14 = .ok (.getfield 430, 3) := by decide +kernel
theorem dX8_asThere_17 : decode cX8_asThere 17 = .ok (.if_icmp .ge 28, 3) := by decide +kernel
theorem dX8_asThere_20 : decode cX8_asThere 20 = .ok (.aload_n 0, 1) := by decide +kernel
theorem dX8_asThere_21 : decode cX8_asThere 21 = .ok (.getfield 156, 3) := by decide +kernel
theorem dX8_asThere_24 : decode cX8_asThere 24 = .ok (.iload_n 2, 1) := by decide +kernel
theorem dX8_asThere_25 : decode cX8_asThere 25 = .ok (.aload_n 0, 1) := by decide +kernel
theorem dX8_asThere_26 : decode cX8_asThere 26 = .ok (.getfield 131, 3) := by decide +kernel
theorem dX8_asThere_29 : decode cX8_asThere 29 = .ok (.aload_n 0, 1) := by decide +kernel
theorem dX8_asThere_30 : decode cX8_asThere 30 = .ok (.getfield 134, 3) := by decide +kernel
theorem dX8_asThere_33 : decode cX8_asThere 33 = .ok (.iload_n 1, 1) := by decide +kernel
theorem dX8_asThere_34 : decode cX8_asThere 34 = .ok (.iaload, 1) := by decide +kernel
theorem dX8_asThere_35 : decode cX8_asThere 35 = .ok (.iload_n 2, 1) := by decide +kernel
theorem dX8_asThere_36 : decode cX8_asThere 36 = .ok (.iadd, 1) := by decide +kernel
theorem dX8_asThere_37 : decode cX8_asThere 37 = .ok (.iaload, 1) := by decide +kernel
theorem dX8_asThere_38 : decode cX8_asThere 38 = .ok (.iastore, 1) := by decide +kernel
theorem dX8_asThere_39 : decode cX8_asThere 39 = .ok (.iinc 2 1, 3) := by decide +kernel
theorem dX8_asThere_42 : decode cX8_asThere 42 = .ok (.goto (-30), 3) := by decide +kernel
theorem dX8_asThere_45 : decode cX8_asThere 45 = .ok (.return_, 1) := by decide +kernel
theorem dX8_fitsFills_0 : decode cX8_fitsFills 0 = .ok (.aload_n 0, 1) := by decide +kernel
theorem dX8_fitsFills_1 : decode cX8_fitsFills 1 = .ok (.aload_n 0, 1) := by decide +kernel
theorem dX8_fitsFills_2 : decode cX8_fitsFills 2 = .ok (.getfield 87, 3) := by decide +kernel
theorem dX8_fitsFills_5 : decode cX8_fitsFills 5 = .ok (.iconst 1, 1) := by decide +kernel
theorem dX8_fitsFills_6 : decode cX8_fitsFills 6 = .ok (.iaload, 1) := by decide +kernel
theorem dX8_fitsFills_7 : decode cX8_fitsFills 7 = .ok (.invokevirtual 496, 3) := by decide +kernel
theorem dX8_fitsFills_10 : decode cX8_fitsFills 10 = .ok (.ifCond .eq 13, 3) := by decide +kernel
theorem dX8_fitsFills_13 : decode cX8_fitsFills 13 = .ok (.aload_n 0, 1) := by decide +kernel
theorem dX8_fitsFills_14 : decode cX8_fitsFills 14 = .ok (.aload_n 0, 1) := by decide +kernel
theorem dX8_fitsFills_15 : decode cX8_fitsFills 15 = .ok (.getfield 153, 3) := by decide +kernel
theorem dX8_fitsFills_18 : decode cX8_fitsFills 18 = .ok (.iload_n 1, 1) := by decide +kernel
theorem dX8_fitsFills_19 : decode cX8_fitsFills 19 = .ok (.invokevirtual 466, 3) := by decide +kernel
theorem dX8_fitsFills_22 : decode cX8_fitsFills 22 = .ok (.return_, 1) := by decide +kernel
theorem dX8_fitsFills_23 : decode cX8_fitsFills 23 = .ok (.iload_n 1, 1) := by decide +kernel
theorem dX8_fitsFills_24 : decode cX8_fitsFills 24 = .ok (.ifCond .ne 7, 3) := by decide +kernel
theorem dX8_fitsFills_27 : decode cX8_fitsFills 27 = .ok (.iconst 0, 1) := by decide +kernel
theorem dX8_fitsFills_28 : decode cX8_fitsFills 28 = .ok (.goto 26, 3) := by decide +kernel
theorem dX8_fitsFills_31 : decode cX8_fitsFills 31 = .ok (.iload_n 1, 1) := by decide +kernel
theorem dX8_fitsFills_32 : decode cX8_fitsFills 32 = .ok (.iconst 2, 1) := by decide +kernel
theorem dX8_fitsFills_33 : decode cX8_fitsFills 33 = .ok (.irem, 1) := by decide +kernel
theorem dX8_fitsFills_34 : decode cX8_fitsFills 34 = .ok (.ifCond .le 7, 3) := by decide +kernel
theorem dX8_fitsFills_37 : decode cX8_fitsFills 37 = .ok (.iconst 3, 1) := by decide +kernel
theorem dX8_fitsFills_38 : decode cX8_fitsFills 38 = .ok (.goto 16, 3) := by decide +kernel
theorem dX8_fitsFills_41 : decode cX8_fitsFills 41 = .ok (.iload_n 1, 1) := by decide +kernel
theorem dX8_fitsFills_42 : decode cX8_fitsFills 42 = .ok (.iconst 2, 1) := by decide +kernel
theorem dX8_fitsFills_43 : decode cX8_fitsFills 43 = .ok (.idiv, 1) := by decide +kernel
theorem dX8_fitsFills_44 : decode cX8_fitsFills 44 = .ok (.iconst 3, 1) := by decide +kernel
theorem dX8_fitsFills_45 : decode cX8_fitsFills 45 = .ok (.irem, 1) := by decide +kernel
theorem dX8_fitsFills_46 : decode cX8_fitsFills 46 = .ok (.ifCond .le 7, 3) := by decide +kernel
theorem dX8_fitsFills_49 : decode cX8_fitsFills 49 = .ok (.iconst 2, 1) := by decide +kernel
theorem dX8_fitsFills_50 : decode cX8_fitsFills 50 = .ok (.goto 4, 3) := by decide +kernel
theorem dX8_fitsFills_53 : decode cX8_fitsFills 53 = .ok (.iconst 1, 1) := by decide +kernel
theorem dX8_fitsFills_54 : decode cX8_fitsFills 54 = .ok (.istore_n 2, 1) := by decide +kernel
theorem dX8_fitsFills_55 : decode cX8_fitsFills 55 = .ok (.iload_n 2, 1) := by decide +kernel
theorem dX8_fitsFills_56 : decode cX8_fitsFills 56 = .ok (.aload_n 0, 1) := by decide +kernel
theorem dX8_fitsFills_57 : decode cX8_fitsFills 57 = .ok (.getfield 401, 3) := by decide +kernel
theorem dX8_fitsFills_60 : decode cX8_fitsFills 60 = .ok (.if_icmp .eq 4, 3) := by decide +kernel
theorem dX8_fitsFills_63 : decode cX8_fitsFills 63 = .ok (.return_, 1) := by decide +kernel
theorem dX8_fitsFills_64 : decode cX8_fitsFills 64 = .ok (.iconst 0, 1) := by decide +kernel
theorem dX8_fitsFills_65 : decode cX8_fitsFills 65 = .ok (.istore_n 3, 1) := by decide +kernel
theorem dX8_fitsFills_66 : decode cX8_fitsFills 66 = .ok (.iload_n 1, 1) := by decide +kernel
theorem dX8_fitsFills_67 : decode cX8_fitsFills 67 = .ok (.istore 4, 2) := by decide +kernel
theorem dX8_fitsFills_69 : decode cX8_fitsFills 69 = .ok (.aload_n 0, 1) := by decide +kernel
theorem dX8_fitsFills_70 : decode cX8_fitsFills 70 = .ok (.getfield 134, 3) := by decide +kernel
theorem dX8_fitsFills_73 : decode cX8_fitsFills 73 = .ok (.aload_n 0, 1) := by decide +kernel
theorem dX8_fitsFills_74 : decode cX8_fitsFills 74 = .ok (.getfield 385, 3) := by decide +kernel
theorem dX8_fitsFills_77 : decode cX8_fitsFills 77 = .ok (.iaload, 1) := by decide +kernel
theorem dX8_fitsFills_78 : decode cX8_fitsFills 78 = .ok (.istore 5, 2) := by decide +kernel
theorem dX8_fitsFills_80 : decode cX8_fitsFills 80 = .ok (.iload 5, 2) := by decide +kernel
theorem dX8_fitsFills_82 : decode cX8_fitsFills 82 = .ok (.aload_n 0, 1) := by decide +kernel
theorem dX8_fitsFills_83 : decode cX8_fitsFills 83 = .ok (.getfield 324, 3) := by decide +kernel
theorem dX8_fitsFills_86 : decode cX8_fitsFills 86 = .ok (.if_icmp .ge 35, 3) := by decide +kernel
theorem dX8_fitsFills_89 : decode cX8_fitsFills 89 = .ok (.iload_n 3, 1) := by decide +kernel
theorem dX8_fitsFills_90 : decode cX8_fitsFills 90 = .ok (.aload_n 0, 1) := by decide +kernel
theorem dX8_fitsFills_91 : decode cX8_fitsFills 91 = .ok (.getfield 131, 3) := by decide +kernel
theorem dX8_fitsFills_94 : decode cX8_fitsFills 94 = .ok (.iload 5, 2) := by decide +kernel
theorem dX8_fitsFills_96 : decode cX8_fitsFills 96 = .ok (.iaload, 1) := by decide +kernel
theorem dX8_fitsFills_97 : decode cX8_fitsFills 97 = .ok (.invokestatic 391, 3) := by decide +kernel
theorem dX8_fitsFills_100 : decode cX8_fitsFills 100 = .ok (.iload 4, 2) := by decide +kernel
theorem dX8_fitsFills_102 : decode cX8_fitsFills 102 = .ok (.invokestatic 433, 3) := by decide +kernel
theorem dX8_fitsFills_105 : decode cX8_fitsFills 105 = .ok (.imul, 1) := by decide +kernel
theorem dX8_fitsFills_106 : decode cX8_fitsFills 106 = .ok (.iadd, 1) := by decide +kernel
theorem dX8_fitsFills_107 : decode cX8_fitsFills 107 = .ok (.istore_n 3, 1) := by decide +kernel
theorem dX8_fitsFills_108 : decode cX8_fitsFills 108 = .ok (.iload 4, 2) := by decide +kernel
theorem dX8_fitsFills_110 : decode cX8_fitsFills 110 = .ok (.invokestatic 436, 3) := by decide +kernel
theorem dX8_fitsFills_113 : decode cX8_fitsFills 113 = .ok (.istore 4, 2) := by decide +kernel
theorem dX8_fitsFills_115 : decode cX8_fitsFills 115 = .ok (.iinc 5 1, 3) := by decide +kernel
theorem dX8_fitsFills_118 : decode cX8_fitsFills 118 = .ok (.goto (-38), 3) := by decide +kernel
theorem dX8_fitsFills_121 : decode cX8_fitsFills 121 = .ok (.aload_n 0, 1) := by decide +kernel
theorem dX8_fitsFills_122 : decode cX8_fitsFills 122 = .ok (.getfield 153, 3) := by decide +kernel
theorem dX8_fitsFills_125 : decode cX8_fitsFills 125 = .ok (.aload_n 0, 1) := by decide +kernel
theorem dX8_fitsFills_126 : decode cX8_fitsFills 126 = .ok (.getfield 87, 3) := by decide +kernel
theorem dX8_fitsFills_129 : decode cX8_fitsFills 129 = .ok (.iconst 1, 1) := by decide +kernel
theorem dX8_fitsFills_130 : decode cX8_fitsFills 130 = .ok (.iaload, 1) := by decide +kernel
theorem dX8_fitsFills_131 : decode cX8_fitsFills 131 = .ok (.iload_n 1, 1) := by decide +kernel
theorem dX8_fitsFills_132 : decode cX8_fitsFills 132 = .ok (.iload_n 3, 1) := by decide +kernel
theorem dX8_fitsFills_133 : decode cX8_fitsFills 133 = .ok (.invokestatic 448, 3) := by decide +kernel
theorem dX8_fitsFills_136 : decode cX8_fitsFills 136 = .ok (.dup2, 1) := by decide +kernel
theorem dX8_fitsFills_137 : decode cX8_fitsFills 137 = .ok (.laload, 1) := by decide +kernel
theorem dX8_fitsFills_138 : decode cX8_fitsFills 138 = .ok (.lconst 1, 1) := by decide +kernel
theorem dX8_fitsFills_139 : decode cX8_fitsFills 139 = .ok (.ladd, 1) := by decide +kernel
theorem dX8_fitsFills_140 : decode cX8_fitsFills 140 = .ok (.lastore, 1) := by decide +kernel
theorem dX8_fitsFills_141 : decode cX8_fitsFills 141 = .ok (.return_, 1) := by decide +kernel
theorem dX8_tellsFits_0 : decode cX8_tellsFits 0 = .ok (.aload_n 0, 1) := by decide +kernel
