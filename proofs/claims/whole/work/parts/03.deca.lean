theorem dJ0_length_8abf5_0 : decode cJ0_length_8abf5 0 = .ok (.aload_n 0, 1) := by decide +kernel
theorem dJ0_length_8abf5_1 : decode cJ0_length_8abf5 1 = .ok (.getfield 9, 3) := by decide +kernel
theorem dJ0_length_8abf5_4 : decode cJ0_length_8abf5 4 = .ok (.arraylength, 1) := by decide +kernel
theorem dJ0_length_8abf5_5 : decode cJ0_length_8abf5 5 = .ok (.aload_n 0, 1) := by decide +kernel
theorem dJ0_length_8abf5_6 : decode cJ0_length_8abf5 6 = .ok (.invokevirtual 335, 3) := by decide +kernel
theorem dJ0_length_8abf5_9 : decode cJ0_length_8abf5 9 = .ok (.ishr, 1) := by decide +kernel
theorem dJ0_length_8abf5_10 : decode cJ0_length_8abf5 10 = .ok (.ireturn, 1) := by decide +kernel
theorem dJ0_charAt_5068e_0 : decode cJ0_charAt_5068e 0 = .ok (.aload_n 0, 1) := by decide +kernel
theorem dJ0_charAt_5068e_1 : decode cJ0_charAt_5068e 1 = .ok (.invokevirtual 492, 3) := by decide +kernel
theorem dJ0_charAt_5068e_4 : decode cJ0_charAt_5068e 4 = .ok (.ifCond .eq 12, 3) := by decide +kernel
theorem dJ0_charAt_5068e_7 : decode cJ0_charAt_5068e 7 = .ok (.aload_n 0, 1) := by decide +kernel
theorem dJ0_charAt_5068e_8 : decode cJ0_charAt_5068e 8 = .ok (.getfield 9, 3) := by decide +kernel
theorem dJ0_charAt_5068e_11 : decode cJ0_charAt_5068e 11 = .ok (.iload_n 1, 1) := by decide +kernel
theorem dJ0_charAt_5068e_12 : decode cJ0_charAt_5068e 12 = .ok (.invokestatic 495, 3) := by decide +kernel
theorem dJ0_charAt_5068e_15 : decode cJ0_charAt_5068e 15 = .ok (.ireturn, 1) := by decide +kernel
theorem dJ0_charAt_5068e_16 : decode cJ0_charAt_5068e 16 = .ok (.aload_n 0, 1) := by decide +kernel
theorem dJ0_charAt_5068e_17 : decode cJ0_charAt_5068e 17 = .ok (.getfield 9, 3) := by decide +kernel
theorem dJ0_charAt_5068e_20 : decode cJ0_charAt_5068e 20 = .ok (.iload_n 1, 1) := by decide +kernel
theorem dJ0_charAt_5068e_21 : decode cJ0_charAt_5068e 21 = .ok (.invokestatic 498, 3) := by decide +kernel
theorem dJ0_charAt_5068e_24 : decode cJ0_charAt_5068e 24 = .ok (.ireturn, 1) := by decide +kernel
theorem dJ0_coder_7d493_0 : decode cJ0_coder_7d493 0 = .ok (.getstatic 38, 3) := by decide +kernel
theorem dJ0_coder_7d493_3 : decode cJ0_coder_7d493 3 = .ok (.ifCond .eq 10, 3) := by decide +kernel
theorem dJ0_coder_7d493_6 : decode cJ0_coder_7d493 6 = .ok (.aload_n 0, 1) := by decide +kernel
theorem dJ0_coder_7d493_7 : decode cJ0_coder_7d493 7 = .ok (.getfield 15, 3) := by decide +kernel
theorem dJ0_coder_7d493_10 : decode cJ0_coder_7d493 10 = .ok (.goto 4, 3) := by decide +kernel
theorem dJ0_coder_7d493_13 : decode cJ0_coder_7d493 13 = .ok (.iconst 1, 1) := by decide +kernel
theorem dJ0_coder_7d493_14 : decode cJ0_coder_7d493 14 = .ok (.ireturn, 1) := by decide +kernel
theorem dJ0_isLatin1_aae02_0 : decode cJ0_isLatin1_aae02 0 = .ok (.getstatic 38, 3) := by decide +kernel
theorem dJ0_isLatin1_aae02_3 : decode cJ0_isLatin1_aae02 3 = .ok (.ifCond .eq 14, 3) := by decide +kernel
theorem dJ0_isLatin1_aae02_6 : decode cJ0_isLatin1_aae02 6 = .ok (.aload_n 0, 1) := by decide +kernel
theorem dJ0_isLatin1_aae02_7 : decode cJ0_isLatin1_aae02 7 = .ok (.getfield 15, 3) := by decide +kernel
theorem dJ0_isLatin1_aae02_10 : decode cJ0_isLatin1_aae02 10 = .ok (.ifCond .ne 7, 3) := by decide +kernel
theorem dJ0_isLatin1_aae02_13 : decode cJ0_isLatin1_aae02 13 = .ok (.iconst 1, 1) := by decide +kernel
theorem dJ0_isLatin1_aae02_14 : decode cJ0_isLatin1_aae02 14 = .ok (.goto 4, 3) := by decide +kernel
theorem dJ0_isLatin1_aae02_17 : decode cJ0_isLatin1_aae02 17 = .ok (.iconst 0, 1) := by decide +kernel
theorem dJ0_isLatin1_aae02_18 : decode cJ0_isLatin1_aae02 18 = .ok (.ireturn, 1) := by decide +kernel
theorem dJ0_checkIndex_df160_0 : decode cJ0_checkIndex_df160 0 = .ok (.iload_n 0, 1) := by decide +kernel
theorem dJ0_checkIndex_df160_1 : decode cJ0_checkIndex_df160 1 = .ok (.iload_n 1, 1) := by decide +kernel
theorem dJ0_checkIndex_df160_2 : decode cJ0_checkIndex_df160 2 = .ok (.getstatic 1053, 3) := by decide +kernel
theorem dJ0_checkIndex_df160_5 : decode cJ0_checkIndex_df160 5 = .ok (.invokestatic 1059, 3) := by decide +kernel
theorem dJ0_checkIndex_df160_8 : decode cJ0_checkIndex_df160 8 = .ok (.pop, 1) := by decide +kernel
theorem dJ0_checkIndex_df160_9 : decode cJ0_checkIndex_df160 9 = .ok (.return_, 1) := by decide +kernel
theorem dJ1_charAt_3b067_0 : decode cJ1_charAt_3b067 0 = .ok (.iload_n 1, 1) := by decide +kernel
theorem dJ1_charAt_3b067_1 : decode cJ1_charAt_3b067 1 = .ok (.aload_n 0, 1) := by decide +kernel
theorem dJ1_charAt_3b067_2 : decode cJ1_charAt_3b067 2 = .ok (.arraylength, 1) := by decide +kernel
theorem dJ1_charAt_3b067_3 : decode cJ1_charAt_3b067 3 = .ok (.invokestatic 9, 3) := by decide +kernel
theorem dJ1_charAt_3b067_6 : decode cJ1_charAt_3b067 6 = .ok (.aload_n 0, 1) := by decide +kernel
theorem dJ1_charAt_3b067_7 : decode cJ1_charAt_3b067 7 = .ok (.iload_n 1, 1) := by decide +kernel
theorem dJ1_charAt_3b067_8 : decode cJ1_charAt_3b067 8 = .ok (.baload, 1) := by decide +kernel
theorem dJ1_charAt_3b067_9 : decode cJ1_charAt_3b067 9 = .ok (.sipush 255, 3) := by decide +kernel
theorem dJ1_charAt_3b067_12 : decode cJ1_charAt_3b067 12 = .ok (.iand, 1) := by decide +kernel
theorem dJ1_charAt_3b067_13 : decode cJ1_charAt_3b067 13 = .ok (.i2c, 1) := by decide +kernel
theorem dJ1_charAt_3b067_14 : decode cJ1_charAt_3b067 14 = .ok (.ireturn, 1) := by decide +kernel
theorem dJ2_getChar_3b067_0 : decode cJ2_getChar_3b067 0 = .ok (.getstatic 44, 3) := by decide +kernel
theorem dJ2_getChar_3b067_3 : decode cJ2_getChar_3b067 3 = .ok (.ifCond .ne 25, 3) := by decide +kernel
theorem dJ2_getChar_3b067_6 : decode cJ2_getChar_3b067 6 = .ok (.iload_n 1, 1) := by decide +kernel
theorem dJ2_getChar_3b067_7 : decode cJ2_getChar_3b067 7 = .ok (.ifCond .lt 11, 3) := by decide +kernel
theorem dJ2_getChar_3b067_10 : decode cJ2_getChar_3b067 10 = .ok (.iload_n 1, 1) := by decide +kernel
theorem dJ2_getChar_3b067_11 : decode cJ2_getChar_3b067 11 = .ok (.aload_n 0, 1) := by decide +kernel
theorem dJ2_getChar_3b067_12 : decode cJ2_getChar_3b067 12 = .ok (.invokestatic 48, 3) := by decide +kernel
theorem dJ2_getChar_3b067_15 : decode cJ2_getChar_3b067 15 = .ok (.if_icmp .lt 13, 3) := by decide +kernel
theorem dJ2_getChar_3b067_18 : decode cJ2_getChar_3b067 18 = .ok (.new 52, 3) := by decide +kernel
theorem dJ2_getChar_3b067_21 : decode cJ2_getChar_3b067 21 = .ok (.dup, 1) := by decide +kernel
theorem dJ2_getChar_3b067_22 : decode cJ2_getChar_3b067 22 = .ok (.ldc 54, 2) := by decide +kernel
theorem dJ2_getChar_3b067_24 : decode cJ2_getChar_3b067 24 = .ok (.invokespecial 56, 3) := by decide +kernel
theorem dJ2_getChar_3b067_27 : decode cJ2_getChar_3b067 27 = .ok (.athrow, 1) := by decide +kernel
theorem dJ2_getChar_3b067_28 : decode cJ2_getChar_3b067 28 = .ok (.iload_n 1, 1) := by decide +kernel
theorem dJ2_getChar_3b067_29 : decode cJ2_getChar_3b067 29 = .ok (.iconst 1, 1) := by decide +kernel
theorem dJ2_getChar_3b067_30 : decode cJ2_getChar_3b067 30 = .ok (.ishl, 1) := by decide +kernel
theorem dJ2_getChar_3b067_31 : decode cJ2_getChar_3b067 31 = .ok (.istore_n 1, 1) := by decide +kernel
theorem dJ2_getChar_3b067_32 : decode cJ2_getChar_3b067 32 = .ok (.aload_n 0, 1) := by decide +kernel
theorem dJ2_getChar_3b067_33 : decode cJ2_getChar_3b067 33 = .ok (.iload_n 1, 1) := by decide +kernel
theorem dJ2_getChar_3b067_34 : decode cJ2_getChar_3b067 34 = .ok (.iinc 1 1, 3) := by decide +kernel
theorem dJ2_getChar_3b067_37 : decode cJ2_getChar_3b067 37 = .ok (.baload, 1) := by decide +kernel
theorem dJ2_getChar_3b067_38 : decode cJ2_getChar_3b067 38 = .ok (.sipush 255, 3) := by decide +kernel
theorem dJ2_getChar_3b067_41 : decode cJ2_getChar_3b067 41 = .ok (.iand, 1) := by decide +kernel
theorem dJ2_getChar_3b067_42 : decode cJ2_getChar_3b067 42 = .ok (.getstatic 59, 3) := by decide +kernel
theorem dJ2_getChar_3b067_45 : decode cJ2_getChar_3b067 45 = .ok (.ishl, 1) := by decide +kernel
theorem dJ2_getChar_3b067_46 : decode cJ2_getChar_3b067 46 = .ok (.aload_n 0, 1) := by decide +kernel
theorem dJ2_getChar_3b067_47 : decode cJ2_getChar_3b067 47 = .ok (.iload_n 1, 1) := by decide +kernel
theorem dJ2_getChar_3b067_48 : decode cJ2_getChar_3b067 48 = .ok (.baload, 1) := by decide +kernel
theorem dJ2_getChar_3b067_49 : decode cJ2_getChar_3b067 49 = .ok (.sipush 255, 3) := by decide +kernel
theorem dJ2_getChar_3b067_52 : decode cJ2_getChar_3b067 52 = .ok (.iand, 1) := by decide +kernel
theorem dJ2_getChar_3b067_53 : decode cJ2_getChar_3b067 53 = .ok (.getstatic 63, 3) := by decide +kernel
theorem dJ2_getChar_3b067_56 : decode cJ2_getChar_3b067 56 = .ok (.ishl, 1) := by decide +kernel
theorem dJ2_getChar_3b067_57 : decode cJ2_getChar_3b067 57 = .ok (.ior, 1) := by decide +kernel
theorem dJ2_getChar_3b067_58 : decode cJ2_getChar_3b067 58 = .ok (.i2c, 1) := by decide +kernel
theorem dJ2_getChar_3b067_59 : decode cJ2_getChar_3b067 59 = .ok (.ireturn, 1) := by decide +kernel
theorem dJ2_length_9d52b_0 : decode cJ2_length_9d52b 0 = .ok (.aload_n 0, 1) := by decide +kernel
theorem dJ2_length_9d52b_1 : decode cJ2_length_9d52b 1 = .ok (.arraylength, 1) := by decide +kernel
theorem dJ2_length_9d52b_2 : decode cJ2_length_9d52b 2 = .ok (.iconst 1, 1) := by decide +kernel
theorem dJ2_length_9d52b_3 : decode cJ2_length_9d52b 3 = .ok (.ishr, 1) := by decide +kernel
theorem dJ2_length_9d52b_4 : decode cJ2_length_9d52b 4 = .ok (.ireturn, 1) := by decide +kernel
theorem dJ2_charAt_3b067_0 : decode cJ2_charAt_3b067 0 = .ok (.iload_n 1, 1) := by decide +kernel
theorem dJ2_charAt_3b067_1 : decode cJ2_charAt_3b067 1 = .ok (.aload_n 0, 1) := by decide +kernel
theorem dJ2_charAt_3b067_2 : decode cJ2_charAt_3b067 2 = .ok (.invokestatic 67, 3) := by decide +kernel
theorem dJ2_charAt_3b067_5 : decode cJ2_charAt_3b067 5 = .ok (.aload_n 0, 1) := by decide +kernel
theorem dJ2_charAt_3b067_6 : decode cJ2_charAt_3b067 6 = .ok (.iload_n 1, 1) := by decide +kernel
theorem dJ2_charAt_3b067_7 : decode cJ2_charAt_3b067 7 = .ok (.invokestatic 71, 3) := by decide +kernel
theorem dJ2_charAt_3b067_10 : decode cJ2_charAt_3b067 10 = .ok (.ireturn, 1) := by decide +kernel
theorem dJ2_checkIndex_2214a_0 : decode cJ2_checkIndex_2214a 0 = .ok (.iload_n 0, 1) := by decide +kernel
theorem dJ2_checkIndex_2214a_1 : decode cJ2_checkIndex_2214a 1 = .ok (.aload_n 1, 1) := by decide +kernel
theorem dJ2_checkIndex_2214a_2 : decode cJ2_checkIndex_2214a 2 = .ok (.invokestatic 48, 3) := by decide +kernel
theorem dJ2_checkIndex_2214a_5 : decode cJ2_checkIndex_2214a 5 = .ok (.invokestatic 414, 3) := by decide +kernel
theorem dJ2_checkIndex_2214a_8 : decode cJ2_checkIndex_2214a 8 = .ok (.return_, 1) := by decide +kernel
theorem dJ3_checkIndex_8e157_0 : decode cJ3_checkIndex_8e157 0 = .ok (.iload_n 0, 1) := by decide +kernel
theorem dJ3_checkIndex_8e157_1 : decode cJ3_checkIndex_8e157 1 = .ok (.ifCond .lt 8, 3) := by decide +kernel
theorem dJ3_checkIndex_8e157_4 : decode cJ3_checkIndex_8e157 4 = .ok (.iload_n 0, 1) := by decide +kernel
theorem dJ3_checkIndex_8e157_5 : decode cJ3_checkIndex_8e157 5 = .ok (.iload_n 1, 1) := by decide +kernel
theorem dJ3_checkIndex_8e157_6 : decode cJ3_checkIndex_8e157 6 = .ok (.if_icmp .lt 10, 3) := by decide +kernel
theorem dJ3_checkIndex_8e157_9 : decode cJ3_checkIndex_8e157 9 = .ok (.aload_n 2, 1) := by decide +kernel
theorem dJ3_checkIndex_8e157_10 : decode cJ3_checkIndex_8e157 10 = .ok (.iload_n 0, 1) := by decide +kernel
theorem dJ3_checkIndex_8e157_11 : decode cJ3_checkIndex_8e157 11 = .ok (.iload_n 1, 1) := by decide +kernel
theorem dJ3_checkIndex_8e157_12 : decode cJ3_checkIndex_8e157 12 = .ok (.invokestatic 95, 3) := by decide +kernel
theorem dJ3_checkIndex_8e157_15 : decode cJ3_checkIndex_8e157 15 = .ok (.athrow, 1) := by decide +kernel
theorem dJ3_checkIndex_8e157_16 : decode cJ3_checkIndex_8e157 16 = .ok (.iload_n 0, 1) := by decide +kernel
theorem dJ3_checkIndex_8e157_17 : decode cJ3_checkIndex_8e157 17 = .ok (.ireturn, 1) := by decide +kernel
theorem dJ6_bitCount_0f7a4_0 : decode cJ6_bitCount_0f7a4 0 = .ok (.iload_n 0, 1) := by decide +kernel
theorem dJ6_bitCount_0f7a4_1 : decode cJ6_bitCount_0f7a4 1 = .ok (.iload_n 0, 1) := by decide +kernel
theorem dJ6_bitCount_0f7a4_2 : decode cJ6_bitCount_0f7a4 2 = .ok (.iconst 1, 1) := by decide +kernel
theorem dJ6_bitCount_0f7a4_3 : decode cJ6_bitCount_0f7a4 3 = .ok (.iushr, 1) := by decide +kernel
theorem dJ6_bitCount_0f7a4_4 : decode cJ6_bitCount_0f7a4 4 = .ok (.ldc_w 265, 3) := by decide +kernel
theorem dJ6_bitCount_0f7a4_7 : decode cJ6_bitCount_0f7a4 7 = .ok (.iand, 1) := by decide +kernel
theorem dJ6_bitCount_0f7a4_8 : decode cJ6_bitCount_0f7a4 8 = .ok (.isub, 1) := by decide +kernel
theorem dJ6_bitCount_0f7a4_9 : decode cJ6_bitCount_0f7a4 9 = .ok (.istore_n 0, 1) := by decide +kernel
theorem dJ6_bitCount_0f7a4_10 : decode cJ6_bitCount_0f7a4 10 = .ok (.iload_n 0, 1) := by decide +kernel
theorem dJ6_bitCount_0f7a4_11 : decode cJ6_bitCount_0f7a4 11 = .ok (.ldc_w 266, 3) := by decide +kernel
theorem dJ6_bitCount_0f7a4_14 : decode cJ6_bitCount_0f7a4 14 = .ok (.iand, 1) := by decide +kernel
theorem dJ6_bitCount_0f7a4_15 : decode cJ6_bitCount_0f7a4 15 = .ok (.iload_n 0, 1) := by decide +kernel
theorem dJ6_bitCount_0f7a4_16 : decode cJ6_bitCount_0f7a4 16 = .ok (.iconst 2, 1) := by decide +kernel
theorem dJ6_bitCount_0f7a4_17 : decode cJ6_bitCount_0f7a4 17 = .ok (.iushr, 1) := by decide +kernel
theorem dJ6_bitCount_0f7a4_18 : decode cJ6_bitCount_0f7a4 18 = .ok (.ldc_w 266, 3) := by decide +kernel
theorem dJ6_bitCount_0f7a4_21 : decode cJ6_bitCount_0f7a4 21 = .ok (.iand, 1) := by decide +kernel
theorem dJ6_bitCount_0f7a4_22 : decode cJ6_bitCount_0f7a4 22 = .ok (.iadd, 1) := by decide +kernel
theorem dJ6_bitCount_0f7a4_23 : decode cJ6_bitCount_0f7a4 23 = .ok (.istore_n 0, 1) := by decide +kernel
theorem dJ6_bitCount_0f7a4_24 : decode cJ6_bitCount_0f7a4 24 = .ok (.iload_n 0, 1) := by decide +kernel
theorem dJ6_bitCount_0f7a4_25 : decode cJ6_bitCount_0f7a4 25 = .ok (.iload_n 0, 1) := by decide +kernel
theorem dJ6_bitCount_0f7a4_26 : decode cJ6_bitCount_0f7a4 26 = .ok (.iconst 4, 1) := by decide +kernel
theorem dJ6_bitCount_0f7a4_27 : decode cJ6_bitCount_0f7a4 27 = .ok (.iushr, 1) := by decide +kernel
theorem dJ6_bitCount_0f7a4_28 : decode cJ6_bitCount_0f7a4 28 = .ok (.iadd, 1) := by decide +kernel
theorem dJ6_bitCount_0f7a4_29 : decode cJ6_bitCount_0f7a4 29 = .ok (.ldc_w 267, 3) := by decide +kernel
theorem dJ6_bitCount_0f7a4_32 : decode cJ6_bitCount_0f7a4 32 = .ok (.iand, 1) := by decide +kernel
theorem dJ6_bitCount_0f7a4_33 : decode cJ6_bitCount_0f7a4 33 = .ok (.istore_n 0, 1) := by decide +kernel
theorem dJ6_bitCount_0f7a4_34 : decode cJ6_bitCount_0f7a4 34 = .ok (.iload_n 0, 1) := by decide +kernel
theorem dJ6_bitCount_0f7a4_35 : decode cJ6_bitCount_0f7a4 35 = .ok (.iload_n 0, 1) := by decide +kernel
theorem dJ6_bitCount_0f7a4_36 : decode cJ6_bitCount_0f7a4 36 = .ok (.bipush 8, 2) := by decide +kernel
theorem dJ6_bitCount_0f7a4_38 : decode cJ6_bitCount_0f7a4 38 = .ok (.iushr, 1) := by decide +kernel
theorem dJ6_bitCount_0f7a4_39 : decode cJ6_bitCount_0f7a4 39 = .ok (.iadd, 1) := by decide +kernel
theorem dJ6_bitCount_0f7a4_40 : decode cJ6_bitCount_0f7a4 40 = .ok (.istore_n 0, 1) := by decide +kernel
theorem dJ6_bitCount_0f7a4_41 : decode cJ6_bitCount_0f7a4 41 = .ok (.iload_n 0, 1) := by decide +kernel
theorem dJ6_bitCount_0f7a4_42 : decode cJ6_bitCount_0f7a4 42 = .ok (.iload_n 0, 1) := by decide +kernel
theorem dJ6_bitCount_0f7a4_43 : decode cJ6_bitCount_0f7a4 43 = .ok (.bipush 16, 2) := by decide +kernel
theorem dJ6_bitCount_0f7a4_45 : decode cJ6_bitCount_0f7a4 45 = .ok (.iushr, 1) := by decide +kernel
theorem dJ6_bitCount_0f7a4_46 : decode cJ6_bitCount_0f7a4 46 = .ok (.iadd, 1) := by decide +kernel
theorem dJ6_bitCount_0f7a4_47 : decode cJ6_bitCount_0f7a4 47 = .ok (.istore_n 0, 1) := by decide +kernel
theorem dJ6_bitCount_0f7a4_48 : decode cJ6_bitCount_0f7a4 48 = .ok (.iload_n 0, 1) := by decide +kernel
theorem dJ6_bitCount_0f7a4_49 : decode cJ6_bitCount_0f7a4 49 = .ok (.bipush 63, 2) := by decide +kernel
theorem dJ6_bitCount_0f7a4_51 : decode cJ6_bitCount_0f7a4 51 = .ok (.iand, 1) := by decide +kernel
theorem dJ6_bitCount_0f7a4_52 : decode cJ6_bitCount_0f7a4 52 = .ok (.ireturn, 1) := by decide +kernel
theorem dJ6_signum_0f7a4_0 : decode cJ6_signum_0f7a4 0 = .ok (.iload_n 0, 1) := by decide +kernel
theorem dJ6_signum_0f7a4_1 : decode cJ6_signum_0f7a4 1 = .ok (.bipush 31, 2) := by decide +kernel
theorem dJ6_signum_0f7a4_3 : decode cJ6_signum_0f7a4 3 = .ok (.ishr, 1) := by decide +kernel
theorem dJ6_signum_0f7a4_4 : decode cJ6_signum_0f7a4 4 = .ok (.iload_n 0, 1) := by decide +kernel
theorem dJ6_signum_0f7a4_5 : decode cJ6_signum_0f7a4 5 = .ok (.ineg, 1) := by decide +kernel
theorem dJ6_signum_0f7a4_6 : decode cJ6_signum_0f7a4 6 = .ok (.bipush 31, 2) := by decide +kernel
theorem dJ6_signum_0f7a4_8 : decode cJ6_signum_0f7a4 8 = .ok (.iushr, 1) := by decide +kernel
theorem dJ6_signum_0f7a4_9 : decode cJ6_signum_0f7a4 9 = .ok (.ior, 1) := by decide +kernel
theorem dJ6_signum_0f7a4_10 : decode cJ6_signum_0f7a4 10 = .ok (.ireturn, 1) := by decide +kernel
theorem dJ9_floorDiv_7cf53_0 : decode cJ9_floorDiv_7cf53 0 = .ok (.iload_n 0, 1) := by decide +kernel
theorem dJ9_floorDiv_7cf53_1 : decode cJ9_floorDiv_7cf53 1 = .ok (.iload_n 1, 1) := by decide +kernel
theorem dJ9_floorDiv_7cf53_2 : decode cJ9_floorDiv_7cf53 2 = .ok (.idiv, 1) := by decide +kernel
theorem dJ9_floorDiv_7cf53_3 : decode cJ9_floorDiv_7cf53 3 = .ok (.istore_n 2, 1) := by decide +kernel
theorem dJ9_floorDiv_7cf53_4 : decode cJ9_floorDiv_7cf53 4 = .ok (.iload_n 0, 1) := by decide +kernel
theorem dJ9_floorDiv_7cf53_5 : decode cJ9_floorDiv_7cf53 5 = .ok (.iload_n 1, 1) := by decide +kernel
theorem dJ9_floorDiv_7cf53_6 : decode cJ9_floorDiv_7cf53 6 = .ok (.ixor, 1) := by decide +kernel
theorem dJ9_floorDiv_7cf53_7 : decode cJ9_floorDiv_7cf53 7 = .ok (.ifCond .ge 14, 3) := by decide +kernel
theorem dJ9_floorDiv_7cf53_10 : decode cJ9_floorDiv_7cf53 10 = .ok (.iload_n 2, 1) := by decide +kernel
theorem dJ9_floorDiv_7cf53_11 : decode cJ9_floorDiv_7cf53 11 = .ok (.iload_n 1, 1) := by decide +kernel
theorem dJ9_floorDiv_7cf53_12 : decode cJ9_floorDiv_7cf53 12 = .ok (.imul, 1) := by decide +kernel
theorem dJ9_floorDiv_7cf53_13 : decode cJ9_floorDiv_7cf53 13 = .ok (.iload_n 0, 1) := by decide +kernel
theorem dJ9_floorDiv_7cf53_14 : decode cJ9_floorDiv_7cf53 14 = .ok (.if_icmp .eq 7, 3) := by decide +kernel
theorem dJ9_floorDiv_7cf53_17 : decode cJ9_floorDiv_7cf53 17 = .ok (.iload_n 2, 1) := by decide +kernel
theorem dJ9_floorDiv_7cf53_18 : decode cJ9_floorDiv_7cf53 18 = .ok (.iconst 1, 1) := by decide +kernel
theorem dJ9_floorDiv_7cf53_19 : decode cJ9_floorDiv_7cf53 19 = .ok (.isub, 1) := by decide +kernel
theorem dJ9_floorDiv_7cf53_20 : decode cJ9_floorDiv_7cf53 20 = .ok (.ireturn, 1) := by decide +kernel
theorem dJ9_floorDiv_7cf53_21 : decode cJ9_floorDiv_7cf53 21 = .ok (.iload_n 2, 1) := by decide +kernel
theorem dJ9_floorDiv_7cf53_22 : decode cJ9_floorDiv_7cf53 22 = .ok (.ireturn, 1) := by decide +kernel
theorem dJ9_max_7cf53_0 : decode cJ9_max_7cf53 0 = .ok (.iload_n 0, 1) := by decide +kernel
theorem dJ9_max_7cf53_1 : decode cJ9_max_7cf53 1 = .ok (.iload_n 1, 1) := by decide +kernel
theorem dJ9_max_7cf53_2 : decode cJ9_max_7cf53 2 = .ok (.if_icmp .lt 7, 3) := by decide +kernel
theorem dJ9_max_7cf53_5 : decode cJ9_max_7cf53 5 = .ok (.iload_n 0, 1) := by decide +kernel
theorem dJ9_max_7cf53_6 : decode cJ9_max_7cf53 6 = .ok (.goto 4, 3) := by decide +kernel
theorem dJ9_max_7cf53_9 : decode cJ9_max_7cf53 9 = .ok (.iload_n 1, 1) := by decide +kernel
theorem dJ9_max_7cf53_10 : decode cJ9_max_7cf53 10 = .ok (.ireturn, 1) := by decide +kernel
theorem dJ9_max_f86c9_0 : decode cJ9_max_f86c9 0 = .ok (.lload_n 0, 1) := by decide +kernel
theorem dJ9_max_f86c9_1 : decode cJ9_max_f86c9 1 = .ok (.lload_n 2, 1) := by decide +kernel
theorem dJ9_max_f86c9_2 : decode cJ9_max_f86c9 2 = .ok (.lcmp, 1) := by decide +kernel
theorem dJ9_max_f86c9_3 : decode cJ9_max_f86c9 3 = .ok (.ifCond .lt 7, 3) := by decide +kernel
theorem dJ9_max_f86c9_6 : decode cJ9_max_f86c9 6 = .ok (.lload_n 0, 1) := by decide +kernel
theorem dJ9_max_f86c9_7 : decode cJ9_max_f86c9 7 = .ok (.goto 4, 3) := by decide +kernel
theorem dJ9_max_f86c9_10 : decode cJ9_max_f86c9 10 = .ok (.lload_n 2, 1) := by decide +kernel
theorem dJ9_max_f86c9_11 : decode cJ9_max_f86c9 11 = .ok (.lreturn, 1) := by decide +kernel
theorem dJ9_min_7cf53_0 : decode cJ9_min_7cf53 0 = .ok (.iload_n 0, 1) := by decide +kernel
theorem dJ9_min_7cf53_1 : decode cJ9_min_7cf53 1 = .ok (.iload_n 1, 1) := by decide +kernel
theorem dJ9_min_7cf53_2 : decode cJ9_min_7cf53 2 = .ok (.if_icmp .gt 7, 3) := by decide +kernel
theorem dJ9_min_7cf53_5 : decode cJ9_min_7cf53 5 = .ok (.iload_n 0, 1) := by decide +kernel
theorem dJ9_min_7cf53_6 : decode cJ9_min_7cf53 6 = .ok (.goto 4, 3) := by decide +kernel
theorem dJ9_min_7cf53_9 : decode cJ9_min_7cf53 9 = .ok (.iload_n 1, 1) := by decide +kernel
theorem dJ9_min_7cf53_10 : decode cJ9_min_7cf53 10 = .ok (.ireturn, 1) := by decide +kernel
theorem dJ9_min_f86c9_0 : decode cJ9_min_f86c9 0 = .ok (.lload_n 0, 1) := by decide +kernel
theorem dJ9_min_f86c9_1 : decode cJ9_min_f86c9 1 = .ok (.lload_n 2, 1) := by decide +kernel
theorem dJ9_min_f86c9_2 : decode cJ9_min_f86c9 2 = .ok (.lcmp, 1) := by decide +kernel
theorem dJ9_min_f86c9_3 : decode cJ9_min_f86c9 3 = .ok (.ifCond .gt 7, 3) := by decide +kernel
theorem dJ9_min_f86c9_6 : decode cJ9_min_f86c9 6 = .ok (.lload_n 0, 1) := by decide +kernel
theorem dJ9_min_f86c9_7 : decode cJ9_min_f86c9 7 = .ok (.goto 4, 3) := by decide +kernel
theorem dJ9_min_f86c9_10 : decode cJ9_min_f86c9 10 = .ok (.lload_n 2, 1) := by decide +kernel
theorem dJ9_min_f86c9_11 : decode cJ9_min_f86c9 11 = .ok (.lreturn, 1) := by decide +kernel
theorem dX0_init_0 : decode cX0_init 0 = .ok (.aload_n 0, 1) := by decide +kernel
theorem dX0_init_1 : decode cX0_init 1 = .ok (.invokespecial 3, 3) := by decide +kernel
theorem dX0_init_4 : decode cX0_init 4 = .ok (.aload_n 0, 1) := by decide +kernel
theorem dX0_init_5 : decode cX0_init 5 = .ok (.sipush 700, 3) := by decide +kernel
theorem dX0_init_8 : decode cX0_init 8 = .ok (.newarray .int, 2) := by decide +kernel
theorem dX0_init_10 : decode cX0_init 10 = .ok (.putfield 9, 3) := by decide +kernel
theorem dX0_init_13 : decode cX0_init 13 = .ok (.aload_n 0, 1) := by decide +kernel
theorem dX0_init_14 : decode cX0_init 14 = .ok (.iconst 0, 1) := by decide +kernel
theorem dX0_init_15 : decode cX0_init 15 = .ok (.putfield 15, 3) := by decide +kernel
theorem dX0_init_18 : decode cX0_init 18 = .ok (.aload_n 0, 1) := by decide +kernel
theorem dX0_init_19 : decode cX0_init 19 = .ok (.bipush 7, 2) := by decide +kernel
theorem dX0_init_21 : decode cX0_init 21 = .ok (.newarray .int, 2) := by decide +kernel
theorem dX0_init_23 : decode cX0_init 23 = .ok (.putfield 19, 3) := by decide +kernel
theorem dX0_init_26 : decode cX0_init 26 = .ok (.aload_n 0, 1) := by decide +kernel
theorem dX0_init_27 : decode cX0_init 27 = .ok (.bipush 64, 2) := by decide +kernel
theorem dX0_init_29 : decode cX0_init 29 = .ok (.newarray .int, 2) := by decide +kernel
theorem dX0_init_31 : decode cX0_init 31 = .ok (.putfield 22, 3) := by decide +kernel
theorem dX0_init_34 : decode cX0_init 34 = .ok (.aload_n 0, 1) := by decide +kernel
theorem dX0_init_35 : decode cX0_init 35 = .ok (.iconst 0, 1) := by decide +kernel
theorem dX0_init_36 : decode cX0_init 36 = .ok (.putfield 25, 3) := by decide +kernel
theorem dX0_init_39 : decode cX0_init 39 = .ok (.return_, 1) := by decide +kernel
theorem dX0_empty_0 : decode cX0_empty 0 = .ok (.aload_n 0, 1) := by decide +kernel
theorem dX0_empty_1 : decode cX0_empty 1 = .ok (.iconst 0, 1) := by decide +kernel
theorem dX0_empty_2 : decode cX0_empty 2 = .ok (.putfield 15, 3) := by decide +kernel
theorem dX0_empty_5 : decode cX0_empty 5 = .ok (.return_, 1) := by decide +kernel
theorem dX0_sizeNow_0 : decode cX0_sizeNow 0 = .ok (.aload_n 0, 1) := by decide +kernel
theorem dX0_sizeNow_1 : decode cX0_sizeNow 1 = .ok (.getfield 15, 3) := by decide +kernel
theorem dX0_sizeNow_4 : decode cX0_sizeNow 4 = .ok (.ireturn, 1) := by decide +kernel
theorem dX0_put_0 : decode cX0_put 0 = .ok (.aload_n 0, 1) := by decide +kernel
theorem dX0_put_1 : decode cX0_put 1 = .ok (.getfield 15, 3) := by decide +kernel
theorem dX0_put_4 : decode cX0_put 4 = .ok (.aload_n 0, 1) := by decide +kernel
theorem dX0_put_5 : decode cX0_put 5 = .ok (.getfield 9, 3) := by decide +kernel
theorem dX0_put_8 : decode cX0_put 8 = .ok (.arraylength, 1) := by decide +kernel
theorem dX0_put_9 : decode cX0_put 9 = .ok (.if_icmp .lt 5, 3) := by decide +kernel
theorem dX0_put_12 : decode cX0_put 12 = .ok (.iconst 0, 1) := by decide +kernel
theorem dX0_put_13 : decode cX0_put 13 = .ok (.ireturn, 1) := by decide +kernel
theorem dX0_put_14 : decode cX0_put 14 = .ok (.aload_n 0, 1) := by decide +kernel
theorem dX0_put_15 : decode cX0_put 15 = .ok (.getfield 9, 3) := by decide +kernel
theorem dX0_put_18 : decode cX0_put 18 = .ok (.aload_n 0, 1) := by decide +kernel
theorem dX0_put_19 : decode cX0_put 19 = .ok (.getfield 15, 3) := by decide +kernel
theorem dX0_put_22 : decode cX0_put 22 = .ok (.iload_n 1, 1) := by decide +kernel
theorem dX0_put_23 : decode cX0_put 23 = .ok (.iastore, 1) := by decide +kernel
theorem dX0_put_24 : decode cX0_put 24 = .ok (.aload_n 0, 1) := by decide +kernel
theorem dX0_put_25 : decode cX0_put 25 = .ok (.dup, 1) := by decide +kernel
theorem dX0_put_26 : decode cX0_put 26 = .ok (.getfield 15, 3) := by decide +kernel
theorem dX0_put_29 : decode cX0_put 29 = .ok (.iconst 1, 1) := by decide +kernel
theorem dX0_put_30 : decode cX0_put 30 = .ok (.iadd, 1) := by decide +kernel
theorem dX0_put_31 : decode cX0_put 31 = .ok (.putfield 15, 3) := by decide +kernel
theorem dX0_put_34 : decode cX0_put 34 = .ok (.iconst 1, 1) := by decide +kernel
theorem dX0_put_35 : decode cX0_put 35 = .ok (.ireturn, 1) := by decide +kernel
theorem dX0_setFrame_0 : decode cX0_setFrame 0 = .ok (.aload_n 0, 1) := by decide +kernel
theorem dX0_setFrame_1 : decode cX0_setFrame 1 = .ok (.getfield 19, 3) := by decide +kernel
theorem dX0_setFrame_4 : decode cX0_setFrame 4 = .ok (.iconst 1, 1) := by decide +kernel
theorem dX0_setFrame_5 : decode cX0_setFrame 5 = .ok (.iload_n 1, 1) := by decide +kernel
theorem dX0_setFrame_6 : decode cX0_setFrame 6 = .ok (.iastore, 1) := by decide +kernel
theorem dX0_setFrame_7 : decode cX0_setFrame 7 = .ok (.aload_n 0, 1) := by decide +kernel
theorem dX0_setFrame_8 : decode cX0_setFrame 8 = .ok (.getfield 19, 3) := by decide +kernel
theorem dX0_setFrame_11 : decode cX0_setFrame 11 = .ok (.iconst 2, 1) := by decide +kernel
theorem dX0_setFrame_12 : decode cX0_setFrame 12 = .ok (.iload_n 2, 1) := by decide +kernel
theorem dX0_setFrame_13 : decode cX0_setFrame 13 = .ok (.iastore, 1) := by decide +kernel
theorem dX0_setFrame_14 : decode cX0_setFrame 14 = .ok (.aload_n 0, 1) := by decide +kernel
theorem dX0_setFrame_15 : decode cX0_setFrame 15 = .ok (.getfield 19, 3) := by decide +kernel
theorem dX0_setFrame_18 : decode cX0_setFrame 18 = .ok (.iconst 3, 1) := by decide +kernel
theorem dX0_setFrame_19 : decode cX0_setFrame 19 = .ok (.iload_n 3, 1) := by decide +kernel
theorem dX0_setFrame_20 : decode cX0_setFrame 20 = .ok (.iastore, 1) := by decide +kernel
theorem dX0_setFrame_21 : decode cX0_setFrame 21 = .ok (.aload_n 0, 1) := by decide +kernel
theorem dX0_setFrame_22 : decode cX0_setFrame 22 = .ok (.getfield 19, 3) := by decide +kernel
theorem dX0_setFrame_25 : decode cX0_setFrame 25 = .ok (.iconst 4, 1) := by decide +kernel
theorem dX0_setFrame_26 : decode cX0_setFrame 26 = .ok (.iload 4, 2) := by decide +kernel
theorem dX0_setFrame_28 : decode cX0_setFrame 28 = .ok (.iastore, 1) := by decide +kernel
theorem dX0_setFrame_29 : decode cX0_setFrame 29 = .ok (.aload_n 0, 1) := by decide +kernel
theorem dX0_setFrame_30 : decode cX0_setFrame 30 = .ok (.getfield 19, 3) := by decide +kernel
theorem dX0_setFrame_33 : decode cX0_setFrame 33 = .ok (.iconst 5, 1) := by decide +kernel
theorem dX0_setFrame_34 : decode cX0_setFrame 34 = .ok (.iconst 0, 1) := by decide +kernel
theorem dX0_setFrame_35 : decode cX0_setFrame 35 = .ok (.iastore, 1) := by decide +kernel
theorem dX0_setFrame_36 : decode cX0_setFrame 36 = .ok (.aload_n 0, 1) := by decide +kernel
theorem dX0_setFrame_37 : decode cX0_setFrame 37 = .ok (.getfield 19, 3) := by decide +kernel
theorem dX0_setFrame_40 : decode cX0_setFrame 40 = .ok (.bipush 6, 2) := by decide +kernel
theorem dX0_setFrame_42 : decode cX0_setFrame 42 = .ok (.iconst 0, 1) := by decide +kernel
theorem dX0_setFrame_43 : decode cX0_setFrame 43 = .ok (.iastore, 1) := by decide +kernel
theorem dX0_setFrame_44 : decode cX0_setFrame 44 = .ok (.return_, 1) := by decide +kernel
theorem dX0_setPlayer_0 : decode cX0_setPlayer 0 = .ok (.aload_n 0, 1) := by decide +kernel
theorem dX0_setPlayer_1 : decode cX0_setPlayer 1 = .ok (.iconst 0, 1) := by decide +kernel
theorem dX0_setPlayer_2 : decode cX0_setPlayer 2 = .ok (.iconst 0, 1) := by decide +kernel
theorem dX0_setPlayer_3 : decode cX0_setPlayer 3 = .ok (.iconst 0, 1) := by decide +kernel
theorem dX0_setPlayer_4 : decode cX0_setPlayer 4 = .ok (.iconst 0, 1) := by decide +kernel
theorem dX0_setPlayer_5 : decode cX0_setPlayer 5 = .ok (.invokevirtual 28, 3) := by decide +kernel
theorem dX0_setPlayer_8 : decode cX0_setPlayer 8 = .ok (.aload_n 0, 1) := by decide +kernel
theorem dX0_setPlayer_9 : decode cX0_setPlayer 9 = .ok (.getfield 19, 3) := by decide +kernel
theorem dX0_setPlayer_12 : decode cX0_setPlayer 12 = .ok (.iconst 5, 1) := by decide +kernel
theorem dX0_setPlayer_13 : decode cX0_setPlayer 13 = .ok (.iload_n 1, 1) := by decide +kernel
theorem dX0_setPlayer_14 : decode cX0_setPlayer 14 = .ok (.iastore, 1) := by decide +kernel
theorem dX0_setPlayer_15 : decode cX0_setPlayer 15 = .ok (.aload_n 0, 1) := by decide +kernel
theorem dX0_setPlayer_16 : decode cX0_setPlayer 16 = .ok (.getfield 19, 3) := by decide +kernel
theorem dX0_setPlayer_19 : decode cX0_setPlayer 19 = .ok (.bipush 6, 2) := by decide +kernel
theorem dX0_setPlayer_21 : decode cX0_setPlayer 21 = .ok (.iload_n 2, 1) := by decide +kernel
theorem dX0_setPlayer_22 : decode cX0_setPlayer 22 = .ok (.iastore, 1) := by decide +kernel
theorem dX0_setPlayer_23 : decode cX0_setPlayer 23 = .ok (.return_, 1) := by decide +kernel
theorem dX0_reckon_0 : decode cX0_reckon 0 = .ok (.aload_n 0, 1) := by decide +kernel
theorem dX0_reckon_1 : decode cX0_reckon 1 = .ok (.iconst 0, 1) := by decide +kernel
theorem dX0_reckon_2 : decode cX0_reckon 2 = .ok (.putfield 25, 3) := by decide +kernel
theorem dX0_reckon_5 : decode cX0_reckon 5 = .ok (.iload_n 1, 1) := by decide +kernel
theorem dX0_reckon_6 : decode cX0_reckon 6 = .ok (.iconst 0, 1) := by decide +kernel
theorem dX0_reckon_7 : decode cX0_reckon 7 = .ok (.invokestatic 32, 3) := by decide +kernel
theorem dX0_reckon_10 : decode cX0_reckon 10 = .ok (.istore_n 3, 1) := by decide +kernel
theorem dX0_reckon_11 : decode cX0_reckon 11 = .ok (.iload_n 3, 1) := by decide +kernel
theorem dX0_reckon_12 : decode cX0_reckon 12 = .ok (.iload_n 2, 1) := by decide +kernel
theorem dX0_reckon_13 : decode cX0_reckon 13 = .ok (.if_icmp .ge 27, 3) := by decide +kernel
theorem dX0_reckon_16 : decode cX0_reckon 16 = .ok (.iload_n 3, 1) := by decide +kernel
theorem dX0_reckon_17 : decode cX0_reckon 17 = .ok (.aload_n 0, 1) := by decide +kernel
theorem dX0_reckon_18 : decode cX0_reckon 18 = .ok (.getfield 15, 3) := by decide +kernel
theorem dX0_reckon_21 : decode cX0_reckon 21 = .ok (.if_icmp .ge 19, 3) := by decide +kernel
theorem dX0_reckon_24 : decode cX0_reckon 24 = .ok (.aload_n 0, 1) := by decide +kernel
theorem dX0_reckon_25 : decode cX0_reckon 25 = .ok (.aload_n 0, 1) := by decide +kernel
theorem dX0_reckon_26 : decode cX0_reckon 26 = .ok (.getfield 9, 3) := by decide +kernel
theorem dX0_reckon_29 : decode cX0_reckon 29 = .ok (.iload_n 3, 1) := by decide +kernel
theorem dX0_reckon_30 : decode cX0_reckon 30 = .ok (.iaload, 1) := by decide +kernel
theorem dX0_reckon_31 : decode cX0_reckon 31 = .ok (.invokevirtual 38, 3) := by decide +kernel
theorem dX0_reckon_34 : decode cX0_reckon 34 = .ok (.iinc 3 1, 3) := by decide +kernel
theorem dX0_reckon_37 : decode cX0_reckon 37 = .ok (.goto (-26), 3) := by decide +kernel
theorem dX0_reckon_40 : decode cX0_reckon 40 = .ok (.aload_n 0, 1) := by decide +kernel
theorem dX0_reckon_41 : decode cX0_reckon 41 = .ok (.invokevirtual 42, 3) := by decide +kernel
theorem dX0_reckon_44 : decode cX0_reckon 44 = .ok (.ireturn, 1) := by decide +kernel
theorem dX0_step_0 : decode cX0_step 0 = .ok (.iload_n 1, 1) := by decide +kernel
theorem dX0_step_1 : decode cX0_step 1 = .ok (.ifCond .lt 11, 3) := by decide +kernel
theorem dX0_step_4 : decode cX0_step 4 = .ok (.aload_n 0, 1) := by decide +kernel
theorem dX0_step_5 : decode cX0_step 5 = .ok (.iload_n 1, 1) := by decide +kernel
theorem dX0_step_6 : decode cX0_step 6 = .ok (.invokevirtual 46, 3) := by decide +kernel
theorem dX0_step_9 : decode cX0_step 9 = .ok (.goto 62, 3) := by decide +kernel
theorem dX0_step_12 : decode cX0_step 12 = .ok (.iload_n 1, 1) := by decide +kernel
theorem dX0_step_13 : decode cX0_step 13 = .ok (.bipush (-6), 2) := by decide +kernel
theorem dX0_step_15 : decode cX0_step 15 = .ok (.if_icmp .lt 17, 3) := by decide +kernel
theorem dX0_step_18 : decode cX0_step 18 = .ok (.aload_n 0, 1) := by decide +kernel
theorem dX0_step_19 : decode cX0_step 19 = .ok (.aload_n 0, 1) := by decide +kernel
theorem dX0_step_20 : decode cX0_step 20 = .ok (.getfield 19, 3) := by decide +kernel
theorem dX0_step_23 : decode cX0_step 23 = .ok (.iload_n 1, 1) := by decide +kernel
theorem dX0_step_24 : decode cX0_step 24 = .ok (.ineg, 1) := by decide +kernel
theorem dX0_step_25 : decode cX0_step 25 = .ok (.iaload, 1) := by decide +kernel
theorem dX0_step_26 : decode cX0_step 26 = .ok (.invokevirtual 46, 3) := by decide +kernel
theorem dX0_step_29 : decode cX0_step 29 = .ok (.goto 42, 3) := by decide +kernel
theorem dX0_step_32 : decode cX0_step 32 = .ok (.iload_n 1, 1) := by decide +kernel
theorem dX0_step_33 : decode cX0_step 33 = .ok (.bipush (-22), 2) := by decide +kernel
theorem dX0_step_35 : decode cX0_step 35 = .ok (.if_icmp .ne 16, 3) := by decide +kernel
theorem dX0_step_38 : decode cX0_step 38 = .ok (.aload_n 0, 1) := by decide +kernel
theorem dX0_step_39 : decode cX0_step 39 = .ok (.iconst 1, 1) := by decide +kernel
theorem dX0_step_40 : decode cX0_step 40 = .ok (.aload_n 0, 1) := by decide +kernel
theorem dX0_step_41 : decode cX0_step 41 = .ok (.invokevirtual 42, 3) := by decide +kernel
theorem dX0_step_44 : decode cX0_step 44 = .ok (.isub, 1) := by decide +kernel
theorem dX0_step_45 : decode cX0_step 45 = .ok (.invokevirtual 46, 3) := by decide +kernel
theorem dX0_step_48 : decode cX0_step 48 = .ok (.goto 23, 3) := by decide +kernel
theorem dX0_step_51 : decode cX0_step 51 = .ok (.aload_n 0, 1) := by decide +kernel
theorem dX0_step_52 : decode cX0_step 52 = .ok (.invokevirtual 42, 3) := by decide +kernel
theorem dX0_step_55 : decode cX0_step 55 = .ok (.istore_n 2, 1) := by decide +kernel
theorem dX0_step_56 : decode cX0_step 56 = .ok (.aload_n 0, 1) := by decide +kernel
theorem dX0_step_57 : decode cX0_step 57 = .ok (.invokevirtual 42, 3) := by decide +kernel
theorem dX0_step_60 : decode cX0_step 60 = .ok (.istore_n 3, 1) := by decide +kernel
theorem dX0_step_61 : decode cX0_step 61 = .ok (.aload_n 0, 1) := by decide +kernel
theorem dX0_step_62 : decode cX0_step 62 = .ok (.iload_n 1, 1) := by decide +kernel
theorem dX0_step_63 : decode cX0_step 63 = .ok (.iload_n 3, 1) := by decide +kernel
theorem dX0_step_64 : decode cX0_step 64 = .ok (.iload_n 2, 1) := by decide +kernel
theorem dX0_step_65 : decode cX0_step 65 = .ok (.invokestatic 49, 3) := by decide +kernel
theorem dX0_step_68 : decode cX0_step 68 = .ok (.invokevirtual 46, 3) := by decide +kernel
theorem dX0_step_71 : decode cX0_step 71 = .ok (.return_, 1) := by decide +kernel
theorem dX0_join_0 : decode cX0_join 0 = .ok (.iload_n 0, 1) := by decide +kernel
theorem dX0_join_1 : decode cX0_join 1 = .ok (.tableswitch 159 (-20) (-11) #[155, 144, 133, 122, 116, 110, 96, 77, 66, 55], 55) := by decide +kernel
theorem dX0_join_56 : decode cX0_join 56 = .ok (.ldc 53, 2) := by decide +kernel
theorem dX0_join_58 : decode cX0_join 58 = .ok (.iload_n 1, 1) := by decide +kernel
theorem dX0_join_59 : decode cX0_join 59 = .ok (.iload_n 2, 1) := by decide +kernel
theorem dX0_join_60 : decode cX0_join 60 = .ok (.iadd, 1) := by decide +kernel
theorem dX0_join_61 : decode cX0_join 61 = .ok (.ldc 54, 2) := by decide +kernel
theorem dX0_join_63 : decode cX0_join 63 = .ok (.invokestatic 55, 3) := by decide +kernel
theorem dX0_join_66 : decode cX0_join 66 = .ok (.ireturn, 1) := by decide +kernel
theorem dX0_join_67 : decode cX0_join 67 = .ok (.ldc 53, 2) := by decide +kernel
theorem dX0_join_69 : decode cX0_join 69 = .ok (.iload_n 1, 1) := by decide +kernel
theorem dX0_join_70 : decode cX0_join 70 = .ok (.iload_n 2, 1) := by decide +kernel
theorem dX0_join_71 : decode cX0_join 71 = .ok (.isub, 1) := by decide +kernel
theorem dX0_join_72 : decode cX0_join 72 = .ok (.ldc 54, 2) := by decide +kernel
theorem dX0_join_74 : decode cX0_join 74 = .ok (.invokestatic 55, 3) := by decide +kernel
theorem dX0_join_77 : decode cX0_join 77 = .ok (.ireturn, 1) := by decide +kernel
theorem dX0_join_78 : decode cX0_join 78 = .ok (.ldc2_w 58, 3) := by decide +kernel
theorem dX0_join_81 : decode cX0_join 81 = .ok (.ldc2_w 60, 3) := by decide +kernel
theorem dX0_join_84 : decode cX0_join 84 = .ok (.iload_n 1, 1) := by decide +kernel
theorem dX0_join_85 : decode cX0_join 85 = .ok (.i2l, 1) := by decide +kernel
theorem dX0_join_86 : decode cX0_join 86 = .ok (.iload_n 2, 1) := by decide +kernel
theorem dX0_join_87 : decode cX0_join 87 = .ok (.i2l, 1) := by decide +kernel
theorem dX0_join_88 : decode cX0_join 88 = .ok (.lmul, 1) := by decide +kernel
theorem dX0_join_89 : decode cX0_join 89 = .ok (.invokestatic 62, 3) := by decide +kernel
theorem dX0_join_92 : decode cX0_join 92 = .ok (.invokestatic 66, 3) := by decide +kernel
theorem dX0_join_95 : decode cX0_join 95 = .ok (.l2i, 1) := by decide +kernel
theorem dX0_join_96 : decode cX0_join 96 = .ok (.ireturn, 1) := by decide +kernel
theorem dX0_join_97 : decode cX0_join 97 = .ok (.iload_n 2, 1) := by decide +kernel
theorem dX0_join_98 : decode cX0_join 98 = .ok (.ifCond .ne 7, 3) := by decide +kernel
theorem dX0_join_101 : decode cX0_join 101 = .ok (.iconst 0, 1) := by decide +kernel
theorem dX0_join_102 : decode cX0_join 102 = .ok (.goto 8, 3) := by decide +kernel
theorem dX0_join_105 : decode cX0_join 105 = .ok (.iload_n 1, 1) := by decide +kernel
theorem dX0_join_106 : decode cX0_join 106 = .ok (.iload_n 2, 1) := by decide +kernel
theorem dX0_join_107 : decode cX0_join 107 = .ok (.invokestatic 68, 3) := by decide +kernel
theorem dX0_join_110 : decode cX0_join 110 = .ok (.ireturn, 1) := by decide +kernel
theorem dX0_join_111 : decode cX0_join 111 = .ok (.iload_n 1, 1) := by decide +kernel
theorem dX0_join_112 : decode cX0_join 112 = .ok (.iload_n 2, 1) := by decide +kernel
theorem dX0_join_113 : decode cX0_join 113 = .ok (.invokestatic 71, 3) := by decide +kernel
theorem dX0_join_116 : decode cX0_join 116 = .ok (.ireturn, 1) := by decide +kernel
theorem dX0_join_117 : decode cX0_join 117 = .ok (.iload_n 1, 1) := by decide +kernel
theorem dX0_join_118 : decode cX0_join 118 = .ok (.iload_n 2, 1) := by decide +kernel
theorem dX0_join_119 : decode cX0_join 119 = .ok (.invokestatic 32, 3) := by decide +kernel
theorem dX0_join_122 : decode cX0_join 122 = .ok (.ireturn, 1) := by decide +kernel
theorem dX0_join_123 : decode cX0_join 123 = .ok (.iload_n 1, 1) := by decide +kernel
theorem dX0_join_124 : decode cX0_join 124 = .ok (.iload_n 2, 1) := by decide +kernel
theorem dX0_join_125 : decode cX0_join 125 = .ok (.if_icmp .ge 7, 3) := by decide +kernel
theorem dX0_join_128 : decode cX0_join 128 = .ok (.iconst 1, 1) := by decide +kernel
theorem dX0_join_129 : decode cX0_join 129 = .ok (.goto 4, 3) := by decide +kernel
theorem dX0_join_132 : decode cX0_join 132 = .ok (.iconst 0, 1) := by decide +kernel
theorem dX0_join_133 : decode cX0_join 133 = .ok (.ireturn, 1) := by decide +kernel
theorem dX0_join_134 : decode cX0_join 134 = .ok (.iload_n 1, 1) := by decide +kernel
theorem dX0_join_135 : decode cX0_join 135 = .ok (.iload_n 2, 1) := by decide +kernel
theorem dX0_join_136 : decode cX0_join 136 = .ok (.if_icmp .le 7, 3) := by decide +kernel
theorem dX0_join_139 : decode cX0_join 139 = .ok (.iconst 1, 1) := by decide +kernel
theorem dX0_join_140 : decode cX0_join 140 = .ok (.goto 4, 3) := by decide +kernel
theorem dX0_join_143 : decode cX0_join 143 = .ok (.iconst 0, 1) := by decide +kernel
theorem dX0_join_144 : decode cX0_join 144 = .ok (.ireturn, 1) := by decide +kernel
theorem dX0_join_145 : decode cX0_join 145 = .ok (.iload_n 1, 1) := by decide +kernel
theorem dX0_join_146 : decode cX0_join 146 = .ok (.iload_n 2, 1) := by decide +kernel
theorem dX0_join_147 : decode cX0_join 147 = .ok (.if_icmp .ne 7, 3) := by decide +kernel
theorem dX0_join_150 : decode cX0_join 150 = .ok (.iconst 1, 1) := by decide +kernel
theorem dX0_join_151 : decode cX0_join 151 = .ok (.goto 4, 3) := by decide +kernel
theorem dX0_join_154 : decode cX0_join 154 = .ok (.iconst 0, 1) := by decide +kernel
theorem dX0_join_155 : decode cX0_join 155 = .ok (.ireturn, 1) := by decide +kernel
theorem dX0_join_156 : decode cX0_join 156 = .ok (.iload_n 1, 1) := by decide +kernel
theorem dX0_join_157 : decode cX0_join 157 = .ok (.iload_n 2, 1) := by decide +kernel
theorem dX0_join_158 : decode cX0_join 158 = .ok (.iand, 1) := by decide +kernel
theorem dX0_join_159 : decode cX0_join 159 = .ok (.ireturn, 1) := by decide +kernel
theorem dX0_join_160 : decode cX0_join 160 = .ok (.iload_n 1, 1) := by decide +kernel
theorem dX0_join_161 : decode cX0_join 161 = .ok (.iload_n 2, 1) := by decide +kernel
theorem dX0_join_162 : decode cX0_join 162 = .ok (.ior, 1) := by decide +kernel
theorem dX0_join_163 : decode cX0_join 163 = .ok (.ireturn, 1) := by decide +kernel
theorem dX0_push_0 : decode cX0_push 0 = .ok (.aload_n 0, 1) := by decide +kernel
theorem dX0_push_1 : decode cX0_push 1 = .ok (.getfield 25, 3) := by decide +kernel
theorem dX0_push_4 : decode cX0_push 4 = .ok (.aload_n 0, 1) := by decide +kernel
theorem dX0_push_5 : decode cX0_push 5 = .ok (.getfield 22, 3) := by decide +kernel
theorem dX0_push_8 : decode cX0_push 8 = .ok (.arraylength, 1) := by decide +kernel
theorem dX0_push_9 : decode cX0_push 9 = .ok (.if_icmp .ge 23, 3) := by decide +kernel
theorem dX0_push_12 : decode cX0_push 12 = .ok (.aload_n 0, 1) := by decide +kernel
theorem dX0_push_13 : decode cX0_push 13 = .ok (.getfield 22, 3) := by decide +kernel
theorem dX0_push_16 : decode cX0_push 16 = .ok (.aload_n 0, 1) := by decide +kernel
theorem dX0_push_17 : decode cX0_push 17 = .ok (.getfield 25, 3) := by decide +kernel
theorem dX0_push_20 : decode cX0_push 20 = .ok (.iload_n 1, 1) := by decide +kernel
theorem dX0_push_21 : decode cX0_push 21 = .ok (.iastore, 1) := by decide +kernel
theorem dX0_push_22 : decode cX0_push 22 = .ok (.aload_n 0, 1) := by decide +kernel
theorem dX0_push_23 : decode cX0_push 23 = .ok (.dup, 1) := by decide +kernel
theorem dX0_push_24 : decode cX0_push 24 = .ok (.getfield 25, 3) := by decide +kernel
theorem dX0_push_27 : decode cX0_push 27 = .ok (.iconst 1, 1) := by decide +kernel
theorem dX0_push_28 : decode cX0_push 28 = .ok (.iadd, 1) := by decide +kernel
theorem dX0_push_29 : decode cX0_push 29 = .ok (.putfield 25, 3) := by decide +kernel
theorem dX0_push_32 : decode cX0_push 32 = .ok (.return_, 1) := by decide +kernel
theorem dX0_pop_0 : decode cX0_pop 0 = .ok (.aload_n 0, 1) := by decide +kernel
theorem dX0_pop_1 : decode cX0_pop 1 = .ok (.getfield 25, 3) := by decide +kernel
theorem dX0_pop_4 : decode cX0_pop 4 = .ok (.ifCond .le 15, 3) := by decide +kernel
theorem dX0_pop_7 : decode cX0_pop 7 = .ok (.aload_n 0, 1) := by decide +kernel
theorem dX0_pop_8 : decode cX0_pop 8 = .ok (.getfield 25, 3) := by decide +kernel
theorem dX0_pop_11 : decode cX0_pop 11 = .ok (.aload_n 0, 1) := by decide +kernel
theorem dX0_pop_12 : decode cX0_pop 12 = .ok (.getfield 22, 3) := by decide +kernel
theorem dX0_pop_15 : decode cX0_pop 15 = .ok (.arraylength, 1) := by decide +kernel
theorem dX0_pop_16 : decode cX0_pop 16 = .ok (.if_icmp .le 5, 3) := by decide +kernel
theorem dX0_pop_19 : decode cX0_pop 19 = .ok (.iconst 0, 1) := by decide +kernel
theorem dX0_pop_20 : decode cX0_pop 20 = .ok (.ireturn, 1) := by decide +kernel
theorem dX0_pop_21 : decode cX0_pop 21 = .ok (.aload_n 0, 1) := by decide +kernel
theorem dX0_pop_22 : decode cX0_pop 22 = .ok (.dup, 1) := by decide +kernel
theorem dX0_pop_23 : decode cX0_pop 23 = .ok (.getfield 25, 3) := by decide +kernel
theorem dX0_pop_26 : decode cX0_pop 26 = .ok (.iconst 1, 1) := by decide +kernel
theorem dX0_pop_27 : decode cX0_pop 27 = .ok (.isub, 1) := by decide +kernel
theorem dX0_pop_28 : decode cX0_pop 28 = .ok (.putfield 25, 3) := by decide +kernel
theorem dX0_pop_31 : decode cX0_pop 31 = .ok (.aload_n 0, 1) := by decide +kernel
theorem dX0_pop_32 : decode cX0_pop 32 = .ok (.getfield 22, 3) := by decide +kernel
theorem dX0_pop_35 : decode cX0_pop 35 = .ok (.aload_n 0, 1) := by decide +kernel
theorem dX0_pop_36 : decode cX0_pop 36 = .ok (.getfield 25, 3) := by decide +kernel
theorem dX0_pop_39 : decode cX0_pop 39 = .ok (.iaload, 1) := by decide +kernel
theorem dX0_pop_40 : decode cX0_pop 40 = .ok (.ireturn, 1) := by decide +kernel
theorem dX1_init_0 : decode cX1_init 0 = .ok (.aload_n 0, 1) := by decide +kernel
theorem dX1_init_1 : decode cX1_init 1 = .ok (.invokespecial 3, 3) := by decide +kernel
theorem dX1_init_4 : decode cX1_init 4 = .ok (.aload_n 0, 1) := by decide +kernel
theorem dX1_init_5 : decode cX1_init 5 = .ok (.new 9, 3) := by decide +kernel
theorem dX1_init_8 : decode cX1_init 8 = .ok (.dup, 1) := by decide +kernel
theorem dX1_init_9 : decode cX1_init 9 = .ok (.invokespecial 11, 3) := by decide +kernel
theorem dX1_init_12 : decode cX1_init 12 = .ok (.putfield 12, 3) := by decide +kernel
theorem dX1_init_15 : decode cX1_init 15 = .ok (.aload_n 0, 1) := by decide +kernel
theorem dX1_init_16 : decode cX1_init 16 = .ok (.iconst 4, 1) := by decide +kernel
theorem dX1_init_17 : decode cX1_init 17 = .ok (.newarray .int, 2) := by decide +kernel
theorem dX1_init_19 : decode cX1_init 19 = .ok (.putfield 18, 3) := by decide +kernel
theorem dX1_init_22 : decode cX1_init 22 = .ok (.aload_n 0, 1) := by decide +kernel
theorem dX1_init_23 : decode cX1_init 23 = .ok (.bipush 9, 2) := by decide +kernel
theorem dX1_init_25 : decode cX1_init 25 = .ok (.newarray .int, 2) := by decide +kernel
theorem dX1_init_27 : decode cX1_init 27 = .ok (.putfield 22, 3) := by decide +kernel
theorem dX1_init_30 : decode cX1_init 30 = .ok (.aload_n 0, 1) := by decide +kernel
theorem dX1_init_31 : decode cX1_init 31 = .ok (.bipush 30, 2) := by decide +kernel
theorem dX1_init_33 : decode cX1_init 33 = .ok (.newarray .int, 2) := by decide +kernel
theorem dX1_init_35 : decode cX1_init 35 = .ok (.putfield 25, 3) := by decide +kernel
theorem dX1_init_38 : decode cX1_init 38 = .ok (.aload_n 0, 1) := by decide +kernel
theorem dX1_init_39 : decode cX1_init 39 = .ok (.bipush 30, 2) := by decide +kernel
theorem dX1_init_41 : decode cX1_init 41 = .ok (.newarray .int, 2) := by decide +kernel
theorem dX1_init_43 : decode cX1_init 43 = .ok (.putfield 28, 3) := by decide +kernel
theorem dX1_init_46 : decode cX1_init 46 = .ok (.aload_n 0, 1) := by decide +kernel
theorem dX1_init_47 : decode cX1_init 47 = .ok (.bipush 30, 2) := by decide +kernel
theorem dX1_init_49 : decode cX1_init 49 = .ok (.newarray .int, 2) := by decide +kernel
theorem dX1_init_51 : decode cX1_init 51 = .ok (.putfield 31, 3) := by decide +kernel
theorem dX1_init_54 : decode cX1_init 54 = .ok (.aload_n 0, 1) := by decide +kernel
theorem dX1_init_55 : decode cX1_init 55 = .ok (.sipush 1280, 3) := by decide +kernel
theorem dX1_init_58 : decode cX1_init 58 = .ok (.newarray .int, 2) := by decide +kernel
theorem dX1_init_60 : decode cX1_init 60 = .ok (.putfield 34, 3) := by decide +kernel
theorem dX1_init_63 : decode cX1_init 63 = .ok (.aload_n 0, 1) := by decide +kernel
theorem dX1_init_64 : decode cX1_init 64 = .ok (.invokevirtual 37, 3) := by decide +kernel
theorem dX1_init_67 : decode cX1_init 67 = .ok (.return_, 1) := by decide +kernel
theorem dX1_empty_0 : decode cX1_empty 0 = .ok (.aload_n 0, 1) := by decide +kernel
theorem dX1_empty_1 : decode cX1_empty 1 = .ok (.iconst 0, 1) := by decide +kernel
theorem dX1_empty_2 : decode cX1_empty 2 = .ok (.putfield 40, 3) := by decide +kernel
theorem dX1_empty_5 : decode cX1_empty 5 = .ok (.aload_n 0, 1) := by decide +kernel
theorem dX1_empty_6 : decode cX1_empty 6 = .ok (.bipush 9, 2) := by decide +kernel
theorem dX1_empty_8 : decode cX1_empty 8 = .ok (.putfield 44, 3) := by decide +kernel
theorem dX1_empty_11 : decode cX1_empty 11 = .ok (.aload_n 0, 1) := by decide +kernel
theorem dX1_empty_12 : decode cX1_empty 12 = .ok (.bipush 6, 2) := by decide +kernel
theorem dX1_empty_14 : decode cX1_empty 14 = .ok (.putfield 47, 3) := by decide +kernel
theorem dX1_empty_17 : decode cX1_empty 17 = .ok (.aload_n 0, 1) := by decide +kernel
theorem dX1_empty_18 : decode cX1_empty 18 = .ok (.iconst 2, 1) := by decide +kernel
theorem dX1_empty_19 : decode cX1_empty 19 = .ok (.putfield 50, 3) := by decide +kernel
theorem dX1_empty_22 : decode cX1_empty 22 = .ok (.aload_n 0, 1) := by decide +kernel
theorem dX1_empty_23 : decode cX1_empty 23 = .ok (.iconst 0, 1) := by decide +kernel
theorem dX1_empty_24 : decode cX1_empty 24 = .ok (.putfield 53, 3) := by decide +kernel
theorem dX1_empty_27 : decode cX1_empty 27 = .ok (.aload_n 0, 1) := by decide +kernel
theorem dX1_empty_28 : decode cX1_empty 28 = .ok (.iconst 0, 1) := by decide +kernel
theorem dX1_empty_29 : decode cX1_empty 29 = .ok (.putfield 56, 3) := by decide +kernel
theorem dX1_empty_32 : decode cX1_empty 32 = .ok (.aload_n 0, 1) := by decide +kernel
theorem dX1_empty_33 : decode cX1_empty 33 = .ok (.getfield 12, 3) := by decide +kernel
theorem dX1_empty_36 : decode cX1_empty 36 = .ok (.invokevirtual 59, 3) := by decide +kernel
theorem dX1_empty_39 : decode cX1_empty 39 = .ok (.aload_n 0, 1) := by decide +kernel
theorem dX1_empty_40 : decode cX1_empty 40 = .ok (.iconst 0, 1) := by decide +kernel
theorem dX1_empty_41 : decode cX1_empty 41 = .ok (.putfield 60, 3) := by decide +kernel
theorem dX1_empty_44 : decode cX1_empty 44 = .ok (.aload_n 0, 1) := by decide +kernel
theorem dX1_empty_45 : decode cX1_empty 45 = .ok (.iconst 0, 1) := by decide +kernel
theorem dX1_empty_46 : decode cX1_empty 46 = .ok (.putfield 63, 3) := by decide +kernel
theorem dX1_empty_49 : decode cX1_empty 49 = .ok (.iconst 0, 1) := by decide +kernel
theorem dX1_empty_50 : decode cX1_empty 50 = .ok (.istore_n 1, 1) := by decide +kernel
theorem dX1_empty_51 : decode cX1_empty 51 = .ok (.iload_n 1, 1) := by decide +kernel
theorem dX1_empty_52 : decode cX1_empty 52 = .ok (.aload_n 0, 1) := by decide +kernel
theorem dX1_empty_53 : decode cX1_empty 53 = .ok (.getfield 18, 3) := by decide +kernel
theorem dX1_empty_56 : decode cX1_empty 56 = .ok (.arraylength, 1) := by decide +kernel
theorem dX1_empty_57 : decode cX1_empty 57 = .ok (.if_icmp .ge 16, 3) := by decide +kernel
theorem dX1_empty_60 : decode cX1_empty 60 = .ok (.aload_n 0, 1) := by decide +kernel
theorem dX1_empty_61 : decode cX1_empty 61 = .ok (.getfield 18, 3) := by decide +kernel
theorem dX1_empty_64 : decode cX1_empty 64 = .ok (.iload_n 1, 1) := by decide +kernel
theorem dX1_empty_65 : decode cX1_empty 65 = .ok (.iconst 0, 1) := by decide +kernel
theorem dX1_empty_66 : decode cX1_empty 66 = .ok (.iastore, 1) := by decide +kernel
theorem dX1_empty_67 : decode cX1_empty 67 = .ok (.iinc 1 1, 3) := by decide +kernel
theorem dX1_empty_70 : decode cX1_empty 70 = .ok (.goto (-19), 3) := by decide +kernel
theorem dX1_empty_73 : decode cX1_empty 73 = .ok (.iconst 0, 1) := by decide +kernel
theorem dX1_empty_74 : decode cX1_empty 74 = .ok (.istore_n 1, 1) := by decide +kernel
theorem dX1_empty_75 : decode cX1_empty 75 = .ok (.iload_n 1, 1) := by decide +kernel
theorem dX1_empty_76 : decode cX1_empty 76 = .ok (.aload_n 0, 1) := by decide +kernel
theorem dX1_empty_77 : decode cX1_empty 77 = .ok (.getfield 22, 3) := by decide +kernel
theorem dX1_empty_80 : decode cX1_empty 80 = .ok (.arraylength, 1) := by decide +kernel
theorem dX1_empty_81 : decode cX1_empty 81 = .ok (.if_icmp .ge 16, 3) := by decide +kernel
theorem dX1_empty_84 : decode cX1_empty 84 = .ok (.aload_n 0, 1) := by decide +kernel
theorem dX1_empty_85 : decode cX1_empty 85 = .ok (.getfield 22, 3) := by decide +kernel
theorem dX1_empty_88 : decode cX1_empty 88 = .ok (.iload_n 1, 1) := by decide +kernel
theorem dX1_empty_89 : decode cX1_empty 89 = .ok (.iconst 0, 1) := by decide +kernel
theorem dX1_empty_90 : decode cX1_empty 90 = .ok (.iastore, 1) := by decide +kernel
theorem dX1_empty_91 : decode cX1_empty 91 = .ok (.iinc 1 1, 3) := by decide +kernel
theorem dX1_empty_94 : decode cX1_empty 94 = .ok (.goto (-19), 3) := by decide +kernel
theorem dX1_empty_97 : decode cX1_empty 97 = .ok (.return_, 1) := by decide +kernel
theorem dX1_setEarned_0 : decode cX1_setEarned 0 = .ok (.iload_n 1, 1) := by decide +kernel
theorem dX1_setEarned_1 : decode cX1_setEarned 1 = .ok (.ifCond .lt 19, 3) := by decide +kernel
theorem dX1_setEarned_4 : decode cX1_setEarned 4 = .ok (.iload_n 1, 1) := by decide +kernel
theorem dX1_setEarned_5 : decode cX1_setEarned 5 = .ok (.aload_n 0, 1) := by decide +kernel
theorem dX1_setEarned_6 : decode cX1_setEarned 6 = .ok (.getfield 18, 3) := by decide +kernel
theorem dX1_setEarned_9 : decode cX1_setEarned 9 = .ok (.arraylength, 1) := by decide +kernel
theorem dX1_setEarned_10 : decode cX1_setEarned 10 = .ok (.if_icmp .ge 10, 3) := by decide +kernel
theorem dX1_setEarned_13 : decode cX1_setEarned 13 = .ok (.aload_n 0, 1) := by decide +kernel
theorem dX1_setEarned_14 : decode cX1_setEarned 14 = .ok (.getfield 18, 3) := by decide +kernel
theorem dX1_setEarned_17 : decode cX1_setEarned 17 = .ok (.iload_n 1, 1) := by decide +kernel
theorem dX1_setEarned_18 : decode cX1_setEarned 18 = .ok (.iload_n 2, 1) := by decide +kernel
theorem dX1_setEarned_19 : decode cX1_setEarned 19 = .ok (.iastore, 1) := by decide +kernel
theorem dX1_setEarned_20 : decode cX1_setEarned 20 = .ok (.return_, 1) := by decide +kernel
theorem dX1_joinPins_0 : decode cX1_joinPins 0 = .ok (.iload_n 1, 1) := by decide +kernel
theorem dX1_joinPins_1 : decode cX1_joinPins 1 = .ok (.invokestatic 66, 3) := by decide +kernel
theorem dX1_joinPins_4 : decode cX1_joinPins 4 = .ok (.ifCond .eq 34, 3) := by decide +kernel
theorem dX1_joinPins_7 : decode cX1_joinPins 7 = .ok (.iload_n 2, 1) := by decide +kernel
theorem dX1_joinPins_8 : decode cX1_joinPins 8 = .ok (.invokestatic 66, 3) := by decide +kernel
theorem dX1_joinPins_11 : decode cX1_joinPins 11 = .ok (.ifCond .eq 27, 3) := by decide +kernel
theorem dX1_joinPins_14 : decode cX1_joinPins 14 = .ok (.aload_n 0, 1) := by decide +kernel
theorem dX1_joinPins_15 : decode cX1_joinPins 15 = .ok (.getfield 22, 3) := by decide +kernel
theorem dX1_joinPins_18 : decode cX1_joinPins 18 = .ok (.iload_n 1, 1) := by decide +kernel
theorem dX1_joinPins_19 : decode cX1_joinPins 19 = .ok (.dup2, 1) := by decide +kernel
theorem dX1_joinPins_20 : decode cX1_joinPins 20 = .ok (.iaload, 1) := by decide +kernel
theorem dX1_joinPins_21 : decode cX1_joinPins 21 = .ok (.iconst 1, 1) := by decide +kernel
theorem dX1_joinPins_22 : decode cX1_joinPins 22 = .ok (.iload_n 2, 1) := by decide +kernel
theorem dX1_joinPins_23 : decode cX1_joinPins 23 = .ok (.ishl, 1) := by decide +kernel
theorem dX1_joinPins_24 : decode cX1_joinPins 24 = .ok (.ior, 1) := by decide +kernel
theorem dX1_joinPins_25 : decode cX1_joinPins 25 = .ok (.iastore, 1) := by decide +kernel
theorem dX1_joinPins_26 : decode cX1_joinPins 26 = .ok (.aload_n 0, 1) := by decide +kernel
theorem dX1_joinPins_27 : decode cX1_joinPins 27 = .ok (.getfield 22, 3) := by decide +kernel
theorem dX1_joinPins_30 : decode cX1_joinPins 30 = .ok (.iload_n 2, 1) := by decide +kernel
theorem dX1_joinPins_31 : decode cX1_joinPins 31 = .ok (.dup2, 1) := by decide +kernel
theorem dX1_joinPins_32 : decode cX1_joinPins 32 = .ok (.iaload, 1) := by decide +kernel
theorem dX1_joinPins_33 : decode cX1_joinPins 33 = .ok (.iconst 1, 1) := by decide +kernel
theorem dX1_joinPins_34 : decode cX1_joinPins 34 = .ok (.iload_n 1, 1) := by decide +kernel
theorem dX1_joinPins_35 : decode cX1_joinPins 35 = .ok (.ishl, 1) := by decide +kernel
theorem dX1_joinPins_36 : decode cX1_joinPins 36 = .ok (.ior, 1) := by decide +kernel
theorem dX1_joinPins_37 : decode cX1_joinPins 37 = .ok (.iastore, 1) := by decide +kernel
theorem dX1_joinPins_38 : decode cX1_joinPins 38 = .ok (.return_, 1) := by decide +kernel
theorem dX1_addWorth_0 : decode cX1_addWorth 0 = .ok (.aload_n 0, 1) := by decide +kernel
theorem dX1_addWorth_1 : decode cX1_addWorth 1 = .ok (.getfield 56, 3) := by decide +kernel
theorem dX1_addWorth_4 : decode cX1_addWorth 4 = .ok (.bipush 30, 2) := by decide +kernel
theorem dX1_addWorth_6 : decode cX1_addWorth 6 = .ok (.if_icmp .ge 49, 3) := by decide +kernel
theorem dX1_addWorth_9 : decode cX1_addWorth 9 = .ok (.aload_n 0, 1) := by decide +kernel
theorem dX1_addWorth_10 : decode cX1_addWorth 10 = .ok (.getfield 25, 3) := by decide +kernel
theorem dX1_addWorth_13 : decode cX1_addWorth 13 = .ok (.aload_n 0, 1) := by decide +kernel
theorem dX1_addWorth_14 : decode cX1_addWorth 14 = .ok (.getfield 56, 3) := by decide +kernel
theorem dX1_addWorth_17 : decode cX1_addWorth 17 = .ok (.iload_n 1, 1) := by decide +kernel
theorem dX1_addWorth_18 : decode cX1_addWorth 18 = .ok (.iastore, 1) := by decide +kernel
theorem dX1_addWorth_19 : decode cX1_addWorth 19 = .ok (.aload_n 0, 1) := by decide +kernel
theorem dX1_addWorth_20 : decode cX1_addWorth 20 = .ok (.getfield 28, 3) := by decide +kernel
theorem dX1_addWorth_23 : decode cX1_addWorth 23 = .ok (.aload_n 0, 1) := by decide +kernel
theorem dX1_addWorth_24 : decode cX1_addWorth 24 = .ok (.getfield 56, 3) := by decide +kernel
theorem dX1_addWorth_27 : decode cX1_addWorth 27 = .ok (.iload_n 2, 1) := by decide +kernel
theorem dX1_addWorth_28 : decode cX1_addWorth 28 = .ok (.iastore, 1) := by decide +kernel
theorem dX1_addWorth_29 : decode cX1_addWorth 29 = .ok (.aload_n 0, 1) := by decide +kernel
theorem dX1_addWorth_30 : decode cX1_addWorth 30 = .ok (.getfield 31, 3) := by decide +kernel
theorem dX1_addWorth_33 : decode cX1_addWorth 33 = .ok (.aload_n 0, 1) := by decide +kernel
theorem dX1_addWorth_34 : decode cX1_addWorth 34 = .ok (.getfield 56, 3) := by decide +kernel
theorem dX1_addWorth_37 : decode cX1_addWorth 37 = .ok (.aload_n 0, 1) := by decide +kernel
theorem dX1_addWorth_38 : decode cX1_addWorth 38 = .ok (.getfield 12, 3) := by decide +kernel
theorem dX1_addWorth_41 : decode cX1_addWorth 41 = .ok (.invokevirtual 70, 3) := by decide +kernel
theorem dX1_addWorth_44 : decode cX1_addWorth 44 = .ok (.iastore, 1) := by decide +kernel
theorem dX1_addWorth_45 : decode cX1_addWorth 45 = .ok (.aload_n 0, 1) := by decide +kernel
theorem dX1_addWorth_46 : decode cX1_addWorth 46 = .ok (.dup, 1) := by decide +kernel
theorem dX1_addWorth_47 : decode cX1_addWorth 47 = .ok (.getfield 56, 3) := by decide +kernel
theorem dX1_addWorth_50 : decode cX1_addWorth 50 = .ok (.iconst 1, 1) := by decide +kernel
theorem dX1_addWorth_51 : decode cX1_addWorth 51 = .ok (.iadd, 1) := by decide +kernel
theorem dX1_addWorth_52 : decode cX1_addWorth 52 = .ok (.putfield 56, 3) := by decide +kernel
theorem dX1_addWorth_55 : decode cX1_addWorth 55 = .ok (.return_, 1) := by decide +kernel
theorem dX1_setHandicap_0 : decode cX1_setHandicap 0 = .ok (.aload_n 0, 1) := by decide +kernel
theorem dX1_setHandicap_1 : decode cX1_setHandicap 1 = .ok (.iload_n 1, 1) := by decide +kernel
theorem dX1_setHandicap_2 : decode cX1_setHandicap 2 = .ok (.putfield 60, 3) := by decide +kernel
theorem dX1_setHandicap_5 : decode cX1_setHandicap 5 = .ok (.aload_n 0, 1) := by decide +kernel
theorem dX1_setHandicap_6 : decode cX1_setHandicap 6 = .ok (.aload_n 0, 1) := by decide +kernel
theorem dX1_setHandicap_7 : decode cX1_setHandicap 7 = .ok (.getfield 12, 3) := by decide +kernel
theorem dX1_setHandicap_10 : decode cX1_setHandicap 10 = .ok (.invokevirtual 70, 3) := by decide +kernel
theorem dX1_setHandicap_13 : decode cX1_setHandicap 13 = .ok (.putfield 63, 3) := by decide +kernel
theorem dX1_setHandicap_16 : decode cX1_setHandicap 16 = .ok (.return_, 1) := by decide +kernel
theorem dX1_settle_0 : decode cX1_settle 0 = .ok (.iconst 0, 1) := by decide +kernel
theorem dX1_settle_1 : decode cX1_settle 1 = .ok (.istore_n 1, 1) := by decide +kernel
theorem dX1_settle_2 : decode cX1_settle 2 = .ok (.iload_n 1, 1) := by decide +kernel
theorem dX1_settle_3 : decode cX1_settle 3 = .ok (.aload_n 0, 1) := by decide +kernel
theorem dX1_settle_4 : decode cX1_settle 4 = .ok (.getfield 47, 3) := by decide +kernel
theorem dX1_settle_7 : decode cX1_settle 7 = .ok (.if_icmp .ge 48, 3) := by decide +kernel
theorem dX1_settle_10 : decode cX1_settle 10 = .ok (.iconst 0, 1) := by decide +kernel
theorem dX1_settle_11 : decode cX1_settle 11 = .ok (.istore_n 2, 1) := by decide +kernel
theorem dX1_settle_12 : decode cX1_settle 12 = .ok (.iload_n 2, 1) := by decide +kernel
theorem dX1_settle_13 : decode cX1_settle 13 = .ok (.aload_n 0, 1) := by decide +kernel
theorem dX1_settle_14 : decode cX1_settle 14 = .ok (.getfield 44, 3) := by decide +kernel
theorem dX1_settle_17 : decode cX1_settle 17 = .ok (.if_icmp .gt 32, 3) := by decide +kernel
theorem dX1_settle_20 : decode cX1_settle 20 = .ok (.iconst 1, 1) := by decide +kernel
theorem dX1_settle_21 : decode cX1_settle 21 = .ok (.istore_n 3, 1) := by decide +kernel
theorem dX1_settle_22 : decode cX1_settle 22 = .ok (.iload_n 3, 1) := by decide +kernel
theorem dX1_settle_23 : decode cX1_settle 23 = .ok (.aload_n 0, 1) := by decide +kernel
theorem dX1_settle_24 : decode cX1_settle 24 = .ok (.getfield 50, 3) := by decide +kernel
theorem dX1_settle_27 : decode cX1_settle 27 = .ok (.if_icmp .gt 16, 3) := by decide +kernel
theorem dX1_settle_30 : decode cX1_settle 30 = .ok (.aload_n 0, 1) := by decide +kernel
theorem dX1_settle_31 : decode cX1_settle 31 = .ok (.iload_n 1, 1) := by decide +kernel
theorem dX1_settle_32 : decode cX1_settle 32 = .ok (.iload_n 2, 1) := by decide +kernel
theorem dX1_settle_33 : decode cX1_settle 33 = .ok (.iload_n 3, 1) := by decide +kernel
theorem dX1_settle_34 : decode cX1_settle 34 = .ok (.invokevirtual 74, 3) := by decide +kernel
theorem dX1_settle_37 : decode cX1_settle 37 = .ok (.iinc 3 1, 3) := by decide +kernel
theorem dX1_settle_40 : decode cX1_settle 40 = .ok (.goto (-18), 3) := by decide +kernel
theorem dX1_settle_43 : decode cX1_settle 43 = .ok (.iinc 2 1, 3) := by decide +kernel
theorem dX1_settle_46 : decode cX1_settle 46 = .ok (.goto (-34), 3) := by decide +kernel
theorem dX1_settle_49 : decode cX1_settle 49 = .ok (.iinc 1 1, 3) := by decide +kernel
theorem dX1_settle_52 : decode cX1_settle 52 = .ok (.goto (-50), 3) := by decide +kernel
theorem dX1_settle_55 : decode cX1_settle 55 = .ok (.return_, 1) := by decide +kernel
theorem dX1_settleFouls_0 : decode cX1_settleFouls 0 = .ok (.iconst 0, 1) := by decide +kernel
theorem dX1_settleFouls_1 : decode cX1_settleFouls 1 = .ok (.istore 4, 2) := by decide +kernel
theorem dX1_settleFouls_3 : decode cX1_settleFouls 3 = .ok (.iload 4, 2) := by decide +kernel
theorem dX1_settleFouls_5 : decode cX1_settleFouls 5 = .ok (.iload_n 3, 1) := by decide +kernel
theorem dX1_settleFouls_6 : decode cX1_settleFouls 6 = .ok (.if_icmp .gt 50, 3) := by decide +kernel
theorem dX1_settleFouls_9 : decode cX1_settleFouls 9 = .ok (.iload_n 1, 1) := by decide +kernel
theorem dX1_settleFouls_10 : decode cX1_settleFouls 10 = .ok (.iload_n 2, 1) := by decide +kernel
theorem dX1_settleFouls_11 : decode cX1_settleFouls 11 = .ok (.iload_n 3, 1) := by decide +kernel
theorem dX1_settleFouls_12 : decode cX1_settleFouls 12 = .ok (.iload 4, 2) := by decide +kernel
theorem dX1_settleFouls_14 : decode cX1_settleFouls 14 = .ok (.invokestatic 78, 3) := by decide +kernel
theorem dX1_settleFouls_17 : decode cX1_settleFouls 17 = .ok (.istore 5, 2) := by decide +kernel
theorem dX1_settleFouls_19 : decode cX1_settleFouls 19 = .ok (.iload 5, 2) := by decide +kernel
theorem dX1_settleFouls_21 : decode cX1_settleFouls 21 = .ok (.ifCond .lt 29, 3) := by decide +kernel
theorem dX1_settleFouls_24 : decode cX1_settleFouls 24 = .ok (.iload 5, 2) := by decide +kernel
theorem dX1_settleFouls_26 : decode cX1_settleFouls 26 = .ok (.aload_n 0, 1) := by decide +kernel
theorem dX1_settleFouls_27 : decode cX1_settleFouls 27 = .ok (.getfield 34, 3) := by decide +kernel
theorem dX1_settleFouls_30 : decode cX1_settleFouls 30 = .ok (.arraylength, 1) := by decide +kernel
theorem dX1_settleFouls_31 : decode cX1_settleFouls 31 = .ok (.if_icmp .ge 19, 3) := by decide +kernel
theorem dX1_settleFouls_34 : decode cX1_settleFouls 34 = .ok (.aload_n 0, 1) := by decide +kernel
theorem dX1_settleFouls_35 : decode cX1_settleFouls 35 = .ok (.getfield 34, 3) := by decide +kernel
theorem dX1_settleFouls_38 : decode cX1_settleFouls 38 = .ok (.iload 5, 2) := by decide +kernel
theorem dX1_settleFouls_40 : decode cX1_settleFouls 40 = .ok (.aload_n 0, 1) := by decide +kernel
theorem dX1_settleFouls_41 : decode cX1_settleFouls 41 = .ok (.iload_n 1, 1) := by decide +kernel
theorem dX1_settleFouls_42 : decode cX1_settleFouls 42 = .ok (.iload_n 2, 1) := by decide +kernel
theorem dX1_settleFouls_43 : decode cX1_settleFouls 43 = .ok (.iload_n 3, 1) := by decide +kernel
theorem dX1_settleFouls_44 : decode cX1_settleFouls 44 = .ok (.iload 4, 2) := by decide +kernel
theorem dX1_settleFouls_46 : decode cX1_settleFouls 46 = .ok (.invokevirtual 82, 3) := by decide +kernel
theorem dX1_settleFouls_49 : decode cX1_settleFouls 49 = .ok (.iastore, 1) := by decide +kernel
theorem dX1_settleFouls_50 : decode cX1_settleFouls 50 = .ok (.iinc 4 1, 3) := by decide +kernel
theorem dX1_settleFouls_53 : decode cX1_settleFouls 53 = .ok (.goto (-50), 3) := by decide +kernel
theorem dX1_settleFouls_56 : decode cX1_settleFouls 56 = .ok (.return_, 1) := by decide +kernel
theorem dX1_reckonWorth_0 : decode cX1_reckonWorth 0 = .ok (.aload_n 0, 1) := by decide +kernel
theorem dX1_reckonWorth_1 : decode cX1_reckonWorth 1 = .ok (.getfield 12, 3) := by decide +kernel
theorem dX1_reckonWorth_4 : decode cX1_reckonWorth 4 = .ok (.iload_n 1, 1) := by decide +kernel
theorem dX1_reckonWorth_5 : decode cX1_reckonWorth 5 = .ok (.iconst 1, 1) := by decide +kernel
theorem dX1_reckonWorth_6 : decode cX1_reckonWorth 6 = .ok (.iadd, 1) := by decide +kernel
theorem dX1_reckonWorth_7 : decode cX1_reckonWorth 7 = .ok (.iload_n 2, 1) := by decide +kernel
theorem dX1_reckonWorth_8 : decode cX1_reckonWorth 8 = .ok (.iload_n 3, 1) := by decide +kernel
theorem dX1_reckonWorth_9 : decode cX1_reckonWorth 9 = .ok (.iload 4, 2) := by decide +kernel
theorem dX1_reckonWorth_11 : decode cX1_reckonWorth 11 = .ok (.invokevirtual 85, 3) := by decide +kernel
theorem dX1_reckonWorth_14 : decode cX1_reckonWorth 14 = .ok (.iconst 0, 1) := by decide +kernel
theorem dX1_reckonWorth_15 : decode cX1_reckonWorth 15 = .ok (.istore 5, 2) := by decide +kernel
theorem dX1_reckonWorth_17 : decode cX1_reckonWorth 17 = .ok (.iload 5, 2) := by decide +kernel
theorem dX1_reckonWorth_19 : decode cX1_reckonWorth 19 = .ok (.aload_n 0, 1) := by decide +kernel
theorem dX1_reckonWorth_20 : decode cX1_reckonWorth 20 = .ok (.getfield 56, 3) := by decide +kernel
theorem dX1_reckonWorth_23 : decode cX1_reckonWorth 23 = .ok (.if_icmp .ge 69, 3) := by decide +kernel
theorem dX1_reckonWorth_26 : decode cX1_reckonWorth 26 = .ok (.iload 5, 2) := by decide +kernel
theorem dX1_reckonWorth_28 : decode cX1_reckonWorth 28 = .ok (.bipush 30, 2) := by decide +kernel
theorem dX1_reckonWorth_30 : decode cX1_reckonWorth 30 = .ok (.if_icmp .ge 62, 3) := by decide +kernel
theorem dX1_reckonWorth_33 : decode cX1_reckonWorth 33 = .ok (.aload_n 0, 1) := by decide +kernel
theorem dX1_reckonWorth_34 : decode cX1_reckonWorth 34 = .ok (.getfield 12, 3) := by decide +kernel
theorem dX1_reckonWorth_37 : decode cX1_reckonWorth 37 = .ok (.aload_n 0, 1) := by decide +kernel
theorem dX1_reckonWorth_38 : decode cX1_reckonWorth 38 = .ok (.getfield 28, 3) := by decide +kernel
theorem dX1_reckonWorth_41 : decode cX1_reckonWorth 41 = .ok (.iload 5, 2) := by decide +kernel
theorem dX1_reckonWorth_43 : decode cX1_reckonWorth 43 = .ok (.iaload, 1) := by decide +kernel
theorem dX1_reckonWorth_44 : decode cX1_reckonWorth 44 = .ok (.aload_n 0, 1) := by decide +kernel
theorem dX1_reckonWorth_45 : decode cX1_reckonWorth 45 = .ok (.getfield 31, 3) := by decide +kernel
theorem dX1_reckonWorth_48 : decode cX1_reckonWorth 48 = .ok (.iload 5, 2) := by decide +kernel
theorem dX1_reckonWorth_50 : decode cX1_reckonWorth 50 = .ok (.iaload, 1) := by decide +kernel
theorem dX1_reckonWorth_51 : decode cX1_reckonWorth 51 = .ok (.invokevirtual 89, 3) := by decide +kernel
theorem dX1_reckonWorth_54 : decode cX1_reckonWorth 54 = .ok (.ifCond .eq 32, 3) := by decide +kernel
theorem dX1_reckonWorth_57 : decode cX1_reckonWorth 57 = .ok (.bipush (-20), 2) := by decide +kernel
theorem dX1_reckonWorth_59 : decode cX1_reckonWorth 59 = .ok (.aload_n 0, 1) := by decide +kernel
theorem dX1_reckonWorth_60 : decode cX1_reckonWorth 60 = .ok (.getfield 12, 3) := by decide +kernel
theorem dX1_reckonWorth_63 : decode cX1_reckonWorth 63 = .ok (.aload_n 0, 1) := by decide +kernel
theorem dX1_reckonWorth_64 : decode cX1_reckonWorth 64 = .ok (.getfield 25, 3) := by decide +kernel
theorem dX1_reckonWorth_67 : decode cX1_reckonWorth 67 = .ok (.iload 5, 2) := by decide +kernel
theorem dX1_reckonWorth_69 : decode cX1_reckonWorth 69 = .ok (.iaload, 1) := by decide +kernel
theorem dX1_reckonWorth_70 : decode cX1_reckonWorth 70 = .ok (.aload_n 0, 1) := by decide +kernel
theorem dX1_reckonWorth_71 : decode cX1_reckonWorth 71 = .ok (.getfield 28, 3) := by decide +kernel
theorem dX1_reckonWorth_74 : decode cX1_reckonWorth 74 = .ok (.iload 5, 2) := by decide +kernel
theorem dX1_reckonWorth_76 : decode cX1_reckonWorth 76 = .ok (.iaload, 1) := by decide +kernel
theorem dX1_reckonWorth_77 : decode cX1_reckonWorth 77 = .ok (.invokevirtual 89, 3) := by decide +kernel
theorem dX1_reckonWorth_80 : decode cX1_reckonWorth 80 = .ok (.bipush 20, 2) := by decide +kernel
theorem dX1_reckonWorth_82 : decode cX1_reckonWorth 82 = .ok (.invokestatic 93, 3) := by decide +kernel
theorem dX1_reckonWorth_85 : decode cX1_reckonWorth 85 = .ok (.ireturn, 1) := by decide +kernel
theorem dX1_reckonWorth_86 : decode cX1_reckonWorth 86 = .ok (.iinc 5 1, 3) := by decide +kernel
theorem dX1_reckonWorth_89 : decode cX1_reckonWorth 89 = .ok (.goto (-72), 3) := by decide +kernel
theorem dX1_reckonWorth_92 : decode cX1_reckonWorth 92 = .ok (.iconst 0, 1) := by decide +kernel
theorem dX1_reckonWorth_93 : decode cX1_reckonWorth 93 = .ok (.ireturn, 1) := by decide +kernel
theorem dX1_worthIndex_0 : decode cX1_worthIndex 0 = .ok (.iload_n 0, 1) := by decide +kernel
theorem dX1_worthIndex_1 : decode cX1_worthIndex 1 = .ok (.bipush 10, 2) := by decide +kernel
theorem dX1_worthIndex_3 : decode cX1_worthIndex 3 = .ok (.imul, 1) := by decide +kernel
theorem dX1_worthIndex_4 : decode cX1_worthIndex 4 = .ok (.iload_n 1, 1) := by decide +kernel
theorem dX1_worthIndex_5 : decode cX1_worthIndex 5 = .ok (.iadd, 1) := by decide +kernel
theorem dX1_worthIndex_6 : decode cX1_worthIndex 6 = .ok (.bipush 16, 2) := by decide +kernel
theorem dX1_worthIndex_8 : decode cX1_worthIndex 8 = .ok (.imul, 1) := by decide +kernel
theorem dX1_worthIndex_9 : decode cX1_worthIndex 9 = .ok (.iload_n 2, 1) := by decide +kernel
theorem dX1_worthIndex_10 : decode cX1_worthIndex 10 = .ok (.iconst 4, 1) := by decide +kernel
theorem dX1_worthIndex_11 : decode cX1_worthIndex 11 = .ok (.imul, 1) := by decide +kernel
theorem dX1_worthIndex_12 : decode cX1_worthIndex 12 = .ok (.iadd, 1) := by decide +kernel
theorem dX1_worthIndex_13 : decode cX1_worthIndex 13 = .ok (.iload_n 3, 1) := by decide +kernel
theorem dX1_worthIndex_14 : decode cX1_worthIndex 14 = .ok (.iadd, 1) := by decide +kernel
theorem dX1_worthIndex_15 : decode cX1_worthIndex 15 = .ok (.ireturn, 1) := by decide +kernel
theorem dX1_worthOf_0 : decode cX1_worthOf 0 = .ok (.iload_n 1, 1) := by decide +kernel
theorem dX1_worthOf_1 : decode cX1_worthOf 1 = .ok (.iload_n 2, 1) := by decide +kernel
theorem dX1_worthOf_2 : decode cX1_worthOf 2 = .ok (.iload_n 3, 1) := by decide +kernel
theorem dX1_worthOf_3 : decode cX1_worthOf 3 = .ok (.iload 4, 2) := by decide +kernel
theorem dX1_worthOf_5 : decode cX1_worthOf 5 = .ok (.invokestatic 78, 3) := by decide +kernel
theorem dX1_worthOf_8 : decode cX1_worthOf 8 = .ok (.istore 5, 2) := by decide +kernel
theorem dX1_worthOf_10 : decode cX1_worthOf 10 = .ok (.iload 5, 2) := by decide +kernel
theorem dX1_worthOf_12 : decode cX1_worthOf 12 = .ok (.ifCond .lt 13, 3) := by decide +kernel
theorem dX1_worthOf_15 : decode cX1_worthOf 15 = .ok (.iload 5, 2) := by decide +kernel
theorem dX1_worthOf_17 : decode cX1_worthOf 17 = .ok (.aload_n 0, 1) := by decide +kernel
theorem dX1_worthOf_18 : decode cX1_worthOf 18 = .ok (.getfield 34, 3) := by decide +kernel
theorem dX1_worthOf_21 : decode cX1_worthOf 21 = .ok (.arraylength, 1) := by decide +kernel
theorem dX1_worthOf_22 : decode cX1_worthOf 22 = .ok (.if_icmp .lt 7, 3) := by decide +kernel
theorem dX1_worthOf_25 : decode cX1_worthOf 25 = .ok (.iconst 0, 1) := by decide +kernel
theorem dX1_worthOf_26 : decode cX1_worthOf 26 = .ok (.goto 10, 3) := by decide +kernel
theorem dX1_worthOf_29 : decode cX1_worthOf 29 = .ok (.aload_n 0, 1) := by decide +kernel
theorem dX1_worthOf_30 : decode cX1_worthOf 30 = .ok (.getfield 34, 3) := by decide +kernel
theorem dX1_worthOf_33 : decode cX1_worthOf 33 = .ok (.iload 5, 2) := by decide +kernel
theorem dX1_worthOf_35 : decode cX1_worthOf 35 = .ok (.iaload, 1) := by decide +kernel
theorem dX1_worthOf_36 : decode cX1_worthOf 36 = .ok (.ireturn, 1) := by decide +kernel
theorem dX1_earnedBy_0 : decode cX1_earnedBy 0 = .ok (.iload_n 1, 1) := by decide +kernel
theorem dX1_earnedBy_1 : decode cX1_earnedBy 1 = .ok (.ifCond .lt 12, 3) := by decide +kernel
theorem dX1_earnedBy_4 : decode cX1_earnedBy 4 = .ok (.iload_n 1, 1) := by decide +kernel
theorem dX1_earnedBy_5 : decode cX1_earnedBy 5 = .ok (.aload_n 0, 1) := by decide +kernel
theorem dX1_earnedBy_6 : decode cX1_earnedBy 6 = .ok (.getfield 18, 3) := by decide +kernel
theorem dX1_earnedBy_9 : decode cX1_earnedBy 9 = .ok (.arraylength, 1) := by decide +kernel
theorem dX1_earnedBy_10 : decode cX1_earnedBy 10 = .ok (.if_icmp .lt 7, 3) := by decide +kernel
theorem dX1_earnedBy_13 : decode cX1_earnedBy 13 = .ok (.iconst 0, 1) := by decide +kernel
theorem dX1_earnedBy_14 : decode cX1_earnedBy 14 = .ok (.goto 9, 3) := by decide +kernel
theorem dX1_earnedBy_17 : decode cX1_earnedBy 17 = .ok (.aload_n 0, 1) := by decide +kernel
theorem dX1_earnedBy_18 : decode cX1_earnedBy 18 = .ok (.getfield 18, 3) := by decide +kernel
theorem dX1_earnedBy_21 : decode cX1_earnedBy 21 = .ok (.iload_n 1, 1) := by decide +kernel
theorem dX1_earnedBy_22 : decode cX1_earnedBy 22 = .ok (.iaload, 1) := by decide +kernel
theorem dX1_earnedBy_23 : decode cX1_earnedBy 23 = .ok (.ireturn, 1) := by decide +kernel
theorem dX1_handicap_0 : decode cX1_handicap 0 = .ok (.aload_n 0, 1) := by decide +kernel
theorem dX1_handicap_1 : decode cX1_handicap 1 = .ok (.getfield 12, 3) := by decide +kernel
theorem dX1_handicap_4 : decode cX1_handicap 4 = .ok (.iload_n 1, 1) := by decide +kernel
theorem dX1_handicap_5 : decode cX1_handicap 5 = .ok (.iload_n 2, 1) := by decide +kernel
theorem dX1_handicap_6 : decode cX1_handicap 6 = .ok (.invokevirtual 97, 3) := by decide +kernel
theorem dX1_handicap_9 : decode cX1_handicap 9 = .ok (.iconst 0, 1) := by decide +kernel
theorem dX1_handicap_10 : decode cX1_handicap 10 = .ok (.aload_n 0, 1) := by decide +kernel
theorem dX1_handicap_11 : decode cX1_handicap 11 = .ok (.getfield 12, 3) := by decide +kernel
theorem dX1_handicap_14 : decode cX1_handicap 14 = .ok (.aload_n 0, 1) := by decide +kernel
theorem dX1_handicap_15 : decode cX1_handicap 15 = .ok (.getfield 60, 3) := by decide +kernel
theorem dX1_handicap_18 : decode cX1_handicap 18 = .ok (.aload_n 0, 1) := by decide +kernel
theorem dX1_handicap_19 : decode cX1_handicap 19 = .ok (.getfield 63, 3) := by decide +kernel
theorem dX1_handicap_22 : decode cX1_handicap 22 = .ok (.invokevirtual 89, 3) := by decide +kernel
theorem dX1_handicap_25 : decode cX1_handicap 25 = .ok (.bipush 99, 2) := by decide +kernel
theorem dX1_handicap_27 : decode cX1_handicap 27 = .ok (.invokestatic 93, 3) := by decide +kernel
theorem dX1_handicap_30 : decode cX1_handicap 30 = .ok (.ireturn, 1) := by decide +kernel
theorem dX1_isPin_0 : decode cX1_isPin 0 = .ok (.iload_n 0, 1) := by decide +kernel
theorem dX1_isPin_1 : decode cX1_isPin 1 = .ok (.ifCond .lt 13, 3) := by decide +kernel
theorem dX1_isPin_4 : decode cX1_isPin 4 = .ok (.iload_n 0, 1) := by decide +kernel
theorem dX1_isPin_5 : decode cX1_isPin 5 = .ok (.bipush 9, 2) := by decide +kernel
theorem dX1_isPin_7 : decode cX1_isPin 7 = .ok (.if_icmp .ge 7, 3) := by decide +kernel
theorem dX1_isPin_10 : decode cX1_isPin 10 = .ok (.iconst 1, 1) := by decide +kernel
theorem dX1_isPin_11 : decode cX1_isPin 11 = .ok (.goto 4, 3) := by decide +kernel
theorem dX1_isPin_14 : decode cX1_isPin 14 = .ok (.iconst 0, 1) := by decide +kernel
theorem dX1_isPin_15 : decode cX1_isPin 15 = .ok (.ireturn, 1) := by decide +kernel
theorem dX1_hasPins_0 : decode cX1_hasPins 0 = .ok (.iload_n 1, 1) := by decide +kernel
theorem dX1_hasPins_1 : decode cX1_hasPins 1 = .ok (.ifCond .lt 17, 3) := by decide +kernel
theorem dX1_hasPins_4 : decode cX1_hasPins 4 = .ok (.iload_n 1, 1) := by decide +kernel
theorem dX1_hasPins_5 : decode cX1_hasPins 5 = .ok (.iconst 1, 1) := by decide +kernel
theorem dX1_hasPins_6 : decode cX1_hasPins 6 = .ok (.aload_n 0, 1) := by decide +kernel
theorem dX1_hasPins_7 : decode cX1_hasPins 7 = .ok (.getfield 44, 3) := by decide +kernel
theorem dX1_hasPins_10 : decode cX1_hasPins 10 = .ok (.ishl, 1) := by decide +kernel
theorem dX1_hasPins_11 : decode cX1_hasPins 11 = .ok (.if_icmp .ge 7, 3) := by decide +kernel
theorem dX1_hasPins_14 : decode cX1_hasPins 14 = .ok (.iconst 1, 1) := by decide +kernel
theorem dX1_hasPins_15 : decode cX1_hasPins 15 = .ok (.goto 4, 3) := by decide +kernel
theorem dX1_hasPins_18 : decode cX1_hasPins 18 = .ok (.iconst 0, 1) := by decide +kernel
theorem dX1_hasPins_19 : decode cX1_hasPins 19 = .ok (.ireturn, 1) := by decide +kernel
theorem dX1_countJoins_0 : decode cX1_countJoins 0 = .ok (.iconst 0, 1) := by decide +kernel
theorem dX1_countJoins_1 : decode cX1_countJoins 1 = .ok (.istore_n 1, 1) := by decide +kernel
theorem dX1_countJoins_2 : decode cX1_countJoins 2 = .ok (.iconst 0, 1) := by decide +kernel
theorem dX1_countJoins_3 : decode cX1_countJoins 3 = .ok (.istore_n 2, 1) := by decide +kernel
theorem dX1_countJoins_4 : decode cX1_countJoins 4 = .ok (.iload_n 2, 1) := by decide +kernel
theorem dX1_countJoins_5 : decode cX1_countJoins 5 = .ok (.aload_n 0, 1) := by decide +kernel
theorem dX1_countJoins_6 : decode cX1_countJoins 6 = .ok (.getfield 22, 3) := by decide +kernel
theorem dX1_countJoins_9 : decode cX1_countJoins 9 = .ok (.arraylength, 1) := by decide +kernel
theorem dX1_countJoins_10 : decode cX1_countJoins 10 = .ok (.if_icmp .ge 21, 3) := by decide +kernel
theorem dX1_countJoins_13 : decode cX1_countJoins 13 = .ok (.iload_n 1, 1) := by decide +kernel
theorem dX1_countJoins_14 : decode cX1_countJoins 14 = .ok (.aload_n 0, 1) := by decide +kernel
theorem dX1_countJoins_15 : decode cX1_countJoins 15 = .ok (.getfield 22, 3) := by decide +kernel
theorem dX1_countJoins_18 : decode cX1_countJoins 18 = .ok (.iload_n 2, 1) := by decide +kernel
theorem dX1_countJoins_19 : decode cX1_countJoins 19 = .ok (.iaload, 1) := by decide +kernel
theorem dX1_countJoins_20 : decode cX1_countJoins 20 = .ok (.invokestatic 101, 3) := by decide +kernel
theorem dX1_countJoins_23 : decode cX1_countJoins 23 = .ok (.iadd, 1) := by decide +kernel
theorem dX1_countJoins_24 : decode cX1_countJoins 24 = .ok (.istore_n 1, 1) := by decide +kernel
theorem dX1_countJoins_25 : decode cX1_countJoins 25 = .ok (.iinc 2 1, 3) := by decide +kernel
theorem dX1_countJoins_28 : decode cX1_countJoins 28 = .ok (.goto (-24), 3) := by decide +kernel
theorem dX1_countJoins_31 : decode cX1_countJoins 31 = .ok (.iload_n 1, 1) := by decide +kernel
theorem dX1_countJoins_32 : decode cX1_countJoins 32 = .ok (.iconst 2, 1) := by decide +kernel
theorem dX1_countJoins_33 : decode cX1_countJoins 33 = .ok (.idiv, 1) := by decide +kernel
theorem dX1_countJoins_34 : decode cX1_countJoins 34 = .ok (.ireturn, 1) := by decide +kernel
theorem dX1_hangTogether_0 : decode cX1_hangTogether 0 = .ok (.iload_n 1, 1) := by decide +kernel
theorem dX1_hangTogether_1 : decode cX1_hangTogether 1 = .ok (.ifCond .eq 16, 3) := by decide +kernel
theorem dX1_hangTogether_4 : decode cX1_hangTogether 4 = .ok (.aload_n 0, 1) := by decide +kernel
theorem dX1_hangTogether_5 : decode cX1_hangTogether 5 = .ok (.iload_n 1, 1) := by decide +kernel
theorem dX1_hangTogether_6 : decode cX1_hangTogether 6 = .ok (.invokevirtual 107, 3) := by decide +kernel
theorem dX1_hangTogether_9 : decode cX1_hangTogether 9 = .ok (.iload_n 1, 1) := by decide +kernel
theorem dX1_hangTogether_10 : decode cX1_hangTogether 10 = .ok (.if_icmp .ne 7, 3) := by decide +kernel
theorem dX1_hangTogether_13 : decode cX1_hangTogether 13 = .ok (.iconst 1, 1) := by decide +kernel
theorem dX1_hangTogether_14 : decode cX1_hangTogether 14 = .ok (.goto 4, 3) := by decide +kernel
theorem dX1_hangTogether_17 : decode cX1_hangTogether 17 = .ok (.iconst 0, 1) := by decide +kernel
theorem dX1_hangTogether_18 : decode cX1_hangTogether 18 = .ok (.ireturn, 1) := by decide +kernel
theorem dX1_countClusters_0 : decode cX1_countClusters 0 = .ok (.iload_n 1, 1) := by decide +kernel
theorem dX1_countClusters_1 : decode cX1_countClusters 1 = .ok (.istore_n 2, 1) := by decide +kernel
theorem dX1_countClusters_2 : decode cX1_countClusters 2 = .ok (.iconst 0, 1) := by decide +kernel
theorem dX1_countClusters_3 : decode cX1_countClusters 3 = .ok (.istore_n 3, 1) := by decide +kernel
theorem dX1_countClusters_4 : decode cX1_countClusters 4 = .ok (.iconst 0, 1) := by decide +kernel
theorem dX1_countClusters_5 : decode cX1_countClusters 5 = .ok (.istore 4, 2) := by decide +kernel
theorem dX1_countClusters_7 : decode cX1_countClusters 7 = .ok (.iload 4, 2) := by decide +kernel
theorem dX1_countClusters_9 : decode cX1_countClusters 9 = .ok (.bipush 9, 2) := by decide +kernel
theorem dX1_countClusters_11 : decode cX1_countClusters 11 = .ok (.if_icmp .ge 26, 3) := by decide +kernel
theorem dX1_countClusters_14 : decode cX1_countClusters 14 = .ok (.iload_n 2, 1) := by decide +kernel
theorem dX1_countClusters_15 : decode cX1_countClusters 15 = .ok (.ifCond .eq 22, 3) := by decide +kernel
theorem dX1_countClusters_18 : decode cX1_countClusters 18 = .ok (.iload_n 2, 1) := by decide +kernel
theorem dX1_countClusters_19 : decode cX1_countClusters 19 = .ok (.aload_n 0, 1) := by decide +kernel
theorem dX1_countClusters_20 : decode cX1_countClusters 20 = .ok (.iload_n 2, 1) := by decide +kernel
theorem dX1_countClusters_21 : decode cX1_countClusters 21 = .ok (.invokevirtual 107, 3) := by decide +kernel
theorem dX1_countClusters_24 : decode cX1_countClusters 24 = .ok (.iconst (-1), 1) := by decide +kernel
theorem dX1_countClusters_25 : decode cX1_countClusters 25 = .ok (.ixor, 1) := by decide +kernel
theorem dX1_countClusters_26 : decode cX1_countClusters 26 = .ok (.iand, 1) := by decide +kernel
theorem dX1_countClusters_27 : decode cX1_countClusters 27 = .ok (.istore_n 2, 1) := by decide +kernel
theorem dX1_countClusters_28 : decode cX1_countClusters 28 = .ok (.iinc 3 1, 3) := by decide +kernel
theorem dX1_countClusters_31 : decode cX1_countClusters 31 = .ok (.iinc 4 1, 3) := by decide +kernel
theorem dX1_countClusters_34 : decode cX1_countClusters 34 = .ok (.goto (-27), 3) := by decide +kernel
theorem dX1_countClusters_37 : decode cX1_countClusters 37 = .ok (.iload_n 3, 1) := by decide +kernel
theorem dX1_countClusters_38 : decode cX1_countClusters 38 = .ok (.ireturn, 1) := by decide +kernel
theorem dX1_countFalls_0 : decode cX1_countFalls 0 = .ok (.iconst 0, 1) := by decide +kernel
theorem dX1_countFalls_1 : decode cX1_countFalls 1 = .ok (.istore_n 2, 1) := by decide +kernel
theorem dX1_countFalls_2 : decode cX1_countFalls 2 = .ok (.iconst 1, 1) := by decide +kernel
theorem dX1_countFalls_3 : decode cX1_countFalls 3 = .ok (.istore_n 3, 1) := by decide +kernel
theorem dX1_countFalls_4 : decode cX1_countFalls 4 = .ok (.iload_n 3, 1) := by decide +kernel
theorem dX1_countFalls_5 : decode cX1_countFalls 5 = .ok (.iload_n 1, 1) := by decide +kernel
theorem dX1_countFalls_6 : decode cX1_countFalls 6 = .ok (.if_icmp .gt 28, 3) := by decide +kernel
theorem dX1_countFalls_9 : decode cX1_countFalls 9 = .ok (.iload_n 3, 1) := by decide +kernel
theorem dX1_countFalls_10 : decode cX1_countFalls 10 = .ok (.iload_n 1, 1) := by decide +kernel
theorem dX1_countFalls_11 : decode cX1_countFalls 11 = .ok (.iconst (-1), 1) := by decide +kernel
theorem dX1_countFalls_12 : decode cX1_countFalls 12 = .ok (.ixor, 1) := by decide +kernel
theorem dX1_countFalls_13 : decode cX1_countFalls 13 = .ok (.iand, 1) := by decide +kernel
theorem dX1_countFalls_14 : decode cX1_countFalls 14 = .ok (.ifCond .ne 14, 3) := by decide +kernel
theorem dX1_countFalls_17 : decode cX1_countFalls 17 = .ok (.aload_n 0, 1) := by decide +kernel
theorem dX1_countFalls_18 : decode cX1_countFalls 18 = .ok (.iload_n 3, 1) := by decide +kernel
theorem dX1_countFalls_19 : decode cX1_countFalls 19 = .ok (.invokevirtual 110, 3) := by decide +kernel
theorem dX1_countFalls_22 : decode cX1_countFalls 22 = .ok (.ifCond .eq 6, 3) := by decide +kernel
theorem dX1_countFalls_25 : decode cX1_countFalls 25 = .ok (.iinc 2 1, 3) := by decide +kernel
theorem dX1_countFalls_28 : decode cX1_countFalls 28 = .ok (.iinc 3 1, 3) := by decide +kernel
theorem dX1_countFalls_31 : decode cX1_countFalls 31 = .ok (.goto (-27), 3) := by decide +kernel
theorem dX1_countFalls_34 : decode cX1_countFalls 34 = .ok (.iload_n 2, 1) := by decide +kernel
theorem dX1_countFalls_35 : decode cX1_countFalls 35 = .ok (.ireturn, 1) := by decide +kernel
theorem dX1_cluster_0 : decode cX1_cluster 0 = .ok (.iload_n 1, 1) := by decide +kernel
theorem dX1_cluster_1 : decode cX1_cluster 1 = .ok (.iload_n 1, 1) := by decide +kernel
theorem dX1_cluster_2 : decode cX1_cluster 2 = .ok (.ineg, 1) := by decide +kernel
theorem dX1_cluster_3 : decode cX1_cluster 3 = .ok (.iand, 1) := by decide +kernel
theorem dX1_cluster_4 : decode cX1_cluster 4 = .ok (.istore_n 2, 1) := by decide +kernel
theorem dX1_cluster_5 : decode cX1_cluster 5 = .ok (.iconst 0, 1) := by decide +kernel
theorem dX1_cluster_6 : decode cX1_cluster 6 = .ok (.istore_n 3, 1) := by decide +kernel
theorem dX1_cluster_7 : decode cX1_cluster 7 = .ok (.iload_n 3, 1) := by decide +kernel
theorem dX1_cluster_8 : decode cX1_cluster 8 = .ok (.bipush 9, 2) := by decide +kernel
theorem dX1_cluster_10 : decode cX1_cluster 10 = .ok (.if_icmp .ge 66, 3) := by decide +kernel
theorem dX1_cluster_13 : decode cX1_cluster 13 = .ok (.iload_n 2, 1) := by decide +kernel
theorem dX1_cluster_14 : decode cX1_cluster 14 = .ok (.istore 4, 2) := by decide +kernel
theorem dX1_cluster_16 : decode cX1_cluster 16 = .ok (.iconst 0, 1) := by decide +kernel
theorem dX1_cluster_17 : decode cX1_cluster 17 = .ok (.istore 5, 2) := by decide +kernel
theorem dX1_cluster_19 : decode cX1_cluster 19 = .ok (.iload 5, 2) := by decide +kernel
theorem dX1_cluster_21 : decode cX1_cluster 21 = .ok (.aload_n 0, 1) := by decide +kernel
theorem dX1_cluster_22 : decode cX1_cluster 22 = .ok (.getfield 22, 3) := by decide +kernel
theorem dX1_cluster_25 : decode cX1_cluster 25 = .ok (.arraylength, 1) := by decide +kernel
theorem dX1_cluster_26 : decode cX1_cluster 26 = .ok (.if_icmp .ge 33, 3) := by decide +kernel
theorem dX1_cluster_29 : decode cX1_cluster 29 = .ok (.iload_n 2, 1) := by decide +kernel
theorem dX1_cluster_30 : decode cX1_cluster 30 = .ok (.iload 5, 2) := by decide +kernel
theorem dX1_cluster_32 : decode cX1_cluster 32 = .ok (.ishr, 1) := by decide +kernel
theorem dX1_cluster_33 : decode cX1_cluster 33 = .ok (.iconst 1, 1) := by decide +kernel
theorem dX1_cluster_34 : decode cX1_cluster 34 = .ok (.iand, 1) := by decide +kernel
theorem dX1_cluster_35 : decode cX1_cluster 35 = .ok (.iconst 1, 1) := by decide +kernel
theorem dX1_cluster_36 : decode cX1_cluster 36 = .ok (.if_icmp .ne 17, 3) := by decide +kernel
theorem dX1_cluster_39 : decode cX1_cluster 39 = .ok (.iload 4, 2) := by decide +kernel
theorem dX1_cluster_41 : decode cX1_cluster 41 = .ok (.aload_n 0, 1) := by decide +kernel
theorem dX1_cluster_42 : decode cX1_cluster 42 = .ok (.getfield 22, 3) := by decide +kernel
theorem dX1_cluster_45 : decode cX1_cluster 45 = .ok (.iload 5, 2) := by decide +kernel
theorem dX1_cluster_47 : decode cX1_cluster 47 = .ok (.iaload, 1) := by decide +kernel
theorem dX1_cluster_48 : decode cX1_cluster 48 = .ok (.iload_n 1, 1) := by decide +kernel
theorem dX1_cluster_49 : decode cX1_cluster 49 = .ok (.iand, 1) := by decide +kernel
theorem dX1_cluster_50 : decode cX1_cluster 50 = .ok (.ior, 1) := by decide +kernel
theorem dX1_cluster_51 : decode cX1_cluster 51 = .ok (.istore 4, 2) := by decide +kernel
theorem dX1_cluster_53 : decode cX1_cluster 53 = .ok (.iinc 5 1, 3) := by decide +kernel
theorem dX1_cluster_56 : decode cX1_cluster 56 = .ok (.goto (-37), 3) := by decide +kernel
theorem dX1_cluster_59 : decode cX1_cluster 59 = .ok (.iload 4, 2) := by decide +kernel
theorem dX1_cluster_61 : decode cX1_cluster 61 = .ok (.iload_n 2, 1) := by decide +kernel
theorem dX1_cluster_62 : decode cX1_cluster 62 = .ok (.if_icmp .ne 5, 3) := by decide +kernel
theorem dX1_cluster_65 : decode cX1_cluster 65 = .ok (.iload_n 2, 1) := by decide +kernel
theorem dX1_cluster_66 : decode cX1_cluster 66 = .ok (.ireturn, 1) := by decide +kernel
theorem dX1_cluster_67 : decode cX1_cluster 67 = .ok (.iload 4, 2) := by decide +kernel
theorem dX1_cluster_69 : decode cX1_cluster 69 = .ok (.istore_n 2, 1) := by decide +kernel
theorem dX1_cluster_70 : decode cX1_cluster 70 = .ok (.iinc 3 1, 3) := by decide +kernel
theorem dX1_cluster_73 : decode cX1_cluster 73 = .ok (.goto (-66), 3) := by decide +kernel
theorem dX1_cluster_76 : decode cX1_cluster 76 = .ok (.iload_n 2, 1) := by decide +kernel
theorem dX1_cluster_77 : decode cX1_cluster 77 = .ok (.ireturn, 1) := by decide +kernel
theorem dX4_init_0 : decode cX4_init 0 = .ok (.aload_n 0, 1) := by decide +kernel
theorem dX4_init_1 : decode cX4_init 1 = .ok (.invokespecial 3, 3) := by decide +kernel
theorem dX4_init_4 : decode cX4_init 4 = .ok (.aload_n 0, 1) := by decide +kernel
theorem dX4_init_5 : decode cX4_init 5 = .ok (.bipush 60, 2) := by decide +kernel
theorem dX4_init_7 : decode cX4_init 7 = .ok (.newarray .int, 2) := by decide +kernel
theorem dX4_init_9 : decode cX4_init 9 = .ok (.putfield 11, 3) := by decide +kernel
theorem dX4_init_12 : decode cX4_init 12 = .ok (.aload_n 0, 1) := by decide +kernel
theorem dX4_init_13 : decode cX4_init 13 = .ok (.bipush 6, 2) := by decide +kernel
theorem dX4_init_15 : decode cX4_init 15 = .ok (.newarray .int, 2) := by decide +kernel
theorem dX4_init_17 : decode cX4_init 17 = .ok (.putfield 15, 3) := by decide +kernel
theorem dX4_init_20 : decode cX4_init 20 = .ok (.aload_n 0, 1) := by decide +kernel
theorem dX4_init_21 : decode cX4_init 21 = .ok (.bipush 6, 2) := by decide +kernel
theorem dX4_init_23 : decode cX4_init 23 = .ok (.newarray .int, 2) := by decide +kernel
theorem dX4_init_25 : decode cX4_init 25 = .ok (.putfield 18, 3) := by decide +kernel
theorem dX4_init_28 : decode cX4_init 28 = .ok (.return_, 1) := by decide +kernel
theorem dX4_forget_0 : decode cX4_forget 0 = .ok (.iconst 0, 1) := by decide +kernel
theorem dX4_forget_1 : decode cX4_forget 1 = .ok (.istore_n 1, 1) := by decide +kernel
theorem dX4_forget_2 : decode cX4_forget 2 = .ok (.iload_n 1, 1) := by decide +kernel
theorem dX4_forget_3 : decode cX4_forget 3 = .ok (.bipush 6, 2) := by decide +kernel
theorem dX4_forget_5 : decode cX4_forget 5 = .ok (.if_icmp .ge 16, 3) := by decide +kernel
theorem dX4_forget_8 : decode cX4_forget 8 = .ok (.aload_n 0, 1) := by decide +kernel
theorem dX4_forget_9 : decode cX4_forget 9 = .ok (.getfield 15, 3) := by decide +kernel
theorem dX4_forget_12 : decode cX4_forget 12 = .ok (.iload_n 1, 1) := by decide +kernel
theorem dX4_forget_13 : decode cX4_forget 13 = .ok (.iconst 0, 1) := by decide +kernel
theorem dX4_forget_14 : decode cX4_forget 14 = .ok (.iastore, 1) := by decide +kernel
theorem dX4_forget_15 : decode cX4_forget 15 = .ok (.iinc 1 1, 3) := by decide +kernel
theorem dX4_forget_18 : decode cX4_forget 18 = .ok (.goto (-16), 3) := by decide +kernel
theorem dX4_forget_21 : decode cX4_forget 21 = .ok (.return_, 1) := by decide +kernel
theorem dX4_knows_0 : decode cX4_knows 0 = .ok (.iload_n 1, 1) := by decide +kernel
theorem dX4_knows_1 : decode cX4_knows 1 = .ok (.ifCond .lt 13, 3) := by decide +kernel
theorem dX4_knows_4 : decode cX4_knows 4 = .ok (.iload_n 1, 1) := by decide +kernel
theorem dX4_knows_5 : decode cX4_knows 5 = .ok (.bipush 6, 2) := by decide +kernel
theorem dX4_knows_7 : decode cX4_knows 7 = .ok (.if_icmp .ge 7, 3) := by decide +kernel
theorem dX4_knows_10 : decode cX4_knows 10 = .ok (.iconst 1, 1) := by decide +kernel
theorem dX4_knows_11 : decode cX4_knows 11 = .ok (.goto 4, 3) := by decide +kernel
theorem dX4_knows_14 : decode cX4_knows 14 = .ok (.iconst 0, 1) := by decide +kernel
theorem dX4_knows_15 : decode cX4_knows 15 = .ok (.ireturn, 1) := by decide +kernel
theorem dX4_gamesOf_0 : decode cX4_gamesOf 0 = .ok (.aload_n 0, 1) := by decide +kernel
theorem dX4_gamesOf_1 : decode cX4_gamesOf 1 = .ok (.iload_n 1, 1) := by decide +kernel
theorem dX4_gamesOf_2 : decode cX4_gamesOf 2 = .ok (.invokevirtual 21, 3) := by decide +kernel
theorem dX4_gamesOf_5 : decode cX4_gamesOf 5 = .ok (.ifCond .eq 12, 3) := by decide +kernel
theorem dX4_gamesOf_8 : decode cX4_gamesOf 8 = .ok (.aload_n 0, 1) := by decide +kernel
theorem dX4_gamesOf_9 : decode cX4_gamesOf 9 = .ok (.getfield 15, 3) := by decide +kernel
theorem dX4_gamesOf_12 : decode cX4_gamesOf 12 = .ok (.iload_n 1, 1) := by decide +kernel
theorem dX4_gamesOf_13 : decode cX4_gamesOf 13 = .ok (.iaload, 1) := by decide +kernel
theorem dX4_gamesOf_14 : decode cX4_gamesOf 14 = .ok (.goto 4, 3) := by decide +kernel
theorem dX4_gamesOf_17 : decode cX4_gamesOf 17 = .ok (.iconst 0, 1) := by decide +kernel
theorem dX4_gamesOf_18 : decode cX4_gamesOf 18 = .ok (.ireturn, 1) := by decide +kernel
theorem dX4_totalOf_0 : decode cX4_totalOf 0 = .ok (.iload_n 2, 1) := by decide +kernel
theorem dX4_totalOf_1 : decode cX4_totalOf 1 = .ok (.ifCond .lt 18, 3) := by decide +kernel
theorem dX4_totalOf_4 : decode cX4_totalOf 4 = .ok (.iload_n 2, 1) := by decide +kernel
theorem dX4_totalOf_5 : decode cX4_totalOf 5 = .ok (.aload_n 0, 1) := by decide +kernel
theorem dX4_totalOf_6 : decode cX4_totalOf 6 = .ok (.iload_n 1, 1) := by decide +kernel
theorem dX4_totalOf_7 : decode cX4_totalOf 7 = .ok (.invokevirtual 25, 3) := by decide +kernel
theorem dX4_totalOf_10 : decode cX4_totalOf 10 = .ok (.if_icmp .ge 9, 3) := by decide +kernel
theorem dX4_totalOf_13 : decode cX4_totalOf 13 = .ok (.iload_n 2, 1) := by decide +kernel
theorem dX4_totalOf_14 : decode cX4_totalOf 14 = .ok (.bipush 10, 2) := by decide +kernel
theorem dX4_totalOf_16 : decode cX4_totalOf 16 = .ok (.if_icmp .lt 7, 3) := by decide +kernel
theorem dX4_totalOf_19 : decode cX4_totalOf 19 = .ok (.iconst 0, 1) := by decide +kernel
theorem dX4_totalOf_20 : decode cX4_totalOf 20 = .ok (.goto 14, 3) := by decide +kernel
theorem dX4_totalOf_23 : decode cX4_totalOf 23 = .ok (.aload_n 0, 1) := by decide +kernel
theorem dX4_totalOf_24 : decode cX4_totalOf 24 = .ok (.getfield 11, 3) := by decide +kernel
theorem dX4_totalOf_27 : decode cX4_totalOf 27 = .ok (.iload_n 1, 1) := by decide +kernel
theorem dX4_totalOf_28 : decode cX4_totalOf 28 = .ok (.bipush 10, 2) := by decide +kernel
theorem dX4_totalOf_30 : decode cX4_totalOf 30 = .ok (.imul, 1) := by decide +kernel
theorem dX4_totalOf_31 : decode cX4_totalOf 31 = .ok (.iload_n 2, 1) := by decide +kernel
theorem dX4_totalOf_32 : decode cX4_totalOf 32 = .ok (.iadd, 1) := by decide +kernel
theorem dX4_totalOf_33 : decode cX4_totalOf 33 = .ok (.iaload, 1) := by decide +kernel
theorem dX4_totalOf_34 : decode cX4_totalOf 34 = .ok (.ireturn, 1) := by decide +kernel
theorem dX4_add_0 : decode cX4_add 0 = .ok (.aload_n 0, 1) := by decide +kernel
theorem dX4_add_1 : decode cX4_add 1 = .ok (.iload_n 1, 1) := by decide +kernel
theorem dX4_add_2 : decode cX4_add 2 = .ok (.invokevirtual 25, 3) := by decide +kernel
theorem dX4_add_5 : decode cX4_add 5 = .ok (.istore_n 3, 1) := by decide +kernel
theorem dX4_add_6 : decode cX4_add 6 = .ok (.aload_n 0, 1) := by decide +kernel
theorem dX4_add_7 : decode cX4_add 7 = .ok (.iload_n 1, 1) := by decide +kernel
theorem dX4_add_8 : decode cX4_add 8 = .ok (.invokevirtual 21, 3) := by decide +kernel
theorem dX4_add_11 : decode cX4_add 11 = .ok (.ifCond .eq 9, 3) := by decide +kernel
theorem dX4_add_14 : decode cX4_add 14 = .ok (.iload_n 3, 1) := by decide +kernel
theorem dX4_add_15 : decode cX4_add 15 = .ok (.bipush 10, 2) := by decide +kernel
theorem dX4_add_17 : decode cX4_add 17 = .ok (.if_icmp .lt 5, 3) := by decide +kernel
theorem dX4_add_20 : decode cX4_add 20 = .ok (.iconst (-1), 1) := by decide +kernel
theorem dX4_add_21 : decode cX4_add 21 = .ok (.ireturn, 1) := by decide +kernel
theorem dX4_add_22 : decode cX4_add 22 = .ok (.aload_n 0, 1) := by decide +kernel
theorem dX4_add_23 : decode cX4_add 23 = .ok (.getfield 11, 3) := by decide +kernel
theorem dX4_add_26 : decode cX4_add 26 = .ok (.iload_n 1, 1) := by decide +kernel
theorem dX4_add_27 : decode cX4_add 27 = .ok (.bipush 10, 2) := by decide +kernel
theorem dX4_add_29 : decode cX4_add 29 = .ok (.imul, 1) := by decide +kernel
theorem dX4_add_30 : decode cX4_add 30 = .ok (.iload_n 3, 1) := by decide +kernel
theorem dX4_add_31 : decode cX4_add 31 = .ok (.iadd, 1) := by decide +kernel
theorem dX4_add_32 : decode cX4_add 32 = .ok (.iload_n 2, 1) := by decide +kernel
theorem dX4_add_33 : decode cX4_add 33 = .ok (.iastore, 1) := by decide +kernel
theorem dX4_add_34 : decode cX4_add 34 = .ok (.aload_n 0, 1) := by decide +kernel
theorem dX4_add_35 : decode cX4_add 35 = .ok (.getfield 15, 3) := by decide +kernel
theorem dX4_add_38 : decode cX4_add 38 = .ok (.iload_n 1, 1) := by decide +kernel
theorem dX4_add_39 : decode cX4_add 39 = .ok (.iload_n 3, 1) := by decide +kernel
theorem dX4_add_40 : decode cX4_add 40 = .ok (.iconst 1, 1) := by decide +kernel
theorem dX4_add_41 : decode cX4_add 41 = .ok (.iadd, 1) := by decide +kernel
theorem dX4_add_42 : decode cX4_add 42 = .ok (.iastore, 1) := by decide +kernel
theorem dX4_add_43 : decode cX4_add 43 = .ok (.iload_n 3, 1) := by decide +kernel
theorem dX4_add_44 : decode cX4_add 44 = .ok (.iconst 1, 1) := by decide +kernel
theorem dX4_add_45 : decode cX4_add 45 = .ok (.iadd, 1) := by decide +kernel
theorem dX4_add_46 : decode cX4_add 46 = .ok (.ireturn, 1) := by decide +kernel
theorem dX4_sumOf_0 : decode cX4_sumOf 0 = .ok (.iconst 0, 1) := by decide +kernel
theorem dX4_sumOf_1 : decode cX4_sumOf 1 = .ok (.istore_n 2, 1) := by decide +kernel
theorem dX4_sumOf_2 : decode cX4_sumOf 2 = .ok (.iconst 0, 1) := by decide +kernel
theorem dX4_sumOf_3 : decode cX4_sumOf 3 = .ok (.istore_n 3, 1) := by decide +kernel
theorem dX4_sumOf_4 : decode cX4_sumOf 4 = .ok (.iload_n 3, 1) := by decide +kernel
theorem dX4_sumOf_5 : decode cX4_sumOf 5 = .ok (.aload_n 0, 1) := by decide +kernel
theorem dX4_sumOf_6 : decode cX4_sumOf 6 = .ok (.iload_n 1, 1) := by decide +kernel
theorem dX4_sumOf_7 : decode cX4_sumOf 7 = .ok (.invokevirtual 25, 3) := by decide +kernel
theorem dX4_sumOf_10 : decode cX4_sumOf 10 = .ok (.if_icmp .ge 18, 3) := by decide +kernel
theorem dX4_sumOf_13 : decode cX4_sumOf 13 = .ok (.iload_n 2, 1) := by decide +kernel
theorem dX4_sumOf_14 : decode cX4_sumOf 14 = .ok (.aload_n 0, 1) := by decide +kernel
theorem dX4_sumOf_15 : decode cX4_sumOf 15 = .ok (.iload_n 1, 1) := by decide +kernel
theorem dX4_sumOf_16 : decode cX4_sumOf 16 = .ok (.iload_n 3, 1) := by decide +kernel
theorem dX4_sumOf_17 : decode cX4_sumOf 17 = .ok (.invokevirtual 29, 3) := by decide +kernel
theorem dX4_sumOf_20 : decode cX4_sumOf 20 = .ok (.iadd, 1) := by decide +kernel
theorem dX4_sumOf_21 : decode cX4_sumOf 21 = .ok (.istore_n 2, 1) := by decide +kernel
theorem dX4_sumOf_22 : decode cX4_sumOf 22 = .ok (.iinc 3 1, 3) := by decide +kernel
theorem dX4_sumOf_25 : decode cX4_sumOf 25 = .ok (.goto (-21), 3) := by decide +kernel
theorem dX4_sumOf_28 : decode cX4_sumOf 28 = .ok (.iload_n 2, 1) := by decide +kernel
theorem dX4_sumOf_29 : decode cX4_sumOf 29 = .ok (.ireturn, 1) := by decide +kernel
theorem dX4_meanOf_0 : decode cX4_meanOf 0 = .ok (.aload_n 0, 1) := by decide +kernel
theorem dX4_meanOf_1 : decode cX4_meanOf 1 = .ok (.iload_n 1, 1) := by decide +kernel
theorem dX4_meanOf_2 : decode cX4_meanOf 2 = .ok (.invokevirtual 25, 3) := by decide +kernel
theorem dX4_meanOf_5 : decode cX4_meanOf 5 = .ok (.istore_n 2, 1) := by decide +kernel
theorem dX4_meanOf_6 : decode cX4_meanOf 6 = .ok (.iload_n 2, 1) := by decide +kernel
theorem dX4_meanOf_7 : decode cX4_meanOf 7 = .ok (.ifCond .ne 7, 3) := by decide +kernel
theorem dX4_meanOf_10 : decode cX4_meanOf 10 = .ok (.iconst 0, 1) := by decide +kernel
theorem dX4_meanOf_11 : decode cX4_meanOf 11 = .ok (.goto 12, 3) := by decide +kernel
theorem dX4_meanOf_14 : decode cX4_meanOf 14 = .ok (.aload_n 0, 1) := by decide +kernel
theorem dX4_meanOf_15 : decode cX4_meanOf 15 = .ok (.iload_n 1, 1) := by decide +kernel
theorem dX4_meanOf_16 : decode cX4_meanOf 16 = .ok (.invokevirtual 33, 3) := by decide +kernel
theorem dX4_meanOf_19 : decode cX4_meanOf 19 = .ok (.iload_n 2, 1) := by decide +kernel
theorem dX4_meanOf_20 : decode cX4_meanOf 20 = .ok (.invokestatic 36, 3) := by decide +kernel
theorem dX4_meanOf_23 : decode cX4_meanOf 23 = .ok (.ireturn, 1) := by decide +kernel
theorem dX4_bestOf_0 : decode cX4_bestOf 0 = .ok (.aload_n 0, 1) := by decide +kernel
theorem dX4_bestOf_1 : decode cX4_bestOf 1 = .ok (.iload_n 1, 1) := by decide +kernel
theorem dX4_bestOf_2 : decode cX4_bestOf 2 = .ok (.iconst 0, 1) := by decide +kernel
theorem dX4_bestOf_3 : decode cX4_bestOf 3 = .ok (.invokevirtual 29, 3) := by decide +kernel
theorem dX4_bestOf_6 : decode cX4_bestOf 6 = .ok (.istore_n 2, 1) := by decide +kernel
theorem dX4_bestOf_7 : decode cX4_bestOf 7 = .ok (.iconst 1, 1) := by decide +kernel
theorem dX4_bestOf_8 : decode cX4_bestOf 8 = .ok (.istore_n 3, 1) := by decide +kernel
theorem dX4_bestOf_9 : decode cX4_bestOf 9 = .ok (.iload_n 3, 1) := by decide +kernel
theorem dX4_bestOf_10 : decode cX4_bestOf 10 = .ok (.aload_n 0, 1) := by decide +kernel
theorem dX4_bestOf_11 : decode cX4_bestOf 11 = .ok (.iload_n 1, 1) := by decide +kernel
theorem dX4_bestOf_12 : decode cX4_bestOf 12 = .ok (.invokevirtual 25, 3) := by decide +kernel
theorem dX4_bestOf_15 : decode cX4_bestOf 15 = .ok (.if_icmp .ge 20, 3) := by decide +kernel
theorem dX4_bestOf_18 : decode cX4_bestOf 18 = .ok (.iload_n 2, 1) := by decide +kernel
theorem dX4_bestOf_19 : decode cX4_bestOf 19 = .ok (.aload_n 0, 1) := by decide +kernel
theorem dX4_bestOf_20 : decode cX4_bestOf 20 = .ok (.iload_n 1, 1) := by decide +kernel
theorem dX4_bestOf_21 : decode cX4_bestOf 21 = .ok (.iload_n 3, 1) := by decide +kernel
theorem dX4_bestOf_22 : decode cX4_bestOf 22 = .ok (.invokevirtual 29, 3) := by decide +kernel
theorem dX4_bestOf_25 : decode cX4_bestOf 25 = .ok (.invokestatic 41, 3) := by decide +kernel
theorem dX4_bestOf_28 : decode cX4_bestOf 28 = .ok (.istore_n 2, 1) := by decide +kernel
theorem dX4_bestOf_29 : decode cX4_bestOf 29 = .ok (.iinc 3 1, 3) := by decide +kernel
theorem dX4_bestOf_32 : decode cX4_bestOf 32 = .ok (.goto (-23), 3) := by decide +kernel
theorem dX4_bestOf_35 : decode cX4_bestOf 35 = .ok (.iload_n 2, 1) := by decide +kernel
theorem dX4_bestOf_36 : decode cX4_bestOf 36 = .ok (.ireturn, 1) := by decide +kernel
theorem dX4_setHandicaps_0 : decode cX4_setHandicaps 0 = .ok (.iconst 0, 1) := by decide +kernel
theorem dX4_setHandicaps_1 : decode cX4_setHandicaps 1 = .ok (.istore_n 2, 1) := by decide +kernel
theorem dX4_setHandicaps_2 : decode cX4_setHandicaps 2 = .ok (.iload_n 2, 1) := by decide +kernel
theorem dX4_setHandicaps_3 : decode cX4_setHandicaps 3 = .ok (.bipush 6, 2) := by decide +kernel
theorem dX4_setHandicaps_5 : decode cX4_setHandicaps 5 = .ok (.if_icmp .ge 29, 3) := by decide +kernel
theorem dX4_setHandicaps_8 : decode cX4_setHandicaps 8 = .ok (.aload_n 0, 1) := by decide +kernel
theorem dX4_setHandicaps_9 : decode cX4_setHandicaps 9 = .ok (.getfield 18, 3) := by decide +kernel
theorem dX4_setHandicaps_12 : decode cX4_setHandicaps 12 = .ok (.iload_n 2, 1) := by decide +kernel
theorem dX4_setHandicaps_13 : decode cX4_setHandicaps 13 = .ok (.aload_n 1, 1) := by decide +kernel
theorem dX4_setHandicaps_14 : decode cX4_setHandicaps 14 = .ok (.aload_n 0, 1) := by decide +kernel
theorem dX4_setHandicaps_15 : decode cX4_setHandicaps 15 = .ok (.iload_n 2, 1) := by decide +kernel
theorem dX4_setHandicaps_16 : decode cX4_setHandicaps 16 = .ok (.invokevirtual 44, 3) := by decide +kernel
theorem dX4_setHandicaps_19 : decode cX4_setHandicaps 19 = .ok (.aload_n 0, 1) := by decide +kernel
theorem dX4_setHandicaps_20 : decode cX4_setHandicaps 20 = .ok (.iload_n 2, 1) := by decide +kernel
theorem dX4_setHandicaps_21 : decode cX4_setHandicaps 21 = .ok (.invokevirtual 25, 3) := by decide +kernel
theorem dX4_setHandicaps_24 : decode cX4_setHandicaps 24 = .ok (.invokevirtual 47, 3) := by decide +kernel
theorem dX4_setHandicaps_27 : decode cX4_setHandicaps 27 = .ok (.iastore, 1) := by decide +kernel
theorem dX4_setHandicaps_28 : decode cX4_setHandicaps 28 = .ok (.iinc 2 1, 3) := by decide +kernel
theorem dX4_setHandicaps_31 : decode cX4_setHandicaps 31 = .ok (.goto (-29), 3) := by decide +kernel
theorem dX4_setHandicaps_34 : decode cX4_setHandicaps 34 = .ok (.return_, 1) := by decide +kernel
theorem dX4_handicapOf_0 : decode cX4_handicapOf 0 = .ok (.aload_n 0, 1) := by decide +kernel
theorem dX4_handicapOf_1 : decode cX4_handicapOf 1 = .ok (.iload_n 1, 1) := by decide +kernel
theorem dX4_handicapOf_2 : decode cX4_handicapOf 2 = .ok (.invokevirtual 21, 3) := by decide +kernel
theorem dX4_handicapOf_5 : decode cX4_handicapOf 5 = .ok (.ifCond .eq 12, 3) := by decide +kernel
theorem dX4_handicapOf_8 : decode cX4_handicapOf 8 = .ok (.aload_n 0, 1) := by decide +kernel
theorem dX4_handicapOf_9 : decode cX4_handicapOf 9 = .ok (.getfield 18, 3) := by decide +kernel
theorem dX4_handicapOf_12 : decode cX4_handicapOf 12 = .ok (.iload_n 1, 1) := by decide +kernel
theorem dX4_handicapOf_13 : decode cX4_handicapOf 13 = .ok (.iaload, 1) := by decide +kernel
theorem dX4_handicapOf_14 : decode cX4_handicapOf 14 = .ok (.goto 4, 3) := by decide +kernel
theorem dX4_handicapOf_17 : decode cX4_handicapOf 17 = .ok (.iconst 0, 1) := by decide +kernel
theorem dX4_handicapOf_18 : decode cX4_handicapOf 18 = .ok (.ireturn, 1) := by decide +kernel
theorem dX4_meeting_0 : decode cX4_meeting 0 = .ok (.aload_n 0, 1) := by decide +kernel
theorem dX4_meeting_1 : decode cX4_meeting 1 = .ok (.iload_n 1, 1) := by decide +kernel
theorem dX4_meeting_2 : decode cX4_meeting 2 = .ok (.invokevirtual 25, 3) := by decide +kernel
theorem dX4_meeting_5 : decode cX4_meeting 5 = .ok (.aload_n 0, 1) := by decide +kernel
theorem dX4_meeting_6 : decode cX4_meeting 6 = .ok (.iload_n 2, 1) := by decide +kernel
theorem dX4_meeting_7 : decode cX4_meeting 7 = .ok (.invokevirtual 25, 3) := by decide +kernel
theorem dX4_meeting_10 : decode cX4_meeting 10 = .ok (.invokestatic 52, 3) := by decide +kernel
theorem dX4_meeting_13 : decode cX4_meeting 13 = .ok (.istore_n 3, 1) := by decide +kernel
theorem dX4_meeting_14 : decode cX4_meeting 14 = .ok (.aload_n 0, 1) := by decide +kernel
theorem dX4_meeting_15 : decode cX4_meeting 15 = .ok (.iload_n 1, 1) := by decide +kernel
theorem dX4_meeting_16 : decode cX4_meeting 16 = .ok (.invokevirtual 55, 3) := by decide +kernel
theorem dX4_meeting_19 : decode cX4_meeting 19 = .ok (.aload_n 0, 1) := by decide +kernel
theorem dX4_meeting_20 : decode cX4_meeting 20 = .ok (.iload_n 2, 1) := by decide +kernel
theorem dX4_meeting_21 : decode cX4_meeting 21 = .ok (.invokevirtual 55, 3) := by decide +kernel
theorem dX4_meeting_24 : decode cX4_meeting 24 = .ok (.isub, 1) := by decide +kernel
theorem dX4_meeting_25 : decode cX4_meeting 25 = .ok (.istore 4, 2) := by decide +kernel
theorem dX4_meeting_27 : decode cX4_meeting 27 = .ok (.iconst 0, 1) := by decide +kernel
theorem dX4_meeting_28 : decode cX4_meeting 28 = .ok (.istore 5, 2) := by decide +kernel
theorem dX4_meeting_30 : decode cX4_meeting 30 = .ok (.iconst 0, 1) := by decide +kernel
theorem dX4_meeting_31 : decode cX4_meeting 31 = .ok (.istore 6, 2) := by decide +kernel
theorem dX4_meeting_33 : decode cX4_meeting 33 = .ok (.iload 6, 2) := by decide +kernel
theorem dX4_meeting_35 : decode cX4_meeting 35 = .ok (.iload_n 3, 1) := by decide +kernel
theorem dX4_meeting_36 : decode cX4_meeting 36 = .ok (.if_icmp .ge 37, 3) := by decide +kernel
theorem dX4_meeting_39 : decode cX4_meeting 39 = .ok (.iload 5, 2) := by decide +kernel
theorem dX4_meeting_41 : decode cX4_meeting 41 = .ok (.iconst 1, 1) := by decide +kernel
theorem dX4_meeting_42 : decode cX4_meeting 42 = .ok (.aload_n 0, 1) := by decide +kernel
theorem dX4_meeting_43 : decode cX4_meeting 43 = .ok (.iload_n 1, 1) := by decide +kernel
theorem dX4_meeting_44 : decode cX4_meeting 44 = .ok (.iload 6, 2) := by decide +kernel
theorem dX4_meeting_46 : decode cX4_meeting 46 = .ok (.invokevirtual 29, 3) := by decide +kernel
theorem dX4_meeting_49 : decode cX4_meeting 49 = .ok (.iload 4, 2) := by decide +kernel
theorem dX4_meeting_51 : decode cX4_meeting 51 = .ok (.iadd, 1) := by decide +kernel
theorem dX4_meeting_52 : decode cX4_meeting 52 = .ok (.aload_n 0, 1) := by decide +kernel
theorem dX4_meeting_53 : decode cX4_meeting 53 = .ok (.iload_n 2, 1) := by decide +kernel
theorem dX4_meeting_54 : decode cX4_meeting 54 = .ok (.iload 6, 2) := by decide +kernel
theorem dX4_meeting_56 : decode cX4_meeting 56 = .ok (.invokevirtual 29, 3) := by decide +kernel
theorem dX4_meeting_59 : decode cX4_meeting 59 = .ok (.isub, 1) := by decide +kernel
theorem dX4_meeting_60 : decode cX4_meeting 60 = .ok (.invokestatic 58, 3) := by decide +kernel
theorem dX4_meeting_63 : decode cX4_meeting 63 = .ok (.iadd, 1) := by decide +kernel
theorem dX4_meeting_64 : decode cX4_meeting 64 = .ok (.iadd, 1) := by decide +kernel
theorem dX4_meeting_65 : decode cX4_meeting 65 = .ok (.istore 5, 2) := by decide +kernel
theorem dX4_meeting_67 : decode cX4_meeting 67 = .ok (.iinc 6 1, 3) := by decide +kernel
theorem dX4_meeting_70 : decode cX4_meeting 70 = .ok (.goto (-37), 3) := by decide +kernel
theorem dX4_meeting_73 : decode cX4_meeting 73 = .ok (.iload 5, 2) := by decide +kernel
theorem dX4_meeting_75 : decode cX4_meeting 75 = .ok (.ireturn, 1) := by decide +kernel
theorem dX4_gathered_0 : decode cX4_gathered 0 = .ok (.iconst 0, 1) := by decide +kernel
theorem dX4_gathered_1 : decode cX4_gathered 1 = .ok (.istore_n 2, 1) := by decide +kernel
theorem dX4_gathered_2 : decode cX4_gathered 2 = .ok (.iconst 0, 1) := by decide +kernel
theorem dX4_gathered_3 : decode cX4_gathered 3 = .ok (.istore_n 3, 1) := by decide +kernel
theorem dX4_gathered_4 : decode cX4_gathered 4 = .ok (.iload_n 3, 1) := by decide +kernel
theorem dX4_gathered_5 : decode cX4_gathered 5 = .ok (.bipush 6, 2) := by decide +kernel
theorem dX4_gathered_7 : decode cX4_gathered 7 = .ok (.if_icmp .ge 27, 3) := by decide +kernel
theorem dX4_gathered_10 : decode cX4_gathered 10 = .ok (.iload_n 2, 1) := by decide +kernel
theorem dX4_gathered_11 : decode cX4_gathered 11 = .ok (.iload_n 3, 1) := by decide +kernel
theorem dX4_gathered_12 : decode cX4_gathered 12 = .ok (.iload_n 1, 1) := by decide +kernel
theorem dX4_gathered_13 : decode cX4_gathered 13 = .ok (.if_icmp .ne 7, 3) := by decide +kernel
theorem dX4_gathered_16 : decode cX4_gathered 16 = .ok (.iconst 0, 1) := by decide +kernel
theorem dX4_gathered_17 : decode cX4_gathered 17 = .ok (.goto 9, 3) := by decide +kernel
theorem dX4_gathered_20 : decode cX4_gathered 20 = .ok (.aload_n 0, 1) := by decide +kernel
theorem dX4_gathered_21 : decode cX4_gathered 21 = .ok (.iload_n 1, 1) := by decide +kernel
theorem dX4_gathered_22 : decode cX4_gathered 22 = .ok (.iload_n 3, 1) := by decide +kernel
theorem dX4_gathered_23 : decode cX4_gathered 23 = .ok (.invokevirtual 63, 3) := by decide +kernel
theorem dX4_gathered_26 : decode cX4_gathered 26 = .ok (.iadd, 1) := by decide +kernel
theorem dX4_gathered_27 : decode cX4_gathered 27 = .ok (.istore_n 2, 1) := by decide +kernel
theorem dX4_gathered_28 : decode cX4_gathered 28 = .ok (.iinc 3 1, 3) := by decide +kernel
theorem dX4_gathered_31 : decode cX4_gathered 31 = .ok (.goto (-27), 3) := by decide +kernel
theorem dX4_gathered_34 : decode cX4_gathered 34 = .ok (.iload_n 2, 1) := by decide +kernel
theorem dX4_gathered_35 : decode cX4_gathered 35 = .ok (.ireturn, 1) := by decide +kernel
theorem dX4_countAhead_0 : decode cX4_countAhead 0 = .ok (.aload_n 0, 1) := by decide +kernel
theorem dX4_countAhead_1 : decode cX4_countAhead 1 = .ok (.iload_n 1, 1) := by decide +kernel
theorem dX4_countAhead_2 : decode cX4_countAhead 2 = .ok (.invokevirtual 66, 3) := by decide +kernel
theorem dX4_countAhead_5 : decode cX4_countAhead 5 = .ok (.istore_n 2, 1) := by decide +kernel
theorem dX4_countAhead_6 : decode cX4_countAhead 6 = .ok (.iconst 0, 1) := by decide +kernel
theorem dX4_countAhead_7 : decode cX4_countAhead 7 = .ok (.istore_n 3, 1) := by decide +kernel
theorem dX4_countAhead_8 : decode cX4_countAhead 8 = .ok (.iconst 0, 1) := by decide +kernel
theorem dX4_countAhead_9 : decode cX4_countAhead 9 = .ok (.istore 4, 2) := by decide +kernel
theorem dX4_countAhead_11 : decode cX4_countAhead 11 = .ok (.iload 4, 2) := by decide +kernel
theorem dX4_countAhead_13 : decode cX4_countAhead 13 = .ok (.bipush 6, 2) := by decide +kernel
theorem dX4_countAhead_15 : decode cX4_countAhead 15 = .ok (.if_icmp .ge 27, 3) := by decide +kernel
theorem dX4_countAhead_18 : decode cX4_countAhead 18 = .ok (.iload_n 3, 1) := by decide +kernel
theorem dX4_countAhead_19 : decode cX4_countAhead 19 = .ok (.aload_n 0, 1) := by decide +kernel
theorem dX4_countAhead_20 : decode cX4_countAhead 20 = .ok (.iload 4, 2) := by decide +kernel
theorem dX4_countAhead_22 : decode cX4_countAhead 22 = .ok (.invokevirtual 66, 3) := by decide +kernel
theorem dX4_countAhead_25 : decode cX4_countAhead 25 = .ok (.iload_n 2, 1) := by decide +kernel
theorem dX4_countAhead_26 : decode cX4_countAhead 26 = .ok (.if_icmp .le 7, 3) := by decide +kernel
theorem dX4_countAhead_29 : decode cX4_countAhead 29 = .ok (.iconst 1, 1) := by decide +kernel
theorem dX4_countAhead_30 : decode cX4_countAhead 30 = .ok (.goto 4, 3) := by decide +kernel
theorem dX4_countAhead_33 : decode cX4_countAhead 33 = .ok (.iconst 0, 1) := by decide +kernel
theorem dX4_countAhead_34 : decode cX4_countAhead 34 = .ok (.iadd, 1) := by decide +kernel
theorem dX4_countAhead_35 : decode cX4_countAhead 35 = .ok (.istore_n 3, 1) := by decide +kernel
theorem dX4_countAhead_36 : decode cX4_countAhead 36 = .ok (.iinc 4 1, 3) := by decide +kernel
theorem dX4_countAhead_39 : decode cX4_countAhead 39 = .ok (.goto (-28), 3) := by decide +kernel
theorem dX4_countAhead_42 : decode cX4_countAhead 42 = .ok (.iload_n 3, 1) := by decide +kernel
theorem dX4_countAhead_43 : decode cX4_countAhead 43 = .ok (.ireturn, 1) := by decide +kernel
theorem dX5_init_0 : decode cX5_init 0 = .ok (.aload_n 0, 1) := by decide +kernel
theorem dX5_init_1 : decode cX5_init 1 = .ok (.invokespecial 3, 3) := by decide +kernel
theorem dX5_init_4 : decode cX5_init 4 = .ok (.aload_n 0, 1) := by decide +kernel
theorem dX5_init_5 : decode cX5_init 5 = .ok (.bipush 27, 2) := by decide +kernel
theorem dX5_init_7 : decode cX5_init 7 = .ok (.newarray .int, 2) := by decide +kernel
theorem dX5_init_9 : decode cX5_init 9 = .ok (.putfield 9, 3) := by decide +kernel
theorem dX5_init_12 : decode cX5_init 12 = .ok (.aload_n 0, 1) := by decide +kernel
theorem dX5_init_13 : decode cX5_init 13 = .ok (.bipush 9, 2) := by decide +kernel
theorem dX5_init_15 : decode cX5_init 15 = .ok (.newarray .int, 2) := by decide +kernel
theorem dX5_init_17 : decode cX5_init 17 = .ok (.putfield 15, 3) := by decide +kernel
theorem dX5_init_20 : decode cX5_init 20 = .ok (.aload_n 0, 1) := by decide +kernel
theorem dX5_init_21 : decode cX5_init 21 = .ok (.aload_n 1, 1) := by decide +kernel
theorem dX5_init_22 : decode cX5_init 22 = .ok (.invokevirtual 18, 3) := by decide +kernel
theorem dX5_init_25 : decode cX5_init 25 = .ok (.return_, 1) := by decide +kernel
theorem dX5_empty_0 : decode cX5_empty 0 = .ok (.aload_n 0, 1) := by decide +kernel
theorem dX5_empty_1 : decode cX5_empty 1 = .ok (.aload_n 1, 1) := by decide +kernel
theorem dX5_empty_2 : decode cX5_empty 2 = .ok (.putfield 22, 3) := by decide +kernel
theorem dX5_empty_5 : decode cX5_empty 5 = .ok (.aload_n 0, 1) := by decide +kernel
theorem dX5_empty_6 : decode cX5_empty 6 = .ok (.iconst 0, 1) := by decide +kernel
theorem dX5_empty_7 : decode cX5_empty 7 = .ok (.putfield 26, 3) := by decide +kernel
theorem dX5_empty_10 : decode cX5_empty 10 = .ok (.aload_n 0, 1) := by decide +kernel
theorem dX5_empty_11 : decode cX5_empty 11 = .ok (.iconst 0, 1) := by decide +kernel
theorem dX5_empty_12 : decode cX5_empty 12 = .ok (.putfield 30, 3) := by decide +kernel
theorem dX5_empty_15 : decode cX5_empty 15 = .ok (.aload_n 0, 1) := by decide +kernel
theorem dX5_empty_16 : decode cX5_empty 16 = .ok (.iconst 0, 1) := by decide +kernel
theorem dX5_empty_17 : decode cX5_empty 17 = .ok (.putfield 33, 3) := by decide +kernel
theorem dX5_empty_20 : decode cX5_empty 20 = .ok (.aload_n 0, 1) := by decide +kernel
theorem dX5_empty_21 : decode cX5_empty 21 = .ok (.aload_n 1, 1) := by decide +kernel
theorem dX5_empty_22 : decode cX5_empty 22 = .ok (.getfield 36, 3) := by decide +kernel
theorem dX5_empty_25 : decode cX5_empty 25 = .ok (.putfield 41, 3) := by decide +kernel
theorem dX5_empty_28 : decode cX5_empty 28 = .ok (.aload_n 0, 1) := by decide +kernel
theorem dX5_empty_29 : decode cX5_empty 29 = .ok (.iconst 0, 1) := by decide +kernel
theorem dX5_empty_30 : decode cX5_empty 30 = .ok (.putfield 44, 3) := by decide +kernel
theorem dX5_empty_33 : decode cX5_empty 33 = .ok (.aload_n 0, 1) := by decide +kernel
theorem dX5_empty_34 : decode cX5_empty 34 = .ok (.getfield 15, 3) := by decide +kernel
theorem dX5_empty_37 : decode cX5_empty 37 = .ok (.iconst 0, 1) := by decide +kernel
theorem dX5_empty_38 : decode cX5_empty 38 = .ok (.iconst 0, 1) := by decide +kernel
theorem dX5_empty_39 : decode cX5_empty 39 = .ok (.iastore, 1) := by decide +kernel
theorem dX5_empty_40 : decode cX5_empty 40 = .ok (.return_, 1) := by decide +kernel
theorem dX5_isWhole_0 : decode cX5_isWhole 0 = .ok (.aload_n 0, 1) := by decide +kernel
theorem dX5_isWhole_1 : decode cX5_isWhole 1 = .ok (.getfield 30, 3) := by decide +kernel
theorem dX5_isWhole_4 : decode cX5_isWhole 4 = .ok (.aload_n 0, 1) := by decide +kernel
theorem dX5_isWhole_5 : decode cX5_isWhole 5 = .ok (.getfield 22, 3) := by decide +kernel
theorem dX5_isWhole_8 : decode cX5_isWhole 8 = .ok (.getfield 47, 3) := by decide +kernel
theorem dX5_isWhole_11 : decode cX5_isWhole 11 = .ok (.if_icmp .lt 18, 3) := by decide +kernel
theorem dX5_isWhole_14 : decode cX5_isWhole 14 = .ok (.aload_n 0, 1) := by decide +kernel
theorem dX5_isWhole_15 : decode cX5_isWhole 15 = .ok (.getfield 26, 3) := by decide +kernel
theorem dX5_isWhole_18 : decode cX5_isWhole 18 = .ok (.aload_n 0, 1) := by decide +kernel
theorem dX5_isWhole_19 : decode cX5_isWhole 19 = .ok (.getfield 44, 3) := by decide +kernel
theorem dX5_isWhole_22 : decode cX5_isWhole 22 = .ok (.if_icmp .lt 7, 3) := by decide +kernel
theorem dX5_isWhole_25 : decode cX5_isWhole 25 = .ok (.iconst 1, 1) := by decide +kernel
theorem dX5_isWhole_26 : decode cX5_isWhole 26 = .ok (.goto 4, 3) := by decide +kernel
theorem dX5_isWhole_29 : decode cX5_isWhole 29 = .ok (.iconst 0, 1) := by decide +kernel
theorem dX5_isWhole_30 : decode cX5_isWhole 30 = .ok (.ireturn, 1) := by decide +kernel
theorem dX5_add_0 : decode cX5_add 0 = .ok (.aload_n 0, 1) := by decide +kernel
theorem dX5_add_1 : decode cX5_add 1 = .ok (.invokevirtual 50, 3) := by decide +kernel
theorem dX5_add_4 : decode cX5_add 4 = .ok (.ifCond .ne 30, 3) := by decide +kernel
theorem dX5_add_7 : decode cX5_add 7 = .ok (.aload_n 0, 1) := by decide +kernel
theorem dX5_add_8 : decode cX5_add 8 = .ok (.getfield 26, 3) := by decide +kernel
theorem dX5_add_11 : decode cX5_add 11 = .ok (.bipush 27, 2) := by decide +kernel
theorem dX5_add_13 : decode cX5_add 13 = .ok (.if_icmp .ge 21, 3) := by decide +kernel
theorem dX5_add_16 : decode cX5_add 16 = .ok (.iload_n 1, 1) := by decide +kernel
theorem dX5_add_17 : decode cX5_add 17 = .ok (.aload_n 0, 1) := by decide +kernel
theorem dX5_add_18 : decode cX5_add 18 = .ok (.getfield 41, 3) := by decide +kernel
theorem dX5_add_21 : decode cX5_add 21 = .ok (.if_icmp .gt 13, 3) := by decide +kernel
theorem dX5_add_24 : decode cX5_add 24 = .ok (.iload_n 1, 1) := by decide +kernel
theorem dX5_add_25 : decode cX5_add 25 = .ok (.ifCond .ge 11, 3) := by decide +kernel
theorem dX5_add_28 : decode cX5_add 28 = .ok (.iload_n 1, 1) := by decide +kernel
theorem dX5_add_29 : decode cX5_add 29 = .ok (.bipush (-2), 2) := by decide +kernel
theorem dX5_add_31 : decode cX5_add 31 = .ok (.if_icmp .eq 5, 3) := by decide +kernel
theorem dX5_add_34 : decode cX5_add 34 = .ok (.iconst 0, 1) := by decide +kernel
theorem dX5_add_35 : decode cX5_add 35 = .ok (.ireturn, 1) := by decide +kernel
theorem dX5_add_36 : decode cX5_add 36 = .ok (.aload_n 0, 1) := by decide +kernel
theorem dX5_add_37 : decode cX5_add 37 = .ok (.getfield 9, 3) := by decide +kernel
theorem dX5_add_40 : decode cX5_add 40 = .ok (.aload_n 0, 1) := by decide +kernel
theorem dX5_add_41 : decode cX5_add 41 = .ok (.getfield 26, 3) := by decide +kernel
theorem dX5_add_44 : decode cX5_add 44 = .ok (.iload_n 1, 1) := by decide +kernel
theorem dX5_add_45 : decode cX5_add 45 = .ok (.iastore, 1) := by decide +kernel
theorem dX5_add_46 : decode cX5_add 46 = .ok (.aload_n 0, 1) := by decide +kernel
theorem dX5_add_47 : decode cX5_add 47 = .ok (.dup, 1) := by decide +kernel
theorem dX5_add_48 : decode cX5_add 48 = .ok (.getfield 26, 3) := by decide +kernel
theorem dX5_add_51 : decode cX5_add 51 = .ok (.iconst 1, 1) := by decide +kernel
theorem dX5_add_52 : decode cX5_add 52 = .ok (.iadd, 1) := by decide +kernel
theorem dX5_add_53 : decode cX5_add 53 = .ok (.putfield 26, 3) := by decide +kernel
theorem dX5_add_56 : decode cX5_add 56 = .ok (.aload_n 0, 1) := by decide +kernel
theorem dX5_add_57 : decode cX5_add 57 = .ok (.dup, 1) := by decide +kernel
theorem dX5_add_58 : decode cX5_add 58 = .ok (.getfield 33, 3) := by decide +kernel
theorem dX5_add_61 : decode cX5_add 61 = .ok (.iconst 1, 1) := by decide +kernel
theorem dX5_add_62 : decode cX5_add 62 = .ok (.iadd, 1) := by decide +kernel
theorem dX5_add_63 : decode cX5_add 63 = .ok (.putfield 33, 3) := by decide +kernel
theorem dX5_add_66 : decode cX5_add 66 = .ok (.aload_n 0, 1) := by decide +kernel
theorem dX5_add_67 : decode cX5_add 67 = .ok (.dup, 1) := by decide +kernel
theorem dX5_add_68 : decode cX5_add 68 = .ok (.getfield 41, 3) := by decide +kernel
theorem dX5_add_71 : decode cX5_add 71 = .ok (.iload_n 1, 1) := by decide +kernel
theorem dX5_add_72 : decode cX5_add 72 = .ok (.iconst 0, 1) := by decide +kernel
theorem dX5_add_73 : decode cX5_add 73 = .ok (.invokestatic 54, 3) := by decide +kernel
theorem dX5_add_76 : decode cX5_add 76 = .ok (.isub, 1) := by decide +kernel
theorem dX5_add_77 : decode cX5_add 77 = .ok (.putfield 41, 3) := by decide +kernel
theorem dX5_add_80 : decode cX5_add 80 = .ok (.aload_n 0, 1) := by decide +kernel
theorem dX5_add_81 : decode cX5_add 81 = .ok (.getfield 30, 3) := by decide +kernel
theorem dX5_add_84 : decode cX5_add 84 = .ok (.aload_n 0, 1) := by decide +kernel
theorem dX5_add_85 : decode cX5_add 85 = .ok (.getfield 22, 3) := by decide +kernel
theorem dX5_add_88 : decode cX5_add 88 = .ok (.getfield 47, 3) := by decide +kernel
theorem dX5_add_91 : decode cX5_add 91 = .ok (.if_icmp .lt 31, 3) := by decide +kernel
theorem dX5_add_94 : decode cX5_add 94 = .ok (.aload_n 0, 1) := by decide +kernel
theorem dX5_add_95 : decode cX5_add 95 = .ok (.aload_n 0, 1) := by decide +kernel
theorem dX5_add_96 : decode cX5_add 96 = .ok (.getfield 41, 3) := by decide +kernel
theorem dX5_add_99 : decode cX5_add 99 = .ok (.ifCond .ne 13, 3) := by decide +kernel
theorem dX5_add_102 : decode cX5_add 102 = .ok (.aload_n 0, 1) := by decide +kernel
theorem dX5_add_103 : decode cX5_add 103 = .ok (.getfield 22, 3) := by decide +kernel
theorem dX5_add_106 : decode cX5_add 106 = .ok (.getfield 36, 3) := by decide +kernel
theorem dX5_add_109 : decode cX5_add 109 = .ok (.goto 7, 3) := by decide +kernel
theorem dX5_add_112 : decode cX5_add 112 = .ok (.aload_n 0, 1) := by decide +kernel
theorem dX5_add_113 : decode cX5_add 113 = .ok (.getfield 41, 3) := by decide +kernel
theorem dX5_add_116 : decode cX5_add 116 = .ok (.putfield 41, 3) := by decide +kernel
theorem dX5_add_119 : decode cX5_add 119 = .ok (.goto 28, 3) := by decide +kernel
theorem dX5_add_122 : decode cX5_add 122 = .ok (.aload_n 0, 1) := by decide +kernel
theorem dX5_add_123 : decode cX5_add 123 = .ok (.getfield 41, 3) := by decide +kernel
theorem dX5_add_126 : decode cX5_add 126 = .ok (.ifCond .eq 17, 3) := by decide +kernel
theorem dX5_add_129 : decode cX5_add 129 = .ok (.aload_n 0, 1) := by decide +kernel
theorem dX5_add_130 : decode cX5_add 130 = .ok (.getfield 33, 3) := by decide +kernel
theorem dX5_add_133 : decode cX5_add 133 = .ok (.aload_n 0, 1) := by decide +kernel
theorem dX5_add_134 : decode cX5_add 134 = .ok (.getfield 22, 3) := by decide +kernel
theorem dX5_add_137 : decode cX5_add 137 = .ok (.getfield 60, 3) := by decide +kernel
theorem dX5_add_140 : decode cX5_add 140 = .ok (.if_icmp .lt 7, 3) := by decide +kernel
theorem dX5_add_143 : decode cX5_add 143 = .ok (.aload_n 0, 1) := by decide +kernel
theorem dX5_add_144 : decode cX5_add 144 = .ok (.invokevirtual 63, 3) := by decide +kernel
theorem dX5_add_147 : decode cX5_add 147 = .ok (.iconst 1, 1) := by decide +kernel
theorem dX5_add_148 : decode cX5_add 148 = .ok (.ireturn, 1) := by decide +kernel
theorem dX5_closeFrame_0 : decode cX5_closeFrame 0 = .ok (.aload_n 0, 1) := by decide +kernel
theorem dX5_closeFrame_1 : decode cX5_closeFrame 1 = .ok (.getfield 41, 3) := by decide +kernel
theorem dX5_closeFrame_4 : decode cX5_closeFrame 4 = .ok (.ifCond .ne 30, 3) := by decide +kernel
theorem dX5_closeFrame_7 : decode cX5_closeFrame 7 = .ok (.aload_n 0, 1) := by decide +kernel
theorem dX5_closeFrame_8 : decode cX5_closeFrame 8 = .ok (.aload_n 0, 1) := by decide +kernel
theorem dX5_closeFrame_9 : decode cX5_closeFrame 9 = .ok (.getfield 44, 3) := by decide +kernel
theorem dX5_closeFrame_12 : decode cX5_closeFrame 12 = .ok (.aload_n 0, 1) := by decide +kernel
theorem dX5_closeFrame_13 : decode cX5_closeFrame 13 = .ok (.getfield 26, 3) := by decide +kernel
theorem dX5_closeFrame_16 : decode cX5_closeFrame 16 = .ok (.aload_n 0, 1) := by decide +kernel
theorem dX5_closeFrame_17 : decode cX5_closeFrame 17 = .ok (.getfield 22, 3) := by decide +kernel
theorem dX5_closeFrame_20 : decode cX5_closeFrame 20 = .ok (.aload_n 0, 1) := by decide +kernel
theorem dX5_closeFrame_21 : decode cX5_closeFrame 21 = .ok (.getfield 33, 3) := by decide +kernel
theorem dX5_closeFrame_24 : decode cX5_closeFrame 24 = .ok (.invokevirtual 66, 3) := by decide +kernel
theorem dX5_closeFrame_27 : decode cX5_closeFrame 27 = .ok (.iadd, 1) := by decide +kernel
theorem dX5_closeFrame_28 : decode cX5_closeFrame 28 = .ok (.invokestatic 54, 3) := by decide +kernel
theorem dX5_closeFrame_31 : decode cX5_closeFrame 31 = .ok (.putfield 44, 3) := by decide +kernel
theorem dX5_closeFrame_34 : decode cX5_closeFrame 34 = .ok (.aload_n 0, 1) := by decide +kernel
theorem dX5_closeFrame_35 : decode cX5_closeFrame 35 = .ok (.dup, 1) := by decide +kernel
theorem dX5_closeFrame_36 : decode cX5_closeFrame 36 = .ok (.getfield 30, 3) := by decide +kernel
theorem dX5_closeFrame_39 : decode cX5_closeFrame 39 = .ok (.iconst 1, 1) := by decide +kernel
theorem dX5_closeFrame_40 : decode cX5_closeFrame 40 = .ok (.iadd, 1) := by decide +kernel
theorem dX5_closeFrame_41 : decode cX5_closeFrame 41 = .ok (.putfield 30, 3) := by decide +kernel
theorem dX5_closeFrame_44 : decode cX5_closeFrame 44 = .ok (.aload_n 0, 1) := by decide +kernel
theorem dX5_closeFrame_45 : decode cX5_closeFrame 45 = .ok (.getfield 30, 3) := by decide +kernel
theorem dX5_closeFrame_48 : decode cX5_closeFrame 48 = .ok (.aload_n 0, 1) := by decide +kernel
theorem dX5_closeFrame_49 : decode cX5_closeFrame 49 = .ok (.getfield 15, 3) := by decide +kernel
theorem dX5_closeFrame_52 : decode cX5_closeFrame 52 = .ok (.arraylength, 1) := by decide +kernel
theorem dX5_closeFrame_53 : decode cX5_closeFrame 53 = .ok (.if_icmp .ge 16, 3) := by decide +kernel
theorem dX5_closeFrame_56 : decode cX5_closeFrame 56 = .ok (.aload_n 0, 1) := by decide +kernel
theorem dX5_closeFrame_57 : decode cX5_closeFrame 57 = .ok (.getfield 15, 3) := by decide +kernel
theorem dX5_closeFrame_60 : decode cX5_closeFrame 60 = .ok (.aload_n 0, 1) := by decide +kernel
theorem dX5_closeFrame_61 : decode cX5_closeFrame 61 = .ok (.getfield 30, 3) := by decide +kernel
theorem dX5_closeFrame_64 : decode cX5_closeFrame 64 = .ok (.aload_n 0, 1) := by decide +kernel
theorem dX5_closeFrame_65 : decode cX5_closeFrame 65 = .ok (.getfield 26, 3) := by decide +kernel
theorem dX5_closeFrame_68 : decode cX5_closeFrame 68 = .ok (.iastore, 1) := by decide +kernel
theorem dX5_closeFrame_69 : decode cX5_closeFrame 69 = .ok (.aload_n 0, 1) := by decide +kernel
theorem dX5_closeFrame_70 : decode cX5_closeFrame 70 = .ok (.iconst 0, 1) := by decide +kernel
theorem dX5_closeFrame_71 : decode cX5_closeFrame 71 = .ok (.putfield 33, 3) := by decide +kernel
theorem dX5_closeFrame_74 : decode cX5_closeFrame 74 = .ok (.aload_n 0, 1) := by decide +kernel
theorem dX5_closeFrame_75 : decode cX5_closeFrame 75 = .ok (.aload_n 0, 1) := by decide +kernel
theorem dX5_closeFrame_76 : decode cX5_closeFrame 76 = .ok (.getfield 22, 3) := by decide +kernel
theorem dX5_closeFrame_79 : decode cX5_closeFrame 79 = .ok (.getfield 36, 3) := by decide +kernel
theorem dX5_closeFrame_82 : decode cX5_closeFrame 82 = .ok (.putfield 41, 3) := by decide +kernel
theorem dX5_closeFrame_85 : decode cX5_closeFrame 85 = .ok (.return_, 1) := by decide +kernel
theorem dX5_takeLast_0 : decode cX5_takeLast 0 = .ok (.aload_n 0, 1) := by decide +kernel
theorem dX5_takeLast_1 : decode cX5_takeLast 1 = .ok (.getfield 26, 3) := by decide +kernel
theorem dX5_takeLast_4 : decode cX5_takeLast 4 = .ok (.ifCond .ne 5, 3) := by decide +kernel
theorem dX5_takeLast_7 : decode cX5_takeLast 7 = .ok (.iconst 0, 1) := by decide +kernel
theorem dX5_takeLast_8 : decode cX5_takeLast 8 = .ok (.ireturn, 1) := by decide +kernel
theorem dX5_takeLast_9 : decode cX5_takeLast 9 = .ok (.aload_n 0, 1) := by decide +kernel
theorem dX5_takeLast_10 : decode cX5_takeLast 10 = .ok (.getfield 26, 3) := by decide +kernel
theorem dX5_takeLast_13 : decode cX5_takeLast 13 = .ok (.iconst 1, 1) := by decide +kernel
theorem dX5_takeLast_14 : decode cX5_takeLast 14 = .ok (.isub, 1) := by decide +kernel
theorem dX5_takeLast_15 : decode cX5_takeLast 15 = .ok (.istore_n 1, 1) := by decide +kernel
theorem dX5_takeLast_16 : decode cX5_takeLast 16 = .ok (.aload_n 0, 1) := by decide +kernel
theorem dX5_takeLast_17 : decode cX5_takeLast 17 = .ok (.aload_n 0, 1) := by decide +kernel
theorem dX5_takeLast_18 : decode cX5_takeLast 18 = .ok (.getfield 22, 3) := by decide +kernel
theorem dX5_takeLast_21 : decode cX5_takeLast 21 = .ok (.invokevirtual 18, 3) := by decide +kernel
theorem dX5_takeLast_24 : decode cX5_takeLast 24 = .ok (.iconst 0, 1) := by decide +kernel
theorem dX5_takeLast_25 : decode cX5_takeLast 25 = .ok (.istore_n 2, 1) := by decide +kernel
theorem dX5_takeLast_26 : decode cX5_takeLast 26 = .ok (.iload_n 2, 1) := by decide +kernel
theorem dX5_takeLast_27 : decode cX5_takeLast 27 = .ok (.iload_n 1, 1) := by decide +kernel
theorem dX5_takeLast_28 : decode cX5_takeLast 28 = .ok (.if_icmp .ge 26, 3) := by decide +kernel
theorem dX5_takeLast_31 : decode cX5_takeLast 31 = .ok (.iload_n 2, 1) := by decide +kernel
theorem dX5_takeLast_32 : decode cX5_takeLast 32 = .ok (.bipush 27, 2) := by decide +kernel
theorem dX5_takeLast_34 : decode cX5_takeLast 34 = .ok (.if_icmp .ge 20, 3) := by decide +kernel
theorem dX5_takeLast_37 : decode cX5_takeLast 37 = .ok (.aload_n 0, 1) := by decide +kernel
theorem dX5_takeLast_38 : decode cX5_takeLast 38 = .ok (.aload_n 0, 1) := by decide +kernel
theorem dX5_takeLast_39 : decode cX5_takeLast 39 = .ok (.getfield 9, 3) := by decide +kernel
theorem dX5_takeLast_42 : decode cX5_takeLast 42 = .ok (.iload_n 2, 1) := by decide +kernel
theorem dX5_takeLast_43 : decode cX5_takeLast 43 = .ok (.iaload, 1) := by decide +kernel
theorem dX5_takeLast_44 : decode cX5_takeLast 44 = .ok (.invokevirtual 70, 3) := by decide +kernel
theorem dX5_takeLast_47 : decode cX5_takeLast 47 = .ok (.pop, 1) := by decide +kernel
theorem dX5_takeLast_48 : decode cX5_takeLast 48 = .ok (.iinc 2 1, 3) := by decide +kernel
theorem dX5_takeLast_51 : decode cX5_takeLast 51 = .ok (.goto (-25), 3) := by decide +kernel
theorem dX5_takeLast_54 : decode cX5_takeLast 54 = .ok (.iconst 1, 1) := by decide +kernel
theorem dX5_takeLast_55 : decode cX5_takeLast 55 = .ok (.ireturn, 1) := by decide +kernel
theorem dX5_fillsEarned_0 : decode cX5_fillsEarned 0 = .ok (.aload_n 0, 1) := by decide +kernel
theorem dX5_fillsEarned_1 : decode cX5_fillsEarned 1 = .ok (.getfield 30, 3) := by decide +kernel
theorem dX5_fillsEarned_4 : decode cX5_fillsEarned 4 = .ok (.aload_n 0, 1) := by decide +kernel
theorem dX5_fillsEarned_5 : decode cX5_fillsEarned 5 = .ok (.getfield 22, 3) := by decide +kernel
theorem dX5_fillsEarned_8 : decode cX5_fillsEarned 8 = .ok (.getfield 47, 3) := by decide +kernel
theorem dX5_fillsEarned_11 : decode cX5_fillsEarned 11 = .ok (.if_icmp .ge 7, 3) := by decide +kernel
theorem dX5_fillsEarned_14 : decode cX5_fillsEarned 14 = .ok (.iconst 0, 1) := by decide +kernel
theorem dX5_fillsEarned_15 : decode cX5_fillsEarned 15 = .ok (.goto 23, 3) := by decide +kernel
theorem dX5_fillsEarned_18 : decode cX5_fillsEarned 18 = .ok (.iconst 0, 1) := by decide +kernel
theorem dX5_fillsEarned_19 : decode cX5_fillsEarned 19 = .ok (.aload_n 0, 1) := by decide +kernel
theorem dX5_fillsEarned_20 : decode cX5_fillsEarned 20 = .ok (.getfield 44, 3) := by decide +kernel
theorem dX5_fillsEarned_23 : decode cX5_fillsEarned 23 = .ok (.aload_n 0, 1) := by decide +kernel
theorem dX5_fillsEarned_24 : decode cX5_fillsEarned 24 = .ok (.aload_n 0, 1) := by decide +kernel
theorem dX5_fillsEarned_25 : decode cX5_fillsEarned 25 = .ok (.getfield 22, 3) := by decide +kernel
theorem dX5_fillsEarned_28 : decode cX5_fillsEarned 28 = .ok (.getfield 47, 3) := by decide +kernel
theorem dX5_fillsEarned_31 : decode cX5_fillsEarned 31 = .ok (.invokevirtual 74, 3) := by decide +kernel
theorem dX5_fillsEarned_34 : decode cX5_fillsEarned 34 = .ok (.isub, 1) := by decide +kernel
theorem dX5_fillsEarned_35 : decode cX5_fillsEarned 35 = .ok (.invokestatic 54, 3) := by decide +kernel
theorem dX5_fillsEarned_38 : decode cX5_fillsEarned 38 = .ok (.ireturn, 1) := by decide +kernel
theorem dX5_firstRoll_0 : decode cX5_firstRoll 0 = .ok (.iload_n 1, 1) := by decide +kernel
theorem dX5_firstRoll_1 : decode cX5_firstRoll 1 = .ok (.ifCond .lt 20, 3) := by decide +kernel
theorem dX5_firstRoll_4 : decode cX5_firstRoll 4 = .ok (.iload_n 1, 1) := by decide +kernel
theorem dX5_firstRoll_5 : decode cX5_firstRoll 5 = .ok (.aload_n 0, 1) := by decide +kernel
theorem dX5_firstRoll_6 : decode cX5_firstRoll 6 = .ok (.getfield 30, 3) := by decide +kernel
theorem dX5_firstRoll_9 : decode cX5_firstRoll 9 = .ok (.if_icmp .gt 12, 3) := by decide +kernel
theorem dX5_firstRoll_12 : decode cX5_firstRoll 12 = .ok (.iload_n 1, 1) := by decide +kernel
theorem dX5_firstRoll_13 : decode cX5_firstRoll 13 = .ok (.aload_n 0, 1) := by decide +kernel
theorem dX5_firstRoll_14 : decode cX5_firstRoll 14 = .ok (.getfield 15, 3) := by decide +kernel
theorem dX5_firstRoll_17 : decode cX5_firstRoll 17 = .ok (.arraylength, 1) := by decide +kernel
theorem dX5_firstRoll_18 : decode cX5_firstRoll 18 = .ok (.if_icmp .lt 10, 3) := by decide +kernel
theorem dX5_firstRoll_21 : decode cX5_firstRoll 21 = .ok (.aload_n 0, 1) := by decide +kernel
theorem dX5_firstRoll_22 : decode cX5_firstRoll 22 = .ok (.getfield 26, 3) := by decide +kernel
theorem dX5_firstRoll_25 : decode cX5_firstRoll 25 = .ok (.goto 9, 3) := by decide +kernel
theorem dX5_firstRoll_28 : decode cX5_firstRoll 28 = .ok (.aload_n 0, 1) := by decide +kernel
theorem dX5_firstRoll_29 : decode cX5_firstRoll 29 = .ok (.getfield 15, 3) := by decide +kernel
theorem dX5_firstRoll_32 : decode cX5_firstRoll 32 = .ok (.iload_n 1, 1) := by decide +kernel
theorem dX5_firstRoll_33 : decode cX5_firstRoll 33 = .ok (.iaload, 1) := by decide +kernel
theorem dX5_firstRoll_34 : decode cX5_firstRoll 34 = .ok (.ireturn, 1) := by decide +kernel
theorem dX5_rollAt_0 : decode cX5_rollAt 0 = .ok (.iload_n 1, 1) := by decide +kernel
theorem dX5_rollAt_1 : decode cX5_rollAt 1 = .ok (.ifCond .lt 17, 3) := by decide +kernel
theorem dX5_rollAt_4 : decode cX5_rollAt 4 = .ok (.iload_n 1, 1) := by decide +kernel
theorem dX5_rollAt_5 : decode cX5_rollAt 5 = .ok (.aload_n 0, 1) := by decide +kernel
theorem dX5_rollAt_6 : decode cX5_rollAt 6 = .ok (.getfield 26, 3) := by decide +kernel
theorem dX5_rollAt_9 : decode cX5_rollAt 9 = .ok (.if_icmp .ge 9, 3) := by decide +kernel
theorem dX5_rollAt_12 : decode cX5_rollAt 12 = .ok (.iload_n 1, 1) := by decide +kernel
theorem dX5_rollAt_13 : decode cX5_rollAt 13 = .ok (.bipush 27, 2) := by decide +kernel
theorem dX5_rollAt_15 : decode cX5_rollAt 15 = .ok (.if_icmp .lt 7, 3) := by decide +kernel
theorem dX5_rollAt_18 : decode cX5_rollAt 18 = .ok (.iconst (-1), 1) := by decide +kernel
theorem dX5_rollAt_19 : decode cX5_rollAt 19 = .ok (.goto 9, 3) := by decide +kernel
theorem dX5_rollAt_22 : decode cX5_rollAt 22 = .ok (.aload_n 0, 1) := by decide +kernel
theorem dX5_rollAt_23 : decode cX5_rollAt 23 = .ok (.getfield 9, 3) := by decide +kernel
theorem dX5_rollAt_26 : decode cX5_rollAt 26 = .ok (.iload_n 1, 1) := by decide +kernel
theorem dX5_rollAt_27 : decode cX5_rollAt 27 = .ok (.iaload, 1) := by decide +kernel
theorem dX5_rollAt_28 : decode cX5_rollAt 28 = .ok (.ireturn, 1) := by decide +kernel
theorem dX5_sizeOf_0 : decode cX5_sizeOf 0 = .ok (.aload_n 0, 1) := by decide +kernel
theorem dX5_sizeOf_1 : decode cX5_sizeOf 1 = .ok (.iload_n 1, 1) := by decide +kernel
theorem dX5_sizeOf_2 : decode cX5_sizeOf 2 = .ok (.iconst 1, 1) := by decide +kernel
theorem dX5_sizeOf_3 : decode cX5_sizeOf 3 = .ok (.iadd, 1) := by decide +kernel
theorem dX5_sizeOf_4 : decode cX5_sizeOf 4 = .ok (.invokevirtual 74, 3) := by decide +kernel
theorem dX5_sizeOf_7 : decode cX5_sizeOf 7 = .ok (.aload_n 0, 1) := by decide +kernel
theorem dX5_sizeOf_8 : decode cX5_sizeOf 8 = .ok (.iload_n 1, 1) := by decide +kernel
theorem dX5_sizeOf_9 : decode cX5_sizeOf 9 = .ok (.invokevirtual 74, 3) := by decide +kernel
theorem dX5_sizeOf_12 : decode cX5_sizeOf 12 = .ok (.isub, 1) := by decide +kernel
theorem dX5_sizeOf_13 : decode cX5_sizeOf 13 = .ok (.ireturn, 1) := by decide +kernel
theorem dX5_downIn_0 : decode cX5_downIn 0 = .ok (.aload_n 0, 1) := by decide +kernel
theorem dX5_downIn_1 : decode cX5_downIn 1 = .ok (.aload_n 0, 1) := by decide +kernel
theorem dX5_downIn_2 : decode cX5_downIn 2 = .ok (.iload_n 1, 1) := by decide +kernel
theorem dX5_downIn_3 : decode cX5_downIn 3 = .ok (.invokevirtual 74, 3) := by decide +kernel
theorem dX5_downIn_6 : decode cX5_downIn 6 = .ok (.aload_n 0, 1) := by decide +kernel
theorem dX5_downIn_7 : decode cX5_downIn 7 = .ok (.iload_n 1, 1) := by decide +kernel
theorem dX5_downIn_8 : decode cX5_downIn 8 = .ok (.invokevirtual 77, 3) := by decide +kernel
theorem dX5_downIn_11 : decode cX5_downIn 11 = .ok (.invokevirtual 80, 3) := by decide +kernel
theorem dX5_downIn_14 : decode cX5_downIn 14 = .ok (.ireturn, 1) := by decide +kernel
theorem dX5_foulsIn_0 : decode cX5_foulsIn 0 = .ok (.iconst 0, 1) := by decide +kernel
theorem dX5_foulsIn_1 : decode cX5_foulsIn 1 = .ok (.istore_n 2, 1) := by decide +kernel
theorem dX5_foulsIn_2 : decode cX5_foulsIn 2 = .ok (.aload_n 0, 1) := by decide +kernel
theorem dX5_foulsIn_3 : decode cX5_foulsIn 3 = .ok (.iload_n 1, 1) := by decide +kernel
theorem dX5_foulsIn_4 : decode cX5_foulsIn 4 = .ok (.invokevirtual 74, 3) := by decide +kernel
theorem dX5_foulsIn_7 : decode cX5_foulsIn 7 = .ok (.istore_n 3, 1) := by decide +kernel
theorem dX5_foulsIn_8 : decode cX5_foulsIn 8 = .ok (.iload_n 3, 1) := by decide +kernel
theorem dX5_foulsIn_9 : decode cX5_foulsIn 9 = .ok (.aload_n 0, 1) := by decide +kernel
theorem dX5_foulsIn_10 : decode cX5_foulsIn 10 = .ok (.iload_n 1, 1) := by decide +kernel
theorem dX5_foulsIn_11 : decode cX5_foulsIn 11 = .ok (.iconst 1, 1) := by decide +kernel
theorem dX5_foulsIn_12 : decode cX5_foulsIn 12 = .ok (.iadd, 1) := by decide +kernel
theorem dX5_foulsIn_13 : decode cX5_foulsIn 13 = .ok (.invokevirtual 74, 3) := by decide +kernel
theorem dX5_foulsIn_16 : decode cX5_foulsIn 16 = .ok (.if_icmp .ge 27, 3) := by decide +kernel
theorem dX5_foulsIn_19 : decode cX5_foulsIn 19 = .ok (.iload_n 2, 1) := by decide +kernel
theorem dX5_foulsIn_20 : decode cX5_foulsIn 20 = .ok (.aload_n 0, 1) := by decide +kernel
theorem dX5_foulsIn_21 : decode cX5_foulsIn 21 = .ok (.iload_n 3, 1) := by decide +kernel
theorem dX5_foulsIn_22 : decode cX5_foulsIn 22 = .ok (.invokevirtual 83, 3) := by decide +kernel
theorem dX5_foulsIn_25 : decode cX5_foulsIn 25 = .ok (.bipush (-2), 2) := by decide +kernel
theorem dX5_foulsIn_27 : decode cX5_foulsIn 27 = .ok (.if_icmp .ne 7, 3) := by decide +kernel
theorem dX5_foulsIn_30 : decode cX5_foulsIn 30 = .ok (.iconst 1, 1) := by decide +kernel
theorem dX5_foulsIn_31 : decode cX5_foulsIn 31 = .ok (.goto 4, 3) := by decide +kernel
theorem dX5_foulsIn_34 : decode cX5_foulsIn 34 = .ok (.iconst 0, 1) := by decide +kernel
theorem dX5_foulsIn_35 : decode cX5_foulsIn 35 = .ok (.iadd, 1) := by decide +kernel
theorem dX5_foulsIn_36 : decode cX5_foulsIn 36 = .ok (.istore_n 2, 1) := by decide +kernel
theorem dX5_foulsIn_37 : decode cX5_foulsIn 37 = .ok (.iinc 3 1, 3) := by decide +kernel
theorem dX5_foulsIn_40 : decode cX5_foulsIn 40 = .ok (.goto (-32), 3) := by decide +kernel
theorem dX5_foulsIn_43 : decode cX5_foulsIn 43 = .ok (.iload_n 2, 1) := by decide +kernel
theorem dX5_foulsIn_44 : decode cX5_foulsIn 44 = .ok (.ireturn, 1) := by decide +kernel
theorem dX5_cleanBy_0 : decode cX5_cleanBy 0 = .ok (.aload_n 0, 1) := by decide +kernel
theorem dX5_cleanBy_1 : decode cX5_cleanBy 1 = .ok (.iload_n 1, 1) := by decide +kernel
theorem dX5_cleanBy_2 : decode cX5_cleanBy 2 = .ok (.invokevirtual 86, 3) := by decide +kernel
theorem dX5_cleanBy_5 : decode cX5_cleanBy 5 = .ok (.aload_n 0, 1) := by decide +kernel
theorem dX5_cleanBy_6 : decode cX5_cleanBy 6 = .ok (.getfield 22, 3) := by decide +kernel
theorem dX5_cleanBy_9 : decode cX5_cleanBy 9 = .ok (.getfield 36, 3) := by decide +kernel
theorem dX5_cleanBy_12 : decode cX5_cleanBy 12 = .ok (.if_icmp .ne 11, 3) := by decide +kernel
theorem dX5_cleanBy_15 : decode cX5_cleanBy 15 = .ok (.aload_n 0, 1) := by decide +kernel
theorem dX5_cleanBy_16 : decode cX5_cleanBy 16 = .ok (.iload_n 1, 1) := by decide +kernel
theorem dX5_cleanBy_17 : decode cX5_cleanBy 17 = .ok (.invokevirtual 77, 3) := by decide +kernel
theorem dX5_cleanBy_20 : decode cX5_cleanBy 20 = .ok (.goto 4, 3) := by decide +kernel
theorem dX5_cleanBy_23 : decode cX5_cleanBy 23 = .ok (.iconst 0, 1) := by decide +kernel
theorem dX5_cleanBy_24 : decode cX5_cleanBy 24 = .ok (.ireturn, 1) := by decide +kernel
theorem dX5_takenFrom_0 : decode cX5_takenFrom 0 = .ok (.iconst 0, 1) := by decide +kernel
theorem dX5_takenFrom_1 : decode cX5_takenFrom 1 = .ok (.istore_n 3, 1) := by decide +kernel
theorem dX5_takenFrom_2 : decode cX5_takenFrom 2 = .ok (.iload_n 1, 1) := by decide +kernel
theorem dX5_takenFrom_3 : decode cX5_takenFrom 3 = .ok (.istore 4, 2) := by decide +kernel
theorem dX5_takenFrom_5 : decode cX5_takenFrom 5 = .ok (.iload 4, 2) := by decide +kernel
theorem dX5_takenFrom_7 : decode cX5_takenFrom 7 = .ok (.iload_n 1, 1) := by decide +kernel
theorem dX5_takenFrom_8 : decode cX5_takenFrom 8 = .ok (.iload_n 2, 1) := by decide +kernel
theorem dX5_takenFrom_9 : decode cX5_takenFrom 9 = .ok (.iadd, 1) := by decide +kernel
theorem dX5_takenFrom_10 : decode cX5_takenFrom 10 = .ok (.if_icmp .ge 22, 3) := by decide +kernel
theorem dX5_takenFrom_13 : decode cX5_takenFrom 13 = .ok (.iload_n 3, 1) := by decide +kernel
theorem dX5_takenFrom_14 : decode cX5_takenFrom 14 = .ok (.aload_n 0, 1) := by decide +kernel
theorem dX5_takenFrom_15 : decode cX5_takenFrom 15 = .ok (.iload 4, 2) := by decide +kernel
theorem dX5_takenFrom_17 : decode cX5_takenFrom 17 = .ok (.invokevirtual 83, 3) := by decide +kernel
theorem dX5_takenFrom_20 : decode cX5_takenFrom 20 = .ok (.iconst 0, 1) := by decide +kernel
theorem dX5_takenFrom_21 : decode cX5_takenFrom 21 = .ok (.invokestatic 54, 3) := by decide +kernel
theorem dX5_takenFrom_24 : decode cX5_takenFrom 24 = .ok (.iadd, 1) := by decide +kernel
theorem dX5_takenFrom_25 : decode cX5_takenFrom 25 = .ok (.istore_n 3, 1) := by decide +kernel
theorem dX5_takenFrom_26 : decode cX5_takenFrom 26 = .ok (.iinc 4 1, 3) := by decide +kernel
theorem dX5_takenFrom_29 : decode cX5_takenFrom 29 = .ok (.goto (-24), 3) := by decide +kernel
theorem dX5_takenFrom_32 : decode cX5_takenFrom 32 = .ok (.iload_n 3, 1) := by decide +kernel
theorem dX5_takenFrom_33 : decode cX5_takenFrom 33 = .ok (.ireturn, 1) := by decide +kernel
theorem dX5_isSettled_0 : decode cX5_isSettled 0 = .ok (.iload_n 1, 1) := by decide +kernel
theorem dX5_isSettled_1 : decode cX5_isSettled 1 = .ok (.ifCond .lt 53, 3) := by decide +kernel
theorem dX5_isSettled_4 : decode cX5_isSettled 4 = .ok (.iload_n 1, 1) := by decide +kernel
theorem dX5_isSettled_5 : decode cX5_isSettled 5 = .ok (.aload_n 0, 1) := by decide +kernel
theorem dX5_isSettled_6 : decode cX5_isSettled 6 = .ok (.getfield 30, 3) := by decide +kernel
theorem dX5_isSettled_9 : decode cX5_isSettled 9 = .ok (.if_icmp .ge 45, 3) := by decide +kernel
theorem dX5_isSettled_12 : decode cX5_isSettled 12 = .ok (.iload_n 1, 1) := by decide +kernel
theorem dX5_isSettled_13 : decode cX5_isSettled 13 = .ok (.aload_n 0, 1) := by decide +kernel
theorem dX5_isSettled_14 : decode cX5_isSettled 14 = .ok (.getfield 22, 3) := by decide +kernel
theorem dX5_isSettled_17 : decode cX5_isSettled 17 = .ok (.getfield 47, 3) := by decide +kernel
theorem dX5_isSettled_20 : decode cX5_isSettled 20 = .ok (.if_icmp .ge 34, 3) := by decide +kernel
theorem dX5_isSettled_23 : decode cX5_isSettled 23 = .ok (.aload_n 0, 1) := by decide +kernel
theorem dX5_isSettled_24 : decode cX5_isSettled 24 = .ok (.iload_n 1, 1) := by decide +kernel
theorem dX5_isSettled_25 : decode cX5_isSettled 25 = .ok (.iconst 1, 1) := by decide +kernel
theorem dX5_isSettled_26 : decode cX5_isSettled 26 = .ok (.iadd, 1) := by decide +kernel
theorem dX5_isSettled_27 : decode cX5_isSettled 27 = .ok (.invokevirtual 74, 3) := by decide +kernel
theorem dX5_isSettled_30 : decode cX5_isSettled 30 = .ok (.aload_n 0, 1) := by decide +kernel
theorem dX5_isSettled_31 : decode cX5_isSettled 31 = .ok (.getfield 22, 3) := by decide +kernel
theorem dX5_isSettled_34 : decode cX5_isSettled 34 = .ok (.aload_n 0, 1) := by decide +kernel
theorem dX5_isSettled_35 : decode cX5_isSettled 35 = .ok (.iload_n 1, 1) := by decide +kernel
theorem dX5_isSettled_36 : decode cX5_isSettled 36 = .ok (.invokevirtual 89, 3) := by decide +kernel
theorem dX5_isSettled_39 : decode cX5_isSettled 39 = .ok (.invokevirtual 66, 3) := by decide +kernel
theorem dX5_isSettled_42 : decode cX5_isSettled 42 = .ok (.iadd, 1) := by decide +kernel
theorem dX5_isSettled_43 : decode cX5_isSettled 43 = .ok (.aload_n 0, 1) := by decide +kernel
theorem dX5_isSettled_44 : decode cX5_isSettled 44 = .ok (.getfield 26, 3) := by decide +kernel
theorem dX5_isSettled_47 : decode cX5_isSettled 47 = .ok (.if_icmp .gt 7, 3) := by decide +kernel
theorem dX5_isSettled_50 : decode cX5_isSettled 50 = .ok (.iconst 1, 1) := by decide +kernel
theorem dX5_isSettled_51 : decode cX5_isSettled 51 = .ok (.goto 4, 3) := by decide +kernel
theorem dX5_isSettled_54 : decode cX5_isSettled 54 = .ok (.iconst 0, 1) := by decide +kernel
theorem dX5_isSettled_55 : decode cX5_isSettled 55 = .ok (.ireturn, 1) := by decide +kernel
theorem dX5_worthAndTaken_0 : decode cX5_worthAndTaken 0 = .ok (.aload_n 0, 1) := by decide +kernel
theorem dX5_worthAndTaken_1 : decode cX5_worthAndTaken 1 = .ok (.iload_n 1, 1) := by decide +kernel
theorem dX5_worthAndTaken_2 : decode cX5_worthAndTaken 2 = .ok (.invokevirtual 86, 3) := by decide +kernel
theorem dX5_worthAndTaken_5 : decode cX5_worthAndTaken 5 = .ok (.istore_n 2, 1) := by decide +kernel
theorem dX5_worthAndTaken_6 : decode cX5_worthAndTaken 6 = .ok (.aload_n 0, 1) := by decide +kernel
theorem dX5_worthAndTaken_7 : decode cX5_worthAndTaken 7 = .ok (.iload_n 1, 1) := by decide +kernel
theorem dX5_worthAndTaken_8 : decode cX5_worthAndTaken 8 = .ok (.invokevirtual 92, 3) := by decide +kernel
theorem dX5_worthAndTaken_11 : decode cX5_worthAndTaken 11 = .ok (.istore_n 3, 1) := by decide +kernel
theorem dX5_worthAndTaken_12 : decode cX5_worthAndTaken 12 = .ok (.aload_n 0, 1) := by decide +kernel
theorem dX5_worthAndTaken_13 : decode cX5_worthAndTaken 13 = .ok (.aload_n 0, 1) := by decide +kernel
theorem dX5_worthAndTaken_14 : decode cX5_worthAndTaken 14 = .ok (.iload_n 1, 1) := by decide +kernel
theorem dX5_worthAndTaken_15 : decode cX5_worthAndTaken 15 = .ok (.iconst 1, 1) := by decide +kernel
theorem dX5_worthAndTaken_16 : decode cX5_worthAndTaken 16 = .ok (.iadd, 1) := by decide +kernel
theorem dX5_worthAndTaken_17 : decode cX5_worthAndTaken 17 = .ok (.invokevirtual 74, 3) := by decide +kernel
theorem dX5_worthAndTaken_20 : decode cX5_worthAndTaken 20 = .ok (.aload_n 0, 1) := by decide +kernel
theorem dX5_worthAndTaken_21 : decode cX5_worthAndTaken 21 = .ok (.getfield 22, 3) := by decide +kernel
theorem dX5_worthAndTaken_24 : decode cX5_worthAndTaken 24 = .ok (.aload_n 0, 1) := by decide +kernel
theorem dX5_worthAndTaken_25 : decode cX5_worthAndTaken 25 = .ok (.iload_n 1, 1) := by decide +kernel
theorem dX5_worthAndTaken_26 : decode cX5_worthAndTaken 26 = .ok (.invokevirtual 89, 3) := by decide +kernel
theorem dX5_worthAndTaken_29 : decode cX5_worthAndTaken 29 = .ok (.invokevirtual 66, 3) := by decide +kernel
theorem dX5_worthAndTaken_32 : decode cX5_worthAndTaken 32 = .ok (.invokevirtual 80, 3) := by decide +kernel
theorem dX5_worthAndTaken_35 : decode cX5_worthAndTaken 35 = .ok (.istore 4, 2) := by decide +kernel
theorem dX5_worthAndTaken_37 : decode cX5_worthAndTaken 37 = .ok (.iload_n 2, 1) := by decide +kernel
theorem dX5_worthAndTaken_38 : decode cX5_worthAndTaken 38 = .ok (.iload 4, 2) := by decide +kernel
theorem dX5_worthAndTaken_40 : decode cX5_worthAndTaken 40 = .ok (.iadd, 1) := by decide +kernel
theorem dX5_worthAndTaken_41 : decode cX5_worthAndTaken 41 = .ok (.aload_n 0, 1) := by decide +kernel
theorem dX5_worthAndTaken_42 : decode cX5_worthAndTaken 42 = .ok (.getfield 22, 3) := by decide +kernel
theorem dX5_worthAndTaken_45 : decode cX5_worthAndTaken 45 = .ok (.iload_n 1, 1) := by decide +kernel
theorem dX5_worthAndTaken_46 : decode cX5_worthAndTaken 46 = .ok (.iload_n 2, 1) := by decide +kernel
theorem dX5_worthAndTaken_47 : decode cX5_worthAndTaken 47 = .ok (.aload_n 0, 1) := by decide +kernel
theorem dX5_worthAndTaken_48 : decode cX5_worthAndTaken 48 = .ok (.iload_n 1, 1) := by decide +kernel
theorem dX5_worthAndTaken_49 : decode cX5_worthAndTaken 49 = .ok (.invokevirtual 77, 3) := by decide +kernel
theorem dX5_worthAndTaken_52 : decode cX5_worthAndTaken 52 = .ok (.iload_n 3, 1) := by decide +kernel
theorem dX5_worthAndTaken_53 : decode cX5_worthAndTaken 53 = .ok (.invokevirtual 95, 3) := by decide +kernel
theorem dX5_worthAndTaken_56 : decode cX5_worthAndTaken 56 = .ok (.iadd, 1) := by decide +kernel
theorem dX5_worthAndTaken_57 : decode cX5_worthAndTaken 57 = .ok (.iload_n 3, 1) := by decide +kernel
theorem dX5_worthAndTaken_58 : decode cX5_worthAndTaken 58 = .ok (.aload_n 0, 1) := by decide +kernel
theorem dX5_worthAndTaken_59 : decode cX5_worthAndTaken 59 = .ok (.getfield 22, 3) := by decide +kernel
theorem dX5_worthAndTaken_62 : decode cX5_worthAndTaken 62 = .ok (.getfield 99, 3) := by decide +kernel
theorem dX5_worthAndTaken_65 : decode cX5_worthAndTaken 65 = .ok (.imul, 1) := by decide +kernel
theorem dX5_worthAndTaken_66 : decode cX5_worthAndTaken 66 = .ok (.isub, 1) := by decide +kernel
theorem dX5_worthAndTaken_67 : decode cX5_worthAndTaken 67 = .ok (.ireturn, 1) := by decide +kernel
theorem dX5_sumOfFrames_0 : decode cX5_sumOfFrames 0 = .ok (.iconst 0, 1) := by decide +kernel
theorem dX5_sumOfFrames_1 : decode cX5_sumOfFrames 1 = .ok (.istore_n 1, 1) := by decide +kernel
theorem dX5_sumOfFrames_2 : decode cX5_sumOfFrames 2 = .ok (.iconst 0, 1) := by decide +kernel
theorem dX5_sumOfFrames_3 : decode cX5_sumOfFrames 3 = .ok (.istore_n 2, 1) := by decide +kernel
theorem dX5_sumOfFrames_4 : decode cX5_sumOfFrames 4 = .ok (.iload_n 2, 1) := by decide +kernel
theorem dX5_sumOfFrames_5 : decode cX5_sumOfFrames 5 = .ok (.aload_n 0, 1) := by decide +kernel
theorem dX5_sumOfFrames_6 : decode cX5_sumOfFrames 6 = .ok (.getfield 22, 3) := by decide +kernel
theorem dX5_sumOfFrames_9 : decode cX5_sumOfFrames 9 = .ok (.getfield 47, 3) := by decide +kernel
theorem dX5_sumOfFrames_12 : decode cX5_sumOfFrames 12 = .ok (.if_icmp .ge 17, 3) := by decide +kernel
theorem dX5_sumOfFrames_15 : decode cX5_sumOfFrames 15 = .ok (.iload_n 1, 1) := by decide +kernel
theorem dX5_sumOfFrames_16 : decode cX5_sumOfFrames 16 = .ok (.aload_n 0, 1) := by decide +kernel
theorem dX5_sumOfFrames_17 : decode cX5_sumOfFrames 17 = .ok (.iload_n 2, 1) := by decide +kernel
theorem dX5_sumOfFrames_18 : decode cX5_sumOfFrames 18 = .ok (.invokevirtual 102, 3) := by decide +kernel
theorem dX5_sumOfFrames_21 : decode cX5_sumOfFrames 21 = .ok (.iadd, 1) := by decide +kernel
theorem dX5_sumOfFrames_22 : decode cX5_sumOfFrames 22 = .ok (.istore_n 1, 1) := by decide +kernel
theorem dX5_sumOfFrames_23 : decode cX5_sumOfFrames 23 = .ok (.iinc 2 1, 3) := by decide +kernel
theorem dX5_sumOfFrames_26 : decode cX5_sumOfFrames 26 = .ok (.goto (-22), 3) := by decide +kernel
theorem dX5_sumOfFrames_29 : decode cX5_sumOfFrames 29 = .ok (.iload_n 1, 1) := by decide +kernel
theorem dX5_sumOfFrames_30 : decode cX5_sumOfFrames 30 = .ok (.ireturn, 1) := by decide +kernel
theorem dX6_init_0 : decode cX6_init 0 = .ok (.aload_n 0, 1) := by decide +kernel
theorem dX6_init_1 : decode cX6_init 1 = .ok (.invokespecial 3, 3) := by decide +kernel
theorem dX6_init_4 : decode cX6_init 4 = .ok (.aload_n 0, 1) := by decide +kernel
theorem dX6_init_5 : decode cX6_init 5 = .ok (.iconst 0, 1) := by decide +kernel
theorem dX6_init_6 : decode cX6_init 6 = .ok (.newarray .long, 2) := by decide +kernel
theorem dX6_init_8 : decode cX6_init 8 = .ok (.putfield 9, 3) := by decide +kernel
theorem dX6_init_11 : decode cX6_init 11 = .ok (.aload_n 0, 1) := by decide +kernel
theorem dX6_init_12 : decode cX6_init 12 = .ok (.iload_n 2, 1) := by decide +kernel
theorem dX6_init_13 : decode cX6_init 13 = .ok (.iconst 0, 1) := by decide +kernel
theorem dX6_init_14 : decode cX6_init 14 = .ok (.invokestatic 15, 3) := by decide +kernel
theorem dX6_init_17 : decode cX6_init 17 = .ok (.putfield 21, 3) := by decide +kernel
theorem dX6_init_20 : decode cX6_init 20 = .ok (.aload_n 0, 1) := by decide +kernel
theorem dX6_init_21 : decode cX6_init 21 = .ok (.iload_n 1, 1) := by decide +kernel
theorem dX6_init_22 : decode cX6_init 22 = .ok (.iconst 0, 1) := by decide +kernel
theorem dX6_init_23 : decode cX6_init 23 = .ok (.invokestatic 15, 3) := by decide +kernel
theorem dX6_init_26 : decode cX6_init 26 = .ok (.newarray .int, 2) := by decide +kernel
theorem dX6_init_28 : decode cX6_init 28 = .ok (.putfield 25, 3) := by decide +kernel
theorem dX6_init_31 : decode cX6_init 31 = .ok (.aload_n 0, 1) := by decide +kernel
theorem dX6_init_32 : decode cX6_init 32 = .ok (.aload_n 0, 1) := by decide +kernel
theorem dX6_init_33 : decode cX6_init 33 = .ok (.getfield 25, 3) := by decide +kernel
theorem dX6_init_36 : decode cX6_init 36 = .ok (.arraylength, 1) := by decide +kernel
theorem dX6_init_37 : decode cX6_init 37 = .ok (.newarray .int, 2) := by decide +kernel
theorem dX6_init_39 : decode cX6_init 39 = .ok (.putfield 29, 3) := by decide +kernel
theorem dX6_init_42 : decode cX6_init 42 = .ok (.iconst 0, 1) := by decide +kernel
theorem dX6_init_43 : decode cX6_init 43 = .ok (.istore_n 3, 1) := by decide +kernel
theorem dX6_init_44 : decode cX6_init 44 = .ok (.iload_n 3, 1) := by decide +kernel
theorem dX6_init_45 : decode cX6_init 45 = .ok (.aload_n 0, 1) := by decide +kernel
theorem dX6_init_46 : decode cX6_init 46 = .ok (.getfield 25, 3) := by decide +kernel
theorem dX6_init_49 : decode cX6_init 49 = .ok (.arraylength, 1) := by decide +kernel
theorem dX6_init_50 : decode cX6_init 50 = .ok (.if_icmp .ge 26, 3) := by decide +kernel
theorem dX6_init_53 : decode cX6_init 53 = .ok (.aload_n 0, 1) := by decide +kernel
theorem dX6_init_54 : decode cX6_init 54 = .ok (.getfield 25, 3) := by decide +kernel
theorem dX6_init_57 : decode cX6_init 57 = .ok (.iload_n 3, 1) := by decide +kernel
theorem dX6_init_58 : decode cX6_init 58 = .ok (.aload_n 0, 1) := by decide +kernel
theorem dX6_init_59 : decode cX6_init 59 = .ok (.getfield 21, 3) := by decide +kernel
theorem dX6_init_62 : decode cX6_init 62 = .ok (.iastore, 1) := by decide +kernel
theorem dX6_init_63 : decode cX6_init 63 = .ok (.aload_n 0, 1) := by decide +kernel
theorem dX6_init_64 : decode cX6_init 64 = .ok (.getfield 29, 3) := by decide +kernel
theorem dX6_init_67 : decode cX6_init 67 = .ok (.iload_n 3, 1) := by decide +kernel
theorem dX6_init_68 : decode cX6_init 68 = .ok (.iconst (-1), 1) := by decide +kernel
theorem dX6_init_69 : decode cX6_init 69 = .ok (.iastore, 1) := by decide +kernel
theorem dX6_init_70 : decode cX6_init 70 = .ok (.iinc 3 1, 3) := by decide +kernel
theorem dX6_init_73 : decode cX6_init 73 = .ok (.goto (-29), 3) := by decide +kernel
theorem dX6_init_76 : decode cX6_init 76 = .ok (.return_, 1) := by decide +kernel
theorem dX6_open_0 : decode cX6_open 0 = .ok (.aload_n 0, 1) := by decide +kernel
theorem dX6_open_1 : decode cX6_open 1 = .ok (.getfield 9, 3) := by decide +kernel
theorem dX6_open_4 : decode cX6_open 4 = .ok (.arraylength, 1) := by decide +kernel
theorem dX6_open_5 : decode cX6_open 5 = .ok (.ifCond .ne 19, 3) := by decide +kernel
theorem dX6_open_8 : decode cX6_open 8 = .ok (.aload_n 0, 1) := by decide +kernel
theorem dX6_open_9 : decode cX6_open 9 = .ok (.aload_n 0, 1) := by decide +kernel
theorem dX6_open_10 : decode cX6_open 10 = .ok (.getfield 25, 3) := by decide +kernel
theorem dX6_open_13 : decode cX6_open 13 = .ok (.arraylength, 1) := by decide +kernel
theorem dX6_open_14 : decode cX6_open 14 = .ok (.aload_n 0, 1) := by decide +kernel
theorem dX6_open_15 : decode cX6_open 15 = .ok (.getfield 21, 3) := by decide +kernel
theorem dX6_open_18 : decode cX6_open 18 = .ok (.imul, 1) := by decide +kernel
theorem dX6_open_19 : decode cX6_open 19 = .ok (.newarray .long, 2) := by decide +kernel
theorem dX6_open_21 : decode cX6_open 21 = .ok (.putfield 9, 3) := by decide +kernel
theorem dX6_open_24 : decode cX6_open 24 = .ok (.return_, 1) := by decide +kernel
theorem dX6_isRow_0 : decode cX6_isRow 0 = .ok (.iload_n 1, 1) := by decide +kernel
theorem dX6_isRow_1 : decode cX6_isRow 1 = .ok (.ifCond .lt 32, 3) := by decide +kernel
theorem dX6_isRow_4 : decode cX6_isRow 4 = .ok (.iload_n 1, 1) := by decide +kernel
theorem dX6_isRow_5 : decode cX6_isRow 5 = .ok (.aload_n 0, 1) := by decide +kernel
theorem dX6_isRow_6 : decode cX6_isRow 6 = .ok (.getfield 25, 3) := by decide +kernel
theorem dX6_isRow_9 : decode cX6_isRow 9 = .ok (.arraylength, 1) := by decide +kernel
theorem dX6_isRow_10 : decode cX6_isRow 10 = .ok (.if_icmp .ge 23, 3) := by decide +kernel
theorem dX6_isRow_13 : decode cX6_isRow 13 = .ok (.iload_n 1, 1) := by decide +kernel
theorem dX6_isRow_14 : decode cX6_isRow 14 = .ok (.iconst 1, 1) := by decide +kernel
theorem dX6_isRow_15 : decode cX6_isRow 15 = .ok (.iadd, 1) := by decide +kernel
theorem dX6_isRow_16 : decode cX6_isRow 16 = .ok (.aload_n 0, 1) := by decide +kernel
theorem dX6_isRow_17 : decode cX6_isRow 17 = .ok (.getfield 21, 3) := by decide +kernel
theorem dX6_isRow_20 : decode cX6_isRow 20 = .ok (.imul, 1) := by decide +kernel
theorem dX6_isRow_21 : decode cX6_isRow 21 = .ok (.aload_n 0, 1) := by decide +kernel
theorem dX6_isRow_22 : decode cX6_isRow 22 = .ok (.getfield 9, 3) := by decide +kernel
theorem dX6_isRow_25 : decode cX6_isRow 25 = .ok (.arraylength, 1) := by decide +kernel
theorem dX6_isRow_26 : decode cX6_isRow 26 = .ok (.if_icmp .gt 7, 3) := by decide +kernel
theorem dX6_isRow_29 : decode cX6_isRow 29 = .ok (.iconst 1, 1) := by decide +kernel
theorem dX6_isRow_30 : decode cX6_isRow 30 = .ok (.goto 4, 3) := by decide +kernel
theorem dX6_isRow_33 : decode cX6_isRow 33 = .ok (.iconst 0, 1) := by decide +kernel
theorem dX6_isRow_34 : decode cX6_isRow 34 = .ok (.ireturn, 1) := by decide +kernel
theorem dX6_low_0 : decode cX6_low 0 = .ok (.aload_n 0, 1) := by decide +kernel
theorem dX6_low_1 : decode cX6_low 1 = .ok (.iload_n 1, 1) := by decide +kernel
theorem dX6_low_2 : decode cX6_low 2 = .ok (.invokevirtual 32, 3) := by decide +kernel
theorem dX6_low_5 : decode cX6_low 5 = .ok (.ifCond .eq 12, 3) := by decide +kernel
theorem dX6_low_8 : decode cX6_low 8 = .ok (.aload_n 0, 1) := by decide +kernel
theorem dX6_low_9 : decode cX6_low 9 = .ok (.getfield 25, 3) := by decide +kernel
theorem dX6_low_12 : decode cX6_low 12 = .ok (.iload_n 1, 1) := by decide +kernel
theorem dX6_low_13 : decode cX6_low 13 = .ok (.iaload, 1) := by decide +kernel
theorem dX6_low_14 : decode cX6_low 14 = .ok (.goto 7, 3) := by decide +kernel
theorem dX6_low_17 : decode cX6_low 17 = .ok (.aload_n 0, 1) := by decide +kernel
theorem dX6_low_18 : decode cX6_low 18 = .ok (.getfield 21, 3) := by decide +kernel
theorem dX6_low_21 : decode cX6_low 21 = .ok (.ireturn, 1) := by decide +kernel
theorem dX6_high_0 : decode cX6_high 0 = .ok (.aload_n 0, 1) := by decide +kernel
theorem dX6_high_1 : decode cX6_high 1 = .ok (.iload_n 1, 1) := by decide +kernel
theorem dX6_high_2 : decode cX6_high 2 = .ok (.invokevirtual 32, 3) := by decide +kernel
theorem dX6_high_5 : decode cX6_high 5 = .ok (.ifCond .eq 12, 3) := by decide +kernel
theorem dX6_high_8 : decode cX6_high 8 = .ok (.aload_n 0, 1) := by decide +kernel
theorem dX6_high_9 : decode cX6_high 9 = .ok (.getfield 29, 3) := by decide +kernel
theorem dX6_high_12 : decode cX6_high 12 = .ok (.iload_n 1, 1) := by decide +kernel
theorem dX6_high_13 : decode cX6_high 13 = .ok (.iaload, 1) := by decide +kernel
theorem dX6_high_14 : decode cX6_high 14 = .ok (.goto 4, 3) := by decide +kernel
theorem dX6_high_17 : decode cX6_high 17 = .ok (.iconst (-1), 1) := by decide +kernel
theorem dX6_high_18 : decode cX6_high 18 = .ok (.ireturn, 1) := by decide +kernel
theorem dX6_isEmpty_0 : decode cX6_isEmpty 0 = .ok (.aload_n 0, 1) := by decide +kernel
theorem dX6_isEmpty_1 : decode cX6_isEmpty 1 = .ok (.iload_n 1, 1) := by decide +kernel
theorem dX6_isEmpty_2 : decode cX6_isEmpty 2 = .ok (.invokevirtual 36, 3) := by decide +kernel
theorem dX6_isEmpty_5 : decode cX6_isEmpty 5 = .ok (.aload_n 0, 1) := by decide +kernel
theorem dX6_isEmpty_6 : decode cX6_isEmpty 6 = .ok (.iload_n 1, 1) := by decide +kernel
theorem dX6_isEmpty_7 : decode cX6_isEmpty 7 = .ok (.invokevirtual 40, 3) := by decide +kernel
theorem dX6_isEmpty_10 : decode cX6_isEmpty 10 = .ok (.if_icmp .le 7, 3) := by decide +kernel
theorem dX6_isEmpty_13 : decode cX6_isEmpty 13 = .ok (.iconst 1, 1) := by decide +kernel
theorem dX6_isEmpty_14 : decode cX6_isEmpty 14 = .ok (.goto 4, 3) := by decide +kernel
theorem dX6_isEmpty_17 : decode cX6_isEmpty 17 = .ok (.iconst 0, 1) := by decide +kernel
theorem dX6_isEmpty_18 : decode cX6_isEmpty 18 = .ok (.ireturn, 1) := by decide +kernel
theorem dX6_value_0 : decode cX6_value 0 = .ok (.aload_n 0, 1) := by decide +kernel
theorem dX6_value_1 : decode cX6_value 1 = .ok (.iload_n 1, 1) := by decide +kernel
theorem dX6_value_2 : decode cX6_value 2 = .ok (.invokevirtual 32, 3) := by decide +kernel
theorem dX6_value_5 : decode cX6_value 5 = .ok (.ifCond .eq 31, 3) := by decide +kernel
theorem dX6_value_8 : decode cX6_value 8 = .ok (.iload_n 2, 1) := by decide +kernel
theorem dX6_value_9 : decode cX6_value 9 = .ok (.ifCond .lt 27, 3) := by decide +kernel
theorem dX6_value_12 : decode cX6_value 12 = .ok (.iload_n 2, 1) := by decide +kernel
theorem dX6_value_13 : decode cX6_value 13 = .ok (.aload_n 0, 1) := by decide +kernel
theorem dX6_value_14 : decode cX6_value 14 = .ok (.getfield 21, 3) := by decide +kernel
theorem dX6_value_17 : decode cX6_value 17 = .ok (.if_icmp .ge 19, 3) := by decide +kernel
theorem dX6_value_20 : decode cX6_value 20 = .ok (.aload_n 0, 1) := by decide +kernel
theorem dX6_value_21 : decode cX6_value 21 = .ok (.getfield 9, 3) := by decide +kernel
theorem dX6_value_24 : decode cX6_value 24 = .ok (.iload_n 1, 1) := by decide +kernel
theorem dX6_value_25 : decode cX6_value 25 = .ok (.aload_n 0, 1) := by decide +kernel
theorem dX6_value_26 : decode cX6_value 26 = .ok (.getfield 21, 3) := by decide +kernel
theorem dX6_value_29 : decode cX6_value 29 = .ok (.imul, 1) := by decide +kernel
theorem dX6_value_30 : decode cX6_value 30 = .ok (.iload_n 2, 1) := by decide +kernel
theorem dX6_value_31 : decode cX6_value 31 = .ok (.iadd, 1) := by decide +kernel
theorem dX6_value_32 : decode cX6_value 32 = .ok (.laload, 1) := by decide +kernel
theorem dX6_value_33 : decode cX6_value 33 = .ok (.goto 4, 3) := by decide +kernel
theorem dX6_value_36 : decode cX6_value 36 = .ok (.lconst 0, 1) := by decide +kernel
theorem dX6_value_37 : decode cX6_value 37 = .ok (.lreturn, 1) := by decide +kernel
theorem dX6_set_0 : decode cX6_set 0 = .ok (.aload_n 0, 1) := by decide +kernel
theorem dX6_set_1 : decode cX6_set 1 = .ok (.iload_n 1, 1) := by decide +kernel
theorem dX6_set_2 : decode cX6_set 2 = .ok (.invokevirtual 32, 3) := by decide +kernel
theorem dX6_set_5 : decode cX6_set 5 = .ok (.ifCond .eq 36, 3) := by decide +kernel
theorem dX6_set_8 : decode cX6_set 8 = .ok (.iload_n 2, 1) := by decide +kernel
theorem dX6_set_9 : decode cX6_set 9 = .ok (.ifCond .lt 32, 3) := by decide +kernel
theorem dX6_set_12 : decode cX6_set 12 = .ok (.iload_n 2, 1) := by decide +kernel
theorem dX6_set_13 : decode cX6_set 13 = .ok (.aload_n 0, 1) := by decide +kernel
theorem dX6_set_14 : decode cX6_set 14 = .ok (.getfield 21, 3) := by decide +kernel
theorem dX6_set_17 : decode cX6_set 17 = .ok (.if_icmp .ge 24, 3) := by decide +kernel
theorem dX6_set_20 : decode cX6_set 20 = .ok (.aload_n 0, 1) := by decide +kernel
theorem dX6_set_21 : decode cX6_set 21 = .ok (.getfield 9, 3) := by decide +kernel
theorem dX6_set_24 : decode cX6_set 24 = .ok (.iload_n 1, 1) := by decide +kernel
theorem dX6_set_25 : decode cX6_set 25 = .ok (.aload_n 0, 1) := by decide +kernel
theorem dX6_set_26 : decode cX6_set 26 = .ok (.getfield 21, 3) := by decide +kernel
theorem dX6_set_29 : decode cX6_set 29 = .ok (.imul, 1) := by decide +kernel
theorem dX6_set_30 : decode cX6_set 30 = .ok (.iload_n 2, 1) := by decide +kernel
theorem dX6_set_31 : decode cX6_set 31 = .ok (.iadd, 1) := by decide +kernel
theorem dX6_set_32 : decode cX6_set 32 = .ok (.lload_n 3, 1) := by decide +kernel
theorem dX6_set_33 : decode cX6_set 33 = .ok (.lastore, 1) := by decide +kernel
theorem dX6_set_34 : decode cX6_set 34 = .ok (.aload_n 0, 1) := by decide +kernel
theorem dX6_set_35 : decode cX6_set 35 = .ok (.iload_n 1, 1) := by decide +kernel
theorem dX6_set_36 : decode cX6_set 36 = .ok (.iload_n 2, 1) := by decide +kernel
theorem dX6_set_37 : decode cX6_set 37 = .ok (.iload_n 2, 1) := by decide +kernel
theorem dX6_set_38 : decode cX6_set 38 = .ok (.invokevirtual 43, 3) := by decide +kernel
theorem dX6_set_41 : decode cX6_set 41 = .ok (.return_, 1) := by decide +kernel
theorem dX6_stretch_0 : decode cX6_stretch 0 = .ok (.aload_n 0, 1) := by decide +kernel
theorem dX6_stretch_1 : decode cX6_stretch 1 = .ok (.iload_n 1, 1) := by decide +kernel
theorem dX6_stretch_2 : decode cX6_stretch 2 = .ok (.invokevirtual 32, 3) := by decide +kernel
theorem dX6_stretch_5 : decode cX6_stretch 5 = .ok (.ifCond .eq 35, 3) := by decide +kernel
theorem dX6_stretch_8 : decode cX6_stretch 8 = .ok (.aload_n 0, 1) := by decide +kernel
theorem dX6_stretch_9 : decode cX6_stretch 9 = .ok (.getfield 25, 3) := by decide +kernel
theorem dX6_stretch_12 : decode cX6_stretch 12 = .ok (.iload_n 1, 1) := by decide +kernel
theorem dX6_stretch_13 : decode cX6_stretch 13 = .ok (.aload_n 0, 1) := by decide +kernel
theorem dX6_stretch_14 : decode cX6_stretch 14 = .ok (.getfield 25, 3) := by decide +kernel
theorem dX6_stretch_17 : decode cX6_stretch 17 = .ok (.iload_n 1, 1) := by decide +kernel
theorem dX6_stretch_18 : decode cX6_stretch 18 = .ok (.iaload, 1) := by decide +kernel
theorem dX6_stretch_19 : decode cX6_stretch 19 = .ok (.iload_n 2, 1) := by decide +kernel
theorem dX6_stretch_20 : decode cX6_stretch 20 = .ok (.invokestatic 47, 3) := by decide +kernel
theorem dX6_stretch_23 : decode cX6_stretch 23 = .ok (.iastore, 1) := by decide +kernel
theorem dX6_stretch_24 : decode cX6_stretch 24 = .ok (.aload_n 0, 1) := by decide +kernel
theorem dX6_stretch_25 : decode cX6_stretch 25 = .ok (.getfield 29, 3) := by decide +kernel
theorem dX6_stretch_28 : decode cX6_stretch 28 = .ok (.iload_n 1, 1) := by decide +kernel
theorem dX6_stretch_29 : decode cX6_stretch 29 = .ok (.aload_n 0, 1) := by decide +kernel
theorem dX6_stretch_30 : decode cX6_stretch 30 = .ok (.getfield 29, 3) := by decide +kernel
theorem dX6_stretch_33 : decode cX6_stretch 33 = .ok (.iload_n 1, 1) := by decide +kernel
theorem dX6_stretch_34 : decode cX6_stretch 34 = .ok (.iaload, 1) := by decide +kernel
theorem dX6_stretch_35 : decode cX6_stretch 35 = .ok (.iload_n 3, 1) := by decide +kernel
theorem dX6_stretch_36 : decode cX6_stretch 36 = .ok (.invokestatic 15, 3) := by decide +kernel
theorem dX6_stretch_39 : decode cX6_stretch 39 = .ok (.iastore, 1) := by decide +kernel
theorem dX6_stretch_40 : decode cX6_stretch 40 = .ok (.return_, 1) := by decide +kernel
theorem dX6_canTake_0 : decode cX6_canTake 0 = .ok (.aload_n 1, 1) := by decide +kernel
theorem dX6_canTake_1 : decode cX6_canTake 1 = .ok (.iload_n 2, 1) := by decide +kernel
theorem dX6_canTake_2 : decode cX6_canTake 2 = .ok (.invokevirtual 32, 3) := by decide +kernel
theorem dX6_canTake_5 : decode cX6_canTake 5 = .ok (.ifCond .eq 69, 3) := by decide +kernel
theorem dX6_canTake_8 : decode cX6_canTake 8 = .ok (.aload_n 0, 1) := by decide +kernel
theorem dX6_canTake_9 : decode cX6_canTake 9 = .ok (.iload_n 3, 1) := by decide +kernel
theorem dX6_canTake_10 : decode cX6_canTake 10 = .ok (.invokevirtual 32, 3) := by decide +kernel
theorem dX6_canTake_13 : decode cX6_canTake 13 = .ok (.ifCond .eq 61, 3) := by decide +kernel
theorem dX6_canTake_16 : decode cX6_canTake 16 = .ok (.aload_n 1, 1) := by decide +kernel
theorem dX6_canTake_17 : decode cX6_canTake 17 = .ok (.getfield 21, 3) := by decide +kernel
theorem dX6_canTake_20 : decode cX6_canTake 20 = .ok (.aload_n 0, 1) := by decide +kernel
theorem dX6_canTake_21 : decode cX6_canTake 21 = .ok (.getfield 21, 3) := by decide +kernel
theorem dX6_canTake_24 : decode cX6_canTake 24 = .ok (.if_icmp .ne 50, 3) := by decide +kernel
theorem dX6_canTake_27 : decode cX6_canTake 27 = .ok (.aload_n 1, 1) := by decide +kernel
theorem dX6_canTake_28 : decode cX6_canTake 28 = .ok (.getfield 25, 3) := by decide +kernel
theorem dX6_canTake_31 : decode cX6_canTake 31 = .ok (.iload_n 2, 1) := by decide +kernel
theorem dX6_canTake_32 : decode cX6_canTake 32 = .ok (.iaload, 1) := by decide +kernel
theorem dX6_canTake_33 : decode cX6_canTake 33 = .ok (.aload_n 1, 1) := by decide +kernel
theorem dX6_canTake_34 : decode cX6_canTake 34 = .ok (.getfield 29, 3) := by decide +kernel
theorem dX6_canTake_37 : decode cX6_canTake 37 = .ok (.iload_n 2, 1) := by decide +kernel
theorem dX6_canTake_38 : decode cX6_canTake 38 = .ok (.iaload, 1) := by decide +kernel
theorem dX6_canTake_39 : decode cX6_canTake 39 = .ok (.if_icmp .gt 35, 3) := by decide +kernel
theorem dX6_canTake_42 : decode cX6_canTake 42 = .ok (.aload_n 1, 1) := by decide +kernel
theorem dX6_canTake_43 : decode cX6_canTake 43 = .ok (.getfield 25, 3) := by decide +kernel
theorem dX6_canTake_46 : decode cX6_canTake 46 = .ok (.iload_n 2, 1) := by decide +kernel
theorem dX6_canTake_47 : decode cX6_canTake 47 = .ok (.iaload, 1) := by decide +kernel
theorem dX6_canTake_48 : decode cX6_canTake 48 = .ok (.iload 4, 2) := by decide +kernel
theorem dX6_canTake_50 : decode cX6_canTake 50 = .ok (.iadd, 1) := by decide +kernel
theorem dX6_canTake_51 : decode cX6_canTake 51 = .ok (.ifCond .lt 23, 3) := by decide +kernel
theorem dX6_canTake_54 : decode cX6_canTake 54 = .ok (.aload_n 1, 1) := by decide +kernel
theorem dX6_canTake_55 : decode cX6_canTake 55 = .ok (.getfield 29, 3) := by decide +kernel
theorem dX6_canTake_58 : decode cX6_canTake 58 = .ok (.iload_n 2, 1) := by decide +kernel
theorem dX6_canTake_59 : decode cX6_canTake 59 = .ok (.iaload, 1) := by decide +kernel
theorem dX6_canTake_60 : decode cX6_canTake 60 = .ok (.iload 4, 2) := by decide +kernel
theorem dX6_canTake_62 : decode cX6_canTake 62 = .ok (.iadd, 1) := by decide +kernel
theorem dX6_canTake_63 : decode cX6_canTake 63 = .ok (.aload_n 0, 1) := by decide +kernel
theorem dX6_canTake_64 : decode cX6_canTake 64 = .ok (.getfield 21, 3) := by decide +kernel
theorem dX6_canTake_67 : decode cX6_canTake 67 = .ok (.if_icmp .ge 7, 3) := by decide +kernel
theorem dX6_canTake_70 : decode cX6_canTake 70 = .ok (.iconst 1, 1) := by decide +kernel
theorem dX6_canTake_71 : decode cX6_canTake 71 = .ok (.goto 4, 3) := by decide +kernel
theorem dX6_canTake_74 : decode cX6_canTake 74 = .ok (.iconst 0, 1) := by decide +kernel
theorem dX6_canTake_75 : decode cX6_canTake 75 = .ok (.ireturn, 1) := by decide +kernel
theorem dX6_addCounts_0 : decode cX6_addCounts 0 = .ok (.lload 5, 2) := by decide +kernel
theorem dX6_addCounts_2 : decode cX6_addCounts 2 = .ok (.lconst 0, 1) := by decide +kernel
theorem dX6_addCounts_3 : decode cX6_addCounts 3 = .ok (.lcmp, 1) := by decide +kernel
theorem dX6_addCounts_4 : decode cX6_addCounts 4 = .ok (.ifCond .le 15, 3) := by decide +kernel
theorem dX6_addCounts_7 : decode cX6_addCounts 7 = .ok (.aload_n 0, 1) := by decide +kernel
theorem dX6_addCounts_8 : decode cX6_addCounts 8 = .ok (.aload_n 1, 1) := by decide +kernel
theorem dX6_addCounts_9 : decode cX6_addCounts 9 = .ok (.iload_n 2, 1) := by decide +kernel
theorem dX6_addCounts_10 : decode cX6_addCounts 10 = .ok (.iload_n 3, 1) := by decide +kernel
theorem dX6_addCounts_11 : decode cX6_addCounts 11 = .ok (.iload 4, 2) := by decide +kernel
theorem dX6_addCounts_13 : decode cX6_addCounts 13 = .ok (.invokevirtual 50, 3) := by decide +kernel
theorem dX6_addCounts_16 : decode cX6_addCounts 16 = .ok (.ifCond .ne 4, 3) := by decide +kernel
theorem dX6_addCounts_19 : decode cX6_addCounts 19 = .ok (.return_, 1) := by decide +kernel
theorem dX6_addCounts_20 : decode cX6_addCounts 20 = .ok (.ldc2_w 54, 3) := by decide +kernel
theorem dX6_addCounts_23 : decode cX6_addCounts 23 = .ok (.lload 5, 2) := by decide +kernel
theorem dX6_addCounts_25 : decode cX6_addCounts 25 = .ok (.ldiv, 1) := by decide +kernel
theorem dX6_addCounts_26 : decode cX6_addCounts 26 = .ok (.lstore 7, 2) := by decide +kernel
theorem dX6_addCounts_28 : decode cX6_addCounts 28 = .ok (.iload_n 3, 1) := by decide +kernel
theorem dX6_addCounts_29 : decode cX6_addCounts 29 = .ok (.aload_n 0, 1) := by decide +kernel
theorem dX6_addCounts_30 : decode cX6_addCounts 30 = .ok (.getfield 21, 3) := by decide +kernel
theorem dX6_addCounts_33 : decode cX6_addCounts 33 = .ok (.imul, 1) := by decide +kernel
theorem dX6_addCounts_34 : decode cX6_addCounts 34 = .ok (.iload 4, 2) := by decide +kernel
theorem dX6_addCounts_36 : decode cX6_addCounts 36 = .ok (.iadd, 1) := by decide +kernel
theorem dX6_addCounts_37 : decode cX6_addCounts 37 = .ok (.istore 9, 2) := by decide +kernel
theorem dX6_addCounts_39 : decode cX6_addCounts 39 = .ok (.aload_n 1, 1) := by decide +kernel
theorem dX6_addCounts_40 : decode cX6_addCounts 40 = .ok (.getfield 25, 3) := by decide +kernel
theorem dX6_addCounts_43 : decode cX6_addCounts 43 = .ok (.iload_n 2, 1) := by decide +kernel
theorem dX6_addCounts_44 : decode cX6_addCounts 44 = .ok (.iaload, 1) := by decide +kernel
theorem dX6_addCounts_45 : decode cX6_addCounts 45 = .ok (.istore 10, 2) := by decide +kernel
theorem dX6_addCounts_47 : decode cX6_addCounts 47 = .ok (.iload 10, 2) := by decide +kernel
theorem dX6_addCounts_49 : decode cX6_addCounts 49 = .ok (.aload_n 1, 1) := by decide +kernel
theorem dX6_addCounts_50 : decode cX6_addCounts 50 = .ok (.getfield 29, 3) := by decide +kernel
theorem dX6_addCounts_53 : decode cX6_addCounts 53 = .ok (.iload_n 2, 1) := by decide +kernel
theorem dX6_addCounts_54 : decode cX6_addCounts 54 = .ok (.iaload, 1) := by decide +kernel
theorem dX6_addCounts_55 : decode cX6_addCounts 55 = .ok (.if_icmp .gt 75, 3) := by decide +kernel
theorem dX6_addCounts_58 : decode cX6_addCounts 58 = .ok (.aload_n 1, 1) := by decide +kernel
theorem dX6_addCounts_59 : decode cX6_addCounts 59 = .ok (.getfield 9, 3) := by decide +kernel
theorem dX6_addCounts_62 : decode cX6_addCounts 62 = .ok (.iload_n 2, 1) := by decide +kernel
theorem dX6_addCounts_63 : decode cX6_addCounts 63 = .ok (.aload_n 0, 1) := by decide +kernel
theorem dX6_addCounts_64 : decode cX6_addCounts 64 = .ok (.getfield 21, 3) := by decide +kernel
theorem dX6_addCounts_67 : decode cX6_addCounts 67 = .ok (.imul, 1) := by decide +kernel
theorem dX6_addCounts_68 : decode cX6_addCounts 68 = .ok (.iload 10, 2) := by decide +kernel
theorem dX6_addCounts_70 : decode cX6_addCounts 70 = .ok (.iadd, 1) := by decide +kernel
theorem dX6_addCounts_71 : decode cX6_addCounts 71 = .ok (.laload, 1) := by decide +kernel
theorem dX6_addCounts_72 : decode cX6_addCounts 72 = .ok (.lstore 11, 2) := by decide +kernel
theorem dX6_addCounts_74 : decode cX6_addCounts 74 = .ok (.lload 11, 2) := by decide +kernel
theorem dX6_addCounts_76 : decode cX6_addCounts 76 = .ok (.lload 7, 2) := by decide +kernel
theorem dX6_addCounts_78 : decode cX6_addCounts 78 = .ok (.lcmp, 1) := by decide +kernel
theorem dX6_addCounts_79 : decode cX6_addCounts 79 = .ok (.ifCond .le 9, 3) := by decide +kernel
theorem dX6_addCounts_82 : decode cX6_addCounts 82 = .ok (.ldc2_w 54, 3) := by decide +kernel
theorem dX6_addCounts_85 : decode cX6_addCounts 85 = .ok (.goto 8, 3) := by decide +kernel
theorem dX6_addCounts_88 : decode cX6_addCounts 88 = .ok (.lload 11, 2) := by decide +kernel
theorem dX6_addCounts_90 : decode cX6_addCounts 90 = .ok (.lload 5, 2) := by decide +kernel
theorem dX6_addCounts_92 : decode cX6_addCounts 92 = .ok (.lmul, 1) := by decide +kernel
theorem dX6_addCounts_93 : decode cX6_addCounts 93 = .ok (.lstore 13, 2) := by decide +kernel
theorem dX6_addCounts_95 : decode cX6_addCounts 95 = .ok (.aload_n 0, 1) := by decide +kernel
theorem dX6_addCounts_96 : decode cX6_addCounts 96 = .ok (.getfield 9, 3) := by decide +kernel
theorem dX6_addCounts_99 : decode cX6_addCounts 99 = .ok (.iload 9, 2) := by decide +kernel
theorem dX6_addCounts_101 : decode cX6_addCounts 101 = .ok (.iload 10, 2) := by decide +kernel
theorem dX6_addCounts_103 : decode cX6_addCounts 103 = .ok (.iadd, 1) := by decide +kernel
theorem dX6_addCounts_104 : decode cX6_addCounts 104 = .ok (.ldc2_w 54, 3) := by decide +kernel
theorem dX6_addCounts_107 : decode cX6_addCounts 107 = .ok (.aload_n 0, 1) := by decide +kernel
theorem dX6_addCounts_108 : decode cX6_addCounts 108 = .ok (.getfield 9, 3) := by decide +kernel
theorem dX6_addCounts_111 : decode cX6_addCounts 111 = .ok (.iload 9, 2) := by decide +kernel
theorem dX6_addCounts_113 : decode cX6_addCounts 113 = .ok (.iload 10, 2) := by decide +kernel
theorem dX6_addCounts_115 : decode cX6_addCounts 115 = .ok (.iadd, 1) := by decide +kernel
theorem dX6_addCounts_116 : decode cX6_addCounts 116 = .ok (.laload, 1) := by decide +kernel
theorem dX6_addCounts_117 : decode cX6_addCounts 117 = .ok (.lload 13, 2) := by decide +kernel
theorem dX6_addCounts_119 : decode cX6_addCounts 119 = .ok (.ladd, 1) := by decide +kernel
theorem dX6_addCounts_120 : decode cX6_addCounts 120 = .ok (.invokestatic 56, 3) := by decide +kernel
theorem dX6_addCounts_123 : decode cX6_addCounts 123 = .ok (.lastore, 1) := by decide +kernel
theorem dX6_addCounts_124 : decode cX6_addCounts 124 = .ok (.iinc 10 1, 3) := by decide +kernel
theorem dX6_addCounts_127 : decode cX6_addCounts 127 = .ok (.goto (-80), 3) := by decide +kernel
theorem dX6_addCounts_130 : decode cX6_addCounts 130 = .ok (.aload_n 0, 1) := by decide +kernel
theorem dX6_addCounts_131 : decode cX6_addCounts 131 = .ok (.iload_n 3, 1) := by decide +kernel
theorem dX6_addCounts_132 : decode cX6_addCounts 132 = .ok (.aload_n 1, 1) := by decide +kernel
theorem dX6_addCounts_133 : decode cX6_addCounts 133 = .ok (.getfield 25, 3) := by decide +kernel
theorem dX6_addCounts_136 : decode cX6_addCounts 136 = .ok (.iload_n 2, 1) := by decide +kernel
theorem dX6_addCounts_137 : decode cX6_addCounts 137 = .ok (.iaload, 1) := by decide +kernel
theorem dX6_addCounts_138 : decode cX6_addCounts 138 = .ok (.iload 4, 2) := by decide +kernel
theorem dX6_addCounts_140 : decode cX6_addCounts 140 = .ok (.iadd, 1) := by decide +kernel
theorem dX6_addCounts_141 : decode cX6_addCounts 141 = .ok (.aload_n 1, 1) := by decide +kernel
theorem dX6_addCounts_142 : decode cX6_addCounts 142 = .ok (.getfield 29, 3) := by decide +kernel
theorem dX6_addCounts_145 : decode cX6_addCounts 145 = .ok (.iload_n 2, 1) := by decide +kernel
theorem dX6_addCounts_146 : decode cX6_addCounts 146 = .ok (.iaload, 1) := by decide +kernel
theorem dX6_addCounts_147 : decode cX6_addCounts 147 = .ok (.iload 4, 2) := by decide +kernel
theorem dX6_addCounts_149 : decode cX6_addCounts 149 = .ok (.iadd, 1) := by decide +kernel
theorem dX6_addCounts_150 : decode cX6_addCounts 150 = .ok (.invokevirtual 43, 3) := by decide +kernel
theorem dX6_addCounts_153 : decode cX6_addCounts 153 = .ok (.return_, 1) := by decide +kernel
theorem dX6_addMarks_0 : decode cX6_addMarks 0 = .ok (.aload_n 0, 1) := by decide +kernel
theorem dX6_addMarks_1 : decode cX6_addMarks 1 = .ok (.aload_n 1, 1) := by decide +kernel
theorem dX6_addMarks_2 : decode cX6_addMarks 2 = .ok (.iload_n 2, 1) := by decide +kernel
theorem dX6_addMarks_3 : decode cX6_addMarks 3 = .ok (.iload_n 3, 1) := by decide +kernel
theorem dX6_addMarks_4 : decode cX6_addMarks 4 = .ok (.iload 4, 2) := by decide +kernel
theorem dX6_addMarks_6 : decode cX6_addMarks 6 = .ok (.invokevirtual 50, 3) := by decide +kernel
theorem dX6_addMarks_9 : decode cX6_addMarks 9 = .ok (.ifCond .ne 4, 3) := by decide +kernel
theorem dX6_addMarks_12 : decode cX6_addMarks 12 = .ok (.return_, 1) := by decide +kernel
theorem dX6_addMarks_13 : decode cX6_addMarks 13 = .ok (.iload_n 3, 1) := by decide +kernel
theorem dX6_addMarks_14 : decode cX6_addMarks 14 = .ok (.aload_n 0, 1) := by decide +kernel
theorem dX6_addMarks_15 : decode cX6_addMarks 15 = .ok (.getfield 21, 3) := by decide +kernel
theorem dX6_addMarks_18 : decode cX6_addMarks 18 = .ok (.imul, 1) := by decide +kernel
theorem dX6_addMarks_19 : decode cX6_addMarks 19 = .ok (.iload 4, 2) := by decide +kernel
theorem dX6_addMarks_21 : decode cX6_addMarks 21 = .ok (.iadd, 1) := by decide +kernel
theorem dX6_addMarks_22 : decode cX6_addMarks 22 = .ok (.istore 7, 2) := by decide +kernel
theorem dX6_addMarks_24 : decode cX6_addMarks 24 = .ok (.aload_n 1, 1) := by decide +kernel
theorem dX6_addMarks_25 : decode cX6_addMarks 25 = .ok (.getfield 25, 3) := by decide +kernel
theorem dX6_addMarks_28 : decode cX6_addMarks 28 = .ok (.iload_n 2, 1) := by decide +kernel
theorem dX6_addMarks_29 : decode cX6_addMarks 29 = .ok (.iaload, 1) := by decide +kernel
theorem dX6_addMarks_30 : decode cX6_addMarks 30 = .ok (.istore 8, 2) := by decide +kernel
theorem dX6_addMarks_32 : decode cX6_addMarks 32 = .ok (.iload 8, 2) := by decide +kernel
theorem dX6_addMarks_34 : decode cX6_addMarks 34 = .ok (.aload_n 1, 1) := by decide +kernel
theorem dX6_addMarks_35 : decode cX6_addMarks 35 = .ok (.getfield 29, 3) := by decide +kernel
theorem dX6_addMarks_38 : decode cX6_addMarks 38 = .ok (.iload_n 2, 1) := by decide +kernel
theorem dX6_addMarks_39 : decode cX6_addMarks 39 = .ok (.iaload, 1) := by decide +kernel
theorem dX6_addMarks_40 : decode cX6_addMarks 40 = .ok (.if_icmp .gt 59, 3) := by decide +kernel
theorem dX6_addMarks_43 : decode cX6_addMarks 43 = .ok (.aload_n 1, 1) := by decide +kernel
theorem dX6_addMarks_44 : decode cX6_addMarks 44 = .ok (.getfield 9, 3) := by decide +kernel
theorem dX6_addMarks_47 : decode cX6_addMarks 47 = .ok (.iload_n 2, 1) := by decide +kernel
theorem dX6_addMarks_48 : decode cX6_addMarks 48 = .ok (.aload_n 0, 1) := by decide +kernel
theorem dX6_addMarks_49 : decode cX6_addMarks 49 = .ok (.getfield 21, 3) := by decide +kernel
theorem dX6_addMarks_52 : decode cX6_addMarks 52 = .ok (.imul, 1) := by decide +kernel
theorem dX6_addMarks_53 : decode cX6_addMarks 53 = .ok (.iload 8, 2) := by decide +kernel
theorem dX6_addMarks_55 : decode cX6_addMarks 55 = .ok (.iadd, 1) := by decide +kernel
theorem dX6_addMarks_56 : decode cX6_addMarks 56 = .ok (.laload, 1) := by decide +kernel
theorem dX6_addMarks_57 : decode cX6_addMarks 57 = .ok (.lstore 9, 2) := by decide +kernel
theorem dX6_addMarks_59 : decode cX6_addMarks 59 = .ok (.lload 9, 2) := by decide +kernel
theorem dX6_addMarks_61 : decode cX6_addMarks 61 = .ok (.lconst 0, 1) := by decide +kernel
theorem dX6_addMarks_62 : decode cX6_addMarks 62 = .ok (.lcmp, 1) := by decide +kernel
theorem dX6_addMarks_63 : decode cX6_addMarks 63 = .ok (.ifCond .eq 30, 3) := by decide +kernel
theorem dX6_addMarks_66 : decode cX6_addMarks 66 = .ok (.aload_n 0, 1) := by decide +kernel
theorem dX6_addMarks_67 : decode cX6_addMarks 67 = .ok (.getfield 9, 3) := by decide +kernel
theorem dX6_addMarks_70 : decode cX6_addMarks 70 = .ok (.iload 7, 2) := by decide +kernel
theorem dX6_addMarks_72 : decode cX6_addMarks 72 = .ok (.iload 8, 2) := by decide +kernel
theorem dX6_addMarks_74 : decode cX6_addMarks 74 = .ok (.iadd, 1) := by decide +kernel
theorem dX6_addMarks_75 : decode cX6_addMarks 75 = .ok (.dup2, 1) := by decide +kernel
theorem dX6_addMarks_76 : decode cX6_addMarks 76 = .ok (.laload, 1) := by decide +kernel
theorem dX6_addMarks_77 : decode cX6_addMarks 77 = .ok (.lload 5, 2) := by decide +kernel
theorem dX6_addMarks_79 : decode cX6_addMarks 79 = .ok (.lconst 0, 1) := by decide +kernel
theorem dX6_addMarks_80 : decode cX6_addMarks 80 = .ok (.lcmp, 1) := by decide +kernel
theorem dX6_addMarks_81 : decode cX6_addMarks 81 = .ok (.ifCond .ne 8, 3) := by decide +kernel
theorem dX6_addMarks_84 : decode cX6_addMarks 84 = .ok (.lload 9, 2) := by decide +kernel
theorem dX6_addMarks_86 : decode cX6_addMarks 86 = .ok (.goto 5, 3) := by decide +kernel
theorem dX6_addMarks_89 : decode cX6_addMarks 89 = .ok (.lload 5, 2) := by decide +kernel
theorem dX6_addMarks_91 : decode cX6_addMarks 91 = .ok (.lor, 1) := by decide +kernel
theorem dX6_addMarks_92 : decode cX6_addMarks 92 = .ok (.lastore, 1) := by decide +kernel
theorem dX6_addMarks_93 : decode cX6_addMarks 93 = .ok (.iinc 8 1, 3) := by decide +kernel
theorem dX6_addMarks_96 : decode cX6_addMarks 96 = .ok (.goto (-64), 3) := by decide +kernel
theorem dX6_addMarks_99 : decode cX6_addMarks 99 = .ok (.aload_n 0, 1) := by decide +kernel
theorem dX6_addMarks_100 : decode cX6_addMarks 100 = .ok (.iload_n 3, 1) := by decide +kernel
theorem dX6_addMarks_101 : decode cX6_addMarks 101 = .ok (.aload_n 1, 1) := by decide +kernel
theorem dX6_addMarks_102 : decode cX6_addMarks 102 = .ok (.getfield 25, 3) := by decide +kernel
theorem dX6_addMarks_105 : decode cX6_addMarks 105 = .ok (.iload_n 2, 1) := by decide +kernel
theorem dX6_addMarks_106 : decode cX6_addMarks 106 = .ok (.iaload, 1) := by decide +kernel
theorem dX6_addMarks_107 : decode cX6_addMarks 107 = .ok (.iload 4, 2) := by decide +kernel
theorem dX6_addMarks_109 : decode cX6_addMarks 109 = .ok (.iadd, 1) := by decide +kernel
theorem dX6_addMarks_110 : decode cX6_addMarks 110 = .ok (.aload_n 1, 1) := by decide +kernel
theorem dX6_addMarks_111 : decode cX6_addMarks 111 = .ok (.getfield 29, 3) := by decide +kernel
theorem dX6_addMarks_114 : decode cX6_addMarks 114 = .ok (.iload_n 2, 1) := by decide +kernel
theorem dX6_addMarks_115 : decode cX6_addMarks 115 = .ok (.iaload, 1) := by decide +kernel
theorem dX6_addMarks_116 : decode cX6_addMarks 116 = .ok (.iload 4, 2) := by decide +kernel
theorem dX6_addMarks_118 : decode cX6_addMarks 118 = .ok (.iadd, 1) := by decide +kernel
theorem dX6_addMarks_119 : decode cX6_addMarks 119 = .ok (.invokevirtual 43, 3) := by decide +kernel
theorem dX6_addMarks_122 : decode cX6_addMarks 122 = .ok (.return_, 1) := by decide +kernel
theorem dX6_wipe_0 : decode cX6_wipe 0 = .ok (.iconst 0, 1) := by decide +kernel
theorem dX6_wipe_1 : decode cX6_wipe 1 = .ok (.istore_n 1, 1) := by decide +kernel
theorem dX6_wipe_2 : decode cX6_wipe 2 = .ok (.iload_n 1, 1) := by decide +kernel
theorem dX6_wipe_3 : decode cX6_wipe 3 = .ok (.aload_n 0, 1) := by decide +kernel
theorem dX6_wipe_4 : decode cX6_wipe 4 = .ok (.getfield 25, 3) := by decide +kernel
theorem dX6_wipe_7 : decode cX6_wipe 7 = .ok (.arraylength, 1) := by decide +kernel
theorem dX6_wipe_8 : decode cX6_wipe 8 = .ok (.if_icmp .ge 77, 3) := by decide +kernel
theorem dX6_wipe_11 : decode cX6_wipe 11 = .ok (.aload_n 0, 1) := by decide +kernel
theorem dX6_wipe_12 : decode cX6_wipe 12 = .ok (.iload_n 1, 1) := by decide +kernel
theorem dX6_wipe_13 : decode cX6_wipe 13 = .ok (.invokevirtual 40, 3) := by decide +kernel
theorem dX6_wipe_16 : decode cX6_wipe 16 = .ok (.aload_n 0, 1) := by decide +kernel
theorem dX6_wipe_17 : decode cX6_wipe 17 = .ok (.getfield 21, 3) := by decide +kernel
theorem dX6_wipe_20 : decode cX6_wipe 20 = .ok (.iconst 1, 1) := by decide +kernel
theorem dX6_wipe_21 : decode cX6_wipe 21 = .ok (.isub, 1) := by decide +kernel
theorem dX6_wipe_22 : decode cX6_wipe 22 = .ok (.invokestatic 47, 3) := by decide +kernel
theorem dX6_wipe_25 : decode cX6_wipe 25 = .ok (.istore_n 2, 1) := by decide +kernel
theorem dX6_wipe_26 : decode cX6_wipe 26 = .ok (.aload_n 0, 1) := by decide +kernel
theorem dX6_wipe_27 : decode cX6_wipe 27 = .ok (.getfield 25, 3) := by decide +kernel
theorem dX6_wipe_30 : decode cX6_wipe 30 = .ok (.iload_n 1, 1) := by decide +kernel
theorem dX6_wipe_31 : decode cX6_wipe 31 = .ok (.iaload, 1) := by decide +kernel
theorem dX6_wipe_32 : decode cX6_wipe 32 = .ok (.iconst 0, 1) := by decide +kernel
theorem dX6_wipe_33 : decode cX6_wipe 33 = .ok (.invokestatic 15, 3) := by decide +kernel
theorem dX6_wipe_36 : decode cX6_wipe 36 = .ok (.istore_n 3, 1) := by decide +kernel
theorem dX6_wipe_37 : decode cX6_wipe 37 = .ok (.iload_n 3, 1) := by decide +kernel
theorem dX6_wipe_38 : decode cX6_wipe 38 = .ok (.iload_n 2, 1) := by decide +kernel
theorem dX6_wipe_39 : decode cX6_wipe 39 = .ok (.if_icmp .gt 23, 3) := by decide +kernel
theorem dX6_wipe_42 : decode cX6_wipe 42 = .ok (.aload_n 0, 1) := by decide +kernel
theorem dX6_wipe_43 : decode cX6_wipe 43 = .ok (.getfield 9, 3) := by decide +kernel
theorem dX6_wipe_46 : decode cX6_wipe 46 = .ok (.iload_n 1, 1) := by decide +kernel
theorem dX6_wipe_47 : decode cX6_wipe 47 = .ok (.aload_n 0, 1) := by decide +kernel
theorem dX6_wipe_48 : decode cX6_wipe 48 = .ok (.getfield 21, 3) := by decide +kernel
theorem dX6_wipe_51 : decode cX6_wipe 51 = .ok (.imul, 1) := by decide +kernel
theorem dX6_wipe_52 : decode cX6_wipe 52 = .ok (.iload_n 3, 1) := by decide +kernel
theorem dX6_wipe_53 : decode cX6_wipe 53 = .ok (.iadd, 1) := by decide +kernel
theorem dX6_wipe_54 : decode cX6_wipe 54 = .ok (.lconst 0, 1) := by decide +kernel
theorem dX6_wipe_55 : decode cX6_wipe 55 = .ok (.lastore, 1) := by decide +kernel
theorem dX6_wipe_56 : decode cX6_wipe 56 = .ok (.iinc 3 1, 3) := by decide +kernel
theorem dX6_wipe_59 : decode cX6_wipe 59 = .ok (.goto (-22), 3) := by decide +kernel
theorem dX6_wipe_62 : decode cX6_wipe 62 = .ok (.aload_n 0, 1) := by decide +kernel
theorem dX6_wipe_63 : decode cX6_wipe 63 = .ok (.getfield 25, 3) := by decide +kernel
theorem dX6_wipe_66 : decode cX6_wipe 66 = .ok (.iload_n 1, 1) := by decide +kernel
theorem dX6_wipe_67 : decode cX6_wipe 67 = .ok (.aload_n 0, 1) := by decide +kernel
theorem dX6_wipe_68 : decode cX6_wipe 68 = .ok (.getfield 21, 3) := by decide +kernel
theorem dX6_wipe_71 : decode cX6_wipe 71 = .ok (.iastore, 1) := by decide +kernel
theorem dX6_wipe_72 : decode cX6_wipe 72 = .ok (.aload_n 0, 1) := by decide +kernel
theorem dX6_wipe_73 : decode cX6_wipe 73 = .ok (.getfield 29, 3) := by decide +kernel
theorem dX6_wipe_76 : decode cX6_wipe 76 = .ok (.iload_n 1, 1) := by decide +kernel
theorem dX6_wipe_77 : decode cX6_wipe 77 = .ok (.iconst (-1), 1) := by decide +kernel
theorem dX6_wipe_78 : decode cX6_wipe 78 = .ok (.iastore, 1) := by decide +kernel
theorem dX6_wipe_79 : decode cX6_wipe 79 = .ok (.iinc 1 1, 3) := by decide +kernel
theorem dX6_wipe_82 : decode cX6_wipe 82 = .ok (.goto (-80), 3) := by decide +kernel
theorem dX6_wipe_85 : decode cX6_wipe 85 = .ok (.return_, 1) := by decide +kernel
