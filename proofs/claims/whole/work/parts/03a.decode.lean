theorem dJ0_length_8abf5_0 : decode cJ0_length_8abf5 0 = .ok (.aload_n 0, 1) := by decide +kernel
theorem dJ0_length_8abf5_1 : decode cJ0_length_8abf5 1 = .ok (.getfield 9, 3) := by decide +kernel
theorem dJ0_length_8abf5_4 : decode cJ0_length_8abf5 4 = .ok (.arraylength, 1) := by decide +kernel
theorem dJ0_length_8abf5_5 : decode cJ0_length_8abf5 5 = .ok (.aload_n 0, 1) := by decide +kernel
theorem dJ0_length_8abf5_6 : decode cJ0_length_8abf5 6 = .ok (.invokevirtual 335, 3) := by decide +kernel
theorem dJ0_length_8abf5_9 : decode cJ0_length_8abf5 9 = .ok (.ishr, 1) := by decide +kernel
theorem dJ0_length_8abf5_10 : decode cJ0_length_8abf5 10 = .ok (.ireturn, 1) := by decide +kernel
theorem dJ0_charAt_5068e_0 : decode cJ0_charAt_5068e 0 = .ok (.aload_n 0, 1) := by decide +kernel
theorem dJ0_charAt_5068e_1 : decode cJ0_charAt_5068e 1 = .ok (.invokevirtual 492, 3) := by decide +kernel
theorem dJ0_charAt_5068e_4 : decode cJ0_charAt_5068e 4 = .ok (.ifCond .eq 12, 3) := by decide +kernel
theorem dJ0_charAt_5068e_7 : decode cJ0_charAt_5068e 7 = .ok (.aload_n 0, 1) := by decide +kernel
theorem dJ0_charAt_5068e_8 : decode cJ0_charAt_5068e 8 = .ok (.getfield 9, 3) := by decide +kernel
theorem dJ0_charAt_5068e_11 : decode cJ0_charAt_5068e 11 = .ok (.iload_n 1, 1) := by decide +kernel
theorem dJ0_charAt_5068e_12 : decode cJ0_charAt_5068e 12 = .ok (.invokestatic 495, 3) := by decide +kernel
theorem dJ0_charAt_5068e_15 : decode cJ0_charAt_5068e 15 = .ok (.ireturn, 1) := by decide +kernel
theorem dJ0_charAt_5068e_16 : decode cJ0_charAt_5068e 16 = .ok (.aload_n 0, 1) := by decide +kernel
theorem dJ0_charAt_5068e_17 : decode cJ0_charAt_5068e 17 = .ok (.getfield 9, 3) := by decide +kernel
theorem dJ0_charAt_5068e_20 : decode cJ0_charAt_5068e 20 = .ok (.iload_n 1, 1) := by decide +kernel
theorem dJ0_charAt_5068e_21 : decode cJ0_charAt_5068e 21 = .ok (.invokestatic 498, 3) := by decide +kernel
theorem dJ0_charAt_5068e_24 : decode cJ0_charAt_5068e 24 = .ok (.ireturn, 1) := by decide +kernel
theorem dJ0_coder_7d493_0 : decode cJ0_coder_7d493 0 = .ok (.getstatic 38, 3) := by decide +kernel
theorem dJ0_coder_7d493_3 : decode cJ0_coder_7d493 3 = .ok (.ifCond .eq 10, 3) := by decide +kernel
theorem dJ0_coder_7d493_6 : decode cJ0_coder_7d493 6 = .ok (.aload_n 0, 1) := by decide +kernel
theorem dJ0_coder_7d493_7 : decode cJ0_coder_7d493 7 = .ok (.getfield 15, 3) := by decide +kernel
theorem dJ0_coder_7d493_10 : decode cJ0_coder_7d493 10 = .ok (.goto 4, 3) := by decide +kernel
theorem dJ0_coder_7d493_13 : decode cJ0_coder_7d493 13 = .ok (.iconst 1, 1) := by decide +kernel
theorem dJ0_coder_7d493_14 : decode cJ0_coder_7d493 14 = .ok (.ireturn, 1) := by decide +kernel
theorem dJ0_isLatin1_aae02_0 : decode cJ0_isLatin1_aae02 0 = .ok (.getstatic 38, 3) := by decide +kernel
theorem dJ0_isLatin1_aae02_3 : decode cJ0_isLatin1_aae02 3 = .ok (.ifCond .eq 14, 3) := by decide +kernel
theorem dJ0_isLatin1_aae02_6 : decode cJ0_isLatin1_aae02 6 = .ok (.aload_n 0, 1) := by decide +kernel
theorem dJ0_isLatin1_aae02_7 : decode cJ0_isLatin1_aae02 7 = .ok (.getfield 15, 3) := by decide +kernel
theorem dJ0_isLatin1_aae02_10 : decode cJ0_isLatin1_aae02 10 = .ok (.ifCond .ne 7, 3) := by decide +kernel
theorem dJ0_isLatin1_aae02_13 : decode cJ0_isLatin1_aae02 13 = .ok (.iconst 1, 1) := by decide +kernel
theorem dJ0_isLatin1_aae02_14 : decode cJ0_isLatin1_aae02 14 = .ok (.goto 4, 3) := by decide +kernel
theorem dJ0_isLatin1_aae02_17 : decode cJ0_isLatin1_aae02 17 = .ok (.iconst 0, 1) := by decide +kernel
theorem dJ0_isLatin1_aae02_18 : decode cJ0_isLatin1_aae02 18 = .ok (.ireturn, 1) := by decide +kernel
theorem dJ0_checkIndex_df160_0 : decode cJ0_checkIndex_df160 0 = .ok (.iload_n 0, 1) := by decide +kernel
theorem dJ0_checkIndex_df160_1 : decode cJ0_checkIndex_df160 1 = .ok (.iload_n 1, 1) := by decide +kernel
theorem dJ0_checkIndex_df160_2 : decode cJ0_checkIndex_df160 2 = .ok (.getstatic 1053, 3) := by decide +kernel
theorem dJ0_checkIndex_df160_5 : decode cJ0_checkIndex_df160 5 = .ok (.invokestatic 1059, 3) := by decide +kernel
theorem dJ0_checkIndex_df160_8 : decode cJ0_checkIndex_df160 8 = .ok (.pop, 1) := by decide +kernel
theorem dJ0_checkIndex_df160_9 : decode cJ0_checkIndex_df160 9 = .ok (.return_, 1) := by decide +kernel
theorem dJ1_charAt_3b067_0 : decode cJ1_charAt_3b067 0 = .ok (.iload_n 1, 1) := by decide +kernel
theorem dJ1_charAt_3b067_1 : decode cJ1_charAt_3b067 1 = .ok (.aload_n 0, 1) := by decide +kernel
theorem dJ1_charAt_3b067_2 : decode cJ1_charAt_3b067 2 = .ok (.arraylength, 1) := by decide +kernel
theorem dJ1_charAt_3b067_3 : decode cJ1_charAt_3b067 3 = .ok (.invokestatic 9, 3) := by decide +kernel
theorem dJ1_charAt_3b067_6 : decode cJ1_charAt_3b067 6 = .ok (.aload_n 0, 1) := by decide +kernel
theorem dJ1_charAt_3b067_7 : decode cJ1_charAt_3b067 7 = .ok (.iload_n 1, 1) := by decide +kernel
theorem dJ1_charAt_3b067_8 : decode cJ1_charAt_3b067 8 = .ok (.baload, 1) := by decide +kernel
theorem dJ1_charAt_3b067_9 : decode cJ1_charAt_3b067 9 = .ok (.sipush 255, 3) := by decide +kernel
theorem dJ1_charAt_3b067_12 : decode cJ1_charAt_3b067 12 = .ok (.iand, 1) := by decide +kernel
theorem dJ1_charAt_3b067_13 : decode cJ1_charAt_3b067 13 = .ok (.i2c, 1) := by decide +kernel
theorem dJ1_charAt_3b067_14 : decode cJ1_charAt_3b067 14 = .ok (.ireturn, 1) := by decide +kernel
theorem dJ2_getChar_3b067_0 : decode cJ2_getChar_3b067 0 = .ok (.getstatic 44, 3) := by decide +kernel
theorem dJ2_getChar_3b067_3 : decode cJ2_getChar_3b067 3 = .ok (.ifCond .ne 25, 3) := by decide +kernel
theorem dJ2_getChar_3b067_6 : decode cJ2_getChar_3b067 6 = .ok (.iload_n 1, 1) := by decide +kernel
theorem dJ2_getChar_3b067_7 : decode cJ2_getChar_3b067 7 = .ok (.ifCond .lt 11, 3) := by decide +kernel
theorem dJ2_getChar_3b067_10 : decode cJ2_getChar_3b067 10 = .ok (.iload_n 1, 1) := by decide +kernel
theorem dJ2_getChar_3b067_11 : decode cJ2_getChar_3b067 11 = .ok (.aload_n 0, 1) := by decide +kernel
theorem dJ2_getChar_3b067_12 : decode cJ2_getChar_3b067 12 = .ok (.invokestatic 48, 3) := by decide +kernel
theorem dJ2_getChar_3b067_15 : decode cJ2_getChar_3b067 15 = .ok (.if_icmp .lt 13, 3) := by decide +kernel
theorem dJ2_getChar_3b067_18 : decode cJ2_getChar_3b067 18 = .ok (.new 52, 3) := by decide +kernel
theorem dJ2_getChar_3b067_21 : decode cJ2_getChar_3b067 21 = .ok (.dup, 1) := by decide +kernel
theorem dJ2_getChar_3b067_22 : decode cJ2_getChar_3b067 22 = .ok (.ldc 54, 2) := by decide +kernel
theorem dJ2_getChar_3b067_24 : decode cJ2_getChar_3b067 24 = .ok (.invokespecial 56, 3) := by decide +kernel
theorem dJ2_getChar_3b067_27 : decode cJ2_getChar_3b067 27 = .ok (.athrow, 1) := by decide +kernel
theorem dJ2_getChar_3b067_28 : decode cJ2_getChar_3b067 28 = .ok (.iload_n 1, 1) := by decide +kernel
theorem dJ2_getChar_3b067_29 : decode cJ2_getChar_3b067 29 = .ok (.iconst 1, 1) := by decide +kernel
theorem dJ2_getChar_3b067_30 : decode cJ2_getChar_3b067 30 = .ok (.ishl, 1) := by decide +kernel
theorem dJ2_getChar_3b067_31 : decode cJ2_getChar_3b067 31 = .ok (.istore_n 1, 1) := by decide +kernel
theorem dJ2_getChar_3b067_32 : decode cJ2_getChar_3b067 32 = .ok (.aload_n 0, 1) := by decide +kernel
theorem dJ2_getChar_3b067_33 : decode cJ2_getChar_3b067 33 = .ok (.iload_n 1, 1) := by decide +kernel
theorem dJ2_getChar_3b067_34 : decode cJ2_getChar_3b067 34 = .ok (.iinc 1 1, 3) := by decide +kernel
theorem dJ2_getChar_3b067_37 : decode cJ2_getChar_3b067 37 = .ok (.baload, 1) := by decide +kernel
theorem dJ2_getChar_3b067_38 : decode cJ2_getChar_3b067 38 = .ok (.sipush 255, 3) := by decide +kernel
theorem dJ2_getChar_3b067_41 : decode cJ2_getChar_3b067 41 = .ok (.iand, 1) := by decide +kernel
theorem dJ2_getChar_3b067_42 : decode cJ2_getChar_3b067 42 = .ok (.getstatic 59, 3) := by decide +kernel
theorem dJ2_getChar_3b067_45 : decode cJ2_getChar_3b067 45 = .ok (.ishl, 1) := by decide +kernel
theorem dJ2_getChar_3b067_46 : decode cJ2_getChar_3b067 46 = .ok (.aload_n 0, 1) := by decide +kernel
theorem dJ2_getChar_3b067_47 : decode cJ2_getChar_3b067 47 = .ok (.iload_n 1, 1) := by decide +kernel
theorem dJ2_getChar_3b067_48 : decode cJ2_getChar_3b067 48 = .ok (.baload, 1) := by decide +kernel
theorem dJ2_getChar_3b067_49 : decode cJ2_getChar_3b067 49 = .ok (.sipush 255, 3) := by decide +kernel
theorem dJ2_getChar_3b067_52 : decode cJ2_getChar_3b067 52 = .ok (.iand, 1) := by decide +kernel
theorem dJ2_getChar_3b067_53 : decode cJ2_getChar_3b067 53 = .ok (.getstatic 63, 3) := by decide +kernel
theorem dJ2_getChar_3b067_56 : decode cJ2_getChar_3b067 56 = .ok (.ishl, 1) := by decide +kernel
theorem dJ2_getChar_3b067_57 : decode cJ2_getChar_3b067 57 = .ok (.ior, 1) := by decide +kernel
theorem dJ2_getChar_3b067_58 : decode cJ2_getChar_3b067 58 = .ok (.i2c, 1) := by decide +kernel
theorem dJ2_getChar_3b067_59 : decode cJ2_getChar_3b067 59 = .ok (.ireturn, 1) := by decide +kernel
theorem dJ2_length_9d52b_0 : decode cJ2_length_9d52b 0 = .ok (.aload_n 0, 1) := by decide +kernel
theorem dJ2_length_9d52b_1 : decode cJ2_length_9d52b 1 = .ok (.arraylength, 1) := by decide +kernel
theorem dJ2_length_9d52b_2 : decode cJ2_length_9d52b 2 = .ok (.iconst 1, 1) := by decide +kernel
theorem dJ2_length_9d52b_3 : decode cJ2_length_9d52b 3 = .ok (.ishr, 1) := by decide +kernel
theorem dJ2_length_9d52b_4 : decode cJ2_length_9d52b 4 = .ok (.ireturn, 1) := by decide +kernel
theorem dJ2_charAt_3b067_0 : decode cJ2_charAt_3b067 0 = .ok (.iload_n 1, 1) := by decide +kernel
theorem dJ2_charAt_3b067_1 : decode cJ2_charAt_3b067 1 = .ok (.aload_n 0, 1) := by decide +kernel
theorem dJ2_charAt_3b067_2 : decode cJ2_charAt_3b067 2 = .ok (.invokestatic 67, 3) := by decide +kernel
theorem dJ2_charAt_3b067_5 : decode cJ2_charAt_3b067 5 = .ok (.aload_n 0, 1) := by decide +kernel
theorem dJ2_charAt_3b067_6 : decode cJ2_charAt_3b067 6 = .ok (.iload_n 1, 1) := by decide +kernel
theorem dJ2_charAt_3b067_7 : decode cJ2_charAt_3b067 7 = .ok (.invokestatic 71, 3) := by decide +kernel
theorem dJ2_charAt_3b067_10 : decode cJ2_charAt_3b067 10 = .ok (.ireturn, 1) := by decide +kernel
theorem dJ2_checkIndex_2214a_0 : decode cJ2_checkIndex_2214a 0 = .ok (.iload_n 0, 1) := by decide +kernel
theorem dJ2_checkIndex_2214a_1 : decode cJ2_checkIndex_2214a 1 = .ok (.aload_n 1, 1) := by decide +kernel
theorem dJ2_checkIndex_2214a_2 : decode cJ2_checkIndex_2214a 2 = .ok (.invokestatic 48, 3) := by decide +kernel
theorem dJ2_checkIndex_2214a_5 : decode cJ2_checkIndex_2214a 5 = .ok (.invokestatic 414, 3) := by decide +kernel
theorem dJ2_checkIndex_2214a_8 : decode cJ2_checkIndex_2214a 8 = .ok (.return_, 1) := by decide +kernel
theorem dJ3_checkIndex_8e157_0 : decode cJ3_checkIndex_8e157 0 = .ok (.iload_n 0, 1) := by decide +kernel
theorem dJ3_checkIndex_8e157_1 : decode cJ3_checkIndex_8e157 1 = .ok (.ifCond .lt 8, 3) := by decide +kernel
theorem dJ3_checkIndex_8e157_4 : decode cJ3_checkIndex_8e157 4 = .ok (.iload_n 0, 1) := by decide +kernel
theorem dJ3_checkIndex_8e157_5 : decode cJ3_checkIndex_8e157 5 = .ok (.iload_n 1, 1) := by decide +kernel
theorem dJ3_checkIndex_8e157_6 : decode cJ3_checkIndex_8e157 6 = .ok (.if_icmp .lt 10, 3) := by decide +kernel
theorem dJ3_checkIndex_8e157_9 : decode cJ3_checkIndex_8e157 9 = .ok (.aload_n 2, 1) := by decide +kernel
theorem dJ3_checkIndex_8e157_10 : decode cJ3_checkIndex_8e157 10 = .ok (.iload_n 0, 1) := by decide +kernel
theorem dJ3_checkIndex_8e157_11 : decode cJ3_checkIndex_8e157 11 = .ok (.iload_n 1, 1) := by decide +kernel
theorem dJ3_checkIndex_8e157_12 : decode cJ3_checkIndex_8e157 12 = .ok (.invokestatic 95, 3) := by decide +kernel
theorem dJ3_checkIndex_8e157_15 : decode cJ3_checkIndex_8e157 15 = .ok (.athrow, 1) := by decide +kernel
theorem dJ3_checkIndex_8e157_16 : decode cJ3_checkIndex_8e157 16 = .ok (.iload_n 0, 1) := by decide +kernel
theorem dJ3_checkIndex_8e157_17 : decode cJ3_checkIndex_8e157 17 = .ok (.ireturn, 1) := by decide +kernel
theorem dJ6_bitCount_0f7a4_0 : decode cJ6_bitCount_0f7a4 0 = .ok (.iload_n 0, 1) := by decide +kernel
theorem dJ6_bitCount_0f7a4_1 : decode cJ6_bitCount_0f7a4 1 = .ok (.iload_n 0, 1) := by decide +kernel
theorem dJ6_bitCount_0f7a4_2 : decode cJ6_bitCount_0f7a4 2 = .ok (.iconst 1, 1) := by decide +kernel
theorem dJ6_bitCount_0f7a4_3 : decode cJ6_bitCount_0f7a4 3 = .ok (.iushr, 1) := by decide +kernel
theorem dJ6_bitCount_0f7a4_4 : decode cJ6_bitCount_0f7a4 4 = .ok (.ldc_w 265, 3) := by decide +kernel
theorem dJ6_bitCount_0f7a4_7 : decode cJ6_bitCount_0f7a4 7 = .ok (.iand, 1) := by decide +kernel
theorem dJ6_bitCount_0f7a4_8 : decode cJ6_bitCount_0f7a4 8 = .ok (.isub, 1) := by decide +kernel
theorem dJ6_bitCount_0f7a4_9 : decode cJ6_bitCount_0f7a4 9 = .ok (.istore_n 0, 1) := by decide +kernel
theorem dJ6_bitCount_0f7a4_10 : decode cJ6_bitCount_0f7a4 10 = .ok (.iload_n 0, 1) := by decide +kernel
theorem dJ6_bitCount_0f7a4_11 : decode cJ6_bitCount_0f7a4 11 = .ok (.ldc_w 266, 3) := by decide +kernel
theorem dJ6_bitCount_0f7a4_14 : decode cJ6_bitCount_0f7a4 14 = .ok (.iand, 1) := by decide +kernel
theorem dJ6_bitCount_0f7a4_15 : decode cJ6_bitCount_0f7a4 15 = .ok (.iload_n 0, 1) := by decide +kernel
theorem dJ6_bitCount_0f7a4_16 : decode cJ6_bitCount_0f7a4 16 = .ok (.iconst 2, 1) := by decide +kernel
theorem dJ6_bitCount_0f7a4_17 : decode cJ6_bitCount_0f7a4 17 = .ok (.iushr, 1) := by decide +kernel
theorem dJ6_bitCount_0f7a4_18 : decode cJ6_bitCount_0f7a4 18 = .ok (.ldc_w 266, 3) := by decide +kernel
theorem dJ6_bitCount_0f7a4_21 : decode cJ6_bitCount_0f7a4 21 = .ok (.iand, 1) := by decide +kernel
theorem dJ6_bitCount_0f7a4_22 : decode cJ6_bitCount_0f7a4 22 = .ok (.iadd, 1) := by decide +kernel
theorem dJ6_bitCount_0f7a4_23 : decode cJ6_bitCount_0f7a4 23 = .ok (.istore_n 0, 1) := by decide +kernel
theorem dJ6_bitCount_0f7a4_24 : decode cJ6_bitCount_0f7a4 24 = .ok (.iload_n 0, 1) := by decide +kernel
theorem dJ6_bitCount_0f7a4_25 : decode cJ6_bitCount_0f7a4 25 = .ok (.iload_n 0, 1) := by decide +kernel
theorem dJ6_bitCount_0f7a4_26 : decode cJ6_bitCount_0f7a4 26 = .ok (.iconst 4, 1) := by decide +kernel
theorem dJ6_bitCount_0f7a4_27 : decode cJ6_bitCount_0f7a4 27 = .ok (.iushr, 1) := by decide +kernel
theorem dJ6_bitCount_0f7a4_28 : decode cJ6_bitCount_0f7a4 28 = .ok (.iadd, 1) := by decide +kernel
theorem dJ6_bitCount_0f7a4_29 : decode cJ6_bitCount_0f7a4 29 = .ok (.ldc_w 267, 3) := by decide +kernel
theorem dJ6_bitCount_0f7a4_32 : decode cJ6_bitCount_0f7a4 32 = .ok (.iand, 1) := by decide +kernel
theorem dJ6_bitCount_0f7a4_33 : decode cJ6_bitCount_0f7a4 33 = .ok (.istore_n 0, 1) := by decide +kernel
theorem dJ6_bitCount_0f7a4_34 : decode cJ6_bitCount_0f7a4 34 = .ok (.iload_n 0, 1) := by decide +kernel
theorem dJ6_bitCount_0f7a4_35 : decode cJ6_bitCount_0f7a4 35 = .ok (.iload_n 0, 1) := by decide +kernel
theorem dJ6_bitCount_0f7a4_36 : decode cJ6_bitCount_0f7a4 36 = .ok (.bipush 8, 2) := by decide +kernel
theorem dJ6_bitCount_0f7a4_38 : decode cJ6_bitCount_0f7a4 38 = .ok (.iushr, 1) := by decide +kernel
theorem dJ6_bitCount_0f7a4_39 : decode cJ6_bitCount_0f7a4 39 = .ok (.iadd, 1) := by decide +kernel
theorem dJ6_bitCount_0f7a4_40 : decode cJ6_bitCount_0f7a4 40 = .ok (.istore_n 0, 1) := by decide +kernel
theorem dJ6_bitCount_0f7a4_41 : decode cJ6_bitCount_0f7a4 41 = .ok (.iload_n 0, 1) := by decide +kernel
theorem dJ6_bitCount_0f7a4_42 : decode cJ6_bitCount_0f7a4 42 = .ok (.iload_n 0, 1) := by decide +kernel
theorem dJ6_bitCount_0f7a4_43 : decode cJ6_bitCount_0f7a4 43 = .ok (.bipush 16, 2) := by decide +kernel
theorem dJ6_bitCount_0f7a4_45 : decode cJ6_bitCount_0f7a4 45 = .ok (.iushr, 1) := by decide +kernel
theorem dJ6_bitCount_0f7a4_46 : decode cJ6_bitCount_0f7a4 46 = .ok (.iadd, 1) := by decide +kernel
theorem dJ6_bitCount_0f7a4_47 : decode cJ6_bitCount_0f7a4 47 = .ok (.istore_n 0, 1) := by decide +kernel
theorem dJ6_bitCount_0f7a4_48 : decode cJ6_bitCount_0f7a4 48 = .ok (.iload_n 0, 1) := by decide +kernel
theorem dJ6_bitCount_0f7a4_49 : decode cJ6_bitCount_0f7a4 49 = .ok (.bipush 63, 2) := by decide +kernel
theorem dJ6_bitCount_0f7a4_51 : decode cJ6_bitCount_0f7a4 51 = .ok (.iand, 1) := by decide +kernel
theorem dJ6_bitCount_0f7a4_52 : decode cJ6_bitCount_0f7a4 52 = .ok (.ireturn, 1) := by decide +kernel
theorem dJ9_max_7cf53_0 : decode cJ9_max_7cf53 0 = .ok (.iload_n 0, 1) := by decide +kernel
theorem dJ9_max_7cf53_1 : decode cJ9_max_7cf53 1 = .ok (.iload_n 1, 1) := by decide +kernel
theorem dJ9_max_7cf53_2 : decode cJ9_max_7cf53 2 = .ok (.if_icmp .lt 7, 3) := by decide +kernel
theorem dJ9_max_7cf53_5 : decode cJ9_max_7cf53 5 = .ok (.iload_n 0, 1) := by decide +kernel
theorem dJ9_max_7cf53_6 : decode cJ9_max_7cf53 6 = .ok (.goto 4, 3) := by decide +kernel
theorem dJ9_max_7cf53_9 : decode cJ9_max_7cf53 9 = .ok (.iload_n 1, 1) := by decide +kernel
theorem dJ9_max_7cf53_10 : decode cJ9_max_7cf53 10 = .ok (.ireturn, 1) := by decide +kernel
theorem dJ9_min_7cf53_0 : decode cJ9_min_7cf53 0 = .ok (.iload_n 0, 1) := by decide +kernel
theorem dJ9_min_7cf53_1 : decode cJ9_min_7cf53 1 = .ok (.iload_n 1, 1) := by decide +kernel
theorem dJ9_min_7cf53_2 : decode cJ9_min_7cf53 2 = .ok (.if_icmp .gt 7, 3) := by decide +kernel
theorem dJ9_min_7cf53_5 : decode cJ9_min_7cf53 5 = .ok (.iload_n 0, 1) := by decide +kernel
theorem dJ9_min_7cf53_6 : decode cJ9_min_7cf53 6 = .ok (.goto 4, 3) := by decide +kernel
theorem dJ9_min_7cf53_9 : decode cJ9_min_7cf53 9 = .ok (.iload_n 1, 1) := by decide +kernel
theorem dJ9_min_7cf53_10 : decode cJ9_min_7cf53 10 = .ok (.ireturn, 1) := by decide +kernel
theorem dL_law_0 : decode cL_law 0 = .ok (.new 7, 3) := by decide +kernel
theorem dL_law_3 : decode cL_law 3 = .ok (.dup, 1) := by decide +kernel
theorem dL_law_4 : decode cL_law 4 = .ok (.invokespecial 9, 3) := by decide +kernel
theorem dL_law_7 : decode cL_law 7 = .ok (.astore_n 1, 1) := by decide +kernel
theorem dL_law_8 : decode cL_law 8 = .ok (.new 10, 3) := by decide +kernel
theorem dL_law_11 : decode cL_law 11 = .ok (.dup, 1) := by decide +kernel
theorem dL_law_12 : decode cL_law 12 = .ok (.invokespecial 12, 3) := by decide +kernel
theorem dL_law_15 : decode cL_law 15 = .ok (.astore_n 2, 1) := by decide +kernel
theorem dL_law_16 : decode cL_law 16 = .ok (.iconst 0, 1) := by decide +kernel
theorem dL_law_17 : decode cL_law 17 = .ok (.istore_n 3, 1) := by decide +kernel
theorem dL_law_18 : decode cL_law 18 = .ok (.iload_n 3, 1) := by decide +kernel
theorem dL_law_19 : decode cL_law 19 = .ok (.aload_n 0, 1) := by decide +kernel
theorem dL_law_20 : decode cL_law 20 = .ok (.arraylength, 1) := by decide +kernel
theorem dL_law_21 : decode cL_law 21 = .ok (.iconst 4, 1) := by decide +kernel
theorem dL_law_22 : decode cL_law 22 = .ok (.isub, 1) := by decide +kernel
theorem dL_law_23 : decode cL_law 23 = .ok (.if_icmp .gt 947, 3) := by decide +kernel
theorem dL_law_26 : decode cL_law 26 = .ok (.aload_n 0, 1) := by decide +kernel
theorem dL_law_27 : decode cL_law 27 = .ok (.iload_n 3, 1) := by decide +kernel
theorem dL_law_28 : decode cL_law 28 = .ok (.iaload, 1) := by decide +kernel
theorem dL_law_29 : decode cL_law 29 = .ok (.bipush 31, 2) := by decide +kernel
theorem dL_law_31 : decode cL_law 31 = .ok (.iand, 1) := by decide +kernel
theorem dL_law_32 : decode cL_law 32 = .ok (.tableswitch 932 0 27 #[128, 191, 204, 217, 240, 283, 316, 349, 372, 415, 438, 471, 504, 527, 550, 593, 636, 669, 702, 715, 748, 791, 804, 827, 850, 863, 886, 909], 128) := by decide +kernel
theorem dL_law_160 : decode cL_law 160 = .ok (.aload_n 1, 1) := by decide +kernel
theorem dL_law_161 : decode cL_law 161 = .ok (.aload_n 0, 1) := by decide +kernel
theorem dL_law_162 : decode cL_law 162 = .ok (.iload_n 3, 1) := by decide +kernel
theorem dL_law_163 : decode cL_law 163 = .ok (.iconst 1, 1) := by decide +kernel
theorem dL_law_164 : decode cL_law 164 = .ok (.iadd, 1) := by decide +kernel
theorem dL_law_165 : decode cL_law 165 = .ok (.iaload, 1) := by decide +kernel
theorem dL_law_166 : decode cL_law 166 = .ok (.aload_n 0, 1) := by decide +kernel
theorem dL_law_167 : decode cL_law 167 = .ok (.iload_n 3, 1) := by decide +kernel
theorem dL_law_168 : decode cL_law 168 = .ok (.iconst 2, 1) := by decide +kernel
theorem dL_law_169 : decode cL_law 169 = .ok (.iadd, 1) := by decide +kernel
theorem dL_law_170 : decode cL_law 170 = .ok (.iaload, 1) := by decide +kernel
theorem dL_law_171 : decode cL_law 171 = .ok (.i2l, 1) := by decide +kernel
theorem dL_law_172 : decode cL_law 172 = .ok (.bipush 32, 2) := by decide +kernel
theorem dL_law_174 : decode cL_law 174 = .ok (.lshl, 1) := by decide +kernel
theorem dL_law_175 : decode cL_law 175 = .ok (.aload_n 0, 1) := by decide +kernel
theorem dL_law_176 : decode cL_law 176 = .ok (.iload_n 3, 1) := by decide +kernel
theorem dL_law_177 : decode cL_law 177 = .ok (.iconst 3, 1) := by decide +kernel
theorem dL_law_178 : decode cL_law 178 = .ok (.iadd, 1) := by decide +kernel
theorem dL_law_179 : decode cL_law 179 = .ok (.iaload, 1) := by decide +kernel
theorem dL_law_180 : decode cL_law 180 = .ok (.i2l, 1) := by decide +kernel
theorem dL_law_181 : decode cL_law 181 = .ok (.ldc2_w 13, 3) := by decide +kernel
theorem dL_law_184 : decode cL_law 184 = .ok (.land, 1) := by decide +kernel
theorem dL_law_185 : decode cL_law 185 = .ok (.lor, 1) := by decide +kernel
theorem dL_law_186 : decode cL_law 186 = .ok (.invokevirtual 15, 3) := by decide +kernel
theorem dL_law_189 : decode cL_law 189 = .ok (.aload_n 2, 1) := by decide +kernel
theorem dL_law_190 : decode cL_law 190 = .ok (.aload_n 0, 1) := by decide +kernel
theorem dL_law_191 : decode cL_law 191 = .ok (.iload_n 3, 1) := by decide +kernel
theorem dL_law_192 : decode cL_law 192 = .ok (.iconst 1, 1) := by decide +kernel
theorem dL_law_193 : decode cL_law 193 = .ok (.iadd, 1) := by decide +kernel
theorem dL_law_194 : decode cL_law 194 = .ok (.iaload, 1) := by decide +kernel
theorem dL_law_195 : decode cL_law 195 = .ok (.aload_n 0, 1) := by decide +kernel
theorem dL_law_196 : decode cL_law 196 = .ok (.iload_n 3, 1) := by decide +kernel
theorem dL_law_197 : decode cL_law 197 = .ok (.iconst 2, 1) := by decide +kernel
theorem dL_law_198 : decode cL_law 198 = .ok (.iadd, 1) := by decide +kernel
theorem dL_law_199 : decode cL_law 199 = .ok (.iaload, 1) := by decide +kernel
theorem dL_law_200 : decode cL_law 200 = .ok (.i2l, 1) := by decide +kernel
theorem dL_law_201 : decode cL_law 201 = .ok (.bipush 32, 2) := by decide +kernel
theorem dL_law_203 : decode cL_law 203 = .ok (.lshl, 1) := by decide +kernel
theorem dL_law_204 : decode cL_law 204 = .ok (.aload_n 0, 1) := by decide +kernel
theorem dL_law_205 : decode cL_law 205 = .ok (.iload_n 3, 1) := by decide +kernel
theorem dL_law_206 : decode cL_law 206 = .ok (.iconst 3, 1) := by decide +kernel
theorem dL_law_207 : decode cL_law 207 = .ok (.iadd, 1) := by decide +kernel
theorem dL_law_208 : decode cL_law 208 = .ok (.iaload, 1) := by decide +kernel
theorem dL_law_209 : decode cL_law 209 = .ok (.i2l, 1) := by decide +kernel
theorem dL_law_210 : decode cL_law 210 = .ok (.ldc2_w 13, 3) := by decide +kernel
theorem dL_law_213 : decode cL_law 213 = .ok (.land, 1) := by decide +kernel
theorem dL_law_214 : decode cL_law 214 = .ok (.lor, 1) := by decide +kernel
theorem dL_law_215 : decode cL_law 215 = .ok (.invokevirtual 19, 3) := by decide +kernel
theorem dL_law_218 : decode cL_law 218 = .ok (.if_icmp .eq 746, 3) := by decide +kernel
theorem dL_law_221 : decode cL_law 221 = .ok (.iconst 0, 1) := by decide +kernel
theorem dL_law_222 : decode cL_law 222 = .ok (.ireturn, 1) := by decide +kernel
theorem dL_law_223 : decode cL_law 223 = .ok (.aload_n 1, 1) := by decide +kernel
theorem dL_law_224 : decode cL_law 224 = .ok (.invokevirtual 20, 3) := by decide +kernel
theorem dL_law_227 : decode cL_law 227 = .ok (.aload_n 2, 1) := by decide +kernel
theorem dL_law_228 : decode cL_law 228 = .ok (.invokevirtual 24, 3) := by decide +kernel
theorem dL_law_231 : decode cL_law 231 = .ok (.if_icmp .eq 733, 3) := by decide +kernel
theorem dL_law_234 : decode cL_law 234 = .ok (.iconst 0, 1) := by decide +kernel
theorem dL_law_235 : decode cL_law 235 = .ok (.ireturn, 1) := by decide +kernel
theorem dL_law_236 : decode cL_law 236 = .ok (.aload_n 1, 1) := by decide +kernel
theorem dL_law_237 : decode cL_law 237 = .ok (.invokevirtual 25, 3) := by decide +kernel
theorem dL_law_240 : decode cL_law 240 = .ok (.aload_n 2, 1) := by decide +kernel
theorem dL_law_241 : decode cL_law 241 = .ok (.invokevirtual 28, 3) := by decide +kernel
theorem dL_law_244 : decode cL_law 244 = .ok (.if_icmp .eq 720, 3) := by decide +kernel
theorem dL_law_247 : decode cL_law 247 = .ok (.iconst 0, 1) := by decide +kernel
theorem dL_law_248 : decode cL_law 248 = .ok (.ireturn, 1) := by decide +kernel
theorem dL_law_249 : decode cL_law 249 = .ok (.aload_n 1, 1) := by decide +kernel
theorem dL_law_250 : decode cL_law 250 = .ok (.aload_n 0, 1) := by decide +kernel
theorem dL_law_251 : decode cL_law 251 = .ok (.iload_n 3, 1) := by decide +kernel
theorem dL_law_252 : decode cL_law 252 = .ok (.iconst 1, 1) := by decide +kernel
theorem dL_law_253 : decode cL_law 253 = .ok (.iadd, 1) := by decide +kernel
theorem dL_law_254 : decode cL_law 254 = .ok (.iaload, 1) := by decide +kernel
theorem dL_law_255 : decode cL_law 255 = .ok (.invokevirtual 29, 3) := by decide +kernel
theorem dL_law_258 : decode cL_law 258 = .ok (.aload_n 2, 1) := by decide +kernel
theorem dL_law_259 : decode cL_law 259 = .ok (.aload_n 0, 1) := by decide +kernel
theorem dL_law_260 : decode cL_law 260 = .ok (.iload_n 3, 1) := by decide +kernel
theorem dL_law_261 : decode cL_law 261 = .ok (.iconst 1, 1) := by decide +kernel
theorem dL_law_262 : decode cL_law 262 = .ok (.iadd, 1) := by decide +kernel
theorem dL_law_263 : decode cL_law 263 = .ok (.iaload, 1) := by decide +kernel
theorem dL_law_264 : decode cL_law 264 = .ok (.invokevirtual 33, 3) := by decide +kernel
theorem dL_law_267 : decode cL_law 267 = .ok (.if_icmp .eq 697, 3) := by decide +kernel
theorem dL_law_270 : decode cL_law 270 = .ok (.iconst 0, 1) := by decide +kernel
theorem dL_law_271 : decode cL_law 271 = .ok (.ireturn, 1) := by decide +kernel
theorem dL_law_272 : decode cL_law 272 = .ok (.aload_n 1, 1) := by decide +kernel
theorem dL_law_273 : decode cL_law 273 = .ok (.aload_n 0, 1) := by decide +kernel
theorem dL_law_274 : decode cL_law 274 = .ok (.iload_n 3, 1) := by decide +kernel
theorem dL_law_275 : decode cL_law 275 = .ok (.iconst 1, 1) := by decide +kernel
theorem dL_law_276 : decode cL_law 276 = .ok (.iadd, 1) := by decide +kernel
theorem dL_law_277 : decode cL_law 277 = .ok (.iaload, 1) := by decide +kernel
theorem dL_law_278 : decode cL_law 278 = .ok (.aload_n 0, 1) := by decide +kernel
theorem dL_law_279 : decode cL_law 279 = .ok (.iload_n 3, 1) := by decide +kernel
theorem dL_law_280 : decode cL_law 280 = .ok (.iconst 2, 1) := by decide +kernel
theorem dL_law_281 : decode cL_law 281 = .ok (.iadd, 1) := by decide +kernel
theorem dL_law_282 : decode cL_law 282 = .ok (.iaload, 1) := by decide +kernel
theorem dL_law_283 : decode cL_law 283 = .ok (.aload_n 0, 1) := by decide +kernel
theorem dL_law_284 : decode cL_law 284 = .ok (.iload_n 3, 1) := by decide +kernel
theorem dL_law_285 : decode cL_law 285 = .ok (.iconst 3, 1) := by decide +kernel
theorem dL_law_286 : decode cL_law 286 = .ok (.iadd, 1) := by decide +kernel
theorem dL_law_287 : decode cL_law 287 = .ok (.iaload, 1) := by decide +kernel
theorem dL_law_288 : decode cL_law 288 = .ok (.invokevirtual 34, 3) := by decide +kernel
theorem dL_law_291 : decode cL_law 291 = .ok (.aload_n 2, 1) := by decide +kernel
theorem dL_law_292 : decode cL_law 292 = .ok (.aload_n 0, 1) := by decide +kernel
theorem dL_law_293 : decode cL_law 293 = .ok (.iload_n 3, 1) := by decide +kernel
theorem dL_law_294 : decode cL_law 294 = .ok (.iconst 1, 1) := by decide +kernel
theorem dL_law_295 : decode cL_law 295 = .ok (.iadd, 1) := by decide +kernel
theorem dL_law_296 : decode cL_law 296 = .ok (.iaload, 1) := by decide +kernel
theorem dL_law_297 : decode cL_law 297 = .ok (.aload_n 0, 1) := by decide +kernel
theorem dL_law_298 : decode cL_law 298 = .ok (.iload_n 3, 1) := by decide +kernel
theorem dL_law_299 : decode cL_law 299 = .ok (.iconst 2, 1) := by decide +kernel
theorem dL_law_300 : decode cL_law 300 = .ok (.iadd, 1) := by decide +kernel
theorem dL_law_301 : decode cL_law 301 = .ok (.iaload, 1) := by decide +kernel
theorem dL_law_302 : decode cL_law 302 = .ok (.aload_n 0, 1) := by decide +kernel
theorem dL_law_303 : decode cL_law 303 = .ok (.iload_n 3, 1) := by decide +kernel
theorem dL_law_304 : decode cL_law 304 = .ok (.iconst 3, 1) := by decide +kernel
theorem dL_law_305 : decode cL_law 305 = .ok (.iadd, 1) := by decide +kernel
theorem dL_law_306 : decode cL_law 306 = .ok (.iaload, 1) := by decide +kernel
theorem dL_law_307 : decode cL_law 307 = .ok (.invokevirtual 38, 3) := by decide +kernel
theorem dL_law_310 : decode cL_law 310 = .ok (.if_icmp .eq 654, 3) := by decide +kernel
theorem dL_law_313 : decode cL_law 313 = .ok (.iconst 0, 1) := by decide +kernel
theorem dL_law_314 : decode cL_law 314 = .ok (.ireturn, 1) := by decide +kernel
theorem dL_law_315 : decode cL_law 315 = .ok (.aload_n 1, 1) := by decide +kernel
theorem dL_law_316 : decode cL_law 316 = .ok (.aload_n 0, 1) := by decide +kernel
theorem dL_law_317 : decode cL_law 317 = .ok (.iload_n 3, 1) := by decide +kernel
theorem dL_law_318 : decode cL_law 318 = .ok (.iconst 1, 1) := by decide +kernel
theorem dL_law_319 : decode cL_law 319 = .ok (.iadd, 1) := by decide +kernel
theorem dL_law_320 : decode cL_law 320 = .ok (.iaload, 1) := by decide +kernel
theorem dL_law_321 : decode cL_law 321 = .ok (.aload_n 0, 1) := by decide +kernel
theorem dL_law_322 : decode cL_law 322 = .ok (.iload_n 3, 1) := by decide +kernel
theorem dL_law_323 : decode cL_law 323 = .ok (.iconst 2, 1) := by decide +kernel
theorem dL_law_324 : decode cL_law 324 = .ok (.iadd, 1) := by decide +kernel
theorem dL_law_325 : decode cL_law 325 = .ok (.iaload, 1) := by decide +kernel
theorem dL_law_326 : decode cL_law 326 = .ok (.invokevirtual 39, 3) := by decide +kernel
theorem dL_law_329 : decode cL_law 329 = .ok (.aload_n 2, 1) := by decide +kernel
theorem dL_law_330 : decode cL_law 330 = .ok (.aload_n 0, 1) := by decide +kernel
theorem dL_law_331 : decode cL_law 331 = .ok (.iload_n 3, 1) := by decide +kernel
theorem dL_law_332 : decode cL_law 332 = .ok (.iconst 1, 1) := by decide +kernel
theorem dL_law_333 : decode cL_law 333 = .ok (.iadd, 1) := by decide +kernel
theorem dL_law_334 : decode cL_law 334 = .ok (.iaload, 1) := by decide +kernel
theorem dL_law_335 : decode cL_law 335 = .ok (.aload_n 0, 1) := by decide +kernel
theorem dL_law_336 : decode cL_law 336 = .ok (.iload_n 3, 1) := by decide +kernel
theorem dL_law_337 : decode cL_law 337 = .ok (.iconst 2, 1) := by decide +kernel
theorem dL_law_338 : decode cL_law 338 = .ok (.iadd, 1) := by decide +kernel
theorem dL_law_339 : decode cL_law 339 = .ok (.iaload, 1) := by decide +kernel
theorem dL_law_340 : decode cL_law 340 = .ok (.invokevirtual 43, 3) := by decide +kernel
theorem dL_law_343 : decode cL_law 343 = .ok (.if_icmp .eq 621, 3) := by decide +kernel
theorem dL_law_346 : decode cL_law 346 = .ok (.iconst 0, 1) := by decide +kernel
theorem dL_law_347 : decode cL_law 347 = .ok (.ireturn, 1) := by decide +kernel
theorem dL_law_348 : decode cL_law 348 = .ok (.aload_n 1, 1) := by decide +kernel
theorem dL_law_349 : decode cL_law 349 = .ok (.aload_n 0, 1) := by decide +kernel
theorem dL_law_350 : decode cL_law 350 = .ok (.iload_n 3, 1) := by decide +kernel
theorem dL_law_351 : decode cL_law 351 = .ok (.iconst 1, 1) := by decide +kernel
theorem dL_law_352 : decode cL_law 352 = .ok (.iadd, 1) := by decide +kernel
theorem dL_law_353 : decode cL_law 353 = .ok (.iaload, 1) := by decide +kernel
theorem dL_law_354 : decode cL_law 354 = .ok (.aload_n 0, 1) := by decide +kernel
theorem dL_law_355 : decode cL_law 355 = .ok (.iload_n 3, 1) := by decide +kernel
theorem dL_law_356 : decode cL_law 356 = .ok (.iconst 2, 1) := by decide +kernel
theorem dL_law_357 : decode cL_law 357 = .ok (.iadd, 1) := by decide +kernel
theorem dL_law_358 : decode cL_law 358 = .ok (.iaload, 1) := by decide +kernel
theorem dL_law_359 : decode cL_law 359 = .ok (.invokevirtual 44, 3) := by decide +kernel
theorem dL_law_362 : decode cL_law 362 = .ok (.aload_n 2, 1) := by decide +kernel
theorem dL_law_363 : decode cL_law 363 = .ok (.aload_n 0, 1) := by decide +kernel
theorem dL_law_364 : decode cL_law 364 = .ok (.iload_n 3, 1) := by decide +kernel
theorem dL_law_365 : decode cL_law 365 = .ok (.iconst 1, 1) := by decide +kernel
theorem dL_law_366 : decode cL_law 366 = .ok (.iadd, 1) := by decide +kernel
theorem dL_law_367 : decode cL_law 367 = .ok (.iaload, 1) := by decide +kernel
theorem dL_law_368 : decode cL_law 368 = .ok (.aload_n 0, 1) := by decide +kernel
theorem dL_law_369 : decode cL_law 369 = .ok (.iload_n 3, 1) := by decide +kernel
theorem dL_law_370 : decode cL_law 370 = .ok (.iconst 2, 1) := by decide +kernel
theorem dL_law_371 : decode cL_law 371 = .ok (.iadd, 1) := by decide +kernel
theorem dL_law_372 : decode cL_law 372 = .ok (.iaload, 1) := by decide +kernel
theorem dL_law_373 : decode cL_law 373 = .ok (.invokevirtual 47, 3) := by decide +kernel
theorem dL_law_376 : decode cL_law 376 = .ok (.if_icmp .eq 588, 3) := by decide +kernel
theorem dL_law_379 : decode cL_law 379 = .ok (.iconst 0, 1) := by decide +kernel
theorem dL_law_380 : decode cL_law 380 = .ok (.ireturn, 1) := by decide +kernel
theorem dL_law_381 : decode cL_law 381 = .ok (.aload_n 1, 1) := by decide +kernel
theorem dL_law_382 : decode cL_law 382 = .ok (.aload_n 0, 1) := by decide +kernel
theorem dL_law_383 : decode cL_law 383 = .ok (.iload_n 3, 1) := by decide +kernel
theorem dL_law_384 : decode cL_law 384 = .ok (.iconst 1, 1) := by decide +kernel
theorem dL_law_385 : decode cL_law 385 = .ok (.iadd, 1) := by decide +kernel
theorem dL_law_386 : decode cL_law 386 = .ok (.iaload, 1) := by decide +kernel
theorem dL_law_387 : decode cL_law 387 = .ok (.invokevirtual 48, 3) := by decide +kernel
theorem dL_law_390 : decode cL_law 390 = .ok (.aload_n 2, 1) := by decide +kernel
theorem dL_law_391 : decode cL_law 391 = .ok (.aload_n 0, 1) := by decide +kernel
theorem dL_law_392 : decode cL_law 392 = .ok (.iload_n 3, 1) := by decide +kernel
theorem dL_law_393 : decode cL_law 393 = .ok (.iconst 1, 1) := by decide +kernel
theorem dL_law_394 : decode cL_law 394 = .ok (.iadd, 1) := by decide +kernel
theorem dL_law_395 : decode cL_law 395 = .ok (.iaload, 1) := by decide +kernel
theorem dL_law_396 : decode cL_law 396 = .ok (.invokevirtual 51, 3) := by decide +kernel
theorem dL_law_399 : decode cL_law 399 = .ok (.if_icmp .eq 565, 3) := by decide +kernel
theorem dL_law_402 : decode cL_law 402 = .ok (.iconst 0, 1) := by decide +kernel
theorem dL_law_403 : decode cL_law 403 = .ok (.ireturn, 1) := by decide +kernel
theorem dL_law_404 : decode cL_law 404 = .ok (.aload_n 1, 1) := by decide +kernel
theorem dL_law_405 : decode cL_law 405 = .ok (.aload_n 0, 1) := by decide +kernel
theorem dL_law_406 : decode cL_law 406 = .ok (.iload_n 3, 1) := by decide +kernel
theorem dL_law_407 : decode cL_law 407 = .ok (.iconst 1, 1) := by decide +kernel
theorem dL_law_408 : decode cL_law 408 = .ok (.iadd, 1) := by decide +kernel
theorem dL_law_409 : decode cL_law 409 = .ok (.iaload, 1) := by decide +kernel
theorem dL_law_410 : decode cL_law 410 = .ok (.aload_n 0, 1) := by decide +kernel
theorem dL_law_411 : decode cL_law 411 = .ok (.iload_n 3, 1) := by decide +kernel
theorem dL_law_412 : decode cL_law 412 = .ok (.iconst 2, 1) := by decide +kernel
theorem dL_law_413 : decode cL_law 413 = .ok (.iadd, 1) := by decide +kernel
theorem dL_law_414 : decode cL_law 414 = .ok (.iaload, 1) := by decide +kernel
theorem dL_law_415 : decode cL_law 415 = .ok (.aload_n 0, 1) := by decide +kernel
theorem dL_law_416 : decode cL_law 416 = .ok (.iload_n 3, 1) := by decide +kernel
theorem dL_law_417 : decode cL_law 417 = .ok (.iconst 3, 1) := by decide +kernel
theorem dL_law_418 : decode cL_law 418 = .ok (.iadd, 1) := by decide +kernel
theorem dL_law_419 : decode cL_law 419 = .ok (.iaload, 1) := by decide +kernel
theorem dL_law_420 : decode cL_law 420 = .ok (.invokevirtual 52, 3) := by decide +kernel
theorem dL_law_423 : decode cL_law 423 = .ok (.aload_n 2, 1) := by decide +kernel
theorem dL_law_424 : decode cL_law 424 = .ok (.aload_n 0, 1) := by decide +kernel
theorem dL_law_425 : decode cL_law 425 = .ok (.iload_n 3, 1) := by decide +kernel
theorem dL_law_426 : decode cL_law 426 = .ok (.iconst 1, 1) := by decide +kernel
theorem dL_law_427 : decode cL_law 427 = .ok (.iadd, 1) := by decide +kernel
theorem dL_law_428 : decode cL_law 428 = .ok (.iaload, 1) := by decide +kernel
theorem dL_law_429 : decode cL_law 429 = .ok (.aload_n 0, 1) := by decide +kernel
theorem dL_law_430 : decode cL_law 430 = .ok (.iload_n 3, 1) := by decide +kernel
theorem dL_law_431 : decode cL_law 431 = .ok (.iconst 2, 1) := by decide +kernel
theorem dL_law_432 : decode cL_law 432 = .ok (.iadd, 1) := by decide +kernel
theorem dL_law_433 : decode cL_law 433 = .ok (.iaload, 1) := by decide +kernel
theorem dL_law_434 : decode cL_law 434 = .ok (.aload_n 0, 1) := by decide +kernel
theorem dL_law_435 : decode cL_law 435 = .ok (.iload_n 3, 1) := by decide +kernel
theorem dL_law_436 : decode cL_law 436 = .ok (.iconst 3, 1) := by decide +kernel
theorem dL_law_437 : decode cL_law 437 = .ok (.iadd, 1) := by decide +kernel
theorem dL_law_438 : decode cL_law 438 = .ok (.iaload, 1) := by decide +kernel
theorem dL_law_439 : decode cL_law 439 = .ok (.invokevirtual 55, 3) := by decide +kernel
theorem dL_law_442 : decode cL_law 442 = .ok (.if_icmp .eq 522, 3) := by decide +kernel
theorem dL_law_445 : decode cL_law 445 = .ok (.iconst 0, 1) := by decide +kernel
theorem dL_law_446 : decode cL_law 446 = .ok (.ireturn, 1) := by decide +kernel
theorem dL_law_447 : decode cL_law 447 = .ok (.aload_n 1, 1) := by decide +kernel
theorem dL_law_448 : decode cL_law 448 = .ok (.aload_n 0, 1) := by decide +kernel
theorem dL_law_449 : decode cL_law 449 = .ok (.iload_n 3, 1) := by decide +kernel
theorem dL_law_450 : decode cL_law 450 = .ok (.iconst 1, 1) := by decide +kernel
theorem dL_law_451 : decode cL_law 451 = .ok (.iadd, 1) := by decide +kernel
theorem dL_law_452 : decode cL_law 452 = .ok (.iaload, 1) := by decide +kernel
theorem dL_law_453 : decode cL_law 453 = .ok (.invokevirtual 56, 3) := by decide +kernel
theorem dL_law_456 : decode cL_law 456 = .ok (.aload_n 2, 1) := by decide +kernel
theorem dL_law_457 : decode cL_law 457 = .ok (.aload_n 0, 1) := by decide +kernel
theorem dL_law_458 : decode cL_law 458 = .ok (.iload_n 3, 1) := by decide +kernel
theorem dL_law_459 : decode cL_law 459 = .ok (.iconst 1, 1) := by decide +kernel
theorem dL_law_460 : decode cL_law 460 = .ok (.iadd, 1) := by decide +kernel
theorem dL_law_461 : decode cL_law 461 = .ok (.iaload, 1) := by decide +kernel
theorem dL_law_462 : decode cL_law 462 = .ok (.invokevirtual 59, 3) := by decide +kernel
theorem dL_law_465 : decode cL_law 465 = .ok (.if_icmp .eq 499, 3) := by decide +kernel
theorem dL_law_468 : decode cL_law 468 = .ok (.iconst 0, 1) := by decide +kernel
theorem dL_law_469 : decode cL_law 469 = .ok (.ireturn, 1) := by decide +kernel
theorem dL_law_470 : decode cL_law 470 = .ok (.aload_n 1, 1) := by decide +kernel
theorem dL_law_471 : decode cL_law 471 = .ok (.aload_n 0, 1) := by decide +kernel
theorem dL_law_472 : decode cL_law 472 = .ok (.iload_n 3, 1) := by decide +kernel
theorem dL_law_473 : decode cL_law 473 = .ok (.iconst 1, 1) := by decide +kernel
theorem dL_law_474 : decode cL_law 474 = .ok (.iadd, 1) := by decide +kernel
theorem dL_law_475 : decode cL_law 475 = .ok (.iaload, 1) := by decide +kernel
theorem dL_law_476 : decode cL_law 476 = .ok (.aload_n 0, 1) := by decide +kernel
theorem dL_law_477 : decode cL_law 477 = .ok (.iload_n 3, 1) := by decide +kernel
theorem dL_law_478 : decode cL_law 478 = .ok (.iconst 2, 1) := by decide +kernel
theorem dL_law_479 : decode cL_law 479 = .ok (.iadd, 1) := by decide +kernel
theorem dL_law_480 : decode cL_law 480 = .ok (.iaload, 1) := by decide +kernel
theorem dL_law_481 : decode cL_law 481 = .ok (.invokevirtual 60, 3) := by decide +kernel
theorem dL_law_484 : decode cL_law 484 = .ok (.aload_n 2, 1) := by decide +kernel
theorem dL_law_485 : decode cL_law 485 = .ok (.aload_n 0, 1) := by decide +kernel
theorem dL_law_486 : decode cL_law 486 = .ok (.iload_n 3, 1) := by decide +kernel
theorem dL_law_487 : decode cL_law 487 = .ok (.iconst 1, 1) := by decide +kernel
theorem dL_law_488 : decode cL_law 488 = .ok (.iadd, 1) := by decide +kernel
theorem dL_law_489 : decode cL_law 489 = .ok (.iaload, 1) := by decide +kernel
theorem dL_law_490 : decode cL_law 490 = .ok (.aload_n 0, 1) := by decide +kernel
theorem dL_law_491 : decode cL_law 491 = .ok (.iload_n 3, 1) := by decide +kernel
theorem dL_law_492 : decode cL_law 492 = .ok (.iconst 2, 1) := by decide +kernel
theorem dL_law_493 : decode cL_law 493 = .ok (.iadd, 1) := by decide +kernel
theorem dL_law_494 : decode cL_law 494 = .ok (.iaload, 1) := by decide +kernel
theorem dL_law_495 : decode cL_law 495 = .ok (.invokevirtual 63, 3) := by decide +kernel
theorem dL_law_498 : decode cL_law 498 = .ok (.if_icmp .eq 466, 3) := by decide +kernel
theorem dL_law_501 : decode cL_law 501 = .ok (.iconst 0, 1) := by decide +kernel
theorem dL_law_502 : decode cL_law 502 = .ok (.ireturn, 1) := by decide +kernel
theorem dL_law_503 : decode cL_law 503 = .ok (.aload_n 1, 1) := by decide +kernel
theorem dL_law_504 : decode cL_law 504 = .ok (.aload_n 0, 1) := by decide +kernel
theorem dL_law_505 : decode cL_law 505 = .ok (.iload_n 3, 1) := by decide +kernel
theorem dL_law_506 : decode cL_law 506 = .ok (.iconst 1, 1) := by decide +kernel
theorem dL_law_507 : decode cL_law 507 = .ok (.iadd, 1) := by decide +kernel
theorem dL_law_508 : decode cL_law 508 = .ok (.iaload, 1) := by decide +kernel
theorem dL_law_509 : decode cL_law 509 = .ok (.aload_n 0, 1) := by decide +kernel
theorem dL_law_510 : decode cL_law 510 = .ok (.iload_n 3, 1) := by decide +kernel
theorem dL_law_511 : decode cL_law 511 = .ok (.iconst 2, 1) := by decide +kernel
theorem dL_law_512 : decode cL_law 512 = .ok (.iadd, 1) := by decide +kernel
theorem dL_law_513 : decode cL_law 513 = .ok (.iaload, 1) := by decide +kernel
theorem dL_law_514 : decode cL_law 514 = .ok (.invokevirtual 64, 3) := by decide +kernel
theorem dL_law_517 : decode cL_law 517 = .ok (.aload_n 2, 1) := by decide +kernel
theorem dL_law_518 : decode cL_law 518 = .ok (.aload_n 0, 1) := by decide +kernel
theorem dL_law_519 : decode cL_law 519 = .ok (.iload_n 3, 1) := by decide +kernel
theorem dL_law_520 : decode cL_law 520 = .ok (.iconst 1, 1) := by decide +kernel
theorem dL_law_521 : decode cL_law 521 = .ok (.iadd, 1) := by decide +kernel
theorem dL_law_522 : decode cL_law 522 = .ok (.iaload, 1) := by decide +kernel
theorem dL_law_523 : decode cL_law 523 = .ok (.aload_n 0, 1) := by decide +kernel
theorem dL_law_524 : decode cL_law 524 = .ok (.iload_n 3, 1) := by decide +kernel
theorem dL_law_525 : decode cL_law 525 = .ok (.iconst 2, 1) := by decide +kernel
theorem dL_law_526 : decode cL_law 526 = .ok (.iadd, 1) := by decide +kernel
theorem dL_law_527 : decode cL_law 527 = .ok (.iaload, 1) := by decide +kernel
theorem dL_law_528 : decode cL_law 528 = .ok (.invokevirtual 67, 3) := by decide +kernel
theorem dL_law_531 : decode cL_law 531 = .ok (.if_icmp .eq 433, 3) := by decide +kernel
theorem dL_law_534 : decode cL_law 534 = .ok (.iconst 0, 1) := by decide +kernel
theorem dL_law_535 : decode cL_law 535 = .ok (.ireturn, 1) := by decide +kernel
theorem dL_law_536 : decode cL_law 536 = .ok (.aload_n 1, 1) := by decide +kernel
theorem dL_law_537 : decode cL_law 537 = .ok (.aload_n 0, 1) := by decide +kernel
theorem dL_law_538 : decode cL_law 538 = .ok (.iload_n 3, 1) := by decide +kernel
theorem dL_law_539 : decode cL_law 539 = .ok (.iconst 1, 1) := by decide +kernel
theorem dL_law_540 : decode cL_law 540 = .ok (.iadd, 1) := by decide +kernel
theorem dL_law_541 : decode cL_law 541 = .ok (.iaload, 1) := by decide +kernel
theorem dL_law_542 : decode cL_law 542 = .ok (.invokevirtual 68, 3) := by decide +kernel
theorem dL_law_545 : decode cL_law 545 = .ok (.aload_n 2, 1) := by decide +kernel
theorem dL_law_546 : decode cL_law 546 = .ok (.aload_n 0, 1) := by decide +kernel
theorem dL_law_547 : decode cL_law 547 = .ok (.iload_n 3, 1) := by decide +kernel
theorem dL_law_548 : decode cL_law 548 = .ok (.iconst 1, 1) := by decide +kernel
theorem dL_law_549 : decode cL_law 549 = .ok (.iadd, 1) := by decide +kernel
theorem dL_law_550 : decode cL_law 550 = .ok (.iaload, 1) := by decide +kernel
theorem dL_law_551 : decode cL_law 551 = .ok (.invokevirtual 71, 3) := by decide +kernel
theorem dL_law_554 : decode cL_law 554 = .ok (.if_icmp .eq 410, 3) := by decide +kernel
theorem dL_law_557 : decode cL_law 557 = .ok (.iconst 0, 1) := by decide +kernel
theorem dL_law_558 : decode cL_law 558 = .ok (.ireturn, 1) := by decide +kernel
theorem dL_law_559 : decode cL_law 559 = .ok (.aload_n 1, 1) := by decide +kernel
theorem dL_law_560 : decode cL_law 560 = .ok (.aload_n 0, 1) := by decide +kernel
theorem dL_law_561 : decode cL_law 561 = .ok (.iload_n 3, 1) := by decide +kernel
theorem dL_law_562 : decode cL_law 562 = .ok (.iconst 1, 1) := by decide +kernel
theorem dL_law_563 : decode cL_law 563 = .ok (.iadd, 1) := by decide +kernel
theorem dL_law_564 : decode cL_law 564 = .ok (.iaload, 1) := by decide +kernel
theorem dL_law_565 : decode cL_law 565 = .ok (.invokevirtual 72, 3) := by decide +kernel
theorem dL_law_568 : decode cL_law 568 = .ok (.aload_n 2, 1) := by decide +kernel
theorem dL_law_569 : decode cL_law 569 = .ok (.aload_n 0, 1) := by decide +kernel
theorem dL_law_570 : decode cL_law 570 = .ok (.iload_n 3, 1) := by decide +kernel
theorem dL_law_571 : decode cL_law 571 = .ok (.iconst 1, 1) := by decide +kernel
theorem dL_law_572 : decode cL_law 572 = .ok (.iadd, 1) := by decide +kernel
theorem dL_law_573 : decode cL_law 573 = .ok (.iaload, 1) := by decide +kernel
theorem dL_law_574 : decode cL_law 574 = .ok (.invokevirtual 75, 3) := by decide +kernel
theorem dL_law_577 : decode cL_law 577 = .ok (.if_icmp .eq 387, 3) := by decide +kernel
theorem dL_law_580 : decode cL_law 580 = .ok (.iconst 0, 1) := by decide +kernel
theorem dL_law_581 : decode cL_law 581 = .ok (.ireturn, 1) := by decide +kernel
theorem dL_law_582 : decode cL_law 582 = .ok (.aload_n 1, 1) := by decide +kernel
theorem dL_law_583 : decode cL_law 583 = .ok (.aload_n 0, 1) := by decide +kernel
theorem dL_law_584 : decode cL_law 584 = .ok (.iload_n 3, 1) := by decide +kernel
theorem dL_law_585 : decode cL_law 585 = .ok (.iconst 1, 1) := by decide +kernel
theorem dL_law_586 : decode cL_law 586 = .ok (.iadd, 1) := by decide +kernel
theorem dL_law_587 : decode cL_law 587 = .ok (.iaload, 1) := by decide +kernel
theorem dL_law_588 : decode cL_law 588 = .ok (.aload_n 0, 1) := by decide +kernel
theorem dL_law_589 : decode cL_law 589 = .ok (.iload_n 3, 1) := by decide +kernel
theorem dL_law_590 : decode cL_law 590 = .ok (.iconst 2, 1) := by decide +kernel
theorem dL_law_591 : decode cL_law 591 = .ok (.iadd, 1) := by decide +kernel
theorem dL_law_592 : decode cL_law 592 = .ok (.iaload, 1) := by decide +kernel
theorem dL_law_593 : decode cL_law 593 = .ok (.aload_n 0, 1) := by decide +kernel
theorem dL_law_594 : decode cL_law 594 = .ok (.iload_n 3, 1) := by decide +kernel
theorem dL_law_595 : decode cL_law 595 = .ok (.iconst 3, 1) := by decide +kernel
theorem dL_law_596 : decode cL_law 596 = .ok (.iadd, 1) := by decide +kernel
theorem dL_law_597 : decode cL_law 597 = .ok (.iaload, 1) := by decide +kernel
theorem dL_law_598 : decode cL_law 598 = .ok (.invokevirtual 76, 3) := by decide +kernel
theorem dL_law_601 : decode cL_law 601 = .ok (.aload_n 2, 1) := by decide +kernel
theorem dL_law_602 : decode cL_law 602 = .ok (.aload_n 0, 1) := by decide +kernel
theorem dL_law_603 : decode cL_law 603 = .ok (.iload_n 3, 1) := by decide +kernel
theorem dL_law_604 : decode cL_law 604 = .ok (.iconst 1, 1) := by decide +kernel
theorem dL_law_605 : decode cL_law 605 = .ok (.iadd, 1) := by decide +kernel
theorem dL_law_606 : decode cL_law 606 = .ok (.iaload, 1) := by decide +kernel
theorem dL_law_607 : decode cL_law 607 = .ok (.aload_n 0, 1) := by decide +kernel
theorem dL_law_608 : decode cL_law 608 = .ok (.iload_n 3, 1) := by decide +kernel
theorem dL_law_609 : decode cL_law 609 = .ok (.iconst 2, 1) := by decide +kernel
theorem dL_law_610 : decode cL_law 610 = .ok (.iadd, 1) := by decide +kernel
theorem dL_law_611 : decode cL_law 611 = .ok (.iaload, 1) := by decide +kernel
theorem dL_law_612 : decode cL_law 612 = .ok (.aload_n 0, 1) := by decide +kernel
theorem dL_law_613 : decode cL_law 613 = .ok (.iload_n 3, 1) := by decide +kernel
theorem dL_law_614 : decode cL_law 614 = .ok (.iconst 3, 1) := by decide +kernel
theorem dL_law_615 : decode cL_law 615 = .ok (.iadd, 1) := by decide +kernel
theorem dL_law_616 : decode cL_law 616 = .ok (.iaload, 1) := by decide +kernel
theorem dL_law_617 : decode cL_law 617 = .ok (.invokevirtual 79, 3) := by decide +kernel
theorem dL_law_620 : decode cL_law 620 = .ok (.if_icmp .eq 344, 3) := by decide +kernel
theorem dL_law_623 : decode cL_law 623 = .ok (.iconst 0, 1) := by decide +kernel
theorem dL_law_624 : decode cL_law 624 = .ok (.ireturn, 1) := by decide +kernel
theorem dL_law_625 : decode cL_law 625 = .ok (.aload_n 1, 1) := by decide +kernel
theorem dL_law_626 : decode cL_law 626 = .ok (.aload_n 0, 1) := by decide +kernel
theorem dL_law_627 : decode cL_law 627 = .ok (.iload_n 3, 1) := by decide +kernel
theorem dL_law_628 : decode cL_law 628 = .ok (.iconst 1, 1) := by decide +kernel
theorem dL_law_629 : decode cL_law 629 = .ok (.iadd, 1) := by decide +kernel
theorem dL_law_630 : decode cL_law 630 = .ok (.iaload, 1) := by decide +kernel
theorem dL_law_631 : decode cL_law 631 = .ok (.aload_n 0, 1) := by decide +kernel
theorem dL_law_632 : decode cL_law 632 = .ok (.iload_n 3, 1) := by decide +kernel
theorem dL_law_633 : decode cL_law 633 = .ok (.iconst 2, 1) := by decide +kernel
theorem dL_law_634 : decode cL_law 634 = .ok (.iadd, 1) := by decide +kernel
theorem dL_law_635 : decode cL_law 635 = .ok (.iaload, 1) := by decide +kernel
theorem dL_law_636 : decode cL_law 636 = .ok (.aload_n 0, 1) := by decide +kernel
theorem dL_law_637 : decode cL_law 637 = .ok (.iload_n 3, 1) := by decide +kernel
theorem dL_law_638 : decode cL_law 638 = .ok (.iconst 3, 1) := by decide +kernel
theorem dL_law_639 : decode cL_law 639 = .ok (.iadd, 1) := by decide +kernel
theorem dL_law_640 : decode cL_law 640 = .ok (.iaload, 1) := by decide +kernel
theorem dL_law_641 : decode cL_law 641 = .ok (.invokevirtual 80, 3) := by decide +kernel
theorem dL_law_644 : decode cL_law 644 = .ok (.aload_n 2, 1) := by decide +kernel
theorem dL_law_645 : decode cL_law 645 = .ok (.aload_n 0, 1) := by decide +kernel
theorem dL_law_646 : decode cL_law 646 = .ok (.iload_n 3, 1) := by decide +kernel
theorem dL_law_647 : decode cL_law 647 = .ok (.iconst 1, 1) := by decide +kernel
theorem dL_law_648 : decode cL_law 648 = .ok (.iadd, 1) := by decide +kernel
theorem dL_law_649 : decode cL_law 649 = .ok (.iaload, 1) := by decide +kernel
theorem dL_law_650 : decode cL_law 650 = .ok (.aload_n 0, 1) := by decide +kernel
theorem dL_law_651 : decode cL_law 651 = .ok (.iload_n 3, 1) := by decide +kernel
theorem dL_law_652 : decode cL_law 652 = .ok (.iconst 2, 1) := by decide +kernel
theorem dL_law_653 : decode cL_law 653 = .ok (.iadd, 1) := by decide +kernel
theorem dL_law_654 : decode cL_law 654 = .ok (.iaload, 1) := by decide +kernel
theorem dL_law_655 : decode cL_law 655 = .ok (.aload_n 0, 1) := by decide +kernel
theorem dL_law_656 : decode cL_law 656 = .ok (.iload_n 3, 1) := by decide +kernel
theorem dL_law_657 : decode cL_law 657 = .ok (.iconst 3, 1) := by decide +kernel
theorem dL_law_658 : decode cL_law 658 = .ok (.iadd, 1) := by decide +kernel
theorem dL_law_659 : decode cL_law 659 = .ok (.iaload, 1) := by decide +kernel
theorem dL_law_660 : decode cL_law 660 = .ok (.invokevirtual 83, 3) := by decide +kernel
theorem dL_law_663 : decode cL_law 663 = .ok (.if_icmp .eq 301, 3) := by decide +kernel
theorem dL_law_666 : decode cL_law 666 = .ok (.iconst 0, 1) := by decide +kernel
theorem dL_law_667 : decode cL_law 667 = .ok (.ireturn, 1) := by decide +kernel
theorem dL_law_668 : decode cL_law 668 = .ok (.aload_n 1, 1) := by decide +kernel
theorem dL_law_669 : decode cL_law 669 = .ok (.aload_n 0, 1) := by decide +kernel
theorem dL_law_670 : decode cL_law 670 = .ok (.iload_n 3, 1) := by decide +kernel
theorem dL_law_671 : decode cL_law 671 = .ok (.iconst 1, 1) := by decide +kernel
theorem dL_law_672 : decode cL_law 672 = .ok (.iadd, 1) := by decide +kernel
theorem dL_law_673 : decode cL_law 673 = .ok (.iaload, 1) := by decide +kernel
theorem dL_law_674 : decode cL_law 674 = .ok (.aload_n 0, 1) := by decide +kernel
theorem dL_law_675 : decode cL_law 675 = .ok (.iload_n 3, 1) := by decide +kernel
theorem dL_law_676 : decode cL_law 676 = .ok (.iconst 2, 1) := by decide +kernel
theorem dL_law_677 : decode cL_law 677 = .ok (.iadd, 1) := by decide +kernel
theorem dL_law_678 : decode cL_law 678 = .ok (.iaload, 1) := by decide +kernel
theorem dL_law_679 : decode cL_law 679 = .ok (.invokevirtual 84, 3) := by decide +kernel
theorem dL_law_682 : decode cL_law 682 = .ok (.aload_n 2, 1) := by decide +kernel
theorem dL_law_683 : decode cL_law 683 = .ok (.aload_n 0, 1) := by decide +kernel
theorem dL_law_684 : decode cL_law 684 = .ok (.iload_n 3, 1) := by decide +kernel
theorem dL_law_685 : decode cL_law 685 = .ok (.iconst 1, 1) := by decide +kernel
theorem dL_law_686 : decode cL_law 686 = .ok (.iadd, 1) := by decide +kernel
theorem dL_law_687 : decode cL_law 687 = .ok (.iaload, 1) := by decide +kernel
theorem dL_law_688 : decode cL_law 688 = .ok (.aload_n 0, 1) := by decide +kernel
theorem dL_law_689 : decode cL_law 689 = .ok (.iload_n 3, 1) := by decide +kernel
theorem dL_law_690 : decode cL_law 690 = .ok (.iconst 2, 1) := by decide +kernel
theorem dL_law_691 : decode cL_law 691 = .ok (.iadd, 1) := by decide +kernel
theorem dL_law_692 : decode cL_law 692 = .ok (.iaload, 1) := by decide +kernel
theorem dL_law_693 : decode cL_law 693 = .ok (.invokevirtual 87, 3) := by decide +kernel
theorem dL_law_696 : decode cL_law 696 = .ok (.if_icmp .eq 268, 3) := by decide +kernel
theorem dL_law_699 : decode cL_law 699 = .ok (.iconst 0, 1) := by decide +kernel
theorem dL_law_700 : decode cL_law 700 = .ok (.ireturn, 1) := by decide +kernel
theorem dL_law_701 : decode cL_law 701 = .ok (.aload_n 1, 1) := by decide +kernel
theorem dL_law_702 : decode cL_law 702 = .ok (.aload_n 0, 1) := by decide +kernel
theorem dL_law_703 : decode cL_law 703 = .ok (.iload_n 3, 1) := by decide +kernel
theorem dL_law_704 : decode cL_law 704 = .ok (.iconst 1, 1) := by decide +kernel
theorem dL_law_705 : decode cL_law 705 = .ok (.iadd, 1) := by decide +kernel
theorem dL_law_706 : decode cL_law 706 = .ok (.iaload, 1) := by decide +kernel
theorem dL_law_707 : decode cL_law 707 = .ok (.aload_n 0, 1) := by decide +kernel
theorem dL_law_708 : decode cL_law 708 = .ok (.iload_n 3, 1) := by decide +kernel
theorem dL_law_709 : decode cL_law 709 = .ok (.iconst 2, 1) := by decide +kernel
theorem dL_law_710 : decode cL_law 710 = .ok (.iadd, 1) := by decide +kernel
theorem dL_law_711 : decode cL_law 711 = .ok (.iaload, 1) := by decide +kernel
theorem dL_law_712 : decode cL_law 712 = .ok (.invokevirtual 88, 3) := by decide +kernel
theorem dL_law_715 : decode cL_law 715 = .ok (.aload_n 2, 1) := by decide +kernel
theorem dL_law_716 : decode cL_law 716 = .ok (.aload_n 0, 1) := by decide +kernel
theorem dL_law_717 : decode cL_law 717 = .ok (.iload_n 3, 1) := by decide +kernel
theorem dL_law_718 : decode cL_law 718 = .ok (.iconst 1, 1) := by decide +kernel
theorem dL_law_719 : decode cL_law 719 = .ok (.iadd, 1) := by decide +kernel
theorem dL_law_720 : decode cL_law 720 = .ok (.iaload, 1) := by decide +kernel
theorem dL_law_721 : decode cL_law 721 = .ok (.aload_n 0, 1) := by decide +kernel
theorem dL_law_722 : decode cL_law 722 = .ok (.iload_n 3, 1) := by decide +kernel
theorem dL_law_723 : decode cL_law 723 = .ok (.iconst 2, 1) := by decide +kernel
theorem dL_law_724 : decode cL_law 724 = .ok (.iadd, 1) := by decide +kernel
theorem dL_law_725 : decode cL_law 725 = .ok (.iaload, 1) := by decide +kernel
theorem dL_law_726 : decode cL_law 726 = .ok (.invokevirtual 91, 3) := by decide +kernel
theorem dL_law_729 : decode cL_law 729 = .ok (.if_icmp .eq 235, 3) := by decide +kernel
theorem dL_law_732 : decode cL_law 732 = .ok (.iconst 0, 1) := by decide +kernel
theorem dL_law_733 : decode cL_law 733 = .ok (.ireturn, 1) := by decide +kernel
theorem dL_law_734 : decode cL_law 734 = .ok (.aload_n 1, 1) := by decide +kernel
theorem dL_law_735 : decode cL_law 735 = .ok (.invokevirtual 92, 3) := by decide +kernel
theorem dL_law_738 : decode cL_law 738 = .ok (.aload_n 2, 1) := by decide +kernel
theorem dL_law_739 : decode cL_law 739 = .ok (.invokevirtual 95, 3) := by decide +kernel
theorem dL_law_742 : decode cL_law 742 = .ok (.if_icmp .eq 222, 3) := by decide +kernel
theorem dL_law_745 : decode cL_law 745 = .ok (.iconst 0, 1) := by decide +kernel
theorem dL_law_746 : decode cL_law 746 = .ok (.ireturn, 1) := by decide +kernel
theorem dL_law_747 : decode cL_law 747 = .ok (.aload_n 1, 1) := by decide +kernel
theorem dL_law_748 : decode cL_law 748 = .ok (.aload_n 0, 1) := by decide +kernel
theorem dL_law_749 : decode cL_law 749 = .ok (.iload_n 3, 1) := by decide +kernel
theorem dL_law_750 : decode cL_law 750 = .ok (.iconst 1, 1) := by decide +kernel
theorem dL_law_751 : decode cL_law 751 = .ok (.iadd, 1) := by decide +kernel
theorem dL_law_752 : decode cL_law 752 = .ok (.iaload, 1) := by decide +kernel
theorem dL_law_753 : decode cL_law 753 = .ok (.aload_n 0, 1) := by decide +kernel
theorem dL_law_754 : decode cL_law 754 = .ok (.iload_n 3, 1) := by decide +kernel
theorem dL_law_755 : decode cL_law 755 = .ok (.iconst 2, 1) := by decide +kernel
theorem dL_law_756 : decode cL_law 756 = .ok (.iadd, 1) := by decide +kernel
theorem dL_law_757 : decode cL_law 757 = .ok (.iaload, 1) := by decide +kernel
theorem dL_law_758 : decode cL_law 758 = .ok (.invokevirtual 96, 3) := by decide +kernel
theorem dL_law_761 : decode cL_law 761 = .ok (.aload_n 2, 1) := by decide +kernel
theorem dL_law_762 : decode cL_law 762 = .ok (.aload_n 0, 1) := by decide +kernel
theorem dL_law_763 : decode cL_law 763 = .ok (.iload_n 3, 1) := by decide +kernel
theorem dL_law_764 : decode cL_law 764 = .ok (.iconst 1, 1) := by decide +kernel
theorem dL_law_765 : decode cL_law 765 = .ok (.iadd, 1) := by decide +kernel
theorem dL_law_766 : decode cL_law 766 = .ok (.iaload, 1) := by decide +kernel
theorem dL_law_767 : decode cL_law 767 = .ok (.aload_n 0, 1) := by decide +kernel
theorem dL_law_768 : decode cL_law 768 = .ok (.iload_n 3, 1) := by decide +kernel
theorem dL_law_769 : decode cL_law 769 = .ok (.iconst 2, 1) := by decide +kernel
theorem dL_law_770 : decode cL_law 770 = .ok (.iadd, 1) := by decide +kernel
theorem dL_law_771 : decode cL_law 771 = .ok (.iaload, 1) := by decide +kernel
theorem dL_law_772 : decode cL_law 772 = .ok (.invokevirtual 99, 3) := by decide +kernel
theorem dL_law_775 : decode cL_law 775 = .ok (.if_icmp .eq 189, 3) := by decide +kernel
theorem dL_law_778 : decode cL_law 778 = .ok (.iconst 0, 1) := by decide +kernel
theorem dL_law_779 : decode cL_law 779 = .ok (.ireturn, 1) := by decide +kernel
theorem dL_law_780 : decode cL_law 780 = .ok (.aload_n 1, 1) := by decide +kernel
theorem dL_law_781 : decode cL_law 781 = .ok (.aload_n 0, 1) := by decide +kernel
theorem dL_law_782 : decode cL_law 782 = .ok (.iload_n 3, 1) := by decide +kernel
theorem dL_law_783 : decode cL_law 783 = .ok (.iconst 1, 1) := by decide +kernel
theorem dL_law_784 : decode cL_law 784 = .ok (.iadd, 1) := by decide +kernel
theorem dL_law_785 : decode cL_law 785 = .ok (.iaload, 1) := by decide +kernel
theorem dL_law_786 : decode cL_law 786 = .ok (.aload_n 0, 1) := by decide +kernel
theorem dL_law_787 : decode cL_law 787 = .ok (.iload_n 3, 1) := by decide +kernel
theorem dL_law_788 : decode cL_law 788 = .ok (.iconst 2, 1) := by decide +kernel
theorem dL_law_789 : decode cL_law 789 = .ok (.iadd, 1) := by decide +kernel
theorem dL_law_790 : decode cL_law 790 = .ok (.iaload, 1) := by decide +kernel
theorem dL_law_791 : decode cL_law 791 = .ok (.aload_n 0, 1) := by decide +kernel
theorem dL_law_792 : decode cL_law 792 = .ok (.iload_n 3, 1) := by decide +kernel
theorem dL_law_793 : decode cL_law 793 = .ok (.iconst 3, 1) := by decide +kernel
theorem dL_law_794 : decode cL_law 794 = .ok (.iadd, 1) := by decide +kernel
theorem dL_law_795 : decode cL_law 795 = .ok (.iaload, 1) := by decide +kernel
theorem dL_law_796 : decode cL_law 796 = .ok (.invokevirtual 100, 3) := by decide +kernel
theorem dL_law_799 : decode cL_law 799 = .ok (.aload_n 2, 1) := by decide +kernel
theorem dL_law_800 : decode cL_law 800 = .ok (.aload_n 0, 1) := by decide +kernel
theorem dL_law_801 : decode cL_law 801 = .ok (.iload_n 3, 1) := by decide +kernel
theorem dL_law_802 : decode cL_law 802 = .ok (.iconst 1, 1) := by decide +kernel
theorem dL_law_803 : decode cL_law 803 = .ok (.iadd, 1) := by decide +kernel
theorem dL_law_804 : decode cL_law 804 = .ok (.iaload, 1) := by decide +kernel
theorem dL_law_805 : decode cL_law 805 = .ok (.aload_n 0, 1) := by decide +kernel
theorem dL_law_806 : decode cL_law 806 = .ok (.iload_n 3, 1) := by decide +kernel
theorem dL_law_807 : decode cL_law 807 = .ok (.iconst 2, 1) := by decide +kernel
theorem dL_law_808 : decode cL_law 808 = .ok (.iadd, 1) := by decide +kernel
theorem dL_law_809 : decode cL_law 809 = .ok (.iaload, 1) := by decide +kernel
theorem dL_law_810 : decode cL_law 810 = .ok (.aload_n 0, 1) := by decide +kernel
theorem dL_law_811 : decode cL_law 811 = .ok (.iload_n 3, 1) := by decide +kernel
theorem dL_law_812 : decode cL_law 812 = .ok (.iconst 3, 1) := by decide +kernel
theorem dL_law_813 : decode cL_law 813 = .ok (.iadd, 1) := by decide +kernel
theorem dL_law_814 : decode cL_law 814 = .ok (.iaload, 1) := by decide +kernel
theorem dL_law_815 : decode cL_law 815 = .ok (.invokevirtual 103, 3) := by decide +kernel
theorem dL_law_818 : decode cL_law 818 = .ok (.if_icmp .eq 146, 3) := by decide +kernel
theorem dL_law_821 : decode cL_law 821 = .ok (.iconst 0, 1) := by decide +kernel
theorem dL_law_822 : decode cL_law 822 = .ok (.ireturn, 1) := by decide +kernel
theorem dL_law_823 : decode cL_law 823 = .ok (.aload_n 1, 1) := by decide +kernel
theorem dL_law_824 : decode cL_law 824 = .ok (.invokevirtual 104, 3) := by decide +kernel
theorem dL_law_827 : decode cL_law 827 = .ok (.aload_n 2, 1) := by decide +kernel
theorem dL_law_828 : decode cL_law 828 = .ok (.invokevirtual 107, 3) := by decide +kernel
theorem dL_law_831 : decode cL_law 831 = .ok (.if_icmp .eq 133, 3) := by decide +kernel
theorem dL_law_834 : decode cL_law 834 = .ok (.iconst 0, 1) := by decide +kernel
theorem dL_law_835 : decode cL_law 835 = .ok (.ireturn, 1) := by decide +kernel
theorem dL_law_836 : decode cL_law 836 = .ok (.aload_n 1, 1) := by decide +kernel
theorem dL_law_837 : decode cL_law 837 = .ok (.aload_n 0, 1) := by decide +kernel
theorem dL_law_838 : decode cL_law 838 = .ok (.iload_n 3, 1) := by decide +kernel
theorem dL_law_839 : decode cL_law 839 = .ok (.iconst 1, 1) := by decide +kernel
theorem dL_law_840 : decode cL_law 840 = .ok (.iadd, 1) := by decide +kernel
theorem dL_law_841 : decode cL_law 841 = .ok (.iaload, 1) := by decide +kernel
theorem dL_law_842 : decode cL_law 842 = .ok (.invokevirtual 108, 3) := by decide +kernel
theorem dL_law_845 : decode cL_law 845 = .ok (.aload_n 2, 1) := by decide +kernel
theorem dL_law_846 : decode cL_law 846 = .ok (.aload_n 0, 1) := by decide +kernel
theorem dL_law_847 : decode cL_law 847 = .ok (.iload_n 3, 1) := by decide +kernel
theorem dL_law_848 : decode cL_law 848 = .ok (.iconst 1, 1) := by decide +kernel
theorem dL_law_849 : decode cL_law 849 = .ok (.iadd, 1) := by decide +kernel
theorem dL_law_850 : decode cL_law 850 = .ok (.iaload, 1) := by decide +kernel
theorem dL_law_851 : decode cL_law 851 = .ok (.invokevirtual 111, 3) := by decide +kernel
theorem dL_law_854 : decode cL_law 854 = .ok (.if_icmp .eq 110, 3) := by decide +kernel
theorem dL_law_857 : decode cL_law 857 = .ok (.iconst 0, 1) := by decide +kernel
theorem dL_law_858 : decode cL_law 858 = .ok (.ireturn, 1) := by decide +kernel
theorem dL_law_859 : decode cL_law 859 = .ok (.aload_n 1, 1) := by decide +kernel
theorem dL_law_860 : decode cL_law 860 = .ok (.aload_n 0, 1) := by decide +kernel
theorem dL_law_861 : decode cL_law 861 = .ok (.iload_n 3, 1) := by decide +kernel
theorem dL_law_862 : decode cL_law 862 = .ok (.iconst 1, 1) := by decide +kernel
theorem dL_law_863 : decode cL_law 863 = .ok (.iadd, 1) := by decide +kernel
theorem dL_law_864 : decode cL_law 864 = .ok (.iaload, 1) := by decide +kernel
theorem dL_law_865 : decode cL_law 865 = .ok (.invokevirtual 112, 3) := by decide +kernel
theorem dL_law_868 : decode cL_law 868 = .ok (.aload_n 2, 1) := by decide +kernel
theorem dL_law_869 : decode cL_law 869 = .ok (.aload_n 0, 1) := by decide +kernel
theorem dL_law_870 : decode cL_law 870 = .ok (.iload_n 3, 1) := by decide +kernel
theorem dL_law_871 : decode cL_law 871 = .ok (.iconst 1, 1) := by decide +kernel
theorem dL_law_872 : decode cL_law 872 = .ok (.iadd, 1) := by decide +kernel
theorem dL_law_873 : decode cL_law 873 = .ok (.iaload, 1) := by decide +kernel
theorem dL_law_874 : decode cL_law 874 = .ok (.invokevirtual 115, 3) := by decide +kernel
theorem dL_law_877 : decode cL_law 877 = .ok (.if_icmp .eq 87, 3) := by decide +kernel
theorem dL_law_880 : decode cL_law 880 = .ok (.iconst 0, 1) := by decide +kernel
theorem dL_law_881 : decode cL_law 881 = .ok (.ireturn, 1) := by decide +kernel
theorem dL_law_882 : decode cL_law 882 = .ok (.aload_n 1, 1) := by decide +kernel
theorem dL_law_883 : decode cL_law 883 = .ok (.invokevirtual 116, 3) := by decide +kernel
theorem dL_law_886 : decode cL_law 886 = .ok (.aload_n 2, 1) := by decide +kernel
theorem dL_law_887 : decode cL_law 887 = .ok (.invokevirtual 119, 3) := by decide +kernel
theorem dL_law_890 : decode cL_law 890 = .ok (.if_icmp .eq 74, 3) := by decide +kernel
theorem dL_law_893 : decode cL_law 893 = .ok (.iconst 0, 1) := by decide +kernel
theorem dL_law_894 : decode cL_law 894 = .ok (.ireturn, 1) := by decide +kernel
theorem dL_law_895 : decode cL_law 895 = .ok (.aload_n 1, 1) := by decide +kernel
theorem dL_law_896 : decode cL_law 896 = .ok (.aload_n 0, 1) := by decide +kernel
theorem dL_law_897 : decode cL_law 897 = .ok (.iload_n 3, 1) := by decide +kernel
theorem dL_law_898 : decode cL_law 898 = .ok (.iconst 1, 1) := by decide +kernel
theorem dL_law_899 : decode cL_law 899 = .ok (.iadd, 1) := by decide +kernel
theorem dL_law_900 : decode cL_law 900 = .ok (.iaload, 1) := by decide +kernel
theorem dL_law_901 : decode cL_law 901 = .ok (.invokevirtual 120, 3) := by decide +kernel
theorem dL_law_904 : decode cL_law 904 = .ok (.aload_n 2, 1) := by decide +kernel
theorem dL_law_905 : decode cL_law 905 = .ok (.aload_n 0, 1) := by decide +kernel
theorem dL_law_906 : decode cL_law 906 = .ok (.iload_n 3, 1) := by decide +kernel
theorem dL_law_907 : decode cL_law 907 = .ok (.iconst 1, 1) := by decide +kernel
theorem dL_law_908 : decode cL_law 908 = .ok (.iadd, 1) := by decide +kernel
theorem dL_law_909 : decode cL_law 909 = .ok (.iaload, 1) := by decide +kernel
theorem dL_law_910 : decode cL_law 910 = .ok (.invokevirtual 123, 3) := by decide +kernel
theorem dL_law_913 : decode cL_law 913 = .ok (.if_icmp .eq 51, 3) := by decide +kernel
theorem dL_law_916 : decode cL_law 916 = .ok (.iconst 0, 1) := by decide +kernel
theorem dL_law_917 : decode cL_law 917 = .ok (.ireturn, 1) := by decide +kernel
theorem dL_law_918 : decode cL_law 918 = .ok (.aload_n 1, 1) := by decide +kernel
theorem dL_law_919 : decode cL_law 919 = .ok (.aload_n 0, 1) := by decide +kernel
theorem dL_law_920 : decode cL_law 920 = .ok (.iload_n 3, 1) := by decide +kernel
theorem dL_law_921 : decode cL_law 921 = .ok (.iconst 1, 1) := by decide +kernel
theorem dL_law_922 : decode cL_law 922 = .ok (.iadd, 1) := by decide +kernel
theorem dL_law_923 : decode cL_law 923 = .ok (.iaload, 1) := by decide +kernel
theorem dL_law_924 : decode cL_law 924 = .ok (.invokevirtual 124, 3) := by decide +kernel
theorem dL_law_927 : decode cL_law 927 = .ok (.aload_n 2, 1) := by decide +kernel
theorem dL_law_928 : decode cL_law 928 = .ok (.aload_n 0, 1) := by decide +kernel
theorem dL_law_929 : decode cL_law 929 = .ok (.iload_n 3, 1) := by decide +kernel
theorem dL_law_930 : decode cL_law 930 = .ok (.iconst 1, 1) := by decide +kernel
theorem dL_law_931 : decode cL_law 931 = .ok (.iadd, 1) := by decide +kernel
theorem dL_law_932 : decode cL_law 932 = .ok (.iaload, 1) := by decide +kernel
theorem dL_law_933 : decode cL_law 933 = .ok (.invokevirtual 127, 3) := by decide +kernel
theorem dL_law_936 : decode cL_law 936 = .ok (.if_icmp .eq 28, 3) := by decide +kernel
theorem dL_law_939 : decode cL_law 939 = .ok (.iconst 0, 1) := by decide +kernel
theorem dL_law_940 : decode cL_law 940 = .ok (.ireturn, 1) := by decide +kernel
theorem dL_law_941 : decode cL_law 941 = .ok (.aload_n 1, 1) := by decide +kernel
theorem dL_law_942 : decode cL_law 942 = .ok (.aload_n 0, 1) := by decide +kernel
theorem dL_law_943 : decode cL_law 943 = .ok (.iload_n 3, 1) := by decide +kernel
theorem dL_law_944 : decode cL_law 944 = .ok (.iconst 1, 1) := by decide +kernel
theorem dL_law_945 : decode cL_law 945 = .ok (.iadd, 1) := by decide +kernel
theorem dL_law_946 : decode cL_law 946 = .ok (.iaload, 1) := by decide +kernel
theorem dL_law_947 : decode cL_law 947 = .ok (.invokevirtual 128, 3) := by decide +kernel
theorem dL_law_950 : decode cL_law 950 = .ok (.aload_n 2, 1) := by decide +kernel
theorem dL_law_951 : decode cL_law 951 = .ok (.aload_n 0, 1) := by decide +kernel
theorem dL_law_952 : decode cL_law 952 = .ok (.iload_n 3, 1) := by decide +kernel
theorem dL_law_953 : decode cL_law 953 = .ok (.iconst 1, 1) := by decide +kernel
theorem dL_law_954 : decode cL_law 954 = .ok (.iadd, 1) := by decide +kernel
theorem dL_law_955 : decode cL_law 955 = .ok (.iaload, 1) := by decide +kernel
theorem dL_law_956 : decode cL_law 956 = .ok (.invokevirtual 131, 3) := by decide +kernel
theorem dL_law_959 : decode cL_law 959 = .ok (.if_icmp .eq 5, 3) := by decide +kernel
theorem dL_law_962 : decode cL_law 962 = .ok (.iconst 0, 1) := by decide +kernel
theorem dL_law_963 : decode cL_law 963 = .ok (.ireturn, 1) := by decide +kernel
theorem dL_law_964 : decode cL_law 964 = .ok (.iinc 3 4, 3) := by decide +kernel
theorem dL_law_967 : decode cL_law 967 = .ok (.goto (-949), 3) := by decide +kernel
theorem dL_law_970 : decode cL_law 970 = .ok (.iconst 1, 1) := by decide +kernel
theorem dL_law_971 : decode cL_law 971 = .ok (.ireturn, 1) := by decide +kernel
theorem dX0_init_0 : decode cX0_init 0 = .ok (.aload_n 0, 1) := by decide +kernel
theorem dX0_init_1 : decode cX0_init 1 = .ok (.invokespecial 3, 3) := by decide +kernel
theorem dX0_init_4 : decode cX0_init 4 = .ok (.aload_n 0, 1) := by decide +kernel
theorem dX0_init_5 : decode cX0_init 5 = .ok (.bipush 20, 2) := by decide +kernel
theorem dX0_init_7 : decode cX0_init 7 = .ok (.newarray .int, 2) := by decide +kernel
theorem dX0_init_9 : decode cX0_init 9 = .ok (.putfield 9, 3) := by decide +kernel
theorem dX0_init_12 : decode cX0_init 12 = .ok (.aload_n 0, 1) := by decide +kernel
theorem dX0_init_13 : decode cX0_init 13 = .ok (.bipush 20, 2) := by decide +kernel
theorem dX0_init_15 : decode cX0_init 15 = .ok (.newarray .int, 2) := by decide +kernel
theorem dX0_init_17 : decode cX0_init 17 = .ok (.putfield 15, 3) := by decide +kernel
theorem dX0_init_20 : decode cX0_init 20 = .ok (.aload_n 0, 1) := by decide +kernel
theorem dX0_init_21 : decode cX0_init 21 = .ok (.bipush 20, 2) := by decide +kernel
theorem dX0_init_23 : decode cX0_init 23 = .ok (.newarray .int, 2) := by decide +kernel
theorem dX0_init_25 : decode cX0_init 25 = .ok (.putfield 18, 3) := by decide +kernel
theorem dX0_init_28 : decode cX0_init 28 = .ok (.return_, 1) := by decide +kernel
theorem dX0_append_0 : decode cX0_append 0 = .ok (.aload_n 0, 1) := by decide +kernel
theorem dX0_append_1 : decode cX0_append 1 = .ok (.getfield 21, 3) := by decide +kernel
theorem dX0_append_4 : decode cX0_append 4 = .ok (.bipush 20, 2) := by decide +kernel
theorem dX0_append_6 : decode cX0_append 6 = .ok (.if_icmp .ge 43, 3) := by decide +kernel
theorem dX0_append_9 : decode cX0_append 9 = .ok (.aload_n 0, 1) := by decide +kernel
theorem dX0_append_10 : decode cX0_append 10 = .ok (.getfield 9, 3) := by decide +kernel
theorem dX0_append_13 : decode cX0_append 13 = .ok (.aload_n 0, 1) := by decide +kernel
theorem dX0_append_14 : decode cX0_append 14 = .ok (.getfield 21, 3) := by decide +kernel
theorem dX0_append_17 : decode cX0_append 17 = .ok (.iload_n 1, 1) := by decide +kernel
theorem dX0_append_18 : decode cX0_append 18 = .ok (.iastore, 1) := by decide +kernel
theorem dX0_append_19 : decode cX0_append 19 = .ok (.aload_n 0, 1) := by decide +kernel
theorem dX0_append_20 : decode cX0_append 20 = .ok (.getfield 15, 3) := by decide +kernel
theorem dX0_append_23 : decode cX0_append 23 = .ok (.aload_n 0, 1) := by decide +kernel
theorem dX0_append_24 : decode cX0_append 24 = .ok (.getfield 21, 3) := by decide +kernel
theorem dX0_append_27 : decode cX0_append 27 = .ok (.iload_n 2, 1) := by decide +kernel
theorem dX0_append_28 : decode cX0_append 28 = .ok (.iastore, 1) := by decide +kernel
theorem dX0_append_29 : decode cX0_append 29 = .ok (.aload_n 0, 1) := by decide +kernel
theorem dX0_append_30 : decode cX0_append 30 = .ok (.getfield 18, 3) := by decide +kernel
theorem dX0_append_33 : decode cX0_append 33 = .ok (.aload_n 0, 1) := by decide +kernel
theorem dX0_append_34 : decode cX0_append 34 = .ok (.getfield 21, 3) := by decide +kernel
theorem dX0_append_37 : decode cX0_append 37 = .ok (.iload_n 3, 1) := by decide +kernel
theorem dX0_append_38 : decode cX0_append 38 = .ok (.iastore, 1) := by decide +kernel
theorem dX0_append_39 : decode cX0_append 39 = .ok (.aload_n 0, 1) := by decide +kernel
theorem dX0_append_40 : decode cX0_append 40 = .ok (.dup, 1) := by decide +kernel
theorem dX0_append_41 : decode cX0_append 41 = .ok (.getfield 21, 3) := by decide +kernel
theorem dX0_append_44 : decode cX0_append 44 = .ok (.iconst 1, 1) := by decide +kernel
theorem dX0_append_45 : decode cX0_append 45 = .ok (.iadd, 1) := by decide +kernel
theorem dX0_append_46 : decode cX0_append 46 = .ok (.putfield 21, 3) := by decide +kernel
theorem dX0_append_49 : decode cX0_append 49 = .ok (.return_, 1) := by decide +kernel
theorem dX1_init_0 : decode cX1_init 0 = .ok (.aload_n 0, 1) := by decide +kernel
theorem dX1_init_1 : decode cX1_init 1 = .ok (.invokespecial 3, 3) := by decide +kernel
theorem dX1_init_4 : decode cX1_init 4 = .ok (.aload_n 0, 1) := by decide +kernel
theorem dX1_init_5 : decode cX1_init 5 = .ok (.aload_n 1, 1) := by decide +kernel
theorem dX1_init_6 : decode cX1_init 6 = .ok (.putfield 9, 3) := by decide +kernel
theorem dX1_init_9 : decode cX1_init 9 = .ok (.aload_n 0, 1) := by decide +kernel
theorem dX1_init_10 : decode cX1_init 10 = .ok (.aload_n 2, 1) := by decide +kernel
theorem dX1_init_11 : decode cX1_init 11 = .ok (.putfield 15, 3) := by decide +kernel
theorem dX1_init_14 : decode cX1_init 14 = .ok (.return_, 1) := by decide +kernel
theorem dX1_tallOf_0 : decode cX1_tallOf 0 = .ok (.aload_n 0, 1) := by decide +kernel
theorem dX1_tallOf_1 : decode cX1_tallOf 1 = .ok (.getfield 9, 3) := by decide +kernel
theorem dX1_tallOf_4 : decode cX1_tallOf 4 = .ok (.aload_n 0, 1) := by decide +kernel
theorem dX1_tallOf_5 : decode cX1_tallOf 5 = .ok (.getfield 15, 3) := by decide +kernel
theorem dX1_tallOf_8 : decode cX1_tallOf 8 = .ok (.getfield 19, 3) := by decide +kernel
theorem dX1_tallOf_11 : decode cX1_tallOf 11 = .ok (.iload_n 1, 1) := by decide +kernel
theorem dX1_tallOf_12 : decode cX1_tallOf 12 = .ok (.iaload, 1) := by decide +kernel
theorem dX1_tallOf_13 : decode cX1_tallOf 13 = .ok (.aload_n 0, 1) := by decide +kernel
theorem dX1_tallOf_14 : decode cX1_tallOf 14 = .ok (.getfield 15, 3) := by decide +kernel
theorem dX1_tallOf_17 : decode cX1_tallOf 17 = .ok (.getfield 25, 3) := by decide +kernel
theorem dX1_tallOf_20 : decode cX1_tallOf 20 = .ok (.iload_n 1, 1) := by decide +kernel
theorem dX1_tallOf_21 : decode cX1_tallOf 21 = .ok (.iaload, 1) := by decide +kernel
theorem dX1_tallOf_22 : decode cX1_tallOf 22 = .ok (.invokevirtual 28, 3) := by decide +kernel
theorem dX1_tallOf_25 : decode cX1_tallOf 25 = .ok (.aload_n 0, 1) := by decide +kernel
theorem dX1_tallOf_26 : decode cX1_tallOf 26 = .ok (.getfield 15, 3) := by decide +kernel
theorem dX1_tallOf_29 : decode cX1_tallOf 29 = .ok (.getfield 34, 3) := by decide +kernel
theorem dX1_tallOf_32 : decode cX1_tallOf 32 = .ok (.iload_n 1, 1) := by decide +kernel
theorem dX1_tallOf_33 : decode cX1_tallOf 33 = .ok (.iaload, 1) := by decide +kernel
theorem dX1_tallOf_34 : decode cX1_tallOf 34 = .ok (.iadd, 1) := by decide +kernel
theorem dX1_tallOf_35 : decode cX1_tallOf 35 = .ok (.ireturn, 1) := by decide +kernel
theorem dX1_headOf_0 : decode cX1_headOf 0 = .ok (.aload_n 0, 1) := by decide +kernel
theorem dX1_headOf_1 : decode cX1_headOf 1 = .ok (.getfield 9, 3) := by decide +kernel
theorem dX1_headOf_4 : decode cX1_headOf 4 = .ok (.aload_n 0, 1) := by decide +kernel
theorem dX1_headOf_5 : decode cX1_headOf 5 = .ok (.getfield 15, 3) := by decide +kernel
theorem dX1_headOf_8 : decode cX1_headOf 8 = .ok (.getfield 19, 3) := by decide +kernel
theorem dX1_headOf_11 : decode cX1_headOf 11 = .ok (.iload_n 1, 1) := by decide +kernel
theorem dX1_headOf_12 : decode cX1_headOf 12 = .ok (.iaload, 1) := by decide +kernel
theorem dX1_headOf_13 : decode cX1_headOf 13 = .ok (.aload_n 0, 1) := by decide +kernel
theorem dX1_headOf_14 : decode cX1_headOf 14 = .ok (.getfield 15, 3) := by decide +kernel
theorem dX1_headOf_17 : decode cX1_headOf 17 = .ok (.getfield 25, 3) := by decide +kernel
theorem dX1_headOf_20 : decode cX1_headOf 20 = .ok (.iload_n 1, 1) := by decide +kernel
theorem dX1_headOf_21 : decode cX1_headOf 21 = .ok (.iaload, 1) := by decide +kernel
theorem dX1_headOf_22 : decode cX1_headOf 22 = .ok (.invokevirtual 28, 3) := by decide +kernel
theorem dX1_headOf_25 : decode cX1_headOf 25 = .ok (.istore_n 2, 1) := by decide +kernel
theorem dX1_headOf_26 : decode cX1_headOf 26 = .ok (.iload_n 2, 1) := by decide +kernel
theorem dX1_headOf_27 : decode cX1_headOf 27 = .ok (.aload_n 0, 1) := by decide +kernel
theorem dX1_headOf_28 : decode cX1_headOf 28 = .ok (.getfield 15, 3) := by decide +kernel
theorem dX1_headOf_31 : decode cX1_headOf 31 = .ok (.getfield 34, 3) := by decide +kernel
theorem dX1_headOf_34 : decode cX1_headOf 34 = .ok (.iload_n 1, 1) := by decide +kernel
theorem dX1_headOf_35 : decode cX1_headOf 35 = .ok (.iaload, 1) := by decide +kernel
theorem dX1_headOf_36 : decode cX1_headOf 36 = .ok (.iadd, 1) := by decide +kernel
theorem dX1_headOf_37 : decode cX1_headOf 37 = .ok (.aload_n 0, 1) := by decide +kernel
theorem dX1_headOf_38 : decode cX1_headOf 38 = .ok (.getfield 15, 3) := by decide +kernel
theorem dX1_headOf_41 : decode cX1_headOf 41 = .ok (.getfield 37, 3) := by decide +kernel
theorem dX1_headOf_44 : decode cX1_headOf 44 = .ok (.iload_n 1, 1) := by decide +kernel
theorem dX1_headOf_45 : decode cX1_headOf 45 = .ok (.iaload, 1) := by decide +kernel
theorem dX1_headOf_46 : decode cX1_headOf 46 = .ok (.isub, 1) := by decide +kernel
theorem dX1_headOf_47 : decode cX1_headOf 47 = .ok (.ireturn, 1) := by decide +kernel
theorem dX1_excessOf_0 : decode cX1_excessOf 0 = .ok (.aload_n 0, 1) := by decide +kernel
theorem dX1_excessOf_1 : decode cX1_excessOf 1 = .ok (.getfield 15, 3) := by decide +kernel
theorem dX1_excessOf_4 : decode cX1_excessOf 4 = .ok (.iload_n 2, 1) := by decide +kernel
theorem dX1_excessOf_5 : decode cX1_excessOf 5 = .ok (.aload_n 0, 1) := by decide +kernel
theorem dX1_excessOf_6 : decode cX1_excessOf 6 = .ok (.getfield 15, 3) := by decide +kernel
theorem dX1_excessOf_9 : decode cX1_excessOf 9 = .ok (.getfield 40, 3) := by decide +kernel
theorem dX1_excessOf_12 : decode cX1_excessOf 12 = .ok (.iload_n 1, 1) := by decide +kernel
theorem dX1_excessOf_13 : decode cX1_excessOf 13 = .ok (.iaload, 1) := by decide +kernel
theorem dX1_excessOf_14 : decode cX1_excessOf 14 = .ok (.invokevirtual 43, 3) := by decide +kernel
theorem dX1_excessOf_17 : decode cX1_excessOf 17 = .ok (.istore_n 3, 1) := by decide +kernel
theorem dX1_excessOf_18 : decode cX1_excessOf 18 = .ok (.aload_n 0, 1) := by decide +kernel
theorem dX1_excessOf_19 : decode cX1_excessOf 19 = .ok (.getfield 15, 3) := by decide +kernel
theorem dX1_excessOf_22 : decode cX1_excessOf 22 = .ok (.getfield 46, 3) := by decide +kernel
theorem dX1_excessOf_25 : decode cX1_excessOf 25 = .ok (.iconst 1, 1) := by decide +kernel
theorem dX1_excessOf_26 : decode cX1_excessOf 26 = .ok (.if_icmp .eq 40, 3) := by decide +kernel
theorem dX1_excessOf_29 : decode cX1_excessOf 29 = .ok (.aload_n 0, 1) := by decide +kernel
theorem dX1_excessOf_30 : decode cX1_excessOf 30 = .ok (.getfield 15, 3) := by decide +kernel
theorem dX1_excessOf_33 : decode cX1_excessOf 33 = .ok (.iload_n 3, 1) := by decide +kernel
theorem dX1_excessOf_34 : decode cX1_excessOf 34 = .ok (.invokevirtual 50, 3) := by decide +kernel
theorem dX1_excessOf_37 : decode cX1_excessOf 37 = .ok (.istore 4, 2) := by decide +kernel
theorem dX1_excessOf_39 : decode cX1_excessOf 39 = .ok (.iload 4, 2) := by decide +kernel
theorem dX1_excessOf_41 : decode cX1_excessOf 41 = .ok (.iconst (-1), 1) := by decide +kernel
theorem dX1_excessOf_42 : decode cX1_excessOf 42 = .ok (.if_icmp .ne 7, 3) := by decide +kernel
theorem dX1_excessOf_45 : decode cX1_excessOf 45 = .ok (.iconst 0, 1) := by decide +kernel
theorem dX1_excessOf_46 : decode cX1_excessOf 46 = .ok (.goto 19, 3) := by decide +kernel
theorem dX1_excessOf_49 : decode cX1_excessOf 49 = .ok (.iconst 0, 1) := by decide +kernel
theorem dX1_excessOf_50 : decode cX1_excessOf 50 = .ok (.aload_n 0, 1) := by decide +kernel
theorem dX1_excessOf_51 : decode cX1_excessOf 51 = .ok (.iload_n 1, 1) := by decide +kernel
theorem dX1_excessOf_52 : decode cX1_excessOf 52 = .ok (.invokevirtual 54, 3) := by decide +kernel
theorem dX1_excessOf_55 : decode cX1_excessOf 55 = .ok (.aload_n 0, 1) := by decide +kernel
theorem dX1_excessOf_56 : decode cX1_excessOf 56 = .ok (.iload 4, 2) := by decide +kernel
theorem dX1_excessOf_58 : decode cX1_excessOf 58 = .ok (.invokevirtual 54, 3) := by decide +kernel
theorem dX1_excessOf_61 : decode cX1_excessOf 61 = .ok (.isub, 1) := by decide +kernel
theorem dX1_excessOf_62 : decode cX1_excessOf 62 = .ok (.invokestatic 57, 3) := by decide +kernel
theorem dX1_excessOf_65 : decode cX1_excessOf 65 = .ok (.ireturn, 1) := by decide +kernel
theorem dX1_excessOf_66 : decode cX1_excessOf 66 = .ok (.iconst 0, 1) := by decide +kernel
theorem dX1_excessOf_67 : decode cX1_excessOf 67 = .ok (.istore 4, 2) := by decide +kernel
theorem dX1_excessOf_69 : decode cX1_excessOf 69 = .ok (.iconst 0, 1) := by decide +kernel
theorem dX1_excessOf_70 : decode cX1_excessOf 70 = .ok (.istore 5, 2) := by decide +kernel
theorem dX1_excessOf_72 : decode cX1_excessOf 72 = .ok (.iload 5, 2) := by decide +kernel
theorem dX1_excessOf_74 : decode cX1_excessOf 74 = .ok (.aload_n 0, 1) := by decide +kernel
theorem dX1_excessOf_75 : decode cX1_excessOf 75 = .ok (.getfield 9, 3) := by decide +kernel
theorem dX1_excessOf_78 : decode cX1_excessOf 78 = .ok (.getfield 62, 3) := by decide +kernel
theorem dX1_excessOf_81 : decode cX1_excessOf 81 = .ok (.if_icmp .ge 37, 3) := by decide +kernel
theorem dX1_excessOf_84 : decode cX1_excessOf 84 = .ok (.iload_n 3, 1) := by decide +kernel
theorem dX1_excessOf_85 : decode cX1_excessOf 85 = .ok (.iload 5, 2) := by decide +kernel
theorem dX1_excessOf_87 : decode cX1_excessOf 87 = .ok (.ishr, 1) := by decide +kernel
theorem dX1_excessOf_88 : decode cX1_excessOf 88 = .ok (.iconst 1, 1) := by decide +kernel
theorem dX1_excessOf_89 : decode cX1_excessOf 89 = .ok (.iand, 1) := by decide +kernel
theorem dX1_excessOf_90 : decode cX1_excessOf 90 = .ok (.ifCond .eq 22, 3) := by decide +kernel
theorem dX1_excessOf_93 : decode cX1_excessOf 93 = .ok (.iload 4, 2) := by decide +kernel
theorem dX1_excessOf_95 : decode cX1_excessOf 95 = .ok (.aload_n 0, 1) := by decide +kernel
theorem dX1_excessOf_96 : decode cX1_excessOf 96 = .ok (.iload_n 1, 1) := by decide +kernel
theorem dX1_excessOf_97 : decode cX1_excessOf 97 = .ok (.invokevirtual 54, 3) := by decide +kernel
theorem dX1_excessOf_100 : decode cX1_excessOf 100 = .ok (.aload_n 0, 1) := by decide +kernel
theorem dX1_excessOf_101 : decode cX1_excessOf 101 = .ok (.iload 5, 2) := by decide +kernel
theorem dX1_excessOf_103 : decode cX1_excessOf 103 = .ok (.invokevirtual 54, 3) := by decide +kernel
theorem dX1_excessOf_106 : decode cX1_excessOf 106 = .ok (.isub, 1) := by decide +kernel
theorem dX1_excessOf_107 : decode cX1_excessOf 107 = .ok (.invokestatic 57, 3) := by decide +kernel
theorem dX1_excessOf_110 : decode cX1_excessOf 110 = .ok (.istore 4, 2) := by decide +kernel
theorem dX1_excessOf_112 : decode cX1_excessOf 112 = .ok (.iinc 5 1, 3) := by decide +kernel
theorem dX1_excessOf_115 : decode cX1_excessOf 115 = .ok (.goto (-43), 3) := by decide +kernel
theorem dX1_excessOf_118 : decode cX1_excessOf 118 = .ok (.iload 4, 2) := by decide +kernel
theorem dX1_excessOf_120 : decode cX1_excessOf 120 = .ok (.ireturn, 1) := by decide +kernel
theorem dX1_firstTooHigh_0 : decode cX1_firstTooHigh 0 = .ok (.iconst 0, 1) := by decide +kernel
theorem dX1_firstTooHigh_1 : decode cX1_firstTooHigh 1 = .ok (.istore_n 2, 1) := by decide +kernel
theorem dX1_firstTooHigh_2 : decode cX1_firstTooHigh 2 = .ok (.iload_n 2, 1) := by decide +kernel
theorem dX1_firstTooHigh_3 : decode cX1_firstTooHigh 3 = .ok (.aload_n 0, 1) := by decide +kernel
theorem dX1_firstTooHigh_4 : decode cX1_firstTooHigh 4 = .ok (.getfield 9, 3) := by decide +kernel
theorem dX1_firstTooHigh_7 : decode cX1_firstTooHigh 7 = .ok (.getfield 62, 3) := by decide +kernel
theorem dX1_firstTooHigh_10 : decode cX1_firstTooHigh 10 = .ok (.if_icmp .ge 33, 3) := by decide +kernel
theorem dX1_firstTooHigh_13 : decode cX1_firstTooHigh 13 = .ok (.aload_n 0, 1) := by decide +kernel
theorem dX1_firstTooHigh_14 : decode cX1_firstTooHigh 14 = .ok (.getfield 15, 3) := by decide +kernel
theorem dX1_firstTooHigh_17 : decode cX1_firstTooHigh 17 = .ok (.getfield 19, 3) := by decide +kernel
theorem dX1_firstTooHigh_20 : decode cX1_firstTooHigh 20 = .ok (.iload_n 2, 1) := by decide +kernel
theorem dX1_firstTooHigh_21 : decode cX1_firstTooHigh 21 = .ok (.iaload, 1) := by decide +kernel
theorem dX1_firstTooHigh_22 : decode cX1_firstTooHigh 22 = .ok (.iload_n 1, 1) := by decide +kernel
theorem dX1_firstTooHigh_23 : decode cX1_firstTooHigh 23 = .ok (.if_icmp .ne 14, 3) := by decide +kernel
theorem dX1_firstTooHigh_26 : decode cX1_firstTooHigh 26 = .ok (.aload_n 0, 1) := by decide +kernel
theorem dX1_firstTooHigh_27 : decode cX1_firstTooHigh 27 = .ok (.iload_n 2, 1) := by decide +kernel
theorem dX1_firstTooHigh_28 : decode cX1_firstTooHigh 28 = .ok (.iload_n 1, 1) := by decide +kernel
theorem dX1_firstTooHigh_29 : decode cX1_firstTooHigh 29 = .ok (.invokevirtual 65, 3) := by decide +kernel
theorem dX1_firstTooHigh_32 : decode cX1_firstTooHigh 32 = .ok (.ifCond .le 5, 3) := by decide +kernel
theorem dX1_firstTooHigh_35 : decode cX1_firstTooHigh 35 = .ok (.iload_n 2, 1) := by decide +kernel
theorem dX1_firstTooHigh_36 : decode cX1_firstTooHigh 36 = .ok (.ireturn, 1) := by decide +kernel
theorem dX1_firstTooHigh_37 : decode cX1_firstTooHigh 37 = .ok (.iinc 2 1, 3) := by decide +kernel
theorem dX1_firstTooHigh_40 : decode cX1_firstTooHigh 40 = .ok (.goto (-38), 3) := by decide +kernel
theorem dX1_firstTooHigh_43 : decode cX1_firstTooHigh 43 = .ok (.iconst (-1), 1) := by decide +kernel
theorem dX1_firstTooHigh_44 : decode cX1_firstTooHigh 44 = .ok (.ireturn, 1) := by decide +kernel
theorem dX1_roomsWithFault_0 : decode cX1_roomsWithFault 0 = .ok (.iconst 0, 1) := by decide +kernel
theorem dX1_roomsWithFault_1 : decode cX1_roomsWithFault 1 = .ok (.istore_n 1, 1) := by decide +kernel
theorem dX1_roomsWithFault_2 : decode cX1_roomsWithFault 2 = .ok (.iconst 0, 1) := by decide +kernel
theorem dX1_roomsWithFault_3 : decode cX1_roomsWithFault 3 = .ok (.istore_n 2, 1) := by decide +kernel
theorem dX1_roomsWithFault_4 : decode cX1_roomsWithFault 4 = .ok (.iload_n 2, 1) := by decide +kernel
theorem dX1_roomsWithFault_5 : decode cX1_roomsWithFault 5 = .ok (.aload_n 0, 1) := by decide +kernel
theorem dX1_roomsWithFault_6 : decode cX1_roomsWithFault 6 = .ok (.getfield 9, 3) := by decide +kernel
theorem dX1_roomsWithFault_9 : decode cX1_roomsWithFault 9 = .ok (.getfield 68, 3) := by decide +kernel
theorem dX1_roomsWithFault_12 : decode cX1_roomsWithFault 12 = .ok (.if_icmp .ge 24, 3) := by decide +kernel
theorem dX1_roomsWithFault_15 : decode cX1_roomsWithFault 15 = .ok (.aload_n 0, 1) := by decide +kernel
theorem dX1_roomsWithFault_16 : decode cX1_roomsWithFault 16 = .ok (.iload_n 2, 1) := by decide +kernel
theorem dX1_roomsWithFault_17 : decode cX1_roomsWithFault 17 = .ok (.invokevirtual 71, 3) := by decide +kernel
theorem dX1_roomsWithFault_20 : decode cX1_roomsWithFault 20 = .ok (.iconst (-1), 1) := by decide +kernel
theorem dX1_roomsWithFault_21 : decode cX1_roomsWithFault 21 = .ok (.if_icmp .eq 9, 3) := by decide +kernel
theorem dX1_roomsWithFault_24 : decode cX1_roomsWithFault 24 = .ok (.iload_n 1, 1) := by decide +kernel
theorem dX1_roomsWithFault_25 : decode cX1_roomsWithFault 25 = .ok (.iconst 1, 1) := by decide +kernel
theorem dX1_roomsWithFault_26 : decode cX1_roomsWithFault 26 = .ok (.iload_n 2, 1) := by decide +kernel
theorem dX1_roomsWithFault_27 : decode cX1_roomsWithFault 27 = .ok (.ishl, 1) := by decide +kernel
theorem dX1_roomsWithFault_28 : decode cX1_roomsWithFault 28 = .ok (.ior, 1) := by decide +kernel
theorem dX1_roomsWithFault_29 : decode cX1_roomsWithFault 29 = .ok (.istore_n 1, 1) := by decide +kernel
theorem dX1_roomsWithFault_30 : decode cX1_roomsWithFault 30 = .ok (.iinc 2 1, 3) := by decide +kernel
theorem dX1_roomsWithFault_33 : decode cX1_roomsWithFault 33 = .ok (.goto (-29), 3) := by decide +kernel
theorem dX1_roomsWithFault_36 : decode cX1_roomsWithFault 36 = .ok (.iload_n 1, 1) := by decide +kernel
theorem dX1_roomsWithFault_37 : decode cX1_roomsWithFault 37 = .ok (.ireturn, 1) := by decide +kernel
theorem dX1_allBow_0 : decode cX1_allBow 0 = .ok (.aload_n 0, 1) := by decide +kernel
theorem dX1_allBow_1 : decode cX1_allBow 1 = .ok (.getfield 15, 3) := by decide +kernel
theorem dX1_allBow_4 : decode cX1_allBow 4 = .ok (.iload_n 1, 1) := by decide +kernel
theorem dX1_allBow_5 : decode cX1_allBow 5 = .ok (.invokevirtual 74, 3) := by decide +kernel
theorem dX1_allBow_8 : decode cX1_allBow 8 = .ok (.istore_n 2, 1) := by decide +kernel
theorem dX1_allBow_9 : decode cX1_allBow 9 = .ok (.aload_n 0, 1) := by decide +kernel
theorem dX1_allBow_10 : decode cX1_allBow 10 = .ok (.getfield 15, 3) := by decide +kernel
theorem dX1_allBow_13 : decode cX1_allBow 13 = .ok (.iload_n 2, 1) := by decide +kernel
theorem dX1_allBow_14 : decode cX1_allBow 14 = .ok (.invokevirtual 50, 3) := by decide +kernel
theorem dX1_allBow_17 : decode cX1_allBow 17 = .ok (.istore_n 3, 1) := by decide +kernel
theorem dX1_allBow_18 : decode cX1_allBow 18 = .ok (.iload_n 3, 1) := by decide +kernel
theorem dX1_allBow_19 : decode cX1_allBow 19 = .ok (.iconst (-1), 1) := by decide +kernel
theorem dX1_allBow_20 : decode cX1_allBow 20 = .ok (.if_icmp .ne 5, 3) := by decide +kernel
theorem dX1_allBow_23 : decode cX1_allBow 23 = .ok (.iconst 0, 1) := by decide +kernel
theorem dX1_allBow_24 : decode cX1_allBow 24 = .ok (.ireturn, 1) := by decide +kernel
theorem dX1_allBow_25 : decode cX1_allBow 25 = .ok (.aload_n 0, 1) := by decide +kernel
theorem dX1_allBow_26 : decode cX1_allBow 26 = .ok (.getfield 15, 3) := by decide +kernel
theorem dX1_allBow_29 : decode cX1_allBow 29 = .ok (.getfield 37, 3) := by decide +kernel
theorem dX1_allBow_32 : decode cX1_allBow 32 = .ok (.iload_n 3, 1) := by decide +kernel
theorem dX1_allBow_33 : decode cX1_allBow 33 = .ok (.iconst 0, 1) := by decide +kernel
theorem dX1_allBow_34 : decode cX1_allBow 34 = .ok (.iastore, 1) := by decide +kernel
theorem dX1_allBow_35 : decode cX1_allBow 35 = .ok (.aload_n 0, 1) := by decide +kernel
theorem dX1_allBow_36 : decode cX1_allBow 36 = .ok (.iload_n 3, 1) := by decide +kernel
theorem dX1_allBow_37 : decode cX1_allBow 37 = .ok (.invokevirtual 77, 3) := by decide +kernel
theorem dX1_allBow_40 : decode cX1_allBow 40 = .ok (.istore 4, 2) := by decide +kernel
theorem dX1_allBow_42 : decode cX1_allBow 42 = .ok (.iconst 0, 1) := by decide +kernel
theorem dX1_allBow_43 : decode cX1_allBow 43 = .ok (.istore 5, 2) := by decide +kernel
theorem dX1_allBow_45 : decode cX1_allBow 45 = .ok (.iconst 1, 1) := by decide +kernel
theorem dX1_allBow_46 : decode cX1_allBow 46 = .ok (.istore 6, 2) := by decide +kernel
theorem dX1_allBow_48 : decode cX1_allBow 48 = .ok (.iload 6, 2) := by decide +kernel
theorem dX1_allBow_50 : decode cX1_allBow 50 = .ok (.bipush 6, 2) := by decide +kernel
theorem dX1_allBow_52 : decode cX1_allBow 52 = .ok (.if_icmp .ge 106, 3) := by decide +kernel
theorem dX1_allBow_55 : decode cX1_allBow 55 = .ok (.iload_n 2, 1) := by decide +kernel
theorem dX1_allBow_56 : decode cX1_allBow 56 = .ok (.iconst 1, 1) := by decide +kernel
theorem dX1_allBow_57 : decode cX1_allBow 57 = .ok (.iload_n 3, 1) := by decide +kernel
theorem dX1_allBow_58 : decode cX1_allBow 58 = .ok (.ishl, 1) := by decide +kernel
theorem dX1_allBow_59 : decode cX1_allBow 59 = .ok (.iconst (-1), 1) := by decide +kernel
theorem dX1_allBow_60 : decode cX1_allBow 60 = .ok (.ixor, 1) := by decide +kernel
theorem dX1_allBow_61 : decode cX1_allBow 61 = .ok (.iand, 1) := by decide +kernel
theorem dX1_allBow_62 : decode cX1_allBow 62 = .ok (.istore_n 2, 1) := by decide +kernel
theorem dX1_allBow_63 : decode cX1_allBow 63 = .ok (.aload_n 0, 1) := by decide +kernel
theorem dX1_allBow_64 : decode cX1_allBow 64 = .ok (.getfield 15, 3) := by decide +kernel
theorem dX1_allBow_67 : decode cX1_allBow 67 = .ok (.iload_n 2, 1) := by decide +kernel
theorem dX1_allBow_68 : decode cX1_allBow 68 = .ok (.invokevirtual 50, 3) := by decide +kernel
theorem dX1_allBow_71 : decode cX1_allBow 71 = .ok (.istore_n 3, 1) := by decide +kernel
theorem dX1_allBow_72 : decode cX1_allBow 72 = .ok (.iload_n 3, 1) := by decide +kernel
theorem dX1_allBow_73 : decode cX1_allBow 73 = .ok (.iconst (-1), 1) := by decide +kernel
theorem dX1_allBow_74 : decode cX1_allBow 74 = .ok (.if_icmp .ne 6, 3) := by decide +kernel
theorem dX1_allBow_77 : decode cX1_allBow 77 = .ok (.goto 81, 3) := by decide +kernel
theorem dX1_allBow_80 : decode cX1_allBow 80 = .ok (.iconst 0, 1) := by decide +kernel
theorem dX1_allBow_81 : decode cX1_allBow 81 = .ok (.aload_n 0, 1) := by decide +kernel
theorem dX1_allBow_82 : decode cX1_allBow 82 = .ok (.iload_n 3, 1) := by decide +kernel
theorem dX1_allBow_83 : decode cX1_allBow 83 = .ok (.invokevirtual 77, 3) := by decide +kernel
theorem dX1_allBow_86 : decode cX1_allBow 86 = .ok (.iload 4, 2) := by decide +kernel
theorem dX1_allBow_88 : decode cX1_allBow 88 = .ok (.isub, 1) := by decide +kernel
theorem dX1_allBow_89 : decode cX1_allBow 89 = .ok (.invokestatic 57, 3) := by decide +kernel
theorem dX1_allBow_92 : decode cX1_allBow 92 = .ok (.istore 7, 2) := by decide +kernel
theorem dX1_allBow_94 : decode cX1_allBow 94 = .ok (.aload_n 0, 1) := by decide +kernel
theorem dX1_allBow_95 : decode cX1_allBow 95 = .ok (.getfield 15, 3) := by decide +kernel
theorem dX1_allBow_98 : decode cX1_allBow 98 = .ok (.getfield 37, 3) := by decide +kernel
theorem dX1_allBow_101 : decode cX1_allBow 101 = .ok (.iload_n 3, 1) := by decide +kernel
theorem dX1_allBow_102 : decode cX1_allBow 102 = .ok (.iload 7, 2) := by decide +kernel
theorem dX1_allBow_104 : decode cX1_allBow 104 = .ok (.aload_n 0, 1) := by decide +kernel
theorem dX1_allBow_105 : decode cX1_allBow 105 = .ok (.getfield 9, 3) := by decide +kernel
theorem dX1_allBow_108 : decode cX1_allBow 108 = .ok (.getfield 80, 3) := by decide +kernel
theorem dX1_allBow_111 : decode cX1_allBow 111 = .ok (.iload_n 3, 1) := by decide +kernel
theorem dX1_allBow_112 : decode cX1_allBow 112 = .ok (.iaload, 1) := by decide +kernel
theorem dX1_allBow_113 : decode cX1_allBow 113 = .ok (.invokestatic 83, 3) := by decide +kernel
theorem dX1_allBow_116 : decode cX1_allBow 116 = .ok (.iastore, 1) := by decide +kernel
theorem dX1_allBow_117 : decode cX1_allBow 117 = .ok (.iload 7, 2) := by decide +kernel
theorem dX1_allBow_119 : decode cX1_allBow 119 = .ok (.aload_n 0, 1) := by decide +kernel
theorem dX1_allBow_120 : decode cX1_allBow 120 = .ok (.getfield 9, 3) := by decide +kernel
theorem dX1_allBow_123 : decode cX1_allBow 123 = .ok (.getfield 80, 3) := by decide +kernel
theorem dX1_allBow_126 : decode cX1_allBow 126 = .ok (.iload_n 3, 1) := by decide +kernel
theorem dX1_allBow_127 : decode cX1_allBow 127 = .ok (.iaload, 1) := by decide +kernel
theorem dX1_allBow_128 : decode cX1_allBow 128 = .ok (.if_icmp .le 11, 3) := by decide +kernel
theorem dX1_allBow_131 : decode cX1_allBow 131 = .ok (.iload 5, 2) := by decide +kernel
theorem dX1_allBow_133 : decode cX1_allBow 133 = .ok (.iconst 1, 1) := by decide +kernel
theorem dX1_allBow_134 : decode cX1_allBow 134 = .ok (.iload_n 3, 1) := by decide +kernel
theorem dX1_allBow_135 : decode cX1_allBow 135 = .ok (.ishl, 1) := by decide +kernel
theorem dX1_allBow_136 : decode cX1_allBow 136 = .ok (.ior, 1) := by decide +kernel
theorem dX1_allBow_137 : decode cX1_allBow 137 = .ok (.istore 5, 2) := by decide +kernel
theorem dX1_allBow_139 : decode cX1_allBow 139 = .ok (.aload_n 0, 1) := by decide +kernel
theorem dX1_allBow_140 : decode cX1_allBow 140 = .ok (.iload 4, 2) := by decide +kernel
theorem dX1_allBow_142 : decode cX1_allBow 142 = .ok (.aload_n 0, 1) := by decide +kernel
theorem dX1_allBow_143 : decode cX1_allBow 143 = .ok (.iload_n 3, 1) := by decide +kernel
theorem dX1_allBow_144 : decode cX1_allBow 144 = .ok (.invokevirtual 54, 3) := by decide +kernel
theorem dX1_allBow_147 : decode cX1_allBow 147 = .ok (.invokevirtual 86, 3) := by decide +kernel
theorem dX1_allBow_150 : decode cX1_allBow 150 = .ok (.istore 4, 2) := by decide +kernel
theorem dX1_allBow_152 : decode cX1_allBow 152 = .ok (.iinc 6 1, 3) := by decide +kernel
theorem dX1_allBow_155 : decode cX1_allBow 155 = .ok (.goto (-107), 3) := by decide +kernel
theorem dX1_allBow_158 : decode cX1_allBow 158 = .ok (.iload 5, 2) := by decide +kernel
theorem dX1_allBow_160 : decode cX1_allBow 160 = .ok (.ireturn, 1) := by decide +kernel
theorem dX1_nextLimit_0 : decode cX1_nextLimit 0 = .ok (.aload_n 0, 1) := by decide +kernel
theorem dX1_nextLimit_1 : decode cX1_nextLimit 1 = .ok (.getfield 15, 3) := by decide +kernel
theorem dX1_nextLimit_4 : decode cX1_nextLimit 4 = .ok (.getfield 46, 3) := by decide +kernel
theorem dX1_nextLimit_7 : decode cX1_nextLimit 7 = .ok (.iconst 1, 1) := by decide +kernel
theorem dX1_nextLimit_8 : decode cX1_nextLimit 8 = .ok (.if_icmp .ne 11, 3) := by decide +kernel
theorem dX1_nextLimit_11 : decode cX1_nextLimit 11 = .ok (.iload_n 1, 1) := by decide +kernel
theorem dX1_nextLimit_12 : decode cX1_nextLimit 12 = .ok (.iload_n 2, 1) := by decide +kernel
theorem dX1_nextLimit_13 : decode cX1_nextLimit 13 = .ok (.invokestatic 83, 3) := by decide +kernel
theorem dX1_nextLimit_16 : decode cX1_nextLimit 16 = .ok (.goto 4, 3) := by decide +kernel
theorem dX1_nextLimit_19 : decode cX1_nextLimit 19 = .ok (.iload_n 1, 1) := by decide +kernel
theorem dX1_nextLimit_20 : decode cX1_nextLimit 20 = .ok (.ireturn, 1) := by decide +kernel
theorem dX1_passYear_0 : decode cX1_passYear 0 = .ok (.iconst 0, 1) := by decide +kernel
theorem dX1_passYear_1 : decode cX1_passYear 1 = .ok (.istore_n 1, 1) := by decide +kernel
theorem dX1_passYear_2 : decode cX1_passYear 2 = .ok (.iload_n 1, 1) := by decide +kernel
theorem dX1_passYear_3 : decode cX1_passYear 3 = .ok (.aload_n 0, 1) := by decide +kernel
theorem dX1_passYear_4 : decode cX1_passYear 4 = .ok (.getfield 9, 3) := by decide +kernel
theorem dX1_passYear_7 : decode cX1_passYear 7 = .ok (.getfield 62, 3) := by decide +kernel
theorem dX1_passYear_10 : decode cX1_passYear 10 = .ok (.if_icmp .ge 69, 3) := by decide +kernel
theorem dX1_passYear_13 : decode cX1_passYear 13 = .ok (.aload_n 0, 1) := by decide +kernel
theorem dX1_passYear_14 : decode cX1_passYear 14 = .ok (.getfield 15, 3) := by decide +kernel
theorem dX1_passYear_17 : decode cX1_passYear 17 = .ok (.getfield 40, 3) := by decide +kernel
theorem dX1_passYear_20 : decode cX1_passYear 20 = .ok (.iload_n 1, 1) := by decide +kernel
theorem dX1_passYear_21 : decode cX1_passYear 21 = .ok (.iaload, 1) := by decide +kernel
theorem dX1_passYear_22 : decode cX1_passYear 22 = .ok (.bipush 20, 2) := by decide +kernel
theorem dX1_passYear_24 : decode cX1_passYear 24 = .ok (.if_icmp .ge 36, 3) := by decide +kernel
theorem dX1_passYear_27 : decode cX1_passYear 27 = .ok (.aload_n 0, 1) := by decide +kernel
theorem dX1_passYear_28 : decode cX1_passYear 28 = .ok (.getfield 15, 3) := by decide +kernel
theorem dX1_passYear_31 : decode cX1_passYear 31 = .ok (.getfield 34, 3) := by decide +kernel
theorem dX1_passYear_34 : decode cX1_passYear 34 = .ok (.iload_n 1, 1) := by decide +kernel
theorem dX1_passYear_35 : decode cX1_passYear 35 = .ok (.bipush 90, 2) := by decide +kernel
theorem dX1_passYear_37 : decode cX1_passYear 37 = .ok (.aload_n 0, 1) := by decide +kernel
theorem dX1_passYear_38 : decode cX1_passYear 38 = .ok (.getfield 15, 3) := by decide +kernel
theorem dX1_passYear_41 : decode cX1_passYear 41 = .ok (.getfield 34, 3) := by decide +kernel
theorem dX1_passYear_44 : decode cX1_passYear 44 = .ok (.iload_n 1, 1) := by decide +kernel
theorem dX1_passYear_45 : decode cX1_passYear 45 = .ok (.iaload, 1) := by decide +kernel
theorem dX1_passYear_46 : decode cX1_passYear 46 = .ok (.aload_n 0, 1) := by decide +kernel
theorem dX1_passYear_47 : decode cX1_passYear 47 = .ok (.getfield 9, 3) := by decide +kernel
theorem dX1_passYear_50 : decode cX1_passYear 50 = .ok (.getfield 89, 3) := by decide +kernel
theorem dX1_passYear_53 : decode cX1_passYear 53 = .ok (.iload_n 1, 1) := by decide +kernel
theorem dX1_passYear_54 : decode cX1_passYear 54 = .ok (.iaload, 1) := by decide +kernel
theorem dX1_passYear_55 : decode cX1_passYear 55 = .ok (.iadd, 1) := by decide +kernel
theorem dX1_passYear_56 : decode cX1_passYear 56 = .ok (.invokestatic 83, 3) := by decide +kernel
theorem dX1_passYear_59 : decode cX1_passYear 59 = .ok (.iastore, 1) := by decide +kernel
theorem dX1_passYear_60 : decode cX1_passYear 60 = .ok (.aload_n 0, 1) := by decide +kernel
theorem dX1_passYear_61 : decode cX1_passYear 61 = .ok (.getfield 15, 3) := by decide +kernel
theorem dX1_passYear_64 : decode cX1_passYear 64 = .ok (.getfield 40, 3) := by decide +kernel
theorem dX1_passYear_67 : decode cX1_passYear 67 = .ok (.iload_n 1, 1) := by decide +kernel
theorem dX1_passYear_68 : decode cX1_passYear 68 = .ok (.dup2, 1) := by decide +kernel
theorem dX1_passYear_69 : decode cX1_passYear 69 = .ok (.iaload, 1) := by decide +kernel
theorem dX1_passYear_70 : decode cX1_passYear 70 = .ok (.iconst 1, 1) := by decide +kernel
theorem dX1_passYear_71 : decode cX1_passYear 71 = .ok (.iadd, 1) := by decide +kernel
theorem dX1_passYear_72 : decode cX1_passYear 72 = .ok (.iastore, 1) := by decide +kernel
theorem dX1_passYear_73 : decode cX1_passYear 73 = .ok (.iinc 1 1, 3) := by decide +kernel
theorem dX1_passYear_76 : decode cX1_passYear 76 = .ok (.goto (-74), 3) := by decide +kernel
theorem dX1_passYear_79 : decode cX1_passYear 79 = .ok (.return_, 1) := by decide +kernel
theorem dX1_comesIn_0 : decode cX1_comesIn 0 = .ok (.aload_n 0, 1) := by decide +kernel
theorem dX1_comesIn_1 : decode cX1_comesIn 1 = .ok (.getfield 15, 3) := by decide +kernel
theorem dX1_comesIn_4 : decode cX1_comesIn 4 = .ok (.iload_n 1, 1) := by decide +kernel
theorem dX1_comesIn_5 : decode cX1_comesIn 5 = .ok (.iload_n 2, 1) := by decide +kernel
theorem dX1_comesIn_6 : decode cX1_comesIn 6 = .ok (.iload_n 3, 1) := by decide +kernel
theorem dX1_comesIn_7 : decode cX1_comesIn 7 = .ok (.invokevirtual 92, 3) := by decide +kernel
theorem dX1_comesIn_10 : decode cX1_comesIn 10 = .ok (.iconst 0, 1) := by decide +kernel
theorem dX1_comesIn_11 : decode cX1_comesIn 11 = .ok (.istore 4, 2) := by decide +kernel
theorem dX1_comesIn_13 : decode cX1_comesIn 13 = .ok (.iconst 0, 1) := by decide +kernel
theorem dX1_comesIn_14 : decode cX1_comesIn 14 = .ok (.istore 5, 2) := by decide +kernel
theorem dX1_comesIn_16 : decode cX1_comesIn 16 = .ok (.iload 5, 2) := by decide +kernel
theorem dX1_comesIn_18 : decode cX1_comesIn 18 = .ok (.sipush 1000, 3) := by decide +kernel
theorem dX1_comesIn_21 : decode cX1_comesIn 21 = .ok (.if_icmp .ge 42, 3) := by decide +kernel
theorem dX1_comesIn_24 : decode cX1_comesIn 24 = .ok (.aload_n 0, 1) := by decide +kernel
theorem dX1_comesIn_25 : decode cX1_comesIn 25 = .ok (.getfield 15, 3) := by decide +kernel
theorem dX1_comesIn_28 : decode cX1_comesIn 28 = .ok (.aload_n 0, 1) := by decide +kernel
theorem dX1_comesIn_29 : decode cX1_comesIn 29 = .ok (.iload_n 2, 1) := by decide +kernel
theorem dX1_comesIn_30 : decode cX1_comesIn 30 = .ok (.invokevirtual 96, 3) := by decide +kernel
theorem dX1_comesIn_33 : decode cX1_comesIn 33 = .ok (.invokevirtual 50, 3) := by decide +kernel
theorem dX1_comesIn_36 : decode cX1_comesIn 36 = .ok (.istore 6, 2) := by decide +kernel
theorem dX1_comesIn_38 : decode cX1_comesIn 38 = .ok (.iload 6, 2) := by decide +kernel
theorem dX1_comesIn_40 : decode cX1_comesIn 40 = .ok (.iconst (-1), 1) := by decide +kernel
theorem dX1_comesIn_41 : decode cX1_comesIn 41 = .ok (.if_icmp .ne 6, 3) := by decide +kernel
theorem dX1_comesIn_44 : decode cX1_comesIn 44 = .ok (.goto 19, 3) := by decide +kernel
theorem dX1_comesIn_47 : decode cX1_comesIn 47 = .ok (.aload_n 0, 1) := by decide +kernel
theorem dX1_comesIn_48 : decode cX1_comesIn 48 = .ok (.iload 6, 2) := by decide +kernel
theorem dX1_comesIn_50 : decode cX1_comesIn 50 = .ok (.iload_n 2, 1) := by decide +kernel
theorem dX1_comesIn_51 : decode cX1_comesIn 51 = .ok (.invokevirtual 99, 3) := by decide +kernel
theorem dX1_comesIn_54 : decode cX1_comesIn 54 = .ok (.iinc 4 1, 3) := by decide +kernel
theorem dX1_comesIn_57 : decode cX1_comesIn 57 = .ok (.iinc 5 1, 3) := by decide +kernel
theorem dX1_comesIn_60 : decode cX1_comesIn 60 = .ok (.goto (-44), 3) := by decide +kernel
theorem dX1_comesIn_63 : decode cX1_comesIn 63 = .ok (.iload 4, 2) := by decide +kernel
theorem dX1_comesIn_65 : decode cX1_comesIn 65 = .ok (.ireturn, 1) := by decide +kernel
theorem dX1_moveDownOrOut_0 : decode cX1_moveDownOrOut 0 = .ok (.aload_n 0, 1) := by decide +kernel
theorem dX1_moveDownOrOut_1 : decode cX1_moveDownOrOut 1 = .ok (.iload_n 2, 1) := by decide +kernel
theorem dX1_moveDownOrOut_2 : decode cX1_moveDownOrOut 2 = .ok (.invokevirtual 103, 3) := by decide +kernel
theorem dX1_moveDownOrOut_5 : decode cX1_moveDownOrOut 5 = .ok (.istore_n 3, 1) := by decide +kernel
theorem dX1_moveDownOrOut_6 : decode cX1_moveDownOrOut 6 = .ok (.iload_n 3, 1) := by decide +kernel
theorem dX1_moveDownOrOut_7 : decode cX1_moveDownOrOut 7 = .ok (.iconst (-1), 1) := by decide +kernel
theorem dX1_moveDownOrOut_8 : decode cX1_moveDownOrOut 8 = .ok (.if_icmp .eq 45, 3) := by decide +kernel
theorem dX1_moveDownOrOut_11 : decode cX1_moveDownOrOut 11 = .ok (.aload_n 0, 1) := by decide +kernel
theorem dX1_moveDownOrOut_12 : decode cX1_moveDownOrOut 12 = .ok (.getfield 9, 3) := by decide +kernel
theorem dX1_moveDownOrOut_15 : decode cX1_moveDownOrOut 15 = .ok (.iload_n 2, 1) := by decide +kernel
theorem dX1_moveDownOrOut_16 : decode cX1_moveDownOrOut 16 = .ok (.iload_n 3, 1) := by decide +kernel
theorem dX1_moveDownOrOut_17 : decode cX1_moveDownOrOut 17 = .ok (.invokevirtual 28, 3) := by decide +kernel
theorem dX1_moveDownOrOut_20 : decode cX1_moveDownOrOut 20 = .ok (.aload_n 0, 1) := by decide +kernel
theorem dX1_moveDownOrOut_21 : decode cX1_moveDownOrOut 21 = .ok (.getfield 9, 3) := by decide +kernel
theorem dX1_moveDownOrOut_24 : decode cX1_moveDownOrOut 24 = .ok (.iload_n 2, 1) := by decide +kernel
theorem dX1_moveDownOrOut_25 : decode cX1_moveDownOrOut 25 = .ok (.aload_n 0, 1) := by decide +kernel
theorem dX1_moveDownOrOut_26 : decode cX1_moveDownOrOut 26 = .ok (.getfield 15, 3) := by decide +kernel
theorem dX1_moveDownOrOut_29 : decode cX1_moveDownOrOut 29 = .ok (.getfield 25, 3) := by decide +kernel
theorem dX1_moveDownOrOut_32 : decode cX1_moveDownOrOut 32 = .ok (.iload_n 1, 1) := by decide +kernel
theorem dX1_moveDownOrOut_33 : decode cX1_moveDownOrOut 33 = .ok (.iaload, 1) := by decide +kernel
theorem dX1_moveDownOrOut_34 : decode cX1_moveDownOrOut 34 = .ok (.invokevirtual 28, 3) := by decide +kernel
theorem dX1_moveDownOrOut_37 : decode cX1_moveDownOrOut 37 = .ok (.if_icmp .ge 16, 3) := by decide +kernel
theorem dX1_moveDownOrOut_40 : decode cX1_moveDownOrOut 40 = .ok (.aload_n 0, 1) := by decide +kernel
theorem dX1_moveDownOrOut_41 : decode cX1_moveDownOrOut 41 = .ok (.getfield 15, 3) := by decide +kernel
theorem dX1_moveDownOrOut_44 : decode cX1_moveDownOrOut 44 = .ok (.iload_n 1, 1) := by decide +kernel
theorem dX1_moveDownOrOut_45 : decode cX1_moveDownOrOut 45 = .ok (.iload_n 2, 1) := by decide +kernel
theorem dX1_moveDownOrOut_46 : decode cX1_moveDownOrOut 46 = .ok (.iload_n 3, 1) := by decide +kernel
theorem dX1_moveDownOrOut_47 : decode cX1_moveDownOrOut 47 = .ok (.invokevirtual 92, 3) := by decide +kernel
theorem dX1_moveDownOrOut_50 : decode cX1_moveDownOrOut 50 = .ok (.goto 11, 3) := by decide +kernel
theorem dX1_moveDownOrOut_53 : decode cX1_moveDownOrOut 53 = .ok (.aload_n 0, 1) := by decide +kernel
theorem dX1_moveDownOrOut_54 : decode cX1_moveDownOrOut 54 = .ok (.getfield 15, 3) := by decide +kernel
theorem dX1_moveDownOrOut_57 : decode cX1_moveDownOrOut 57 = .ok (.iload_n 1, 1) := by decide +kernel
theorem dX1_moveDownOrOut_58 : decode cX1_moveDownOrOut 58 = .ok (.invokevirtual 106, 3) := by decide +kernel
theorem dX1_moveDownOrOut_61 : decode cX1_moveDownOrOut 61 = .ok (.return_, 1) := by decide +kernel
theorem dX1_lowestFree_0 : decode cX1_lowestFree 0 = .ok (.iconst (-1), 1) := by decide +kernel
theorem dX1_lowestFree_1 : decode cX1_lowestFree 1 = .ok (.istore_n 2, 1) := by decide +kernel
theorem dX1_lowestFree_2 : decode cX1_lowestFree 2 = .ok (.iconst 0, 1) := by decide +kernel
theorem dX1_lowestFree_3 : decode cX1_lowestFree 3 = .ok (.istore_n 3, 1) := by decide +kernel
theorem dX1_lowestFree_4 : decode cX1_lowestFree 4 = .ok (.iload_n 3, 1) := by decide +kernel
theorem dX1_lowestFree_5 : decode cX1_lowestFree 5 = .ok (.aload_n 0, 1) := by decide +kernel
theorem dX1_lowestFree_6 : decode cX1_lowestFree 6 = .ok (.getfield 9, 3) := by decide +kernel
theorem dX1_lowestFree_9 : decode cX1_lowestFree 9 = .ok (.iload_n 1, 1) := by decide +kernel
theorem dX1_lowestFree_10 : decode cX1_lowestFree 10 = .ok (.invokevirtual 110, 3) := by decide +kernel
theorem dX1_lowestFree_13 : decode cX1_lowestFree 13 = .ok (.if_icmp .ge 62, 3) := by decide +kernel
theorem dX1_lowestFree_16 : decode cX1_lowestFree 16 = .ok (.iload_n 2, 1) := by decide +kernel
theorem dX1_lowestFree_17 : decode cX1_lowestFree 17 = .ok (.iconst (-1), 1) := by decide +kernel
theorem dX1_lowestFree_18 : decode cX1_lowestFree 18 = .ok (.if_icmp .eq 24, 3) := by decide +kernel
theorem dX1_lowestFree_21 : decode cX1_lowestFree 21 = .ok (.aload_n 0, 1) := by decide +kernel
theorem dX1_lowestFree_22 : decode cX1_lowestFree 22 = .ok (.getfield 9, 3) := by decide +kernel
theorem dX1_lowestFree_25 : decode cX1_lowestFree 25 = .ok (.iload_n 1, 1) := by decide +kernel
theorem dX1_lowestFree_26 : decode cX1_lowestFree 26 = .ok (.iload_n 3, 1) := by decide +kernel
theorem dX1_lowestFree_27 : decode cX1_lowestFree 27 = .ok (.invokevirtual 28, 3) := by decide +kernel
theorem dX1_lowestFree_30 : decode cX1_lowestFree 30 = .ok (.aload_n 0, 1) := by decide +kernel
theorem dX1_lowestFree_31 : decode cX1_lowestFree 31 = .ok (.getfield 9, 3) := by decide +kernel
theorem dX1_lowestFree_34 : decode cX1_lowestFree 34 = .ok (.iload_n 1, 1) := by decide +kernel
theorem dX1_lowestFree_35 : decode cX1_lowestFree 35 = .ok (.iload_n 2, 1) := by decide +kernel
theorem dX1_lowestFree_36 : decode cX1_lowestFree 36 = .ok (.invokevirtual 28, 3) := by decide +kernel
theorem dX1_lowestFree_39 : decode cX1_lowestFree 39 = .ok (.if_icmp .ge 7, 3) := by decide +kernel
theorem dX1_lowestFree_42 : decode cX1_lowestFree 42 = .ok (.iconst 1, 1) := by decide +kernel
theorem dX1_lowestFree_43 : decode cX1_lowestFree 43 = .ok (.goto 4, 3) := by decide +kernel
theorem dX1_lowestFree_46 : decode cX1_lowestFree 46 = .ok (.iconst 0, 1) := by decide +kernel
theorem dX1_lowestFree_47 : decode cX1_lowestFree 47 = .ok (.istore 4, 2) := by decide +kernel
theorem dX1_lowestFree_49 : decode cX1_lowestFree 49 = .ok (.iload 4, 2) := by decide +kernel
theorem dX1_lowestFree_51 : decode cX1_lowestFree 51 = .ok (.ifCond .eq 18, 3) := by decide +kernel
theorem dX1_lowestFree_54 : decode cX1_lowestFree 54 = .ok (.aload_n 0, 1) := by decide +kernel
theorem dX1_lowestFree_55 : decode cX1_lowestFree 55 = .ok (.getfield 15, 3) := by decide +kernel
theorem dX1_lowestFree_58 : decode cX1_lowestFree 58 = .ok (.iload_n 1, 1) := by decide +kernel
theorem dX1_lowestFree_59 : decode cX1_lowestFree 59 = .ok (.iload_n 3, 1) := by decide +kernel
theorem dX1_lowestFree_60 : decode cX1_lowestFree 60 = .ok (.invokevirtual 113, 3) := by decide +kernel
theorem dX1_lowestFree_63 : decode cX1_lowestFree 63 = .ok (.iconst (-1), 1) := by decide +kernel
theorem dX1_lowestFree_64 : decode cX1_lowestFree 64 = .ok (.if_icmp .ne 5, 3) := by decide +kernel
theorem dX1_lowestFree_67 : decode cX1_lowestFree 67 = .ok (.iload_n 3, 1) := by decide +kernel
theorem dX1_lowestFree_68 : decode cX1_lowestFree 68 = .ok (.istore_n 2, 1) := by decide +kernel
theorem dX1_lowestFree_69 : decode cX1_lowestFree 69 = .ok (.iinc 3 1, 3) := by decide +kernel
theorem dX1_lowestFree_72 : decode cX1_lowestFree 72 = .ok (.goto (-68), 3) := by decide +kernel
theorem dX1_lowestFree_75 : decode cX1_lowestFree 75 = .ok (.iload_n 2, 1) := by decide +kernel
theorem dX1_lowestFree_76 : decode cX1_lowestFree 76 = .ok (.ireturn, 1) := by decide +kernel
theorem dX1_inchesToCut_0 : decode cX1_inchesToCut 0 = .ok (.aload_n 0, 1) := by decide +kernel
theorem dX1_inchesToCut_1 : decode cX1_inchesToCut 1 = .ok (.getfield 15, 3) := by decide +kernel
theorem dX1_inchesToCut_4 : decode cX1_inchesToCut 4 = .ok (.iload_n 1, 1) := by decide +kernel
theorem dX1_inchesToCut_5 : decode cX1_inchesToCut 5 = .ok (.invokevirtual 74, 3) := by decide +kernel
theorem dX1_inchesToCut_8 : decode cX1_inchesToCut 8 = .ok (.istore_n 2, 1) := by decide +kernel
theorem dX1_inchesToCut_9 : decode cX1_inchesToCut 9 = .ok (.aload_n 0, 1) := by decide +kernel
theorem dX1_inchesToCut_10 : decode cX1_inchesToCut 10 = .ok (.getfield 15, 3) := by decide +kernel
theorem dX1_inchesToCut_13 : decode cX1_inchesToCut 13 = .ok (.iload_n 2, 1) := by decide +kernel
theorem dX1_inchesToCut_14 : decode cX1_inchesToCut 14 = .ok (.invokevirtual 50, 3) := by decide +kernel
theorem dX1_inchesToCut_17 : decode cX1_inchesToCut 17 = .ok (.istore_n 3, 1) := by decide +kernel
theorem dX1_inchesToCut_18 : decode cX1_inchesToCut 18 = .ok (.iload_n 3, 1) := by decide +kernel
theorem dX1_inchesToCut_19 : decode cX1_inchesToCut 19 = .ok (.iconst (-1), 1) := by decide +kernel
theorem dX1_inchesToCut_20 : decode cX1_inchesToCut 20 = .ok (.if_icmp .ne 5, 3) := by decide +kernel
theorem dX1_inchesToCut_23 : decode cX1_inchesToCut 23 = .ok (.iconst 0, 1) := by decide +kernel
theorem dX1_inchesToCut_24 : decode cX1_inchesToCut 24 = .ok (.ireturn, 1) := by decide +kernel
theorem dX1_inchesToCut_25 : decode cX1_inchesToCut 25 = .ok (.aload_n 0, 1) := by decide +kernel
theorem dX1_inchesToCut_26 : decode cX1_inchesToCut 26 = .ok (.iload_n 3, 1) := by decide +kernel
theorem dX1_inchesToCut_27 : decode cX1_inchesToCut 27 = .ok (.invokevirtual 77, 3) := by decide +kernel
theorem dX1_inchesToCut_30 : decode cX1_inchesToCut 30 = .ok (.istore 4, 2) := by decide +kernel
theorem dX1_inchesToCut_32 : decode cX1_inchesToCut 32 = .ok (.iconst 0, 1) := by decide +kernel
theorem dX1_inchesToCut_33 : decode cX1_inchesToCut 33 = .ok (.istore 5, 2) := by decide +kernel
theorem dX1_inchesToCut_35 : decode cX1_inchesToCut 35 = .ok (.iconst 1, 1) := by decide +kernel
theorem dX1_inchesToCut_36 : decode cX1_inchesToCut 36 = .ok (.istore 6, 2) := by decide +kernel
theorem dX1_inchesToCut_38 : decode cX1_inchesToCut 38 = .ok (.iload 6, 2) := by decide +kernel
theorem dX1_inchesToCut_40 : decode cX1_inchesToCut 40 = .ok (.bipush 6, 2) := by decide +kernel
theorem dX1_inchesToCut_42 : decode cX1_inchesToCut 42 = .ok (.if_icmp .ge 74, 3) := by decide +kernel
theorem dX1_inchesToCut_45 : decode cX1_inchesToCut 45 = .ok (.iload_n 2, 1) := by decide +kernel
theorem dX1_inchesToCut_46 : decode cX1_inchesToCut 46 = .ok (.iconst 1, 1) := by decide +kernel
theorem dX1_inchesToCut_47 : decode cX1_inchesToCut 47 = .ok (.iload_n 3, 1) := by decide +kernel
theorem dX1_inchesToCut_48 : decode cX1_inchesToCut 48 = .ok (.ishl, 1) := by decide +kernel
theorem dX1_inchesToCut_49 : decode cX1_inchesToCut 49 = .ok (.iconst (-1), 1) := by decide +kernel
theorem dX1_inchesToCut_50 : decode cX1_inchesToCut 50 = .ok (.ixor, 1) := by decide +kernel
theorem dX1_inchesToCut_51 : decode cX1_inchesToCut 51 = .ok (.iand, 1) := by decide +kernel
theorem dX1_inchesToCut_52 : decode cX1_inchesToCut 52 = .ok (.istore_n 2, 1) := by decide +kernel
theorem dX1_inchesToCut_53 : decode cX1_inchesToCut 53 = .ok (.aload_n 0, 1) := by decide +kernel
theorem dX1_inchesToCut_54 : decode cX1_inchesToCut 54 = .ok (.getfield 15, 3) := by decide +kernel
theorem dX1_inchesToCut_57 : decode cX1_inchesToCut 57 = .ok (.iload_n 2, 1) := by decide +kernel
theorem dX1_inchesToCut_58 : decode cX1_inchesToCut 58 = .ok (.invokevirtual 50, 3) := by decide +kernel
theorem dX1_inchesToCut_61 : decode cX1_inchesToCut 61 = .ok (.istore_n 3, 1) := by decide +kernel
theorem dX1_inchesToCut_62 : decode cX1_inchesToCut 62 = .ok (.iload_n 3, 1) := by decide +kernel
theorem dX1_inchesToCut_63 : decode cX1_inchesToCut 63 = .ok (.iconst (-1), 1) := by decide +kernel
theorem dX1_inchesToCut_64 : decode cX1_inchesToCut 64 = .ok (.if_icmp .ne 6, 3) := by decide +kernel
theorem dX1_inchesToCut_67 : decode cX1_inchesToCut 67 = .ok (.goto 49, 3) := by decide +kernel
theorem dX1_inchesToCut_70 : decode cX1_inchesToCut 70 = .ok (.iload 5, 2) := by decide +kernel
theorem dX1_inchesToCut_72 : decode cX1_inchesToCut 72 = .ok (.iconst 0, 1) := by decide +kernel
theorem dX1_inchesToCut_73 : decode cX1_inchesToCut 73 = .ok (.aload_n 0, 1) := by decide +kernel
theorem dX1_inchesToCut_74 : decode cX1_inchesToCut 74 = .ok (.iload_n 3, 1) := by decide +kernel
theorem dX1_inchesToCut_75 : decode cX1_inchesToCut 75 = .ok (.invokevirtual 77, 3) := by decide +kernel
theorem dX1_inchesToCut_78 : decode cX1_inchesToCut 78 = .ok (.aload_n 0, 1) := by decide +kernel
theorem dX1_inchesToCut_79 : decode cX1_inchesToCut 79 = .ok (.getfield 9, 3) := by decide +kernel
theorem dX1_inchesToCut_82 : decode cX1_inchesToCut 82 = .ok (.getfield 80, 3) := by decide +kernel
theorem dX1_inchesToCut_85 : decode cX1_inchesToCut 85 = .ok (.iload_n 3, 1) := by decide +kernel
theorem dX1_inchesToCut_86 : decode cX1_inchesToCut 86 = .ok (.iaload, 1) := by decide +kernel
theorem dX1_inchesToCut_87 : decode cX1_inchesToCut 87 = .ok (.isub, 1) := by decide +kernel
theorem dX1_inchesToCut_88 : decode cX1_inchesToCut 88 = .ok (.iload 4, 2) := by decide +kernel
theorem dX1_inchesToCut_90 : decode cX1_inchesToCut 90 = .ok (.isub, 1) := by decide +kernel
theorem dX1_inchesToCut_91 : decode cX1_inchesToCut 91 = .ok (.invokestatic 57, 3) := by decide +kernel
theorem dX1_inchesToCut_94 : decode cX1_inchesToCut 94 = .ok (.iadd, 1) := by decide +kernel
theorem dX1_inchesToCut_95 : decode cX1_inchesToCut 95 = .ok (.istore 5, 2) := by decide +kernel
theorem dX1_inchesToCut_97 : decode cX1_inchesToCut 97 = .ok (.aload_n 0, 1) := by decide +kernel
theorem dX1_inchesToCut_98 : decode cX1_inchesToCut 98 = .ok (.iload 4, 2) := by decide +kernel
theorem dX1_inchesToCut_100 : decode cX1_inchesToCut 100 = .ok (.aload_n 0, 1) := by decide +kernel
theorem dX1_inchesToCut_101 : decode cX1_inchesToCut 101 = .ok (.iload_n 3, 1) := by decide +kernel
theorem dX1_inchesToCut_102 : decode cX1_inchesToCut 102 = .ok (.invokevirtual 77, 3) := by decide +kernel
theorem dX1_inchesToCut_105 : decode cX1_inchesToCut 105 = .ok (.invokevirtual 86, 3) := by decide +kernel
theorem dX1_inchesToCut_108 : decode cX1_inchesToCut 108 = .ok (.istore 4, 2) := by decide +kernel
theorem dX1_inchesToCut_110 : decode cX1_inchesToCut 110 = .ok (.iinc 6 1, 3) := by decide +kernel
theorem dX1_inchesToCut_113 : decode cX1_inchesToCut 113 = .ok (.goto (-75), 3) := by decide +kernel
theorem dX1_inchesToCut_116 : decode cX1_inchesToCut 116 = .ok (.iload 5, 2) := by decide +kernel
theorem dX1_inchesToCut_118 : decode cX1_inchesToCut 118 = .ok (.ireturn, 1) := by decide +kernel
theorem dX1_passByDraw_0 : decode cX1_passByDraw 0 = .ok (.aload_n 0, 1) := by decide +kernel
theorem dX1_passByDraw_1 : decode cX1_passByDraw 1 = .ok (.aload_n 0, 1) := by decide +kernel
theorem dX1_passByDraw_2 : decode cX1_passByDraw 2 = .ok (.getfield 9, 3) := by decide +kernel
theorem dX1_passByDraw_5 : decode cX1_passByDraw 5 = .ok (.getfield 62, 3) := by decide +kernel
theorem dX1_passByDraw_8 : decode cX1_passByDraw 8 = .ok (.invokevirtual 116, 3) := by decide +kernel
theorem dX1_passByDraw_11 : decode cX1_passByDraw 11 = .ok (.istore_n 1, 1) := by decide +kernel
theorem dX1_passByDraw_12 : decode cX1_passByDraw 12 = .ok (.aload_n 0, 1) := by decide +kernel
theorem dX1_passByDraw_13 : decode cX1_passByDraw 13 = .ok (.getfield 15, 3) := by decide +kernel
theorem dX1_passByDraw_16 : decode cX1_passByDraw 16 = .ok (.getfield 19, 3) := by decide +kernel
theorem dX1_passByDraw_19 : decode cX1_passByDraw 19 = .ok (.iload_n 1, 1) := by decide +kernel
theorem dX1_passByDraw_20 : decode cX1_passByDraw 20 = .ok (.iaload, 1) := by decide +kernel
theorem dX1_passByDraw_21 : decode cX1_passByDraw 21 = .ok (.istore_n 2, 1) := by decide +kernel
theorem dX1_passByDraw_22 : decode cX1_passByDraw 22 = .ok (.iload_n 2, 1) := by decide +kernel
theorem dX1_passByDraw_23 : decode cX1_passByDraw 23 = .ok (.iconst (-1), 1) := by decide +kernel
theorem dX1_passByDraw_24 : decode cX1_passByDraw 24 = .ok (.if_icmp .eq 19, 3) := by decide +kernel
theorem dX1_passByDraw_27 : decode cX1_passByDraw 27 = .ok (.aload_n 0, 1) := by decide +kernel
theorem dX1_passByDraw_28 : decode cX1_passByDraw 28 = .ok (.getfield 15, 3) := by decide +kernel
theorem dX1_passByDraw_31 : decode cX1_passByDraw 31 = .ok (.iload_n 1, 1) := by decide +kernel
theorem dX1_passByDraw_32 : decode cX1_passByDraw 32 = .ok (.invokevirtual 106, 3) := by decide +kernel
theorem dX1_passByDraw_35 : decode cX1_passByDraw 35 = .ok (.aload_n 0, 1) := by decide +kernel
theorem dX1_passByDraw_36 : decode cX1_passByDraw 36 = .ok (.iload_n 2, 1) := by decide +kernel
theorem dX1_passByDraw_37 : decode cX1_passByDraw 37 = .ok (.invokevirtual 96, 3) := by decide +kernel
theorem dX1_passByDraw_40 : decode cX1_passByDraw 40 = .ok (.pop, 1) := by decide +kernel
theorem dX1_passByDraw_41 : decode cX1_passByDraw 41 = .ok (.iconst 0, 1) := by decide +kernel
theorem dX1_passByDraw_42 : decode cX1_passByDraw 42 = .ok (.ireturn, 1) := by decide +kernel
theorem dX1_passByDraw_43 : decode cX1_passByDraw 43 = .ok (.aload_n 0, 1) := by decide +kernel
theorem dX1_passByDraw_44 : decode cX1_passByDraw 44 = .ok (.aload_n 0, 1) := by decide +kernel
theorem dX1_passByDraw_45 : decode cX1_passByDraw 45 = .ok (.getfield 9, 3) := by decide +kernel
theorem dX1_passByDraw_48 : decode cX1_passByDraw 48 = .ok (.getfield 68, 3) := by decide +kernel
theorem dX1_passByDraw_51 : decode cX1_passByDraw 51 = .ok (.invokevirtual 116, 3) := by decide +kernel
theorem dX1_passByDraw_54 : decode cX1_passByDraw 54 = .ok (.istore_n 2, 1) := by decide +kernel
theorem dX1_passByDraw_55 : decode cX1_passByDraw 55 = .ok (.aload_n 0, 1) := by decide +kernel
theorem dX1_passByDraw_56 : decode cX1_passByDraw 56 = .ok (.aload_n 0, 1) := by decide +kernel
theorem dX1_passByDraw_57 : decode cX1_passByDraw 57 = .ok (.getfield 9, 3) := by decide +kernel
theorem dX1_passByDraw_60 : decode cX1_passByDraw 60 = .ok (.iload_n 2, 1) := by decide +kernel
theorem dX1_passByDraw_61 : decode cX1_passByDraw 61 = .ok (.invokevirtual 110, 3) := by decide +kernel
theorem dX1_passByDraw_64 : decode cX1_passByDraw 64 = .ok (.invokevirtual 116, 3) := by decide +kernel
theorem dX1_passByDraw_67 : decode cX1_passByDraw 67 = .ok (.istore_n 3, 1) := by decide +kernel
theorem dX1_passByDraw_68 : decode cX1_passByDraw 68 = .ok (.aload_n 0, 1) := by decide +kernel
theorem dX1_passByDraw_69 : decode cX1_passByDraw 69 = .ok (.getfield 15, 3) := by decide +kernel
theorem dX1_passByDraw_72 : decode cX1_passByDraw 72 = .ok (.iload_n 1, 1) := by decide +kernel
theorem dX1_passByDraw_73 : decode cX1_passByDraw 73 = .ok (.iload_n 2, 1) := by decide +kernel
theorem dX1_passByDraw_74 : decode cX1_passByDraw 74 = .ok (.iload_n 3, 1) := by decide +kernel
theorem dX1_passByDraw_75 : decode cX1_passByDraw 75 = .ok (.invokevirtual 119, 3) := by decide +kernel
theorem dX1_passByDraw_78 : decode cX1_passByDraw 78 = .ok (.ifCond .eq 13, 3) := by decide +kernel
theorem dX1_passByDraw_81 : decode cX1_passByDraw 81 = .ok (.aload_n 0, 1) := by decide +kernel
theorem dX1_passByDraw_82 : decode cX1_passByDraw 82 = .ok (.iload_n 1, 1) := by decide +kernel
theorem dX1_passByDraw_83 : decode cX1_passByDraw 83 = .ok (.iload_n 2, 1) := by decide +kernel
theorem dX1_passByDraw_84 : decode cX1_passByDraw 84 = .ok (.iload_n 3, 1) := by decide +kernel
theorem dX1_passByDraw_85 : decode cX1_passByDraw 85 = .ok (.invokevirtual 123, 3) := by decide +kernel
theorem dX1_passByDraw_88 : decode cX1_passByDraw 88 = .ok (.goto 4, 3) := by decide +kernel
theorem dX1_passByDraw_91 : decode cX1_passByDraw 91 = .ok (.iconst 0, 1) := by decide +kernel
theorem dX1_passByDraw_92 : decode cX1_passByDraw 92 = .ok (.ireturn, 1) := by decide +kernel
theorem dX1_drawOf_0 : decode cX1_drawOf 0 = .ok (.aload_n 0, 1) := by decide +kernel
theorem dX1_drawOf_1 : decode cX1_drawOf 1 = .ok (.getfield 15, 3) := by decide +kernel
theorem dX1_drawOf_4 : decode cX1_drawOf 4 = .ok (.aload_n 0, 1) := by decide +kernel
theorem dX1_drawOf_5 : decode cX1_drawOf 5 = .ok (.getfield 15, 3) := by decide +kernel
theorem dX1_drawOf_8 : decode cX1_drawOf 8 = .ok (.getfield 127, 3) := by decide +kernel
theorem dX1_drawOf_11 : decode cX1_drawOf 11 = .ok (.i2l, 1) := by decide +kernel
theorem dX1_drawOf_12 : decode cX1_drawOf 12 = .ok (.ldc2_w 130, 3) := by decide +kernel
theorem dX1_drawOf_15 : decode cX1_drawOf 15 = .ok (.lmul, 1) := by decide +kernel
theorem dX1_drawOf_16 : decode cX1_drawOf 16 = .ok (.ldc2_w 132, 3) := by decide +kernel
theorem dX1_drawOf_19 : decode cX1_drawOf 19 = .ok (.ladd, 1) := by decide +kernel
theorem dX1_drawOf_20 : decode cX1_drawOf 20 = .ok (.ldc2_w 134, 3) := by decide +kernel
theorem dX1_drawOf_23 : decode cX1_drawOf 23 = .ok (.land, 1) := by decide +kernel
theorem dX1_drawOf_24 : decode cX1_drawOf 24 = .ok (.l2i, 1) := by decide +kernel
theorem dX1_drawOf_25 : decode cX1_drawOf 25 = .ok (.putfield 127, 3) := by decide +kernel
theorem dX1_drawOf_28 : decode cX1_drawOf 28 = .ok (.iload_n 1, 1) := by decide +kernel
theorem dX1_drawOf_29 : decode cX1_drawOf 29 = .ok (.ifCond .le 18, 3) := by decide +kernel
theorem dX1_drawOf_32 : decode cX1_drawOf 32 = .ok (.aload_n 0, 1) := by decide +kernel
theorem dX1_drawOf_33 : decode cX1_drawOf 33 = .ok (.getfield 15, 3) := by decide +kernel
theorem dX1_drawOf_36 : decode cX1_drawOf 36 = .ok (.getfield 127, 3) := by decide +kernel
theorem dX1_drawOf_39 : decode cX1_drawOf 39 = .ok (.ldc 136, 2) := by decide +kernel
theorem dX1_drawOf_41 : decode cX1_drawOf 41 = .ok (.idiv, 1) := by decide +kernel
theorem dX1_drawOf_42 : decode cX1_drawOf 42 = .ok (.iload_n 1, 1) := by decide +kernel
theorem dX1_drawOf_43 : decode cX1_drawOf 43 = .ok (.irem, 1) := by decide +kernel
theorem dX1_drawOf_44 : decode cX1_drawOf 44 = .ok (.goto 4, 3) := by decide +kernel
theorem dX1_drawOf_47 : decode cX1_drawOf 47 = .ok (.iconst 0, 1) := by decide +kernel
theorem dX1_drawOf_48 : decode cX1_drawOf 48 = .ok (.ireturn, 1) := by decide +kernel
theorem dX2_init_0 : decode cX2_init 0 = .ok (.aload_n 0, 1) := by decide +kernel
theorem dX2_init_1 : decode cX2_init 1 = .ok (.invokespecial 3, 3) := by decide +kernel
theorem dX2_init_4 : decode cX2_init 4 = .ok (.aload_n 0, 1) := by decide +kernel
theorem dX2_init_5 : decode cX2_init 5 = .ok (.iconst 3, 1) := by decide +kernel
theorem dX2_init_6 : decode cX2_init 6 = .ok (.newarray .int, 2) := by decide +kernel
theorem dX2_init_8 : decode cX2_init 8 = .ok (.putfield 9, 3) := by decide +kernel
theorem dX2_init_11 : decode cX2_init 11 = .ok (.aload_n 0, 1) := by decide +kernel
theorem dX2_init_12 : decode cX2_init 12 = .ok (.iconst 3, 1) := by decide +kernel
theorem dX2_init_13 : decode cX2_init 13 = .ok (.newarray .int, 2) := by decide +kernel
theorem dX2_init_15 : decode cX2_init 15 = .ok (.putfield 15, 3) := by decide +kernel
theorem dX2_init_18 : decode cX2_init 18 = .ok (.aload_n 0, 1) := by decide +kernel
theorem dX2_init_19 : decode cX2_init 19 = .ok (.aload_n 1, 1) := by decide +kernel
theorem dX2_init_20 : decode cX2_init 20 = .ok (.putfield 18, 3) := by decide +kernel
theorem dX2_init_23 : decode cX2_init 23 = .ok (.aload_n 0, 1) := by decide +kernel
theorem dX2_init_24 : decode cX2_init 24 = .ok (.aload_n 2, 1) := by decide +kernel
theorem dX2_init_25 : decode cX2_init 25 = .ok (.putfield 22, 3) := by decide +kernel
theorem dX2_init_28 : decode cX2_init 28 = .ok (.return_, 1) := by decide +kernel
theorem dX2_findDeal_0 : decode cX2_findDeal 0 = .ok (.aload_n 0, 1) := by decide +kernel
theorem dX2_findDeal_1 : decode cX2_findDeal 1 = .ok (.iconst 0, 1) := by decide +kernel
theorem dX2_findDeal_2 : decode cX2_findDeal 2 = .ok (.putfield 26, 3) := by decide +kernel
theorem dX2_findDeal_5 : decode cX2_findDeal 5 = .ok (.iconst 0, 1) := by decide +kernel
theorem dX2_findDeal_6 : decode cX2_findDeal 6 = .ok (.istore_n 2, 1) := by decide +kernel
theorem dX2_findDeal_7 : decode cX2_findDeal 7 = .ok (.iload_n 2, 1) := by decide +kernel
theorem dX2_findDeal_8 : decode cX2_findDeal 8 = .ok (.iconst 3, 1) := by decide +kernel
theorem dX2_findDeal_9 : decode cX2_findDeal 9 = .ok (.if_icmp .ge 16, 3) := by decide +kernel
theorem dX2_findDeal_12 : decode cX2_findDeal 12 = .ok (.aload_n 0, 1) := by decide +kernel
theorem dX2_findDeal_13 : decode cX2_findDeal 13 = .ok (.getfield 9, 3) := by decide +kernel
theorem dX2_findDeal_16 : decode cX2_findDeal 16 = .ok (.iload_n 2, 1) := by decide +kernel
theorem dX2_findDeal_17 : decode cX2_findDeal 17 = .ok (.iconst 0, 1) := by decide +kernel
theorem dX2_findDeal_18 : decode cX2_findDeal 18 = .ok (.iastore, 1) := by decide +kernel
theorem dX2_findDeal_19 : decode cX2_findDeal 19 = .ok (.iinc 2 1, 3) := by decide +kernel
theorem dX2_findDeal_22 : decode cX2_findDeal 22 = .ok (.goto (-15), 3) := by decide +kernel
theorem dX2_findDeal_25 : decode cX2_findDeal 25 = .ok (.aload_n 0, 1) := by decide +kernel
theorem dX2_findDeal_26 : decode cX2_findDeal 26 = .ok (.getfield 22, 3) := by decide +kernel
theorem dX2_findDeal_29 : decode cX2_findDeal 29 = .ok (.iload_n 1, 1) := by decide +kernel
theorem dX2_findDeal_30 : decode cX2_findDeal 30 = .ok (.invokevirtual 30, 3) := by decide +kernel
theorem dX2_findDeal_33 : decode cX2_findDeal 33 = .ok (.aload_n 0, 1) := by decide +kernel
theorem dX2_findDeal_34 : decode cX2_findDeal 34 = .ok (.iconst 0, 1) := by decide +kernel
theorem dX2_findDeal_35 : decode cX2_findDeal 35 = .ok (.iload_n 1, 1) := by decide +kernel
theorem dX2_findDeal_36 : decode cX2_findDeal 36 = .ok (.iconst 0, 1) := by decide +kernel
theorem dX2_findDeal_37 : decode cX2_findDeal 37 = .ok (.invokevirtual 36, 3) := by decide +kernel
theorem dX2_findDeal_40 : decode cX2_findDeal 40 = .ok (.aload_n 0, 1) := by decide +kernel
theorem dX2_findDeal_41 : decode cX2_findDeal 41 = .ok (.getfield 26, 3) := by decide +kernel
theorem dX2_findDeal_44 : decode cX2_findDeal 44 = .ok (.ireturn, 1) := by decide +kernel
theorem dX2_roomFor_0 : decode cX2_roomFor 0 = .ok (.iconst 0, 1) := by decide +kernel
theorem dX2_roomFor_1 : decode cX2_roomFor 1 = .ok (.istore_n 2, 1) := by decide +kernel
theorem dX2_roomFor_2 : decode cX2_roomFor 2 = .ok (.iload_n 2, 1) := by decide +kernel
theorem dX2_roomFor_3 : decode cX2_roomFor 3 = .ok (.aload_n 0, 1) := by decide +kernel
theorem dX2_roomFor_4 : decode cX2_roomFor 4 = .ok (.getfield 18, 3) := by decide +kernel
theorem dX2_roomFor_7 : decode cX2_roomFor 7 = .ok (.getfield 40, 3) := by decide +kernel
theorem dX2_roomFor_10 : decode cX2_roomFor 10 = .ok (.if_icmp .ge 24, 3) := by decide +kernel
theorem dX2_roomFor_13 : decode cX2_roomFor 13 = .ok (.aload_n 0, 1) := by decide +kernel
theorem dX2_roomFor_14 : decode cX2_roomFor 14 = .ok (.getfield 15, 3) := by decide +kernel
theorem dX2_roomFor_17 : decode cX2_roomFor 17 = .ok (.iload_n 2, 1) := by decide +kernel
theorem dX2_roomFor_18 : decode cX2_roomFor 18 = .ok (.iaload, 1) := by decide +kernel
theorem dX2_roomFor_19 : decode cX2_roomFor 19 = .ok (.iload_n 1, 1) := by decide +kernel
theorem dX2_roomFor_20 : decode cX2_roomFor 20 = .ok (.ishr, 1) := by decide +kernel
theorem dX2_roomFor_21 : decode cX2_roomFor 21 = .ok (.iconst 1, 1) := by decide +kernel
theorem dX2_roomFor_22 : decode cX2_roomFor 22 = .ok (.iand, 1) := by decide +kernel
theorem dX2_roomFor_23 : decode cX2_roomFor 23 = .ok (.ifCond .eq 5, 3) := by decide +kernel
theorem dX2_roomFor_26 : decode cX2_roomFor 26 = .ok (.iload_n 2, 1) := by decide +kernel
theorem dX2_roomFor_27 : decode cX2_roomFor 27 = .ok (.ireturn, 1) := by decide +kernel
theorem dX2_roomFor_28 : decode cX2_roomFor 28 = .ok (.iinc 2 1, 3) := by decide +kernel
theorem dX2_roomFor_31 : decode cX2_roomFor 31 = .ok (.goto (-29), 3) := by decide +kernel
theorem dX2_roomFor_34 : decode cX2_roomFor 34 = .ok (.iconst (-1), 1) := by decide +kernel
theorem dX2_roomFor_35 : decode cX2_roomFor 35 = .ok (.ireturn, 1) := by decide +kernel
theorem dX2_dealFrom_0 : decode cX2_dealFrom 0 = .ok (.iload_n 1, 1) := by decide +kernel
theorem dX2_dealFrom_1 : decode cX2_dealFrom 1 = .ok (.aload_n 0, 1) := by decide +kernel
theorem dX2_dealFrom_2 : decode cX2_dealFrom 2 = .ok (.getfield 18, 3) := by decide +kernel
theorem dX2_dealFrom_5 : decode cX2_dealFrom 5 = .ok (.getfield 46, 3) := by decide +kernel
theorem dX2_dealFrom_8 : decode cX2_dealFrom 8 = .ok (.if_icmp .lt 11, 3) := by decide +kernel
theorem dX2_dealFrom_11 : decode cX2_dealFrom 11 = .ok (.aload_n 0, 1) := by decide +kernel
theorem dX2_dealFrom_12 : decode cX2_dealFrom 12 = .ok (.iload_n 3, 1) := by decide +kernel
theorem dX2_dealFrom_13 : decode cX2_dealFrom 13 = .ok (.invokevirtual 49, 3) := by decide +kernel
theorem dX2_dealFrom_16 : decode cX2_dealFrom 16 = .ok (.goto 101, 3) := by decide +kernel
theorem dX2_dealFrom_19 : decode cX2_dealFrom 19 = .ok (.iload_n 2, 1) := by decide +kernel
theorem dX2_dealFrom_20 : decode cX2_dealFrom 20 = .ok (.iload_n 1, 1) := by decide +kernel
theorem dX2_dealFrom_21 : decode cX2_dealFrom 21 = .ok (.ishr, 1) := by decide +kernel
theorem dX2_dealFrom_22 : decode cX2_dealFrom 22 = .ok (.iconst 1, 1) := by decide +kernel
theorem dX2_dealFrom_23 : decode cX2_dealFrom 23 = .ok (.iand, 1) := by decide +kernel
theorem dX2_dealFrom_24 : decode cX2_dealFrom 24 = .ok (.ifCond .ne 15, 3) := by decide +kernel
theorem dX2_dealFrom_27 : decode cX2_dealFrom 27 = .ok (.aload_n 0, 1) := by decide +kernel
theorem dX2_dealFrom_28 : decode cX2_dealFrom 28 = .ok (.iload_n 1, 1) := by decide +kernel
theorem dX2_dealFrom_29 : decode cX2_dealFrom 29 = .ok (.iconst 1, 1) := by decide +kernel
theorem dX2_dealFrom_30 : decode cX2_dealFrom 30 = .ok (.iadd, 1) := by decide +kernel
theorem dX2_dealFrom_31 : decode cX2_dealFrom 31 = .ok (.iload_n 2, 1) := by decide +kernel
theorem dX2_dealFrom_32 : decode cX2_dealFrom 32 = .ok (.iload_n 3, 1) := by decide +kernel
theorem dX2_dealFrom_33 : decode cX2_dealFrom 33 = .ok (.invokevirtual 36, 3) := by decide +kernel
theorem dX2_dealFrom_36 : decode cX2_dealFrom 36 = .ok (.goto 81, 3) := by decide +kernel
theorem dX2_dealFrom_39 : decode cX2_dealFrom 39 = .ok (.iconst 0, 1) := by decide +kernel
theorem dX2_dealFrom_40 : decode cX2_dealFrom 40 = .ok (.istore 4, 2) := by decide +kernel
theorem dX2_dealFrom_42 : decode cX2_dealFrom 42 = .ok (.iload 4, 2) := by decide +kernel
theorem dX2_dealFrom_44 : decode cX2_dealFrom 44 = .ok (.aload_n 0, 1) := by decide +kernel
theorem dX2_dealFrom_45 : decode cX2_dealFrom 45 = .ok (.getfield 18, 3) := by decide +kernel
theorem dX2_dealFrom_48 : decode cX2_dealFrom 48 = .ok (.getfield 40, 3) := by decide +kernel
theorem dX2_dealFrom_51 : decode cX2_dealFrom 51 = .ok (.if_icmp .ge 66, 3) := by decide +kernel
theorem dX2_dealFrom_54 : decode cX2_dealFrom 54 = .ok (.aload_n 0, 1) := by decide +kernel
theorem dX2_dealFrom_55 : decode cX2_dealFrom 55 = .ok (.getfield 18, 3) := by decide +kernel
theorem dX2_dealFrom_58 : decode cX2_dealFrom 58 = .ok (.iload_n 1, 1) := by decide +kernel
theorem dX2_dealFrom_59 : decode cX2_dealFrom 59 = .ok (.aload_n 0, 1) := by decide +kernel
theorem dX2_dealFrom_60 : decode cX2_dealFrom 60 = .ok (.getfield 9, 3) := by decide +kernel
theorem dX2_dealFrom_63 : decode cX2_dealFrom 63 = .ok (.iload 4, 2) := by decide +kernel
theorem dX2_dealFrom_65 : decode cX2_dealFrom 65 = .ok (.iaload, 1) := by decide +kernel
theorem dX2_dealFrom_66 : decode cX2_dealFrom 66 = .ok (.invokevirtual 52, 3) := by decide +kernel
theorem dX2_dealFrom_69 : decode cX2_dealFrom 69 = .ok (.istore 5, 2) := by decide +kernel
theorem dX2_dealFrom_71 : decode cX2_dealFrom 71 = .ok (.aload_n 0, 1) := by decide +kernel
theorem dX2_dealFrom_72 : decode cX2_dealFrom 72 = .ok (.getfield 9, 3) := by decide +kernel
theorem dX2_dealFrom_75 : decode cX2_dealFrom 75 = .ok (.iload 4, 2) := by decide +kernel
theorem dX2_dealFrom_77 : decode cX2_dealFrom 77 = .ok (.dup2, 1) := by decide +kernel
theorem dX2_dealFrom_78 : decode cX2_dealFrom 78 = .ok (.iaload, 1) := by decide +kernel
theorem dX2_dealFrom_79 : decode cX2_dealFrom 79 = .ok (.iconst 1, 1) := by decide +kernel
theorem dX2_dealFrom_80 : decode cX2_dealFrom 80 = .ok (.iload_n 1, 1) := by decide +kernel
theorem dX2_dealFrom_81 : decode cX2_dealFrom 81 = .ok (.ishl, 1) := by decide +kernel
theorem dX2_dealFrom_82 : decode cX2_dealFrom 82 = .ok (.ior, 1) := by decide +kernel
theorem dX2_dealFrom_83 : decode cX2_dealFrom 83 = .ok (.iastore, 1) := by decide +kernel
theorem dX2_dealFrom_84 : decode cX2_dealFrom 84 = .ok (.aload_n 0, 1) := by decide +kernel
theorem dX2_dealFrom_85 : decode cX2_dealFrom 85 = .ok (.iload_n 1, 1) := by decide +kernel
theorem dX2_dealFrom_86 : decode cX2_dealFrom 86 = .ok (.iconst 1, 1) := by decide +kernel
theorem dX2_dealFrom_87 : decode cX2_dealFrom 87 = .ok (.iadd, 1) := by decide +kernel
theorem dX2_dealFrom_88 : decode cX2_dealFrom 88 = .ok (.iload_n 2, 1) := by decide +kernel
theorem dX2_dealFrom_89 : decode cX2_dealFrom 89 = .ok (.iload_n 3, 1) := by decide +kernel
theorem dX2_dealFrom_90 : decode cX2_dealFrom 90 = .ok (.iload 5, 2) := by decide +kernel
theorem dX2_dealFrom_92 : decode cX2_dealFrom 92 = .ok (.iadd, 1) := by decide +kernel
theorem dX2_dealFrom_93 : decode cX2_dealFrom 93 = .ok (.invokevirtual 36, 3) := by decide +kernel
theorem dX2_dealFrom_96 : decode cX2_dealFrom 96 = .ok (.aload_n 0, 1) := by decide +kernel
theorem dX2_dealFrom_97 : decode cX2_dealFrom 97 = .ok (.getfield 9, 3) := by decide +kernel
theorem dX2_dealFrom_100 : decode cX2_dealFrom 100 = .ok (.iload 4, 2) := by decide +kernel
theorem dX2_dealFrom_102 : decode cX2_dealFrom 102 = .ok (.dup2, 1) := by decide +kernel
theorem dX2_dealFrom_103 : decode cX2_dealFrom 103 = .ok (.iaload, 1) := by decide +kernel
theorem dX2_dealFrom_104 : decode cX2_dealFrom 104 = .ok (.iconst 1, 1) := by decide +kernel
theorem dX2_dealFrom_105 : decode cX2_dealFrom 105 = .ok (.iload_n 1, 1) := by decide +kernel
theorem dX2_dealFrom_106 : decode cX2_dealFrom 106 = .ok (.ishl, 1) := by decide +kernel
theorem dX2_dealFrom_107 : decode cX2_dealFrom 107 = .ok (.iconst (-1), 1) := by decide +kernel
theorem dX2_dealFrom_108 : decode cX2_dealFrom 108 = .ok (.ixor, 1) := by decide +kernel
theorem dX2_dealFrom_109 : decode cX2_dealFrom 109 = .ok (.iand, 1) := by decide +kernel
theorem dX2_dealFrom_110 : decode cX2_dealFrom 110 = .ok (.iastore, 1) := by decide +kernel
theorem dX2_dealFrom_111 : decode cX2_dealFrom 111 = .ok (.iinc 4 1, 3) := by decide +kernel
theorem dX2_dealFrom_114 : decode cX2_dealFrom 114 = .ok (.goto (-72), 3) := by decide +kernel
theorem dX2_dealFrom_117 : decode cX2_dealFrom 117 = .ok (.return_, 1) := by decide +kernel
theorem dX2_weigh_0 : decode cX2_weigh 0 = .ok (.iconst 0, 1) := by decide +kernel
theorem dX2_weigh_1 : decode cX2_weigh 1 = .ok (.istore_n 2, 1) := by decide +kernel
theorem dX2_weigh_2 : decode cX2_weigh 2 = .ok (.iconst 0, 1) := by decide +kernel
theorem dX2_weigh_3 : decode cX2_weigh 3 = .ok (.istore_n 3, 1) := by decide +kernel
theorem dX2_weigh_4 : decode cX2_weigh 4 = .ok (.iload_n 3, 1) := by decide +kernel
theorem dX2_weigh_5 : decode cX2_weigh 5 = .ok (.aload_n 0, 1) := by decide +kernel
theorem dX2_weigh_6 : decode cX2_weigh 6 = .ok (.getfield 18, 3) := by decide +kernel
theorem dX2_weigh_9 : decode cX2_weigh 9 = .ok (.getfield 40, 3) := by decide +kernel
theorem dX2_weigh_12 : decode cX2_weigh 12 = .ok (.if_icmp .ge 37, 3) := by decide +kernel
theorem dX2_weigh_15 : decode cX2_weigh 15 = .ok (.aload_n 0, 1) := by decide +kernel
theorem dX2_weigh_16 : decode cX2_weigh 16 = .ok (.getfield 22, 3) := by decide +kernel
theorem dX2_weigh_19 : decode cX2_weigh 19 = .ok (.iload_n 3, 1) := by decide +kernel
theorem dX2_weigh_20 : decode cX2_weigh 20 = .ok (.aload_n 0, 1) := by decide +kernel
theorem dX2_weigh_21 : decode cX2_weigh 21 = .ok (.getfield 9, 3) := by decide +kernel
theorem dX2_weigh_24 : decode cX2_weigh 24 = .ok (.iload_n 3, 1) := by decide +kernel
theorem dX2_weigh_25 : decode cX2_weigh 25 = .ok (.iaload, 1) := by decide +kernel
theorem dX2_weigh_26 : decode cX2_weigh 26 = .ok (.invokevirtual 56, 3) := by decide +kernel
theorem dX2_weigh_29 : decode cX2_weigh 29 = .ok (.istore 4, 2) := by decide +kernel
theorem dX2_weigh_31 : decode cX2_weigh 31 = .ok (.iload 4, 2) := by decide +kernel
theorem dX2_weigh_33 : decode cX2_weigh 33 = .ok (.iconst (-1), 1) := by decide +kernel
theorem dX2_weigh_34 : decode cX2_weigh 34 = .ok (.if_icmp .ne 4, 3) := by decide +kernel
theorem dX2_weigh_37 : decode cX2_weigh 37 = .ok (.return_, 1) := by decide +kernel
theorem dX2_weigh_38 : decode cX2_weigh 38 = .ok (.iload_n 2, 1) := by decide +kernel
theorem dX2_weigh_39 : decode cX2_weigh 39 = .ok (.iload 4, 2) := by decide +kernel
theorem dX2_weigh_41 : decode cX2_weigh 41 = .ok (.iadd, 1) := by decide +kernel
theorem dX2_weigh_42 : decode cX2_weigh 42 = .ok (.istore_n 2, 1) := by decide +kernel
theorem dX2_weigh_43 : decode cX2_weigh 43 = .ok (.iinc 3 1, 3) := by decide +kernel
theorem dX2_weigh_46 : decode cX2_weigh 46 = .ok (.goto (-42), 3) := by decide +kernel
theorem dX2_weigh_49 : decode cX2_weigh 49 = .ok (.iload_n 2, 1) := by decide +kernel
theorem dX2_weigh_50 : decode cX2_weigh 50 = .ok (.aload_n 0, 1) := by decide +kernel
theorem dX2_weigh_51 : decode cX2_weigh 51 = .ok (.getfield 59, 3) := by decide +kernel
theorem dX2_weigh_54 : decode cX2_weigh 54 = .ok (.if_icmp .lt 19, 3) := by decide +kernel
theorem dX2_weigh_57 : decode cX2_weigh 57 = .ok (.iload_n 2, 1) := by decide +kernel
theorem dX2_weigh_58 : decode cX2_weigh 58 = .ok (.aload_n 0, 1) := by decide +kernel
theorem dX2_weigh_59 : decode cX2_weigh 59 = .ok (.getfield 59, 3) := by decide +kernel
theorem dX2_weigh_62 : decode cX2_weigh 62 = .ok (.if_icmp .ne 15, 3) := by decide +kernel
theorem dX2_weigh_65 : decode cX2_weigh 65 = .ok (.iload_n 1, 1) := by decide +kernel
theorem dX2_weigh_66 : decode cX2_weigh 66 = .ok (.aload_n 0, 1) := by decide +kernel
theorem dX2_weigh_67 : decode cX2_weigh 67 = .ok (.getfield 62, 3) := by decide +kernel
theorem dX2_weigh_70 : decode cX2_weigh 70 = .ok (.if_icmp .le 7, 3) := by decide +kernel
theorem dX2_weigh_73 : decode cX2_weigh 73 = .ok (.iconst 1, 1) := by decide +kernel
theorem dX2_weigh_74 : decode cX2_weigh 74 = .ok (.goto 4, 3) := by decide +kernel
theorem dX2_weigh_77 : decode cX2_weigh 77 = .ok (.iconst 0, 1) := by decide +kernel
theorem dX2_weigh_78 : decode cX2_weigh 78 = .ok (.istore_n 3, 1) := by decide +kernel
theorem dX2_weigh_79 : decode cX2_weigh 79 = .ok (.aload_n 0, 1) := by decide +kernel
theorem dX2_weigh_80 : decode cX2_weigh 80 = .ok (.getfield 26, 3) := by decide +kernel
theorem dX2_weigh_83 : decode cX2_weigh 83 = .ok (.ifCond .eq 7, 3) := by decide +kernel
theorem dX2_weigh_86 : decode cX2_weigh 86 = .ok (.iload_n 3, 1) := by decide +kernel
theorem dX2_weigh_87 : decode cX2_weigh 87 = .ok (.ifCond .eq 29, 3) := by decide +kernel
theorem dX2_weigh_90 : decode cX2_weigh 90 = .ok (.aload_n 0, 1) := by decide +kernel
theorem dX2_weigh_91 : decode cX2_weigh 91 = .ok (.iconst 1, 1) := by decide +kernel
theorem dX2_weigh_92 : decode cX2_weigh 92 = .ok (.putfield 26, 3) := by decide +kernel
theorem dX2_weigh_95 : decode cX2_weigh 95 = .ok (.aload_n 0, 1) := by decide +kernel
theorem dX2_weigh_96 : decode cX2_weigh 96 = .ok (.iload_n 2, 1) := by decide +kernel
theorem dX2_weigh_97 : decode cX2_weigh 97 = .ok (.putfield 59, 3) := by decide +kernel
theorem dX2_weigh_100 : decode cX2_weigh 100 = .ok (.aload_n 0, 1) := by decide +kernel
theorem dX2_weigh_101 : decode cX2_weigh 101 = .ok (.iload_n 1, 1) := by decide +kernel
theorem dX2_weigh_102 : decode cX2_weigh 102 = .ok (.putfield 62, 3) := by decide +kernel
theorem dX2_weigh_105 : decode cX2_weigh 105 = .ok (.aload_n 0, 1) := by decide +kernel
theorem dX2_weigh_106 : decode cX2_weigh 106 = .ok (.getfield 9, 3) := by decide +kernel
theorem dX2_weigh_109 : decode cX2_weigh 109 = .ok (.aload_n 0, 1) := by decide +kernel
theorem dX2_weigh_110 : decode cX2_weigh 110 = .ok (.getfield 15, 3) := by decide +kernel
theorem dX2_weigh_113 : decode cX2_weigh 113 = .ok (.invokestatic 65, 3) := by decide +kernel
theorem dX2_weigh_116 : decode cX2_weigh 116 = .ok (.return_, 1) := by decide +kernel
