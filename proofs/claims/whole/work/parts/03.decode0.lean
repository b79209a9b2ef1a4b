theorem dJ0_length_8abf5_0 : decode cJ0_length_8abf5 0 = .ok (.aload_n 0, 1) := by decide +kernel
theorem dJ0_length_8abf5_1 : decode cJ0_length_8abf5 1 = .ok (.getfield 9, 3) := by decide +kernel
theorem dJ0_length_8abf5_4 : decode cJ0_length_8abf5 4 = .ok (.arraylength, 1) := by decide +kernel
theorem dJ0_length_8abf5_5 : decode cJ0_length_8abf5 5 = .ok (.aload_n 0, 1) := by decide +kernel
theorem dJ0_length_8abf5_6 : decode cJ0_length_8abf5 6 = .ok (.invokevirtual 335, 3) := by decide +kernel
theorem dJ0_length_8abf5_9 : decode cJ0_length_8abf5 9 = .ok (.ishr, 1) := by decide +kernel
theorem dJ0_length_8abf5_10 : decode cJ0_length_8abf5 10 = .ok (.ireturn, 1) := by decide +kernel
theorem dJ0_charAt_5068e_0 : decode cJ0_charAt_5068e 0 = .ok (.aload_n 0, 1) := by decide +kernel
theorem dJ0_charAt_5068e_1 : decode cJ0_charAt_5068e 1 = .ok (.invokevirtual 492, 3) := by decide +kernel
theorem dJ0_charAt_5068e_4 : decode cJ0_charAt_5068e 4 = .ok (.ifCond .eq 12, 3) := by decide +kernel
theorem dJ0_charAt_5068e_7 : decode cJ0_charAt_5068e 7 = .ok (.aload_n 0, 1) := by decide +kernel
theorem dJ0_charAt_5068e_8 : decode cJ0_charAt_5068e 8 = .ok (.getfield 9, 3) := by decide +kernel
theorem dJ0_charAt_5068e_11 : decode cJ0_charAt_5068e 11 = .ok (.iload_n 1, 1) := by decide +kernel
theorem dJ0_charAt_5068e_12 : decode cJ0_charAt_5068e 12 = .ok (.invokestatic 495, 3) := by decide +kernel
theorem dJ0_charAt_5068e_15 : decode cJ0_charAt_5068e 15 = .ok (.ireturn, 1) := by decide +kernel
theorem dJ0_charAt_5068e_16 : decode cJ0_charAt_5068e 16 = .ok (.aload_n 0, 1) := by decide +kernel
theorem dJ0_charAt_5068e_17 : decode cJ0_charAt_5068e 17 = .ok (.getfield 9, 3) := by decide +kernel
theorem dJ0_charAt_5068e_20 : decode cJ0_charAt_5068e 20 = .ok (.iload_n 1, 1) := by decide +kernel
theorem dJ0_charAt_5068e_21 : decode cJ0_charAt_5068e 21 = .ok (.invokestatic 498, 3) := by decide +kernel
theorem dJ0_charAt_5068e_24 : decode cJ0_charAt_5068e 24 = .ok (.ireturn, 1) := by decide +kernel
theorem dJ0_coder_7d493_0 : decode cJ0_coder_7d493 0 = .ok (.getstatic 38, 3) := by decide +kernel
theorem dJ0_coder_7d493_3 : decode cJ0_coder_7d493 3 = .ok (.ifCond .eq 10, 3) := by decide +kernel
theorem dJ0_coder_7d493_6 : decode cJ0_coder_7d493 6 = .ok (.aload_n 0, 1) := by decide +kernel
theorem dJ0_coder_7d493_7 : decode cJ0_coder_7d493 7 = .ok (.getfield 15, 3) := by decide +kernel
theorem dJ0_coder_7d493_10 : decode cJ0_coder_7d493 10 = .ok (.goto 4, 3) := by decide +kernel
theorem dJ0_coder_7d493_13 : decode cJ0_coder_7d493 13 = .ok (.iconst 1, 1) := by decide +kernel
theorem dJ0_coder_7d493_14 : decode cJ0_coder_7d493 14 = .ok (.ireturn, 1) := by decide +kernel
theorem dJ0_isLatin1_aae02_0 : decode cJ0_isLatin1_aae02 0 = .ok (.getstatic 38, 3) := by decide +kernel
theorem dJ0_isLatin1_aae02_3 : decode cJ0_isLatin1_aae02 3 = .ok (.ifCond .eq 14, 3) := by decide +kernel
theorem dJ0_isLatin1_aae02_6 : decode cJ0_isLatin1_aae02 6 = .ok (.aload_n 0, 1) := by decide +kernel
theorem dJ0_isLatin1_aae02_7 : decode cJ0_isLatin1_aae02 7 = .ok (.getfield 15, 3) := by decide +kernel
theorem dJ0_isLatin1_aae02_10 : decode cJ0_isLatin1_aae02 10 = .ok (.ifCond .ne 7, 3) := by decide +kernel
theorem dJ0_isLatin1_aae02_13 : decode cJ0_isLatin1_aae02 13 = .ok (.iconst 1, 1) := by decide +kernel
theorem dJ0_isLatin1_aae02_14 : decode cJ0_isLatin1_aae02 14 = .ok (.goto 4, 3) := by decide +kernel
theorem dJ0_isLatin1_aae02_17 : decode cJ0_isLatin1_aae02 17 = .ok (.iconst 0, 1) := by decide +kernel
theorem dJ0_isLatin1_aae02_18 : decode cJ0_isLatin1_aae02 18 = .ok (.ireturn, 1) := by decide +kernel
theorem dJ0_checkIndex_df160_0 : decode cJ0_checkIndex_df160 0 = .ok (.iload_n 0, 1) := by decide +kernel
theorem dJ0_checkIndex_df160_1 : decode cJ0_checkIndex_df160 1 = .ok (.iload_n 1, 1) := by decide +kernel
theorem dJ0_checkIndex_df160_2 : decode cJ0_checkIndex_df160 2 = .ok (.getstatic 1053, 3) := by decide +kernel
theorem dJ0_checkIndex_df160_5 : decode cJ0_checkIndex_df160 5 = .ok (.invokestatic 1059, 3) := by decide +kernel
theorem dJ0_checkIndex_df160_8 : decode cJ0_checkIndex_df160 8 = .ok (.pop, 1) := by decide +kernel
theorem dJ0_checkIndex_df160_9 : decode cJ0_checkIndex_df160 9 = .ok (.return_, 1) := by decide +kernel
theorem dJ1_charAt_3b067_0 : decode cJ1_charAt_3b067 0 = .ok (.iload_n 1, 1) := by decide +kernel
theorem dJ1_charAt_3b067_1 : decode cJ1_charAt_3b067 1 = .ok (.aload_n 0, 1) := by decide +kernel
theorem dJ1_charAt_3b067_2 : decode cJ1_charAt_3b067 2 = .ok (.arraylength, 1) := by decide +kernel
theorem dJ1_charAt_3b067_3 : decode cJ1_charAt_3b067 3 = .ok (.invokestatic 9, 3) := by decide +kernel
theorem dJ1_charAt_3b067_6 : decode cJ1_charAt_3b067 6 = .ok (.aload_n 0, 1) := by decide +kernel
theorem dJ1_charAt_3b067_7 : decode cJ1_charAt_3b067 7 = .ok (.iload_n 1, 1) := by decide +kernel
theorem dJ1_charAt_3b067_8 : decode cJ1_charAt_3b067 8 = .ok (.baload, 1) := by decide +kernel
theorem dJ1_charAt_3b067_9 : decode cJ1_charAt_3b067 9 = .ok (.sipush 255, 3) := by decide +kernel
theorem dJ1_charAt_3b067_12 : decode cJ1_charAt_3b067 12 = .ok (.iand, 1) := by decide +kernel
theorem dJ1_charAt_3b067_13 : decode cJ1_charAt_3b067 13 = .ok (.i2c, 1) := by decide +kernel
theorem dJ1_charAt_3b067_14 : decode cJ1_charAt_3b067 14 = .ok (.ireturn, 1) := by decide +kernel
theorem dJ2_getChar_3b067_0 : decode cJ2_getChar_3b067 0 = .ok (.getstatic 44, 3) := by decide +kernel
theorem dJ2_getChar_3b067_3 : decode cJ2_getChar_3b067 3 = .ok (.ifCond .ne 25, 3) := by decide +kernel
theorem dJ2_getChar_3b067_6 : decode cJ2_getChar_3b067 6 = .ok (.iload_n 1, 1) := by decide +kernel
theorem dJ2_getChar_3b067_7 : decode cJ2_getChar_3b067 7 = .ok (.ifCond .lt 11, 3) := by decide +kernel
theorem dJ2_getChar_3b067_10 : decode cJ2_getChar_3b067 10 = .ok (.iload_n 1, 1) := by decide +kernel
theorem dJ2_getChar_3b067_11 : decode cJ2_getChar_3b067 11 = .ok (.aload_n 0, 1) := by decide +kernel
theorem dJ2_getChar_3b067_12 : decode cJ2_getChar_3b067 12 = .ok (.invokestatic 48, 3) := by decide +kernel
theorem dJ2_getChar_3b067_15 : decode cJ2_getChar_3b067 15 = .ok (.if_icmp .lt 13, 3) := by decide +kernel
theorem dJ2_getChar_3b067_18 : decode cJ2_getChar_3b067 18 = .ok (.new 52, 3) := by decide +kernel
theorem dJ2_getChar_3b067_21 : decode cJ2_getChar_3b067 21 = .ok (.dup, 1) := by decide +kernel
theorem dJ2_getChar_3b067_22 : decode cJ2_getChar_3b067 22 = .ok (.ldc 54, 2) := by decide +kernel
theorem dJ2_getChar_3b067_24 : decode cJ2_getChar_3b067 24 = .ok (.invokespecial 56, 3) := by decide +kernel
theorem dJ2_getChar_3b067_27 : decode cJ2_getChar_3b067 27 = .ok (.athrow, 1) := by decide +kernel
theorem dJ2_getChar_3b067_28 : decode cJ2_getChar_3b067 28 = .ok (.iload_n 1, 1) := by decide +kernel
theorem dJ2_getChar_3b067_29 : decode cJ2_getChar_3b067 29 = .ok (.iconst 1, 1) := by decide +kernel
theorem dJ2_getChar_3b067_30 : decode cJ2_getChar_3b067 30 = .ok (.ishl, 1) := by decide +kernel
theorem dJ2_getChar_3b067_31 : decode cJ2_getChar_3b067 31 = .ok (.istore_n 1, 1) := by decide +kernel
theorem dJ2_getChar_3b067_32 : decode cJ2_getChar_3b067 32 = .ok (.aload_n 0, 1) := by decide +kernel
theorem dJ2_getChar_3b067_33 : decode cJ2_getChar_3b067 33 = .ok (.iload_n 1, 1) := by decide +kernel
theorem dJ2_getChar_3b067_34 : decode cJ2_getChar_3b067 34 = .ok (.iinc 1 1, 3) := by decide +kernel
theorem dJ2_getChar_3b067_37 : decode cJ2_getChar_3b067 37 = .ok (.baload, 1) := by decide +kernel
theorem dJ2_getChar_3b067_38 : decode cJ2_getChar_3b067 38 = .ok (.sipush 255, 3) := by decide +kernel
theorem dJ2_getChar_3b067_41 : decode cJ2_getChar_3b067 41 = .ok (.iand, 1) := by decide +kernel
theorem dJ2_getChar_3b067_42 : decode cJ2_getChar_3b067 42 = .ok (.getstatic 59, 3) := by decide +kernel
theorem dJ2_getChar_3b067_45 : decode cJ2_getChar_3b067 45 = .ok (.ishl, 1) := by decide +kernel
theorem dJ2_getChar_3b067_46 : decode cJ2_getChar_3b067 46 = .ok (.aload_n 0, 1) := by decide +kernel
theorem dJ2_getChar_3b067_47 : decode cJ2_getChar_3b067 47 = .ok (.iload_n 1, 1) := by decide +kernel
theorem dJ2_getChar_3b067_48 : decode cJ2_getChar_3b067 48 = .ok (.baload, 1) := by decide +kernel
theorem dJ2_getChar_3b067_49 : decode cJ2_getChar_3b067 49 = .ok (.sipush 255, 3) := by decide +kernel
theorem dJ2_getChar_3b067_52 : decode cJ2_getChar_3b067 52 = .ok (.iand, 1) := by decide +kernel
theorem dJ2_getChar_3b067_53 : decode cJ2_getChar_3b067 53 = .ok (.getstatic 63, 3) := by decide +kernel
theorem dJ2_getChar_3b067_56 : decode cJ2_getChar_3b067 56 = .ok (.ishl, 1) := by decide +kernel
theorem dJ2_getChar_3b067_57 : decode cJ2_getChar_3b067 57 = .ok (.ior, 1) := by decide +kernel
theorem dJ2_getChar_3b067_58 : decode cJ2_getChar_3b067 58 = .ok (.i2c, 1) := by decide +kernel
theorem dJ2_getChar_3b067_59 : decode cJ2_getChar_3b067 59 = .ok (.ireturn, 1) := by decide +kernel
theorem dJ2_length_9d52b_0 : decode cJ2_length_9d52b 0 = .ok (.aload_n 0, 1) := by decide +kernel
theorem dJ2_length_9d52b_1 : decode cJ2_length_9d52b 1 = .ok (.arraylength, 1) := by decide +kernel
theorem dJ2_length_9d52b_2 : decode cJ2_length_9d52b 2 = .ok (.iconst 1, 1) := by decide +kernel
theorem dJ2_length_9d52b_3 : decode cJ2_length_9d52b 3 = .ok (.ishr, 1) := by decide +kernel
theorem dJ2_length_9d52b_4 : decode cJ2_length_9d52b 4 = .ok (.ireturn, 1) := by decide +kernel
theorem dJ2_charAt_3b067_0 : decode cJ2_charAt_3b067 0 = .ok (.iload_n 1, 1) := by decide +kernel
theorem dJ2_charAt_3b067_1 : decode cJ2_charAt_3b067 1 = .ok (.aload_n 0, 1) := by decide +kernel
theorem dJ2_charAt_3b067_2 : decode cJ2_charAt_3b067 2 = .ok (.invokestatic 67, 3) := by decide +kernel
theorem dJ2_charAt_3b067_5 : decode cJ2_charAt_3b067 5 = .ok (.aload_n 0, 1) := by decide +kernel
theorem dJ2_charAt_3b067_6 : decode cJ2_charAt_3b067 6 = .ok (.iload_n 1, 1) := by decide +kernel
theorem dJ2_charAt_3b067_7 : decode cJ2_charAt_3b067 7 = .ok (.invokestatic 71, 3) := by decide +kernel
theorem dJ2_charAt_3b067_10 : decode cJ2_charAt_3b067 10 = .ok (.ireturn, 1) := by decide +kernel
theorem dJ2_checkIndex_2214a_0 : decode cJ2_checkIndex_2214a 0 = .ok (.iload_n 0, 1) := by decide +kernel
theorem dJ2_checkIndex_2214a_1 : decode cJ2_checkIndex_2214a 1 = .ok (.aload_n 1, 1) := by decide +kernel
theorem dJ2_checkIndex_2214a_2 : decode cJ2_checkIndex_2214a 2 = .ok (.invokestatic 48, 3) := by decide +kernel
theorem dJ2_checkIndex_2214a_5 : decode cJ2_checkIndex_2214a 5 = .ok (.invokestatic 414, 3) := by decide +kernel
theorem dJ2_checkIndex_2214a_8 : decode cJ2_checkIndex_2214a 8 = .ok (.return_, 1) := by decide +kernel
theorem dJ3_checkIndex_8e157_0 : decode cJ3_checkIndex_8e157 0 = .ok (.iload_n 0, 1) := by decide +kernel
theorem dJ3_checkIndex_8e157_1 : decode cJ3_checkIndex_8e157 1 = .ok (.ifCond .lt 8, 3) := by decide +kernel
theorem dJ3_checkIndex_8e157_4 : decode cJ3_checkIndex_8e157 4 = .ok (.iload_n 0, 1) := by decide +kernel
theorem dJ3_checkIndex_8e157_5 : decode cJ3_checkIndex_8e157 5 = .ok (.iload_n 1, 1) := by decide +kernel
theorem dJ3_checkIndex_8e157_6 : decode cJ3_checkIndex_8e157 6 = .ok (.if_icmp .lt 10, 3) := by decide +kernel
theorem dJ3_checkIndex_8e157_9 : decode cJ3_checkIndex_8e157 9 = .ok (.aload_n 2, 1) := by decide +kernel
theorem dJ3_checkIndex_8e157_10 : decode cJ3_checkIndex_8e157 10 = .ok (.iload_n 0, 1) := by decide +kernel
theorem dJ3_checkIndex_8e157_11 : decode cJ3_checkIndex_8e157 11 = .ok (.iload_n 1, 1) := by decide +kernel
theorem dJ3_checkIndex_8e157_12 : decode cJ3_checkIndex_8e157 12 = .ok (.invokestatic 95, 3) := by decide +kernel
theorem dJ3_checkIndex_8e157_15 : decode cJ3_checkIndex_8e157 15 = .ok (.athrow, 1) := by decide +kernel
theorem dJ3_checkIndex_8e157_16 : decode cJ3_checkIndex_8e157 16 = .ok (.iload_n 0, 1) := by decide +kernel
theorem dJ3_checkIndex_8e157_17 : decode cJ3_checkIndex_8e157 17 = .ok (.ireturn, 1) := by decide +kernel
theorem dJ6_bitCount_0f7a4_0 : decode cJ6_bitCount_0f7a4 0 = .ok (.iload_n 0, 1) := by decide +kernel
theorem dJ6_bitCount_0f7a4_1 : decode cJ6_bitCount_0f7a4 1 = .ok (.iload_n 0, 1) := by decide +kernel
theorem dJ6_bitCount_0f7a4_2 : decode cJ6_bitCount_0f7a4 2 = .ok (.iconst 1, 1) := by decide +kernel
theorem dJ6_bitCount_0f7a4_3 : decode cJ6_bitCount_0f7a4 3 = .ok (.iushr, 1) := by decide +kernel
theorem dJ6_bitCount_0f7a4_4 : decode cJ6_bitCount_0f7a4 4 = .ok (.ldc_w 265, 3) := by decide +kernel
theorem dJ6_bitCount_0f7a4_7 : decode cJ6_bitCount_0f7a4 7 = .ok (.iand, 1) := by decide +kernel
theorem dJ6_bitCount_0f7a4_8 : decode cJ6_bitCount_0f7a4 8 = .ok (.isub, 1) := by decide +kernel
theorem dJ6_bitCount_0f7a4_9 : decode cJ6_bitCount_0f7a4 9 = .ok (.istore_n 0, 1) := by decide +kernel
theorem dJ6_bitCount_0f7a4_10 : decode cJ6_bitCount_0f7a4 10 = .ok (.iload_n 0, 1) := by decide +kernel
theorem dJ6_bitCount_0f7a4_11 : decode cJ6_bitCount_0f7a4 11 = .ok (.ldc_w 266, 3) := by decide +kernel
theorem dJ6_bitCount_0f7a4_14 : decode cJ6_bitCount_0f7a4 14 = .ok (.iand, 1) := by decide +kernel
theorem dJ6_bitCount_0f7a4_15 : decode cJ6_bitCount_0f7a4 15 = .ok (.iload_n 0, 1) := by decide +kernel
theorem dJ6_bitCount_0f7a4_16 : decode cJ6_bitCount_0f7a4 16 = .ok (.iconst 2, 1) := by decide +kernel
theorem dJ6_bitCount_0f7a4_17 : decode cJ6_bitCount_0f7a4 17 = .ok (.iushr, 1) := by decide +kernel
theorem dJ6_bitCount_0f7a4_18 : decode cJ6_bitCount_0f7a4 18 = .ok (.ldc_w 266, 3) := by decide +kernel
theorem dJ6_bitCount_0f7a4_21 : decode cJ6_bitCount_0f7a4 21 = .ok (.iand, 1) := by decide +kernel
theorem dJ6_bitCount_0f7a4_22 : decode cJ6_bitCount_0f7a4 22 = .ok (.iadd, 1) := by decide +kernel
theorem dJ6_bitCount_0f7a4_23 : decode cJ6_bitCount_0f7a4 23 = .ok (.istore_n 0, 1) := by decide +kernel
theorem dJ6_bitCount_0f7a4_24 : decode cJ6_bitCount_0f7a4 24 = .ok (.iload_n 0, 1) := by decide +kernel
theorem dJ6_bitCount_0f7a4_25 : decode cJ6_bitCount_0f7a4 25 = .ok (.iload_n 0, 1) := by decide +kernel
theorem dJ6_bitCount_0f7a4_26 : decode cJ6_bitCount_0f7a4 26 = .ok (.iconst 4, 1) := by decide +kernel
theorem dJ6_bitCount_0f7a4_27 : decode cJ6_bitCount_0f7a4 27 = .ok (.iushr, 1) := by decide +kernel
theorem dJ6_bitCount_0f7a4_28 : decode cJ6_bitCount_0f7a4 28 = .ok (.iadd, 1) := by decide +kernel
theorem dJ6_bitCount_0f7a4_29 : decode cJ6_bitCount_0f7a4 29 = .ok (.ldc_w 267, 3) := by decide +kernel
theorem dJ6_bitCount_0f7a4_32 : decode cJ6_bitCount_0f7a4 32 = .ok (.iand, 1) := by decide +kernel
theorem dJ6_bitCount_0f7a4_33 : decode cJ6_bitCount_0f7a4 33 = .ok (.istore_n 0, 1) := by decide +kernel
theorem dJ6_bitCount_0f7a4_34 : decode cJ6_bitCount_0f7a4 34 = .ok (.iload_n 0, 1) := by decide +kernel
theorem dJ6_bitCount_0f7a4_35 : decode cJ6_bitCount_0f7a4 35 = .ok (.iload_n 0, 1) := by decide +kernel
theorem dJ6_bitCount_0f7a4_36 : decode cJ6_bitCount_0f7a4 36 = .ok (.bipush 8, 2) := by decide +kernel
theorem dJ6_bitCount_0f7a4_38 : decode cJ6_bitCount_0f7a4 38 = .ok (.iushr, 1) := by decide +kernel
theorem dJ6_bitCount_0f7a4_39 : decode cJ6_bitCount_0f7a4 39 = .ok (.iadd, 1) := by decide +kernel
theorem dJ6_bitCount_0f7a4_40 : decode cJ6_bitCount_0f7a4 40 = .ok (.istore_n 0, 1) := by decide +kernel
theorem dJ6_bitCount_0f7a4_41 : decode cJ6_bitCount_0f7a4 41 = .ok (.iload_n 0, 1) := by decide +kernel
theorem dJ6_bitCount_0f7a4_42 : decode cJ6_bitCount_0f7a4 42 = .ok (.iload_n 0, 1) := by decide +kernel
theorem dJ6_bitCount_0f7a4_43 : decode cJ6_bitCount_0f7a4 43 = .ok (.bipush 16, 2) := by decide +kernel
theorem dJ6_bitCount_0f7a4_45 : decode cJ6_bitCount_0f7a4 45 = .ok (.iushr, 1) := by decide +kernel
theorem dJ6_bitCount_0f7a4_46 : decode cJ6_bitCount_0f7a4 46 = .ok (.iadd, 1) := by decide +kernel
theorem dJ6_bitCount_0f7a4_47 : decode cJ6_bitCount_0f7a4 47 = .ok (.istore_n 0, 1) := by decide +kernel
theorem dJ6_bitCount_0f7a4_48 : decode cJ6_bitCount_0f7a4 48 = .ok (.iload_n 0, 1) := by decide +kernel
theorem dJ6_bitCount_0f7a4_49 : decode cJ6_bitCount_0f7a4 49 = .ok (.bipush 63, 2) := by decide +kernel
theorem dJ6_bitCount_0f7a4_51 : decode cJ6_bitCount_0f7a4 51 = .ok (.iand, 1) := by decide +kernel
theorem dJ6_bitCount_0f7a4_52 : decode cJ6_bitCount_0f7a4 52 = .ok (.ireturn, 1) := by decide +kernel
theorem dJ7_fill_53178_0 : decode cJ7_fill_53178 0 = .ok (.iconst 0, 1) := by decide +kernel
theorem dJ7_fill_53178_1 : decode cJ7_fill_53178 1 = .ok (.istore_n 2, 1) := by decide +kernel
theorem dJ7_fill_53178_2 : decode cJ7_fill_53178 2 = .ok (.aload_n 0, 1) := by decide +kernel
theorem dJ7_fill_53178_3 : decode cJ7_fill_53178 3 = .ok (.arraylength, 1) := by decide +kernel
theorem dJ7_fill_53178_4 : decode cJ7_fill_53178 4 = .ok (.istore_n 3, 1) := by decide +kernel
theorem dJ7_fill_53178_5 : decode cJ7_fill_53178 5 = .ok (.iload_n 2, 1) := by decide +kernel
theorem dJ7_fill_53178_6 : decode cJ7_fill_53178 6 = .ok (.iload_n 3, 1) := by decide +kernel
theorem dJ7_fill_53178_7 : decode cJ7_fill_53178 7 = .ok (.if_icmp .ge 13, 3) := by decide +kernel
theorem dJ7_fill_53178_10 : decode cJ7_fill_53178 10 = .ok (.aload_n 0, 1) := by decide +kernel
theorem dJ7_fill_53178_11 : decode cJ7_fill_53178 11 = .ok (.iload_n 2, 1) := by decide +kernel
theorem dJ7_fill_53178_12 : decode cJ7_fill_53178 12 = .ok (.iload_n 1, 1) := by decide +kernel
theorem dJ7_fill_53178_13 : decode cJ7_fill_53178 13 = .ok (.iastore, 1) := by decide +kernel
theorem dJ7_fill_53178_14 : decode cJ7_fill_53178 14 = .ok (.iinc 2 1, 3) := by decide +kernel
theorem dJ7_fill_53178_17 : decode cJ7_fill_53178 17 = .ok (.goto (-12), 3) := by decide +kernel
theorem dJ7_fill_53178_20 : decode cJ7_fill_53178 20 = .ok (.return_, 1) := by decide +kernel
theorem dJ9_abs_0f7a4_0 : decode cJ9_abs_0f7a4 0 = .ok (.iload_n 0, 1) := by decide +kernel
theorem dJ9_abs_0f7a4_1 : decode cJ9_abs_0f7a4 1 = .ok (.ifCond .ge 8, 3) := by decide +kernel
theorem dJ9_abs_0f7a4_4 : decode cJ9_abs_0f7a4 4 = .ok (.iload_n 0, 1) := by decide +kernel
theorem dJ9_abs_0f7a4_5 : decode cJ9_abs_0f7a4 5 = .ok (.ineg, 1) := by decide +kernel
theorem dJ9_abs_0f7a4_6 : decode cJ9_abs_0f7a4 6 = .ok (.goto 4, 3) := by decide +kernel
theorem dJ9_abs_0f7a4_9 : decode cJ9_abs_0f7a4 9 = .ok (.iload_n 0, 1) := by decide +kernel
theorem dJ9_abs_0f7a4_10 : decode cJ9_abs_0f7a4 10 = .ok (.ireturn, 1) := by decide +kernel
theorem dJ9_max_7cf53_0 : decode cJ9_max_7cf53 0 = .ok (.iload_n 0, 1) := by decide +kernel
theorem dJ9_max_7cf53_1 : decode cJ9_max_7cf53 1 = .ok (.iload_n 1, 1) := by decide +kernel
theorem dJ9_max_7cf53_2 : decode cJ9_max_7cf53 2 = .ok (.if_icmp .lt 7, 3) := by decide +kernel
theorem dJ9_max_7cf53_5 : decode cJ9_max_7cf53 5 = .ok (.iload_n 0, 1) := by decide +kernel
theorem dJ9_max_7cf53_6 : decode cJ9_max_7cf53 6 = .ok (.goto 4, 3) := by decide +kernel
theorem dJ9_max_7cf53_9 : decode cJ9_max_7cf53 9 = .ok (.iload_n 1, 1) := by decide +kernel
theorem dJ9_max_7cf53_10 : decode cJ9_max_7cf53 10 = .ok (.ireturn, 1) := by decide +kernel
theorem dJ9_min_7cf53_0 : decode cJ9_min_7cf53 0 = .ok (.iload_n 0, 1) := by decide +kernel
theorem dJ9_min_7cf53_1 : decode cJ9_min_7cf53 1 = .ok (.iload_n 1, 1) := by decide +kernel
theorem dJ9_min_7cf53_2 : decode cJ9_min_7cf53 2 = .ok (.if_icmp .gt 7, 3) := by decide +kernel
theorem dJ9_min_7cf53_5 : decode cJ9_min_7cf53 5 = .ok (.iload_n 0, 1) := by decide +kernel
theorem dJ9_min_7cf53_6 : decode cJ9_min_7cf53 6 = .ok (.goto 4, 3) := by decide +kernel
theorem dJ9_min_7cf53_9 : decode cJ9_min_7cf53 9 = .ok (.iload_n 1, 1) := by decide +kernel
theorem dJ9_min_7cf53_10 : decode cJ9_min_7cf53 10 = .ok (.ireturn, 1) := by decide +kernel
theorem dL_law_0 : decode cL_law 0 = .ok (.new 7, 3) := by decide +kernel
theorem dL_law_3 : decode cL_law 3 = .ok (.dup, 1) := by decide +kernel
theorem dL_law_4 : decode cL_law 4 = .ok (.invokespecial 9, 3) := by decide +kernel
theorem dL_law_7 : decode cL_law 7 = .ok (.astore_n 1, 1) := by decide +kernel
theorem dL_law_8 : decode cL_law 8 = .ok (.new 10, 3) := by decide +kernel
theorem dL_law_11 : decode cL_law 11 = .ok (.dup, 1) := by decide +kernel
theorem dL_law_12 : decode cL_law 12 = .ok (.invokespecial 12, 3) := by decide +kernel
theorem dL_law_15 : decode cL_law 15 = .ok (.astore_n 2, 1) := by decide +kernel
theorem dL_law_16 : decode cL_law 16 = .ok (.iconst 0, 1) := by decide +kernel
theorem dL_law_17 : decode cL_law 17 = .ok (.istore_n 3, 1) := by decide +kernel
theorem dL_law_18 : decode cL_law 18 = .ok (.iload_n 3, 1) := by decide +kernel
theorem dL_law_19 : decode cL_law 19 = .ok (.aload_n 0, 1) := by decide +kernel
theorem dL_law_20 : decode cL_law 20 = .ok (.arraylength, 1) := by decide +kernel
theorem dL_law_21 : decode cL_law 21 = .ok (.bipush 6, 2) := by decide +kernel
theorem dL_law_23 : decode cL_law 23 = .ok (.isub, 1) := by decide +kernel
theorem dL_law_24 : decode cL_law 24 = .ok (.if_icmp .gt 1158, 3) := by decide +kernel
theorem dL_law_27 : decode cL_law 27 = .ok (.aload_n 0, 1) := by decide +kernel
theorem dL_law_28 : decode cL_law 28 = .ok (.iload_n 3, 1) := by decide +kernel
theorem dL_law_29 : decode cL_law 29 = .ok (.iaload, 1) := by decide +kernel
theorem dL_law_30 : decode cL_law 30 = .ok (.bipush 63, 2) := by decide +kernel
theorem dL_law_32 : decode cL_law 32 = .ok (.iand, 1) := by decide +kernel
theorem dL_law_33 : decode cL_law 33 = .ok (.tableswitch 1143 0 33 #[151, 214, 227, 240, 253, 266, 289, 322, 355, 388, 431, 464, 487, 510, 523, 546, 569, 592, 605, 618, 701, 784, 837, 860, 893, 926, 949, 1002, 1025, 1048, 1061, 1074, 1097, 1120], 151) := by decide +kernel
theorem dL_law_184 : decode cL_law 184 = .ok (.aload_n 1, 1) := by decide +kernel
theorem dL_law_185 : decode cL_law 185 = .ok (.aload_n 0, 1) := by decide +kernel
theorem dL_law_186 : decode cL_law 186 = .ok (.iload_n 3, 1) := by decide +kernel
theorem dL_law_187 : decode cL_law 187 = .ok (.iconst 1, 1) := by decide +kernel
theorem dL_law_188 : decode cL_law 188 = .ok (.iadd, 1) := by decide +kernel
theorem dL_law_189 : decode cL_law 189 = .ok (.iaload, 1) := by decide +kernel
theorem dL_law_190 : decode cL_law 190 = .ok (.aload_n 0, 1) := by decide +kernel
theorem dL_law_191 : decode cL_law 191 = .ok (.iload_n 3, 1) := by decide +kernel
theorem dL_law_192 : decode cL_law 192 = .ok (.iconst 2, 1) := by decide +kernel
theorem dL_law_193 : decode cL_law 193 = .ok (.iadd, 1) := by decide +kernel
theorem dL_law_194 : decode cL_law 194 = .ok (.iaload, 1) := by decide +kernel
theorem dL_law_195 : decode cL_law 195 = .ok (.i2l, 1) := by decide +kernel
theorem dL_law_196 : decode cL_law 196 = .ok (.bipush 32, 2) := by decide +kernel
theorem dL_law_198 : decode cL_law 198 = .ok (.lshl, 1) := by decide +kernel
theorem dL_law_199 : decode cL_law 199 = .ok (.aload_n 0, 1) := by decide +kernel
theorem dL_law_200 : decode cL_law 200 = .ok (.iload_n 3, 1) := by decide +kernel
theorem dL_law_201 : decode cL_law 201 = .ok (.iconst 3, 1) := by decide +kernel
theorem dL_law_202 : decode cL_law 202 = .ok (.iadd, 1) := by decide +kernel
theorem dL_law_203 : decode cL_law 203 = .ok (.iaload, 1) := by decide +kernel
theorem dL_law_204 : decode cL_law 204 = .ok (.i2l, 1) := by decide +kernel
theorem dL_law_205 : decode cL_law 205 = .ok (.ldc2_w 13, 3) := by decide +kernel
theorem dL_law_208 : decode cL_law 208 = .ok (.land, 1) := by decide +kernel
theorem dL_law_209 : decode cL_law 209 = .ok (.lor, 1) := by decide +kernel
theorem dL_law_210 : decode cL_law 210 = .ok (.invokevirtual 15, 3) := by decide +kernel
theorem dL_law_213 : decode cL_law 213 = .ok (.aload_n 2, 1) := by decide +kernel
theorem dL_law_214 : decode cL_law 214 = .ok (.aload_n 0, 1) := by decide +kernel
theorem dL_law_215 : decode cL_law 215 = .ok (.iload_n 3, 1) := by decide +kernel
theorem dL_law_216 : decode cL_law 216 = .ok (.iconst 1, 1) := by decide +kernel
theorem dL_law_217 : decode cL_law 217 = .ok (.iadd, 1) := by decide +kernel
theorem dL_law_218 : decode cL_law 218 = .ok (.iaload, 1) := by decide +kernel
theorem dL_law_219 : decode cL_law 219 = .ok (.aload_n 0, 1) := by decide +kernel
theorem dL_law_220 : decode cL_law 220 = .ok (.iload_n 3, 1) := by decide +kernel
theorem dL_law_221 : decode cL_law 221 = .ok (.iconst 2, 1) := by decide +kernel
theorem dL_law_222 : decode cL_law 222 = .ok (.iadd, 1) := by decide +kernel
theorem dL_law_223 : decode cL_law 223 = .ok (.iaload, 1) := by decide +kernel
theorem dL_law_224 : decode cL_law 224 = .ok (.i2l, 1) := by decide +kernel
theorem dL_law_225 : decode cL_law 225 = .ok (.bipush 32, 2) := by decide +kernel
theorem dL_law_227 : decode cL_law 227 = .ok (.lshl, 1) := by decide +kernel
theorem dL_law_228 : decode cL_law 228 = .ok (.aload_n 0, 1) := by decide +kernel
theorem dL_law_229 : decode cL_law 229 = .ok (.iload_n 3, 1) := by decide +kernel
theorem dL_law_230 : decode cL_law 230 = .ok (.iconst 3, 1) := by decide +kernel
theorem dL_law_231 : decode cL_law 231 = .ok (.iadd, 1) := by decide +kernel
theorem dL_law_232 : decode cL_law 232 = .ok (.iaload, 1) := by decide +kernel
theorem dL_law_233 : decode cL_law 233 = .ok (.i2l, 1) := by decide +kernel
theorem dL_law_234 : decode cL_law 234 = .ok (.ldc2_w 13, 3) := by decide +kernel
theorem dL_law_237 : decode cL_law 237 = .ok (.land, 1) := by decide +kernel
theorem dL_law_238 : decode cL_law 238 = .ok (.lor, 1) := by decide +kernel
theorem dL_law_239 : decode cL_law 239 = .ok (.invokevirtual 19, 3) := by decide +kernel
theorem dL_law_242 : decode cL_law 242 = .ok (.if_icmp .eq 934, 3) := by decide +kernel
theorem dL_law_245 : decode cL_law 245 = .ok (.iconst 0, 1) := by decide +kernel
theorem dL_law_246 : decode cL_law 246 = .ok (.ireturn, 1) := by decide +kernel
theorem dL_law_247 : decode cL_law 247 = .ok (.aload_n 1, 1) := by decide +kernel
theorem dL_law_248 : decode cL_law 248 = .ok (.invokevirtual 20, 3) := by decide +kernel
theorem dL_law_251 : decode cL_law 251 = .ok (.aload_n 2, 1) := by decide +kernel
theorem dL_law_252 : decode cL_law 252 = .ok (.invokevirtual 24, 3) := by decide +kernel
theorem dL_law_255 : decode cL_law 255 = .ok (.if_icmp .eq 921, 3) := by decide +kernel
theorem dL_law_258 : decode cL_law 258 = .ok (.iconst 0, 1) := by decide +kernel
theorem dL_law_259 : decode cL_law 259 = .ok (.ireturn, 1) := by decide +kernel
theorem dL_law_260 : decode cL_law 260 = .ok (.aload_n 1, 1) := by decide +kernel
theorem dL_law_261 : decode cL_law 261 = .ok (.invokevirtual 25, 3) := by decide +kernel
theorem dL_law_264 : decode cL_law 264 = .ok (.aload_n 2, 1) := by decide +kernel
theorem dL_law_265 : decode cL_law 265 = .ok (.invokevirtual 28, 3) := by decide +kernel
theorem dL_law_268 : decode cL_law 268 = .ok (.if_icmp .eq 908, 3) := by decide +kernel
theorem dL_law_271 : decode cL_law 271 = .ok (.iconst 0, 1) := by decide +kernel
theorem dL_law_272 : decode cL_law 272 = .ok (.ireturn, 1) := by decide +kernel
theorem dL_law_273 : decode cL_law 273 = .ok (.aload_n 1, 1) := by decide +kernel
theorem dL_law_274 : decode cL_law 274 = .ok (.invokevirtual 29, 3) := by decide +kernel
theorem dL_law_277 : decode cL_law 277 = .ok (.aload_n 2, 1) := by decide +kernel
theorem dL_law_278 : decode cL_law 278 = .ok (.invokevirtual 32, 3) := by decide +kernel
theorem dL_law_281 : decode cL_law 281 = .ok (.if_icmp .eq 895, 3) := by decide +kernel
theorem dL_law_284 : decode cL_law 284 = .ok (.iconst 0, 1) := by decide +kernel
theorem dL_law_285 : decode cL_law 285 = .ok (.ireturn, 1) := by decide +kernel
theorem dL_law_286 : decode cL_law 286 = .ok (.aload_n 1, 1) := by decide +kernel
theorem dL_law_287 : decode cL_law 287 = .ok (.invokevirtual 33, 3) := by decide +kernel
theorem dL_law_290 : decode cL_law 290 = .ok (.aload_n 2, 1) := by decide +kernel
theorem dL_law_291 : decode cL_law 291 = .ok (.invokevirtual 36, 3) := by decide +kernel
theorem dL_law_294 : decode cL_law 294 = .ok (.if_icmp .eq 882, 3) := by decide +kernel
theorem dL_law_297 : decode cL_law 297 = .ok (.iconst 0, 1) := by decide +kernel
theorem dL_law_298 : decode cL_law 298 = .ok (.ireturn, 1) := by decide +kernel
theorem dL_law_299 : decode cL_law 299 = .ok (.aload_n 1, 1) := by decide +kernel
theorem dL_law_300 : decode cL_law 300 = .ok (.aload_n 0, 1) := by decide +kernel
theorem dL_law_301 : decode cL_law 301 = .ok (.iload_n 3, 1) := by decide +kernel
theorem dL_law_302 : decode cL_law 302 = .ok (.iconst 1, 1) := by decide +kernel
theorem dL_law_303 : decode cL_law 303 = .ok (.iadd, 1) := by decide +kernel
theorem dL_law_304 : decode cL_law 304 = .ok (.iaload, 1) := by decide +kernel
theorem dL_law_305 : decode cL_law 305 = .ok (.invokevirtual 37, 3) := by decide +kernel
theorem dL_law_308 : decode cL_law 308 = .ok (.aload_n 2, 1) := by decide +kernel
theorem dL_law_309 : decode cL_law 309 = .ok (.aload_n 0, 1) := by decide +kernel
theorem dL_law_310 : decode cL_law 310 = .ok (.iload_n 3, 1) := by decide +kernel
theorem dL_law_311 : decode cL_law 311 = .ok (.iconst 1, 1) := by decide +kernel
theorem dL_law_312 : decode cL_law 312 = .ok (.iadd, 1) := by decide +kernel
theorem dL_law_313 : decode cL_law 313 = .ok (.iaload, 1) := by decide +kernel
theorem dL_law_314 : decode cL_law 314 = .ok (.invokevirtual 41, 3) := by decide +kernel
theorem dL_law_317 : decode cL_law 317 = .ok (.if_icmp .eq 859, 3) := by decide +kernel
theorem dL_law_320 : decode cL_law 320 = .ok (.iconst 0, 1) := by decide +kernel
theorem dL_law_321 : decode cL_law 321 = .ok (.ireturn, 1) := by decide +kernel
theorem dL_law_322 : decode cL_law 322 = .ok (.aload_n 1, 1) := by decide +kernel
theorem dL_law_323 : decode cL_law 323 = .ok (.aload_n 0, 1) := by decide +kernel
theorem dL_law_324 : decode cL_law 324 = .ok (.iload_n 3, 1) := by decide +kernel
theorem dL_law_325 : decode cL_law 325 = .ok (.iconst 1, 1) := by decide +kernel
theorem dL_law_326 : decode cL_law 326 = .ok (.iadd, 1) := by decide +kernel
theorem dL_law_327 : decode cL_law 327 = .ok (.iaload, 1) := by decide +kernel
theorem dL_law_328 : decode cL_law 328 = .ok (.aload_n 0, 1) := by decide +kernel
theorem dL_law_329 : decode cL_law 329 = .ok (.iload_n 3, 1) := by decide +kernel
theorem dL_law_330 : decode cL_law 330 = .ok (.iconst 2, 1) := by decide +kernel
theorem dL_law_331 : decode cL_law 331 = .ok (.iadd, 1) := by decide +kernel
theorem dL_law_332 : decode cL_law 332 = .ok (.iaload, 1) := by decide +kernel
theorem dL_law_333 : decode cL_law 333 = .ok (.invokevirtual 42, 3) := by decide +kernel
theorem dL_law_336 : decode cL_law 336 = .ok (.aload_n 2, 1) := by decide +kernel
theorem dL_law_337 : decode cL_law 337 = .ok (.aload_n 0, 1) := by decide +kernel
theorem dL_law_338 : decode cL_law 338 = .ok (.iload_n 3, 1) := by decide +kernel
theorem dL_law_339 : decode cL_law 339 = .ok (.iconst 1, 1) := by decide +kernel
theorem dL_law_340 : decode cL_law 340 = .ok (.iadd, 1) := by decide +kernel
theorem dL_law_341 : decode cL_law 341 = .ok (.iaload, 1) := by decide +kernel
theorem dL_law_342 : decode cL_law 342 = .ok (.aload_n 0, 1) := by decide +kernel
theorem dL_law_343 : decode cL_law 343 = .ok (.iload_n 3, 1) := by decide +kernel
theorem dL_law_344 : decode cL_law 344 = .ok (.iconst 2, 1) := by decide +kernel
theorem dL_law_345 : decode cL_law 345 = .ok (.iadd, 1) := by decide +kernel
theorem dL_law_346 : decode cL_law 346 = .ok (.iaload, 1) := by decide +kernel
theorem dL_law_347 : decode cL_law 347 = .ok (.invokevirtual 46, 3) := by decide +kernel
theorem dL_law_350 : decode cL_law 350 = .ok (.if_icmp .eq 826, 3) := by decide +kernel
theorem dL_law_353 : decode cL_law 353 = .ok (.iconst 0, 1) := by decide +kernel
theorem dL_law_354 : decode cL_law 354 = .ok (.ireturn, 1) := by decide +kernel
theorem dL_law_355 : decode cL_law 355 = .ok (.aload_n 1, 1) := by decide +kernel
theorem dL_law_356 : decode cL_law 356 = .ok (.aload_n 0, 1) := by decide +kernel
theorem dL_law_357 : decode cL_law 357 = .ok (.iload_n 3, 1) := by decide +kernel
theorem dL_law_358 : decode cL_law 358 = .ok (.iconst 1, 1) := by decide +kernel
theorem dL_law_359 : decode cL_law 359 = .ok (.iadd, 1) := by decide +kernel
theorem dL_law_360 : decode cL_law 360 = .ok (.iaload, 1) := by decide +kernel
theorem dL_law_361 : decode cL_law 361 = .ok (.aload_n 0, 1) := by decide +kernel
theorem dL_law_362 : decode cL_law 362 = .ok (.iload_n 3, 1) := by decide +kernel
theorem dL_law_363 : decode cL_law 363 = .ok (.iconst 2, 1) := by decide +kernel
theorem dL_law_364 : decode cL_law 364 = .ok (.iadd, 1) := by decide +kernel
theorem dL_law_365 : decode cL_law 365 = .ok (.iaload, 1) := by decide +kernel
theorem dL_law_366 : decode cL_law 366 = .ok (.invokevirtual 47, 3) := by decide +kernel
theorem dL_law_369 : decode cL_law 369 = .ok (.aload_n 2, 1) := by decide +kernel
theorem dL_law_370 : decode cL_law 370 = .ok (.aload_n 0, 1) := by decide +kernel
theorem dL_law_371 : decode cL_law 371 = .ok (.iload_n 3, 1) := by decide +kernel
theorem dL_law_372 : decode cL_law 372 = .ok (.iconst 1, 1) := by decide +kernel
theorem dL_law_373 : decode cL_law 373 = .ok (.iadd, 1) := by decide +kernel
theorem dL_law_374 : decode cL_law 374 = .ok (.iaload, 1) := by decide +kernel
theorem dL_law_375 : decode cL_law 375 = .ok (.aload_n 0, 1) := by decide +kernel
theorem dL_law_376 : decode cL_law 376 = .ok (.iload_n 3, 1) := by decide +kernel
theorem dL_law_377 : decode cL_law 377 = .ok (.iconst 2, 1) := by decide +kernel
theorem dL_law_378 : decode cL_law 378 = .ok (.iadd, 1) := by decide +kernel
theorem dL_law_379 : decode cL_law 379 = .ok (.iaload, 1) := by decide +kernel
theorem dL_law_380 : decode cL_law 380 = .ok (.invokevirtual 50, 3) := by decide +kernel
theorem dL_law_383 : decode cL_law 383 = .ok (.if_icmp .eq 793, 3) := by decide +kernel
theorem dL_law_386 : decode cL_law 386 = .ok (.iconst 0, 1) := by decide +kernel
theorem dL_law_387 : decode cL_law 387 = .ok (.ireturn, 1) := by decide +kernel
theorem dL_law_388 : decode cL_law 388 = .ok (.aload_n 1, 1) := by decide +kernel
theorem dL_law_389 : decode cL_law 389 = .ok (.aload_n 0, 1) := by decide +kernel
theorem dL_law_390 : decode cL_law 390 = .ok (.iload_n 3, 1) := by decide +kernel
theorem dL_law_391 : decode cL_law 391 = .ok (.iconst 1, 1) := by decide +kernel
theorem dL_law_392 : decode cL_law 392 = .ok (.iadd, 1) := by decide +kernel
theorem dL_law_393 : decode cL_law 393 = .ok (.iaload, 1) := by decide +kernel
theorem dL_law_394 : decode cL_law 394 = .ok (.aload_n 0, 1) := by decide +kernel
theorem dL_law_395 : decode cL_law 395 = .ok (.iload_n 3, 1) := by decide +kernel
theorem dL_law_396 : decode cL_law 396 = .ok (.iconst 2, 1) := by decide +kernel
theorem dL_law_397 : decode cL_law 397 = .ok (.iadd, 1) := by decide +kernel
theorem dL_law_398 : decode cL_law 398 = .ok (.iaload, 1) := by decide +kernel
theorem dL_law_399 : decode cL_law 399 = .ok (.invokevirtual 51, 3) := by decide +kernel
theorem dL_law_402 : decode cL_law 402 = .ok (.aload_n 2, 1) := by decide +kernel
theorem dL_law_403 : decode cL_law 403 = .ok (.aload_n 0, 1) := by decide +kernel
theorem dL_law_404 : decode cL_law 404 = .ok (.iload_n 3, 1) := by decide +kernel
theorem dL_law_405 : decode cL_law 405 = .ok (.iconst 1, 1) := by decide +kernel
theorem dL_law_406 : decode cL_law 406 = .ok (.iadd, 1) := by decide +kernel
theorem dL_law_407 : decode cL_law 407 = .ok (.iaload, 1) := by decide +kernel
theorem dL_law_408 : decode cL_law 408 = .ok (.aload_n 0, 1) := by decide +kernel
theorem dL_law_409 : decode cL_law 409 = .ok (.iload_n 3, 1) := by decide +kernel
theorem dL_law_410 : decode cL_law 410 = .ok (.iconst 2, 1) := by decide +kernel
theorem dL_law_411 : decode cL_law 411 = .ok (.iadd, 1) := by decide +kernel
theorem dL_law_412 : decode cL_law 412 = .ok (.iaload, 1) := by decide +kernel
theorem dL_law_413 : decode cL_law 413 = .ok (.invokevirtual 54, 3) := by decide +kernel
theorem dL_law_416 : decode cL_law 416 = .ok (.if_icmp .eq 760, 3) := by decide +kernel
theorem dL_law_419 : decode cL_law 419 = .ok (.iconst 0, 1) := by decide +kernel
theorem dL_law_420 : decode cL_law 420 = .ok (.ireturn, 1) := by decide +kernel
theorem dL_law_421 : decode cL_law 421 = .ok (.aload_n 1, 1) := by decide +kernel
theorem dL_law_422 : decode cL_law 422 = .ok (.aload_n 0, 1) := by decide +kernel
theorem dL_law_423 : decode cL_law 423 = .ok (.iload_n 3, 1) := by decide +kernel
theorem dL_law_424 : decode cL_law 424 = .ok (.iconst 1, 1) := by decide +kernel
theorem dL_law_425 : decode cL_law 425 = .ok (.iadd, 1) := by decide +kernel
theorem dL_law_426 : decode cL_law 426 = .ok (.iaload, 1) := by decide +kernel
theorem dL_law_427 : decode cL_law 427 = .ok (.aload_n 0, 1) := by decide +kernel
theorem dL_law_428 : decode cL_law 428 = .ok (.iload_n 3, 1) := by decide +kernel
theorem dL_law_429 : decode cL_law 429 = .ok (.iconst 2, 1) := by decide +kernel
theorem dL_law_430 : decode cL_law 430 = .ok (.iadd, 1) := by decide +kernel
theorem dL_law_431 : decode cL_law 431 = .ok (.iaload, 1) := by decide +kernel
theorem dL_law_432 : decode cL_law 432 = .ok (.aload_n 0, 1) := by decide +kernel
theorem dL_law_433 : decode cL_law 433 = .ok (.iload_n 3, 1) := by decide +kernel
theorem dL_law_434 : decode cL_law 434 = .ok (.iconst 3, 1) := by decide +kernel
theorem dL_law_435 : decode cL_law 435 = .ok (.iadd, 1) := by decide +kernel
theorem dL_law_436 : decode cL_law 436 = .ok (.iaload, 1) := by decide +kernel
theorem dL_law_437 : decode cL_law 437 = .ok (.invokevirtual 55, 3) := by decide +kernel
theorem dL_law_440 : decode cL_law 440 = .ok (.aload_n 2, 1) := by decide +kernel
theorem dL_law_441 : decode cL_law 441 = .ok (.aload_n 0, 1) := by decide +kernel
theorem dL_law_442 : decode cL_law 442 = .ok (.iload_n 3, 1) := by decide +kernel
theorem dL_law_443 : decode cL_law 443 = .ok (.iconst 1, 1) := by decide +kernel
theorem dL_law_444 : decode cL_law 444 = .ok (.iadd, 1) := by decide +kernel
theorem dL_law_445 : decode cL_law 445 = .ok (.iaload, 1) := by decide +kernel
theorem dL_law_446 : decode cL_law 446 = .ok (.aload_n 0, 1) := by decide +kernel
theorem dL_law_447 : decode cL_law 447 = .ok (.iload_n 3, 1) := by decide +kernel
theorem dL_law_448 : decode cL_law 448 = .ok (.iconst 2, 1) := by decide +kernel
theorem dL_law_449 : decode cL_law 449 = .ok (.iadd, 1) := by decide +kernel
theorem dL_law_450 : decode cL_law 450 = .ok (.iaload, 1) := by decide +kernel
theorem dL_law_451 : decode cL_law 451 = .ok (.aload_n 0, 1) := by decide +kernel
theorem dL_law_452 : decode cL_law 452 = .ok (.iload_n 3, 1) := by decide +kernel
theorem dL_law_453 : decode cL_law 453 = .ok (.iconst 3, 1) := by decide +kernel
theorem dL_law_454 : decode cL_law 454 = .ok (.iadd, 1) := by decide +kernel
theorem dL_law_455 : decode cL_law 455 = .ok (.iaload, 1) := by decide +kernel
theorem dL_law_456 : decode cL_law 456 = .ok (.invokevirtual 59, 3) := by decide +kernel
theorem dL_law_459 : decode cL_law 459 = .ok (.if_icmp .eq 717, 3) := by decide +kernel
theorem dL_law_462 : decode cL_law 462 = .ok (.iconst 0, 1) := by decide +kernel
theorem dL_law_463 : decode cL_law 463 = .ok (.ireturn, 1) := by decide +kernel
theorem dL_law_464 : decode cL_law 464 = .ok (.aload_n 1, 1) := by decide +kernel
theorem dL_law_465 : decode cL_law 465 = .ok (.aload_n 0, 1) := by decide +kernel
theorem dL_law_466 : decode cL_law 466 = .ok (.iload_n 3, 1) := by decide +kernel
theorem dL_law_467 : decode cL_law 467 = .ok (.iconst 1, 1) := by decide +kernel
theorem dL_law_468 : decode cL_law 468 = .ok (.iadd, 1) := by decide +kernel
theorem dL_law_469 : decode cL_law 469 = .ok (.iaload, 1) := by decide +kernel
theorem dL_law_470 : decode cL_law 470 = .ok (.aload_n 0, 1) := by decide +kernel
theorem dL_law_471 : decode cL_law 471 = .ok (.iload_n 3, 1) := by decide +kernel
theorem dL_law_472 : decode cL_law 472 = .ok (.iconst 2, 1) := by decide +kernel
theorem dL_law_473 : decode cL_law 473 = .ok (.iadd, 1) := by decide +kernel
theorem dL_law_474 : decode cL_law 474 = .ok (.iaload, 1) := by decide +kernel
theorem dL_law_475 : decode cL_law 475 = .ok (.invokevirtual 60, 3) := by decide +kernel
theorem dL_law_478 : decode cL_law 478 = .ok (.aload_n 2, 1) := by decide +kernel
theorem dL_law_479 : decode cL_law 479 = .ok (.aload_n 0, 1) := by decide +kernel
theorem dL_law_480 : decode cL_law 480 = .ok (.iload_n 3, 1) := by decide +kernel
theorem dL_law_481 : decode cL_law 481 = .ok (.iconst 1, 1) := by decide +kernel
theorem dL_law_482 : decode cL_law 482 = .ok (.iadd, 1) := by decide +kernel
theorem dL_law_483 : decode cL_law 483 = .ok (.iaload, 1) := by decide +kernel
theorem dL_law_484 : decode cL_law 484 = .ok (.aload_n 0, 1) := by decide +kernel
theorem dL_law_485 : decode cL_law 485 = .ok (.iload_n 3, 1) := by decide +kernel
theorem dL_law_486 : decode cL_law 486 = .ok (.iconst 2, 1) := by decide +kernel
theorem dL_law_487 : decode cL_law 487 = .ok (.iadd, 1) := by decide +kernel
theorem dL_law_488 : decode cL_law 488 = .ok (.iaload, 1) := by decide +kernel
theorem dL_law_489 : decode cL_law 489 = .ok (.invokevirtual 63, 3) := by decide +kernel
theorem dL_law_492 : decode cL_law 492 = .ok (.if_icmp .eq 684, 3) := by decide +kernel
theorem dL_law_495 : decode cL_law 495 = .ok (.iconst 0, 1) := by decide +kernel
theorem dL_law_496 : decode cL_law 496 = .ok (.ireturn, 1) := by decide +kernel
theorem dL_law_497 : decode cL_law 497 = .ok (.aload_n 1, 1) := by decide +kernel
theorem dL_law_498 : decode cL_law 498 = .ok (.aload_n 0, 1) := by decide +kernel
theorem dL_law_499 : decode cL_law 499 = .ok (.iload_n 3, 1) := by decide +kernel
theorem dL_law_500 : decode cL_law 500 = .ok (.iconst 1, 1) := by decide +kernel
theorem dL_law_501 : decode cL_law 501 = .ok (.iadd, 1) := by decide +kernel
theorem dL_law_502 : decode cL_law 502 = .ok (.iaload, 1) := by decide +kernel
theorem dL_law_503 : decode cL_law 503 = .ok (.invokevirtual 64, 3) := by decide +kernel
theorem dL_law_506 : decode cL_law 506 = .ok (.aload_n 2, 1) := by decide +kernel
theorem dL_law_507 : decode cL_law 507 = .ok (.aload_n 0, 1) := by decide +kernel
theorem dL_law_508 : decode cL_law 508 = .ok (.iload_n 3, 1) := by decide +kernel
theorem dL_law_509 : decode cL_law 509 = .ok (.iconst 1, 1) := by decide +kernel
theorem dL_law_510 : decode cL_law 510 = .ok (.iadd, 1) := by decide +kernel
theorem dL_law_511 : decode cL_law 511 = .ok (.iaload, 1) := by decide +kernel
theorem dL_law_512 : decode cL_law 512 = .ok (.invokevirtual 67, 3) := by decide +kernel
theorem dL_law_515 : decode cL_law 515 = .ok (.if_icmp .eq 661, 3) := by decide +kernel
theorem dL_law_518 : decode cL_law 518 = .ok (.iconst 0, 1) := by decide +kernel
theorem dL_law_519 : decode cL_law 519 = .ok (.ireturn, 1) := by decide +kernel
theorem dL_law_520 : decode cL_law 520 = .ok (.aload_n 1, 1) := by decide +kernel
theorem dL_law_521 : decode cL_law 521 = .ok (.aload_n 0, 1) := by decide +kernel
theorem dL_law_522 : decode cL_law 522 = .ok (.iload_n 3, 1) := by decide +kernel
theorem dL_law_523 : decode cL_law 523 = .ok (.iconst 1, 1) := by decide +kernel
theorem dL_law_524 : decode cL_law 524 = .ok (.iadd, 1) := by decide +kernel
theorem dL_law_525 : decode cL_law 525 = .ok (.iaload, 1) := by decide +kernel
theorem dL_law_526 : decode cL_law 526 = .ok (.invokevirtual 68, 3) := by decide +kernel
theorem dL_law_529 : decode cL_law 529 = .ok (.aload_n 2, 1) := by decide +kernel
theorem dL_law_530 : decode cL_law 530 = .ok (.aload_n 0, 1) := by decide +kernel
theorem dL_law_531 : decode cL_law 531 = .ok (.iload_n 3, 1) := by decide +kernel
theorem dL_law_532 : decode cL_law 532 = .ok (.iconst 1, 1) := by decide +kernel
theorem dL_law_533 : decode cL_law 533 = .ok (.iadd, 1) := by decide +kernel
theorem dL_law_534 : decode cL_law 534 = .ok (.iaload, 1) := by decide +kernel
theorem dL_law_535 : decode cL_law 535 = .ok (.invokevirtual 71, 3) := by decide +kernel
theorem dL_law_538 : decode cL_law 538 = .ok (.if_icmp .eq 638, 3) := by decide +kernel
theorem dL_law_541 : decode cL_law 541 = .ok (.iconst 0, 1) := by decide +kernel
theorem dL_law_542 : decode cL_law 542 = .ok (.ireturn, 1) := by decide +kernel
theorem dL_law_543 : decode cL_law 543 = .ok (.aload_n 1, 1) := by decide +kernel
theorem dL_law_544 : decode cL_law 544 = .ok (.invokevirtual 72, 3) := by decide +kernel
theorem dL_law_547 : decode cL_law 547 = .ok (.aload_n 2, 1) := by decide +kernel
theorem dL_law_548 : decode cL_law 548 = .ok (.invokevirtual 75, 3) := by decide +kernel
theorem dL_law_551 : decode cL_law 551 = .ok (.if_icmp .eq 625, 3) := by decide +kernel
theorem dL_law_554 : decode cL_law 554 = .ok (.iconst 0, 1) := by decide +kernel
theorem dL_law_555 : decode cL_law 555 = .ok (.ireturn, 1) := by decide +kernel
theorem dL_law_556 : decode cL_law 556 = .ok (.aload_n 1, 1) := by decide +kernel
theorem dL_law_557 : decode cL_law 557 = .ok (.aload_n 0, 1) := by decide +kernel
theorem dL_law_558 : decode cL_law 558 = .ok (.iload_n 3, 1) := by decide +kernel
theorem dL_law_559 : decode cL_law 559 = .ok (.iconst 1, 1) := by decide +kernel
theorem dL_law_560 : decode cL_law 560 = .ok (.iadd, 1) := by decide +kernel
theorem dL_law_561 : decode cL_law 561 = .ok (.iaload, 1) := by decide +kernel
theorem dL_law_562 : decode cL_law 562 = .ok (.invokevirtual 76, 3) := by decide +kernel
theorem dL_law_565 : decode cL_law 565 = .ok (.aload_n 2, 1) := by decide +kernel
theorem dL_law_566 : decode cL_law 566 = .ok (.aload_n 0, 1) := by decide +kernel
theorem dL_law_567 : decode cL_law 567 = .ok (.iload_n 3, 1) := by decide +kernel
theorem dL_law_568 : decode cL_law 568 = .ok (.iconst 1, 1) := by decide +kernel
theorem dL_law_569 : decode cL_law 569 = .ok (.iadd, 1) := by decide +kernel
theorem dL_law_570 : decode cL_law 570 = .ok (.iaload, 1) := by decide +kernel
theorem dL_law_571 : decode cL_law 571 = .ok (.invokevirtual 79, 3) := by decide +kernel
theorem dL_law_574 : decode cL_law 574 = .ok (.if_icmp .eq 602, 3) := by decide +kernel
theorem dL_law_577 : decode cL_law 577 = .ok (.iconst 0, 1) := by decide +kernel
theorem dL_law_578 : decode cL_law 578 = .ok (.ireturn, 1) := by decide +kernel
theorem dL_law_579 : decode cL_law 579 = .ok (.aload_n 1, 1) := by decide +kernel
theorem dL_law_580 : decode cL_law 580 = .ok (.aload_n 0, 1) := by decide +kernel
theorem dL_law_581 : decode cL_law 581 = .ok (.iload_n 3, 1) := by decide +kernel
theorem dL_law_582 : decode cL_law 582 = .ok (.iconst 1, 1) := by decide +kernel
theorem dL_law_583 : decode cL_law 583 = .ok (.iadd, 1) := by decide +kernel
theorem dL_law_584 : decode cL_law 584 = .ok (.iaload, 1) := by decide +kernel
theorem dL_law_585 : decode cL_law 585 = .ok (.invokevirtual 80, 3) := by decide +kernel
theorem dL_law_588 : decode cL_law 588 = .ok (.aload_n 2, 1) := by decide +kernel
theorem dL_law_589 : decode cL_law 589 = .ok (.aload_n 0, 1) := by decide +kernel
theorem dL_law_590 : decode cL_law 590 = .ok (.iload_n 3, 1) := by decide +kernel
theorem dL_law_591 : decode cL_law 591 = .ok (.iconst 1, 1) := by decide +kernel
theorem dL_law_592 : decode cL_law 592 = .ok (.iadd, 1) := by decide +kernel
theorem dL_law_593 : decode cL_law 593 = .ok (.iaload, 1) := by decide +kernel
theorem dL_law_594 : decode cL_law 594 = .ok (.invokevirtual 83, 3) := by decide +kernel
theorem dL_law_597 : decode cL_law 597 = .ok (.if_icmp .eq 579, 3) := by decide +kernel
theorem dL_law_600 : decode cL_law 600 = .ok (.iconst 0, 1) := by decide +kernel
theorem dL_law_601 : decode cL_law 601 = .ok (.ireturn, 1) := by decide +kernel
theorem dL_law_602 : decode cL_law 602 = .ok (.aload_n 1, 1) := by decide +kernel
theorem dL_law_603 : decode cL_law 603 = .ok (.aload_n 0, 1) := by decide +kernel
theorem dL_law_604 : decode cL_law 604 = .ok (.iload_n 3, 1) := by decide +kernel
theorem dL_law_605 : decode cL_law 605 = .ok (.iconst 1, 1) := by decide +kernel
theorem dL_law_606 : decode cL_law 606 = .ok (.iadd, 1) := by decide +kernel
theorem dL_law_607 : decode cL_law 607 = .ok (.iaload, 1) := by decide +kernel
theorem dL_law_608 : decode cL_law 608 = .ok (.invokevirtual 84, 3) := by decide +kernel
theorem dL_law_611 : decode cL_law 611 = .ok (.aload_n 2, 1) := by decide +kernel
theorem dL_law_612 : decode cL_law 612 = .ok (.aload_n 0, 1) := by decide +kernel
theorem dL_law_613 : decode cL_law 613 = .ok (.iload_n 3, 1) := by decide +kernel
theorem dL_law_614 : decode cL_law 614 = .ok (.iconst 1, 1) := by decide +kernel
theorem dL_law_615 : decode cL_law 615 = .ok (.iadd, 1) := by decide +kernel
theorem dL_law_616 : decode cL_law 616 = .ok (.iaload, 1) := by decide +kernel
theorem dL_law_617 : decode cL_law 617 = .ok (.invokevirtual 87, 3) := by decide +kernel
theorem dL_law_620 : decode cL_law 620 = .ok (.if_icmp .eq 556, 3) := by decide +kernel
theorem dL_law_623 : decode cL_law 623 = .ok (.iconst 0, 1) := by decide +kernel
theorem dL_law_624 : decode cL_law 624 = .ok (.ireturn, 1) := by decide +kernel
theorem dL_law_625 : decode cL_law 625 = .ok (.aload_n 1, 1) := by decide +kernel
theorem dL_law_626 : decode cL_law 626 = .ok (.invokevirtual 88, 3) := by decide +kernel
theorem dL_law_629 : decode cL_law 629 = .ok (.aload_n 2, 1) := by decide +kernel
theorem dL_law_630 : decode cL_law 630 = .ok (.invokevirtual 91, 3) := by decide +kernel
theorem dL_law_633 : decode cL_law 633 = .ok (.if_icmp .eq 543, 3) := by decide +kernel
theorem dL_law_636 : decode cL_law 636 = .ok (.iconst 0, 1) := by decide +kernel
theorem dL_law_637 : decode cL_law 637 = .ok (.ireturn, 1) := by decide +kernel
theorem dL_law_638 : decode cL_law 638 = .ok (.aload_n 1, 1) := by decide +kernel
theorem dL_law_639 : decode cL_law 639 = .ok (.invokevirtual 92, 3) := by decide +kernel
theorem dL_law_642 : decode cL_law 642 = .ok (.aload_n 2, 1) := by decide +kernel
theorem dL_law_643 : decode cL_law 643 = .ok (.invokevirtual 95, 3) := by decide +kernel
theorem dL_law_646 : decode cL_law 646 = .ok (.if_icmp .eq 530, 3) := by decide +kernel
theorem dL_law_649 : decode cL_law 649 = .ok (.iconst 0, 1) := by decide +kernel
theorem dL_law_650 : decode cL_law 650 = .ok (.ireturn, 1) := by decide +kernel
theorem dL_law_651 : decode cL_law 651 = .ok (.aload_n 1, 1) := by decide +kernel
theorem dL_law_652 : decode cL_law 652 = .ok (.aload_n 0, 1) := by decide +kernel
theorem dL_law_653 : decode cL_law 653 = .ok (.iload_n 3, 1) := by decide +kernel
theorem dL_law_654 : decode cL_law 654 = .ok (.iconst 1, 1) := by decide +kernel
theorem dL_law_655 : decode cL_law 655 = .ok (.iadd, 1) := by decide +kernel
theorem dL_law_656 : decode cL_law 656 = .ok (.iaload, 1) := by decide +kernel
theorem dL_law_657 : decode cL_law 657 = .ok (.aload_n 0, 1) := by decide +kernel
theorem dL_law_658 : decode cL_law 658 = .ok (.iload_n 3, 1) := by decide +kernel
theorem dL_law_659 : decode cL_law 659 = .ok (.iconst 2, 1) := by decide +kernel
theorem dL_law_660 : decode cL_law 660 = .ok (.iadd, 1) := by decide +kernel
theorem dL_law_661 : decode cL_law 661 = .ok (.iaload, 1) := by decide +kernel
theorem dL_law_662 : decode cL_law 662 = .ok (.aload_n 0, 1) := by decide +kernel
theorem dL_law_663 : decode cL_law 663 = .ok (.iload_n 3, 1) := by decide +kernel
theorem dL_law_664 : decode cL_law 664 = .ok (.iconst 3, 1) := by decide +kernel
theorem dL_law_665 : decode cL_law 665 = .ok (.iadd, 1) := by decide +kernel
theorem dL_law_666 : decode cL_law 666 = .ok (.iaload, 1) := by decide +kernel
theorem dL_law_667 : decode cL_law 667 = .ok (.i2l, 1) := by decide +kernel
theorem dL_law_668 : decode cL_law 668 = .ok (.bipush 32, 2) := by decide +kernel
theorem dL_law_670 : decode cL_law 670 = .ok (.lshl, 1) := by decide +kernel
theorem dL_law_671 : decode cL_law 671 = .ok (.aload_n 0, 1) := by decide +kernel
theorem dL_law_672 : decode cL_law 672 = .ok (.iload_n 3, 1) := by decide +kernel
theorem dL_law_673 : decode cL_law 673 = .ok (.iconst 4, 1) := by decide +kernel
theorem dL_law_674 : decode cL_law 674 = .ok (.iadd, 1) := by decide +kernel
theorem dL_law_675 : decode cL_law 675 = .ok (.iaload, 1) := by decide +kernel
theorem dL_law_676 : decode cL_law 676 = .ok (.i2l, 1) := by decide +kernel
theorem dL_law_677 : decode cL_law 677 = .ok (.ldc2_w 13, 3) := by decide +kernel
theorem dL_law_680 : decode cL_law 680 = .ok (.land, 1) := by decide +kernel
theorem dL_law_681 : decode cL_law 681 = .ok (.lor, 1) := by decide +kernel
theorem dL_law_682 : decode cL_law 682 = .ok (.aload_n 0, 1) := by decide +kernel
theorem dL_law_683 : decode cL_law 683 = .ok (.iload_n 3, 1) := by decide +kernel
theorem dL_law_684 : decode cL_law 684 = .ok (.iconst 5, 1) := by decide +kernel
theorem dL_law_685 : decode cL_law 685 = .ok (.iadd, 1) := by decide +kernel
theorem dL_law_686 : decode cL_law 686 = .ok (.iaload, 1) := by decide +kernel
theorem dL_law_687 : decode cL_law 687 = .ok (.invokevirtual 96, 3) := by decide +kernel
theorem dL_law_690 : decode cL_law 690 = .ok (.aload_n 2, 1) := by decide +kernel
theorem dL_law_691 : decode cL_law 691 = .ok (.aload_n 0, 1) := by decide +kernel
theorem dL_law_692 : decode cL_law 692 = .ok (.iload_n 3, 1) := by decide +kernel
theorem dL_law_693 : decode cL_law 693 = .ok (.iconst 1, 1) := by decide +kernel
theorem dL_law_694 : decode cL_law 694 = .ok (.iadd, 1) := by decide +kernel
theorem dL_law_695 : decode cL_law 695 = .ok (.iaload, 1) := by decide +kernel
theorem dL_law_696 : decode cL_law 696 = .ok (.aload_n 0, 1) := by decide +kernel
theorem dL_law_697 : decode cL_law 697 = .ok (.iload_n 3, 1) := by decide +kernel
theorem dL_law_698 : decode cL_law 698 = .ok (.iconst 2, 1) := by decide +kernel
theorem dL_law_699 : decode cL_law 699 = .ok (.iadd, 1) := by decide +kernel
theorem dL_law_700 : decode cL_law 700 = .ok (.iaload, 1) := by decide +kernel
theorem dL_law_701 : decode cL_law 701 = .ok (.aload_n 0, 1) := by decide +kernel
theorem dL_law_702 : decode cL_law 702 = .ok (.iload_n 3, 1) := by decide +kernel
theorem dL_law_703 : decode cL_law 703 = .ok (.iconst 3, 1) := by decide +kernel
theorem dL_law_704 : decode cL_law 704 = .ok (.iadd, 1) := by decide +kernel
theorem dL_law_705 : decode cL_law 705 = .ok (.iaload, 1) := by decide +kernel
theorem dL_law_706 : decode cL_law 706 = .ok (.i2l, 1) := by decide +kernel
theorem dL_law_707 : decode cL_law 707 = .ok (.bipush 32, 2) := by decide +kernel
theorem dL_law_709 : decode cL_law 709 = .ok (.lshl, 1) := by decide +kernel
theorem dL_law_710 : decode cL_law 710 = .ok (.aload_n 0, 1) := by decide +kernel
theorem dL_law_711 : decode cL_law 711 = .ok (.iload_n 3, 1) := by decide +kernel
theorem dL_law_712 : decode cL_law 712 = .ok (.iconst 4, 1) := by decide +kernel
theorem dL_law_713 : decode cL_law 713 = .ok (.iadd, 1) := by decide +kernel
theorem dL_law_714 : decode cL_law 714 = .ok (.iaload, 1) := by decide +kernel
theorem dL_law_715 : decode cL_law 715 = .ok (.i2l, 1) := by decide +kernel
theorem dL_law_716 : decode cL_law 716 = .ok (.ldc2_w 13, 3) := by decide +kernel
theorem dL_law_719 : decode cL_law 719 = .ok (.land, 1) := by decide +kernel
theorem dL_law_720 : decode cL_law 720 = .ok (.lor, 1) := by decide +kernel
theorem dL_law_721 : decode cL_law 721 = .ok (.aload_n 0, 1) := by decide +kernel
theorem dL_law_722 : decode cL_law 722 = .ok (.iload_n 3, 1) := by decide +kernel
theorem dL_law_723 : decode cL_law 723 = .ok (.iconst 5, 1) := by decide +kernel
theorem dL_law_724 : decode cL_law 724 = .ok (.iadd, 1) := by decide +kernel
theorem dL_law_725 : decode cL_law 725 = .ok (.iaload, 1) := by decide +kernel
theorem dL_law_726 : decode cL_law 726 = .ok (.invokevirtual 100, 3) := by decide +kernel
theorem dL_law_729 : decode cL_law 729 = .ok (.if_icmp .eq 447, 3) := by decide +kernel
theorem dL_law_732 : decode cL_law 732 = .ok (.iconst 0, 1) := by decide +kernel
theorem dL_law_733 : decode cL_law 733 = .ok (.ireturn, 1) := by decide +kernel
theorem dL_law_734 : decode cL_law 734 = .ok (.aload_n 1, 1) := by decide +kernel
theorem dL_law_735 : decode cL_law 735 = .ok (.aload_n 0, 1) := by decide +kernel
theorem dL_law_736 : decode cL_law 736 = .ok (.iload_n 3, 1) := by decide +kernel
theorem dL_law_737 : decode cL_law 737 = .ok (.iconst 1, 1) := by decide +kernel
theorem dL_law_738 : decode cL_law 738 = .ok (.iadd, 1) := by decide +kernel
theorem dL_law_739 : decode cL_law 739 = .ok (.iaload, 1) := by decide +kernel
theorem dL_law_740 : decode cL_law 740 = .ok (.i2l, 1) := by decide +kernel
theorem dL_law_741 : decode cL_law 741 = .ok (.bipush 32, 2) := by decide +kernel
theorem dL_law_743 : decode cL_law 743 = .ok (.lshl, 1) := by decide +kernel
theorem dL_law_744 : decode cL_law 744 = .ok (.aload_n 0, 1) := by decide +kernel
theorem dL_law_745 : decode cL_law 745 = .ok (.iload_n 3, 1) := by decide +kernel
theorem dL_law_746 : decode cL_law 746 = .ok (.iconst 2, 1) := by decide +kernel
theorem dL_law_747 : decode cL_law 747 = .ok (.iadd, 1) := by decide +kernel
theorem dL_law_748 : decode cL_law 748 = .ok (.iaload, 1) := by decide +kernel
theorem dL_law_749 : decode cL_law 749 = .ok (.i2l, 1) := by decide +kernel
theorem dL_law_750 : decode cL_law 750 = .ok (.ldc2_w 13, 3) := by decide +kernel
theorem dL_law_753 : decode cL_law 753 = .ok (.land, 1) := by decide +kernel
theorem dL_law_754 : decode cL_law 754 = .ok (.lor, 1) := by decide +kernel
theorem dL_law_755 : decode cL_law 755 = .ok (.aload_n 0, 1) := by decide +kernel
theorem dL_law_756 : decode cL_law 756 = .ok (.iload_n 3, 1) := by decide +kernel
theorem dL_law_757 : decode cL_law 757 = .ok (.iconst 3, 1) := by decide +kernel
theorem dL_law_758 : decode cL_law 758 = .ok (.iadd, 1) := by decide +kernel
theorem dL_law_759 : decode cL_law 759 = .ok (.iaload, 1) := by decide +kernel
theorem dL_law_760 : decode cL_law 760 = .ok (.aload_n 0, 1) := by decide +kernel
theorem dL_law_761 : decode cL_law 761 = .ok (.iload_n 3, 1) := by decide +kernel
theorem dL_law_762 : decode cL_law 762 = .ok (.iconst 4, 1) := by decide +kernel
theorem dL_law_763 : decode cL_law 763 = .ok (.iadd, 1) := by decide +kernel
theorem dL_law_764 : decode cL_law 764 = .ok (.iaload, 1) := by decide +kernel
theorem dL_law_765 : decode cL_law 765 = .ok (.aload_n 0, 1) := by decide +kernel
theorem dL_law_766 : decode cL_law 766 = .ok (.iload_n 3, 1) := by decide +kernel
theorem dL_law_767 : decode cL_law 767 = .ok (.iconst 5, 1) := by decide +kernel
theorem dL_law_768 : decode cL_law 768 = .ok (.iadd, 1) := by decide +kernel
theorem dL_law_769 : decode cL_law 769 = .ok (.iaload, 1) := by decide +kernel
theorem dL_law_770 : decode cL_law 770 = .ok (.invokevirtual 101, 3) := by decide +kernel
theorem dL_law_773 : decode cL_law 773 = .ok (.aload_n 2, 1) := by decide +kernel
theorem dL_law_774 : decode cL_law 774 = .ok (.aload_n 0, 1) := by decide +kernel
theorem dL_law_775 : decode cL_law 775 = .ok (.iload_n 3, 1) := by decide +kernel
theorem dL_law_776 : decode cL_law 776 = .ok (.iconst 1, 1) := by decide +kernel
theorem dL_law_777 : decode cL_law 777 = .ok (.iadd, 1) := by decide +kernel
theorem dL_law_778 : decode cL_law 778 = .ok (.iaload, 1) := by decide +kernel
theorem dL_law_779 : decode cL_law 779 = .ok (.i2l, 1) := by decide +kernel
theorem dL_law_780 : decode cL_law 780 = .ok (.bipush 32, 2) := by decide +kernel
theorem dL_law_782 : decode cL_law 782 = .ok (.lshl, 1) := by decide +kernel
theorem dL_law_783 : decode cL_law 783 = .ok (.aload_n 0, 1) := by decide +kernel
theorem dL_law_784 : decode cL_law 784 = .ok (.iload_n 3, 1) := by decide +kernel
theorem dL_law_785 : decode cL_law 785 = .ok (.iconst 2, 1) := by decide +kernel
theorem dL_law_786 : decode cL_law 786 = .ok (.iadd, 1) := by decide +kernel
theorem dL_law_787 : decode cL_law 787 = .ok (.iaload, 1) := by decide +kernel
theorem dL_law_788 : decode cL_law 788 = .ok (.i2l, 1) := by decide +kernel
theorem dL_law_789 : decode cL_law 789 = .ok (.ldc2_w 13, 3) := by decide +kernel
theorem dL_law_792 : decode cL_law 792 = .ok (.land, 1) := by decide +kernel
theorem dL_law_793 : decode cL_law 793 = .ok (.lor, 1) := by decide +kernel
theorem dL_law_794 : decode cL_law 794 = .ok (.aload_n 0, 1) := by decide +kernel
theorem dL_law_795 : decode cL_law 795 = .ok (.iload_n 3, 1) := by decide +kernel
theorem dL_law_796 : decode cL_law 796 = .ok (.iconst 3, 1) := by decide +kernel
theorem dL_law_797 : decode cL_law 797 = .ok (.iadd, 1) := by decide +kernel
theorem dL_law_798 : decode cL_law 798 = .ok (.iaload, 1) := by decide +kernel
theorem dL_law_799 : decode cL_law 799 = .ok (.aload_n 0, 1) := by decide +kernel
theorem dL_law_800 : decode cL_law 800 = .ok (.iload_n 3, 1) := by decide +kernel
theorem dL_law_801 : decode cL_law 801 = .ok (.iconst 4, 1) := by decide +kernel
theorem dL_law_802 : decode cL_law 802 = .ok (.iadd, 1) := by decide +kernel
theorem dL_law_803 : decode cL_law 803 = .ok (.iaload, 1) := by decide +kernel
theorem dL_law_804 : decode cL_law 804 = .ok (.aload_n 0, 1) := by decide +kernel
theorem dL_law_805 : decode cL_law 805 = .ok (.iload_n 3, 1) := by decide +kernel
theorem dL_law_806 : decode cL_law 806 = .ok (.iconst 5, 1) := by decide +kernel
theorem dL_law_807 : decode cL_law 807 = .ok (.iadd, 1) := by decide +kernel
theorem dL_law_808 : decode cL_law 808 = .ok (.iaload, 1) := by decide +kernel
theorem dL_law_809 : decode cL_law 809 = .ok (.invokevirtual 105, 3) := by decide +kernel
theorem dL_law_812 : decode cL_law 812 = .ok (.if_icmp .eq 364, 3) := by decide +kernel
theorem dL_law_815 : decode cL_law 815 = .ok (.iconst 0, 1) := by decide +kernel
theorem dL_law_816 : decode cL_law 816 = .ok (.ireturn, 1) := by decide +kernel
theorem dL_law_817 : decode cL_law 817 = .ok (.aload_n 1, 1) := by decide +kernel
theorem dL_law_818 : decode cL_law 818 = .ok (.aload_n 0, 1) := by decide +kernel
theorem dL_law_819 : decode cL_law 819 = .ok (.iload_n 3, 1) := by decide +kernel
theorem dL_law_820 : decode cL_law 820 = .ok (.iconst 1, 1) := by decide +kernel
theorem dL_law_821 : decode cL_law 821 = .ok (.iadd, 1) := by decide +kernel
theorem dL_law_822 : decode cL_law 822 = .ok (.iaload, 1) := by decide +kernel
theorem dL_law_823 : decode cL_law 823 = .ok (.aload_n 0, 1) := by decide +kernel
theorem dL_law_824 : decode cL_law 824 = .ok (.iload_n 3, 1) := by decide +kernel
theorem dL_law_825 : decode cL_law 825 = .ok (.iconst 2, 1) := by decide +kernel
theorem dL_law_826 : decode cL_law 826 = .ok (.iadd, 1) := by decide +kernel
theorem dL_law_827 : decode cL_law 827 = .ok (.iaload, 1) := by decide +kernel
theorem dL_law_828 : decode cL_law 828 = .ok (.aload_n 0, 1) := by decide +kernel
theorem dL_law_829 : decode cL_law 829 = .ok (.iload_n 3, 1) := by decide +kernel
theorem dL_law_830 : decode cL_law 830 = .ok (.iconst 3, 1) := by decide +kernel
theorem dL_law_831 : decode cL_law 831 = .ok (.iadd, 1) := by decide +kernel
theorem dL_law_832 : decode cL_law 832 = .ok (.iaload, 1) := by decide +kernel
theorem dL_law_833 : decode cL_law 833 = .ok (.aload_n 0, 1) := by decide +kernel
theorem dL_law_834 : decode cL_law 834 = .ok (.iload_n 3, 1) := by decide +kernel
theorem dL_law_835 : decode cL_law 835 = .ok (.iconst 4, 1) := by decide +kernel
theorem dL_law_836 : decode cL_law 836 = .ok (.iadd, 1) := by decide +kernel
theorem dL_law_837 : decode cL_law 837 = .ok (.iaload, 1) := by decide +kernel
theorem dL_law_838 : decode cL_law 838 = .ok (.invokevirtual 106, 3) := by decide +kernel
theorem dL_law_841 : decode cL_law 841 = .ok (.aload_n 2, 1) := by decide +kernel
theorem dL_law_842 : decode cL_law 842 = .ok (.aload_n 0, 1) := by decide +kernel
theorem dL_law_843 : decode cL_law 843 = .ok (.iload_n 3, 1) := by decide +kernel
theorem dL_law_844 : decode cL_law 844 = .ok (.iconst 1, 1) := by decide +kernel
theorem dL_law_845 : decode cL_law 845 = .ok (.iadd, 1) := by decide +kernel
theorem dL_law_846 : decode cL_law 846 = .ok (.iaload, 1) := by decide +kernel
theorem dL_law_847 : decode cL_law 847 = .ok (.aload_n 0, 1) := by decide +kernel
theorem dL_law_848 : decode cL_law 848 = .ok (.iload_n 3, 1) := by decide +kernel
theorem dL_law_849 : decode cL_law 849 = .ok (.iconst 2, 1) := by decide +kernel
theorem dL_law_850 : decode cL_law 850 = .ok (.iadd, 1) := by decide +kernel
theorem dL_law_851 : decode cL_law 851 = .ok (.iaload, 1) := by decide +kernel
theorem dL_law_852 : decode cL_law 852 = .ok (.aload_n 0, 1) := by decide +kernel
theorem dL_law_853 : decode cL_law 853 = .ok (.iload_n 3, 1) := by decide +kernel
theorem dL_law_854 : decode cL_law 854 = .ok (.iconst 3, 1) := by decide +kernel
theorem dL_law_855 : decode cL_law 855 = .ok (.iadd, 1) := by decide +kernel
theorem dL_law_856 : decode cL_law 856 = .ok (.iaload, 1) := by decide +kernel
theorem dL_law_857 : decode cL_law 857 = .ok (.aload_n 0, 1) := by decide +kernel
theorem dL_law_858 : decode cL_law 858 = .ok (.iload_n 3, 1) := by decide +kernel
theorem dL_law_859 : decode cL_law 859 = .ok (.iconst 4, 1) := by decide +kernel
theorem dL_law_860 : decode cL_law 860 = .ok (.iadd, 1) := by decide +kernel
theorem dL_law_861 : decode cL_law 861 = .ok (.iaload, 1) := by decide +kernel
theorem dL_law_862 : decode cL_law 862 = .ok (.invokevirtual 110, 3) := by decide +kernel
theorem dL_law_865 : decode cL_law 865 = .ok (.if_icmp .eq 311, 3) := by decide +kernel
theorem dL_law_868 : decode cL_law 868 = .ok (.iconst 0, 1) := by decide +kernel
theorem dL_law_869 : decode cL_law 869 = .ok (.ireturn, 1) := by decide +kernel
theorem dL_law_870 : decode cL_law 870 = .ok (.aload_n 1, 1) := by decide +kernel
theorem dL_law_871 : decode cL_law 871 = .ok (.aload_n 0, 1) := by decide +kernel
theorem dL_law_872 : decode cL_law 872 = .ok (.iload_n 3, 1) := by decide +kernel
theorem dL_law_873 : decode cL_law 873 = .ok (.iconst 1, 1) := by decide +kernel
theorem dL_law_874 : decode cL_law 874 = .ok (.iadd, 1) := by decide +kernel
theorem dL_law_875 : decode cL_law 875 = .ok (.iaload, 1) := by decide +kernel
theorem dL_law_876 : decode cL_law 876 = .ok (.invokevirtual 111, 3) := by decide +kernel
theorem dL_law_879 : decode cL_law 879 = .ok (.aload_n 2, 1) := by decide +kernel
theorem dL_law_880 : decode cL_law 880 = .ok (.aload_n 0, 1) := by decide +kernel
theorem dL_law_881 : decode cL_law 881 = .ok (.iload_n 3, 1) := by decide +kernel
theorem dL_law_882 : decode cL_law 882 = .ok (.iconst 1, 1) := by decide +kernel
theorem dL_law_883 : decode cL_law 883 = .ok (.iadd, 1) := by decide +kernel
theorem dL_law_884 : decode cL_law 884 = .ok (.iaload, 1) := by decide +kernel
theorem dL_law_885 : decode cL_law 885 = .ok (.invokevirtual 114, 3) := by decide +kernel
theorem dL_law_888 : decode cL_law 888 = .ok (.if_icmp .eq 288, 3) := by decide +kernel
theorem dL_law_891 : decode cL_law 891 = .ok (.iconst 0, 1) := by decide +kernel
theorem dL_law_892 : decode cL_law 892 = .ok (.ireturn, 1) := by decide +kernel
theorem dL_law_893 : decode cL_law 893 = .ok (.aload_n 1, 1) := by decide +kernel
theorem dL_law_894 : decode cL_law 894 = .ok (.aload_n 0, 1) := by decide +kernel
theorem dL_law_895 : decode cL_law 895 = .ok (.iload_n 3, 1) := by decide +kernel
theorem dL_law_896 : decode cL_law 896 = .ok (.iconst 1, 1) := by decide +kernel
theorem dL_law_897 : decode cL_law 897 = .ok (.iadd, 1) := by decide +kernel
theorem dL_law_898 : decode cL_law 898 = .ok (.iaload, 1) := by decide +kernel
theorem dL_law_899 : decode cL_law 899 = .ok (.aload_n 0, 1) := by decide +kernel
theorem dL_law_900 : decode cL_law 900 = .ok (.iload_n 3, 1) := by decide +kernel
theorem dL_law_901 : decode cL_law 901 = .ok (.iconst 2, 1) := by decide +kernel
theorem dL_law_902 : decode cL_law 902 = .ok (.iadd, 1) := by decide +kernel
theorem dL_law_903 : decode cL_law 903 = .ok (.iaload, 1) := by decide +kernel
theorem dL_law_904 : decode cL_law 904 = .ok (.invokevirtual 115, 3) := by decide +kernel
theorem dL_law_907 : decode cL_law 907 = .ok (.aload_n 2, 1) := by decide +kernel
theorem dL_law_908 : decode cL_law 908 = .ok (.aload_n 0, 1) := by decide +kernel
theorem dL_law_909 : decode cL_law 909 = .ok (.iload_n 3, 1) := by decide +kernel
theorem dL_law_910 : decode cL_law 910 = .ok (.iconst 1, 1) := by decide +kernel
theorem dL_law_911 : decode cL_law 911 = .ok (.iadd, 1) := by decide +kernel
theorem dL_law_912 : decode cL_law 912 = .ok (.iaload, 1) := by decide +kernel
theorem dL_law_913 : decode cL_law 913 = .ok (.aload_n 0, 1) := by decide +kernel
theorem dL_law_914 : decode cL_law 914 = .ok (.iload_n 3, 1) := by decide +kernel
theorem dL_law_915 : decode cL_law 915 = .ok (.iconst 2, 1) := by decide +kernel
theorem dL_law_916 : decode cL_law 916 = .ok (.iadd, 1) := by decide +kernel
theorem dL_law_917 : decode cL_law 917 = .ok (.iaload, 1) := by decide +kernel
theorem dL_law_918 : decode cL_law 918 = .ok (.invokevirtual 118, 3) := by decide +kernel
theorem dL_law_921 : decode cL_law 921 = .ok (.if_icmp .eq 255, 3) := by decide +kernel
theorem dL_law_924 : decode cL_law 924 = .ok (.iconst 0, 1) := by decide +kernel
theorem dL_law_925 : decode cL_law 925 = .ok (.ireturn, 1) := by decide +kernel
theorem dL_law_926 : decode cL_law 926 = .ok (.aload_n 1, 1) := by decide +kernel
theorem dL_law_927 : decode cL_law 927 = .ok (.aload_n 0, 1) := by decide +kernel
theorem dL_law_928 : decode cL_law 928 = .ok (.iload_n 3, 1) := by decide +kernel
theorem dL_law_929 : decode cL_law 929 = .ok (.iconst 1, 1) := by decide +kernel
theorem dL_law_930 : decode cL_law 930 = .ok (.iadd, 1) := by decide +kernel
theorem dL_law_931 : decode cL_law 931 = .ok (.iaload, 1) := by decide +kernel
theorem dL_law_932 : decode cL_law 932 = .ok (.aload_n 0, 1) := by decide +kernel
theorem dL_law_933 : decode cL_law 933 = .ok (.iload_n 3, 1) := by decide +kernel
theorem dL_law_934 : decode cL_law 934 = .ok (.iconst 2, 1) := by decide +kernel
theorem dL_law_935 : decode cL_law 935 = .ok (.iadd, 1) := by decide +kernel
theorem dL_law_936 : decode cL_law 936 = .ok (.iaload, 1) := by decide +kernel
theorem dL_law_937 : decode cL_law 937 = .ok (.invokevirtual 119, 3) := by decide +kernel
theorem dL_law_940 : decode cL_law 940 = .ok (.aload_n 2, 1) := by decide +kernel
theorem dL_law_941 : decode cL_law 941 = .ok (.aload_n 0, 1) := by decide +kernel
theorem dL_law_942 : decode cL_law 942 = .ok (.iload_n 3, 1) := by decide +kernel
theorem dL_law_943 : decode cL_law 943 = .ok (.iconst 1, 1) := by decide +kernel
theorem dL_law_944 : decode cL_law 944 = .ok (.iadd, 1) := by decide +kernel
theorem dL_law_945 : decode cL_law 945 = .ok (.iaload, 1) := by decide +kernel
theorem dL_law_946 : decode cL_law 946 = .ok (.aload_n 0, 1) := by decide +kernel
theorem dL_law_947 : decode cL_law 947 = .ok (.iload_n 3, 1) := by decide +kernel
theorem dL_law_948 : decode cL_law 948 = .ok (.iconst 2, 1) := by decide +kernel
theorem dL_law_949 : decode cL_law 949 = .ok (.iadd, 1) := by decide +kernel
theorem dL_law_950 : decode cL_law 950 = .ok (.iaload, 1) := by decide +kernel
theorem dL_law_951 : decode cL_law 951 = .ok (.invokevirtual 122, 3) := by decide +kernel
theorem dL_law_954 : decode cL_law 954 = .ok (.if_icmp .eq 222, 3) := by decide +kernel
theorem dL_law_957 : decode cL_law 957 = .ok (.iconst 0, 1) := by decide +kernel
theorem dL_law_958 : decode cL_law 958 = .ok (.ireturn, 1) := by decide +kernel
theorem dL_law_959 : decode cL_law 959 = .ok (.aload_n 1, 1) := by decide +kernel
theorem dL_law_960 : decode cL_law 960 = .ok (.aload_n 0, 1) := by decide +kernel
theorem dL_law_961 : decode cL_law 961 = .ok (.iload_n 3, 1) := by decide +kernel
theorem dL_law_962 : decode cL_law 962 = .ok (.iconst 1, 1) := by decide +kernel
theorem dL_law_963 : decode cL_law 963 = .ok (.iadd, 1) := by decide +kernel
theorem dL_law_964 : decode cL_law 964 = .ok (.iaload, 1) := by decide +kernel
theorem dL_law_965 : decode cL_law 965 = .ok (.invokevirtual 123, 3) := by decide +kernel
theorem dL_law_968 : decode cL_law 968 = .ok (.aload_n 2, 1) := by decide +kernel
theorem dL_law_969 : decode cL_law 969 = .ok (.aload_n 0, 1) := by decide +kernel
theorem dL_law_970 : decode cL_law 970 = .ok (.iload_n 3, 1) := by decide +kernel
theorem dL_law_971 : decode cL_law 971 = .ok (.iconst 1, 1) := by decide +kernel
theorem dL_law_972 : decode cL_law 972 = .ok (.iadd, 1) := by decide +kernel
theorem dL_law_973 : decode cL_law 973 = .ok (.iaload, 1) := by decide +kernel
theorem dL_law_974 : decode cL_law 974 = .ok (.invokevirtual 126, 3) := by decide +kernel
theorem dL_law_977 : decode cL_law 977 = .ok (.if_icmp .eq 199, 3) := by decide +kernel
theorem dL_law_980 : decode cL_law 980 = .ok (.iconst 0, 1) := by decide +kernel
theorem dL_law_981 : decode cL_law 981 = .ok (.ireturn, 1) := by decide +kernel
theorem dL_law_982 : decode cL_law 982 = .ok (.aload_n 1, 1) := by decide +kernel
theorem dL_law_983 : decode cL_law 983 = .ok (.aload_n 0, 1) := by decide +kernel
theorem dL_law_984 : decode cL_law 984 = .ok (.iload_n 3, 1) := by decide +kernel
theorem dL_law_985 : decode cL_law 985 = .ok (.iconst 1, 1) := by decide +kernel
theorem dL_law_986 : decode cL_law 986 = .ok (.iadd, 1) := by decide +kernel
theorem dL_law_987 : decode cL_law 987 = .ok (.iaload, 1) := by decide +kernel
theorem dL_law_988 : decode cL_law 988 = .ok (.aload_n 0, 1) := by decide +kernel
theorem dL_law_989 : decode cL_law 989 = .ok (.iload_n 3, 1) := by decide +kernel
theorem dL_law_990 : decode cL_law 990 = .ok (.iconst 2, 1) := by decide +kernel
theorem dL_law_991 : decode cL_law 991 = .ok (.iadd, 1) := by decide +kernel
theorem dL_law_992 : decode cL_law 992 = .ok (.iaload, 1) := by decide +kernel
theorem dL_law_993 : decode cL_law 993 = .ok (.aload_n 0, 1) := by decide +kernel
theorem dL_law_994 : decode cL_law 994 = .ok (.iload_n 3, 1) := by decide +kernel
theorem dL_law_995 : decode cL_law 995 = .ok (.iconst 3, 1) := by decide +kernel
theorem dL_law_996 : decode cL_law 996 = .ok (.iadd, 1) := by decide +kernel
theorem dL_law_997 : decode cL_law 997 = .ok (.iaload, 1) := by decide +kernel
theorem dL_law_998 : decode cL_law 998 = .ok (.aload_n 0, 1) := by decide +kernel
theorem dL_law_999 : decode cL_law 999 = .ok (.iload_n 3, 1) := by decide +kernel
theorem dL_law_1000 : decode cL_law 1000 = .ok (.iconst 4, 1) := by decide +kernel
theorem dL_law_1001 : decode cL_law 1001 = .ok (.iadd, 1) := by decide +kernel
theorem dL_law_1002 : decode cL_law 1002 = .ok (.iaload, 1) := by decide +kernel
theorem dL_law_1003 : decode cL_law 1003 = .ok (.invokevirtual 127, 3) := by decide +kernel
theorem dL_law_1006 : decode cL_law 1006 = .ok (.aload_n 2, 1) := by decide +kernel
theorem dL_law_1007 : decode cL_law 1007 = .ok (.aload_n 0, 1) := by decide +kernel
theorem dL_law_1008 : decode cL_law 1008 = .ok (.iload_n 3, 1) := by decide +kernel
theorem dL_law_1009 : decode cL_law 1009 = .ok (.iconst 1, 1) := by decide +kernel
theorem dL_law_1010 : decode cL_law 1010 = .ok (.iadd, 1) := by decide +kernel
theorem dL_law_1011 : decode cL_law 1011 = .ok (.iaload, 1) := by decide +kernel
theorem dL_law_1012 : decode cL_law 1012 = .ok (.aload_n 0, 1) := by decide +kernel
theorem dL_law_1013 : decode cL_law 1013 = .ok (.iload_n 3, 1) := by decide +kernel
theorem dL_law_1014 : decode cL_law 1014 = .ok (.iconst 2, 1) := by decide +kernel
theorem dL_law_1015 : decode cL_law 1015 = .ok (.iadd, 1) := by decide +kernel
theorem dL_law_1016 : decode cL_law 1016 = .ok (.iaload, 1) := by decide +kernel
theorem dL_law_1017 : decode cL_law 1017 = .ok (.aload_n 0, 1) := by decide +kernel
theorem dL_law_1018 : decode cL_law 1018 = .ok (.iload_n 3, 1) := by decide +kernel
theorem dL_law_1019 : decode cL_law 1019 = .ok (.iconst 3, 1) := by decide +kernel
theorem dL_law_1020 : decode cL_law 1020 = .ok (.iadd, 1) := by decide +kernel
theorem dL_law_1021 : decode cL_law 1021 = .ok (.iaload, 1) := by decide +kernel
theorem dL_law_1022 : decode cL_law 1022 = .ok (.aload_n 0, 1) := by decide +kernel
theorem dL_law_1023 : decode cL_law 1023 = .ok (.iload_n 3, 1) := by decide +kernel
theorem dL_law_1024 : decode cL_law 1024 = .ok (.iconst 4, 1) := by decide +kernel
theorem dL_law_1025 : decode cL_law 1025 = .ok (.iadd, 1) := by decide +kernel
theorem dL_law_1026 : decode cL_law 1026 = .ok (.iaload, 1) := by decide +kernel
theorem dL_law_1027 : decode cL_law 1027 = .ok (.invokevirtual 130, 3) := by decide +kernel
theorem dL_law_1030 : decode cL_law 1030 = .ok (.if_icmp .eq 146, 3) := by decide +kernel
theorem dL_law_1033 : decode cL_law 1033 = .ok (.iconst 0, 1) := by decide +kernel
theorem dL_law_1034 : decode cL_law 1034 = .ok (.ireturn, 1) := by decide +kernel
theorem dL_law_1035 : decode cL_law 1035 = .ok (.aload_n 1, 1) := by decide +kernel
theorem dL_law_1036 : decode cL_law 1036 = .ok (.aload_n 0, 1) := by decide +kernel
theorem dL_law_1037 : decode cL_law 1037 = .ok (.iload_n 3, 1) := by decide +kernel
theorem dL_law_1038 : decode cL_law 1038 = .ok (.iconst 1, 1) := by decide +kernel
theorem dL_law_1039 : decode cL_law 1039 = .ok (.iadd, 1) := by decide +kernel
theorem dL_law_1040 : decode cL_law 1040 = .ok (.iaload, 1) := by decide +kernel
theorem dL_law_1041 : decode cL_law 1041 = .ok (.invokevirtual 131, 3) := by decide +kernel
theorem dL_law_1044 : decode cL_law 1044 = .ok (.aload_n 2, 1) := by decide +kernel
theorem dL_law_1045 : decode cL_law 1045 = .ok (.aload_n 0, 1) := by decide +kernel
theorem dL_law_1046 : decode cL_law 1046 = .ok (.iload_n 3, 1) := by decide +kernel
theorem dL_law_1047 : decode cL_law 1047 = .ok (.iconst 1, 1) := by decide +kernel
theorem dL_law_1048 : decode cL_law 1048 = .ok (.iadd, 1) := by decide +kernel
theorem dL_law_1049 : decode cL_law 1049 = .ok (.iaload, 1) := by decide +kernel
theorem dL_law_1050 : decode cL_law 1050 = .ok (.invokevirtual 134, 3) := by decide +kernel
theorem dL_law_1053 : decode cL_law 1053 = .ok (.if_icmp .eq 123, 3) := by decide +kernel
theorem dL_law_1056 : decode cL_law 1056 = .ok (.iconst 0, 1) := by decide +kernel
theorem dL_law_1057 : decode cL_law 1057 = .ok (.ireturn, 1) := by decide +kernel
theorem dL_law_1058 : decode cL_law 1058 = .ok (.aload_n 1, 1) := by decide +kernel
theorem dL_law_1059 : decode cL_law 1059 = .ok (.aload_n 0, 1) := by decide +kernel
theorem dL_law_1060 : decode cL_law 1060 = .ok (.iload_n 3, 1) := by decide +kernel
theorem dL_law_1061 : decode cL_law 1061 = .ok (.iconst 1, 1) := by decide +kernel
theorem dL_law_1062 : decode cL_law 1062 = .ok (.iadd, 1) := by decide +kernel
theorem dL_law_1063 : decode cL_law 1063 = .ok (.iaload, 1) := by decide +kernel
theorem dL_law_1064 : decode cL_law 1064 = .ok (.invokevirtual 135, 3) := by decide +kernel
theorem dL_law_1067 : decode cL_law 1067 = .ok (.aload_n 2, 1) := by decide +kernel
theorem dL_law_1068 : decode cL_law 1068 = .ok (.aload_n 0, 1) := by decide +kernel
theorem dL_law_1069 : decode cL_law 1069 = .ok (.iload_n 3, 1) := by decide +kernel
theorem dL_law_1070 : decode cL_law 1070 = .ok (.iconst 1, 1) := by decide +kernel
theorem dL_law_1071 : decode cL_law 1071 = .ok (.iadd, 1) := by decide +kernel
theorem dL_law_1072 : decode cL_law 1072 = .ok (.iaload, 1) := by decide +kernel
theorem dL_law_1073 : decode cL_law 1073 = .ok (.invokevirtual 138, 3) := by decide +kernel
theorem dL_law_1076 : decode cL_law 1076 = .ok (.if_icmp .eq 100, 3) := by decide +kernel
theorem dL_law_1079 : decode cL_law 1079 = .ok (.iconst 0, 1) := by decide +kernel
theorem dL_law_1080 : decode cL_law 1080 = .ok (.ireturn, 1) := by decide +kernel
theorem dL_law_1081 : decode cL_law 1081 = .ok (.aload_n 1, 1) := by decide +kernel
theorem dL_law_1082 : decode cL_law 1082 = .ok (.invokevirtual 139, 3) := by decide +kernel
theorem dL_law_1085 : decode cL_law 1085 = .ok (.aload_n 2, 1) := by decide +kernel
theorem dL_law_1086 : decode cL_law 1086 = .ok (.invokevirtual 142, 3) := by decide +kernel
theorem dL_law_1089 : decode cL_law 1089 = .ok (.if_icmp .eq 87, 3) := by decide +kernel
theorem dL_law_1092 : decode cL_law 1092 = .ok (.iconst 0, 1) := by decide +kernel
theorem dL_law_1093 : decode cL_law 1093 = .ok (.ireturn, 1) := by decide +kernel
theorem dL_law_1094 : decode cL_law 1094 = .ok (.aload_n 1, 1) := by decide +kernel
theorem dL_law_1095 : decode cL_law 1095 = .ok (.invokevirtual 143, 3) := by decide +kernel
theorem dL_law_1098 : decode cL_law 1098 = .ok (.aload_n 2, 1) := by decide +kernel
theorem dL_law_1099 : decode cL_law 1099 = .ok (.invokevirtual 146, 3) := by decide +kernel
theorem dL_law_1102 : decode cL_law 1102 = .ok (.if_icmp .eq 74, 3) := by decide +kernel
theorem dL_law_1105 : decode cL_law 1105 = .ok (.iconst 0, 1) := by decide +kernel
theorem dL_law_1106 : decode cL_law 1106 = .ok (.ireturn, 1) := by decide +kernel
theorem dL_law_1107 : decode cL_law 1107 = .ok (.aload_n 1, 1) := by decide +kernel
theorem dL_law_1108 : decode cL_law 1108 = .ok (.aload_n 0, 1) := by decide +kernel
theorem dL_law_1109 : decode cL_law 1109 = .ok (.iload_n 3, 1) := by decide +kernel
theorem dL_law_1110 : decode cL_law 1110 = .ok (.iconst 1, 1) := by decide +kernel
theorem dL_law_1111 : decode cL_law 1111 = .ok (.iadd, 1) := by decide +kernel
theorem dL_law_1112 : decode cL_law 1112 = .ok (.iaload, 1) := by decide +kernel
theorem dL_law_1113 : decode cL_law 1113 = .ok (.invokevirtual 147, 3) := by decide +kernel
theorem dL_law_1116 : decode cL_law 1116 = .ok (.aload_n 2, 1) := by decide +kernel
theorem dL_law_1117 : decode cL_law 1117 = .ok (.aload_n 0, 1) := by decide +kernel
theorem dL_law_1118 : decode cL_law 1118 = .ok (.iload_n 3, 1) := by decide +kernel
theorem dL_law_1119 : decode cL_law 1119 = .ok (.iconst 1, 1) := by decide +kernel
theorem dL_law_1120 : decode cL_law 1120 = .ok (.iadd, 1) := by decide +kernel
theorem dL_law_1121 : decode cL_law 1121 = .ok (.iaload, 1) := by decide +kernel
theorem dL_law_1122 : decode cL_law 1122 = .ok (.invokevirtual 150, 3) := by decide +kernel
theorem dL_law_1125 : decode cL_law 1125 = .ok (.if_icmp .eq 51, 3) := by decide +kernel
theorem dL_law_1128 : decode cL_law 1128 = .ok (.iconst 0, 1) := by decide +kernel
theorem dL_law_1129 : decode cL_law 1129 = .ok (.ireturn, 1) := by decide +kernel
theorem dL_law_1130 : decode cL_law 1130 = .ok (.aload_n 1, 1) := by decide +kernel
theorem dL_law_1131 : decode cL_law 1131 = .ok (.aload_n 0, 1) := by decide +kernel
theorem dL_law_1132 : decode cL_law 1132 = .ok (.iload_n 3, 1) := by decide +kernel
theorem dL_law_1133 : decode cL_law 1133 = .ok (.iconst 1, 1) := by decide +kernel
theorem dL_law_1134 : decode cL_law 1134 = .ok (.iadd, 1) := by decide +kernel
theorem dL_law_1135 : decode cL_law 1135 = .ok (.iaload, 1) := by decide +kernel
theorem dL_law_1136 : decode cL_law 1136 = .ok (.invokevirtual 151, 3) := by decide +kernel
theorem dL_law_1139 : decode cL_law 1139 = .ok (.aload_n 2, 1) := by decide +kernel
theorem dL_law_1140 : decode cL_law 1140 = .ok (.aload_n 0, 1) := by decide +kernel
theorem dL_law_1141 : decode cL_law 1141 = .ok (.iload_n 3, 1) := by decide +kernel
theorem dL_law_1142 : decode cL_law 1142 = .ok (.iconst 1, 1) := by decide +kernel
theorem dL_law_1143 : decode cL_law 1143 = .ok (.iadd, 1) := by decide +kernel
theorem dL_law_1144 : decode cL_law 1144 = .ok (.iaload, 1) := by decide +kernel
theorem dL_law_1145 : decode cL_law 1145 = .ok (.invokevirtual 154, 3) := by decide +kernel
theorem dL_law_1148 : decode cL_law 1148 = .ok (.if_icmp .eq 28, 3) := by decide +kernel
theorem dL_law_1151 : decode cL_law 1151 = .ok (.iconst 0, 1) := by decide +kernel
theorem dL_law_1152 : decode cL_law 1152 = .ok (.ireturn, 1) := by decide +kernel
theorem dL_law_1153 : decode cL_law 1153 = .ok (.aload_n 1, 1) := by decide +kernel
theorem dL_law_1154 : decode cL_law 1154 = .ok (.aload_n 0, 1) := by decide +kernel
theorem dL_law_1155 : decode cL_law 1155 = .ok (.iload_n 3, 1) := by decide +kernel
theorem dL_law_1156 : decode cL_law 1156 = .ok (.iconst 1, 1) := by decide +kernel
theorem dL_law_1157 : decode cL_law 1157 = .ok (.iadd, 1) := by decide +kernel
theorem dL_law_1158 : decode cL_law 1158 = .ok (.iaload, 1) := by decide +kernel
theorem dL_law_1159 : decode cL_law 1159 = .ok (.invokevirtual 155, 3) := by decide +kernel
theorem dL_law_1162 : decode cL_law 1162 = .ok (.aload_n 2, 1) := by decide +kernel
theorem dL_law_1163 : decode cL_law 1163 = .ok (.aload_n 0, 1) := by decide +kernel
theorem dL_law_1164 : decode cL_law 1164 = .ok (.iload_n 3, 1) := by decide +kernel
theorem dL_law_1165 : decode cL_law 1165 = .ok (.iconst 1, 1) := by decide +kernel
theorem dL_law_1166 : decode cL_law 1166 = .ok (.iadd, 1) := by decide +kernel
theorem dL_law_1167 : decode cL_law 1167 = .ok (.iaload, 1) := by decide +kernel
theorem dL_law_1168 : decode cL_law 1168 = .ok (.invokevirtual 158, 3) := by decide +kernel
theorem dL_law_1171 : decode cL_law 1171 = .ok (.if_icmp .eq 5, 3) := by decide +kernel
theorem dL_law_1174 : decode cL_law 1174 = .ok (.iconst 0, 1) := by decide +kernel
theorem dL_law_1175 : decode cL_law 1175 = .ok (.ireturn, 1) := by decide +kernel
theorem dL_law_1176 : decode cL_law 1176 = .ok (.iinc 3 6, 3) := by decide +kernel
theorem dL_law_1179 : decode cL_law 1179 = .ok (.goto (-1161), 3) := by decide +kernel
theorem dL_law_1182 : decode cL_law 1182 = .ok (.iconst 1, 1) := by decide +kernel
theorem dL_law_1183 : decode cL_law 1183 = .ok (.ireturn, 1) := by decide +kernel
theorem dX0_init_0 : decode cX0_init 0 = .ok (.aload_n 0, 1) := by decide +kernel
theorem dX0_init_1 : decode cX0_init 1 = .ok (.invokespecial 3, 3) := by decide +kernel
theorem dX0_init_4 : decode cX0_init 4 = .ok (.aload_n 0, 1) := by decide +kernel
theorem dX0_init_5 : decode cX0_init 5 = .ok (.bipush 10, 2) := by decide +kernel
theorem dX0_init_7 : decode cX0_init 7 = .ok (.newarray .int, 2) := by decide +kernel
theorem dX0_init_9 : decode cX0_init 9 = .ok (.putfield 9, 3) := by decide +kernel
theorem dX0_init_12 : decode cX0_init 12 = .ok (.aload_n 0, 1) := by decide +kernel
theorem dX0_init_13 : decode cX0_init 13 = .ok (.sipush 1024, 3) := by decide +kernel
theorem dX0_init_16 : decode cX0_init 16 = .ok (.newarray .int, 2) := by decide +kernel
theorem dX0_init_18 : decode cX0_init 18 = .ok (.putfield 15, 3) := by decide +kernel
theorem dX0_init_21 : decode cX0_init 21 = .ok (.aload_n 0, 1) := by decide +kernel
theorem dX0_init_22 : decode cX0_init 22 = .ok (.aload_n 1, 1) := by decide +kernel
theorem dX0_init_23 : decode cX0_init 23 = .ok (.putfield 18, 3) := by decide +kernel
theorem dX0_init_26 : decode cX0_init 26 = .ok (.return_, 1) := by decide +kernel
theorem dX0_partAll_0 : decode cX0_partAll 0 = .ok (.iconst 0, 1) := by decide +kernel
theorem dX0_partAll_1 : decode cX0_partAll 1 = .ok (.istore_n 1, 1) := by decide +kernel
theorem dX0_partAll_2 : decode cX0_partAll 2 = .ok (.iconst 0, 1) := by decide +kernel
theorem dX0_partAll_3 : decode cX0_partAll 3 = .ok (.istore_n 2, 1) := by decide +kernel
theorem dX0_partAll_4 : decode cX0_partAll 4 = .ok (.iconst 0, 1) := by decide +kernel
theorem dX0_partAll_5 : decode cX0_partAll 5 = .ok (.istore_n 3, 1) := by decide +kernel
theorem dX0_partAll_6 : decode cX0_partAll 6 = .ok (.iconst 0, 1) := by decide +kernel
theorem dX0_partAll_7 : decode cX0_partAll 7 = .ok (.istore 4, 2) := by decide +kernel
theorem dX0_partAll_9 : decode cX0_partAll 9 = .ok (.iload 4, 2) := by decide +kernel
theorem dX0_partAll_11 : decode cX0_partAll 11 = .ok (.aload_n 0, 1) := by decide +kernel
theorem dX0_partAll_12 : decode cX0_partAll 12 = .ok (.getfield 18, 3) := by decide +kernel
theorem dX0_partAll_15 : decode cX0_partAll 15 = .ok (.getfield 22, 3) := by decide +kernel
theorem dX0_partAll_18 : decode cX0_partAll 18 = .ok (.invokevirtual 28, 3) := by decide +kernel
theorem dX0_partAll_21 : decode cX0_partAll 21 = .ok (.if_icmp .ge 89, 3) := by decide +kernel
theorem dX0_partAll_24 : decode cX0_partAll 24 = .ok (.aload_n 0, 1) := by decide +kernel
theorem dX0_partAll_25 : decode cX0_partAll 25 = .ok (.iload_n 2, 1) := by decide +kernel
theorem dX0_partAll_26 : decode cX0_partAll 26 = .ok (.invokevirtual 34, 3) := by decide +kernel
theorem dX0_partAll_29 : decode cX0_partAll 29 = .ok (.istore 5, 2) := by decide +kernel
theorem dX0_partAll_31 : decode cX0_partAll 31 = .ok (.aload_n 0, 1) := by decide +kernel
theorem dX0_partAll_32 : decode cX0_partAll 32 = .ok (.getfield 18, 3) := by decide +kernel
theorem dX0_partAll_35 : decode cX0_partAll 35 = .ok (.iload 5, 2) := by decide +kernel
theorem dX0_partAll_37 : decode cX0_partAll 37 = .ok (.invokevirtual 38, 3) := by decide +kernel
theorem dX0_partAll_40 : decode cX0_partAll 40 = .ok (.istore 6, 2) := by decide +kernel
theorem dX0_partAll_42 : decode cX0_partAll 42 = .ok (.aload_n 0, 1) := by decide +kernel
theorem dX0_partAll_43 : decode cX0_partAll 43 = .ok (.iload 5, 2) := by decide +kernel
theorem dX0_partAll_45 : decode cX0_partAll 45 = .ok (.iload 6, 2) := by decide +kernel
theorem dX0_partAll_47 : decode cX0_partAll 47 = .ok (.iload_n 3, 1) := by decide +kernel
theorem dX0_partAll_48 : decode cX0_partAll 48 = .ok (.invokestatic 41, 3) := by decide +kernel
theorem dX0_partAll_51 : decode cX0_partAll 51 = .ok (.iload_n 2, 1) := by decide +kernel
theorem dX0_partAll_52 : decode cX0_partAll 52 = .ok (.invokevirtual 47, 3) := by decide +kernel
theorem dX0_partAll_55 : decode cX0_partAll 55 = .ok (.istore 7, 2) := by decide +kernel
theorem dX0_partAll_57 : decode cX0_partAll 57 = .ok (.iload 7, 2) := by decide +kernel
theorem dX0_partAll_59 : decode cX0_partAll 59 = .ok (.iconst (-1), 1) := by decide +kernel
theorem dX0_partAll_60 : decode cX0_partAll 60 = .ok (.if_icmp .eq 15, 3) := by decide +kernel
theorem dX0_partAll_63 : decode cX0_partAll 63 = .ok (.iload 5, 2) := by decide +kernel
theorem dX0_partAll_65 : decode cX0_partAll 65 = .ok (.ifCond .lt 10, 3) := by decide +kernel
theorem dX0_partAll_68 : decode cX0_partAll 68 = .ok (.iload 5, 2) := by decide +kernel
theorem dX0_partAll_70 : decode cX0_partAll 70 = .ok (.bipush 10, 2) := by decide +kernel
theorem dX0_partAll_72 : decode cX0_partAll 72 = .ok (.if_icmp .lt 5, 3) := by decide +kernel
theorem dX0_partAll_75 : decode cX0_partAll 75 = .ok (.iconst (-1), 1) := by decide +kernel
theorem dX0_partAll_76 : decode cX0_partAll 76 = .ok (.ireturn, 1) := by decide +kernel
theorem dX0_partAll_77 : decode cX0_partAll 77 = .ok (.aload_n 0, 1) := by decide +kernel
theorem dX0_partAll_78 : decode cX0_partAll 78 = .ok (.getfield 9, 3) := by decide +kernel
theorem dX0_partAll_81 : decode cX0_partAll 81 = .ok (.iload 5, 2) := by decide +kernel
theorem dX0_partAll_83 : decode cX0_partAll 83 = .ok (.iload 7, 2) := by decide +kernel
theorem dX0_partAll_85 : decode cX0_partAll 85 = .ok (.iastore, 1) := by decide +kernel
theorem dX0_partAll_86 : decode cX0_partAll 86 = .ok (.iload_n 1, 1) := by decide +kernel
theorem dX0_partAll_87 : decode cX0_partAll 87 = .ok (.iload 7, 2) := by decide +kernel
theorem dX0_partAll_89 : decode cX0_partAll 89 = .ok (.iload 6, 2) := by decide +kernel
theorem dX0_partAll_91 : decode cX0_partAll 91 = .ok (.isub, 1) := by decide +kernel
theorem dX0_partAll_92 : decode cX0_partAll 92 = .ok (.iadd, 1) := by decide +kernel
theorem dX0_partAll_93 : decode cX0_partAll 93 = .ok (.istore_n 1, 1) := by decide +kernel
theorem dX0_partAll_94 : decode cX0_partAll 94 = .ok (.iload_n 2, 1) := by decide +kernel
theorem dX0_partAll_95 : decode cX0_partAll 95 = .ok (.iconst 1, 1) := by decide +kernel
theorem dX0_partAll_96 : decode cX0_partAll 96 = .ok (.iload 5, 2) := by decide +kernel
theorem dX0_partAll_98 : decode cX0_partAll 98 = .ok (.ishl, 1) := by decide +kernel
theorem dX0_partAll_99 : decode cX0_partAll 99 = .ok (.ior, 1) := by decide +kernel
theorem dX0_partAll_100 : decode cX0_partAll 100 = .ok (.istore_n 2, 1) := by decide +kernel
theorem dX0_partAll_101 : decode cX0_partAll 101 = .ok (.iload 7, 2) := by decide +kernel
theorem dX0_partAll_103 : decode cX0_partAll 103 = .ok (.istore_n 3, 1) := by decide +kernel
theorem dX0_partAll_104 : decode cX0_partAll 104 = .ok (.iinc 4 1, 3) := by decide +kernel
theorem dX0_partAll_107 : decode cX0_partAll 107 = .ok (.goto (-98), 3) := by decide +kernel
theorem dX0_partAll_110 : decode cX0_partAll 110 = .ok (.iload_n 1, 1) := by decide +kernel
theorem dX0_partAll_111 : decode cX0_partAll 111 = .ok (.ireturn, 1) := by decide +kernel
theorem dX0_lowestBut_0 : decode cX0_lowestBut 0 = .ok (.iconst (-1), 1) := by decide +kernel
theorem dX0_lowestBut_1 : decode cX0_lowestBut 1 = .ok (.istore_n 2, 1) := by decide +kernel
theorem dX0_lowestBut_2 : decode cX0_lowestBut 2 = .ok (.iconst 0, 1) := by decide +kernel
theorem dX0_lowestBut_3 : decode cX0_lowestBut 3 = .ok (.istore_n 3, 1) := by decide +kernel
theorem dX0_lowestBut_4 : decode cX0_lowestBut 4 = .ok (.iload_n 3, 1) := by decide +kernel
theorem dX0_lowestBut_5 : decode cX0_lowestBut 5 = .ok (.aload_n 0, 1) := by decide +kernel
theorem dX0_lowestBut_6 : decode cX0_lowestBut 6 = .ok (.getfield 18, 3) := by decide +kernel
theorem dX0_lowestBut_9 : decode cX0_lowestBut 9 = .ok (.getfield 22, 3) := by decide +kernel
theorem dX0_lowestBut_12 : decode cX0_lowestBut 12 = .ok (.invokevirtual 28, 3) := by decide +kernel
theorem dX0_lowestBut_15 : decode cX0_lowestBut 15 = .ok (.if_icmp .ge 43, 3) := by decide +kernel
theorem dX0_lowestBut_18 : decode cX0_lowestBut 18 = .ok (.iload_n 1, 1) := by decide +kernel
theorem dX0_lowestBut_19 : decode cX0_lowestBut 19 = .ok (.iload_n 3, 1) := by decide +kernel
theorem dX0_lowestBut_20 : decode cX0_lowestBut 20 = .ok (.ishr, 1) := by decide +kernel
theorem dX0_lowestBut_21 : decode cX0_lowestBut 21 = .ok (.iconst 1, 1) := by decide +kernel
theorem dX0_lowestBut_22 : decode cX0_lowestBut 22 = .ok (.iand, 1) := by decide +kernel
theorem dX0_lowestBut_23 : decode cX0_lowestBut 23 = .ok (.ifCond .ne 29, 3) := by decide +kernel
theorem dX0_lowestBut_26 : decode cX0_lowestBut 26 = .ok (.iload_n 2, 1) := by decide +kernel
theorem dX0_lowestBut_27 : decode cX0_lowestBut 27 = .ok (.iconst (-1), 1) := by decide +kernel
theorem dX0_lowestBut_28 : decode cX0_lowestBut 28 = .ok (.if_icmp .eq 22, 3) := by decide +kernel
theorem dX0_lowestBut_31 : decode cX0_lowestBut 31 = .ok (.aload_n 0, 1) := by decide +kernel
theorem dX0_lowestBut_32 : decode cX0_lowestBut 32 = .ok (.getfield 18, 3) := by decide +kernel
theorem dX0_lowestBut_35 : decode cX0_lowestBut 35 = .ok (.iload_n 3, 1) := by decide +kernel
theorem dX0_lowestBut_36 : decode cX0_lowestBut 36 = .ok (.invokevirtual 38, 3) := by decide +kernel
theorem dX0_lowestBut_39 : decode cX0_lowestBut 39 = .ok (.aload_n 0, 1) := by decide +kernel
theorem dX0_lowestBut_40 : decode cX0_lowestBut 40 = .ok (.getfield 18, 3) := by decide +kernel
theorem dX0_lowestBut_43 : decode cX0_lowestBut 43 = .ok (.iload_n 2, 1) := by decide +kernel
theorem dX0_lowestBut_44 : decode cX0_lowestBut 44 = .ok (.invokevirtual 38, 3) := by decide +kernel
theorem dX0_lowestBut_47 : decode cX0_lowestBut 47 = .ok (.if_icmp .ge 5, 3) := by decide +kernel
theorem dX0_lowestBut_50 : decode cX0_lowestBut 50 = .ok (.iload_n 3, 1) := by decide +kernel
theorem dX0_lowestBut_51 : decode cX0_lowestBut 51 = .ok (.istore_n 2, 1) := by decide +kernel
theorem dX0_lowestBut_52 : decode cX0_lowestBut 52 = .ok (.iinc 3 1, 3) := by decide +kernel
theorem dX0_lowestBut_55 : decode cX0_lowestBut 55 = .ok (.goto (-51), 3) := by decide +kernel
theorem dX0_lowestBut_58 : decode cX0_lowestBut 58 = .ok (.iload_n 2, 1) := by decide +kernel
theorem dX0_lowestBut_59 : decode cX0_lowestBut 59 = .ok (.ireturn, 1) := by decide +kernel
theorem dX0_leastFree_0 : decode cX0_leastFree 0 = .ok (.iload_n 2, 1) := by decide +kernel
theorem dX0_leastFree_1 : decode cX0_leastFree 1 = .ok (.istore 4, 2) := by decide +kernel
theorem dX0_leastFree_3 : decode cX0_leastFree 3 = .ok (.iload 4, 2) := by decide +kernel
theorem dX0_leastFree_5 : decode cX0_leastFree 5 = .ok (.bipush 64, 2) := by decide +kernel
theorem dX0_leastFree_7 : decode cX0_leastFree 7 = .ok (.if_icmp .ge 23, 3) := by decide +kernel
theorem dX0_leastFree_10 : decode cX0_leastFree 10 = .ok (.aload_n 0, 1) := by decide +kernel
theorem dX0_leastFree_11 : decode cX0_leastFree 11 = .ok (.iload_n 1, 1) := by decide +kernel
theorem dX0_leastFree_12 : decode cX0_leastFree 12 = .ok (.iload 4, 2) := by decide +kernel
theorem dX0_leastFree_14 : decode cX0_leastFree 14 = .ok (.iload_n 3, 1) := by decide +kernel
theorem dX0_leastFree_15 : decode cX0_leastFree 15 = .ok (.invokevirtual 51, 3) := by decide +kernel
theorem dX0_leastFree_18 : decode cX0_leastFree 18 = .ok (.ifCond .ne 6, 3) := by decide +kernel
theorem dX0_leastFree_21 : decode cX0_leastFree 21 = .ok (.iload 4, 2) := by decide +kernel
theorem dX0_leastFree_23 : decode cX0_leastFree 23 = .ok (.ireturn, 1) := by decide +kernel
theorem dX0_leastFree_24 : decode cX0_leastFree 24 = .ok (.iinc 4 1, 3) := by decide +kernel
theorem dX0_leastFree_27 : decode cX0_leastFree 27 = .ok (.goto (-24), 3) := by decide +kernel
theorem dX0_leastFree_30 : decode cX0_leastFree 30 = .ok (.iconst (-1), 1) := by decide +kernel
theorem dX0_leastFree_31 : decode cX0_leastFree 31 = .ok (.ireturn, 1) := by decide +kernel
theorem dX0_isWokenWithOne_0 : decode cX0_isWokenWithOne 0 = .ok (.iconst 0, 1) := by decide +kernel
theorem dX0_isWokenWithOne_1 : decode cX0_isWokenWithOne 1 = .ok (.istore 4, 2) := by decide +kernel
theorem dX0_isWokenWithOne_3 : decode cX0_isWokenWithOne 3 = .ok (.iload 4, 2) := by decide +kernel
theorem dX0_isWokenWithOne_5 : decode cX0_isWokenWithOne 5 = .ok (.bipush 10, 2) := by decide +kernel
theorem dX0_isWokenWithOne_7 : decode cX0_isWokenWithOne 7 = .ok (.if_icmp .ge 31, 3) := by decide +kernel
theorem dX0_isWokenWithOne_10 : decode cX0_isWokenWithOne 10 = .ok (.iload_n 3, 1) := by decide +kernel
theorem dX0_isWokenWithOne_11 : decode cX0_isWokenWithOne 11 = .ok (.iload 4, 2) := by decide +kernel
theorem dX0_isWokenWithOne_13 : decode cX0_isWokenWithOne 13 = .ok (.ishr, 1) := by decide +kernel
theorem dX0_isWokenWithOne_14 : decode cX0_isWokenWithOne 14 = .ok (.iconst 1, 1) := by decide +kernel
theorem dX0_isWokenWithOne_15 : decode cX0_isWokenWithOne 15 = .ok (.iand, 1) := by decide +kernel
theorem dX0_isWokenWithOne_16 : decode cX0_isWokenWithOne 16 = .ok (.ifCond .eq 16, 3) := by decide +kernel
theorem dX0_isWokenWithOne_19 : decode cX0_isWokenWithOne 19 = .ok (.aload_n 0, 1) := by decide +kernel
theorem dX0_isWokenWithOne_20 : decode cX0_isWokenWithOne 20 = .ok (.iload_n 1, 1) := by decide +kernel
theorem dX0_isWokenWithOne_21 : decode cX0_isWokenWithOne 21 = .ok (.iload_n 2, 1) := by decide +kernel
theorem dX0_isWokenWithOne_22 : decode cX0_isWokenWithOne 22 = .ok (.iload 4, 2) := by decide +kernel
theorem dX0_isWokenWithOne_24 : decode cX0_isWokenWithOne 24 = .ok (.invokevirtual 55, 3) := by decide +kernel
theorem dX0_isWokenWithOne_27 : decode cX0_isWokenWithOne 27 = .ok (.ifCond .eq 5, 3) := by decide +kernel
theorem dX0_isWokenWithOne_30 : decode cX0_isWokenWithOne 30 = .ok (.iconst 1, 1) := by decide +kernel
theorem dX0_isWokenWithOne_31 : decode cX0_isWokenWithOne 31 = .ok (.ireturn, 1) := by decide +kernel
theorem dX0_isWokenWithOne_32 : decode cX0_isWokenWithOne 32 = .ok (.iinc 4 1, 3) := by decide +kernel
theorem dX0_isWokenWithOne_35 : decode cX0_isWokenWithOne 35 = .ok (.goto (-32), 3) := by decide +kernel
theorem dX0_isWokenWithOne_38 : decode cX0_isWokenWithOne 38 = .ok (.iconst 0, 1) := by decide +kernel
theorem dX0_isWokenWithOne_39 : decode cX0_isWokenWithOne 39 = .ok (.ireturn, 1) := by decide +kernel
theorem dX0_isWokenWith_0 : decode cX0_isWokenWith 0 = .ok (.aload_n 0, 1) := by decide +kernel
theorem dX0_isWokenWith_1 : decode cX0_isWokenWith 1 = .ok (.getfield 18, 3) := by decide +kernel
theorem dX0_isWokenWith_4 : decode cX0_isWokenWith 4 = .ok (.getfield 22, 3) := by decide +kernel
theorem dX0_isWokenWith_7 : decode cX0_isWokenWith 7 = .ok (.astore 4, 2) := by decide +kernel
theorem dX0_isWokenWith_9 : decode cX0_isWokenWith 9 = .ok (.aload 4, 2) := by decide +kernel
theorem dX0_isWokenWith_11 : decode cX0_isWokenWith 11 = .ok (.getfield 58, 3) := by decide +kernel
theorem dX0_isWokenWith_14 : decode cX0_isWokenWith 14 = .ok (.iload_n 1, 1) := by decide +kernel
theorem dX0_isWokenWith_15 : decode cX0_isWokenWith 15 = .ok (.invokevirtual 62, 3) := by decide +kernel
theorem dX0_isWokenWith_18 : decode cX0_isWokenWith 18 = .ok (.aload 4, 2) := by decide +kernel
theorem dX0_isWokenWith_20 : decode cX0_isWokenWith 20 = .ok (.getfield 58, 3) := by decide +kernel
theorem dX0_isWokenWith_23 : decode cX0_isWokenWith 23 = .ok (.iload_n 3, 1) := by decide +kernel
theorem dX0_isWokenWith_24 : decode cX0_isWokenWith 24 = .ok (.invokevirtual 62, 3) := by decide +kernel
theorem dX0_isWokenWith_27 : decode cX0_isWokenWith 27 = .ok (.isub, 1) := by decide +kernel
theorem dX0_isWokenWith_28 : decode cX0_isWokenWith 28 = .ok (.invokestatic 67, 3) := by decide +kernel
theorem dX0_isWokenWith_31 : decode cX0_isWokenWith 31 = .ok (.iconst 2, 1) := by decide +kernel
theorem dX0_isWokenWith_32 : decode cX0_isWokenWith 32 = .ok (.aload 4, 2) := by decide +kernel
theorem dX0_isWokenWith_34 : decode cX0_isWokenWith 34 = .ok (.getfield 70, 3) := by decide +kernel
theorem dX0_isWokenWith_37 : decode cX0_isWokenWith 37 = .ok (.iconst 1, 1) := by decide +kernel
theorem dX0_isWokenWith_38 : decode cX0_isWokenWith 38 = .ok (.isub, 1) := by decide +kernel
theorem dX0_isWokenWith_39 : decode cX0_isWokenWith 39 = .ok (.imul, 1) := by decide +kernel
theorem dX0_isWokenWith_40 : decode cX0_isWokenWith 40 = .ok (.if_icmp .le 5, 3) := by decide +kernel
theorem dX0_isWokenWith_43 : decode cX0_isWokenWith 43 = .ok (.iconst 0, 1) := by decide +kernel
theorem dX0_isWokenWith_44 : decode cX0_isWokenWith 44 = .ok (.ireturn, 1) := by decide +kernel
theorem dX0_isWokenWith_45 : decode cX0_isWokenWith 45 = .ok (.iload_n 3, 1) := by decide +kernel
theorem dX0_isWokenWith_46 : decode cX0_isWokenWith 46 = .ok (.ifCond .lt 18, 3) := by decide +kernel
theorem dX0_isWokenWith_49 : decode cX0_isWokenWith 49 = .ok (.iload_n 3, 1) := by decide +kernel
theorem dX0_isWokenWith_50 : decode cX0_isWokenWith 50 = .ok (.bipush 10, 2) := by decide +kernel
theorem dX0_isWokenWith_52 : decode cX0_isWokenWith 52 = .ok (.if_icmp .ge 12, 3) := by decide +kernel
theorem dX0_isWokenWith_55 : decode cX0_isWokenWith 55 = .ok (.aload_n 0, 1) := by decide +kernel
theorem dX0_isWokenWith_56 : decode cX0_isWokenWith 56 = .ok (.getfield 9, 3) := by decide +kernel
theorem dX0_isWokenWith_59 : decode cX0_isWokenWith 59 = .ok (.iload_n 3, 1) := by decide +kernel
theorem dX0_isWokenWith_60 : decode cX0_isWokenWith 60 = .ok (.iaload, 1) := by decide +kernel
theorem dX0_isWokenWith_61 : decode cX0_isWokenWith 61 = .ok (.goto 4, 3) := by decide +kernel
theorem dX0_isWokenWith_64 : decode cX0_isWokenWith 64 = .ok (.iconst 0, 1) := by decide +kernel
theorem dX0_isWokenWith_65 : decode cX0_isWokenWith 65 = .ok (.istore 5, 2) := by decide +kernel
theorem dX0_isWokenWith_67 : decode cX0_isWokenWith 67 = .ok (.iload_n 2, 1) := by decide +kernel
theorem dX0_isWokenWith_68 : decode cX0_isWokenWith 68 = .ok (.aload 4, 2) := by decide +kernel
theorem dX0_isWokenWith_70 : decode cX0_isWokenWith 70 = .ok (.getfield 74, 3) := by decide +kernel
theorem dX0_isWokenWith_73 : decode cX0_isWokenWith 73 = .ok (.iload_n 1, 1) := by decide +kernel
theorem dX0_isWokenWith_74 : decode cX0_isWokenWith 74 = .ok (.invokevirtual 62, 3) := by decide +kernel
theorem dX0_isWokenWith_77 : decode cX0_isWokenWith 77 = .ok (.aload_n 0, 1) := by decide +kernel
theorem dX0_isWokenWith_78 : decode cX0_isWokenWith 78 = .ok (.getfield 18, 3) := by decide +kernel
theorem dX0_isWokenWith_81 : decode cX0_isWokenWith 81 = .ok (.getfield 77, 3) := by decide +kernel
theorem dX0_isWokenWith_84 : decode cX0_isWokenWith 84 = .ok (.imul, 1) := by decide +kernel
theorem dX0_isWokenWith_85 : decode cX0_isWokenWith 85 = .ok (.isub, 1) := by decide +kernel
theorem dX0_isWokenWith_86 : decode cX0_isWokenWith 86 = .ok (.istore 6, 2) := by decide +kernel
theorem dX0_isWokenWith_88 : decode cX0_isWokenWith 88 = .ok (.iload 5, 2) := by decide +kernel
theorem dX0_isWokenWith_90 : decode cX0_isWokenWith 90 = .ok (.aload 4, 2) := by decide +kernel
theorem dX0_isWokenWith_92 : decode cX0_isWokenWith 92 = .ok (.getfield 74, 3) := by decide +kernel
theorem dX0_isWokenWith_95 : decode cX0_isWokenWith 95 = .ok (.iload_n 3, 1) := by decide +kernel
theorem dX0_isWokenWith_96 : decode cX0_isWokenWith 96 = .ok (.invokevirtual 62, 3) := by decide +kernel
theorem dX0_isWokenWith_99 : decode cX0_isWokenWith 99 = .ok (.aload_n 0, 1) := by decide +kernel
theorem dX0_isWokenWith_100 : decode cX0_isWokenWith 100 = .ok (.getfield 18, 3) := by decide +kernel
theorem dX0_isWokenWith_103 : decode cX0_isWokenWith 103 = .ok (.getfield 77, 3) := by decide +kernel
theorem dX0_isWokenWith_106 : decode cX0_isWokenWith 106 = .ok (.imul, 1) := by decide +kernel
theorem dX0_isWokenWith_107 : decode cX0_isWokenWith 107 = .ok (.isub, 1) := by decide +kernel
theorem dX0_isWokenWith_108 : decode cX0_isWokenWith 108 = .ok (.istore 7, 2) := by decide +kernel
theorem dX0_isWokenWith_110 : decode cX0_isWokenWith 110 = .ok (.iload 6, 2) := by decide +kernel
theorem dX0_isWokenWith_112 : decode cX0_isWokenWith 112 = .ok (.aload 4, 2) := by decide +kernel
theorem dX0_isWokenWith_114 : decode cX0_isWokenWith 114 = .ok (.getfield 80, 3) := by decide +kernel
theorem dX0_isWokenWith_117 : decode cX0_isWokenWith 117 = .ok (.iload_n 1, 1) := by decide +kernel
theorem dX0_isWokenWith_118 : decode cX0_isWokenWith 118 = .ok (.invokevirtual 62, 3) := by decide +kernel
theorem dX0_isWokenWith_121 : decode cX0_isWokenWith 121 = .ok (.isub, 1) := by decide +kernel
theorem dX0_isWokenWith_122 : decode cX0_isWokenWith 122 = .ok (.iload 7, 2) := by decide +kernel
theorem dX0_isWokenWith_124 : decode cX0_isWokenWith 124 = .ok (.aload 4, 2) := by decide +kernel
theorem dX0_isWokenWith_126 : decode cX0_isWokenWith 126 = .ok (.getfield 80, 3) := by decide +kernel
theorem dX0_isWokenWith_129 : decode cX0_isWokenWith 129 = .ok (.iload_n 3, 1) := by decide +kernel
theorem dX0_isWokenWith_130 : decode cX0_isWokenWith 130 = .ok (.invokevirtual 62, 3) := by decide +kernel
theorem dX0_isWokenWith_133 : decode cX0_isWokenWith 133 = .ok (.isub, 1) := by decide +kernel
theorem dX0_isWokenWith_134 : decode cX0_isWokenWith 134 = .ok (.invokestatic 41, 3) := by decide +kernel
theorem dX0_isWokenWith_137 : decode cX0_isWokenWith 137 = .ok (.istore 8, 2) := by decide +kernel
theorem dX0_isWokenWith_139 : decode cX0_isWokenWith 139 = .ok (.iload 6, 2) := by decide +kernel
theorem dX0_isWokenWith_141 : decode cX0_isWokenWith 141 = .ok (.aload 4, 2) := by decide +kernel
theorem dX0_isWokenWith_143 : decode cX0_isWokenWith 143 = .ok (.getfield 80, 3) := by decide +kernel
theorem dX0_isWokenWith_146 : decode cX0_isWokenWith 146 = .ok (.iload_n 1, 1) := by decide +kernel
theorem dX0_isWokenWith_147 : decode cX0_isWokenWith 147 = .ok (.invokevirtual 62, 3) := by decide +kernel
theorem dX0_isWokenWith_150 : decode cX0_isWokenWith 150 = .ok (.iadd, 1) := by decide +kernel
theorem dX0_isWokenWith_151 : decode cX0_isWokenWith 151 = .ok (.iload 7, 2) := by decide +kernel
theorem dX0_isWokenWith_153 : decode cX0_isWokenWith 153 = .ok (.aload 4, 2) := by decide +kernel
theorem dX0_isWokenWith_155 : decode cX0_isWokenWith 155 = .ok (.getfield 80, 3) := by decide +kernel
theorem dX0_isWokenWith_158 : decode cX0_isWokenWith 158 = .ok (.iload_n 3, 1) := by decide +kernel
theorem dX0_isWokenWith_159 : decode cX0_isWokenWith 159 = .ok (.invokevirtual 62, 3) := by decide +kernel
theorem dX0_isWokenWith_162 : decode cX0_isWokenWith 162 = .ok (.iadd, 1) := by decide +kernel
theorem dX0_isWokenWith_163 : decode cX0_isWokenWith 163 = .ok (.invokestatic 83, 3) := by decide +kernel
theorem dX0_isWokenWith_166 : decode cX0_isWokenWith 166 = .ok (.istore 9, 2) := by decide +kernel
theorem dX0_isWokenWith_168 : decode cX0_isWokenWith 168 = .ok (.iload 8, 2) := by decide +kernel
theorem dX0_isWokenWith_170 : decode cX0_isWokenWith 170 = .ok (.iconst 0, 1) := by decide +kernel
theorem dX0_isWokenWith_171 : decode cX0_isWokenWith 171 = .ok (.invokestatic 41, 3) := by decide +kernel
theorem dX0_isWokenWith_174 : decode cX0_isWokenWith 174 = .ok (.iload 9, 2) := by decide +kernel
theorem dX0_isWokenWith_176 : decode cX0_isWokenWith 176 = .ok (.bipush 63, 2) := by decide +kernel
theorem dX0_isWokenWith_178 : decode cX0_isWokenWith 178 = .ok (.invokestatic 83, 3) := by decide +kernel
theorem dX0_isWokenWith_181 : decode cX0_isWokenWith 181 = .ok (.if_icmp .gt 7, 3) := by decide +kernel
theorem dX0_isWokenWith_184 : decode cX0_isWokenWith 184 = .ok (.iconst 1, 1) := by decide +kernel
theorem dX0_isWokenWith_185 : decode cX0_isWokenWith 185 = .ok (.goto 4, 3) := by decide +kernel
theorem dX0_isWokenWith_188 : decode cX0_isWokenWith 188 = .ok (.iconst 0, 1) := by decide +kernel
theorem dX0_isWokenWith_189 : decode cX0_isWokenWith 189 = .ok (.ireturn, 1) := by decide +kernel
theorem dX0_leastSum_0 : decode cX0_leastSum 0 = .ok (.aload_n 0, 1) := by decide +kernel
theorem dX0_leastSum_1 : decode cX0_leastSum 1 = .ok (.getfield 18, 3) := by decide +kernel
theorem dX0_leastSum_4 : decode cX0_leastSum 4 = .ok (.getfield 22, 3) := by decide +kernel
theorem dX0_leastSum_7 : decode cX0_leastSum 7 = .ok (.invokevirtual 86, 3) := by decide +kernel
theorem dX0_leastSum_10 : decode cX0_leastSum 10 = .ok (.istore 4, 2) := by decide +kernel
theorem dX0_leastSum_12 : decode cX0_leastSum 12 = .ok (.iload 4, 2) := by decide +kernel
theorem dX0_leastSum_14 : decode cX0_leastSum 14 = .ok (.istore 5, 2) := by decide +kernel
theorem dX0_leastSum_16 : decode cX0_leastSum 16 = .ok (.iload 5, 2) := by decide +kernel
theorem dX0_leastSum_18 : decode cX0_leastSum 18 = .ok (.ifCond .lt 59, 3) := by decide +kernel
theorem dX0_leastSum_21 : decode cX0_leastSum 21 = .ok (.iload 5, 2) := by decide +kernel
theorem dX0_leastSum_23 : decode cX0_leastSum 23 = .ok (.invokestatic 89, 3) := by decide +kernel
theorem dX0_leastSum_26 : decode cX0_leastSum 26 = .ok (.istore 6, 2) := by decide +kernel
theorem dX0_leastSum_28 : decode cX0_leastSum 28 = .ok (.iload 5, 2) := by decide +kernel
theorem dX0_leastSum_30 : decode cX0_leastSum 30 = .ok (.sipush 1024, 3) := by decide +kernel
theorem dX0_leastSum_33 : decode cX0_leastSum 33 = .ok (.if_icmp .ge 38, 3) := by decide +kernel
theorem dX0_leastSum_36 : decode cX0_leastSum 36 = .ok (.iload 6, 2) := by decide +kernel
theorem dX0_leastSum_38 : decode cX0_leastSum 38 = .ok (.iload_n 3, 1) := by decide +kernel
theorem dX0_leastSum_39 : decode cX0_leastSum 39 = .ok (.if_icmp .gt 32, 3) := by decide +kernel
theorem dX0_leastSum_42 : decode cX0_leastSum 42 = .ok (.aload_n 0, 1) := by decide +kernel
theorem dX0_leastSum_43 : decode cX0_leastSum 43 = .ok (.getfield 15, 3) := by decide +kernel
theorem dX0_leastSum_46 : decode cX0_leastSum 46 = .ok (.iload 5, 2) := by decide +kernel
theorem dX0_leastSum_48 : decode cX0_leastSum 48 = .ok (.iload 6, 2) := by decide +kernel
theorem dX0_leastSum_50 : decode cX0_leastSum 50 = .ok (.iload_n 3, 1) := by decide +kernel
theorem dX0_leastSum_51 : decode cX0_leastSum 51 = .ok (.if_icmp .ne 7, 3) := by decide +kernel
theorem dX0_leastSum_54 : decode cX0_leastSum 54 = .ok (.iconst 0, 1) := by decide +kernel
theorem dX0_leastSum_55 : decode cX0_leastSum 55 = .ok (.goto 15, 3) := by decide +kernel
theorem dX0_leastSum_58 : decode cX0_leastSum 58 = .ok (.aload_n 0, 1) := by decide +kernel
theorem dX0_leastSum_59 : decode cX0_leastSum 59 = .ok (.iload 5, 2) := by decide +kernel
theorem dX0_leastSum_61 : decode cX0_leastSum 61 = .ok (.iload_n 1, 1) := by decide +kernel
theorem dX0_leastSum_62 : decode cX0_leastSum 62 = .ok (.iload 6, 2) := by decide +kernel
theorem dX0_leastSum_64 : decode cX0_leastSum 64 = .ok (.iload_n 2, 1) := by decide +kernel
theorem dX0_leastSum_65 : decode cX0_leastSum 65 = .ok (.imul, 1) := by decide +kernel
theorem dX0_leastSum_66 : decode cX0_leastSum 66 = .ok (.iadd, 1) := by decide +kernel
theorem dX0_leastSum_67 : decode cX0_leastSum 67 = .ok (.invokevirtual 94, 3) := by decide +kernel
theorem dX0_leastSum_70 : decode cX0_leastSum 70 = .ok (.iastore, 1) := by decide +kernel
theorem dX0_leastSum_71 : decode cX0_leastSum 71 = .ok (.iinc 5 (-1), 3) := by decide +kernel
theorem dX0_leastSum_74 : decode cX0_leastSum 74 = .ok (.goto (-58), 3) := by decide +kernel
theorem dX0_leastSum_77 : decode cX0_leastSum 77 = .ok (.aload_n 0, 1) := by decide +kernel
theorem dX0_leastSum_78 : decode cX0_leastSum 78 = .ok (.getfield 15, 3) := by decide +kernel
theorem dX0_leastSum_81 : decode cX0_leastSum 81 = .ok (.iconst 0, 1) := by decide +kernel
theorem dX0_leastSum_82 : decode cX0_leastSum 82 = .ok (.iaload, 1) := by decide +kernel
theorem dX0_leastSum_83 : decode cX0_leastSum 83 = .ok (.ldc 97, 2) := by decide +kernel
theorem dX0_leastSum_85 : decode cX0_leastSum 85 = .ok (.if_icmp .ge 12, 3) := by decide +kernel
theorem dX0_leastSum_88 : decode cX0_leastSum 88 = .ok (.aload_n 0, 1) := by decide +kernel
theorem dX0_leastSum_89 : decode cX0_leastSum 89 = .ok (.getfield 15, 3) := by decide +kernel
theorem dX0_leastSum_92 : decode cX0_leastSum 92 = .ok (.iconst 0, 1) := by decide +kernel
theorem dX0_leastSum_93 : decode cX0_leastSum 93 = .ok (.iaload, 1) := by decide +kernel
theorem dX0_leastSum_94 : decode cX0_leastSum 94 = .ok (.goto 4, 3) := by decide +kernel
theorem dX0_leastSum_97 : decode cX0_leastSum 97 = .ok (.iconst (-1), 1) := by decide +kernel
theorem dX0_leastSum_98 : decode cX0_leastSum 98 = .ok (.ireturn, 1) := by decide +kernel
theorem dX0_leastRest_0 : decode cX0_leastRest 0 = .ok (.ldc 97, 2) := by decide +kernel
theorem dX0_leastRest_2 : decode cX0_leastRest 2 = .ok (.istore_n 3, 1) := by decide +kernel
theorem dX0_leastRest_3 : decode cX0_leastRest 3 = .ok (.iconst 0, 1) := by decide +kernel
theorem dX0_leastRest_4 : decode cX0_leastRest 4 = .ok (.istore 4, 2) := by decide +kernel
theorem dX0_leastRest_6 : decode cX0_leastRest 6 = .ok (.iload 4, 2) := by decide +kernel
theorem dX0_leastRest_8 : decode cX0_leastRest 8 = .ok (.aload_n 0, 1) := by decide +kernel
theorem dX0_leastRest_9 : decode cX0_leastRest 9 = .ok (.getfield 18, 3) := by decide +kernel
theorem dX0_leastRest_12 : decode cX0_leastRest 12 = .ok (.getfield 22, 3) := by decide +kernel
theorem dX0_leastRest_15 : decode cX0_leastRest 15 = .ok (.invokevirtual 28, 3) := by decide +kernel
theorem dX0_leastRest_18 : decode cX0_leastRest 18 = .ok (.if_icmp .ge 22, 3) := by decide +kernel
theorem dX0_leastRest_21 : decode cX0_leastRest 21 = .ok (.iload_n 3, 1) := by decide +kernel
theorem dX0_leastRest_22 : decode cX0_leastRest 22 = .ok (.aload_n 0, 1) := by decide +kernel
theorem dX0_leastRest_23 : decode cX0_leastRest 23 = .ok (.iload_n 1, 1) := by decide +kernel
theorem dX0_leastRest_24 : decode cX0_leastRest 24 = .ok (.iload 4, 2) := by decide +kernel
theorem dX0_leastRest_26 : decode cX0_leastRest 26 = .ok (.iload_n 2, 1) := by decide +kernel
theorem dX0_leastRest_27 : decode cX0_leastRest 27 = .ok (.invokevirtual 98, 3) := by decide +kernel
theorem dX0_leastRest_30 : decode cX0_leastRest 30 = .ok (.invokestatic 83, 3) := by decide +kernel
theorem dX0_leastRest_33 : decode cX0_leastRest 33 = .ok (.istore_n 3, 1) := by decide +kernel
theorem dX0_leastRest_34 : decode cX0_leastRest 34 = .ok (.iinc 4 1, 3) := by decide +kernel
theorem dX0_leastRest_37 : decode cX0_leastRest 37 = .ok (.goto (-31), 3) := by decide +kernel
theorem dX0_leastRest_40 : decode cX0_leastRest 40 = .ok (.iload_n 3, 1) := by decide +kernel
theorem dX0_leastRest_41 : decode cX0_leastRest 41 = .ok (.ireturn, 1) := by decide +kernel
theorem dX0_restWith_0 : decode cX0_restWith 0 = .ok (.iload_n 1, 1) := by decide +kernel
theorem dX0_restWith_1 : decode cX0_restWith 1 = .ok (.iconst 1, 1) := by decide +kernel
theorem dX0_restWith_2 : decode cX0_restWith 2 = .ok (.iload_n 2, 1) := by decide +kernel
theorem dX0_restWith_3 : decode cX0_restWith 3 = .ok (.ishl, 1) := by decide +kernel
theorem dX0_restWith_4 : decode cX0_restWith 4 = .ok (.ior, 1) := by decide +kernel
theorem dX0_restWith_5 : decode cX0_restWith 5 = .ok (.istore 4, 2) := by decide +kernel
theorem dX0_restWith_7 : decode cX0_restWith 7 = .ok (.iload 4, 2) := by decide +kernel
theorem dX0_restWith_9 : decode cX0_restWith 9 = .ok (.iload_n 1, 1) := by decide +kernel
theorem dX0_restWith_10 : decode cX0_restWith 10 = .ok (.if_icmp .eq 23, 3) := by decide +kernel
theorem dX0_restWith_13 : decode cX0_restWith 13 = .ok (.iload 4, 2) := by decide +kernel
theorem dX0_restWith_15 : decode cX0_restWith 15 = .ok (.sipush 1024, 3) := by decide +kernel
theorem dX0_restWith_18 : decode cX0_restWith 18 = .ok (.if_icmp .ge 15, 3) := by decide +kernel
theorem dX0_restWith_21 : decode cX0_restWith 21 = .ok (.aload_n 0, 1) := by decide +kernel
theorem dX0_restWith_22 : decode cX0_restWith 22 = .ok (.getfield 18, 3) := by decide +kernel
theorem dX0_restWith_25 : decode cX0_restWith 25 = .ok (.iload_n 2, 1) := by decide +kernel
theorem dX0_restWith_26 : decode cX0_restWith 26 = .ok (.invokevirtual 38, 3) := by decide +kernel
theorem dX0_restWith_29 : decode cX0_restWith 29 = .ok (.iload_n 3, 1) := by decide +kernel
theorem dX0_restWith_30 : decode cX0_restWith 30 = .ok (.if_icmp .le 6, 3) := by decide +kernel
theorem dX0_restWith_33 : decode cX0_restWith 33 = .ok (.ldc 97, 2) := by decide +kernel
theorem dX0_restWith_35 : decode cX0_restWith 35 = .ok (.ireturn, 1) := by decide +kernel
theorem dX0_restWith_36 : decode cX0_restWith 36 = .ok (.iload_n 3, 1) := by decide +kernel
theorem dX0_restWith_37 : decode cX0_restWith 37 = .ok (.aload_n 0, 1) := by decide +kernel
theorem dX0_restWith_38 : decode cX0_restWith 38 = .ok (.getfield 18, 3) := by decide +kernel
theorem dX0_restWith_41 : decode cX0_restWith 41 = .ok (.iload_n 2, 1) := by decide +kernel
theorem dX0_restWith_42 : decode cX0_restWith 42 = .ok (.invokevirtual 38, 3) := by decide +kernel
theorem dX0_restWith_45 : decode cX0_restWith 45 = .ok (.isub, 1) := by decide +kernel
theorem dX0_restWith_46 : decode cX0_restWith 46 = .ok (.aload_n 0, 1) := by decide +kernel
theorem dX0_restWith_47 : decode cX0_restWith 47 = .ok (.getfield 15, 3) := by decide +kernel
theorem dX0_restWith_50 : decode cX0_restWith 50 = .ok (.iload 4, 2) := by decide +kernel
theorem dX0_restWith_52 : decode cX0_restWith 52 = .ok (.iaload, 1) := by decide +kernel
theorem dX0_restWith_53 : decode cX0_restWith 53 = .ok (.iadd, 1) := by decide +kernel
theorem dX0_restWith_54 : decode cX0_restWith 54 = .ok (.ireturn, 1) := by decide +kernel
theorem dX0_lampOfTuned_0 : decode cX0_lampOfTuned 0 = .ok (.iconst 0, 1) := by decide +kernel
theorem dX0_lampOfTuned_1 : decode cX0_lampOfTuned 1 = .ok (.istore 4, 2) := by decide +kernel
theorem dX0_lampOfTuned_3 : decode cX0_lampOfTuned 3 = .ok (.iconst (-1), 1) := by decide +kernel
theorem dX0_lampOfTuned_4 : decode cX0_lampOfTuned 4 = .ok (.istore 5, 2) := by decide +kernel
theorem dX0_lampOfTuned_6 : decode cX0_lampOfTuned 6 = .ok (.iconst 0, 1) := by decide +kernel
theorem dX0_lampOfTuned_7 : decode cX0_lampOfTuned 7 = .ok (.istore 6, 2) := by decide +kernel
theorem dX0_lampOfTuned_9 : decode cX0_lampOfTuned 9 = .ok (.iload 6, 2) := by decide +kernel
theorem dX0_lampOfTuned_11 : decode cX0_lampOfTuned 11 = .ok (.iload_n 3, 1) := by decide +kernel
theorem dX0_lampOfTuned_12 : decode cX0_lampOfTuned 12 = .ok (.if_icmp .gt 40, 3) := by decide +kernel
theorem dX0_lampOfTuned_15 : decode cX0_lampOfTuned 15 = .ok (.aload_n 0, 1) := by decide +kernel
theorem dX0_lampOfTuned_16 : decode cX0_lampOfTuned 16 = .ok (.iload 4, 2) := by decide +kernel
theorem dX0_lampOfTuned_18 : decode cX0_lampOfTuned 18 = .ok (.iload_n 1, 1) := by decide +kernel
theorem dX0_lampOfTuned_19 : decode cX0_lampOfTuned 19 = .ok (.iload 6, 2) := by decide +kernel
theorem dX0_lampOfTuned_21 : decode cX0_lampOfTuned 21 = .ok (.iload_n 2, 1) := by decide +kernel
theorem dX0_lampOfTuned_22 : decode cX0_lampOfTuned 22 = .ok (.imul, 1) := by decide +kernel
theorem dX0_lampOfTuned_23 : decode cX0_lampOfTuned 23 = .ok (.iadd, 1) := by decide +kernel
theorem dX0_lampOfTuned_24 : decode cX0_lampOfTuned 24 = .ok (.invokevirtual 101, 3) := by decide +kernel
theorem dX0_lampOfTuned_27 : decode cX0_lampOfTuned 27 = .ok (.istore 5, 2) := by decide +kernel
theorem dX0_lampOfTuned_29 : decode cX0_lampOfTuned 29 = .ok (.iload 5, 2) := by decide +kernel
theorem dX0_lampOfTuned_31 : decode cX0_lampOfTuned 31 = .ok (.iconst (-1), 1) := by decide +kernel
theorem dX0_lampOfTuned_32 : decode cX0_lampOfTuned 32 = .ok (.if_icmp .ne 5, 3) := by decide +kernel
theorem dX0_lampOfTuned_35 : decode cX0_lampOfTuned 35 = .ok (.iconst (-1), 1) := by decide +kernel
theorem dX0_lampOfTuned_36 : decode cX0_lampOfTuned 36 = .ok (.ireturn, 1) := by decide +kernel
theorem dX0_lampOfTuned_37 : decode cX0_lampOfTuned 37 = .ok (.iload 4, 2) := by decide +kernel
theorem dX0_lampOfTuned_39 : decode cX0_lampOfTuned 39 = .ok (.iconst 1, 1) := by decide +kernel
theorem dX0_lampOfTuned_40 : decode cX0_lampOfTuned 40 = .ok (.iload 5, 2) := by decide +kernel
theorem dX0_lampOfTuned_42 : decode cX0_lampOfTuned 42 = .ok (.ishl, 1) := by decide +kernel
theorem dX0_lampOfTuned_43 : decode cX0_lampOfTuned 43 = .ok (.ior, 1) := by decide +kernel
theorem dX0_lampOfTuned_44 : decode cX0_lampOfTuned 44 = .ok (.istore 4, 2) := by decide +kernel
theorem dX0_lampOfTuned_46 : decode cX0_lampOfTuned 46 = .ok (.iinc 6 1, 3) := by decide +kernel
theorem dX0_lampOfTuned_49 : decode cX0_lampOfTuned 49 = .ok (.goto (-40), 3) := by decide +kernel
theorem dX0_lampOfTuned_52 : decode cX0_lampOfTuned 52 = .ok (.iload 5, 2) := by decide +kernel
theorem dX0_lampOfTuned_54 : decode cX0_lampOfTuned 54 = .ok (.ireturn, 1) := by decide +kernel
theorem dX0_firstKeepingSum_0 : decode cX0_firstKeepingSum 0 = .ok (.iconst 0, 1) := by decide +kernel
theorem dX0_firstKeepingSum_1 : decode cX0_firstKeepingSum 1 = .ok (.istore_n 3, 1) := by decide +kernel
theorem dX0_firstKeepingSum_2 : decode cX0_firstKeepingSum 2 = .ok (.iload_n 3, 1) := by decide +kernel
theorem dX0_firstKeepingSum_3 : decode cX0_firstKeepingSum 3 = .ok (.aload_n 0, 1) := by decide +kernel
theorem dX0_firstKeepingSum_4 : decode cX0_firstKeepingSum 4 = .ok (.getfield 18, 3) := by decide +kernel
theorem dX0_firstKeepingSum_7 : decode cX0_firstKeepingSum 7 = .ok (.getfield 22, 3) := by decide +kernel
theorem dX0_firstKeepingSum_10 : decode cX0_firstKeepingSum 10 = .ok (.invokevirtual 28, 3) := by decide +kernel
theorem dX0_firstKeepingSum_13 : decode cX0_firstKeepingSum 13 = .ok (.if_icmp .ge 34, 3) := by decide +kernel
theorem dX0_firstKeepingSum_16 : decode cX0_firstKeepingSum 16 = .ok (.iload_n 1, 1) := by decide +kernel
theorem dX0_firstKeepingSum_17 : decode cX0_firstKeepingSum 17 = .ok (.sipush 1024, 3) := by decide +kernel
theorem dX0_firstKeepingSum_20 : decode cX0_firstKeepingSum 20 = .ok (.if_icmp .ge 21, 3) := by decide +kernel
theorem dX0_firstKeepingSum_23 : decode cX0_firstKeepingSum 23 = .ok (.aload_n 0, 1) := by decide +kernel
theorem dX0_firstKeepingSum_24 : decode cX0_firstKeepingSum 24 = .ok (.iload_n 1, 1) := by decide +kernel
theorem dX0_firstKeepingSum_25 : decode cX0_firstKeepingSum 25 = .ok (.iload_n 3, 1) := by decide +kernel
theorem dX0_firstKeepingSum_26 : decode cX0_firstKeepingSum 26 = .ok (.iload_n 2, 1) := by decide +kernel
theorem dX0_firstKeepingSum_27 : decode cX0_firstKeepingSum 27 = .ok (.invokevirtual 98, 3) := by decide +kernel
theorem dX0_firstKeepingSum_30 : decode cX0_firstKeepingSum 30 = .ok (.aload_n 0, 1) := by decide +kernel
theorem dX0_firstKeepingSum_31 : decode cX0_firstKeepingSum 31 = .ok (.getfield 15, 3) := by decide +kernel
theorem dX0_firstKeepingSum_34 : decode cX0_firstKeepingSum 34 = .ok (.iload_n 1, 1) := by decide +kernel
theorem dX0_firstKeepingSum_35 : decode cX0_firstKeepingSum 35 = .ok (.iaload, 1) := by decide +kernel
theorem dX0_firstKeepingSum_36 : decode cX0_firstKeepingSum 36 = .ok (.if_icmp .ne 5, 3) := by decide +kernel
theorem dX0_firstKeepingSum_39 : decode cX0_firstKeepingSum 39 = .ok (.iload_n 3, 1) := by decide +kernel
theorem dX0_firstKeepingSum_40 : decode cX0_firstKeepingSum 40 = .ok (.ireturn, 1) := by decide +kernel
theorem dX0_firstKeepingSum_41 : decode cX0_firstKeepingSum 41 = .ok (.iinc 3 1, 3) := by decide +kernel
theorem dX0_firstKeepingSum_44 : decode cX0_firstKeepingSum 44 = .ok (.goto (-42), 3) := by decide +kernel
theorem dX0_firstKeepingSum_47 : decode cX0_firstKeepingSum 47 = .ok (.iconst (-1), 1) := by decide +kernel
theorem dX0_firstKeepingSum_48 : decode cX0_firstKeepingSum 48 = .ok (.ireturn, 1) := by decide +kernel
theorem dX1_init_0 : decode cX1_init 0 = .ok (.aload_n 0, 1) := by decide +kernel
theorem dX1_init_1 : decode cX1_init 1 = .ok (.invokespecial 3, 3) := by decide +kernel
theorem dX1_init_4 : decode cX1_init 4 = .ok (.aload_n 0, 1) := by decide +kernel
theorem dX1_init_5 : decode cX1_init 5 = .ok (.sipush 3200, 3) := by decide +kernel
theorem dX1_init_8 : decode cX1_init 8 = .ok (.newarray .int, 2) := by decide +kernel
theorem dX1_init_10 : decode cX1_init 10 = .ok (.putfield 9, 3) := by decide +kernel
theorem dX1_init_13 : decode cX1_init 13 = .ok (.return_, 1) := by decide +kernel
theorem dX1_listen_0 : decode cX1_listen 0 = .ok (.aload_n 0, 1) := by decide +kernel
theorem dX1_listen_1 : decode cX1_listen 1 = .ok (.getfield 9, 3) := by decide +kernel
theorem dX1_listen_4 : decode cX1_listen 4 = .ok (.iconst 0, 1) := by decide +kernel
theorem dX1_listen_5 : decode cX1_listen 5 = .ok (.invokestatic 15, 3) := by decide +kernel
theorem dX1_listen_8 : decode cX1_listen 8 = .ok (.iconst 0, 1) := by decide +kernel
theorem dX1_listen_9 : decode cX1_listen 9 = .ok (.istore_n 3, 1) := by decide +kernel
theorem dX1_listen_10 : decode cX1_listen 10 = .ok (.iload_n 3, 1) := by decide +kernel
theorem dX1_listen_11 : decode cX1_listen 11 = .ok (.aload_n 1, 1) := by decide +kernel
theorem dX1_listen_12 : decode cX1_listen 12 = .ok (.getfield 21, 3) := by decide +kernel
theorem dX1_listen_15 : decode cX1_listen 15 = .ok (.invokevirtual 27, 3) := by decide +kernel
theorem dX1_listen_18 : decode cX1_listen 18 = .ok (.if_icmp .ge 85, 3) := by decide +kernel
theorem dX1_listen_21 : decode cX1_listen 21 = .ok (.aload_n 1, 1) := by decide +kernel
theorem dX1_listen_22 : decode cX1_listen 22 = .ok (.getfield 21, 3) := by decide +kernel
theorem dX1_listen_25 : decode cX1_listen 25 = .ok (.getfield 33, 3) := by decide +kernel
theorem dX1_listen_28 : decode cX1_listen 28 = .ok (.iload_n 3, 1) := by decide +kernel
theorem dX1_listen_29 : decode cX1_listen 29 = .ok (.invokevirtual 37, 3) := by decide +kernel
theorem dX1_listen_32 : decode cX1_listen 32 = .ok (.istore 4, 2) := by decide +kernel
theorem dX1_listen_34 : decode cX1_listen 34 = .ok (.iload 4, 2) := by decide +kernel
theorem dX1_listen_36 : decode cX1_listen 36 = .ok (.iload_n 2, 1) := by decide +kernel
theorem dX1_listen_37 : decode cX1_listen 37 = .ok (.iadd, 1) := by decide +kernel
theorem dX1_listen_38 : decode cX1_listen 38 = .ok (.iconst 1, 1) := by decide +kernel
theorem dX1_listen_39 : decode cX1_listen 39 = .ok (.isub, 1) := by decide +kernel
theorem dX1_listen_40 : decode cX1_listen 40 = .ok (.bipush 49, 2) := by decide +kernel
theorem dX1_listen_42 : decode cX1_listen 42 = .ok (.invokestatic 43, 3) := by decide +kernel
theorem dX1_listen_45 : decode cX1_listen 45 = .ok (.istore 5, 2) := by decide +kernel
theorem dX1_listen_47 : decode cX1_listen 47 = .ok (.iload 4, 2) := by decide +kernel
theorem dX1_listen_49 : decode cX1_listen 49 = .ok (.iload_n 2, 1) := by decide +kernel
theorem dX1_listen_50 : decode cX1_listen 50 = .ok (.isub, 1) := by decide +kernel
theorem dX1_listen_51 : decode cX1_listen 51 = .ok (.iconst 1, 1) := by decide +kernel
theorem dX1_listen_52 : decode cX1_listen 52 = .ok (.iadd, 1) := by decide +kernel
theorem dX1_listen_53 : decode cX1_listen 53 = .ok (.iconst 0, 1) := by decide +kernel
theorem dX1_listen_54 : decode cX1_listen 54 = .ok (.invokestatic 49, 3) := by decide +kernel
theorem dX1_listen_57 : decode cX1_listen 57 = .ok (.istore 6, 2) := by decide +kernel
theorem dX1_listen_59 : decode cX1_listen 59 = .ok (.iload 6, 2) := by decide +kernel
theorem dX1_listen_61 : decode cX1_listen 61 = .ok (.iload 5, 2) := by decide +kernel
theorem dX1_listen_63 : decode cX1_listen 63 = .ok (.if_icmp .gt 34, 3) := by decide +kernel
theorem dX1_listen_66 : decode cX1_listen 66 = .ok (.aload_n 0, 1) := by decide +kernel
theorem dX1_listen_67 : decode cX1_listen 67 = .ok (.iload 6, 2) := by decide +kernel
theorem dX1_listen_69 : decode cX1_listen 69 = .ok (.aload_n 1, 1) := by decide +kernel
theorem dX1_listen_70 : decode cX1_listen 70 = .ok (.iload_n 3, 1) := by decide +kernel
theorem dX1_listen_71 : decode cX1_listen 71 = .ok (.invokevirtual 52, 3) := by decide +kernel
theorem dX1_listen_74 : decode cX1_listen 74 = .ok (.aload_n 1, 1) := by decide +kernel
theorem dX1_listen_75 : decode cX1_listen 75 = .ok (.getfield 21, 3) := by decide +kernel
theorem dX1_listen_78 : decode cX1_listen 78 = .ok (.getfield 55, 3) := by decide +kernel
theorem dX1_listen_81 : decode cX1_listen 81 = .ok (.iload_n 3, 1) := by decide +kernel
theorem dX1_listen_82 : decode cX1_listen 82 = .ok (.invokevirtual 37, 3) := by decide +kernel
theorem dX1_listen_85 : decode cX1_listen 85 = .ok (.iconst 1, 1) := by decide +kernel
theorem dX1_listen_86 : decode cX1_listen 86 = .ok (.iload_n 3, 1) := by decide +kernel
theorem dX1_listen_87 : decode cX1_listen 87 = .ok (.ishl, 1) := by decide +kernel
theorem dX1_listen_88 : decode cX1_listen 88 = .ok (.invokevirtual 58, 3) := by decide +kernel
theorem dX1_listen_91 : decode cX1_listen 91 = .ok (.iinc 6 1, 3) := by decide +kernel
theorem dX1_listen_94 : decode cX1_listen 94 = .ok (.goto (-35), 3) := by decide +kernel
theorem dX1_listen_97 : decode cX1_listen 97 = .ok (.iinc 3 1, 3) := by decide +kernel
theorem dX1_listen_100 : decode cX1_listen 100 = .ok (.goto (-90), 3) := by decide +kernel
theorem dX1_listen_103 : decode cX1_listen 103 = .ok (.return_, 1) := by decide +kernel
theorem dX1_hearFrom_0 : decode cX1_hearFrom 0 = .ok (.iload_n 2, 1) := by decide +kernel
theorem dX1_hearFrom_1 : decode cX1_hearFrom 1 = .ok (.iload_n 3, 1) := by decide +kernel
theorem dX1_hearFrom_2 : decode cX1_hearFrom 2 = .ok (.iadd, 1) := by decide +kernel
theorem dX1_hearFrom_3 : decode cX1_hearFrom 3 = .ok (.bipush 63, 2) := by decide +kernel
theorem dX1_hearFrom_5 : decode cX1_hearFrom 5 = .ok (.invokestatic 43, 3) := by decide +kernel
theorem dX1_hearFrom_8 : decode cX1_hearFrom 8 = .ok (.istore 5, 2) := by decide +kernel
theorem dX1_hearFrom_10 : decode cX1_hearFrom 10 = .ok (.iload_n 2, 1) := by decide +kernel
theorem dX1_hearFrom_11 : decode cX1_hearFrom 11 = .ok (.iload_n 3, 1) := by decide +kernel
theorem dX1_hearFrom_12 : decode cX1_hearFrom 12 = .ok (.isub, 1) := by decide +kernel
theorem dX1_hearFrom_13 : decode cX1_hearFrom 13 = .ok (.iconst 0, 1) := by decide +kernel
theorem dX1_hearFrom_14 : decode cX1_hearFrom 14 = .ok (.invokestatic 49, 3) := by decide +kernel
theorem dX1_hearFrom_17 : decode cX1_hearFrom 17 = .ok (.istore 6, 2) := by decide +kernel
theorem dX1_hearFrom_19 : decode cX1_hearFrom 19 = .ok (.iload 6, 2) := by decide +kernel
theorem dX1_hearFrom_21 : decode cX1_hearFrom 21 = .ok (.iload 5, 2) := by decide +kernel
theorem dX1_hearFrom_23 : decode cX1_hearFrom 23 = .ok (.if_icmp .gt 26, 3) := by decide +kernel
theorem dX1_hearFrom_26 : decode cX1_hearFrom 26 = .ok (.aload_n 0, 1) := by decide +kernel
theorem dX1_hearFrom_27 : decode cX1_hearFrom 27 = .ok (.getfield 9, 3) := by decide +kernel
theorem dX1_hearFrom_30 : decode cX1_hearFrom 30 = .ok (.iload_n 1, 1) := by decide +kernel
theorem dX1_hearFrom_31 : decode cX1_hearFrom 31 = .ok (.bipush 64, 2) := by decide +kernel
theorem dX1_hearFrom_33 : decode cX1_hearFrom 33 = .ok (.imul, 1) := by decide +kernel
theorem dX1_hearFrom_34 : decode cX1_hearFrom 34 = .ok (.iload 6, 2) := by decide +kernel
theorem dX1_hearFrom_36 : decode cX1_hearFrom 36 = .ok (.iadd, 1) := by decide +kernel
theorem dX1_hearFrom_37 : decode cX1_hearFrom 37 = .ok (.dup2, 1) := by decide +kernel
theorem dX1_hearFrom_38 : decode cX1_hearFrom 38 = .ok (.iaload, 1) := by decide +kernel
theorem dX1_hearFrom_39 : decode cX1_hearFrom 39 = .ok (.iload 4, 2) := by decide +kernel
theorem dX1_hearFrom_41 : decode cX1_hearFrom 41 = .ok (.ior, 1) := by decide +kernel
theorem dX1_hearFrom_42 : decode cX1_hearFrom 42 = .ok (.iastore, 1) := by decide +kernel
theorem dX1_hearFrom_43 : decode cX1_hearFrom 43 = .ok (.iinc 6 1, 3) := by decide +kernel
theorem dX1_hearFrom_46 : decode cX1_hearFrom 46 = .ok (.goto (-27), 3) := by decide +kernel
theorem dX1_hearFrom_49 : decode cX1_hearFrom 49 = .ok (.return_, 1) := by decide +kernel
theorem dX1_at_0 : decode cX1_at 0 = .ok (.iload_n 1, 1) := by decide +kernel
theorem dX1_at_1 : decode cX1_at 1 = .ok (.iconst 0, 1) := by decide +kernel
theorem dX1_at_2 : decode cX1_at 2 = .ok (.bipush 49, 2) := by decide +kernel
theorem dX1_at_4 : decode cX1_at 4 = .ok (.invokestatic 62, 3) := by decide +kernel
theorem dX1_at_7 : decode cX1_at 7 = .ok (.ifCond .eq 17, 3) := by decide +kernel
theorem dX1_at_10 : decode cX1_at 10 = .ok (.iload_n 2, 1) := by decide +kernel
theorem dX1_at_11 : decode cX1_at 11 = .ok (.iconst 0, 1) := by decide +kernel
theorem dX1_at_12 : decode cX1_at 12 = .ok (.bipush 63, 2) := by decide +kernel
theorem dX1_at_14 : decode cX1_at 14 = .ok (.invokestatic 62, 3) := by decide +kernel
theorem dX1_at_17 : decode cX1_at 17 = .ok (.ifCond .eq 7, 3) := by decide +kernel
theorem dX1_at_20 : decode cX1_at 20 = .ok (.iconst 1, 1) := by decide +kernel
theorem dX1_at_21 : decode cX1_at 21 = .ok (.goto 4, 3) := by decide +kernel
theorem dX1_at_24 : decode cX1_at 24 = .ok (.iconst 0, 1) := by decide +kernel
theorem dX1_at_25 : decode cX1_at 25 = .ok (.istore_n 3, 1) := by decide +kernel
theorem dX1_at_26 : decode cX1_at 26 = .ok (.iload_n 3, 1) := by decide +kernel
theorem dX1_at_27 : decode cX1_at 27 = .ok (.ifCond .eq 17, 3) := by decide +kernel
theorem dX1_at_30 : decode cX1_at 30 = .ok (.aload_n 0, 1) := by decide +kernel
theorem dX1_at_31 : decode cX1_at 31 = .ok (.getfield 9, 3) := by decide +kernel
theorem dX1_at_34 : decode cX1_at 34 = .ok (.iload_n 1, 1) := by decide +kernel
theorem dX1_at_35 : decode cX1_at 35 = .ok (.bipush 64, 2) := by decide +kernel
theorem dX1_at_37 : decode cX1_at 37 = .ok (.imul, 1) := by decide +kernel
theorem dX1_at_38 : decode cX1_at 38 = .ok (.iload_n 2, 1) := by decide +kernel
theorem dX1_at_39 : decode cX1_at 39 = .ok (.iadd, 1) := by decide +kernel
theorem dX1_at_40 : decode cX1_at 40 = .ok (.iaload, 1) := by decide +kernel
theorem dX1_at_41 : decode cX1_at 41 = .ok (.goto 4, 3) := by decide +kernel
theorem dX1_at_44 : decode cX1_at 44 = .ok (.iconst 0, 1) := by decide +kernel
theorem dX1_at_45 : decode cX1_at 45 = .ok (.ireturn, 1) := by decide +kernel
theorem dX1_hasJust_0 : decode cX1_hasJust 0 = .ok (.iconst 0, 1) := by decide +kernel
theorem dX1_hasJust_1 : decode cX1_hasJust 1 = .ok (.istore_n 3, 1) := by decide +kernel
theorem dX1_hasJust_2 : decode cX1_hasJust 2 = .ok (.iload_n 3, 1) := by decide +kernel
theorem dX1_hasJust_3 : decode cX1_hasJust 3 = .ok (.bipush 64, 2) := by decide +kernel
theorem dX1_hasJust_5 : decode cX1_hasJust 5 = .ok (.if_icmp .ge 21, 3) := by decide +kernel
theorem dX1_hasJust_8 : decode cX1_hasJust 8 = .ok (.aload_n 0, 1) := by decide +kernel
theorem dX1_hasJust_9 : decode cX1_hasJust 9 = .ok (.iload_n 1, 1) := by decide +kernel
theorem dX1_hasJust_10 : decode cX1_hasJust 10 = .ok (.iload_n 3, 1) := by decide +kernel
theorem dX1_hasJust_11 : decode cX1_hasJust 11 = .ok (.invokevirtual 66, 3) := by decide +kernel
theorem dX1_hasJust_14 : decode cX1_hasJust 14 = .ok (.iload_n 2, 1) := by decide +kernel
theorem dX1_hasJust_15 : decode cX1_hasJust 15 = .ok (.if_icmp .ne 5, 3) := by decide +kernel
theorem dX1_hasJust_18 : decode cX1_hasJust 18 = .ok (.iconst 1, 1) := by decide +kernel
theorem dX1_hasJust_19 : decode cX1_hasJust 19 = .ok (.ireturn, 1) := by decide +kernel
theorem dX1_hasJust_20 : decode cX1_hasJust 20 = .ok (.iinc 3 1, 3) := by decide +kernel
theorem dX1_hasJust_23 : decode cX1_hasJust 23 = .ok (.goto (-21), 3) := by decide +kernel
theorem dX1_hasJust_26 : decode cX1_hasJust 26 = .ok (.iconst 0, 1) := by decide +kernel
theorem dX1_hasJust_27 : decode cX1_hasJust 27 = .ok (.ireturn, 1) := by decide +kernel
theorem dX10_init_0 : decode cX10_init 0 = .ok (.aload_n 0, 1) := by decide +kernel
theorem dX10_init_1 : decode cX10_init 1 = .ok (.invokespecial 3, 3) := by decide +kernel
theorem dX10_init_4 : decode cX10_init 4 = .ok (.aload_n 0, 1) := by decide +kernel
theorem dX10_init_5 : decode cX10_init 5 = .ok (.new 9, 3) := by decide +kernel
theorem dX10_init_8 : decode cX10_init 8 = .ok (.dup, 1) := by decide +kernel
theorem dX10_init_9 : decode cX10_init 9 = .ok (.sipush 400, 3) := by decide +kernel
theorem dX10_init_12 : decode cX10_init 12 = .ok (.invokespecial 11, 3) := by decide +kernel
theorem dX10_init_15 : decode cX10_init 15 = .ok (.putfield 14, 3) := by decide +kernel
theorem dX10_init_18 : decode cX10_init 18 = .ok (.aload_n 0, 1) := by decide +kernel
theorem dX10_init_19 : decode cX10_init 19 = .ok (.new 18, 3) := by decide +kernel
theorem dX10_init_22 : decode cX10_init 22 = .ok (.dup, 1) := by decide +kernel
theorem dX10_init_23 : decode cX10_init 23 = .ok (.aload_n 0, 1) := by decide +kernel
theorem dX10_init_24 : decode cX10_init 24 = .ok (.getfield 14, 3) := by decide +kernel
theorem dX10_init_27 : decode cX10_init 27 = .ok (.invokespecial 20, 3) := by decide +kernel
theorem dX10_init_30 : decode cX10_init 30 = .ok (.putfield 23, 3) := by decide +kernel
theorem dX10_init_33 : decode cX10_init 33 = .ok (.aload_n 0, 1) := by decide +kernel
theorem dX10_init_34 : decode cX10_init 34 = .ok (.new 27, 3) := by decide +kernel
theorem dX10_init_37 : decode cX10_init 37 = .ok (.dup, 1) := by decide +kernel
theorem dX10_init_38 : decode cX10_init 38 = .ok (.invokespecial 29, 3) := by decide +kernel
theorem dX10_init_41 : decode cX10_init 41 = .ok (.putfield 30, 3) := by decide +kernel
theorem dX10_init_44 : decode cX10_init 44 = .ok (.aload_n 0, 1) := by decide +kernel
theorem dX10_init_45 : decode cX10_init 45 = .ok (.new 34, 3) := by decide +kernel
theorem dX10_init_48 : decode cX10_init 48 = .ok (.dup, 1) := by decide +kernel
theorem dX10_init_49 : decode cX10_init 49 = .ok (.invokespecial 36, 3) := by decide +kernel
theorem dX10_init_52 : decode cX10_init 52 = .ok (.putfield 37, 3) := by decide +kernel
theorem dX10_init_55 : decode cX10_init 55 = .ok (.aload_n 0, 1) := by decide +kernel
theorem dX10_init_56 : decode cX10_init 56 = .ok (.new 9, 3) := by decide +kernel
theorem dX10_init_59 : decode cX10_init 59 = .ok (.dup, 1) := by decide +kernel
theorem dX10_init_60 : decode cX10_init 60 = .ok (.bipush 30, 2) := by decide +kernel
theorem dX10_init_62 : decode cX10_init 62 = .ok (.invokespecial 11, 3) := by decide +kernel
theorem dX10_init_65 : decode cX10_init 65 = .ok (.putfield 41, 3) := by decide +kernel
theorem dX10_init_68 : decode cX10_init 68 = .ok (.aload_n 0, 1) := by decide +kernel
theorem dX10_init_69 : decode cX10_init 69 = .ok (.new 44, 3) := by decide +kernel
theorem dX10_init_72 : decode cX10_init 72 = .ok (.dup, 1) := by decide +kernel
theorem dX10_init_73 : decode cX10_init 73 = .ok (.aload_n 0, 1) := by decide +kernel
theorem dX10_init_74 : decode cX10_init 74 = .ok (.getfield 30, 3) := by decide +kernel
theorem dX10_init_77 : decode cX10_init 77 = .ok (.invokespecial 46, 3) := by decide +kernel
theorem dX10_init_80 : decode cX10_init 80 = .ok (.putfield 49, 3) := by decide +kernel
theorem dX10_init_83 : decode cX10_init 83 = .ok (.aload_n 0, 1) := by decide +kernel
theorem dX10_init_84 : decode cX10_init 84 = .ok (.new 44, 3) := by decide +kernel
theorem dX10_init_87 : decode cX10_init 87 = .ok (.dup, 1) := by decide +kernel
theorem dX10_init_88 : decode cX10_init 88 = .ok (.aload_n 0, 1) := by decide +kernel
theorem dX10_init_89 : decode cX10_init 89 = .ok (.getfield 30, 3) := by decide +kernel
theorem dX10_init_92 : decode cX10_init 92 = .ok (.invokespecial 46, 3) := by decide +kernel
theorem dX10_init_95 : decode cX10_init 95 = .ok (.putfield 53, 3) := by decide +kernel
theorem dX10_init_98 : decode cX10_init 98 = .ok (.aload_n 0, 1) := by decide +kernel
theorem dX10_init_99 : decode cX10_init 99 = .ok (.new 44, 3) := by decide +kernel
theorem dX10_init_102 : decode cX10_init 102 = .ok (.dup, 1) := by decide +kernel
theorem dX10_init_103 : decode cX10_init 103 = .ok (.aload_n 0, 1) := by decide +kernel
theorem dX10_init_104 : decode cX10_init 104 = .ok (.getfield 30, 3) := by decide +kernel
theorem dX10_init_107 : decode cX10_init 107 = .ok (.invokespecial 46, 3) := by decide +kernel
theorem dX10_init_110 : decode cX10_init 110 = .ok (.putfield 56, 3) := by decide +kernel
theorem dX10_init_113 : decode cX10_init 113 = .ok (.aload_n 0, 1) := by decide +kernel
theorem dX10_init_114 : decode cX10_init 114 = .ok (.new 44, 3) := by decide +kernel
theorem dX10_init_117 : decode cX10_init 117 = .ok (.dup, 1) := by decide +kernel
theorem dX10_init_118 : decode cX10_init 118 = .ok (.aload_n 0, 1) := by decide +kernel
theorem dX10_init_119 : decode cX10_init 119 = .ok (.getfield 30, 3) := by decide +kernel
theorem dX10_init_122 : decode cX10_init 122 = .ok (.invokespecial 46, 3) := by decide +kernel
theorem dX10_init_125 : decode cX10_init 125 = .ok (.putfield 59, 3) := by decide +kernel
theorem dX10_init_128 : decode cX10_init 128 = .ok (.aload_n 0, 1) := by decide +kernel
theorem dX10_init_129 : decode cX10_init 129 = .ok (.new 9, 3) := by decide +kernel
theorem dX10_init_132 : decode cX10_init 132 = .ok (.dup, 1) := by decide +kernel
theorem dX10_init_133 : decode cX10_init 133 = .ok (.bipush 8, 2) := by decide +kernel
theorem dX10_init_135 : decode cX10_init 135 = .ok (.invokespecial 11, 3) := by decide +kernel
theorem dX10_init_138 : decode cX10_init 138 = .ok (.putfield 62, 3) := by decide +kernel
theorem dX10_init_141 : decode cX10_init 141 = .ok (.aload_n 0, 1) := by decide +kernel
theorem dX10_init_142 : decode cX10_init 142 = .ok (.new 9, 3) := by decide +kernel
theorem dX10_init_145 : decode cX10_init 145 = .ok (.dup, 1) := by decide +kernel
theorem dX10_init_146 : decode cX10_init 146 = .ok (.bipush 40, 2) := by decide +kernel
theorem dX10_init_148 : decode cX10_init 148 = .ok (.invokespecial 11, 3) := by decide +kernel
theorem dX10_init_151 : decode cX10_init 151 = .ok (.putfield 65, 3) := by decide +kernel
theorem dX10_init_154 : decode cX10_init 154 = .ok (.aload_n 0, 1) := by decide +kernel
theorem dX10_init_155 : decode cX10_init 155 = .ok (.new 68, 3) := by decide +kernel
theorem dX10_init_158 : decode cX10_init 158 = .ok (.dup, 1) := by decide +kernel
theorem dX10_init_159 : decode cX10_init 159 = .ok (.invokespecial 70, 3) := by decide +kernel
theorem dX10_init_162 : decode cX10_init 162 = .ok (.putfield 71, 3) := by decide +kernel
theorem dX10_init_165 : decode cX10_init 165 = .ok (.aload_n 0, 1) := by decide +kernel
theorem dX10_init_166 : decode cX10_init 166 = .ok (.new 75, 3) := by decide +kernel
theorem dX10_init_169 : decode cX10_init 169 = .ok (.dup, 1) := by decide +kernel
theorem dX10_init_170 : decode cX10_init 170 = .ok (.aload_n 0, 1) := by decide +kernel
theorem dX10_init_171 : decode cX10_init 171 = .ok (.getfield 71, 3) := by decide +kernel
theorem dX10_init_174 : decode cX10_init 174 = .ok (.invokespecial 77, 3) := by decide +kernel
theorem dX10_init_177 : decode cX10_init 177 = .ok (.putfield 80, 3) := by decide +kernel
theorem dX10_init_180 : decode cX10_init 180 = .ok (.aload_n 0, 1) := by decide +kernel
theorem dX10_init_181 : decode cX10_init 181 = .ok (.new 84, 3) := by decide +kernel
theorem dX10_init_184 : decode cX10_init 184 = .ok (.dup, 1) := by decide +kernel
theorem dX10_init_185 : decode cX10_init 185 = .ok (.aload_n 0, 1) := by decide +kernel
theorem dX10_init_186 : decode cX10_init 186 = .ok (.getfield 71, 3) := by decide +kernel
theorem dX10_init_189 : decode cX10_init 189 = .ok (.invokespecial 86, 3) := by decide +kernel
theorem dX10_init_192 : decode cX10_init 192 = .ok (.putfield 87, 3) := by decide +kernel
theorem dX10_init_195 : decode cX10_init 195 = .ok (.aload_n 0, 1) := by decide +kernel
theorem dX10_init_196 : decode cX10_init 196 = .ok (.new 91, 3) := by decide +kernel
theorem dX10_init_199 : decode cX10_init 199 = .ok (.dup, 1) := by decide +kernel
theorem dX10_init_200 : decode cX10_init 200 = .ok (.aload_n 0, 1) := by decide +kernel
theorem dX10_init_201 : decode cX10_init 201 = .ok (.getfield 49, 3) := by decide +kernel
theorem dX10_init_204 : decode cX10_init 204 = .ok (.invokespecial 93, 3) := by decide +kernel
theorem dX10_init_207 : decode cX10_init 207 = .ok (.putfield 96, 3) := by decide +kernel
theorem dX10_init_210 : decode cX10_init 210 = .ok (.aload_n 0, 1) := by decide +kernel
theorem dX10_init_211 : decode cX10_init 211 = .ok (.getfield 30, 3) := by decide +kernel
theorem dX10_init_214 : decode cX10_init 214 = .ok (.invokevirtual 100, 3) := by decide +kernel
theorem dX10_init_217 : decode cX10_init 217 = .ok (.aload_n 0, 1) := by decide +kernel
theorem dX10_init_218 : decode cX10_init 218 = .ok (.getfield 49, 3) := by decide +kernel
theorem dX10_init_221 : decode cX10_init 221 = .ok (.invokevirtual 103, 3) := by decide +kernel
theorem dX10_init_224 : decode cX10_init 224 = .ok (.return_, 1) := by decide +kernel
theorem dX10_feed_0 : decode cX10_feed 0 = .ok (.iload_n 1, 1) := by decide +kernel
theorem dX10_feed_1 : decode cX10_feed 1 = .ok (.iconst 1, 1) := by decide +kernel
theorem dX10_feed_2 : decode cX10_feed 2 = .ok (.if_icmp .lt 9, 3) := by decide +kernel
theorem dX10_feed_5 : decode cX10_feed 5 = .ok (.iload_n 1, 1) := by decide +kernel
theorem dX10_feed_6 : decode cX10_feed 6 = .ok (.bipush 8, 2) := by decide +kernel
theorem dX10_feed_8 : decode cX10_feed 8 = .ok (.if_icmp .le 7, 3) := by decide +kernel
theorem dX10_feed_11 : decode cX10_feed 11 = .ok (.sipush (-1002), 3) := by decide +kernel
theorem dX10_feed_14 : decode cX10_feed 14 = .ok (.ireturn, 1) := by decide +kernel
theorem dX10_feed_15 : decode cX10_feed 15 = .ok (.aload_n 0, 1) := by decide +kernel
theorem dX10_feed_16 : decode cX10_feed 16 = .ok (.getfield 14, 3) := by decide +kernel
theorem dX10_feed_19 : decode cX10_feed 19 = .ok (.invokevirtual 106, 3) := by decide +kernel
theorem dX10_feed_22 : decode cX10_feed 22 = .ok (.iload_n 1, 1) := by decide +kernel
theorem dX10_feed_23 : decode cX10_feed 23 = .ok (.iadd, 1) := by decide +kernel
theorem dX10_feed_24 : decode cX10_feed 24 = .ok (.sipush 400, 3) := by decide +kernel
theorem dX10_feed_27 : decode cX10_feed 27 = .ok (.if_icmp .le 7, 3) := by decide +kernel
theorem dX10_feed_30 : decode cX10_feed 30 = .ok (.sipush (-1004), 3) := by decide +kernel
theorem dX10_feed_33 : decode cX10_feed 33 = .ok (.ireturn, 1) := by decide +kernel
theorem dX10_feed_34 : decode cX10_feed 34 = .ok (.iload_n 1, 1) := by decide +kernel
theorem dX10_feed_35 : decode cX10_feed 35 = .ok (.iconst 1, 1) := by decide +kernel
theorem dX10_feed_36 : decode cX10_feed 36 = .ok (.isub, 1) := by decide +kernel
theorem dX10_feed_37 : decode cX10_feed 37 = .ok (.istore 4, 2) := by decide +kernel
theorem dX10_feed_39 : decode cX10_feed 39 = .ok (.iload 4, 2) := by decide +kernel
theorem dX10_feed_41 : decode cX10_feed 41 = .ok (.ifCond .lt 28, 3) := by decide +kernel
theorem dX10_feed_44 : decode cX10_feed 44 = .ok (.aload_n 0, 1) := by decide +kernel
theorem dX10_feed_45 : decode cX10_feed 45 = .ok (.getfield 14, 3) := by decide +kernel
theorem dX10_feed_48 : decode cX10_feed 48 = .ok (.lload_n 2, 1) := by decide +kernel
theorem dX10_feed_49 : decode cX10_feed 49 = .ok (.bipush 8, 2) := by decide +kernel
theorem dX10_feed_51 : decode cX10_feed 51 = .ok (.iload 4, 2) := by decide +kernel
theorem dX10_feed_53 : decode cX10_feed 53 = .ok (.imul, 1) := by decide +kernel
theorem dX10_feed_54 : decode cX10_feed 54 = .ok (.lushr, 1) := by decide +kernel
theorem dX10_feed_55 : decode cX10_feed 55 = .ok (.l2i, 1) := by decide +kernel
theorem dX10_feed_56 : decode cX10_feed 56 = .ok (.sipush 255, 3) := by decide +kernel
theorem dX10_feed_59 : decode cX10_feed 59 = .ok (.iand, 1) := by decide +kernel
theorem dX10_feed_60 : decode cX10_feed 60 = .ok (.invokevirtual 110, 3) := by decide +kernel
theorem dX10_feed_63 : decode cX10_feed 63 = .ok (.iinc 4 (-1), 3) := by decide +kernel
theorem dX10_feed_66 : decode cX10_feed 66 = .ok (.goto (-27), 3) := by decide +kernel
theorem dX10_feed_69 : decode cX10_feed 69 = .ok (.aload_n 0, 1) := by decide +kernel
theorem dX10_feed_70 : decode cX10_feed 70 = .ok (.getfield 14, 3) := by decide +kernel
theorem dX10_feed_73 : decode cX10_feed 73 = .ok (.invokevirtual 106, 3) := by decide +kernel
theorem dX10_feed_76 : decode cX10_feed 76 = .ok (.ireturn, 1) := by decide +kernel
theorem dX10_quay_0 : decode cX10_quay 0 = .ok (.aload_n 0, 1) := by decide +kernel
theorem dX10_quay_1 : decode cX10_quay 1 = .ok (.getfield 23, 3) := by decide +kernel
theorem dX10_quay_4 : decode cX10_quay 4 = .ok (.aload_n 0, 1) := by decide +kernel
theorem dX10_quay_5 : decode cX10_quay 5 = .ok (.getfield 30, 3) := by decide +kernel
theorem dX10_quay_8 : decode cX10_quay 8 = .ok (.invokevirtual 113, 3) := by decide +kernel
theorem dX10_quay_11 : decode cX10_quay 11 = .ok (.istore_n 1, 1) := by decide +kernel
theorem dX10_quay_12 : decode cX10_quay 12 = .ok (.iload_n 1, 1) := by decide +kernel
theorem dX10_quay_13 : decode cX10_quay 13 = .ok (.ifCond .ge 5, 3) := by decide +kernel
theorem dX10_quay_16 : decode cX10_quay 16 = .ok (.iload_n 1, 1) := by decide +kernel
theorem dX10_quay_17 : decode cX10_quay 17 = .ok (.ireturn, 1) := by decide +kernel
theorem dX10_quay_18 : decode cX10_quay 18 = .ok (.aload_n 0, 1) := by decide +kernel
theorem dX10_quay_19 : decode cX10_quay 19 = .ok (.getfield 49, 3) := by decide +kernel
theorem dX10_quay_22 : decode cX10_quay 22 = .ok (.invokevirtual 103, 3) := by decide +kernel
theorem dX10_quay_25 : decode cX10_quay 25 = .ok (.aload_n 0, 1) := by decide +kernel
theorem dX10_quay_26 : decode cX10_quay 26 = .ok (.getfield 37, 3) := by decide +kernel
theorem dX10_quay_29 : decode cX10_quay 29 = .ok (.invokevirtual 117, 3) := by decide +kernel
theorem dX10_quay_32 : decode cX10_quay 32 = .ok (.aload_n 0, 1) := by decide +kernel
theorem dX10_quay_33 : decode cX10_quay 33 = .ok (.getfield 62, 3) := by decide +kernel
theorem dX10_quay_36 : decode cX10_quay 36 = .ok (.invokevirtual 120, 3) := by decide +kernel
theorem dX10_quay_39 : decode cX10_quay 39 = .ok (.aload_n 0, 1) := by decide +kernel
theorem dX10_quay_40 : decode cX10_quay 40 = .ok (.getfield 65, 3) := by decide +kernel
theorem dX10_quay_43 : decode cX10_quay 43 = .ok (.invokevirtual 120, 3) := by decide +kernel
theorem dX10_quay_46 : decode cX10_quay 46 = .ok (.aload_n 0, 1) := by decide +kernel
theorem dX10_quay_47 : decode cX10_quay 47 = .ok (.getfield 56, 3) := by decide +kernel
theorem dX10_quay_50 : decode cX10_quay 50 = .ok (.iconst 0, 1) := by decide +kernel
theorem dX10_quay_51 : decode cX10_quay 51 = .ok (.putfield 121, 3) := by decide +kernel
theorem dX10_quay_54 : decode cX10_quay 54 = .ok (.aload_n 0, 1) := by decide +kernel
theorem dX10_quay_55 : decode cX10_quay 55 = .ok (.getfield 59, 3) := by decide +kernel
theorem dX10_quay_58 : decode cX10_quay 58 = .ok (.iconst 0, 1) := by decide +kernel
theorem dX10_quay_59 : decode cX10_quay 59 = .ok (.putfield 121, 3) := by decide +kernel
theorem dX10_quay_62 : decode cX10_quay 62 = .ok (.aload_n 0, 1) := by decide +kernel
theorem dX10_quay_63 : decode cX10_quay 63 = .ok (.getfield 87, 3) := by decide +kernel
theorem dX10_quay_66 : decode cX10_quay 66 = .ok (.iconst 0, 1) := by decide +kernel
theorem dX10_quay_67 : decode cX10_quay 67 = .ok (.putfield 125, 3) := by decide +kernel
theorem dX10_quay_70 : decode cX10_quay 70 = .ok (.iload_n 1, 1) := by decide +kernel
theorem dX10_quay_71 : decode cX10_quay 71 = .ok (.ireturn, 1) := by decide +kernel
theorem dX10_night_0 : decode cX10_night 0 = .ok (.aload_n 0, 1) := by decide +kernel
theorem dX10_night_1 : decode cX10_night 1 = .ok (.getfield 23, 3) := by decide +kernel
theorem dX10_night_4 : decode cX10_night 4 = .ok (.aload_n 0, 1) := by decide +kernel
theorem dX10_night_5 : decode cX10_night 5 = .ok (.getfield 37, 3) := by decide +kernel
theorem dX10_night_8 : decode cX10_night 8 = .ok (.aload_n 0, 1) := by decide +kernel
theorem dX10_night_9 : decode cX10_night 9 = .ok (.getfield 30, 3) := by decide +kernel
theorem dX10_night_12 : decode cX10_night 12 = .ok (.invokevirtual 128, 3) := by decide +kernel
theorem dX10_night_15 : decode cX10_night 15 = .ok (.ireturn, 1) := by decide +kernel
theorem dX10_month_0 : decode cX10_month 0 = .ok (.aload_n 0, 1) := by decide +kernel
theorem dX10_month_1 : decode cX10_month 1 = .ok (.getfield 14, 3) := by decide +kernel
theorem dX10_month_4 : decode cX10_month 4 = .ok (.invokevirtual 106, 3) := by decide +kernel
theorem dX10_month_7 : decode cX10_month 7 = .ok (.sipush 200, 3) := by decide +kernel
theorem dX10_month_10 : decode cX10_month 10 = .ok (.if_icmp .le 7, 3) := by decide +kernel
theorem dX10_month_13 : decode cX10_month 13 = .ok (.sipush (-1003), 3) := by decide +kernel
theorem dX10_month_16 : decode cX10_month 16 = .ok (.ireturn, 1) := by decide +kernel
theorem dX10_month_17 : decode cX10_month 17 = .ok (.aload_n 0, 1) := by decide +kernel
theorem dX10_month_18 : decode cX10_month 18 = .ok (.getfield 23, 3) := by decide +kernel
theorem dX10_month_21 : decode cX10_month 21 = .ok (.aload_n 0, 1) := by decide +kernel
theorem dX10_month_22 : decode cX10_month 22 = .ok (.getfield 41, 3) := by decide +kernel
theorem dX10_month_25 : decode cX10_month 25 = .ok (.invokevirtual 132, 3) := by decide +kernel
theorem dX10_month_28 : decode cX10_month 28 = .ok (.ireturn, 1) := by decide +kernel
theorem dX10_fault_0 : decode cX10_fault 0 = .ok (.aload_n 0, 1) := by decide +kernel
theorem dX10_fault_1 : decode cX10_fault 1 = .ok (.getfield 23, 3) := by decide +kernel
theorem dX10_fault_4 : decode cX10_fault 4 = .ok (.invokevirtual 136, 3) := by decide +kernel
theorem dX10_fault_7 : decode cX10_fault 7 = .ok (.ireturn, 1) := by decide +kernel
theorem dX10_told_0 : decode cX10_told 0 = .ok (.iload_n 1, 1) := by decide +kernel
theorem dX10_told_1 : decode cX10_told 1 = .ok (.tableswitch 171 0 12 #[67, 75, 83, 91, 99, 107, 115, 123, 131, 139, 147, 155, 163], 67) := by decide +kernel
theorem dX10_told_68 : decode cX10_told 68 = .ok (.aload_n 0, 1) := by decide +kernel
theorem dX10_told_69 : decode cX10_told 69 = .ok (.getfield 30, 3) := by decide +kernel
theorem dX10_told_72 : decode cX10_told 72 = .ok (.invokevirtual 139, 3) := by decide +kernel
theorem dX10_told_75 : decode cX10_told 75 = .ok (.ireturn, 1) := by decide +kernel
theorem dX10_told_76 : decode cX10_told 76 = .ok (.aload_n 0, 1) := by decide +kernel
theorem dX10_told_77 : decode cX10_told 77 = .ok (.getfield 30, 3) := by decide +kernel
theorem dX10_told_80 : decode cX10_told 80 = .ok (.invokevirtual 142, 3) := by decide +kernel
theorem dX10_told_83 : decode cX10_told 83 = .ok (.ireturn, 1) := by decide +kernel
theorem dX10_told_84 : decode cX10_told 84 = .ok (.aload_n 0, 1) := by decide +kernel
theorem dX10_told_85 : decode cX10_told 85 = .ok (.getfield 37, 3) := by decide +kernel
theorem dX10_told_88 : decode cX10_told 88 = .ok (.invokevirtual 145, 3) := by decide +kernel
theorem dX10_told_91 : decode cX10_told 91 = .ok (.ireturn, 1) := by decide +kernel
theorem dX10_told_92 : decode cX10_told 92 = .ok (.aload_n 0, 1) := by decide +kernel
theorem dX10_told_93 : decode cX10_told 93 = .ok (.getfield 41, 3) := by decide +kernel
theorem dX10_told_96 : decode cX10_told 96 = .ok (.invokevirtual 106, 3) := by decide +kernel
theorem dX10_told_99 : decode cX10_told 99 = .ok (.ireturn, 1) := by decide +kernel
theorem dX10_told_100 : decode cX10_told 100 = .ok (.aload_n 0, 1) := by decide +kernel
theorem dX10_told_101 : decode cX10_told 101 = .ok (.getfield 62, 3) := by decide +kernel
theorem dX10_told_104 : decode cX10_told 104 = .ok (.invokevirtual 106, 3) := by decide +kernel
theorem dX10_told_107 : decode cX10_told 107 = .ok (.ireturn, 1) := by decide +kernel
theorem dX10_told_108 : decode cX10_told 108 = .ok (.aload_n 0, 1) := by decide +kernel
theorem dX10_told_109 : decode cX10_told 109 = .ok (.getfield 65, 3) := by decide +kernel
theorem dX10_told_112 : decode cX10_told 112 = .ok (.invokevirtual 106, 3) := by decide +kernel
theorem dX10_told_115 : decode cX10_told 115 = .ok (.ireturn, 1) := by decide +kernel
theorem dX10_told_116 : decode cX10_told 116 = .ok (.aload_n 0, 1) := by decide +kernel
theorem dX10_told_117 : decode cX10_told 117 = .ok (.getfield 14, 3) := by decide +kernel
theorem dX10_told_120 : decode cX10_told 120 = .ok (.invokevirtual 106, 3) := by decide +kernel
theorem dX10_told_123 : decode cX10_told 123 = .ok (.ireturn, 1) := by decide +kernel
theorem dX10_told_124 : decode cX10_told 124 = .ok (.aload_n 0, 1) := by decide +kernel
theorem dX10_told_125 : decode cX10_told 125 = .ok (.getfield 30, 3) := by decide +kernel
theorem dX10_told_128 : decode cX10_told 128 = .ok (.getfield 148, 3) := by decide +kernel
theorem dX10_told_131 : decode cX10_told 131 = .ok (.ireturn, 1) := by decide +kernel
theorem dX10_told_132 : decode cX10_told 132 = .ok (.aload_n 0, 1) := by decide +kernel
theorem dX10_told_133 : decode cX10_told 133 = .ok (.getfield 30, 3) := by decide +kernel
theorem dX10_told_136 : decode cX10_told 136 = .ok (.getfield 152, 3) := by decide +kernel
theorem dX10_told_139 : decode cX10_told 139 = .ok (.ireturn, 1) := by decide +kernel
theorem dX10_told_140 : decode cX10_told 140 = .ok (.aload_n 0, 1) := by decide +kernel
theorem dX10_told_141 : decode cX10_told 141 = .ok (.getfield 30, 3) := by decide +kernel
theorem dX10_told_144 : decode cX10_told 144 = .ok (.getfield 155, 3) := by decide +kernel
theorem dX10_told_147 : decode cX10_told 147 = .ok (.ireturn, 1) := by decide +kernel
theorem dX10_told_148 : decode cX10_told 148 = .ok (.aload_n 0, 1) := by decide +kernel
theorem dX10_told_149 : decode cX10_told 149 = .ok (.getfield 49, 3) := by decide +kernel
theorem dX10_told_152 : decode cX10_told 152 = .ok (.getfield 158, 3) := by decide +kernel
theorem dX10_told_155 : decode cX10_told 155 = .ok (.ireturn, 1) := by decide +kernel
theorem dX10_told_156 : decode cX10_told 156 = .ok (.aload_n 0, 1) := by decide +kernel
theorem dX10_told_157 : decode cX10_told 157 = .ok (.getfield 49, 3) := by decide +kernel
theorem dX10_told_160 : decode cX10_told 160 = .ok (.getfield 161, 3) := by decide +kernel
theorem dX10_told_163 : decode cX10_told 163 = .ok (.ireturn, 1) := by decide +kernel
theorem dX10_told_164 : decode cX10_told 164 = .ok (.aload_n 0, 1) := by decide +kernel
theorem dX10_told_165 : decode cX10_told 165 = .ok (.getfield 49, 3) := by decide +kernel
theorem dX10_told_168 : decode cX10_told 168 = .ok (.getfield 164, 3) := by decide +kernel
theorem dX10_told_171 : decode cX10_told 171 = .ok (.ireturn, 1) := by decide +kernel
theorem dX10_told_172 : decode cX10_told 172 = .ok (.sipush (-1002), 3) := by decide +kernel
theorem dX10_told_175 : decode cX10_told 175 = .ok (.ireturn, 1) := by decide +kernel
theorem dX10_lamp_0 : decode cX10_lamp 0 = .ok (.aload_n 0, 1) := by decide +kernel
theorem dX10_lamp_1 : decode cX10_lamp 1 = .ok (.iload_n 1, 1) := by decide +kernel
theorem dX10_lamp_2 : decode cX10_lamp 2 = .ok (.invokevirtual 167, 3) := by decide +kernel
theorem dX10_lamp_5 : decode cX10_lamp 5 = .ok (.ifCond .ne 7, 3) := by decide +kernel
theorem dX10_lamp_8 : decode cX10_lamp 8 = .ok (.sipush (-1001), 3) := by decide +kernel
theorem dX10_lamp_11 : decode cX10_lamp 11 = .ok (.ireturn, 1) := by decide +kernel
theorem dX10_lamp_12 : decode cX10_lamp 12 = .ok (.iload_n 2, 1) := by decide +kernel
theorem dX10_lamp_13 : decode cX10_lamp 13 = .ok (.tableswitch 132 0 7 #[47, 59, 69, 81, 93, 102, 112, 122], 47) := by decide +kernel
theorem dX10_lamp_60 : decode cX10_lamp 60 = .ok (.aload_n 0, 1) := by decide +kernel
theorem dX10_lamp_61 : decode cX10_lamp 61 = .ok (.getfield 30, 3) := by decide +kernel
theorem dX10_lamp_64 : decode cX10_lamp 64 = .ok (.getfield 171, 3) := by decide +kernel
theorem dX10_lamp_67 : decode cX10_lamp 67 = .ok (.iload_n 1, 1) := by decide +kernel
theorem dX10_lamp_68 : decode cX10_lamp 68 = .ok (.invokevirtual 174, 3) := by decide +kernel
theorem dX10_lamp_71 : decode cX10_lamp 71 = .ok (.ireturn, 1) := by decide +kernel
theorem dX10_lamp_72 : decode cX10_lamp 72 = .ok (.aload_n 0, 1) := by decide +kernel
theorem dX10_lamp_73 : decode cX10_lamp 73 = .ok (.getfield 49, 3) := by decide +kernel
theorem dX10_lamp_76 : decode cX10_lamp 76 = .ok (.getfield 178, 3) := by decide +kernel
theorem dX10_lamp_79 : decode cX10_lamp 79 = .ok (.iload_n 1, 1) := by decide +kernel
theorem dX10_lamp_80 : decode cX10_lamp 80 = .ok (.iaload, 1) := by decide +kernel
theorem dX10_lamp_81 : decode cX10_lamp 81 = .ok (.ireturn, 1) := by decide +kernel
theorem dX10_lamp_82 : decode cX10_lamp 82 = .ok (.aload_n 0, 1) := by decide +kernel
theorem dX10_lamp_83 : decode cX10_lamp 83 = .ok (.getfield 30, 3) := by decide +kernel
theorem dX10_lamp_86 : decode cX10_lamp 86 = .ok (.getfield 182, 3) := by decide +kernel
theorem dX10_lamp_89 : decode cX10_lamp 89 = .ok (.iload_n 1, 1) := by decide +kernel
theorem dX10_lamp_90 : decode cX10_lamp 90 = .ok (.invokevirtual 174, 3) := by decide +kernel
theorem dX10_lamp_93 : decode cX10_lamp 93 = .ok (.ireturn, 1) := by decide +kernel
theorem dX10_lamp_94 : decode cX10_lamp 94 = .ok (.aload_n 0, 1) := by decide +kernel
theorem dX10_lamp_95 : decode cX10_lamp 95 = .ok (.getfield 30, 3) := by decide +kernel
theorem dX10_lamp_98 : decode cX10_lamp 98 = .ok (.getfield 185, 3) := by decide +kernel
theorem dX10_lamp_101 : decode cX10_lamp 101 = .ok (.iload_n 1, 1) := by decide +kernel
theorem dX10_lamp_102 : decode cX10_lamp 102 = .ok (.invokevirtual 174, 3) := by decide +kernel
theorem dX10_lamp_105 : decode cX10_lamp 105 = .ok (.ireturn, 1) := by decide +kernel
theorem dX10_lamp_106 : decode cX10_lamp 106 = .ok (.aload_n 0, 1) := by decide +kernel
theorem dX10_lamp_107 : decode cX10_lamp 107 = .ok (.getfield 49, 3) := by decide +kernel
theorem dX10_lamp_110 : decode cX10_lamp 110 = .ok (.iload_n 1, 1) := by decide +kernel
theorem dX10_lamp_111 : decode cX10_lamp 111 = .ok (.invokevirtual 188, 3) := by decide +kernel
theorem dX10_lamp_114 : decode cX10_lamp 114 = .ok (.ireturn, 1) := by decide +kernel
theorem dX10_lamp_115 : decode cX10_lamp 115 = .ok (.aload_n 0, 1) := by decide +kernel
theorem dX10_lamp_116 : decode cX10_lamp 116 = .ok (.getfield 49, 3) := by decide +kernel
theorem dX10_lamp_119 : decode cX10_lamp 119 = .ok (.getfield 191, 3) := by decide +kernel
theorem dX10_lamp_122 : decode cX10_lamp 122 = .ok (.iload_n 1, 1) := by decide +kernel
theorem dX10_lamp_123 : decode cX10_lamp 123 = .ok (.iaload, 1) := by decide +kernel
theorem dX10_lamp_124 : decode cX10_lamp 124 = .ok (.ireturn, 1) := by decide +kernel
theorem dX10_lamp_125 : decode cX10_lamp 125 = .ok (.aload_n 0, 1) := by decide +kernel
theorem dX10_lamp_126 : decode cX10_lamp 126 = .ok (.getfield 49, 3) := by decide +kernel
theorem dX10_lamp_129 : decode cX10_lamp 129 = .ok (.getfield 194, 3) := by decide +kernel
theorem dX10_lamp_132 : decode cX10_lamp 132 = .ok (.iload_n 1, 1) := by decide +kernel
theorem dX10_lamp_133 : decode cX10_lamp 133 = .ok (.iaload, 1) := by decide +kernel
theorem dX10_lamp_134 : decode cX10_lamp 134 = .ok (.ireturn, 1) := by decide +kernel
theorem dX10_lamp_135 : decode cX10_lamp 135 = .ok (.aload_n 0, 1) := by decide +kernel
theorem dX10_lamp_136 : decode cX10_lamp 136 = .ok (.getfield 49, 3) := by decide +kernel
theorem dX10_lamp_139 : decode cX10_lamp 139 = .ok (.getfield 196, 3) := by decide +kernel
theorem dX10_lamp_142 : decode cX10_lamp 142 = .ok (.iload_n 1, 1) := by decide +kernel
theorem dX10_lamp_143 : decode cX10_lamp 143 = .ok (.iaload, 1) := by decide +kernel
theorem dX10_lamp_144 : decode cX10_lamp 144 = .ok (.ireturn, 1) := by decide +kernel
theorem dX10_lamp_145 : decode cX10_lamp 145 = .ok (.sipush (-1002), 3) := by decide +kernel
theorem dX10_lamp_148 : decode cX10_lamp 148 = .ok (.ireturn, 1) := by decide +kernel
theorem dX10_singer_0 : decode cX10_singer 0 = .ok (.iload_n 1, 1) := by decide +kernel
theorem dX10_singer_1 : decode cX10_singer 1 = .ok (.ifCond .lt 14, 3) := by decide +kernel
theorem dX10_singer_4 : decode cX10_singer 4 = .ok (.iload_n 1, 1) := by decide +kernel
theorem dX10_singer_5 : decode cX10_singer 5 = .ok (.aload_n 0, 1) := by decide +kernel
theorem dX10_singer_6 : decode cX10_singer 6 = .ok (.getfield 30, 3) := by decide +kernel
theorem dX10_singer_9 : decode cX10_singer 9 = .ok (.invokevirtual 142, 3) := by decide +kernel
theorem dX10_singer_12 : decode cX10_singer 12 = .ok (.if_icmp .lt 7, 3) := by decide +kernel
theorem dX10_singer_15 : decode cX10_singer 15 = .ok (.sipush (-1001), 3) := by decide +kernel
theorem dX10_singer_18 : decode cX10_singer 18 = .ok (.ireturn, 1) := by decide +kernel
theorem dX10_singer_19 : decode cX10_singer 19 = .ok (.iload_n 2, 1) := by decide +kernel
theorem dX10_singer_20 : decode cX10_singer 20 = .ok (.tableswitch 80 0 3 #[32, 44, 56, 68], 32) := by decide +kernel
theorem dX10_singer_52 : decode cX10_singer 52 = .ok (.aload_n 0, 1) := by decide +kernel
theorem dX10_singer_53 : decode cX10_singer 53 = .ok (.getfield 30, 3) := by decide +kernel
theorem dX10_singer_56 : decode cX10_singer 56 = .ok (.getfield 199, 3) := by decide +kernel
theorem dX10_singer_59 : decode cX10_singer 59 = .ok (.iload_n 1, 1) := by decide +kernel
theorem dX10_singer_60 : decode cX10_singer 60 = .ok (.invokevirtual 174, 3) := by decide +kernel
theorem dX10_singer_63 : decode cX10_singer 63 = .ok (.ireturn, 1) := by decide +kernel
theorem dX10_singer_64 : decode cX10_singer 64 = .ok (.aload_n 0, 1) := by decide +kernel
theorem dX10_singer_65 : decode cX10_singer 65 = .ok (.getfield 30, 3) := by decide +kernel
theorem dX10_singer_68 : decode cX10_singer 68 = .ok (.getfield 202, 3) := by decide +kernel
theorem dX10_singer_71 : decode cX10_singer 71 = .ok (.iload_n 1, 1) := by decide +kernel
theorem dX10_singer_72 : decode cX10_singer 72 = .ok (.invokevirtual 174, 3) := by decide +kernel
theorem dX10_singer_75 : decode cX10_singer 75 = .ok (.ireturn, 1) := by decide +kernel
theorem dX10_singer_76 : decode cX10_singer 76 = .ok (.aload_n 0, 1) := by decide +kernel
theorem dX10_singer_77 : decode cX10_singer 77 = .ok (.getfield 30, 3) := by decide +kernel
theorem dX10_singer_80 : decode cX10_singer 80 = .ok (.getfield 205, 3) := by decide +kernel
theorem dX10_singer_83 : decode cX10_singer 83 = .ok (.iload_n 1, 1) := by decide +kernel
theorem dX10_singer_84 : decode cX10_singer 84 = .ok (.invokevirtual 174, 3) := by decide +kernel
theorem dX10_singer_87 : decode cX10_singer 87 = .ok (.ireturn, 1) := by decide +kernel
theorem dX10_singer_88 : decode cX10_singer 88 = .ok (.aload_n 0, 1) := by decide +kernel
theorem dX10_singer_89 : decode cX10_singer 89 = .ok (.getfield 30, 3) := by decide +kernel
theorem dX10_singer_92 : decode cX10_singer 92 = .ok (.getfield 208, 3) := by decide +kernel
theorem dX10_singer_95 : decode cX10_singer 95 = .ok (.iload_n 1, 1) := by decide +kernel
theorem dX10_singer_96 : decode cX10_singer 96 = .ok (.invokevirtual 174, 3) := by decide +kernel
theorem dX10_singer_99 : decode cX10_singer 99 = .ok (.ireturn, 1) := by decide +kernel
theorem dX10_singer_100 : decode cX10_singer 100 = .ok (.sipush (-1002), 3) := by decide +kernel
theorem dX10_singer_103 : decode cX10_singer 103 = .ok (.ireturn, 1) := by decide +kernel
theorem dX10_weather_0 : decode cX10_weather 0 = .ok (.iload_n 1, 1) := by decide +kernel
theorem dX10_weather_1 : decode cX10_weather 1 = .ok (.ifCond .ne 39, 3) := by decide +kernel
theorem dX10_weather_4 : decode cX10_weather 4 = .ok (.iload_n 2, 1) := by decide +kernel
theorem dX10_weather_5 : decode cX10_weather 5 = .ok (.iconst 0, 1) := by decide +kernel
theorem dX10_weather_6 : decode cX10_weather 6 = .ok (.bipush 9, 2) := by decide +kernel
theorem dX10_weather_8 : decode cX10_weather 8 = .ok (.invokestatic 211, 3) := by decide +kernel
theorem dX10_weather_11 : decode cX10_weather 11 = .ok (.ifCond .eq 29, 3) := by decide +kernel
theorem dX10_weather_14 : decode cX10_weather 14 = .ok (.aload_n 0, 1) := by decide +kernel
theorem dX10_weather_15 : decode cX10_weather 15 = .ok (.getfield 49, 3) := by decide +kernel
theorem dX10_weather_18 : decode cX10_weather 18 = .ok (.getfield 161, 3) := by decide +kernel
theorem dX10_weather_21 : decode cX10_weather 21 = .ok (.istore_n 3, 1) := by decide +kernel
theorem dX10_weather_22 : decode cX10_weather 22 = .ok (.aload_n 0, 1) := by decide +kernel
theorem dX10_weather_23 : decode cX10_weather 23 = .ok (.getfield 49, 3) := by decide +kernel
theorem dX10_weather_26 : decode cX10_weather 26 = .ok (.iload_n 2, 1) := by decide +kernel
theorem dX10_weather_27 : decode cX10_weather 27 = .ok (.putfield 161, 3) := by decide +kernel
theorem dX10_weather_30 : decode cX10_weather 30 = .ok (.aload_n 0, 1) := by decide +kernel
theorem dX10_weather_31 : decode cX10_weather 31 = .ok (.getfield 87, 3) := by decide +kernel
theorem dX10_weather_34 : decode cX10_weather 34 = .ok (.iconst 0, 1) := by decide +kernel
theorem dX10_weather_35 : decode cX10_weather 35 = .ok (.putfield 125, 3) := by decide +kernel
theorem dX10_weather_38 : decode cX10_weather 38 = .ok (.iload_n 3, 1) := by decide +kernel
theorem dX10_weather_39 : decode cX10_weather 39 = .ok (.ireturn, 1) := by decide +kernel
theorem dX10_weather_40 : decode cX10_weather 40 = .ok (.iload_n 1, 1) := by decide +kernel
theorem dX10_weather_41 : decode cX10_weather 41 = .ok (.iconst 1, 1) := by decide +kernel
theorem dX10_weather_42 : decode cX10_weather 42 = .ok (.if_icmp .ne 31, 3) := by decide +kernel
theorem dX10_weather_45 : decode cX10_weather 45 = .ok (.iload_n 2, 1) := by decide +kernel
theorem dX10_weather_46 : decode cX10_weather 46 = .ok (.iconst 0, 1) := by decide +kernel
theorem dX10_weather_47 : decode cX10_weather 47 = .ok (.bipush 50, 2) := by decide +kernel
theorem dX10_weather_49 : decode cX10_weather 49 = .ok (.invokestatic 211, 3) := by decide +kernel
theorem dX10_weather_52 : decode cX10_weather 52 = .ok (.ifCond .eq 21, 3) := by decide +kernel
theorem dX10_weather_55 : decode cX10_weather 55 = .ok (.aload_n 0, 1) := by decide +kernel
theorem dX10_weather_56 : decode cX10_weather 56 = .ok (.getfield 49, 3) := by decide +kernel
theorem dX10_weather_59 : decode cX10_weather 59 = .ok (.getfield 164, 3) := by decide +kernel
theorem dX10_weather_62 : decode cX10_weather 62 = .ok (.istore_n 3, 1) := by decide +kernel
theorem dX10_weather_63 : decode cX10_weather 63 = .ok (.aload_n 0, 1) := by decide +kernel
theorem dX10_weather_64 : decode cX10_weather 64 = .ok (.getfield 49, 3) := by decide +kernel
theorem dX10_weather_67 : decode cX10_weather 67 = .ok (.iload_n 2, 1) := by decide +kernel
theorem dX10_weather_68 : decode cX10_weather 68 = .ok (.putfield 164, 3) := by decide +kernel
theorem dX10_weather_71 : decode cX10_weather 71 = .ok (.iload_n 3, 1) := by decide +kernel
theorem dX10_weather_72 : decode cX10_weather 72 = .ok (.ireturn, 1) := by decide +kernel
theorem dX10_weather_73 : decode cX10_weather 73 = .ok (.sipush (-1002), 3) := by decide +kernel
theorem dX10_weather_76 : decode cX10_weather 76 = .ok (.ireturn, 1) := by decide +kernel
theorem dX10_wakes_0 : decode cX10_wakes 0 = .ok (.iload_n 1, 1) := by decide +kernel
theorem dX10_wakes_1 : decode cX10_wakes 1 = .ok (.iload_n 2, 1) := by decide +kernel
theorem dX10_wakes_2 : decode cX10_wakes 2 = .ok (.invokestatic 215, 3) := by decide +kernel
theorem dX10_wakes_5 : decode cX10_wakes 5 = .ok (.ifCond .eq 10, 3) := by decide +kernel
theorem dX10_wakes_8 : decode cX10_wakes 8 = .ok (.iload_n 3, 1) := by decide +kernel
theorem dX10_wakes_9 : decode cX10_wakes 9 = .ok (.invokestatic 219, 3) := by decide +kernel
theorem dX10_wakes_12 : decode cX10_wakes 12 = .ok (.ifCond .ne 7, 3) := by decide +kernel
theorem dX10_wakes_15 : decode cX10_wakes 15 = .ok (.sipush (-1002), 3) := by decide +kernel
theorem dX10_wakes_18 : decode cX10_wakes 18 = .ok (.ireturn, 1) := by decide +kernel
theorem dX10_wakes_19 : decode cX10_wakes 19 = .ok (.aload_n 0, 1) := by decide +kernel
theorem dX10_wakes_20 : decode cX10_wakes 20 = .ok (.getfield 49, 3) := by decide +kernel
theorem dX10_wakes_23 : decode cX10_wakes 23 = .ok (.iload_n 1, 1) := by decide +kernel
theorem dX10_wakes_24 : decode cX10_wakes 24 = .ok (.iload_n 2, 1) := by decide +kernel
theorem dX10_wakes_25 : decode cX10_wakes 25 = .ok (.iload_n 3, 1) := by decide +kernel
theorem dX10_wakes_26 : decode cX10_wakes 26 = .ok (.invokevirtual 222, 3) := by decide +kernel
theorem dX10_wakes_29 : decode cX10_wakes 29 = .ok (.ireturn, 1) := by decide +kernel
theorem dX10_hum_0 : decode cX10_hum 0 = .ok (.iload_n 1, 1) := by decide +kernel
theorem dX10_hum_1 : decode cX10_hum 1 = .ok (.iload_n 2, 1) := by decide +kernel
theorem dX10_hum_2 : decode cX10_hum 2 = .ok (.invokestatic 215, 3) := by decide +kernel
theorem dX10_hum_5 : decode cX10_hum 5 = .ok (.ifCond .ne 7, 3) := by decide +kernel
theorem dX10_hum_8 : decode cX10_hum 8 = .ok (.sipush (-1002), 3) := by decide +kernel
theorem dX10_hum_11 : decode cX10_hum 11 = .ok (.ireturn, 1) := by decide +kernel
theorem dX10_hum_12 : decode cX10_hum 12 = .ok (.aload_n 0, 1) := by decide +kernel
theorem dX10_hum_13 : decode cX10_hum 13 = .ok (.getfield 49, 3) := by decide +kernel
theorem dX10_hum_16 : decode cX10_hum 16 = .ok (.iload_n 1, 1) := by decide +kernel
theorem dX10_hum_17 : decode cX10_hum 17 = .ok (.iload_n 2, 1) := by decide +kernel
theorem dX10_hum_18 : decode cX10_hum 18 = .ok (.aload_n 0, 1) := by decide +kernel
theorem dX10_hum_19 : decode cX10_hum 19 = .ok (.getfield 30, 3) := by decide +kernel
theorem dX10_hum_22 : decode cX10_hum 22 = .ok (.getfield 155, 3) := by decide +kernel
theorem dX10_hum_25 : decode cX10_hum 25 = .ok (.invokevirtual 222, 3) := by decide +kernel
theorem dX10_hum_28 : decode cX10_hum 28 = .ok (.istore_n 3, 1) := by decide +kernel
theorem dX10_hum_29 : decode cX10_hum 29 = .ok (.aload_n 0, 1) := by decide +kernel
theorem dX10_hum_30 : decode cX10_hum 30 = .ok (.getfield 49, 3) := by decide +kernel
theorem dX10_hum_33 : decode cX10_hum 33 = .ok (.iload_n 3, 1) := by decide +kernel
theorem dX10_hum_34 : decode cX10_hum 34 = .ok (.bipush (-3), 2) := by decide +kernel
theorem dX10_hum_36 : decode cX10_hum 36 = .ok (.invokevirtual 226, 3) := by decide +kernel
theorem dX10_hum_39 : decode cX10_hum 39 = .ok (.iload_n 3, 1) := by decide +kernel
theorem dX10_hum_40 : decode cX10_hum 40 = .ok (.ireturn, 1) := by decide +kernel
theorem dX10_run_0 : decode cX10_run 0 = .ok (.iload_n 1, 1) := by decide +kernel
theorem dX10_run_1 : decode cX10_run 1 = .ok (.iconst 1, 1) := by decide +kernel
theorem dX10_run_2 : decode cX10_run 2 = .ok (.sipush 300, 3) := by decide +kernel
theorem dX10_run_5 : decode cX10_run 5 = .ok (.invokestatic 211, 3) := by decide +kernel
theorem dX10_run_8 : decode cX10_run 8 = .ok (.ifCond .ne 7, 3) := by decide +kernel
theorem dX10_run_11 : decode cX10_run 11 = .ok (.sipush (-1002), 3) := by decide +kernel
theorem dX10_run_14 : decode cX10_run 14 = .ok (.ireturn, 1) := by decide +kernel
theorem dX10_run_15 : decode cX10_run 15 = .ok (.iconst 0, 1) := by decide +kernel
theorem dX10_run_16 : decode cX10_run 16 = .ok (.istore_n 2, 1) := by decide +kernel
theorem dX10_run_17 : decode cX10_run 17 = .ok (.iload_n 2, 1) := by decide +kernel
theorem dX10_run_18 : decode cX10_run 18 = .ok (.iload_n 1, 1) := by decide +kernel
theorem dX10_run_19 : decode cX10_run 19 = .ok (.if_icmp .ge 20, 3) := by decide +kernel
theorem dX10_run_22 : decode cX10_run 22 = .ok (.aload_n 0, 1) := by decide +kernel
theorem dX10_run_23 : decode cX10_run 23 = .ok (.getfield 49, 3) := by decide +kernel
theorem dX10_run_26 : decode cX10_run 26 = .ok (.aload_n 0, 1) := by decide +kernel
theorem dX10_run_27 : decode cX10_run 27 = .ok (.getfield 37, 3) := by decide +kernel
theorem dX10_run_30 : decode cX10_run 30 = .ok (.invokevirtual 230, 3) := by decide +kernel
theorem dX10_run_33 : decode cX10_run 33 = .ok (.iinc 2 1, 3) := by decide +kernel
theorem dX10_run_36 : decode cX10_run 36 = .ok (.goto (-19), 3) := by decide +kernel
theorem dX10_run_39 : decode cX10_run 39 = .ok (.aload_n 0, 1) := by decide +kernel
theorem dX10_run_40 : decode cX10_run 40 = .ok (.getfield 49, 3) := by decide +kernel
theorem dX10_run_43 : decode cX10_run 43 = .ok (.invokevirtual 234, 3) := by decide +kernel
theorem dX10_run_46 : decode cX10_run 46 = .ok (.ireturn, 1) := by decide +kernel
theorem dX10_lit_0 : decode cX10_lit 0 = .ok (.iload_n 1, 1) := by decide +kernel
theorem dX10_lit_1 : decode cX10_lit 1 = .ok (.ifCond .ne 11, 3) := by decide +kernel
theorem dX10_lit_4 : decode cX10_lit 4 = .ok (.aload_n 0, 1) := by decide +kernel
theorem dX10_lit_5 : decode cX10_lit 5 = .ok (.getfield 49, 3) := by decide +kernel
theorem dX10_lit_8 : decode cX10_lit 8 = .ok (.invokevirtual 234, 3) := by decide +kernel
theorem dX10_lit_11 : decode cX10_lit 11 = .ok (.ireturn, 1) := by decide +kernel
theorem dX10_lit_12 : decode cX10_lit 12 = .ok (.iload_n 1, 1) := by decide +kernel
theorem dX10_lit_13 : decode cX10_lit 13 = .ok (.iconst 1, 1) := by decide +kernel
theorem dX10_lit_14 : decode cX10_lit 14 = .ok (.if_icmp .ne 13, 3) := by decide +kernel
theorem dX10_lit_17 : decode cX10_lit 17 = .ok (.aload_n 0, 1) := by decide +kernel
theorem dX10_lit_18 : decode cX10_lit 18 = .ok (.getfield 49, 3) := by decide +kernel
theorem dX10_lit_21 : decode cX10_lit 21 = .ok (.invokevirtual 237, 3) := by decide +kernel
theorem dX10_lit_24 : decode cX10_lit 24 = .ok (.goto 6, 3) := by decide +kernel
theorem dX10_lit_27 : decode cX10_lit 27 = .ok (.sipush (-1002), 3) := by decide +kernel
theorem dX10_lit_30 : decode cX10_lit 30 = .ok (.ireturn, 1) := by decide +kernel
theorem dX10_dark_0 : decode cX10_dark 0 = .ok (.aload_n 0, 1) := by decide +kernel
theorem dX10_dark_1 : decode cX10_dark 1 = .ok (.getfield 49, 3) := by decide +kernel
theorem dX10_dark_4 : decode cX10_dark 4 = .ok (.getfield 158, 3) := by decide +kernel
theorem dX10_dark_7 : decode cX10_dark 7 = .ok (.istore_n 1, 1) := by decide +kernel
theorem dX10_dark_8 : decode cX10_dark 8 = .ok (.aload_n 0, 1) := by decide +kernel
theorem dX10_dark_9 : decode cX10_dark 9 = .ok (.getfield 49, 3) := by decide +kernel
theorem dX10_dark_12 : decode cX10_dark 12 = .ok (.invokevirtual 240, 3) := by decide +kernel
theorem dX10_dark_15 : decode cX10_dark 15 = .ok (.iload_n 1, 1) := by decide +kernel
theorem dX10_dark_16 : decode cX10_dark 16 = .ok (.ireturn, 1) := by decide +kernel
theorem dX10_sweep_0 : decode cX10_sweep 0 = .ok (.aload_n 0, 1) := by decide +kernel
theorem dX10_sweep_1 : decode cX10_sweep 1 = .ok (.iload_n 1, 1) := by decide +kernel
theorem dX10_sweep_2 : decode cX10_sweep 2 = .ok (.invokevirtual 167, 3) := by decide +kernel
theorem dX10_sweep_5 : decode cX10_sweep 5 = .ok (.ifCond .ne 7, 3) := by decide +kernel
theorem dX10_sweep_8 : decode cX10_sweep 8 = .ok (.sipush (-1001), 3) := by decide +kernel
theorem dX10_sweep_11 : decode cX10_sweep 11 = .ok (.ireturn, 1) := by decide +kernel
theorem dX10_sweep_12 : decode cX10_sweep 12 = .ok (.aload_n 0, 1) := by decide +kernel
theorem dX10_sweep_13 : decode cX10_sweep 13 = .ok (.getfield 49, 3) := by decide +kernel
theorem dX10_sweep_16 : decode cX10_sweep 16 = .ok (.getfield 194, 3) := by decide +kernel
theorem dX10_sweep_19 : decode cX10_sweep 19 = .ok (.iload_n 1, 1) := by decide +kernel
theorem dX10_sweep_20 : decode cX10_sweep 20 = .ok (.iaload, 1) := by decide +kernel
theorem dX10_sweep_21 : decode cX10_sweep 21 = .ok (.istore_n 2, 1) := by decide +kernel
theorem dX10_sweep_22 : decode cX10_sweep 22 = .ok (.aload_n 0, 1) := by decide +kernel
theorem dX10_sweep_23 : decode cX10_sweep 23 = .ok (.getfield 49, 3) := by decide +kernel
theorem dX10_sweep_26 : decode cX10_sweep 26 = .ok (.getfield 194, 3) := by decide +kernel
theorem dX10_sweep_29 : decode cX10_sweep 29 = .ok (.iload_n 1, 1) := by decide +kernel
theorem dX10_sweep_30 : decode cX10_sweep 30 = .ok (.iconst 0, 1) := by decide +kernel
theorem dX10_sweep_31 : decode cX10_sweep 31 = .ok (.iastore, 1) := by decide +kernel
theorem dX10_sweep_32 : decode cX10_sweep 32 = .ok (.iload_n 2, 1) := by decide +kernel
theorem dX10_sweep_33 : decode cX10_sweep 33 = .ok (.ireturn, 1) := by decide +kernel
theorem dX10_round_0 : decode cX10_round 0 = .ok (.aload_n 0, 1) := by decide +kernel
theorem dX10_round_1 : decode cX10_round 1 = .ok (.getfield 87, 3) := by decide +kernel
theorem dX10_round_4 : decode cX10_round 4 = .ok (.aload_n 0, 1) := by decide +kernel
theorem dX10_round_5 : decode cX10_round 5 = .ok (.getfield 49, 3) := by decide +kernel
theorem dX10_round_8 : decode cX10_round 8 = .ok (.invokevirtual 243, 3) := by decide +kernel
theorem dX10_round_11 : decode cX10_round 11 = .ok (.iload_n 1, 1) := by decide +kernel
theorem dX10_round_12 : decode cX10_round 12 = .ok (.iconst (-1), 1) := by decide +kernel
theorem dX10_round_13 : decode cX10_round 13 = .ok (.if_icmp .ne 11, 3) := by decide +kernel
theorem dX10_round_16 : decode cX10_round 16 = .ok (.aload_n 0, 1) := by decide +kernel
theorem dX10_round_17 : decode cX10_round 17 = .ok (.getfield 87, 3) := by decide +kernel
theorem dX10_round_20 : decode cX10_round 20 = .ok (.invokevirtual 246, 3) := by decide +kernel
theorem dX10_round_23 : decode cX10_round 23 = .ok (.ireturn, 1) := by decide +kernel
theorem dX10_round_24 : decode cX10_round 24 = .ok (.aload_n 0, 1) := by decide +kernel
theorem dX10_round_25 : decode cX10_round 25 = .ok (.getfield 87, 3) := by decide +kernel
theorem dX10_round_28 : decode cX10_round 28 = .ok (.iload_n 1, 1) := by decide +kernel
theorem dX10_round_29 : decode cX10_round 29 = .ok (.invokevirtual 249, 3) := by decide +kernel
theorem dX10_round_32 : decode cX10_round 32 = .ok (.ireturn, 1) := by decide +kernel
theorem dX10_signal_0 : decode cX10_signal 0 = .ok (.aload_n 0, 1) := by decide +kernel
theorem dX10_signal_1 : decode cX10_signal 1 = .ok (.iload_n 1, 1) := by decide +kernel
theorem dX10_signal_2 : decode cX10_signal 2 = .ok (.invokevirtual 252, 3) := by decide +kernel
theorem dX10_signal_5 : decode cX10_signal 5 = .ok (.ifCond .ne 7, 3) := by decide +kernel
theorem dX10_signal_8 : decode cX10_signal 8 = .ok (.sipush (-1001), 3) := by decide +kernel
theorem dX10_signal_11 : decode cX10_signal 11 = .ok (.ireturn, 1) := by decide +kernel
theorem dX10_signal_12 : decode cX10_signal 12 = .ok (.aload_n 0, 1) := by decide +kernel
theorem dX10_signal_13 : decode cX10_signal 13 = .ok (.getfield 62, 3) := by decide +kernel
theorem dX10_signal_16 : decode cX10_signal 16 = .ok (.iload_n 1, 1) := by decide +kernel
theorem dX10_signal_17 : decode cX10_signal 17 = .ok (.invokevirtual 255, 3) := by decide +kernel
theorem dX10_signal_20 : decode cX10_signal 20 = .ok (.iconst (-1), 1) := by decide +kernel
theorem dX10_signal_21 : decode cX10_signal 21 = .ok (.if_icmp .eq 7, 3) := by decide +kernel
theorem dX10_signal_24 : decode cX10_signal 24 = .ok (.sipush (-1003), 3) := by decide +kernel
theorem dX10_signal_27 : decode cX10_signal 27 = .ok (.ireturn, 1) := by decide +kernel
theorem dX10_signal_28 : decode cX10_signal 28 = .ok (.aload_n 0, 1) := by decide +kernel
theorem dX10_signal_29 : decode cX10_signal 29 = .ok (.getfield 62, 3) := by decide +kernel
theorem dX10_signal_32 : decode cX10_signal 32 = .ok (.invokevirtual 258, 3) := by decide +kernel
theorem dX10_signal_35 : decode cX10_signal 35 = .ok (.ifCond .eq 7, 3) := by decide +kernel
theorem dX10_signal_38 : decode cX10_signal 38 = .ok (.sipush (-1004), 3) := by decide +kernel
theorem dX10_signal_41 : decode cX10_signal 41 = .ok (.ireturn, 1) := by decide +kernel
theorem dX10_signal_42 : decode cX10_signal 42 = .ok (.aload_n 0, 1) := by decide +kernel
theorem dX10_signal_43 : decode cX10_signal 43 = .ok (.getfield 62, 3) := by decide +kernel
theorem dX10_signal_46 : decode cX10_signal 46 = .ok (.iload_n 1, 1) := by decide +kernel
theorem dX10_signal_47 : decode cX10_signal 47 = .ok (.invokevirtual 110, 3) := by decide +kernel
theorem dX10_signal_50 : decode cX10_signal 50 = .ok (.aload_n 0, 1) := by decide +kernel
theorem dX10_signal_51 : decode cX10_signal 51 = .ok (.getfield 62, 3) := by decide +kernel
theorem dX10_signal_54 : decode cX10_signal 54 = .ok (.invokevirtual 106, 3) := by decide +kernel
theorem dX10_signal_57 : decode cX10_signal 57 = .ok (.iconst 1, 1) := by decide +kernel
theorem dX10_signal_58 : decode cX10_signal 58 = .ok (.isub, 1) := by decide +kernel
theorem dX10_signal_59 : decode cX10_signal 59 = .ok (.ireturn, 1) := by decide +kernel
theorem dX10_forget_0 : decode cX10_forget 0 = .ok (.aload_n 0, 1) := by decide +kernel
theorem dX10_forget_1 : decode cX10_forget 1 = .ok (.getfield 62, 3) := by decide +kernel
theorem dX10_forget_4 : decode cX10_forget 4 = .ok (.invokevirtual 106, 3) := by decide +kernel
theorem dX10_forget_7 : decode cX10_forget 7 = .ok (.istore_n 1, 1) := by decide +kernel
theorem dX10_forget_8 : decode cX10_forget 8 = .ok (.aload_n 0, 1) := by decide +kernel
theorem dX10_forget_9 : decode cX10_forget 9 = .ok (.getfield 62, 3) := by decide +kernel
theorem dX10_forget_12 : decode cX10_forget 12 = .ok (.invokevirtual 120, 3) := by decide +kernel
theorem dX10_forget_15 : decode cX10_forget 15 = .ok (.iload_n 1, 1) := by decide +kernel
theorem dX10_forget_16 : decode cX10_forget 16 = .ok (.ireturn, 1) := by decide +kernel
theorem dX10_shows_0 : decode cX10_shows 0 = .ok (.aload_n 0, 1) := by decide +kernel
theorem dX10_shows_1 : decode cX10_shows 1 = .ok (.getfield 62, 3) := by decide +kernel
theorem dX10_shows_4 : decode cX10_shows 4 = .ok (.aload_n 0, 1) := by decide +kernel
theorem dX10_shows_5 : decode cX10_shows 5 = .ok (.getfield 49, 3) := by decide +kernel
theorem dX10_shows_8 : decode cX10_shows 8 = .ok (.invokevirtual 237, 3) := by decide +kernel
theorem dX10_shows_11 : decode cX10_shows 11 = .ok (.invokevirtual 255, 3) := by decide +kernel
theorem dX10_shows_14 : decode cX10_shows 14 = .ok (.ireturn, 1) := by decide +kernel
theorem dX10_lured_0 : decode cX10_lured 0 = .ok (.aload_n 0, 1) := by decide +kernel
theorem dX10_lured_1 : decode cX10_lured 1 = .ok (.iload_n 1, 1) := by decide +kernel
theorem dX10_lured_2 : decode cX10_lured 2 = .ok (.invokevirtual 252, 3) := by decide +kernel
theorem dX10_lured_5 : decode cX10_lured 5 = .ok (.ifCond .eq 11, 3) := by decide +kernel
theorem dX10_lured_8 : decode cX10_lured 8 = .ok (.aload_n 0, 1) := by decide +kernel
theorem dX10_lured_9 : decode cX10_lured 9 = .ok (.iload_n 2, 1) := by decide +kernel
theorem dX10_lured_10 : decode cX10_lured 10 = .ok (.invokevirtual 252, 3) := by decide +kernel
theorem dX10_lured_13 : decode cX10_lured 13 = .ok (.ifCond .ne 7, 3) := by decide +kernel
theorem dX10_lured_16 : decode cX10_lured 16 = .ok (.sipush (-1001), 3) := by decide +kernel
theorem dX10_lured_19 : decode cX10_lured 19 = .ok (.ireturn, 1) := by decide +kernel
theorem dX10_lured_20 : decode cX10_lured 20 = .ok (.iload 5, 2) := by decide +kernel
theorem dX10_lured_22 : decode cX10_lured 22 = .ok (.invokestatic 219, 3) := by decide +kernel
theorem dX10_lured_25 : decode cX10_lured 25 = .ok (.ifCond .ne 7, 3) := by decide +kernel
theorem dX10_lured_28 : decode cX10_lured 28 = .ok (.sipush (-1002), 3) := by decide +kernel
theorem dX10_lured_31 : decode cX10_lured 31 = .ok (.ireturn, 1) := by decide +kernel
theorem dX10_lured_32 : decode cX10_lured 32 = .ok (.aload_n 0, 1) := by decide +kernel
theorem dX10_lured_33 : decode cX10_lured 33 = .ok (.getfield 71, 3) := by decide +kernel
theorem dX10_lured_36 : decode cX10_lured 36 = .ok (.aload_n 0, 1) := by decide +kernel
theorem dX10_lured_37 : decode cX10_lured 37 = .ok (.getfield 49, 3) := by decide +kernel
theorem dX10_lured_40 : decode cX10_lured 40 = .ok (.iload 5, 2) := by decide +kernel
theorem dX10_lured_42 : decode cX10_lured 42 = .ok (.invokevirtual 262, 3) := by decide +kernel
theorem dX10_lured_45 : decode cX10_lured 45 = .ok (.aload_n 0, 1) := by decide +kernel
theorem dX10_lured_46 : decode cX10_lured 46 = .ok (.getfield 80, 3) := by decide +kernel
theorem dX10_lured_49 : decode cX10_lured 49 = .ok (.lload_n 3, 1) := by decide +kernel
theorem dX10_lured_50 : decode cX10_lured 50 = .ok (.invokevirtual 266, 3) := by decide +kernel
theorem dX10_lured_53 : decode cX10_lured 53 = .ok (.aload_n 0, 1) := by decide +kernel
theorem dX10_lured_54 : decode cX10_lured 54 = .ok (.getfield 80, 3) := by decide +kernel
theorem dX10_lured_57 : decode cX10_lured 57 = .ok (.iload_n 1, 1) := by decide +kernel
theorem dX10_lured_58 : decode cX10_lured 58 = .ok (.iload_n 2, 1) := by decide +kernel
theorem dX10_lured_59 : decode cX10_lured 59 = .ok (.invokevirtual 270, 3) := by decide +kernel
theorem dX10_lured_62 : decode cX10_lured 62 = .ok (.ireturn, 1) := by decide +kernel
theorem dX10_apart_0 : decode cX10_apart 0 = .ok (.iload_n 3, 1) := by decide +kernel
theorem dX10_apart_1 : decode cX10_apart 1 = .ok (.invokestatic 219, 3) := by decide +kernel
theorem dX10_apart_4 : decode cX10_apart 4 = .ok (.ifCond .eq 14, 3) := by decide +kernel
theorem dX10_apart_7 : decode cX10_apart 7 = .ok (.iload 4, 2) := by decide +kernel
theorem dX10_apart_9 : decode cX10_apart 9 = .ok (.iconst 1, 1) := by decide +kernel
theorem dX10_apart_10 : decode cX10_apart 10 = .ok (.bipush 9, 2) := by decide +kernel
theorem dX10_apart_12 : decode cX10_apart 12 = .ok (.invokestatic 211, 3) := by decide +kernel
theorem dX10_apart_15 : decode cX10_apart 15 = .ok (.ifCond .ne 7, 3) := by decide +kernel
theorem dX10_apart_18 : decode cX10_apart 18 = .ok (.sipush (-1002), 3) := by decide +kernel
theorem dX10_apart_21 : decode cX10_apart 21 = .ok (.ireturn, 1) := by decide +kernel
theorem dX10_apart_22 : decode cX10_apart 22 = .ok (.aload_n 0, 1) := by decide +kernel
theorem dX10_apart_23 : decode cX10_apart 23 = .ok (.getfield 71, 3) := by decide +kernel
theorem dX10_apart_26 : decode cX10_apart 26 = .ok (.aload_n 0, 1) := by decide +kernel
theorem dX10_apart_27 : decode cX10_apart 27 = .ok (.getfield 49, 3) := by decide +kernel
theorem dX10_apart_30 : decode cX10_apart 30 = .ok (.iload_n 3, 1) := by decide +kernel
theorem dX10_apart_31 : decode cX10_apart 31 = .ok (.invokevirtual 262, 3) := by decide +kernel
theorem dX10_apart_34 : decode cX10_apart 34 = .ok (.aload_n 0, 1) := by decide +kernel
theorem dX10_apart_35 : decode cX10_apart 35 = .ok (.getfield 80, 3) := by decide +kernel
theorem dX10_apart_38 : decode cX10_apart 38 = .ok (.lload_n 1, 1) := by decide +kernel
theorem dX10_apart_39 : decode cX10_apart 39 = .ok (.invokevirtual 266, 3) := by decide +kernel
theorem dX10_apart_42 : decode cX10_apart 42 = .ok (.iconst 0, 1) := by decide +kernel
theorem dX10_apart_43 : decode cX10_apart 43 = .ok (.istore 6, 2) := by decide +kernel
theorem dX10_apart_45 : decode cX10_apart 45 = .ok (.iconst 0, 1) := by decide +kernel
theorem dX10_apart_46 : decode cX10_apart 46 = .ok (.istore 7, 2) := by decide +kernel
theorem dX10_apart_48 : decode cX10_apart 48 = .ok (.iload 7, 2) := by decide +kernel
theorem dX10_apart_50 : decode cX10_apart 50 = .ok (.aload_n 0, 1) := by decide +kernel
theorem dX10_apart_51 : decode cX10_apart 51 = .ok (.getfield 62, 3) := by decide +kernel
theorem dX10_apart_54 : decode cX10_apart 54 = .ok (.invokevirtual 106, 3) := by decide +kernel
theorem dX10_apart_57 : decode cX10_apart 57 = .ok (.if_icmp .ge 72, 3) := by decide +kernel
theorem dX10_apart_60 : decode cX10_apart 60 = .ok (.iconst 0, 1) := by decide +kernel
theorem dX10_apart_61 : decode cX10_apart 61 = .ok (.istore 8, 2) := by decide +kernel
theorem dX10_apart_63 : decode cX10_apart 63 = .ok (.iload 8, 2) := by decide +kernel
theorem dX10_apart_65 : decode cX10_apart 65 = .ok (.aload_n 0, 1) := by decide +kernel
theorem dX10_apart_66 : decode cX10_apart 66 = .ok (.getfield 62, 3) := by decide +kernel
theorem dX10_apart_69 : decode cX10_apart 69 = .ok (.invokevirtual 106, 3) := by decide +kernel
theorem dX10_apart_72 : decode cX10_apart 72 = .ok (.if_icmp .ge 51, 3) := by decide +kernel
theorem dX10_apart_75 : decode cX10_apart 75 = .ok (.iload 7, 2) := by decide +kernel
theorem dX10_apart_77 : decode cX10_apart 77 = .ok (.iload 8, 2) := by decide +kernel
theorem dX10_apart_79 : decode cX10_apart 79 = .ok (.if_icmp .eq 38, 3) := by decide +kernel
theorem dX10_apart_82 : decode cX10_apart 82 = .ok (.aload_n 0, 1) := by decide +kernel
theorem dX10_apart_83 : decode cX10_apart 83 = .ok (.iload 7, 2) := by decide +kernel
theorem dX10_apart_85 : decode cX10_apart 85 = .ok (.iload 8, 2) := by decide +kernel
theorem dX10_apart_87 : decode cX10_apart 87 = .ok (.iload 4, 2) := by decide +kernel
theorem dX10_apart_89 : decode cX10_apart 89 = .ok (.invokevirtual 274, 3) := by decide +kernel
theorem dX10_apart_92 : decode cX10_apart 92 = .ok (.ifCond .ne 6, 3) := by decide +kernel
theorem dX10_apart_95 : decode cX10_apart 95 = .ok (.goto 22, 3) := by decide +kernel
theorem dX10_apart_98 : decode cX10_apart 98 = .ok (.iload 6, 2) := by decide +kernel
theorem dX10_apart_100 : decode cX10_apart 100 = .ok (.iload 5, 2) := by decide +kernel
theorem dX10_apart_102 : decode cX10_apart 102 = .ok (.if_icmp .ne 12, 3) := by decide +kernel
theorem dX10_apart_105 : decode cX10_apart 105 = .ok (.bipush 100, 2) := by decide +kernel
theorem dX10_apart_107 : decode cX10_apart 107 = .ok (.iload 7, 2) := by decide +kernel
theorem dX10_apart_109 : decode cX10_apart 109 = .ok (.imul, 1) := by decide +kernel
theorem dX10_apart_110 : decode cX10_apart 110 = .ok (.iload 8, 2) := by decide +kernel
theorem dX10_apart_112 : decode cX10_apart 112 = .ok (.iadd, 1) := by decide +kernel
theorem dX10_apart_113 : decode cX10_apart 113 = .ok (.ireturn, 1) := by decide +kernel
theorem dX10_apart_114 : decode cX10_apart 114 = .ok (.iinc 6 1, 3) := by decide +kernel
theorem dX10_apart_117 : decode cX10_apart 117 = .ok (.iinc 8 1, 3) := by decide +kernel
theorem dX10_apart_120 : decode cX10_apart 120 = .ok (.goto (-57), 3) := by decide +kernel
theorem dX10_apart_123 : decode cX10_apart 123 = .ok (.iinc 7 1, 3) := by decide +kernel
theorem dX10_apart_126 : decode cX10_apart 126 = .ok (.goto (-78), 3) := by decide +kernel
theorem dX10_apart_129 : decode cX10_apart 129 = .ok (.iload 5, 2) := by decide +kernel
theorem dX10_apart_131 : decode cX10_apart 131 = .ok (.iconst (-1), 1) := by decide +kernel
theorem dX10_apart_132 : decode cX10_apart 132 = .ok (.if_icmp .ne 8, 3) := by decide +kernel
theorem dX10_apart_135 : decode cX10_apart 135 = .ok (.iload 6, 2) := by decide +kernel
theorem dX10_apart_137 : decode cX10_apart 137 = .ok (.goto 4, 3) := by decide +kernel
theorem dX10_apart_140 : decode cX10_apart 140 = .ok (.iconst (-1), 1) := by decide +kernel
theorem dX10_apart_141 : decode cX10_apart 141 = .ok (.ireturn, 1) := by decide +kernel
theorem dX10_isTooNear_0 : decode cX10_isTooNear 0 = .ok (.aload_n 0, 1) := by decide +kernel
theorem dX10_isTooNear_1 : decode cX10_isTooNear 1 = .ok (.getfield 80, 3) := by decide +kernel
theorem dX10_isTooNear_4 : decode cX10_isTooNear 4 = .ok (.aload_n 0, 1) := by decide +kernel
theorem dX10_isTooNear_5 : decode cX10_isTooNear 5 = .ok (.getfield 62, 3) := by decide +kernel
theorem dX10_isTooNear_8 : decode cX10_isTooNear 8 = .ok (.iload_n 1, 1) := by decide +kernel
theorem dX10_isTooNear_9 : decode cX10_isTooNear 9 = .ok (.invokevirtual 174, 3) := by decide +kernel
theorem dX10_isTooNear_12 : decode cX10_isTooNear 12 = .ok (.aload_n 0, 1) := by decide +kernel
theorem dX10_isTooNear_13 : decode cX10_isTooNear 13 = .ok (.getfield 62, 3) := by decide +kernel
theorem dX10_isTooNear_16 : decode cX10_isTooNear 16 = .ok (.iload_n 2, 1) := by decide +kernel
theorem dX10_isTooNear_17 : decode cX10_isTooNear 17 = .ok (.invokevirtual 174, 3) := by decide +kernel
theorem dX10_isTooNear_20 : decode cX10_isTooNear 20 = .ok (.invokevirtual 270, 3) := by decide +kernel
theorem dX10_isTooNear_23 : decode cX10_isTooNear 23 = .ok (.istore 4, 2) := by decide +kernel
theorem dX10_isTooNear_25 : decode cX10_isTooNear 25 = .ok (.iload 4, 2) := by decide +kernel
theorem dX10_isTooNear_27 : decode cX10_isTooNear 27 = .ok (.iconst (-1), 1) := by decide +kernel
theorem dX10_isTooNear_28 : decode cX10_isTooNear 28 = .ok (.if_icmp .eq 13, 3) := by decide +kernel
theorem dX10_isTooNear_31 : decode cX10_isTooNear 31 = .ok (.iload 4, 2) := by decide +kernel
theorem dX10_isTooNear_33 : decode cX10_isTooNear 33 = .ok (.iload_n 3, 1) := by decide +kernel
theorem dX10_isTooNear_34 : decode cX10_isTooNear 34 = .ok (.if_icmp .ge 7, 3) := by decide +kernel
theorem dX10_isTooNear_37 : decode cX10_isTooNear 37 = .ok (.iconst 1, 1) := by decide +kernel
theorem dX10_isTooNear_38 : decode cX10_isTooNear 38 = .ok (.goto 4, 3) := by decide +kernel
theorem dX10_isTooNear_41 : decode cX10_isTooNear 41 = .ok (.iconst 0, 1) := by decide +kernel
theorem dX10_isTooNear_42 : decode cX10_isTooNear 42 = .ok (.ireturn, 1) := by decide +kernel
theorem dX10_fewest_0 : decode cX10_fewest 0 = .ok (.aload_n 0, 1) := by decide +kernel
theorem dX10_fewest_1 : decode cX10_fewest 1 = .ok (.iload_n 1, 1) := by decide +kernel
theorem dX10_fewest_2 : decode cX10_fewest 2 = .ok (.invokevirtual 252, 3) := by decide +kernel
theorem dX10_fewest_5 : decode cX10_fewest 5 = .ok (.ifCond .eq 11, 3) := by decide +kernel
theorem dX10_fewest_8 : decode cX10_fewest 8 = .ok (.aload_n 0, 1) := by decide +kernel
theorem dX10_fewest_9 : decode cX10_fewest 9 = .ok (.iload_n 2, 1) := by decide +kernel
theorem dX10_fewest_10 : decode cX10_fewest 10 = .ok (.invokevirtual 252, 3) := by decide +kernel
theorem dX10_fewest_13 : decode cX10_fewest 13 = .ok (.ifCond .ne 7, 3) := by decide +kernel
theorem dX10_fewest_16 : decode cX10_fewest 16 = .ok (.sipush (-1001), 3) := by decide +kernel
theorem dX10_fewest_19 : decode cX10_fewest 19 = .ok (.ireturn, 1) := by decide +kernel
theorem dX10_fewest_20 : decode cX10_fewest 20 = .ok (.iload_n 3, 1) := by decide +kernel
theorem dX10_fewest_21 : decode cX10_fewest 21 = .ok (.invokestatic 219, 3) := by decide +kernel
theorem dX10_fewest_24 : decode cX10_fewest 24 = .ok (.ifCond .ne 7, 3) := by decide +kernel
theorem dX10_fewest_27 : decode cX10_fewest 27 = .ok (.sipush (-1002), 3) := by decide +kernel
theorem dX10_fewest_30 : decode cX10_fewest 30 = .ok (.ireturn, 1) := by decide +kernel
theorem dX10_fewest_31 : decode cX10_fewest 31 = .ok (.aload_n 0, 1) := by decide +kernel
theorem dX10_fewest_32 : decode cX10_fewest 32 = .ok (.getfield 71, 3) := by decide +kernel
theorem dX10_fewest_35 : decode cX10_fewest 35 = .ok (.aload_n 0, 1) := by decide +kernel
theorem dX10_fewest_36 : decode cX10_fewest 36 = .ok (.getfield 49, 3) := by decide +kernel
theorem dX10_fewest_39 : decode cX10_fewest 39 = .ok (.iload_n 3, 1) := by decide +kernel
theorem dX10_fewest_40 : decode cX10_fewest 40 = .ok (.invokevirtual 262, 3) := by decide +kernel
theorem dX10_fewest_43 : decode cX10_fewest 43 = .ok (.aload_n 0, 1) := by decide +kernel
theorem dX10_fewest_44 : decode cX10_fewest 44 = .ok (.getfield 80, 3) := by decide +kernel
theorem dX10_fewest_47 : decode cX10_fewest 47 = .ok (.iload_n 1, 1) := by decide +kernel
theorem dX10_fewest_48 : decode cX10_fewest 48 = .ok (.iload_n 2, 1) := by decide +kernel
theorem dX10_fewest_49 : decode cX10_fewest 49 = .ok (.invokevirtual 277, 3) := by decide +kernel
theorem dX10_fewest_52 : decode cX10_fewest 52 = .ok (.istore 5, 2) := by decide +kernel
theorem dX10_fewest_54 : decode cX10_fewest 54 = .ok (.iload 4, 2) := by decide +kernel
theorem dX10_fewest_56 : decode cX10_fewest 56 = .ok (.iconst (-1), 1) := by decide +kernel
theorem dX10_fewest_57 : decode cX10_fewest 57 = .ok (.if_icmp .ne 6, 3) := by decide +kernel
theorem dX10_fewest_60 : decode cX10_fewest 60 = .ok (.iload 5, 2) := by decide +kernel
theorem dX10_fewest_62 : decode cX10_fewest 62 = .ok (.ireturn, 1) := by decide +kernel
theorem dX10_fewest_63 : decode cX10_fewest 63 = .ok (.iload 4, 2) := by decide +kernel
theorem dX10_fewest_65 : decode cX10_fewest 65 = .ok (.ifCond .lt 27, 3) := by decide +kernel
theorem dX10_fewest_68 : decode cX10_fewest 68 = .ok (.iload 4, 2) := by decide +kernel
theorem dX10_fewest_70 : decode cX10_fewest 70 = .ok (.iload 5, 2) := by decide +kernel
theorem dX10_fewest_72 : decode cX10_fewest 72 = .ok (.if_icmp .ge 20, 3) := by decide +kernel
theorem dX10_fewest_75 : decode cX10_fewest 75 = .ok (.aload_n 0, 1) := by decide +kernel
theorem dX10_fewest_76 : decode cX10_fewest 76 = .ok (.getfield 80, 3) := by decide +kernel
theorem dX10_fewest_79 : decode cX10_fewest 79 = .ok (.iload_n 2, 1) := by decide +kernel
theorem dX10_fewest_80 : decode cX10_fewest 80 = .ok (.iload_n 1, 1) := by decide +kernel
theorem dX10_fewest_81 : decode cX10_fewest 81 = .ok (.iconst (-1), 1) := by decide +kernel
theorem dX10_fewest_82 : decode cX10_fewest 82 = .ok (.ixor, 1) := by decide +kernel
theorem dX10_fewest_83 : decode cX10_fewest 83 = .ok (.iand, 1) := by decide +kernel
theorem dX10_fewest_84 : decode cX10_fewest 84 = .ok (.iload 4, 2) := by decide +kernel
theorem dX10_fewest_86 : decode cX10_fewest 86 = .ok (.invokevirtual 280, 3) := by decide +kernel
theorem dX10_fewest_89 : decode cX10_fewest 89 = .ok (.goto 4, 3) := by decide +kernel
theorem dX10_fewest_92 : decode cX10_fewest 92 = .ok (.iconst (-1), 1) := by decide +kernel
theorem dX10_fewest_93 : decode cX10_fewest 93 = .ok (.ireturn, 1) := by decide +kernel
theorem dX10_who_0 : decode cX10_who 0 = .ok (.aload_n 0, 1) := by decide +kernel
theorem dX10_who_1 : decode cX10_who 1 = .ok (.iload_n 1, 1) := by decide +kernel
theorem dX10_who_2 : decode cX10_who 2 = .ok (.invokevirtual 252, 3) := by decide +kernel
theorem dX10_who_5 : decode cX10_who 5 = .ok (.ifCond .ne 7, 3) := by decide +kernel
theorem dX10_who_8 : decode cX10_who 8 = .ok (.sipush (-1001), 3) := by decide +kernel
theorem dX10_who_11 : decode cX10_who 11 = .ok (.ireturn, 1) := by decide +kernel
theorem dX10_who_12 : decode cX10_who 12 = .ok (.iconst 0, 1) := by decide +kernel
theorem dX10_who_13 : decode cX10_who 13 = .ok (.istore_n 2, 1) := by decide +kernel
theorem dX10_who_14 : decode cX10_who 14 = .ok (.iconst 0, 1) := by decide +kernel
theorem dX10_who_15 : decode cX10_who 15 = .ok (.istore_n 3, 1) := by decide +kernel
theorem dX10_who_16 : decode cX10_who 16 = .ok (.iload_n 3, 1) := by decide +kernel
theorem dX10_who_17 : decode cX10_who 17 = .ok (.aload_n 0, 1) := by decide +kernel
theorem dX10_who_18 : decode cX10_who 18 = .ok (.getfield 30, 3) := by decide +kernel
theorem dX10_who_21 : decode cX10_who 21 = .ok (.invokevirtual 142, 3) := by decide +kernel
theorem dX10_who_24 : decode cX10_who 24 = .ok (.if_icmp .ge 24, 3) := by decide +kernel
theorem dX10_who_27 : decode cX10_who 27 = .ok (.aload_n 0, 1) := by decide +kernel
theorem dX10_who_28 : decode cX10_who 28 = .ok (.iload_n 3, 1) := by decide +kernel
theorem dX10_who_29 : decode cX10_who 29 = .ok (.iload_n 1, 1) := by decide +kernel
theorem dX10_who_30 : decode cX10_who 30 = .ok (.invokevirtual 283, 3) := by decide +kernel
theorem dX10_who_33 : decode cX10_who 33 = .ok (.ifCond .eq 9, 3) := by decide +kernel
theorem dX10_who_36 : decode cX10_who 36 = .ok (.iload_n 2, 1) := by decide +kernel
theorem dX10_who_37 : decode cX10_who 37 = .ok (.iconst 1, 1) := by decide +kernel
theorem dX10_who_38 : decode cX10_who 38 = .ok (.iload_n 3, 1) := by decide +kernel
theorem dX10_who_39 : decode cX10_who 39 = .ok (.ishl, 1) := by decide +kernel
theorem dX10_who_40 : decode cX10_who 40 = .ok (.ior, 1) := by decide +kernel
theorem dX10_who_41 : decode cX10_who 41 = .ok (.istore_n 2, 1) := by decide +kernel
theorem dX10_who_42 : decode cX10_who 42 = .ok (.iinc 3 1, 3) := by decide +kernel
theorem dX10_who_45 : decode cX10_who 45 = .ok (.goto (-29), 3) := by decide +kernel
theorem dX10_who_48 : decode cX10_who 48 = .ok (.iload_n 2, 1) := by decide +kernel
theorem dX10_who_49 : decode cX10_who 49 = .ok (.ireturn, 1) := by decide +kernel
theorem dX10_singerCouldWake_0 : decode cX10_singerCouldWake 0 = .ok (.aload_n 0, 1) := by decide +kernel
theorem dX10_singerCouldWake_1 : decode cX10_singerCouldWake 1 = .ok (.getfield 30, 3) := by decide +kernel
theorem dX10_singerCouldWake_4 : decode cX10_singerCouldWake 4 = .ok (.getfield 205, 3) := by decide +kernel
theorem dX10_singerCouldWake_7 : decode cX10_singerCouldWake 7 = .ok (.iload_n 1, 1) := by decide +kernel
theorem dX10_singerCouldWake_8 : decode cX10_singerCouldWake 8 = .ok (.invokevirtual 174, 3) := by decide +kernel
theorem dX10_singerCouldWake_11 : decode cX10_singerCouldWake 11 = .ok (.istore_n 3, 1) := by decide +kernel
theorem dX10_singerCouldWake_12 : decode cX10_singerCouldWake 12 = .ok (.iload_n 3, 1) := by decide +kernel
theorem dX10_singerCouldWake_13 : decode cX10_singerCouldWake 13 = .ok (.aload_n 0, 1) := by decide +kernel
theorem dX10_singerCouldWake_14 : decode cX10_singerCouldWake 14 = .ok (.getfield 30, 3) := by decide +kernel
theorem dX10_singerCouldWake_17 : decode cX10_singerCouldWake 17 = .ok (.getfield 208, 3) := by decide +kernel
theorem dX10_singerCouldWake_20 : decode cX10_singerCouldWake 20 = .ok (.iload_n 1, 1) := by decide +kernel
theorem dX10_singerCouldWake_21 : decode cX10_singerCouldWake 21 = .ok (.invokevirtual 174, 3) := by decide +kernel
theorem dX10_singerCouldWake_24 : decode cX10_singerCouldWake 24 = .ok (.if_icmp .gt 45, 3) := by decide +kernel
theorem dX10_singerCouldWake_27 : decode cX10_singerCouldWake 27 = .ok (.aload_n 0, 1) := by decide +kernel
theorem dX10_singerCouldWake_28 : decode cX10_singerCouldWake 28 = .ok (.getfield 49, 3) := by decide +kernel
theorem dX10_singerCouldWake_31 : decode cX10_singerCouldWake 31 = .ok (.aload_n 0, 1) := by decide +kernel
theorem dX10_singerCouldWake_32 : decode cX10_singerCouldWake 32 = .ok (.getfield 30, 3) := by decide +kernel
theorem dX10_singerCouldWake_35 : decode cX10_singerCouldWake 35 = .ok (.getfield 199, 3) := by decide +kernel
theorem dX10_singerCouldWake_38 : decode cX10_singerCouldWake 38 = .ok (.iload_n 1, 1) := by decide +kernel
theorem dX10_singerCouldWake_39 : decode cX10_singerCouldWake 39 = .ok (.invokevirtual 174, 3) := by decide +kernel
theorem dX10_singerCouldWake_42 : decode cX10_singerCouldWake 42 = .ok (.iload_n 3, 1) := by decide +kernel
theorem dX10_singerCouldWake_43 : decode cX10_singerCouldWake 43 = .ok (.aload_n 0, 1) := by decide +kernel
theorem dX10_singerCouldWake_44 : decode cX10_singerCouldWake 44 = .ok (.getfield 30, 3) := by decide +kernel
theorem dX10_singerCouldWake_47 : decode cX10_singerCouldWake 47 = .ok (.getfield 202, 3) := by decide +kernel
theorem dX10_singerCouldWake_50 : decode cX10_singerCouldWake 50 = .ok (.iload_n 1, 1) := by decide +kernel
theorem dX10_singerCouldWake_51 : decode cX10_singerCouldWake 51 = .ok (.invokevirtual 174, 3) := by decide +kernel
theorem dX10_singerCouldWake_54 : decode cX10_singerCouldWake 54 = .ok (.invokevirtual 222, 3) := by decide +kernel
theorem dX10_singerCouldWake_57 : decode cX10_singerCouldWake 57 = .ok (.iload_n 2, 1) := by decide +kernel
theorem dX10_singerCouldWake_58 : decode cX10_singerCouldWake 58 = .ok (.if_icmp .ne 5, 3) := by decide +kernel
theorem dX10_singerCouldWake_61 : decode cX10_singerCouldWake 61 = .ok (.iconst 1, 1) := by decide +kernel
theorem dX10_singerCouldWake_62 : decode cX10_singerCouldWake 62 = .ok (.ireturn, 1) := by decide +kernel
theorem dX10_singerCouldWake_63 : decode cX10_singerCouldWake 63 = .ok (.iinc 3 1, 3) := by decide +kernel
theorem dX10_singerCouldWake_66 : decode cX10_singerCouldWake 66 = .ok (.goto (-54), 3) := by decide +kernel
theorem dX10_singerCouldWake_69 : decode cX10_singerCouldWake 69 = .ok (.iconst 0, 1) := by decide +kernel
theorem dX10_singerCouldWake_70 : decode cX10_singerCouldWake 70 = .ok (.ireturn, 1) := by decide +kernel
theorem dX10_where_0 : decode cX10_where 0 = .ok (.aload_n 0, 1) := by decide +kernel
theorem dX10_where_1 : decode cX10_where 1 = .ok (.iload_n 1, 1) := by decide +kernel
theorem dX10_where_2 : decode cX10_where 2 = .ok (.invokevirtual 252, 3) := by decide +kernel
theorem dX10_where_5 : decode cX10_where 5 = .ok (.ifCond .ne 7, 3) := by decide +kernel
theorem dX10_where_8 : decode cX10_where 8 = .ok (.sipush (-1001), 3) := by decide +kernel
theorem dX10_where_11 : decode cX10_where 11 = .ok (.ireturn, 1) := by decide +kernel
theorem dX10_where_12 : decode cX10_where 12 = .ok (.iload_n 2, 1) := by decide +kernel
theorem dX10_where_13 : decode cX10_where 13 = .ok (.invokestatic 219, 3) := by decide +kernel
theorem dX10_where_16 : decode cX10_where 16 = .ok (.ifCond .ne 7, 3) := by decide +kernel
theorem dX10_where_19 : decode cX10_where 19 = .ok (.sipush (-1002), 3) := by decide +kernel
theorem dX10_where_22 : decode cX10_where 22 = .ok (.ireturn, 1) := by decide +kernel
theorem dX10_where_23 : decode cX10_where 23 = .ok (.aload_n 0, 1) := by decide +kernel
theorem dX10_where_24 : decode cX10_where 24 = .ok (.getfield 71, 3) := by decide +kernel
theorem dX10_where_27 : decode cX10_where 27 = .ok (.aload_n 0, 1) := by decide +kernel
theorem dX10_where_28 : decode cX10_where 28 = .ok (.getfield 49, 3) := by decide +kernel
theorem dX10_where_31 : decode cX10_where 31 = .ok (.iload_n 2, 1) := by decide +kernel
theorem dX10_where_32 : decode cX10_where 32 = .ok (.invokevirtual 262, 3) := by decide +kernel
theorem dX10_where_35 : decode cX10_where 35 = .ok (.iconst 0, 1) := by decide +kernel
theorem dX10_where_36 : decode cX10_where 36 = .ok (.istore_n 3, 1) := by decide +kernel
theorem dX10_where_37 : decode cX10_where 37 = .ok (.iconst 0, 1) := by decide +kernel
theorem dX10_where_38 : decode cX10_where 38 = .ok (.istore 4, 2) := by decide +kernel
theorem dX10_where_40 : decode cX10_where 40 = .ok (.iload 4, 2) := by decide +kernel
theorem dX10_where_42 : decode cX10_where 42 = .ok (.bipush 50, 2) := by decide +kernel
theorem dX10_where_44 : decode cX10_where 44 = .ok (.if_icmp .ge 25, 3) := by decide +kernel
theorem dX10_where_47 : decode cX10_where 47 = .ok (.aload_n 0, 1) := by decide +kernel
theorem dX10_where_48 : decode cX10_where 48 = .ok (.getfield 71, 3) := by decide +kernel
theorem dX10_where_51 : decode cX10_where 51 = .ok (.iload 4, 2) := by decide +kernel
theorem dX10_where_53 : decode cX10_where 53 = .ok (.iload_n 1, 1) := by decide +kernel
theorem dX10_where_54 : decode cX10_where 54 = .ok (.invokevirtual 286, 3) := by decide +kernel
theorem dX10_where_57 : decode cX10_where 57 = .ok (.ifCond .eq 6, 3) := by decide +kernel
theorem dX10_where_60 : decode cX10_where 60 = .ok (.iinc 3 1, 3) := by decide +kernel
theorem dX10_where_63 : decode cX10_where 63 = .ok (.iinc 4 1, 3) := by decide +kernel
theorem dX10_where_66 : decode cX10_where 66 = .ok (.goto (-26), 3) := by decide +kernel
theorem dX10_where_69 : decode cX10_where 69 = .ok (.iload_n 3, 1) := by decide +kernel
theorem dX10_where_70 : decode cX10_where 70 = .ok (.ireturn, 1) := by decide +kernel
theorem dX10_file_0 : decode cX10_file 0 = .ok (.aload_n 0, 1) := by decide +kernel
theorem dX10_file_1 : decode cX10_file 1 = .ok (.iload_n 1, 1) := by decide +kernel
theorem dX10_file_2 : decode cX10_file 2 = .ok (.invokevirtual 167, 3) := by decide +kernel
theorem dX10_file_5 : decode cX10_file 5 = .ok (.ifCond .ne 7, 3) := by decide +kernel
theorem dX10_file_8 : decode cX10_file 8 = .ok (.sipush (-1001), 3) := by decide +kernel
theorem dX10_file_11 : decode cX10_file 11 = .ok (.ireturn, 1) := by decide +kernel
theorem dX10_file_12 : decode cX10_file 12 = .ok (.aload_n 0, 1) := by decide +kernel
theorem dX10_file_13 : decode cX10_file 13 = .ok (.getfield 49, 3) := by decide +kernel
theorem dX10_file_16 : decode cX10_file 16 = .ok (.getfield 178, 3) := by decide +kernel
theorem dX10_file_19 : decode cX10_file 19 = .ok (.iload_n 1, 1) := by decide +kernel
theorem dX10_file_20 : decode cX10_file 20 = .ok (.iaload, 1) := by decide +kernel
theorem dX10_file_21 : decode cX10_file 21 = .ok (.istore_n 3, 1) := by decide +kernel
theorem dX10_file_22 : decode cX10_file 22 = .ok (.iload_n 2, 1) := by decide +kernel
theorem dX10_file_23 : decode cX10_file 23 = .ok (.iload_n 3, 1) := by decide +kernel
theorem dX10_file_24 : decode cX10_file 24 = .ok (.if_icmp .le 9, 3) := by decide +kernel
theorem dX10_file_27 : decode cX10_file 27 = .ok (.iload_n 2, 1) := by decide +kernel
theorem dX10_file_28 : decode cX10_file 28 = .ok (.bipush 64, 2) := by decide +kernel
theorem dX10_file_30 : decode cX10_file 30 = .ok (.if_icmp .lt 7, 3) := by decide +kernel
theorem dX10_file_33 : decode cX10_file 33 = .ok (.sipush (-1002), 3) := by decide +kernel
theorem dX10_file_36 : decode cX10_file 36 = .ok (.ireturn, 1) := by decide +kernel
theorem dX10_file_37 : decode cX10_file 37 = .ok (.aload_n 0, 1) := by decide +kernel
theorem dX10_file_38 : decode cX10_file 38 = .ok (.getfield 49, 3) := by decide +kernel
theorem dX10_file_41 : decode cX10_file 41 = .ok (.getfield 178, 3) := by decide +kernel
theorem dX10_file_44 : decode cX10_file 44 = .ok (.iload_n 1, 1) := by decide +kernel
theorem dX10_file_45 : decode cX10_file 45 = .ok (.iload_n 2, 1) := by decide +kernel
theorem dX10_file_46 : decode cX10_file 46 = .ok (.iastore, 1) := by decide +kernel
theorem dX10_file_47 : decode cX10_file 47 = .ok (.aload_n 0, 1) := by decide +kernel
theorem dX10_file_48 : decode cX10_file 48 = .ok (.getfield 87, 3) := by decide +kernel
theorem dX10_file_51 : decode cX10_file 51 = .ok (.iconst 0, 1) := by decide +kernel
theorem dX10_file_52 : decode cX10_file 52 = .ok (.putfield 125, 3) := by decide +kernel
theorem dX10_file_55 : decode cX10_file 55 = .ok (.iload_n 2, 1) := by decide +kernel
theorem dX10_file_56 : decode cX10_file 56 = .ok (.iload_n 3, 1) := by decide +kernel
theorem dX10_file_57 : decode cX10_file 57 = .ok (.isub, 1) := by decide +kernel
theorem dX10_file_58 : decode cX10_file 58 = .ok (.ireturn, 1) := by decide +kernel
theorem dX10_alone_0 : decode cX10_alone 0 = .ok (.iload_n 1, 1) := by decide +kernel
theorem dX10_alone_1 : decode cX10_alone 1 = .ok (.iconst (-1), 1) := by decide +kernel
theorem dX10_alone_2 : decode cX10_alone 2 = .ok (.if_icmp .eq 15, 3) := by decide +kernel
theorem dX10_alone_5 : decode cX10_alone 5 = .ok (.aload_n 0, 1) := by decide +kernel
theorem dX10_alone_6 : decode cX10_alone 6 = .ok (.iload_n 1, 1) := by decide +kernel
theorem dX10_alone_7 : decode cX10_alone 7 = .ok (.invokevirtual 167, 3) := by decide +kernel
theorem dX10_alone_10 : decode cX10_alone 10 = .ok (.ifCond .ne 7, 3) := by decide +kernel
theorem dX10_alone_13 : decode cX10_alone 13 = .ok (.sipush (-1001), 3) := by decide +kernel
theorem dX10_alone_16 : decode cX10_alone 16 = .ok (.ireturn, 1) := by decide +kernel
theorem dX10_alone_17 : decode cX10_alone 17 = .ok (.aload_n 0, 1) := by decide +kernel
theorem dX10_alone_18 : decode cX10_alone 18 = .ok (.getfield 96, 3) := by decide +kernel
theorem dX10_alone_21 : decode cX10_alone 21 = .ok (.invokevirtual 289, 3) := by decide +kernel
theorem dX10_alone_24 : decode cX10_alone 24 = .ok (.istore_n 2, 1) := by decide +kernel
theorem dX10_alone_25 : decode cX10_alone 25 = .ok (.iload_n 1, 1) := by decide +kernel
theorem dX10_alone_26 : decode cX10_alone 26 = .ok (.iconst (-1), 1) := by decide +kernel
theorem dX10_alone_27 : decode cX10_alone 27 = .ok (.if_icmp .eq 8, 3) := by decide +kernel
theorem dX10_alone_30 : decode cX10_alone 30 = .ok (.iload_n 2, 1) := by decide +kernel
theorem dX10_alone_31 : decode cX10_alone 31 = .ok (.iconst (-1), 1) := by decide +kernel
theorem dX10_alone_32 : decode cX10_alone 32 = .ok (.if_icmp .ne 5, 3) := by decide +kernel
theorem dX10_alone_35 : decode cX10_alone 35 = .ok (.iload_n 2, 1) := by decide +kernel
theorem dX10_alone_36 : decode cX10_alone 36 = .ok (.ireturn, 1) := by decide +kernel
theorem dX10_alone_37 : decode cX10_alone 37 = .ok (.aload_n 0, 1) := by decide +kernel
theorem dX10_alone_38 : decode cX10_alone 38 = .ok (.getfield 96, 3) := by decide +kernel
theorem dX10_alone_41 : decode cX10_alone 41 = .ok (.getfield 292, 3) := by decide +kernel
theorem dX10_alone_44 : decode cX10_alone 44 = .ok (.iload_n 1, 1) := by decide +kernel
theorem dX10_alone_45 : decode cX10_alone 45 = .ok (.iaload, 1) := by decide +kernel
theorem dX10_alone_46 : decode cX10_alone 46 = .ok (.ireturn, 1) := by decide +kernel
theorem dX10_tuned_0 : decode cX10_tuned 0 = .ok (.iload_n 1, 1) := by decide +kernel
theorem dX10_tuned_1 : decode cX10_tuned 1 = .ok (.iconst 0, 1) := by decide +kernel
theorem dX10_tuned_2 : decode cX10_tuned 2 = .ok (.bipush 63, 2) := by decide +kernel
theorem dX10_tuned_4 : decode cX10_tuned 4 = .ok (.invokestatic 211, 3) := by decide +kernel
theorem dX10_tuned_7 : decode cX10_tuned 7 = .ok (.ifCond .eq 23, 3) := by decide +kernel
theorem dX10_tuned_10 : decode cX10_tuned 10 = .ok (.iload_n 2, 1) := by decide +kernel
theorem dX10_tuned_11 : decode cX10_tuned 11 = .ok (.iconst 1, 1) := by decide +kernel
theorem dX10_tuned_12 : decode cX10_tuned 12 = .ok (.bipush 9, 2) := by decide +kernel
theorem dX10_tuned_14 : decode cX10_tuned 14 = .ok (.invokestatic 211, 3) := by decide +kernel
theorem dX10_tuned_17 : decode cX10_tuned 17 = .ok (.ifCond .eq 13, 3) := by decide +kernel
theorem dX10_tuned_20 : decode cX10_tuned 20 = .ok (.iload_n 3, 1) := by decide +kernel
theorem dX10_tuned_21 : decode cX10_tuned 21 = .ok (.iconst 1, 1) := by decide +kernel
theorem dX10_tuned_22 : decode cX10_tuned 22 = .ok (.bipush 10, 2) := by decide +kernel
theorem dX10_tuned_24 : decode cX10_tuned 24 = .ok (.invokestatic 211, 3) := by decide +kernel
theorem dX10_tuned_27 : decode cX10_tuned 27 = .ok (.ifCond .ne 7, 3) := by decide +kernel
theorem dX10_tuned_30 : decode cX10_tuned 30 = .ok (.sipush (-1002), 3) := by decide +kernel
theorem dX10_tuned_33 : decode cX10_tuned 33 = .ok (.ireturn, 1) := by decide +kernel
theorem dX10_tuned_34 : decode cX10_tuned 34 = .ok (.iload_n 3, 1) := by decide +kernel
theorem dX10_tuned_35 : decode cX10_tuned 35 = .ok (.aload_n 0, 1) := by decide +kernel
theorem dX10_tuned_36 : decode cX10_tuned 36 = .ok (.getfield 30, 3) := by decide +kernel
theorem dX10_tuned_39 : decode cX10_tuned 39 = .ok (.invokevirtual 139, 3) := by decide +kernel
theorem dX10_tuned_42 : decode cX10_tuned 42 = .ok (.if_icmp .gt 15, 3) := by decide +kernel
theorem dX10_tuned_45 : decode cX10_tuned 45 = .ok (.iload_n 1, 1) := by decide +kernel
theorem dX10_tuned_46 : decode cX10_tuned 46 = .ok (.iload_n 3, 1) := by decide +kernel
theorem dX10_tuned_47 : decode cX10_tuned 47 = .ok (.iconst 1, 1) := by decide +kernel
theorem dX10_tuned_48 : decode cX10_tuned 48 = .ok (.isub, 1) := by decide +kernel
theorem dX10_tuned_49 : decode cX10_tuned 49 = .ok (.iload_n 2, 1) := by decide +kernel
theorem dX10_tuned_50 : decode cX10_tuned 50 = .ok (.imul, 1) := by decide +kernel
theorem dX10_tuned_51 : decode cX10_tuned 51 = .ok (.iadd, 1) := by decide +kernel
theorem dX10_tuned_52 : decode cX10_tuned 52 = .ok (.bipush 64, 2) := by decide +kernel
theorem dX10_tuned_54 : decode cX10_tuned 54 = .ok (.if_icmp .lt 7, 3) := by decide +kernel
theorem dX10_tuned_57 : decode cX10_tuned 57 = .ok (.sipush (-1003), 3) := by decide +kernel
theorem dX10_tuned_60 : decode cX10_tuned 60 = .ok (.ireturn, 1) := by decide +kernel
theorem dX10_tuned_61 : decode cX10_tuned 61 = .ok (.aload_n 0, 1) := by decide +kernel
theorem dX10_tuned_62 : decode cX10_tuned 62 = .ok (.getfield 96, 3) := by decide +kernel
theorem dX10_tuned_65 : decode cX10_tuned 65 = .ok (.iload_n 1, 1) := by decide +kernel
theorem dX10_tuned_66 : decode cX10_tuned 66 = .ok (.iload_n 2, 1) := by decide +kernel
theorem dX10_tuned_67 : decode cX10_tuned 67 = .ok (.iload_n 3, 1) := by decide +kernel
theorem dX10_tuned_68 : decode cX10_tuned 68 = .ok (.invokevirtual 295, 3) := by decide +kernel
theorem dX10_tuned_71 : decode cX10_tuned 71 = .ok (.istore 5, 2) := by decide +kernel
theorem dX10_tuned_73 : decode cX10_tuned 73 = .ok (.iload 4, 2) := by decide +kernel
theorem dX10_tuned_75 : decode cX10_tuned 75 = .ok (.iconst (-1), 1) := by decide +kernel
theorem dX10_tuned_76 : decode cX10_tuned 76 = .ok (.if_icmp .eq 9, 3) := by decide +kernel
theorem dX10_tuned_79 : decode cX10_tuned 79 = .ok (.iload 5, 2) := by decide +kernel
theorem dX10_tuned_81 : decode cX10_tuned 81 = .ok (.iconst (-1), 1) := by decide +kernel
theorem dX10_tuned_82 : decode cX10_tuned 82 = .ok (.if_icmp .ne 6, 3) := by decide +kernel
theorem dX10_tuned_85 : decode cX10_tuned 85 = .ok (.iload 5, 2) := by decide +kernel
theorem dX10_tuned_87 : decode cX10_tuned 87 = .ok (.ireturn, 1) := by decide +kernel
theorem dX10_tuned_88 : decode cX10_tuned 88 = .ok (.iload 4, 2) := by decide +kernel
theorem dX10_tuned_90 : decode cX10_tuned 90 = .ok (.ifCond .lt 23, 3) := by decide +kernel
theorem dX10_tuned_93 : decode cX10_tuned 93 = .ok (.iload 4, 2) := by decide +kernel
theorem dX10_tuned_95 : decode cX10_tuned 95 = .ok (.iload_n 3, 1) := by decide +kernel
theorem dX10_tuned_96 : decode cX10_tuned 96 = .ok (.if_icmp .ge 17, 3) := by decide +kernel
theorem dX10_tuned_99 : decode cX10_tuned 99 = .ok (.aload_n 0, 1) := by decide +kernel
theorem dX10_tuned_100 : decode cX10_tuned 100 = .ok (.getfield 96, 3) := by decide +kernel
theorem dX10_tuned_103 : decode cX10_tuned 103 = .ok (.iload_n 1, 1) := by decide +kernel
theorem dX10_tuned_104 : decode cX10_tuned 104 = .ok (.iload_n 2, 1) := by decide +kernel
theorem dX10_tuned_105 : decode cX10_tuned 105 = .ok (.iload 4, 2) := by decide +kernel
theorem dX10_tuned_107 : decode cX10_tuned 107 = .ok (.invokevirtual 298, 3) := by decide +kernel
theorem dX10_tuned_110 : decode cX10_tuned 110 = .ok (.goto 4, 3) := by decide +kernel
theorem dX10_tuned_113 : decode cX10_tuned 113 = .ok (.iconst (-1), 1) := by decide +kernel
theorem dX10_tuned_114 : decode cX10_tuned 114 = .ok (.ireturn, 1) := by decide +kernel
theorem dX10_flat_0 : decode cX10_flat 0 = .ok (.iload_n 1, 1) := by decide +kernel
theorem dX10_flat_1 : decode cX10_flat 1 = .ok (.ifCond .lt 21, 3) := by decide +kernel
theorem dX10_flat_4 : decode cX10_flat 4 = .ok (.iload_n 1, 1) := by decide +kernel
theorem dX10_flat_5 : decode cX10_flat 5 = .ok (.iconst 1, 1) := by decide +kernel
theorem dX10_flat_6 : decode cX10_flat 6 = .ok (.if_icmp .le 20, 3) := by decide +kernel
theorem dX10_flat_9 : decode cX10_flat 9 = .ok (.iload_n 1, 1) := by decide +kernel
theorem dX10_flat_10 : decode cX10_flat 10 = .ok (.iconst 2, 1) := by decide +kernel
theorem dX10_flat_11 : decode cX10_flat 11 = .ok (.isub, 1) := by decide +kernel
theorem dX10_flat_12 : decode cX10_flat 12 = .ok (.aload_n 0, 1) := by decide +kernel
theorem dX10_flat_13 : decode cX10_flat 13 = .ok (.getfield 41, 3) := by decide +kernel
theorem dX10_flat_16 : decode cX10_flat 16 = .ok (.invokevirtual 106, 3) := by decide +kernel
theorem dX10_flat_19 : decode cX10_flat 19 = .ok (.if_icmp .lt 7, 3) := by decide +kernel
theorem dX10_flat_22 : decode cX10_flat 22 = .ok (.sipush (-1002), 3) := by decide +kernel
theorem dX10_flat_25 : decode cX10_flat 25 = .ok (.ireturn, 1) := by decide +kernel
theorem dX10_flat_26 : decode cX10_flat 26 = .ok (.aload_n 0, 1) := by decide +kernel
theorem dX10_flat_27 : decode cX10_flat 27 = .ok (.getfield 87, 3) := by decide +kernel
theorem dX10_flat_30 : decode cX10_flat 30 = .ok (.aload_n 0, 1) := by decide +kernel
theorem dX10_flat_31 : decode cX10_flat 31 = .ok (.getfield 49, 3) := by decide +kernel
theorem dX10_flat_34 : decode cX10_flat 34 = .ok (.invokevirtual 243, 3) := by decide +kernel
theorem dX10_flat_37 : decode cX10_flat 37 = .ok (.aload_n 0, 1) := by decide +kernel
theorem dX10_flat_38 : decode cX10_flat 38 = .ok (.getfield 87, 3) := by decide +kernel
theorem dX10_flat_41 : decode cX10_flat 41 = .ok (.invokevirtual 246, 3) := by decide +kernel
theorem dX10_flat_44 : decode cX10_flat 44 = .ok (.iconst (-1), 1) := by decide +kernel
theorem dX10_flat_45 : decode cX10_flat 45 = .ok (.if_icmp .ne 7, 3) := by decide +kernel
theorem dX10_flat_48 : decode cX10_flat 48 = .ok (.sipush (-1003), 3) := by decide +kernel
theorem dX10_flat_51 : decode cX10_flat 51 = .ok (.ireturn, 1) := by decide +kernel
theorem dX10_flat_52 : decode cX10_flat 52 = .ok (.aload_n 0, 1) := by decide +kernel
theorem dX10_flat_53 : decode cX10_flat 53 = .ok (.getfield 53, 3) := by decide +kernel
theorem dX10_flat_56 : decode cX10_flat 56 = .ok (.aload_n 0, 1) := by decide +kernel
theorem dX10_flat_57 : decode cX10_flat 57 = .ok (.getfield 49, 3) := by decide +kernel
theorem dX10_flat_60 : decode cX10_flat 60 = .ok (.invokevirtual 301, 3) := by decide +kernel
theorem dX10_flat_63 : decode cX10_flat 63 = .ok (.iload_n 1, 1) := by decide +kernel
theorem dX10_flat_64 : decode cX10_flat 64 = .ok (.iconst 1, 1) := by decide +kernel
theorem dX10_flat_65 : decode cX10_flat 65 = .ok (.if_icmp .le 11, 3) := by decide +kernel
theorem dX10_flat_68 : decode cX10_flat 68 = .ok (.aload_n 0, 1) := by decide +kernel
theorem dX10_flat_69 : decode cX10_flat 69 = .ok (.iload_n 1, 1) := by decide +kernel
theorem dX10_flat_70 : decode cX10_flat 70 = .ok (.iconst 2, 1) := by decide +kernel
theorem dX10_flat_71 : decode cX10_flat 71 = .ok (.isub, 1) := by decide +kernel
theorem dX10_flat_72 : decode cX10_flat 72 = .ok (.invokevirtual 304, 3) := by decide +kernel
theorem dX10_flat_75 : decode cX10_flat 75 = .ok (.ireturn, 1) := by decide +kernel
theorem dX10_flat_76 : decode cX10_flat 76 = .ok (.iconst (-1), 1) := by decide +kernel
theorem dX10_flat_77 : decode cX10_flat 77 = .ok (.istore_n 2, 1) := by decide +kernel
theorem dX10_flat_78 : decode cX10_flat 78 = .ok (.iconst 0, 1) := by decide +kernel
theorem dX10_flat_79 : decode cX10_flat 79 = .ok (.istore_n 3, 1) := by decide +kernel
theorem dX10_flat_80 : decode cX10_flat 80 = .ok (.iconst 0, 1) := by decide +kernel
theorem dX10_flat_81 : decode cX10_flat 81 = .ok (.istore 4, 2) := by decide +kernel
theorem dX10_flat_83 : decode cX10_flat 83 = .ok (.iload 4, 2) := by decide +kernel
theorem dX10_flat_85 : decode cX10_flat 85 = .ok (.aload_n 0, 1) := by decide +kernel
theorem dX10_flat_86 : decode cX10_flat 86 = .ok (.getfield 41, 3) := by decide +kernel
theorem dX10_flat_89 : decode cX10_flat 89 = .ok (.invokevirtual 106, 3) := by decide +kernel
theorem dX10_flat_92 : decode cX10_flat 92 = .ok (.if_icmp .ge 32, 3) := by decide +kernel
theorem dX10_flat_95 : decode cX10_flat 95 = .ok (.aload_n 0, 1) := by decide +kernel
theorem dX10_flat_96 : decode cX10_flat 96 = .ok (.iload 4, 2) := by decide +kernel
theorem dX10_flat_98 : decode cX10_flat 98 = .ok (.invokevirtual 304, 3) := by decide +kernel
theorem dX10_flat_101 : decode cX10_flat 101 = .ok (.ifCond .eq 17, 3) := by decide +kernel
theorem dX10_flat_104 : decode cX10_flat 104 = .ok (.iload_n 3, 1) := by decide +kernel
theorem dX10_flat_105 : decode cX10_flat 105 = .ok (.ifCond .ne 8, 3) := by decide +kernel
theorem dX10_flat_108 : decode cX10_flat 108 = .ok (.iload 4, 2) := by decide +kernel
theorem dX10_flat_110 : decode cX10_flat 110 = .ok (.goto 4, 3) := by decide +kernel
theorem dX10_flat_113 : decode cX10_flat 113 = .ok (.iload_n 2, 1) := by decide +kernel
theorem dX10_flat_114 : decode cX10_flat 114 = .ok (.istore_n 2, 1) := by decide +kernel
theorem dX10_flat_115 : decode cX10_flat 115 = .ok (.iinc 3 1, 3) := by decide +kernel
theorem dX10_flat_118 : decode cX10_flat 118 = .ok (.iinc 4 1, 3) := by decide +kernel
theorem dX10_flat_121 : decode cX10_flat 121 = .ok (.goto (-38), 3) := by decide +kernel
theorem dX10_flat_124 : decode cX10_flat 124 = .ok (.iload_n 1, 1) := by decide +kernel
theorem dX10_flat_125 : decode cX10_flat 125 = .ok (.ifCond .ne 7, 3) := by decide +kernel
theorem dX10_flat_128 : decode cX10_flat 128 = .ok (.iload_n 2, 1) := by decide +kernel
theorem dX10_flat_129 : decode cX10_flat 129 = .ok (.goto 4, 3) := by decide +kernel
theorem dX10_flat_132 : decode cX10_flat 132 = .ok (.iload_n 3, 1) := by decide +kernel
theorem dX10_flat_133 : decode cX10_flat 133 = .ok (.ireturn, 1) := by decide +kernel
theorem dX10_darkOnDay_0 : decode cX10_darkOnDay 0 = .ok (.aload_n 0, 1) := by decide +kernel
theorem dX10_darkOnDay_1 : decode cX10_darkOnDay 1 = .ok (.getfield 53, 3) := by decide +kernel
theorem dX10_darkOnDay_4 : decode cX10_darkOnDay 4 = .ok (.aload_n 0, 1) := by decide +kernel
theorem dX10_darkOnDay_5 : decode cX10_darkOnDay 5 = .ok (.getfield 41, 3) := by decide +kernel
theorem dX10_darkOnDay_8 : decode cX10_darkOnDay 8 = .ok (.iload_n 1, 1) := by decide +kernel
theorem dX10_darkOnDay_9 : decode cX10_darkOnDay 9 = .ok (.invokevirtual 174, 3) := by decide +kernel
theorem dX10_darkOnDay_12 : decode cX10_darkOnDay 12 = .ok (.putfield 161, 3) := by decide +kernel
theorem dX10_darkOnDay_15 : decode cX10_darkOnDay 15 = .ok (.aload_n 0, 1) := by decide +kernel
theorem dX10_darkOnDay_16 : decode cX10_darkOnDay 16 = .ok (.getfield 30, 3) := by decide +kernel
theorem dX10_darkOnDay_19 : decode cX10_darkOnDay 19 = .ok (.invokevirtual 307, 3) := by decide +kernel
theorem dX10_darkOnDay_22 : decode cX10_darkOnDay 22 = .ok (.aload_n 0, 1) := by decide +kernel
theorem dX10_darkOnDay_23 : decode cX10_darkOnDay 23 = .ok (.getfield 87, 3) := by decide +kernel
theorem dX10_darkOnDay_26 : decode cX10_darkOnDay 26 = .ok (.aload_n 0, 1) := by decide +kernel
theorem dX10_darkOnDay_27 : decode cX10_darkOnDay 27 = .ok (.getfield 53, 3) := by decide +kernel
theorem dX10_darkOnDay_30 : decode cX10_darkOnDay 30 = .ok (.invokevirtual 310, 3) := by decide +kernel
theorem dX10_darkOnDay_33 : decode cX10_darkOnDay 33 = .ok (.iconst (-1), 1) := by decide +kernel
theorem dX10_darkOnDay_34 : decode cX10_darkOnDay 34 = .ok (.ixor, 1) := by decide +kernel
theorem dX10_darkOnDay_35 : decode cX10_darkOnDay 35 = .ok (.iand, 1) := by decide +kernel
theorem dX10_darkOnDay_36 : decode cX10_darkOnDay 36 = .ok (.ireturn, 1) := by decide +kernel
theorem dX10_log_0 : decode cX10_log 0 = .ok (.aload_n 0, 1) := by decide +kernel
theorem dX10_log_1 : decode cX10_log 1 = .ok (.iload_n 1, 1) := by decide +kernel
theorem dX10_log_2 : decode cX10_log 2 = .ok (.invokevirtual 252, 3) := by decide +kernel
theorem dX10_log_5 : decode cX10_log 5 = .ok (.ifCond .ne 7, 3) := by decide +kernel
theorem dX10_log_8 : decode cX10_log 8 = .ok (.sipush (-1001), 3) := by decide +kernel
theorem dX10_log_11 : decode cX10_log 11 = .ok (.ireturn, 1) := by decide +kernel
theorem dX10_log_12 : decode cX10_log 12 = .ok (.aload_n 0, 1) := by decide +kernel
theorem dX10_log_13 : decode cX10_log 13 = .ok (.getfield 65, 3) := by decide +kernel
theorem dX10_log_16 : decode cX10_log 16 = .ok (.invokevirtual 258, 3) := by decide +kernel
theorem dX10_log_19 : decode cX10_log 19 = .ok (.ifCond .eq 7, 3) := by decide +kernel
theorem dX10_log_22 : decode cX10_log 22 = .ok (.sipush (-1004), 3) := by decide +kernel
theorem dX10_log_25 : decode cX10_log 25 = .ok (.ireturn, 1) := by decide +kernel
theorem dX10_log_26 : decode cX10_log 26 = .ok (.aload_n 0, 1) := by decide +kernel
theorem dX10_log_27 : decode cX10_log 27 = .ok (.getfield 65, 3) := by decide +kernel
theorem dX10_log_30 : decode cX10_log 30 = .ok (.iload_n 1, 1) := by decide +kernel
theorem dX10_log_31 : decode cX10_log 31 = .ok (.invokevirtual 110, 3) := by decide +kernel
theorem dX10_log_34 : decode cX10_log 34 = .ok (.aload_n 0, 1) := by decide +kernel
theorem dX10_log_35 : decode cX10_log 35 = .ok (.getfield 65, 3) := by decide +kernel
theorem dX10_log_38 : decode cX10_log 38 = .ok (.invokevirtual 106, 3) := by decide +kernel
theorem dX10_log_41 : decode cX10_log 41 = .ok (.ireturn, 1) := by decide +kernel
theorem dX10_clear_0 : decode cX10_clear 0 = .ok (.aload_n 0, 1) := by decide +kernel
theorem dX10_clear_1 : decode cX10_clear 1 = .ok (.getfield 65, 3) := by decide +kernel
theorem dX10_clear_4 : decode cX10_clear 4 = .ok (.invokevirtual 106, 3) := by decide +kernel
theorem dX10_clear_7 : decode cX10_clear 7 = .ok (.istore_n 1, 1) := by decide +kernel
theorem dX10_clear_8 : decode cX10_clear 8 = .ok (.aload_n 0, 1) := by decide +kernel
theorem dX10_clear_9 : decode cX10_clear 9 = .ok (.getfield 65, 3) := by decide +kernel
theorem dX10_clear_12 : decode cX10_clear 12 = .ok (.invokevirtual 120, 3) := by decide +kernel
theorem dX10_clear_15 : decode cX10_clear 15 = .ok (.iload_n 1, 1) := by decide +kernel
theorem dX10_clear_16 : decode cX10_clear 16 = .ok (.ireturn, 1) := by decide +kernel
theorem dX10_judge_0 : decode cX10_judge 0 = .ok (.aload_n 0, 1) := by decide +kernel
theorem dX10_judge_1 : decode cX10_judge 1 = .ok (.getfield 53, 3) := by decide +kernel
theorem dX10_judge_4 : decode cX10_judge 4 = .ok (.aload_n 0, 1) := by decide +kernel
theorem dX10_judge_5 : decode cX10_judge 5 = .ok (.getfield 49, 3) := by decide +kernel
theorem dX10_judge_8 : decode cX10_judge 8 = .ok (.invokevirtual 301, 3) := by decide +kernel
theorem dX10_judge_11 : decode cX10_judge 11 = .ok (.iconst 0, 1) := by decide +kernel
theorem dX10_judge_12 : decode cX10_judge 12 = .ok (.istore_n 1, 1) := by decide +kernel
theorem dX10_judge_13 : decode cX10_judge 13 = .ok (.iload_n 1, 1) := by decide +kernel
theorem dX10_judge_14 : decode cX10_judge 14 = .ok (.aload_n 0, 1) := by decide +kernel
theorem dX10_judge_15 : decode cX10_judge 15 = .ok (.getfield 65, 3) := by decide +kernel
theorem dX10_judge_18 : decode cX10_judge 18 = .ok (.invokevirtual 106, 3) := by decide +kernel
theorem dX10_judge_21 : decode cX10_judge 21 = .ok (.if_icmp .ge 40, 3) := by decide +kernel
theorem dX10_judge_24 : decode cX10_judge 24 = .ok (.aload_n 0, 1) := by decide +kernel
theorem dX10_judge_25 : decode cX10_judge 25 = .ok (.getfield 53, 3) := by decide +kernel
theorem dX10_judge_28 : decode cX10_judge 28 = .ok (.aload_n 0, 1) := by decide +kernel
theorem dX10_judge_29 : decode cX10_judge 29 = .ok (.getfield 37, 3) := by decide +kernel
theorem dX10_judge_32 : decode cX10_judge 32 = .ok (.invokevirtual 230, 3) := by decide +kernel
theorem dX10_judge_35 : decode cX10_judge 35 = .ok (.aload_n 0, 1) := by decide +kernel
theorem dX10_judge_36 : decode cX10_judge 36 = .ok (.getfield 53, 3) := by decide +kernel
theorem dX10_judge_39 : decode cX10_judge 39 = .ok (.invokevirtual 237, 3) := by decide +kernel
theorem dX10_judge_42 : decode cX10_judge 42 = .ok (.aload_n 0, 1) := by decide +kernel
theorem dX10_judge_43 : decode cX10_judge 43 = .ok (.getfield 65, 3) := by decide +kernel
theorem dX10_judge_46 : decode cX10_judge 46 = .ok (.iload_n 1, 1) := by decide +kernel
theorem dX10_judge_47 : decode cX10_judge 47 = .ok (.invokevirtual 174, 3) := by decide +kernel
theorem dX10_judge_50 : decode cX10_judge 50 = .ok (.if_icmp .eq 5, 3) := by decide +kernel
theorem dX10_judge_53 : decode cX10_judge 53 = .ok (.iload_n 1, 1) := by decide +kernel
theorem dX10_judge_54 : decode cX10_judge 54 = .ok (.ireturn, 1) := by decide +kernel
theorem dX10_judge_55 : decode cX10_judge 55 = .ok (.iinc 1 1, 3) := by decide +kernel
theorem dX10_judge_58 : decode cX10_judge 58 = .ok (.goto (-45), 3) := by decide +kernel
theorem dX10_judge_61 : decode cX10_judge 61 = .ok (.iconst (-1), 1) := by decide +kernel
theorem dX10_judge_62 : decode cX10_judge 62 = .ok (.ireturn, 1) := by decide +kernel
theorem dX10_seed_0 : decode cX10_seed 0 = .ok (.iload_n 1, 1) := by decide +kernel
theorem dX10_seed_1 : decode cX10_seed 1 = .ok (.ifCond .ge 7, 3) := by decide +kernel
theorem dX10_seed_4 : decode cX10_seed 4 = .ok (.sipush (-1002), 3) := by decide +kernel
theorem dX10_seed_7 : decode cX10_seed 7 = .ok (.ireturn, 1) := by decide +kernel
theorem dX10_seed_8 : decode cX10_seed 8 = .ok (.aload_n 0, 1) := by decide +kernel
theorem dX10_seed_9 : decode cX10_seed 9 = .ok (.getfield 49, 3) := by decide +kernel
theorem dX10_seed_12 : decode cX10_seed 12 = .ok (.getfield 314, 3) := by decide +kernel
theorem dX10_seed_15 : decode cX10_seed 15 = .ok (.istore_n 2, 1) := by decide +kernel
theorem dX10_seed_16 : decode cX10_seed 16 = .ok (.aload_n 0, 1) := by decide +kernel
theorem dX10_seed_17 : decode cX10_seed 17 = .ok (.getfield 49, 3) := by decide +kernel
theorem dX10_seed_20 : decode cX10_seed 20 = .ok (.iload_n 1, 1) := by decide +kernel
theorem dX10_seed_21 : decode cX10_seed 21 = .ok (.putfield 314, 3) := by decide +kernel
theorem dX10_seed_24 : decode cX10_seed 24 = .ok (.iload_n 2, 1) := by decide +kernel
theorem dX10_seed_25 : decode cX10_seed 25 = .ok (.ireturn, 1) := by decide +kernel
theorem dX10_keep_0 : decode cX10_keep 0 = .ok (.aload_n 0, 1) := by decide +kernel
theorem dX10_keep_1 : decode cX10_keep 1 = .ok (.iload_n 1, 1) := by decide +kernel
theorem dX10_keep_2 : decode cX10_keep 2 = .ok (.invokevirtual 317, 3) := by decide +kernel
theorem dX10_keep_5 : decode cX10_keep 5 = .ok (.astore_n 2, 1) := by decide +kernel
theorem dX10_keep_6 : decode cX10_keep 6 = .ok (.aload_n 2, 1) := by decide +kernel
theorem dX10_keep_7 : decode cX10_keep 7 = .ok (.ifnonnull 7, 3) := by decide +kernel
theorem dX10_keep_10 : decode cX10_keep 10 = .ok (.sipush (-1001), 3) := by decide +kernel
theorem dX10_keep_13 : decode cX10_keep 13 = .ok (.ireturn, 1) := by decide +kernel
theorem dX10_keep_14 : decode cX10_keep 14 = .ok (.aload_n 2, 1) := by decide +kernel
theorem dX10_keep_15 : decode cX10_keep 15 = .ok (.aload_n 0, 1) := by decide +kernel
theorem dX10_keep_16 : decode cX10_keep 16 = .ok (.getfield 49, 3) := by decide +kernel
theorem dX10_keep_19 : decode cX10_keep 19 = .ok (.invokevirtual 301, 3) := by decide +kernel
theorem dX10_keep_22 : decode cX10_keep 22 = .ok (.aload_n 2, 1) := by decide +kernel
theorem dX10_keep_23 : decode cX10_keep 23 = .ok (.iconst 1, 1) := by decide +kernel
theorem dX10_keep_24 : decode cX10_keep 24 = .ok (.putfield 121, 3) := by decide +kernel
theorem dX10_keep_27 : decode cX10_keep 27 = .ok (.iconst 1, 1) := by decide +kernel
theorem dX10_keep_28 : decode cX10_keep 28 = .ok (.ireturn, 1) := by decide +kernel
theorem dX10_goBack_0 : decode cX10_goBack 0 = .ok (.aload_n 0, 1) := by decide +kernel
theorem dX10_goBack_1 : decode cX10_goBack 1 = .ok (.iload_n 1, 1) := by decide +kernel
theorem dX10_goBack_2 : decode cX10_goBack 2 = .ok (.invokevirtual 317, 3) := by decide +kernel
theorem dX10_goBack_5 : decode cX10_goBack 5 = .ok (.astore_n 2, 1) := by decide +kernel
theorem dX10_goBack_6 : decode cX10_goBack 6 = .ok (.aload_n 2, 1) := by decide +kernel
theorem dX10_goBack_7 : decode cX10_goBack 7 = .ok (.ifnonnull 7, 3) := by decide +kernel
theorem dX10_goBack_10 : decode cX10_goBack 10 = .ok (.sipush (-1001), 3) := by decide +kernel
theorem dX10_goBack_13 : decode cX10_goBack 13 = .ok (.ireturn, 1) := by decide +kernel
theorem dX10_goBack_14 : decode cX10_goBack 14 = .ok (.aload_n 2, 1) := by decide +kernel
theorem dX10_goBack_15 : decode cX10_goBack 15 = .ok (.getfield 121, 3) := by decide +kernel
theorem dX10_goBack_18 : decode cX10_goBack 18 = .ok (.ifCond .ne 7, 3) := by decide +kernel
theorem dX10_goBack_21 : decode cX10_goBack 21 = .ok (.sipush (-1003), 3) := by decide +kernel
theorem dX10_goBack_24 : decode cX10_goBack 24 = .ok (.ireturn, 1) := by decide +kernel
theorem dX10_goBack_25 : decode cX10_goBack 25 = .ok (.aload_n 0, 1) := by decide +kernel
theorem dX10_goBack_26 : decode cX10_goBack 26 = .ok (.getfield 49, 3) := by decide +kernel
theorem dX10_goBack_29 : decode cX10_goBack 29 = .ok (.aload_n 2, 1) := by decide +kernel
theorem dX10_goBack_30 : decode cX10_goBack 30 = .ok (.invokevirtual 301, 3) := by decide +kernel
theorem dX10_goBack_33 : decode cX10_goBack 33 = .ok (.aload_n 0, 1) := by decide +kernel
theorem dX10_goBack_34 : decode cX10_goBack 34 = .ok (.getfield 87, 3) := by decide +kernel
theorem dX10_goBack_37 : decode cX10_goBack 37 = .ok (.iconst 0, 1) := by decide +kernel
theorem dX10_goBack_38 : decode cX10_goBack 38 = .ok (.putfield 125, 3) := by decide +kernel
theorem dX10_goBack_41 : decode cX10_goBack 41 = .ok (.iconst 1, 1) := by decide +kernel
theorem dX10_goBack_42 : decode cX10_goBack 42 = .ok (.ireturn, 1) := by decide +kernel
theorem dX10_imageOf_0 : decode cX10_imageOf 0 = .ok (.iload_n 1, 1) := by decide +kernel
theorem dX10_imageOf_1 : decode cX10_imageOf 1 = .ok (.ifCond .ne 8, 3) := by decide +kernel
theorem dX10_imageOf_4 : decode cX10_imageOf 4 = .ok (.aload_n 0, 1) := by decide +kernel
theorem dX10_imageOf_5 : decode cX10_imageOf 5 = .ok (.getfield 56, 3) := by decide +kernel
theorem dX10_imageOf_8 : decode cX10_imageOf 8 = .ok (.areturn, 1) := by decide +kernel
theorem dX10_imageOf_9 : decode cX10_imageOf 9 = .ok (.iload_n 1, 1) := by decide +kernel
theorem dX10_imageOf_10 : decode cX10_imageOf 10 = .ok (.iconst 1, 1) := by decide +kernel
theorem dX10_imageOf_11 : decode cX10_imageOf 11 = .ok (.if_icmp .ne 10, 3) := by decide +kernel
theorem dX10_imageOf_14 : decode cX10_imageOf 14 = .ok (.aload_n 0, 1) := by decide +kernel
theorem dX10_imageOf_15 : decode cX10_imageOf 15 = .ok (.getfield 59, 3) := by decide +kernel
theorem dX10_imageOf_18 : decode cX10_imageOf 18 = .ok (.goto 4, 3) := by decide +kernel
theorem dX10_imageOf_21 : decode cX10_imageOf 21 = .ok (.aconst_null, 1) := by decide +kernel
theorem dX10_imageOf_22 : decode cX10_imageOf 22 = .ok (.areturn, 1) := by decide +kernel
theorem dX10_isLamp_0 : decode cX10_isLamp 0 = .ok (.iload_n 1, 1) := by decide +kernel
theorem dX10_isLamp_1 : decode cX10_isLamp 1 = .ok (.ifCond .lt 18, 3) := by decide +kernel
theorem dX10_isLamp_4 : decode cX10_isLamp 4 = .ok (.iload_n 1, 1) := by decide +kernel
theorem dX10_isLamp_5 : decode cX10_isLamp 5 = .ok (.aload_n 0, 1) := by decide +kernel
theorem dX10_isLamp_6 : decode cX10_isLamp 6 = .ok (.getfield 30, 3) := by decide +kernel
theorem dX10_isLamp_9 : decode cX10_isLamp 9 = .ok (.invokevirtual 139, 3) := by decide +kernel
theorem dX10_isLamp_12 : decode cX10_isLamp 12 = .ok (.if_icmp .ge 7, 3) := by decide +kernel
theorem dX10_isLamp_15 : decode cX10_isLamp 15 = .ok (.iconst 1, 1) := by decide +kernel
theorem dX10_isLamp_16 : decode cX10_isLamp 16 = .ok (.goto 4, 3) := by decide +kernel
theorem dX10_isLamp_19 : decode cX10_isLamp 19 = .ok (.iconst 0, 1) := by decide +kernel
theorem dX10_isLamp_20 : decode cX10_isLamp 20 = .ok (.ireturn, 1) := by decide +kernel
theorem dX10_isKnown_0 : decode cX10_isKnown 0 = .ok (.iload_n 1, 1) := by decide +kernel
theorem dX10_isKnown_1 : decode cX10_isKnown 1 = .ok (.aload_n 0, 1) := by decide +kernel
theorem dX10_isKnown_2 : decode cX10_isKnown 2 = .ok (.getfield 30, 3) := by decide +kernel
theorem dX10_isKnown_5 : decode cX10_isKnown 5 = .ok (.invokevirtual 307, 3) := by decide +kernel
theorem dX10_isKnown_8 : decode cX10_isKnown 8 = .ok (.iconst (-1), 1) := by decide +kernel
theorem dX10_isKnown_9 : decode cX10_isKnown 9 = .ok (.ixor, 1) := by decide +kernel
theorem dX10_isKnown_10 : decode cX10_isKnown 10 = .ok (.iand, 1) := by decide +kernel
theorem dX10_isKnown_11 : decode cX10_isKnown 11 = .ok (.ifCond .ne 7, 3) := by decide +kernel
theorem dX10_isKnown_14 : decode cX10_isKnown 14 = .ok (.iconst 1, 1) := by decide +kernel
theorem dX10_isKnown_15 : decode cX10_isKnown 15 = .ok (.goto 4, 3) := by decide +kernel
theorem dX10_isKnown_18 : decode cX10_isKnown 18 = .ok (.iconst 0, 1) := by decide +kernel
theorem dX10_isKnown_19 : decode cX10_isKnown 19 = .ok (.ireturn, 1) := by decide +kernel
theorem dX10_isSpot_0 : decode cX10_isSpot 0 = .ok (.iload_n 0, 1) := by decide +kernel
theorem dX10_isSpot_1 : decode cX10_isSpot 1 = .ok (.iconst 0, 1) := by decide +kernel
theorem dX10_isSpot_2 : decode cX10_isSpot 2 = .ok (.bipush 49, 2) := by decide +kernel
theorem dX10_isSpot_4 : decode cX10_isSpot 4 = .ok (.invokestatic 211, 3) := by decide +kernel
theorem dX10_isSpot_7 : decode cX10_isSpot 7 = .ok (.ifCond .eq 17, 3) := by decide +kernel
theorem dX10_isSpot_10 : decode cX10_isSpot 10 = .ok (.iload_n 1, 1) := by decide +kernel
theorem dX10_isSpot_11 : decode cX10_isSpot 11 = .ok (.iconst 0, 1) := by decide +kernel
theorem dX10_isSpot_12 : decode cX10_isSpot 12 = .ok (.bipush 63, 2) := by decide +kernel
theorem dX10_isSpot_14 : decode cX10_isSpot 14 = .ok (.invokestatic 211, 3) := by decide +kernel
theorem dX10_isSpot_17 : decode cX10_isSpot 17 = .ok (.ifCond .eq 7, 3) := by decide +kernel
theorem dX10_isSpot_20 : decode cX10_isSpot 20 = .ok (.iconst 1, 1) := by decide +kernel
theorem dX10_isSpot_21 : decode cX10_isSpot 21 = .ok (.goto 4, 3) := by decide +kernel
theorem dX10_isSpot_24 : decode cX10_isSpot 24 = .ok (.iconst 0, 1) := by decide +kernel
theorem dX10_isSpot_25 : decode cX10_isSpot 25 = .ok (.ireturn, 1) := by decide +kernel
theorem dX10_isLoud_0 : decode cX10_isLoud 0 = .ok (.iload_n 0, 1) := by decide +kernel
theorem dX10_isLoud_1 : decode cX10_isLoud 1 = .ok (.iconst 1, 1) := by decide +kernel
theorem dX10_isLoud_2 : decode cX10_isLoud 2 = .ok (.bipush 50, 2) := by decide +kernel
theorem dX10_isLoud_4 : decode cX10_isLoud 4 = .ok (.invokestatic 211, 3) := by decide +kernel
theorem dX10_isLoud_7 : decode cX10_isLoud 7 = .ok (.ireturn, 1) := by decide +kernel
theorem dX10_isWithin_0 : decode cX10_isWithin 0 = .ok (.iload_n 0, 1) := by decide +kernel
theorem dX10_isWithin_1 : decode cX10_isWithin 1 = .ok (.iload_n 1, 1) := by decide +kernel
theorem dX10_isWithin_2 : decode cX10_isWithin 2 = .ok (.if_icmp .lt 12, 3) := by decide +kernel
theorem dX10_isWithin_5 : decode cX10_isWithin 5 = .ok (.iload_n 0, 1) := by decide +kernel
theorem dX10_isWithin_6 : decode cX10_isWithin 6 = .ok (.iload_n 2, 1) := by decide +kernel
theorem dX10_isWithin_7 : decode cX10_isWithin 7 = .ok (.if_icmp .gt 7, 3) := by decide +kernel
theorem dX10_isWithin_10 : decode cX10_isWithin 10 = .ok (.iconst 1, 1) := by decide +kernel
theorem dX10_isWithin_11 : decode cX10_isWithin 11 = .ok (.goto 4, 3) := by decide +kernel
theorem dX10_isWithin_14 : decode cX10_isWithin 14 = .ok (.iconst 0, 1) := by decide +kernel
theorem dX10_isWithin_15 : decode cX10_isWithin 15 = .ok (.ireturn, 1) := by decide +kernel
theorem dX11_init_0 : decode cX11_init 0 = .ok (.aload_n 0, 1) := by decide +kernel
theorem dX11_init_1 : decode cX11_init 1 = .ok (.invokespecial 1, 3) := by decide +kernel
theorem dX11_init_4 : decode cX11_init 4 = .ok (.aload_n 0, 1) := by decide +kernel
theorem dX11_init_5 : decode cX11_init 5 = .ok (.bipush 40, 2) := by decide +kernel
theorem dX11_init_7 : decode cX11_init 7 = .ok (.newarray .int, 2) := by decide +kernel
theorem dX11_init_9 : decode cX11_init 9 = .ok (.putfield 7, 3) := by decide +kernel
theorem dX11_init_12 : decode cX11_init 12 = .ok (.aload_n 0, 1) := by decide +kernel
theorem dX11_init_13 : decode cX11_init 13 = .ok (.bipush 10, 2) := by decide +kernel
theorem dX11_init_15 : decode cX11_init 15 = .ok (.newarray .int, 2) := by decide +kernel
theorem dX11_init_17 : decode cX11_init 17 = .ok (.putfield 13, 3) := by decide +kernel
theorem dX11_init_20 : decode cX11_init 20 = .ok (.aload_n 0, 1) := by decide +kernel
theorem dX11_init_21 : decode cX11_init 21 = .ok (.bipush 10, 2) := by decide +kernel
theorem dX11_init_23 : decode cX11_init 23 = .ok (.newarray .int, 2) := by decide +kernel
theorem dX11_init_25 : decode cX11_init 25 = .ok (.putfield 16, 3) := by decide +kernel
theorem dX11_init_28 : decode cX11_init 28 = .ok (.aload_n 0, 1) := by decide +kernel
theorem dX11_init_29 : decode cX11_init 29 = .ok (.bipush 10, 2) := by decide +kernel
theorem dX11_init_31 : decode cX11_init 31 = .ok (.newarray .int, 2) := by decide +kernel
theorem dX11_init_33 : decode cX11_init 33 = .ok (.putfield 19, 3) := by decide +kernel
theorem dX11_init_36 : decode cX11_init 36 = .ok (.aload_n 0, 1) := by decide +kernel
theorem dX11_init_37 : decode cX11_init 37 = .ok (.bipush 20, 2) := by decide +kernel
theorem dX11_init_39 : decode cX11_init 39 = .ok (.putfield 22, 3) := by decide +kernel
theorem dX11_init_42 : decode cX11_init 42 = .ok (.aload_n 0, 1) := by decide +kernel
theorem dX11_init_43 : decode cX11_init 43 = .ok (.bipush 30, 2) := by decide +kernel
theorem dX11_init_45 : decode cX11_init 45 = .ok (.putfield 26, 3) := by decide +kernel
theorem dX11_init_48 : decode cX11_init 48 = .ok (.aload_n 0, 1) := by decide +kernel
theorem dX11_init_49 : decode cX11_init 49 = .ok (.iconst 5, 1) := by decide +kernel
theorem dX11_init_50 : decode cX11_init 50 = .ok (.putfield 29, 3) := by decide +kernel
theorem dX11_init_53 : decode cX11_init 53 = .ok (.aload_n 0, 1) := by decide +kernel
theorem dX11_init_54 : decode cX11_init 54 = .ok (.bipush 32, 2) := by decide +kernel
theorem dX11_init_56 : decode cX11_init 56 = .ok (.newarray .int, 2) := by decide +kernel
theorem dX11_init_58 : decode cX11_init 58 = .ok (.putfield 32, 3) := by decide +kernel
theorem dX11_init_61 : decode cX11_init 61 = .ok (.aload_n 0, 1) := by decide +kernel
theorem dX11_init_62 : decode cX11_init 62 = .ok (.bipush 90, 2) := by decide +kernel
theorem dX11_init_64 : decode cX11_init 64 = .ok (.newarray .int, 2) := by decide +kernel
theorem dX11_init_66 : decode cX11_init 66 = .ok (.putfield 35, 3) := by decide +kernel
theorem dX11_init_69 : decode cX11_init 69 = .ok (.aload_n 0, 1) := by decide +kernel
theorem dX11_init_70 : decode cX11_init 70 = .ok (.bipush 30, 2) := by decide +kernel
theorem dX11_init_72 : decode cX11_init 72 = .ok (.newarray .int, 2) := by decide +kernel
theorem dX11_init_74 : decode cX11_init 74 = .ok (.putfield 38, 3) := by decide +kernel
theorem dX11_init_77 : decode cX11_init 77 = .ok (.aload_n 0, 1) := by decide +kernel
theorem dX11_init_78 : decode cX11_init 78 = .ok (.sipush 400, 3) := by decide +kernel
theorem dX11_init_81 : decode cX11_init 81 = .ok (.newarray .int, 2) := by decide +kernel
theorem dX11_init_83 : decode cX11_init 83 = .ok (.putfield 41, 3) := by decide +kernel
theorem dX11_init_86 : decode cX11_init 86 = .ok (.aload_n 0, 1) := by decide +kernel
theorem dX11_init_87 : decode cX11_init 87 = .ok (.iconst (-1), 1) := by decide +kernel
theorem dX11_init_88 : decode cX11_init 88 = .ok (.putfield 44, 3) := by decide +kernel
theorem dX11_init_91 : decode cX11_init 91 = .ok (.aload_n 0, 1) := by decide +kernel
theorem dX11_init_92 : decode cX11_init 92 = .ok (.bipush 40, 2) := by decide +kernel
theorem dX11_init_94 : decode cX11_init 94 = .ok (.newarray .int, 2) := by decide +kernel
theorem dX11_init_96 : decode cX11_init 96 = .ok (.putfield 47, 3) := by decide +kernel
theorem dX11_init_99 : decode cX11_init 99 = .ok (.aload_n 0, 1) := by decide +kernel
theorem dX11_init_100 : decode cX11_init 100 = .ok (.bipush 32, 2) := by decide +kernel
theorem dX11_init_102 : decode cX11_init 102 = .ok (.newarray .int, 2) := by decide +kernel
theorem dX11_init_104 : decode cX11_init 104 = .ok (.putfield 50, 3) := by decide +kernel
theorem dX11_init_107 : decode cX11_init 107 = .ok (.aload_n 0, 1) := by decide +kernel
theorem dX11_init_108 : decode cX11_init 108 = .ok (.iconst 3, 1) := by decide +kernel
theorem dX11_init_109 : decode cX11_init 109 = .ok (.newarray .int, 2) := by decide +kernel
theorem dX11_init_111 : decode cX11_init 111 = .ok (.putfield 53, 3) := by decide +kernel
theorem dX11_init_114 : decode cX11_init 114 = .ok (.aload_n 0, 1) := by decide +kernel
theorem dX11_init_115 : decode cX11_init 115 = .ok (.bipush 90, 2) := by decide +kernel
theorem dX11_init_117 : decode cX11_init 117 = .ok (.newarray .int, 2) := by decide +kernel
theorem dX11_init_119 : decode cX11_init 119 = .ok (.putfield 56, 3) := by decide +kernel
theorem dX11_init_122 : decode cX11_init 122 = .ok (.aload_n 0, 1) := by decide +kernel
theorem dX11_init_123 : decode cX11_init 123 = .ok (.ldc 59, 2) := by decide +kernel
theorem dX11_init_125 : decode cX11_init 125 = .ok (.newarray .int, 2) := by decide +kernel
theorem dX11_init_127 : decode cX11_init 127 = .ok (.putfield 60, 3) := by decide +kernel
theorem dX11_init_130 : decode cX11_init 130 = .ok (.aload_n 0, 1) := by decide +kernel
theorem dX11_init_131 : decode cX11_init 131 = .ok (.sipush 3200, 3) := by decide +kernel
theorem dX11_init_134 : decode cX11_init 134 = .ok (.newarray .int, 2) := by decide +kernel
theorem dX11_init_136 : decode cX11_init 136 = .ok (.putfield 63, 3) := by decide +kernel
theorem dX11_init_139 : decode cX11_init 139 = .ok (.aload_n 0, 1) := by decide +kernel
theorem dX11_init_140 : decode cX11_init 140 = .ok (.bipush 8, 2) := by decide +kernel
theorem dX11_init_142 : decode cX11_init 142 = .ok (.newarray .int, 2) := by decide +kernel
theorem dX11_init_144 : decode cX11_init 144 = .ok (.putfield 66, 3) := by decide +kernel
theorem dX11_init_147 : decode cX11_init 147 = .ok (.aload_n 0, 1) := by decide +kernel
theorem dX11_init_148 : decode cX11_init 148 = .ok (.sipush 1024, 3) := by decide +kernel
theorem dX11_init_151 : decode cX11_init 151 = .ok (.newarray .boolean, 2) := by decide +kernel
theorem dX11_init_153 : decode cX11_init 153 = .ok (.putfield 69, 3) := by decide +kernel
theorem dX11_init_156 : decode cX11_init 156 = .ok (.aload_n 0, 1) := by decide +kernel
theorem dX11_init_157 : decode cX11_init 157 = .ok (.sipush 1024, 3) := by decide +kernel
theorem dX11_init_160 : decode cX11_init 160 = .ok (.newarray .int, 2) := by decide +kernel
theorem dX11_init_162 : decode cX11_init 162 = .ok (.putfield 73, 3) := by decide +kernel
theorem dX11_init_165 : decode cX11_init 165 = .ok (.aload_n 0, 1) := by decide +kernel
theorem dX11_init_166 : decode cX11_init 166 = .ok (.bipush 64, 2) := by decide +kernel
theorem dX11_init_168 : decode cX11_init 168 = .ok (.newarray .int, 2) := by decide +kernel
theorem dX11_init_170 : decode cX11_init 170 = .ok (.putfield 76, 3) := by decide +kernel
theorem dX11_init_173 : decode cX11_init 173 = .ok (.aload_n 0, 1) := by decide +kernel
theorem dX11_init_174 : decode cX11_init 174 = .ok (.ldc 79, 2) := by decide +kernel
theorem dX11_init_176 : decode cX11_init 176 = .ok (.newarray .int, 2) := by decide +kernel
theorem dX11_init_178 : decode cX11_init 178 = .ok (.putfield 80, 3) := by decide +kernel
theorem dX11_init_181 : decode cX11_init 181 = .ok (.aload_n 0, 1) := by decide +kernel
theorem dX11_init_182 : decode cX11_init 182 = .ok (.bipush 10, 2) := by decide +kernel
theorem dX11_init_184 : decode cX11_init 184 = .ok (.newarray .int, 2) := by decide +kernel
theorem dX11_init_186 : decode cX11_init 186 = .ok (.putfield 83, 3) := by decide +kernel
theorem dX11_init_189 : decode cX11_init 189 = .ok (.aload_n 0, 1) := by decide +kernel
theorem dX11_init_190 : decode cX11_init 190 = .ok (.bipush 10, 2) := by decide +kernel
theorem dX11_init_192 : decode cX11_init 192 = .ok (.newarray .int, 2) := by decide +kernel
theorem dX11_init_194 : decode cX11_init 194 = .ok (.putfield 86, 3) := by decide +kernel
theorem dX11_init_197 : decode cX11_init 197 = .ok (.aload_n 0, 1) := by decide +kernel
theorem dX11_init_198 : decode cX11_init 198 = .ok (.sipush 1024, 3) := by decide +kernel
theorem dX11_init_201 : decode cX11_init 201 = .ok (.newarray .int, 2) := by decide +kernel
theorem dX11_init_203 : decode cX11_init 203 = .ok (.putfield 89, 3) := by decide +kernel
theorem dX11_init_206 : decode cX11_init 206 = .ok (.aload_n 0, 1) := by decide +kernel
theorem dX11_init_207 : decode cX11_init 207 = .ok (.bipush 40, 2) := by decide +kernel
theorem dX11_init_209 : decode cX11_init 209 = .ok (.newarray .int, 2) := by decide +kernel
theorem dX11_init_211 : decode cX11_init 211 = .ok (.putfield 92, 3) := by decide +kernel
theorem dX11_init_214 : decode cX11_init 214 = .ok (.aload_n 0, 1) := by decide +kernel
theorem dX11_init_215 : decode cX11_init 215 = .ok (.bipush 32, 2) := by decide +kernel
theorem dX11_init_217 : decode cX11_init 217 = .ok (.newarray .int, 2) := by decide +kernel
theorem dX11_init_219 : decode cX11_init 219 = .ok (.putfield 95, 3) := by decide +kernel
theorem dX11_init_222 : decode cX11_init 222 = .ok (.aload_n 0, 1) := by decide +kernel
theorem dX11_init_223 : decode cX11_init 223 = .ok (.bipush 100, 2) := by decide +kernel
theorem dX11_init_225 : decode cX11_init 225 = .ok (.newarray .int, 2) := by decide +kernel
theorem dX11_init_227 : decode cX11_init 227 = .ok (.putfield 98, 3) := by decide +kernel
theorem dX11_init_230 : decode cX11_init 230 = .ok (.aload_n 0, 1) := by decide +kernel
theorem dX11_init_231 : decode cX11_init 231 = .ok (.iconst 2, 1) := by decide +kernel
theorem dX11_init_232 : decode cX11_init 232 = .ok (.newarray .boolean, 2) := by decide +kernel
theorem dX11_init_234 : decode cX11_init 234 = .ok (.putfield 101, 3) := by decide +kernel
theorem dX11_init_237 : decode cX11_init 237 = .ok (.aload_n 0, 1) := by decide +kernel
theorem dX11_init_238 : decode cX11_init 238 = .ok (.iconst 0, 1) := by decide +kernel
theorem dX11_init_239 : decode cX11_init 239 = .ok (.putfield 104, 3) := by decide +kernel
theorem dX11_init_242 : decode cX11_init 242 = .ok (.return_, 1) := by decide +kernel
theorem dX11_in_0 : decode cX11_in 0 = .ok (.lload_n 0, 1) := by decide +kernel
theorem dX11_in_1 : decode cX11_in 1 = .ok (.lload_n 2, 1) := by decide +kernel
theorem dX11_in_2 : decode cX11_in 2 = .ok (.lcmp, 1) := by decide +kernel
theorem dX11_in_3 : decode cX11_in 3 = .ok (.ifCond .lt 14, 3) := by decide +kernel
theorem dX11_in_6 : decode cX11_in 6 = .ok (.lload_n 0, 1) := by decide +kernel
theorem dX11_in_7 : decode cX11_in 7 = .ok (.lload 4, 2) := by decide +kernel
theorem dX11_in_9 : decode cX11_in 9 = .ok (.lcmp, 1) := by decide +kernel
theorem dX11_in_10 : decode cX11_in 10 = .ok (.ifCond .gt 7, 3) := by decide +kernel
theorem dX11_in_13 : decode cX11_in 13 = .ok (.iconst 1, 1) := by decide +kernel
theorem dX11_in_14 : decode cX11_in 14 = .ok (.goto 4, 3) := by decide +kernel
theorem dX11_in_17 : decode cX11_in 17 = .ok (.iconst 0, 1) := by decide +kernel
theorem dX11_in_18 : decode cX11_in 18 = .ok (.ireturn, 1) := by decide +kernel
theorem dX11_has_0 : decode cX11_has 0 = .ok (.iload_n 0, 1) := by decide +kernel
theorem dX11_has_1 : decode cX11_has 1 = .ok (.iload_n 1, 1) := by decide +kernel
theorem dX11_has_2 : decode cX11_has 2 = .ok (.ishr, 1) := by decide +kernel
theorem dX11_has_3 : decode cX11_has 3 = .ok (.iconst 1, 1) := by decide +kernel
theorem dX11_has_4 : decode cX11_has 4 = .ok (.iand, 1) := by decide +kernel
theorem dX11_has_5 : decode cX11_has 5 = .ok (.iconst 1, 1) := by decide +kernel
theorem dX11_has_6 : decode cX11_has 6 = .ok (.if_icmp .ne 7, 3) := by decide +kernel
theorem dX11_has_9 : decode cX11_has 9 = .ok (.iconst 1, 1) := by decide +kernel
theorem dX11_has_10 : decode cX11_has 10 = .ok (.goto 4, 3) := by decide +kernel
theorem dX11_has_13 : decode cX11_has 13 = .ok (.iconst 0, 1) := by decide +kernel
theorem dX11_has_14 : decode cX11_has 14 = .ok (.ireturn, 1) := by decide +kernel
theorem dX11_isLamp_0 : decode cX11_isLamp 0 = .ok (.iload_n 1, 1) := by decide +kernel
theorem dX11_isLamp_1 : decode cX11_isLamp 1 = .ok (.i2l, 1) := by decide +kernel
theorem dX11_isLamp_2 : decode cX11_isLamp 2 = .ok (.lconst 0, 1) := by decide +kernel
theorem dX11_isLamp_3 : decode cX11_isLamp 3 = .ok (.aload_n 0, 1) := by decide +kernel
theorem dX11_isLamp_4 : decode cX11_isLamp 4 = .ok (.getfield 104, 3) := by decide +kernel
theorem dX11_isLamp_7 : decode cX11_isLamp 7 = .ok (.iconst 1, 1) := by decide +kernel
theorem dX11_isLamp_8 : decode cX11_isLamp 8 = .ok (.isub, 1) := by decide +kernel
theorem dX11_isLamp_9 : decode cX11_isLamp 9 = .ok (.i2l, 1) := by decide +kernel
theorem dX11_isLamp_10 : decode cX11_isLamp 10 = .ok (.invokestatic 107, 3) := by decide +kernel
theorem dX11_isLamp_13 : decode cX11_isLamp 13 = .ok (.ireturn, 1) := by decide +kernel
theorem dX11_all_0 : decode cX11_all 0 = .ok (.iconst 1, 1) := by decide +kernel
theorem dX11_all_1 : decode cX11_all 1 = .ok (.aload_n 0, 1) := by decide +kernel
theorem dX11_all_2 : decode cX11_all 2 = .ok (.getfield 104, 3) := by decide +kernel
theorem dX11_all_5 : decode cX11_all 5 = .ok (.ishl, 1) := by decide +kernel
theorem dX11_all_6 : decode cX11_all 6 = .ok (.iconst 1, 1) := by decide +kernel
theorem dX11_all_7 : decode cX11_all 7 = .ok (.isub, 1) := by decide +kernel
theorem dX11_all_8 : decode cX11_all 8 = .ok (.ireturn, 1) := by decide +kernel
theorem dX11_areLamps_0 : decode cX11_areLamps 0 = .ok (.iload_n 1, 1) := by decide +kernel
theorem dX11_areLamps_1 : decode cX11_areLamps 1 = .ok (.i2l, 1) := by decide +kernel
theorem dX11_areLamps_2 : decode cX11_areLamps 2 = .ok (.lconst 0, 1) := by decide +kernel
theorem dX11_areLamps_3 : decode cX11_areLamps 3 = .ok (.aload_n 0, 1) := by decide +kernel
theorem dX11_areLamps_4 : decode cX11_areLamps 4 = .ok (.invokevirtual 111, 3) := by decide +kernel
theorem dX11_areLamps_7 : decode cX11_areLamps 7 = .ok (.i2l, 1) := by decide +kernel
theorem dX11_areLamps_8 : decode cX11_areLamps 8 = .ok (.invokestatic 107, 3) := by decide +kernel
theorem dX11_areLamps_11 : decode cX11_areLamps 11 = .ok (.ireturn, 1) := by decide +kernel
theorem dX11_isLoud_0 : decode cX11_isLoud 0 = .ok (.iload_n 0, 1) := by decide +kernel
theorem dX11_isLoud_1 : decode cX11_isLoud 1 = .ok (.i2l, 1) := by decide +kernel
theorem dX11_isLoud_2 : decode cX11_isLoud 2 = .ok (.lconst 1, 1) := by decide +kernel
theorem dX11_isLoud_3 : decode cX11_isLoud 3 = .ok (.ldc2_w 115, 3) := by decide +kernel
theorem dX11_isLoud_6 : decode cX11_isLoud 6 = .ok (.invokestatic 107, 3) := by decide +kernel
theorem dX11_isLoud_9 : decode cX11_isLoud 9 = .ok (.ireturn, 1) := by decide +kernel
theorem dX11_size_0 : decode cX11_size 0 = .ok (.iload_n 0, 1) := by decide +kernel
theorem dX11_size_1 : decode cX11_size 1 = .ok (.ifCond .ge 8, 3) := by decide +kernel
theorem dX11_size_4 : decode cX11_size 4 = .ok (.iload_n 0, 1) := by decide +kernel
theorem dX11_size_5 : decode cX11_size 5 = .ok (.ineg, 1) := by decide +kernel
theorem dX11_size_6 : decode cX11_size 6 = .ok (.goto 4, 3) := by decide +kernel
theorem dX11_size_9 : decode cX11_size 9 = .ok (.iload_n 0, 1) := by decide +kernel
theorem dX11_size_10 : decode cX11_size 10 = .ok (.ireturn, 1) := by decide +kernel
theorem dX11_bits_0 : decode cX11_bits 0 = .ok (.iconst 0, 1) := by decide +kernel
theorem dX11_bits_1 : decode cX11_bits 1 = .ok (.istore_n 1, 1) := by decide +kernel
theorem dX11_bits_2 : decode cX11_bits 2 = .ok (.iconst 0, 1) := by decide +kernel
theorem dX11_bits_3 : decode cX11_bits 3 = .ok (.istore_n 2, 1) := by decide +kernel
theorem dX11_bits_4 : decode cX11_bits 4 = .ok (.iload_n 2, 1) := by decide +kernel
theorem dX11_bits_5 : decode cX11_bits 5 = .ok (.bipush 10, 2) := by decide +kernel
theorem dX11_bits_7 : decode cX11_bits 7 = .ok (.if_icmp .ge 17, 3) := by decide +kernel
theorem dX11_bits_10 : decode cX11_bits 10 = .ok (.iload_n 1, 1) := by decide +kernel
theorem dX11_bits_11 : decode cX11_bits 11 = .ok (.iload_n 0, 1) := by decide +kernel
theorem dX11_bits_12 : decode cX11_bits 12 = .ok (.iload_n 2, 1) := by decide +kernel
theorem dX11_bits_13 : decode cX11_bits 13 = .ok (.ishr, 1) := by decide +kernel
theorem dX11_bits_14 : decode cX11_bits 14 = .ok (.iconst 1, 1) := by decide +kernel
theorem dX11_bits_15 : decode cX11_bits 15 = .ok (.iand, 1) := by decide +kernel
theorem dX11_bits_16 : decode cX11_bits 16 = .ok (.iadd, 1) := by decide +kernel
theorem dX11_bits_17 : decode cX11_bits 17 = .ok (.istore_n 1, 1) := by decide +kernel
theorem dX11_bits_18 : decode cX11_bits 18 = .ok (.iinc 2 1, 3) := by decide +kernel
theorem dX11_bits_21 : decode cX11_bits 21 = .ok (.goto (-17), 3) := by decide +kernel
theorem dX11_bits_24 : decode cX11_bits 24 = .ok (.iload_n 1, 1) := by decide +kernel
theorem dX11_bits_25 : decode cX11_bits 25 = .ok (.ireturn, 1) := by decide +kernel
theorem dX11_feed_0 : decode cX11_feed 0 = .ok (.iload_n 1, 1) := by decide +kernel
theorem dX11_feed_1 : decode cX11_feed 1 = .ok (.i2l, 1) := by decide +kernel
theorem dX11_feed_2 : decode cX11_feed 2 = .ok (.lconst 1, 1) := by decide +kernel
theorem dX11_feed_3 : decode cX11_feed 3 = .ok (.ldc2_w 117, 3) := by decide +kernel
theorem dX11_feed_6 : decode cX11_feed 6 = .ok (.invokestatic 107, 3) := by decide +kernel
theorem dX11_feed_9 : decode cX11_feed 9 = .ok (.ifCond .ne 7, 3) := by decide +kernel
theorem dX11_feed_12 : decode cX11_feed 12 = .ok (.sipush (-1002), 3) := by decide +kernel
theorem dX11_feed_15 : decode cX11_feed 15 = .ok (.ireturn, 1) := by decide +kernel
theorem dX11_feed_16 : decode cX11_feed 16 = .ok (.aload_n 0, 1) := by decide +kernel
theorem dX11_feed_17 : decode cX11_feed 17 = .ok (.getfield 119, 3) := by decide +kernel
theorem dX11_feed_20 : decode cX11_feed 20 = .ok (.iload_n 1, 1) := by decide +kernel
theorem dX11_feed_21 : decode cX11_feed 21 = .ok (.iadd, 1) := by decide +kernel
theorem dX11_feed_22 : decode cX11_feed 22 = .ok (.sipush 400, 3) := by decide +kernel
theorem dX11_feed_25 : decode cX11_feed 25 = .ok (.if_icmp .le 7, 3) := by decide +kernel
theorem dX11_feed_28 : decode cX11_feed 28 = .ok (.sipush (-1004), 3) := by decide +kernel
theorem dX11_feed_31 : decode cX11_feed 31 = .ok (.ireturn, 1) := by decide +kernel
theorem dX11_feed_32 : decode cX11_feed 32 = .ok (.iload_n 1, 1) := by decide +kernel
theorem dX11_feed_33 : decode cX11_feed 33 = .ok (.iconst 1, 1) := by decide +kernel
theorem dX11_feed_34 : decode cX11_feed 34 = .ok (.isub, 1) := by decide +kernel
theorem dX11_feed_35 : decode cX11_feed 35 = .ok (.istore 4, 2) := by decide +kernel
theorem dX11_feed_37 : decode cX11_feed 37 = .ok (.iload 4, 2) := by decide +kernel
theorem dX11_feed_39 : decode cX11_feed 39 = .ok (.ifCond .lt 40, 3) := by decide +kernel
theorem dX11_feed_42 : decode cX11_feed 42 = .ok (.aload_n 0, 1) := by decide +kernel
theorem dX11_feed_43 : decode cX11_feed 43 = .ok (.getfield 41, 3) := by decide +kernel
theorem dX11_feed_46 : decode cX11_feed 46 = .ok (.aload_n 0, 1) := by decide +kernel
theorem dX11_feed_47 : decode cX11_feed 47 = .ok (.getfield 119, 3) := by decide +kernel
theorem dX11_feed_50 : decode cX11_feed 50 = .ok (.lload_n 2, 1) := by decide +kernel
theorem dX11_feed_51 : decode cX11_feed 51 = .ok (.bipush 8, 2) := by decide +kernel
theorem dX11_feed_53 : decode cX11_feed 53 = .ok (.iload 4, 2) := by decide +kernel
theorem dX11_feed_55 : decode cX11_feed 55 = .ok (.imul, 1) := by decide +kernel
theorem dX11_feed_56 : decode cX11_feed 56 = .ok (.lshr, 1) := by decide +kernel
theorem dX11_feed_57 : decode cX11_feed 57 = .ok (.ldc2_w 122, 3) := by decide +kernel
theorem dX11_feed_60 : decode cX11_feed 60 = .ok (.land, 1) := by decide +kernel
theorem dX11_feed_61 : decode cX11_feed 61 = .ok (.l2i, 1) := by decide +kernel
theorem dX11_feed_62 : decode cX11_feed 62 = .ok (.iastore, 1) := by decide +kernel
