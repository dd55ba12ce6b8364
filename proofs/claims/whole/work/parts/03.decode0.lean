theorem dJ0_length_8abf5_0 : decode cJ0_length_8abf5 0 = .ok (.aload_n 0, 1) := by decide +kernel
theorem dJ0_length_8abf5_1 : decode cJ0_length_8abf5 1 = .ok (.getfield 9, 3) := by decide +kernel
theorem dJ0_length_8abf5_4 : decode cJ0_length_8abf5 4 = .ok (.arraylength, 1) := by decide +kernel
theorem dJ0_length_8abf5_5 : decode cJ0_length_8abf5 5 = .ok (.aload_n 0, 1) := by decide +kernel
theorem dJ0_length_8abf5_6 : decode cJ0_length_8abf5 6 = .ok (.invokevirtual 335, 3) := by decide +kernel
theorem dJ0_length_8abf5_9 : decode cJ0_length_8abf5 9 = .ok (.ishr, 1) := by decide +kernel
theorem dJ0_length_8abf5_10 : decode cJ0_length_8abf5 10 = .ok (.ireturn, 1) := by decide +kernel
theorem dJ0_charAt_5068e_0 : decode cJ0_charAt_5068e 0 = .ok (.aload_n 0, 1) := by decide +kernel
theorem dJ0_charAt_5068e_1 : decode cJ0_charAt_5068e 1 = .ok (.invokevirtual 492, 3) := by decide +kernel
theorem dJ0_charAt_5068e_4 : decode cJ0_charAt_5068e 4 = .ok (.ifCond .eq 12, 3) := by decide +kernel
theorem dJ0_charAt_5068e_7 : decode cJ0_charAt_5068e 7 = .ok (.aload_n 0, 1) := by decide +kernel
theorem dJ0_charAt_5068e_8 : decode cJ0_charAt_5068e 8 = .ok (.getfield 9, 3) := by decide +kernel
theorem dJ0_charAt_5068e_11 : decode cJ0_charAt_5068e 11 = .ok (.iload_n 1, 1) := by decide +kernel
theorem dJ0_charAt_5068e_12 : decode cJ0_charAt_5068e 12 = .ok (.invokestatic 495, 3) := by decide +kernel
theorem dJ0_charAt_5068e_15 : decode cJ0_charAt_5068e 15 = .ok (.ireturn, 1) := by decide +kernel
theorem dJ0_charAt_5068e_16 : decode cJ0_charAt_5068e 16 = .ok (.aload_n 0, 1) := by decide +kernel
theorem dJ0_charAt_5068e_17 : decode cJ0_charAt_5068e 17 = .ok (.getfield 9, 3) := by decide +kernel
theorem dJ0_charAt_5068e_20 : decode cJ0_charAt_5068e 20 = .ok (.iload_n 1, 1) := by decide +kernel
theorem dJ0_charAt_5068e_21 : decode cJ0_charAt_5068e 21 = .ok (.invokestatic 498, 3) := by decide +kernel
theorem dJ0_charAt_5068e_24 : decode cJ0_charAt_5068e 24 = .ok (.ireturn, 1) := by decide +kernel
theorem dJ0_coder_7d493_0 : decode cJ0_coder_7d493 0 = .ok (.getstatic 38, 3) := by decide +kernel
theorem dJ0_coder_7d493_3 : decode cJ0_coder_7d493 3 = .ok (.ifCond .eq 10, 3) := by decide +kernel
theorem dJ0_coder_7d493_6 : decode cJ0_coder_7d493 6 = .ok (.aload_n 0, 1) := by decide +kernel
theorem dJ0_coder_7d493_7 : decode cJ0_coder_7d493 7 = .ok (.getfield 15, 3) := by decide +kernel
theorem dJ0_coder_7d493_10 : decode cJ0_coder_7d493 10 = .ok (.goto 4, 3) := by decide +kernel
theorem dJ0_coder_7d493_13 : decode cJ0_coder_7d493 13 = .ok (.iconst 1, 1) := by decide +kernel
theorem dJ0_coder_7d493_14 : decode cJ0_coder_7d493 14 = .ok (.ireturn, 1) := by decide +kernel
theorem dJ0_isLatin1_aae02_0 : decode cJ0_isLatin1_aae02 0 = .ok (.getstatic 38, 3) := by decide +kernel
theorem dJ0_isLatin1_aae02_3 : decode cJ0_isLatin1_aae02 3 = .ok (.ifCond .eq 14, 3) := by decide +kernel
theorem dJ0_isLatin1_aae02_6 : decode cJ0_isLatin1_aae02 6 = .ok (.aload_n 0, 1) := by decide +kernel
theorem dJ0_isLatin1_aae02_7 : decode cJ0_isLatin1_aae02 7 = .ok (.getfield 15, 3) := by decide +kernel
theorem dJ0_isLatin1_aae02_10 : decode cJ0_isLatin1_aae02 10 = .ok (.ifCond .ne 7, 3) := by decide +kernel
theorem dJ0_isLatin1_aae02_13 : decode cJ0_isLatin1_aae02 13 = .ok (.iconst 1, 1) := by decide +kernel
theorem dJ0_isLatin1_aae02_14 : decode cJ0_isLatin1_aae02 14 = .ok (.goto 4, 3) := by decide +kernel
theorem dJ0_isLatin1_aae02_17 : decode cJ0_isLatin1_aae02 17 = .ok (.iconst 0, 1) := by decide +kernel
theorem dJ0_isLatin1_aae02_18 : decode cJ0_isLatin1_aae02 18 = .ok (.ireturn, 1) := by decide +kernel
theorem dJ0_checkIndex_df160_0 : decode cJ0_checkIndex_df160 0 = .ok (.iload_n 0, 1) := by decide +kernel
theorem dJ0_checkIndex_df160_1 : decode cJ0_checkIndex_df160 1 = .ok (.iload_n 1, 1) := by decide +kernel
theorem dJ0_checkIndex_df160_2 : decode cJ0_checkIndex_df160 2 = .ok (.getstatic 1053, 3) := by decide +kernel
theorem dJ0_checkIndex_df160_5 : decode cJ0_checkIndex_df160 5 = .ok (.invokestatic 1059, 3) := by decide +kernel
theorem dJ0_checkIndex_df160_8 : decode cJ0_checkIndex_df160 8 = .ok (.pop, 1) := by decide +kernel
theorem dJ0_checkIndex_df160_9 : decode cJ0_checkIndex_df160 9 = .ok (.return_, 1) := by decide +kernel
theorem dJ1_charAt_3b067_0 : decode cJ1_charAt_3b067 0 = .ok (.iload_n 1, 1) := by decide +kernel
theorem dJ1_charAt_3b067_1 : decode cJ1_charAt_3b067 1 = .ok (.aload_n 0, 1) := by decide +kernel
theorem dJ1_charAt_3b067_2 : decode cJ1_charAt_3b067 2 = .ok (.arraylength, 1) := by decide +kernel
theorem dJ1_charAt_3b067_3 : decode cJ1_charAt_3b067 3 = .ok (.invokestatic 9, 3) := by decide +kernel
theorem dJ1_charAt_3b067_6 : decode cJ1_charAt_3b067 6 = .ok (.aload_n 0, 1) := by decide +kernel
theorem dJ1_charAt_3b067_7 : decode cJ1_charAt_3b067 7 = .ok (.iload_n 1, 1) := by decide +kernel
theorem dJ1_charAt_3b067_8 : decode cJ1_charAt_3b067 8 = .ok (.baload, 1) := by decide +kernel
theorem dJ1_charAt_3b067_9 : decode cJ1_charAt_3b067 9 = .ok (.sipush 255, 3) := by decide +kernel
theorem dJ1_charAt_3b067_12 : decode cJ1_charAt_3b067 12 = .ok (.iand, 1) := by decide +kernel
theorem dJ1_charAt_3b067_13 : decode cJ1_charAt_3b067 13 = .ok (.i2c, 1) := by decide +kernel
theorem dJ1_charAt_3b067_14 : decode cJ1_charAt_3b067 14 = .ok (.ireturn, 1) := by decide +kernel
theorem dJ2_getChar_3b067_0 : decode cJ2_getChar_3b067 0 = .ok (.getstatic 44, 3) := by decide +kernel
theorem dJ2_getChar_3b067_3 : decode cJ2_getChar_3b067 3 = .ok (.ifCond .ne 25, 3) := by decide +kernel
theorem dJ2_getChar_3b067_6 : decode cJ2_getChar_3b067 6 = .ok (.iload_n 1, 1) := by decide +kernel
theorem dJ2_getChar_3b067_7 : decode cJ2_getChar_3b067 7 = .ok (.ifCond .lt 11, 3) := by decide +kernel
theorem dJ2_getChar_3b067_10 : decode cJ2_getChar_3b067 10 = .ok (.iload_n 1, 1) := by decide +kernel
theorem dJ2_getChar_3b067_11 : decode cJ2_getChar_3b067 11 = .ok (.aload_n 0, 1) := by decide +kernel
theorem dJ2_getChar_3b067_12 : decode cJ2_getChar_3b067 12 = .ok (.invokestatic 48, 3) := by decide +kernel
theorem dJ2_getChar_3b067_15 : decode cJ2_getChar_3b067 15 = .ok (.if_icmp .lt 13, 3) := by decide +kernel
theorem dJ2_getChar_3b067_18 : decode cJ2_getChar_3b067 18 = .ok (.new 52, 3) := by decide +kernel
theorem dJ2_getChar_3b067_21 : decode cJ2_getChar_3b067 21 = .ok (.dup, 1) := by decide +kernel
theorem dJ2_getChar_3b067_22 : decode cJ2_getChar_3b067 22 = .ok (.ldc 54, 2) := by decide +kernel
theorem dJ2_getChar_3b067_24 : decode cJ2_getChar_3b067 24 = .ok (.invokespecial 56, 3) := by decide +kernel
theorem dJ2_getChar_3b067_27 : decode cJ2_getChar_3b067 27 = .ok (.athrow, 1) := by decide +kernel
theorem dJ2_getChar_3b067_28 : decode cJ2_getChar_3b067 28 = .ok (.iload_n 1, 1) := by decide +kernel
theorem dJ2_getChar_3b067_29 : decode cJ2_getChar_3b067 29 = .ok (.iconst 1, 1) := by decide +kernel
theorem dJ2_getChar_3b067_30 : decode cJ2_getChar_3b067 30 = .ok (.ishl, 1) := by decide +kernel
theorem dJ2_getChar_3b067_31 : decode cJ2_getChar_3b067 31 = .ok (.istore_n 1, 1) := by decide +kernel
theorem dJ2_getChar_3b067_32 : decode cJ2_getChar_3b067 32 = .ok (.aload_n 0, 1) := by decide +kernel
theorem dJ2_getChar_3b067_33 : decode cJ2_getChar_3b067 33 = .ok (.iload_n 1, 1) := by decide +kernel
theorem dJ2_getChar_3b067_34 : decode cJ2_getChar_3b067 34 = .ok (.iinc 1 1, 3) := by decide +kernel
theorem dJ2_getChar_3b067_37 : decode cJ2_getChar_3b067 37 = .ok (.baload, 1) := by decide +kernel
theorem dJ2_getChar_3b067_38 : decode cJ2_getChar_3b067 38 = .ok (.sipush 255, 3) := by decide +kernel
theorem dJ2_getChar_3b067_41 : decode cJ2_getChar_3b067 41 = .ok (.iand, 1) := by decide +kernel
theorem dJ2_getChar_3b067_42 : decode cJ2_getChar_3b067 42 = .ok (.getstatic 59, 3) := by decide +kernel
theorem dJ2_getChar_3b067_45 : decode cJ2_getChar_3b067 45 = .ok (.ishl, 1) := by decide +kernel
theorem dJ2_getChar_3b067_46 : decode cJ2_getChar_3b067 46 = .ok (.aload_n 0, 1) := by decide +kernel
theorem dJ2_getChar_3b067_47 : decode cJ2_getChar_3b067 47 = .ok (.iload_n 1, 1) := by decide +kernel
theorem dJ2_getChar_3b067_48 : decode cJ2_getChar_3b067 48 = .ok (.baload, 1) := by decide +kernel
theorem dJ2_getChar_3b067_49 : decode cJ2_getChar_3b067 49 = .ok (.sipush 255, 3) := by decide +kernel
theorem dJ2_getChar_3b067_52 : decode cJ2_getChar_3b067 52 = .ok (.iand, 1) := by decide +kernel
theorem dJ2_getChar_3b067_53 : decode cJ2_getChar_3b067 53 = .ok (.getstatic 63, 3) := by decide +kernel
theorem dJ2_getChar_3b067_56 : decode cJ2_getChar_3b067 56 = .ok (.ishl, 1) := by decide +kernel
theorem dJ2_getChar_3b067_57 : decode cJ2_getChar_3b067 57 = .ok (.ior, 1) := by decide +kernel
theorem dJ2_getChar_3b067_58 : decode cJ2_getChar_3b067 58 = .ok (.i2c, 1) := by decide +kernel
theorem dJ2_getChar_3b067_59 : decode cJ2_getChar_3b067 59 = .ok (.ireturn, 1) := by decide +kernel
theorem dJ2_length_9d52b_0 : decode cJ2_length_9d52b 0 = .ok (.aload_n 0, 1) := by decide +kernel
theorem dJ2_length_9d52b_1 : decode cJ2_length_9d52b 1 = .ok (.arraylength, 1) := by decide +kernel
theorem dJ2_length_9d52b_2 : decode cJ2_length_9d52b 2 = .ok (.iconst 1, 1) := by decide +kernel
theorem dJ2_length_9d52b_3 : decode cJ2_length_9d52b 3 = .ok (.ishr, 1) := by decide +kernel
theorem dJ2_length_9d52b_4 : decode cJ2_length_9d52b 4 = .ok (.ireturn, 1) := by decide +kernel
theorem dJ2_charAt_3b067_0 : decode cJ2_charAt_3b067 0 = .ok (.iload_n 1, 1) := by decide +kernel
theorem dJ2_charAt_3b067_1 : decode cJ2_charAt_3b067 1 = .ok (.aload_n 0, 1) := by decide +kernel
theorem dJ2_charAt_3b067_2 : decode cJ2_charAt_3b067 2 = .ok (.invokestatic 67, 3) := by decide +kernel
theorem dJ2_charAt_3b067_5 : decode cJ2_charAt_3b067 5 = .ok (.aload_n 0, 1) := by decide +kernel
theorem dJ2_charAt_3b067_6 : decode cJ2_charAt_3b067 6 = .ok (.iload_n 1, 1) := by decide +kernel
theorem dJ2_charAt_3b067_7 : decode cJ2_charAt_3b067 7 = .ok (.invokestatic 71, 3) := by decide +kernel
theorem dJ2_charAt_3b067_10 : decode cJ2_charAt_3b067 10 = .ok (.ireturn, 1) := by decide +kernel
theorem dJ2_checkIndex_2214a_0 : decode cJ2_checkIndex_2214a 0 = .ok (.iload_n 0, 1) := by decide +kernel
theorem dJ2_checkIndex_2214a_1 : decode cJ2_checkIndex_2214a 1 = .ok (.aload_n 1, 1) := by decide +kernel
theorem dJ2_checkIndex_2214a_2 : decode cJ2_checkIndex_2214a 2 = .ok (.invokestatic 48, 3) := by decide +kernel
theorem dJ2_checkIndex_2214a_5 : decode cJ2_checkIndex_2214a 5 = .ok (.invokestatic 414, 3) := by decide +kernel
theorem dJ2_checkIndex_2214a_8 : decode cJ2_checkIndex_2214a 8 = .ok (.return_, 1) := by decide +kernel
theorem dJ3_checkIndex_8e157_0 : decode cJ3_checkIndex_8e157 0 = .ok (.iload_n 0, 1) := by decide +kernel
theorem dJ3_checkIndex_8e157_1 : decode cJ3_checkIndex_8e157 1 = .ok (.ifCond .lt 8, 3) := by decide +kernel
theorem dJ3_checkIndex_8e157_4 : decode cJ3_checkIndex_8e157 4 = .ok (.iload_n 0, 1) := by decide +kernel
theorem dJ3_checkIndex_8e157_5 : decode cJ3_checkIndex_8e157 5 = .ok (.iload_n 1, 1) := by decide +kernel
theorem dJ3_checkIndex_8e157_6 : decode cJ3_checkIndex_8e157 6 = .ok (.if_icmp .lt 10, 3) := by decide +kernel
theorem dJ3_checkIndex_8e157_9 : decode cJ3_checkIndex_8e157 9 = .ok (.aload_n 2, 1) := by decide +kernel
theorem dJ3_checkIndex_8e157_10 : decode cJ3_checkIndex_8e157 10 = .ok (.iload_n 0, 1) := by decide +kernel
theorem dJ3_checkIndex_8e157_11 : decode cJ3_checkIndex_8e157 11 = .ok (.iload_n 1, 1) := by decide +kernel
theorem dJ3_checkIndex_8e157_12 : decode cJ3_checkIndex_8e157 12 = .ok (.invokestatic 95, 3) := by decide +kernel
theorem dJ3_checkIndex_8e157_15 : decode cJ3_checkIndex_8e157 15 = .ok (.athrow, 1) := by decide +kernel
theorem dJ3_checkIndex_8e157_16 : decode cJ3_checkIndex_8e157 16 = .ok (.iload_n 0, 1) := by decide +kernel
theorem dJ3_checkIndex_8e157_17 : decode cJ3_checkIndex_8e157 17 = .ok (.ireturn, 1) := by decide +kernel
theorem dJ6_bitCount_0f7a4_0 : decode cJ6_bitCount_0f7a4 0 = .ok (.iload_n 0, 1) := by decide +kernel
theorem dJ6_bitCount_0f7a4_1 : decode cJ6_bitCount_0f7a4 1 = .ok (.iload_n 0, 1) := by decide +kernel
theorem dJ6_bitCount_0f7a4_2 : decode cJ6_bitCount_0f7a4 2 = .ok (.iconst 1, 1) := by decide +kernel
theorem dJ6_bitCount_0f7a4_3 : decode cJ6_bitCount_0f7a4 3 = .ok (.iushr, 1) := by decide +kernel
theorem dJ6_bitCount_0f7a4_4 : decode cJ6_bitCount_0f7a4 4 = .ok (.ldc_w 265, 3) := by decide +kernel
theorem dJ6_bitCount_0f7a4_7 : decode cJ6_bitCount_0f7a4 7 = .ok (.iand, 1) := by decide +kernel
theorem dJ6_bitCount_0f7a4_8 : decode cJ6_bitCount_0f7a4 8 = .ok (.isub, 1) := by decide +kernel
theorem dJ6_bitCount_0f7a4_9 : decode cJ6_bitCount_0f7a4 9 = .ok (.istore_n 0, 1) := by decide +kernel
theorem dJ6_bitCount_0f7a4_10 : decode cJ6_bitCount_0f7a4 10 = .ok (.iload_n 0, 1) := by decide +kernel
theorem dJ6_bitCount_0f7a4_11 : decode cJ6_bitCount_0f7a4 11 = .ok (.ldc_w 266, 3) := by decide +kernel
theorem dJ6_bitCount_0f7a4_14 : decode cJ6_bitCount_0f7a4 14 = .ok (.iand, 1) := by decide +kernel
theorem dJ6_bitCount_0f7a4_15 : decode cJ6_bitCount_0f7a4 15 = .ok (.iload_n 0, 1) := by decide +kernel
theorem dJ6_bitCount_0f7a4_16 : decode cJ6_bitCount_0f7a4 16 = .ok (.iconst 2, 1) := by decide +kernel
theorem dJ6_bitCount_0f7a4_17 : decode cJ6_bitCount_0f7a4 17 = .ok (.iushr, 1) := by decide +kernel
theorem dJ6_bitCount_0f7a4_18 : decode cJ6_bitCount_0f7a4 18 = .ok (.ldc_w 266, 3) := by decide +kernel
theorem dJ6_bitCount_0f7a4_21 : decode cJ6_bitCount_0f7a4 21 = .ok (.iand, 1) := by decide +kernel
theorem dJ6_bitCount_0f7a4_22 : decode cJ6_bitCount_0f7a4 22 = .ok (.iadd, 1) := by decide +kernel
theorem dJ6_bitCount_0f7a4_23 : decode cJ6_bitCount_0f7a4 23 = .ok (.istore_n 0, 1) := by decide +kernel
theorem dJ6_bitCount_0f7a4_24 : decode cJ6_bitCount_0f7a4 24 = .ok (.iload_n 0, 1) := by decide +kernel
theorem dJ6_bitCount_0f7a4_25 : decode cJ6_bitCount_0f7a4 25 = .ok (.iload_n 0, 1) := by decide +kernel
theorem dJ6_bitCount_0f7a4_26 : decode cJ6_bitCount_0f7a4 26 = .ok (.iconst 4, 1) := by decide +kernel
theorem dJ6_bitCount_0f7a4_27 : decode cJ6_bitCount_0f7a4 27 = .ok (.iushr, 1) := by decide +kernel
theorem dJ6_bitCount_0f7a4_28 : decode cJ6_bitCount_0f7a4 28 = .ok (.iadd, 1) := by decide +kernel
theorem dJ6_bitCount_0f7a4_29 : decode cJ6_bitCount_0f7a4 29 = .ok (.ldc_w 267, 3) := by decide +kernel
theorem dJ6_bitCount_0f7a4_32 : decode cJ6_bitCount_0f7a4 32 = .ok (.iand, 1) := by decide +kernel
theorem dJ6_bitCount_0f7a4_33 : decode cJ6_bitCount_0f7a4 33 = .ok (.istore_n 0, 1) := by decide +kernel
theorem dJ6_bitCount_0f7a4_34 : decode cJ6_bitCount_0f7a4 34 = .ok (.iload_n 0, 1) := by decide +kernel
theorem dJ6_bitCount_0f7a4_35 : decode cJ6_bitCount_0f7a4 35 = .ok (.iload_n 0, 1) := by decide +kernel
theorem dJ6_bitCount_0f7a4_36 : decode cJ6_bitCount_0f7a4 36 = .ok (.bipush 8, 2) := by decide +kernel
theorem dJ6_bitCount_0f7a4_38 : decode cJ6_bitCount_0f7a4 38 = .ok (.iushr, 1) := by decide +kernel
theorem dJ6_bitCount_0f7a4_39 : decode cJ6_bitCount_0f7a4 39 = .ok (.iadd, 1) := by decide +kernel
theorem dJ6_bitCount_0f7a4_40 : decode cJ6_bitCount_0f7a4 40 = .ok (.istore_n 0, 1) := by decide +kernel
theorem dJ6_bitCount_0f7a4_41 : decode cJ6_bitCount_0f7a4 41 = .ok (.iload_n 0, 1) := by decide +kernel
theorem dJ6_bitCount_0f7a4_42 : decode cJ6_bitCount_0f7a4 42 = .ok (.iload_n 0, 1) := by decide +kernel
theorem dJ6_bitCount_0f7a4_43 : decode cJ6_bitCount_0f7a4 43 = .ok (.bipush 16, 2) := by decide +kernel
theorem dJ6_bitCount_0f7a4_45 : decode cJ6_bitCount_0f7a4 45 = .ok (.iushr, 1) := by decide +kernel
theorem dJ6_bitCount_0f7a4_46 : decode cJ6_bitCount_0f7a4 46 = .ok (.iadd, 1) := by decide +kernel
theorem dJ6_bitCount_0f7a4_47 : decode cJ6_bitCount_0f7a4 47 = .ok (.istore_n 0, 1) := by decide +kernel
theorem dJ6_bitCount_0f7a4_48 : decode cJ6_bitCount_0f7a4 48 = .ok (.iload_n 0, 1) := by decide +kernel
theorem dJ6_bitCount_0f7a4_49 : decode cJ6_bitCount_0f7a4 49 = .ok (.bipush 63, 2) := by decide +kernel
theorem dJ6_bitCount_0f7a4_51 : decode cJ6_bitCount_0f7a4 51 = .ok (.iand, 1) := by decide +kernel
theorem dJ6_bitCount_0f7a4_52 : decode cJ6_bitCount_0f7a4 52 = .ok (.ireturn, 1) := by decide +kernel
theorem dJ7_fill_53178_0 : decode cJ7_fill_53178 0 = .ok (.iconst 0, 1) := by decide +kernel
theorem dJ7_fill_53178_1 : decode cJ7_fill_53178 1 = .ok (.istore_n 2, 1) := by decide +kernel
theorem dJ7_fill_53178_2 : decode cJ7_fill_53178 2 = .ok (.aload_n 0, 1) := by decide +kernel
theorem dJ7_fill_53178_3 : decode cJ7_fill_53178 3 = .ok (.arraylength, 1) := by decide +kernel
theorem dJ7_fill_53178_4 : decode cJ7_fill_53178 4 = .ok (.istore_n 3, 1) := by decide +kernel
theorem dJ7_fill_53178_5 : decode cJ7_fill_53178 5 = .ok (.iload_n 2, 1) := by decide +kernel
theorem dJ7_fill_53178_6 : decode cJ7_fill_53178 6 = .ok (.iload_n 3, 1) := by decide +kernel
theorem dJ7_fill_53178_7 : decode cJ7_fill_53178 7 = .ok (.if_icmp .ge 13, 3) := by decide +kernel
theorem dJ7_fill_53178_10 : decode cJ7_fill_53178 10 = .ok (.aload_n 0, 1) := by decide +kernel
theorem dJ7_fill_53178_11 : decode cJ7_fill_53178 11 = .ok (.iload_n 2, 1) := by decide +kernel
theorem dJ7_fill_53178_12 : decode cJ7_fill_53178 12 = .ok (.iload_n 1, 1) := by decide +kernel
theorem dJ7_fill_53178_13 : decode cJ7_fill_53178 13 = .ok (.iastore, 1) := by decide +kernel
theorem dJ7_fill_53178_14 : decode cJ7_fill_53178 14 = .ok (.iinc 2 1, 3) := by decide +kernel
theorem dJ7_fill_53178_17 : decode cJ7_fill_53178 17 = .ok (.goto (-12), 3) := by decide +kernel
theorem dJ7_fill_53178_20 : decode cJ7_fill_53178 20 = .ok (.return_, 1) := by decide +kernel
theorem dJ7_copyOf_59c91_0 : decode cJ7_copyOf_59c91 0 = .ok (.iload_n 1, 1) := by decide +kernel
theorem dJ7_copyOf_59c91_1 : decode cJ7_copyOf_59c91 1 = .ok (.aload_n 0, 1) := by decide +kernel
theorem dJ7_copyOf_59c91_2 : decode cJ7_copyOf_59c91 2 = .ok (.arraylength, 1) := by decide +kernel
theorem dJ7_copyOf_59c91_3 : decode cJ7_copyOf_59c91 3 = .ok (.if_icmp .ne 11, 3) := by decide +kernel
theorem dJ7_copyOf_59c91_6 : decode cJ7_copyOf_59c91 6 = .ok (.aload_n 0, 1) := by decide +kernel
theorem dJ7_copyOf_59c91_7 : decode cJ7_copyOf_59c91 7 = .ok (.invokevirtual 316, 3) := by decide +kernel
theorem dJ7_copyOf_59c91_10 : decode cJ7_copyOf_59c91 10 = .ok (.checkcast 317, 3) := by decide +kernel
theorem dJ7_copyOf_59c91_13 : decode cJ7_copyOf_59c91 13 = .ok (.areturn, 1) := by decide +kernel
theorem dJ7_copyOf_59c91_14 : decode cJ7_copyOf_59c91 14 = .ok (.iload_n 1, 1) := by decide +kernel
theorem dJ7_copyOf_59c91_15 : decode cJ7_copyOf_59c91 15 = .ok (.newarray .int, 2) := by decide +kernel
theorem dJ7_copyOf_59c91_17 : decode cJ7_copyOf_59c91 17 = .ok (.astore_n 2, 1) := by decide +kernel
theorem dJ7_copyOf_59c91_18 : decode cJ7_copyOf_59c91 18 = .ok (.aload_n 0, 1) := by decide +kernel
theorem dJ7_copyOf_59c91_19 : decode cJ7_copyOf_59c91 19 = .ok (.iconst 0, 1) := by decide +kernel
theorem dJ7_copyOf_59c91_20 : decode cJ7_copyOf_59c91 20 = .ok (.aload_n 2, 1) := by decide +kernel
theorem dJ7_copyOf_59c91_21 : decode cJ7_copyOf_59c91 21 = .ok (.iconst 0, 1) := by decide +kernel
theorem dJ7_copyOf_59c91_22 : decode cJ7_copyOf_59c91 22 = .ok (.aload_n 0, 1) := by decide +kernel
theorem dJ7_copyOf_59c91_23 : decode cJ7_copyOf_59c91 23 = .ok (.arraylength, 1) := by decide +kernel
theorem dJ7_copyOf_59c91_24 : decode cJ7_copyOf_59c91 24 = .ok (.iload_n 1, 1) := by decide +kernel
theorem dJ7_copyOf_59c91_25 : decode cJ7_copyOf_59c91 25 = .ok (.invokestatic 304, 3) := by decide +kernel
theorem dJ7_copyOf_59c91_28 : decode cJ7_copyOf_59c91 28 = .ok (.invokestatic 150, 3) := by decide +kernel
theorem dJ7_copyOf_59c91_31 : decode cJ7_copyOf_59c91 31 = .ok (.aload_n 2, 1) := by decide +kernel
theorem dJ7_copyOf_59c91_32 : decode cJ7_copyOf_59c91 32 = .ok (.areturn, 1) := by decide +kernel
theorem dJ9_max_7cf53_0 : decode cJ9_max_7cf53 0 = .ok (.iload_n 0, 1) := by decide +kernel
theorem dJ9_max_7cf53_1 : decode cJ9_max_7cf53 1 = .ok (.iload_n 1, 1) := by decide +kernel
theorem dJ9_max_7cf53_2 : decode cJ9_max_7cf53 2 = .ok (.if_icmp .lt 7, 3) := by decide +kernel
theorem dJ9_max_7cf53_5 : decode cJ9_max_7cf53 5 = .ok (.iload_n 0, 1) := by decide +kernel
theorem dJ9_max_7cf53_6 : decode cJ9_max_7cf53 6 = .ok (.goto 4, 3) := by decide +kernel
theorem dJ9_max_7cf53_9 : decode cJ9_max_7cf53 9 = .ok (.iload_n 1, 1) := by decide +kernel
theorem dJ9_max_7cf53_10 : decode cJ9_max_7cf53 10 = .ok (.ireturn, 1) := by decide +kernel
theorem dJ9_max_f86c9_0 : decode cJ9_max_f86c9 0 = .ok (.lload_n 0, 1) := by decide +kernel
theorem dJ9_max_f86c9_1 : decode cJ9_max_f86c9 1 = .ok (.lload_n 2, 1) := by decide +kernel
theorem dJ9_max_f86c9_2 : decode cJ9_max_f86c9 2 = .ok (.lcmp, 1) := by decide +kernel
theorem dJ9_max_f86c9_3 : decode cJ9_max_f86c9 3 = .ok (.ifCond .lt 7, 3) := by decide +kernel
theorem dJ9_max_f86c9_6 : decode cJ9_max_f86c9 6 = .ok (.lload_n 0, 1) := by decide +kernel
theorem dJ9_max_f86c9_7 : decode cJ9_max_f86c9 7 = .ok (.goto 4, 3) := by decide +kernel
theorem dJ9_max_f86c9_10 : decode cJ9_max_f86c9 10 = .ok (.lload_n 2, 1) := by decide +kernel
theorem dJ9_max_f86c9_11 : decode cJ9_max_f86c9 11 = .ok (.lreturn, 1) := by decide +kernel
theorem dJ9_min_7cf53_0 : decode cJ9_min_7cf53 0 = .ok (.iload_n 0, 1) := by decide +kernel
theorem dJ9_min_7cf53_1 : decode cJ9_min_7cf53 1 = .ok (.iload_n 1, 1) := by decide +kernel
theorem dJ9_min_7cf53_2 : decode cJ9_min_7cf53 2 = .ok (.if_icmp .gt 7, 3) := by decide +kernel
theorem dJ9_min_7cf53_5 : decode cJ9_min_7cf53 5 = .ok (.iload_n 0, 1) := by decide +kernel
theorem dJ9_min_7cf53_6 : decode cJ9_min_7cf53 6 = .ok (.goto 4, 3) := by decide +kernel
theorem dJ9_min_7cf53_9 : decode cJ9_min_7cf53 9 = .ok (.iload_n 1, 1) := by decide +kernel
theorem dJ9_min_7cf53_10 : decode cJ9_min_7cf53 10 = .ok (.ireturn, 1) := by decide +kernel
theorem dL_law_0 : decode cL_law 0 = .ok (.new 7, 3) := by decide +kernel
theorem dL_law_3 : decode cL_law 3 = .ok (.dup, 1) := by decide +kernel
theorem dL_law_4 : decode cL_law 4 = .ok (.invokespecial 9, 3) := by decide +kernel
theorem dL_law_7 : decode cL_law 7 = .ok (.astore_n 1, 1) := by decide +kernel
theorem dL_law_8 : decode cL_law 8 = .ok (.new 10, 3) := by decide +kernel
theorem dL_law_11 : decode cL_law 11 = .ok (.dup, 1) := by decide +kernel
theorem dL_law_12 : decode cL_law 12 = .ok (.invokespecial 12, 3) := by decide +kernel
theorem dL_law_15 : decode cL_law 15 = .ok (.astore_n 2, 1) := by decide +kernel
theorem dL_law_16 : decode cL_law 16 = .ok (.iconst 0, 1) := by decide +kernel
theorem dL_law_17 : decode cL_law 17 = .ok (.istore_n 3, 1) := by decide +kernel
theorem dL_law_18 : decode cL_law 18 = .ok (.iload_n 3, 1) := by decide +kernel
theorem dL_law_19 : decode cL_law 19 = .ok (.aload_n 0, 1) := by decide +kernel
theorem dL_law_20 : decode cL_law 20 = .ok (.arraylength, 1) := by decide +kernel
theorem dL_law_21 : decode cL_law 21 = .ok (.bipush 6, 2) := by decide +kernel
theorem dL_law_23 : decode cL_law 23 = .ok (.isub, 1) := by decide +kernel
theorem dL_law_24 : decode cL_law 24 = .ok (.if_icmp .gt 1567, 3) := by decide +kernel
theorem dL_law_27 : decode cL_law 27 = .ok (.aload_n 0, 1) := by decide +kernel
theorem dL_law_28 : decode cL_law 28 = .ok (.iload_n 3, 1) := by decide +kernel
theorem dL_law_29 : decode cL_law 29 = .ok (.iaload, 1) := by decide +kernel
theorem dL_law_30 : decode cL_law 30 = .ok (.bipush 63, 2) := by decide +kernel
theorem dL_law_32 : decode cL_law 32 = .ok (.iand, 1) := by decide +kernel
theorem dL_law_33 : decode cL_law 33 = .ok (.tableswitch 1552 0 45 #[199, 242, 265, 308, 371, 394, 407, 430, 453, 476, 499, 522, 555, 578, 601, 634, 647, 680, 713, 746, 769, 802, 845, 878, 921, 960, 983, 1032, 1065, 1098, 1131, 1164, 1177, 1210, 1260, 1293, 1326, 1385, 1418, 1431, 1444, 1467, 1490, 1503, 1516, 1529], 199) := by decide +kernel
theorem dL_law_232 : decode cL_law 232 = .ok (.aload_n 1, 1) := by decide +kernel
theorem dL_law_233 : decode cL_law 233 = .ok (.aload_n 0, 1) := by decide +kernel
theorem dL_law_234 : decode cL_law 234 = .ok (.iload_n 3, 1) := by decide +kernel
theorem dL_law_235 : decode cL_law 235 = .ok (.iconst 1, 1) := by decide +kernel
theorem dL_law_236 : decode cL_law 236 = .ok (.iadd, 1) := by decide +kernel
theorem dL_law_237 : decode cL_law 237 = .ok (.iaload, 1) := by decide +kernel
theorem dL_law_238 : decode cL_law 238 = .ok (.aload_n 0, 1) := by decide +kernel
theorem dL_law_239 : decode cL_law 239 = .ok (.iload_n 3, 1) := by decide +kernel
theorem dL_law_240 : decode cL_law 240 = .ok (.iconst 2, 1) := by decide +kernel
theorem dL_law_241 : decode cL_law 241 = .ok (.iadd, 1) := by decide +kernel
theorem dL_law_242 : decode cL_law 242 = .ok (.iaload, 1) := by decide +kernel
theorem dL_law_243 : decode cL_law 243 = .ok (.aload_n 0, 1) := by decide +kernel
theorem dL_law_244 : decode cL_law 244 = .ok (.iload_n 3, 1) := by decide +kernel
theorem dL_law_245 : decode cL_law 245 = .ok (.iconst 3, 1) := by decide +kernel
theorem dL_law_246 : decode cL_law 246 = .ok (.iadd, 1) := by decide +kernel
theorem dL_law_247 : decode cL_law 247 = .ok (.iaload, 1) := by decide +kernel
theorem dL_law_248 : decode cL_law 248 = .ok (.invokevirtual 13, 3) := by decide +kernel
theorem dL_law_251 : decode cL_law 251 = .ok (.aload_n 2, 1) := by decide +kernel
theorem dL_law_252 : decode cL_law 252 = .ok (.aload_n 0, 1) := by decide +kernel
theorem dL_law_253 : decode cL_law 253 = .ok (.iload_n 3, 1) := by decide +kernel
theorem dL_law_254 : decode cL_law 254 = .ok (.iconst 1, 1) := by decide +kernel
theorem dL_law_255 : decode cL_law 255 = .ok (.iadd, 1) := by decide +kernel
theorem dL_law_256 : decode cL_law 256 = .ok (.iaload, 1) := by decide +kernel
theorem dL_law_257 : decode cL_law 257 = .ok (.aload_n 0, 1) := by decide +kernel
theorem dL_law_258 : decode cL_law 258 = .ok (.iload_n 3, 1) := by decide +kernel
theorem dL_law_259 : decode cL_law 259 = .ok (.iconst 2, 1) := by decide +kernel
theorem dL_law_260 : decode cL_law 260 = .ok (.iadd, 1) := by decide +kernel
theorem dL_law_261 : decode cL_law 261 = .ok (.iaload, 1) := by decide +kernel
theorem dL_law_262 : decode cL_law 262 = .ok (.aload_n 0, 1) := by decide +kernel
theorem dL_law_263 : decode cL_law 263 = .ok (.iload_n 3, 1) := by decide +kernel
theorem dL_law_264 : decode cL_law 264 = .ok (.iconst 3, 1) := by decide +kernel
theorem dL_law_265 : decode cL_law 265 = .ok (.iadd, 1) := by decide +kernel
theorem dL_law_266 : decode cL_law 266 = .ok (.iaload, 1) := by decide +kernel
theorem dL_law_267 : decode cL_law 267 = .ok (.invokevirtual 17, 3) := by decide +kernel
theorem dL_law_270 : decode cL_law 270 = .ok (.if_icmp .eq 1315, 3) := by decide +kernel
theorem dL_law_273 : decode cL_law 273 = .ok (.iconst 0, 1) := by decide +kernel
theorem dL_law_274 : decode cL_law 274 = .ok (.ireturn, 1) := by decide +kernel
theorem dL_law_275 : decode cL_law 275 = .ok (.aload_n 1, 1) := by decide +kernel
theorem dL_law_276 : decode cL_law 276 = .ok (.aload_n 0, 1) := by decide +kernel
theorem dL_law_277 : decode cL_law 277 = .ok (.iload_n 3, 1) := by decide +kernel
theorem dL_law_278 : decode cL_law 278 = .ok (.iconst 1, 1) := by decide +kernel
theorem dL_law_279 : decode cL_law 279 = .ok (.iadd, 1) := by decide +kernel
theorem dL_law_280 : decode cL_law 280 = .ok (.iaload, 1) := by decide +kernel
theorem dL_law_281 : decode cL_law 281 = .ok (.invokevirtual 18, 3) := by decide +kernel
theorem dL_law_284 : decode cL_law 284 = .ok (.aload_n 2, 1) := by decide +kernel
theorem dL_law_285 : decode cL_law 285 = .ok (.aload_n 0, 1) := by decide +kernel
theorem dL_law_286 : decode cL_law 286 = .ok (.iload_n 3, 1) := by decide +kernel
theorem dL_law_287 : decode cL_law 287 = .ok (.iconst 1, 1) := by decide +kernel
theorem dL_law_288 : decode cL_law 288 = .ok (.iadd, 1) := by decide +kernel
theorem dL_law_289 : decode cL_law 289 = .ok (.iaload, 1) := by decide +kernel
theorem dL_law_290 : decode cL_law 290 = .ok (.invokevirtual 22, 3) := by decide +kernel
theorem dL_law_293 : decode cL_law 293 = .ok (.if_icmp .eq 1292, 3) := by decide +kernel
theorem dL_law_296 : decode cL_law 296 = .ok (.iconst 0, 1) := by decide +kernel
theorem dL_law_297 : decode cL_law 297 = .ok (.ireturn, 1) := by decide +kernel
theorem dL_law_298 : decode cL_law 298 = .ok (.aload_n 1, 1) := by decide +kernel
theorem dL_law_299 : decode cL_law 299 = .ok (.aload_n 0, 1) := by decide +kernel
theorem dL_law_300 : decode cL_law 300 = .ok (.iload_n 3, 1) := by decide +kernel
theorem dL_law_301 : decode cL_law 301 = .ok (.iconst 1, 1) := by decide +kernel
theorem dL_law_302 : decode cL_law 302 = .ok (.iadd, 1) := by decide +kernel
theorem dL_law_303 : decode cL_law 303 = .ok (.iaload, 1) := by decide +kernel
theorem dL_law_304 : decode cL_law 304 = .ok (.aload_n 0, 1) := by decide +kernel
theorem dL_law_305 : decode cL_law 305 = .ok (.iload_n 3, 1) := by decide +kernel
theorem dL_law_306 : decode cL_law 306 = .ok (.iconst 2, 1) := by decide +kernel
theorem dL_law_307 : decode cL_law 307 = .ok (.iadd, 1) := by decide +kernel
theorem dL_law_308 : decode cL_law 308 = .ok (.iaload, 1) := by decide +kernel
theorem dL_law_309 : decode cL_law 309 = .ok (.aload_n 0, 1) := by decide +kernel
theorem dL_law_310 : decode cL_law 310 = .ok (.iload_n 3, 1) := by decide +kernel
theorem dL_law_311 : decode cL_law 311 = .ok (.iconst 3, 1) := by decide +kernel
theorem dL_law_312 : decode cL_law 312 = .ok (.iadd, 1) := by decide +kernel
theorem dL_law_313 : decode cL_law 313 = .ok (.iaload, 1) := by decide +kernel
theorem dL_law_314 : decode cL_law 314 = .ok (.invokevirtual 23, 3) := by decide +kernel
theorem dL_law_317 : decode cL_law 317 = .ok (.aload_n 2, 1) := by decide +kernel
theorem dL_law_318 : decode cL_law 318 = .ok (.aload_n 0, 1) := by decide +kernel
theorem dL_law_319 : decode cL_law 319 = .ok (.iload_n 3, 1) := by decide +kernel
theorem dL_law_320 : decode cL_law 320 = .ok (.iconst 1, 1) := by decide +kernel
theorem dL_law_321 : decode cL_law 321 = .ok (.iadd, 1) := by decide +kernel
theorem dL_law_322 : decode cL_law 322 = .ok (.iaload, 1) := by decide +kernel
theorem dL_law_323 : decode cL_law 323 = .ok (.aload_n 0, 1) := by decide +kernel
theorem dL_law_324 : decode cL_law 324 = .ok (.iload_n 3, 1) := by decide +kernel
theorem dL_law_325 : decode cL_law 325 = .ok (.iconst 2, 1) := by decide +kernel
theorem dL_law_326 : decode cL_law 326 = .ok (.iadd, 1) := by decide +kernel
theorem dL_law_327 : decode cL_law 327 = .ok (.iaload, 1) := by decide +kernel
theorem dL_law_328 : decode cL_law 328 = .ok (.aload_n 0, 1) := by decide +kernel
theorem dL_law_329 : decode cL_law 329 = .ok (.iload_n 3, 1) := by decide +kernel
theorem dL_law_330 : decode cL_law 330 = .ok (.iconst 3, 1) := by decide +kernel
theorem dL_law_331 : decode cL_law 331 = .ok (.iadd, 1) := by decide +kernel
theorem dL_law_332 : decode cL_law 332 = .ok (.iaload, 1) := by decide +kernel
theorem dL_law_333 : decode cL_law 333 = .ok (.invokevirtual 27, 3) := by decide +kernel
theorem dL_law_336 : decode cL_law 336 = .ok (.if_icmp .eq 1249, 3) := by decide +kernel
theorem dL_law_339 : decode cL_law 339 = .ok (.iconst 0, 1) := by decide +kernel
theorem dL_law_340 : decode cL_law 340 = .ok (.ireturn, 1) := by decide +kernel
theorem dL_law_341 : decode cL_law 341 = .ok (.aload_n 1, 1) := by decide +kernel
theorem dL_law_342 : decode cL_law 342 = .ok (.aload_n 0, 1) := by decide +kernel
theorem dL_law_343 : decode cL_law 343 = .ok (.iload_n 3, 1) := by decide +kernel
theorem dL_law_344 : decode cL_law 344 = .ok (.iconst 1, 1) := by decide +kernel
theorem dL_law_345 : decode cL_law 345 = .ok (.iadd, 1) := by decide +kernel
theorem dL_law_346 : decode cL_law 346 = .ok (.iaload, 1) := by decide +kernel
theorem dL_law_347 : decode cL_law 347 = .ok (.aload_n 0, 1) := by decide +kernel
theorem dL_law_348 : decode cL_law 348 = .ok (.iload_n 3, 1) := by decide +kernel
theorem dL_law_349 : decode cL_law 349 = .ok (.iconst 2, 1) := by decide +kernel
theorem dL_law_350 : decode cL_law 350 = .ok (.iadd, 1) := by decide +kernel
theorem dL_law_351 : decode cL_law 351 = .ok (.iaload, 1) := by decide +kernel
theorem dL_law_352 : decode cL_law 352 = .ok (.aload_n 0, 1) := by decide +kernel
theorem dL_law_353 : decode cL_law 353 = .ok (.iload_n 3, 1) := by decide +kernel
theorem dL_law_354 : decode cL_law 354 = .ok (.iconst 3, 1) := by decide +kernel
theorem dL_law_355 : decode cL_law 355 = .ok (.iadd, 1) := by decide +kernel
theorem dL_law_356 : decode cL_law 356 = .ok (.iaload, 1) := by decide +kernel
theorem dL_law_357 : decode cL_law 357 = .ok (.aload_n 0, 1) := by decide +kernel
theorem dL_law_358 : decode cL_law 358 = .ok (.iload_n 3, 1) := by decide +kernel
theorem dL_law_359 : decode cL_law 359 = .ok (.iconst 4, 1) := by decide +kernel
theorem dL_law_360 : decode cL_law 360 = .ok (.iadd, 1) := by decide +kernel
theorem dL_law_361 : decode cL_law 361 = .ok (.iaload, 1) := by decide +kernel
theorem dL_law_362 : decode cL_law 362 = .ok (.aload_n 0, 1) := by decide +kernel
theorem dL_law_363 : decode cL_law 363 = .ok (.iload_n 3, 1) := by decide +kernel
theorem dL_law_364 : decode cL_law 364 = .ok (.iconst 5, 1) := by decide +kernel
theorem dL_law_365 : decode cL_law 365 = .ok (.iadd, 1) := by decide +kernel
theorem dL_law_366 : decode cL_law 366 = .ok (.iaload, 1) := by decide +kernel
theorem dL_law_367 : decode cL_law 367 = .ok (.invokevirtual 28, 3) := by decide +kernel
theorem dL_law_370 : decode cL_law 370 = .ok (.aload_n 2, 1) := by decide +kernel
theorem dL_law_371 : decode cL_law 371 = .ok (.aload_n 0, 1) := by decide +kernel
theorem dL_law_372 : decode cL_law 372 = .ok (.iload_n 3, 1) := by decide +kernel
theorem dL_law_373 : decode cL_law 373 = .ok (.iconst 1, 1) := by decide +kernel
theorem dL_law_374 : decode cL_law 374 = .ok (.iadd, 1) := by decide +kernel
theorem dL_law_375 : decode cL_law 375 = .ok (.iaload, 1) := by decide +kernel
theorem dL_law_376 : decode cL_law 376 = .ok (.aload_n 0, 1) := by decide +kernel
theorem dL_law_377 : decode cL_law 377 = .ok (.iload_n 3, 1) := by decide +kernel
theorem dL_law_378 : decode cL_law 378 = .ok (.iconst 2, 1) := by decide +kernel
theorem dL_law_379 : decode cL_law 379 = .ok (.iadd, 1) := by decide +kernel
theorem dL_law_380 : decode cL_law 380 = .ok (.iaload, 1) := by decide +kernel
theorem dL_law_381 : decode cL_law 381 = .ok (.aload_n 0, 1) := by decide +kernel
theorem dL_law_382 : decode cL_law 382 = .ok (.iload_n 3, 1) := by decide +kernel
theorem dL_law_383 : decode cL_law 383 = .ok (.iconst 3, 1) := by decide +kernel
theorem dL_law_384 : decode cL_law 384 = .ok (.iadd, 1) := by decide +kernel
theorem dL_law_385 : decode cL_law 385 = .ok (.iaload, 1) := by decide +kernel
theorem dL_law_386 : decode cL_law 386 = .ok (.aload_n 0, 1) := by decide +kernel
theorem dL_law_387 : decode cL_law 387 = .ok (.iload_n 3, 1) := by decide +kernel
theorem dL_law_388 : decode cL_law 388 = .ok (.iconst 4, 1) := by decide +kernel
theorem dL_law_389 : decode cL_law 389 = .ok (.iadd, 1) := by decide +kernel
theorem dL_law_390 : decode cL_law 390 = .ok (.iaload, 1) := by decide +kernel
theorem dL_law_391 : decode cL_law 391 = .ok (.aload_n 0, 1) := by decide +kernel
theorem dL_law_392 : decode cL_law 392 = .ok (.iload_n 3, 1) := by decide +kernel
theorem dL_law_393 : decode cL_law 393 = .ok (.iconst 5, 1) := by decide +kernel
theorem dL_law_394 : decode cL_law 394 = .ok (.iadd, 1) := by decide +kernel
theorem dL_law_395 : decode cL_law 395 = .ok (.iaload, 1) := by decide +kernel
theorem dL_law_396 : decode cL_law 396 = .ok (.invokevirtual 32, 3) := by decide +kernel
theorem dL_law_399 : decode cL_law 399 = .ok (.if_icmp .eq 1186, 3) := by decide +kernel
theorem dL_law_402 : decode cL_law 402 = .ok (.iconst 0, 1) := by decide +kernel
theorem dL_law_403 : decode cL_law 403 = .ok (.ireturn, 1) := by decide +kernel
theorem dL_law_404 : decode cL_law 404 = .ok (.aload_n 1, 1) := by decide +kernel
theorem dL_law_405 : decode cL_law 405 = .ok (.aload_n 0, 1) := by decide +kernel
theorem dL_law_406 : decode cL_law 406 = .ok (.iload_n 3, 1) := by decide +kernel
theorem dL_law_407 : decode cL_law 407 = .ok (.iconst 1, 1) := by decide +kernel
theorem dL_law_408 : decode cL_law 408 = .ok (.iadd, 1) := by decide +kernel
theorem dL_law_409 : decode cL_law 409 = .ok (.iaload, 1) := by decide +kernel
theorem dL_law_410 : decode cL_law 410 = .ok (.invokevirtual 33, 3) := by decide +kernel
theorem dL_law_413 : decode cL_law 413 = .ok (.aload_n 2, 1) := by decide +kernel
theorem dL_law_414 : decode cL_law 414 = .ok (.aload_n 0, 1) := by decide +kernel
theorem dL_law_415 : decode cL_law 415 = .ok (.iload_n 3, 1) := by decide +kernel
theorem dL_law_416 : decode cL_law 416 = .ok (.iconst 1, 1) := by decide +kernel
theorem dL_law_417 : decode cL_law 417 = .ok (.iadd, 1) := by decide +kernel
theorem dL_law_418 : decode cL_law 418 = .ok (.iaload, 1) := by decide +kernel
theorem dL_law_419 : decode cL_law 419 = .ok (.invokevirtual 36, 3) := by decide +kernel
theorem dL_law_422 : decode cL_law 422 = .ok (.if_icmp .eq 1163, 3) := by decide +kernel
theorem dL_law_425 : decode cL_law 425 = .ok (.iconst 0, 1) := by decide +kernel
theorem dL_law_426 : decode cL_law 426 = .ok (.ireturn, 1) := by decide +kernel
theorem dL_law_427 : decode cL_law 427 = .ok (.aload_n 1, 1) := by decide +kernel
theorem dL_law_428 : decode cL_law 428 = .ok (.invokevirtual 37, 3) := by decide +kernel
theorem dL_law_431 : decode cL_law 431 = .ok (.aload_n 2, 1) := by decide +kernel
theorem dL_law_432 : decode cL_law 432 = .ok (.invokevirtual 41, 3) := by decide +kernel
theorem dL_law_435 : decode cL_law 435 = .ok (.if_icmp .eq 1150, 3) := by decide +kernel
theorem dL_law_438 : decode cL_law 438 = .ok (.iconst 0, 1) := by decide +kernel
theorem dL_law_439 : decode cL_law 439 = .ok (.ireturn, 1) := by decide +kernel
theorem dL_law_440 : decode cL_law 440 = .ok (.aload_n 1, 1) := by decide +kernel
theorem dL_law_441 : decode cL_law 441 = .ok (.aload_n 0, 1) := by decide +kernel
theorem dL_law_442 : decode cL_law 442 = .ok (.iload_n 3, 1) := by decide +kernel
theorem dL_law_443 : decode cL_law 443 = .ok (.iconst 1, 1) := by decide +kernel
theorem dL_law_444 : decode cL_law 444 = .ok (.iadd, 1) := by decide +kernel
theorem dL_law_445 : decode cL_law 445 = .ok (.iaload, 1) := by decide +kernel
theorem dL_law_446 : decode cL_law 446 = .ok (.invokevirtual 42, 3) := by decide +kernel
theorem dL_law_449 : decode cL_law 449 = .ok (.aload_n 2, 1) := by decide +kernel
theorem dL_law_450 : decode cL_law 450 = .ok (.aload_n 0, 1) := by decide +kernel
theorem dL_law_451 : decode cL_law 451 = .ok (.iload_n 3, 1) := by decide +kernel
theorem dL_law_452 : decode cL_law 452 = .ok (.iconst 1, 1) := by decide +kernel
theorem dL_law_453 : decode cL_law 453 = .ok (.iadd, 1) := by decide +kernel
theorem dL_law_454 : decode cL_law 454 = .ok (.iaload, 1) := by decide +kernel
theorem dL_law_455 : decode cL_law 455 = .ok (.invokevirtual 45, 3) := by decide +kernel
theorem dL_law_458 : decode cL_law 458 = .ok (.if_icmp .eq 1127, 3) := by decide +kernel
theorem dL_law_461 : decode cL_law 461 = .ok (.iconst 0, 1) := by decide +kernel
theorem dL_law_462 : decode cL_law 462 = .ok (.ireturn, 1) := by decide +kernel
theorem dL_law_463 : decode cL_law 463 = .ok (.aload_n 1, 1) := by decide +kernel
theorem dL_law_464 : decode cL_law 464 = .ok (.aload_n 0, 1) := by decide +kernel
theorem dL_law_465 : decode cL_law 465 = .ok (.iload_n 3, 1) := by decide +kernel
theorem dL_law_466 : decode cL_law 466 = .ok (.iconst 1, 1) := by decide +kernel
theorem dL_law_467 : decode cL_law 467 = .ok (.iadd, 1) := by decide +kernel
theorem dL_law_468 : decode cL_law 468 = .ok (.iaload, 1) := by decide +kernel
theorem dL_law_469 : decode cL_law 469 = .ok (.invokevirtual 46, 3) := by decide +kernel
theorem dL_law_472 : decode cL_law 472 = .ok (.aload_n 2, 1) := by decide +kernel
theorem dL_law_473 : decode cL_law 473 = .ok (.aload_n 0, 1) := by decide +kernel
theorem dL_law_474 : decode cL_law 474 = .ok (.iload_n 3, 1) := by decide +kernel
theorem dL_law_475 : decode cL_law 475 = .ok (.iconst 1, 1) := by decide +kernel
theorem dL_law_476 : decode cL_law 476 = .ok (.iadd, 1) := by decide +kernel
theorem dL_law_477 : decode cL_law 477 = .ok (.iaload, 1) := by decide +kernel
theorem dL_law_478 : decode cL_law 478 = .ok (.invokevirtual 50, 3) := by decide +kernel
theorem dL_law_481 : decode cL_law 481 = .ok (.if_icmp .eq 1104, 3) := by decide +kernel
theorem dL_law_484 : decode cL_law 484 = .ok (.iconst 0, 1) := by decide +kernel
theorem dL_law_485 : decode cL_law 485 = .ok (.ireturn, 1) := by decide +kernel
theorem dL_law_486 : decode cL_law 486 = .ok (.aload_n 1, 1) := by decide +kernel
theorem dL_law_487 : decode cL_law 487 = .ok (.aload_n 0, 1) := by decide +kernel
theorem dL_law_488 : decode cL_law 488 = .ok (.iload_n 3, 1) := by decide +kernel
theorem dL_law_489 : decode cL_law 489 = .ok (.iconst 1, 1) := by decide +kernel
theorem dL_law_490 : decode cL_law 490 = .ok (.iadd, 1) := by decide +kernel
theorem dL_law_491 : decode cL_law 491 = .ok (.iaload, 1) := by decide +kernel
theorem dL_law_492 : decode cL_law 492 = .ok (.invokevirtual 51, 3) := by decide +kernel
theorem dL_law_495 : decode cL_law 495 = .ok (.aload_n 2, 1) := by decide +kernel
theorem dL_law_496 : decode cL_law 496 = .ok (.aload_n 0, 1) := by decide +kernel
theorem dL_law_497 : decode cL_law 497 = .ok (.iload_n 3, 1) := by decide +kernel
theorem dL_law_498 : decode cL_law 498 = .ok (.iconst 1, 1) := by decide +kernel
theorem dL_law_499 : decode cL_law 499 = .ok (.iadd, 1) := by decide +kernel
theorem dL_law_500 : decode cL_law 500 = .ok (.iaload, 1) := by decide +kernel
theorem dL_law_501 : decode cL_law 501 = .ok (.invokevirtual 54, 3) := by decide +kernel
theorem dL_law_504 : decode cL_law 504 = .ok (.if_icmp .eq 1081, 3) := by decide +kernel
theorem dL_law_507 : decode cL_law 507 = .ok (.iconst 0, 1) := by decide +kernel
theorem dL_law_508 : decode cL_law 508 = .ok (.ireturn, 1) := by decide +kernel
theorem dL_law_509 : decode cL_law 509 = .ok (.aload_n 1, 1) := by decide +kernel
theorem dL_law_510 : decode cL_law 510 = .ok (.aload_n 0, 1) := by decide +kernel
theorem dL_law_511 : decode cL_law 511 = .ok (.iload_n 3, 1) := by decide +kernel
theorem dL_law_512 : decode cL_law 512 = .ok (.iconst 1, 1) := by decide +kernel
theorem dL_law_513 : decode cL_law 513 = .ok (.iadd, 1) := by decide +kernel
theorem dL_law_514 : decode cL_law 514 = .ok (.iaload, 1) := by decide +kernel
theorem dL_law_515 : decode cL_law 515 = .ok (.invokevirtual 55, 3) := by decide +kernel
theorem dL_law_518 : decode cL_law 518 = .ok (.aload_n 2, 1) := by decide +kernel
theorem dL_law_519 : decode cL_law 519 = .ok (.aload_n 0, 1) := by decide +kernel
theorem dL_law_520 : decode cL_law 520 = .ok (.iload_n 3, 1) := by decide +kernel
theorem dL_law_521 : decode cL_law 521 = .ok (.iconst 1, 1) := by decide +kernel
theorem dL_law_522 : decode cL_law 522 = .ok (.iadd, 1) := by decide +kernel
theorem dL_law_523 : decode cL_law 523 = .ok (.iaload, 1) := by decide +kernel
theorem dL_law_524 : decode cL_law 524 = .ok (.invokevirtual 58, 3) := by decide +kernel
theorem dL_law_527 : decode cL_law 527 = .ok (.if_icmp .eq 1058, 3) := by decide +kernel
theorem dL_law_530 : decode cL_law 530 = .ok (.iconst 0, 1) := by decide +kernel
theorem dL_law_531 : decode cL_law 531 = .ok (.ireturn, 1) := by decide +kernel
theorem dL_law_532 : decode cL_law 532 = .ok (.aload_n 1, 1) := by decide +kernel
theorem dL_law_533 : decode cL_law 533 = .ok (.aload_n 0, 1) := by decide +kernel
theorem dL_law_534 : decode cL_law 534 = .ok (.iload_n 3, 1) := by decide +kernel
theorem dL_law_535 : decode cL_law 535 = .ok (.iconst 1, 1) := by decide +kernel
theorem dL_law_536 : decode cL_law 536 = .ok (.iadd, 1) := by decide +kernel
theorem dL_law_537 : decode cL_law 537 = .ok (.iaload, 1) := by decide +kernel
theorem dL_law_538 : decode cL_law 538 = .ok (.invokevirtual 59, 3) := by decide +kernel
theorem dL_law_541 : decode cL_law 541 = .ok (.aload_n 2, 1) := by decide +kernel
theorem dL_law_542 : decode cL_law 542 = .ok (.aload_n 0, 1) := by decide +kernel
theorem dL_law_543 : decode cL_law 543 = .ok (.iload_n 3, 1) := by decide +kernel
theorem dL_law_544 : decode cL_law 544 = .ok (.iconst 1, 1) := by decide +kernel
theorem dL_law_545 : decode cL_law 545 = .ok (.iadd, 1) := by decide +kernel
theorem dL_law_546 : decode cL_law 546 = .ok (.iaload, 1) := by decide +kernel
theorem dL_law_547 : decode cL_law 547 = .ok (.invokevirtual 62, 3) := by decide +kernel
theorem dL_law_550 : decode cL_law 550 = .ok (.if_icmp .eq 1035, 3) := by decide +kernel
theorem dL_law_553 : decode cL_law 553 = .ok (.iconst 0, 1) := by decide +kernel
theorem dL_law_554 : decode cL_law 554 = .ok (.ireturn, 1) := by decide +kernel
theorem dL_law_555 : decode cL_law 555 = .ok (.aload_n 1, 1) := by decide +kernel
theorem dL_law_556 : decode cL_law 556 = .ok (.aload_n 0, 1) := by decide +kernel
theorem dL_law_557 : decode cL_law 557 = .ok (.iload_n 3, 1) := by decide +kernel
theorem dL_law_558 : decode cL_law 558 = .ok (.iconst 1, 1) := by decide +kernel
theorem dL_law_559 : decode cL_law 559 = .ok (.iadd, 1) := by decide +kernel
theorem dL_law_560 : decode cL_law 560 = .ok (.iaload, 1) := by decide +kernel
theorem dL_law_561 : decode cL_law 561 = .ok (.aload_n 0, 1) := by decide +kernel
theorem dL_law_562 : decode cL_law 562 = .ok (.iload_n 3, 1) := by decide +kernel
theorem dL_law_563 : decode cL_law 563 = .ok (.iconst 2, 1) := by decide +kernel
theorem dL_law_564 : decode cL_law 564 = .ok (.iadd, 1) := by decide +kernel
theorem dL_law_565 : decode cL_law 565 = .ok (.iaload, 1) := by decide +kernel
theorem dL_law_566 : decode cL_law 566 = .ok (.invokevirtual 63, 3) := by decide +kernel
theorem dL_law_569 : decode cL_law 569 = .ok (.aload_n 2, 1) := by decide +kernel
theorem dL_law_570 : decode cL_law 570 = .ok (.aload_n 0, 1) := by decide +kernel
theorem dL_law_571 : decode cL_law 571 = .ok (.iload_n 3, 1) := by decide +kernel
theorem dL_law_572 : decode cL_law 572 = .ok (.iconst 1, 1) := by decide +kernel
theorem dL_law_573 : decode cL_law 573 = .ok (.iadd, 1) := by decide +kernel
theorem dL_law_574 : decode cL_law 574 = .ok (.iaload, 1) := by decide +kernel
theorem dL_law_575 : decode cL_law 575 = .ok (.aload_n 0, 1) := by decide +kernel
theorem dL_law_576 : decode cL_law 576 = .ok (.iload_n 3, 1) := by decide +kernel
theorem dL_law_577 : decode cL_law 577 = .ok (.iconst 2, 1) := by decide +kernel
theorem dL_law_578 : decode cL_law 578 = .ok (.iadd, 1) := by decide +kernel
theorem dL_law_579 : decode cL_law 579 = .ok (.iaload, 1) := by decide +kernel
theorem dL_law_580 : decode cL_law 580 = .ok (.invokevirtual 67, 3) := by decide +kernel
theorem dL_law_583 : decode cL_law 583 = .ok (.if_icmp .eq 1002, 3) := by decide +kernel
theorem dL_law_586 : decode cL_law 586 = .ok (.iconst 0, 1) := by decide +kernel
theorem dL_law_587 : decode cL_law 587 = .ok (.ireturn, 1) := by decide +kernel
theorem dL_law_588 : decode cL_law 588 = .ok (.aload_n 1, 1) := by decide +kernel
theorem dL_law_589 : decode cL_law 589 = .ok (.aload_n 0, 1) := by decide +kernel
theorem dL_law_590 : decode cL_law 590 = .ok (.iload_n 3, 1) := by decide +kernel
theorem dL_law_591 : decode cL_law 591 = .ok (.iconst 1, 1) := by decide +kernel
theorem dL_law_592 : decode cL_law 592 = .ok (.iadd, 1) := by decide +kernel
theorem dL_law_593 : decode cL_law 593 = .ok (.iaload, 1) := by decide +kernel
theorem dL_law_594 : decode cL_law 594 = .ok (.invokevirtual 68, 3) := by decide +kernel
theorem dL_law_597 : decode cL_law 597 = .ok (.aload_n 2, 1) := by decide +kernel
theorem dL_law_598 : decode cL_law 598 = .ok (.aload_n 0, 1) := by decide +kernel
theorem dL_law_599 : decode cL_law 599 = .ok (.iload_n 3, 1) := by decide +kernel
theorem dL_law_600 : decode cL_law 600 = .ok (.iconst 1, 1) := by decide +kernel
theorem dL_law_601 : decode cL_law 601 = .ok (.iadd, 1) := by decide +kernel
theorem dL_law_602 : decode cL_law 602 = .ok (.iaload, 1) := by decide +kernel
theorem dL_law_603 : decode cL_law 603 = .ok (.invokevirtual 71, 3) := by decide +kernel
theorem dL_law_606 : decode cL_law 606 = .ok (.if_icmp .eq 979, 3) := by decide +kernel
theorem dL_law_609 : decode cL_law 609 = .ok (.iconst 0, 1) := by decide +kernel
theorem dL_law_610 : decode cL_law 610 = .ok (.ireturn, 1) := by decide +kernel
theorem dL_law_611 : decode cL_law 611 = .ok (.aload_n 1, 1) := by decide +kernel
theorem dL_law_612 : decode cL_law 612 = .ok (.aload_n 0, 1) := by decide +kernel
theorem dL_law_613 : decode cL_law 613 = .ok (.iload_n 3, 1) := by decide +kernel
theorem dL_law_614 : decode cL_law 614 = .ok (.iconst 1, 1) := by decide +kernel
theorem dL_law_615 : decode cL_law 615 = .ok (.iadd, 1) := by decide +kernel
theorem dL_law_616 : decode cL_law 616 = .ok (.iaload, 1) := by decide +kernel
theorem dL_law_617 : decode cL_law 617 = .ok (.invokevirtual 72, 3) := by decide +kernel
theorem dL_law_620 : decode cL_law 620 = .ok (.aload_n 2, 1) := by decide +kernel
theorem dL_law_621 : decode cL_law 621 = .ok (.aload_n 0, 1) := by decide +kernel
theorem dL_law_622 : decode cL_law 622 = .ok (.iload_n 3, 1) := by decide +kernel
theorem dL_law_623 : decode cL_law 623 = .ok (.iconst 1, 1) := by decide +kernel
theorem dL_law_624 : decode cL_law 624 = .ok (.iadd, 1) := by decide +kernel
theorem dL_law_625 : decode cL_law 625 = .ok (.iaload, 1) := by decide +kernel
theorem dL_law_626 : decode cL_law 626 = .ok (.invokevirtual 75, 3) := by decide +kernel
theorem dL_law_629 : decode cL_law 629 = .ok (.if_icmp .eq 956, 3) := by decide +kernel
theorem dL_law_632 : decode cL_law 632 = .ok (.iconst 0, 1) := by decide +kernel
theorem dL_law_633 : decode cL_law 633 = .ok (.ireturn, 1) := by decide +kernel
theorem dL_law_634 : decode cL_law 634 = .ok (.aload_n 1, 1) := by decide +kernel
theorem dL_law_635 : decode cL_law 635 = .ok (.aload_n 0, 1) := by decide +kernel
theorem dL_law_636 : decode cL_law 636 = .ok (.iload_n 3, 1) := by decide +kernel
theorem dL_law_637 : decode cL_law 637 = .ok (.iconst 1, 1) := by decide +kernel
theorem dL_law_638 : decode cL_law 638 = .ok (.iadd, 1) := by decide +kernel
theorem dL_law_639 : decode cL_law 639 = .ok (.iaload, 1) := by decide +kernel
theorem dL_law_640 : decode cL_law 640 = .ok (.aload_n 0, 1) := by decide +kernel
theorem dL_law_641 : decode cL_law 641 = .ok (.iload_n 3, 1) := by decide +kernel
theorem dL_law_642 : decode cL_law 642 = .ok (.iconst 2, 1) := by decide +kernel
theorem dL_law_643 : decode cL_law 643 = .ok (.iadd, 1) := by decide +kernel
theorem dL_law_644 : decode cL_law 644 = .ok (.iaload, 1) := by decide +kernel
theorem dL_law_645 : decode cL_law 645 = .ok (.invokevirtual 76, 3) := by decide +kernel
theorem dL_law_648 : decode cL_law 648 = .ok (.aload_n 2, 1) := by decide +kernel
theorem dL_law_649 : decode cL_law 649 = .ok (.aload_n 0, 1) := by decide +kernel
theorem dL_law_650 : decode cL_law 650 = .ok (.iload_n 3, 1) := by decide +kernel
theorem dL_law_651 : decode cL_law 651 = .ok (.iconst 1, 1) := by decide +kernel
theorem dL_law_652 : decode cL_law 652 = .ok (.iadd, 1) := by decide +kernel
theorem dL_law_653 : decode cL_law 653 = .ok (.iaload, 1) := by decide +kernel
theorem dL_law_654 : decode cL_law 654 = .ok (.aload_n 0, 1) := by decide +kernel
theorem dL_law_655 : decode cL_law 655 = .ok (.iload_n 3, 1) := by decide +kernel
theorem dL_law_656 : decode cL_law 656 = .ok (.iconst 2, 1) := by decide +kernel
theorem dL_law_657 : decode cL_law 657 = .ok (.iadd, 1) := by decide +kernel
theorem dL_law_658 : decode cL_law 658 = .ok (.iaload, 1) := by decide +kernel
theorem dL_law_659 : decode cL_law 659 = .ok (.invokevirtual 80, 3) := by decide +kernel
theorem dL_law_662 : decode cL_law 662 = .ok (.if_icmp .eq 923, 3) := by decide +kernel
theorem dL_law_665 : decode cL_law 665 = .ok (.iconst 0, 1) := by decide +kernel
theorem dL_law_666 : decode cL_law 666 = .ok (.ireturn, 1) := by decide +kernel
theorem dL_law_667 : decode cL_law 667 = .ok (.aload_n 1, 1) := by decide +kernel
theorem dL_law_668 : decode cL_law 668 = .ok (.invokevirtual 81, 3) := by decide +kernel
theorem dL_law_671 : decode cL_law 671 = .ok (.aload_n 2, 1) := by decide +kernel
theorem dL_law_672 : decode cL_law 672 = .ok (.invokevirtual 84, 3) := by decide +kernel
theorem dL_law_675 : decode cL_law 675 = .ok (.if_icmp .eq 910, 3) := by decide +kernel
theorem dL_law_678 : decode cL_law 678 = .ok (.iconst 0, 1) := by decide +kernel
theorem dL_law_679 : decode cL_law 679 = .ok (.ireturn, 1) := by decide +kernel
theorem dL_law_680 : decode cL_law 680 = .ok (.aload_n 1, 1) := by decide +kernel
theorem dL_law_681 : decode cL_law 681 = .ok (.aload_n 0, 1) := by decide +kernel
theorem dL_law_682 : decode cL_law 682 = .ok (.iload_n 3, 1) := by decide +kernel
theorem dL_law_683 : decode cL_law 683 = .ok (.iconst 1, 1) := by decide +kernel
theorem dL_law_684 : decode cL_law 684 = .ok (.iadd, 1) := by decide +kernel
theorem dL_law_685 : decode cL_law 685 = .ok (.iaload, 1) := by decide +kernel
theorem dL_law_686 : decode cL_law 686 = .ok (.aload_n 0, 1) := by decide +kernel
theorem dL_law_687 : decode cL_law 687 = .ok (.iload_n 3, 1) := by decide +kernel
theorem dL_law_688 : decode cL_law 688 = .ok (.iconst 2, 1) := by decide +kernel
theorem dL_law_689 : decode cL_law 689 = .ok (.iadd, 1) := by decide +kernel
theorem dL_law_690 : decode cL_law 690 = .ok (.iaload, 1) := by decide +kernel
theorem dL_law_691 : decode cL_law 691 = .ok (.invokevirtual 85, 3) := by decide +kernel
theorem dL_law_694 : decode cL_law 694 = .ok (.aload_n 2, 1) := by decide +kernel
theorem dL_law_695 : decode cL_law 695 = .ok (.aload_n 0, 1) := by decide +kernel
theorem dL_law_696 : decode cL_law 696 = .ok (.iload_n 3, 1) := by decide +kernel
theorem dL_law_697 : decode cL_law 697 = .ok (.iconst 1, 1) := by decide +kernel
theorem dL_law_698 : decode cL_law 698 = .ok (.iadd, 1) := by decide +kernel
theorem dL_law_699 : decode cL_law 699 = .ok (.iaload, 1) := by decide +kernel
theorem dL_law_700 : decode cL_law 700 = .ok (.aload_n 0, 1) := by decide +kernel
theorem dL_law_701 : decode cL_law 701 = .ok (.iload_n 3, 1) := by decide +kernel
theorem dL_law_702 : decode cL_law 702 = .ok (.iconst 2, 1) := by decide +kernel
theorem dL_law_703 : decode cL_law 703 = .ok (.iadd, 1) := by decide +kernel
theorem dL_law_704 : decode cL_law 704 = .ok (.iaload, 1) := by decide +kernel
theorem dL_law_705 : decode cL_law 705 = .ok (.invokevirtual 88, 3) := by decide +kernel
theorem dL_law_708 : decode cL_law 708 = .ok (.if_icmp .eq 877, 3) := by decide +kernel
theorem dL_law_711 : decode cL_law 711 = .ok (.iconst 0, 1) := by decide +kernel
theorem dL_law_712 : decode cL_law 712 = .ok (.ireturn, 1) := by decide +kernel
theorem dL_law_713 : decode cL_law 713 = .ok (.aload_n 1, 1) := by decide +kernel
theorem dL_law_714 : decode cL_law 714 = .ok (.aload_n 0, 1) := by decide +kernel
theorem dL_law_715 : decode cL_law 715 = .ok (.iload_n 3, 1) := by decide +kernel
theorem dL_law_716 : decode cL_law 716 = .ok (.iconst 1, 1) := by decide +kernel
theorem dL_law_717 : decode cL_law 717 = .ok (.iadd, 1) := by decide +kernel
theorem dL_law_718 : decode cL_law 718 = .ok (.iaload, 1) := by decide +kernel
theorem dL_law_719 : decode cL_law 719 = .ok (.aload_n 0, 1) := by decide +kernel
theorem dL_law_720 : decode cL_law 720 = .ok (.iload_n 3, 1) := by decide +kernel
theorem dL_law_721 : decode cL_law 721 = .ok (.iconst 2, 1) := by decide +kernel
theorem dL_law_722 : decode cL_law 722 = .ok (.iadd, 1) := by decide +kernel
theorem dL_law_723 : decode cL_law 723 = .ok (.iaload, 1) := by decide +kernel
theorem dL_law_724 : decode cL_law 724 = .ok (.invokevirtual 89, 3) := by decide +kernel
theorem dL_law_727 : decode cL_law 727 = .ok (.aload_n 2, 1) := by decide +kernel
theorem dL_law_728 : decode cL_law 728 = .ok (.aload_n 0, 1) := by decide +kernel
theorem dL_law_729 : decode cL_law 729 = .ok (.iload_n 3, 1) := by decide +kernel
theorem dL_law_730 : decode cL_law 730 = .ok (.iconst 1, 1) := by decide +kernel
theorem dL_law_731 : decode cL_law 731 = .ok (.iadd, 1) := by decide +kernel
theorem dL_law_732 : decode cL_law 732 = .ok (.iaload, 1) := by decide +kernel
theorem dL_law_733 : decode cL_law 733 = .ok (.aload_n 0, 1) := by decide +kernel
theorem dL_law_734 : decode cL_law 734 = .ok (.iload_n 3, 1) := by decide +kernel
theorem dL_law_735 : decode cL_law 735 = .ok (.iconst 2, 1) := by decide +kernel
theorem dL_law_736 : decode cL_law 736 = .ok (.iadd, 1) := by decide +kernel
theorem dL_law_737 : decode cL_law 737 = .ok (.iaload, 1) := by decide +kernel
theorem dL_law_738 : decode cL_law 738 = .ok (.invokevirtual 92, 3) := by decide +kernel
theorem dL_law_741 : decode cL_law 741 = .ok (.if_icmp .eq 844, 3) := by decide +kernel
theorem dL_law_744 : decode cL_law 744 = .ok (.iconst 0, 1) := by decide +kernel
theorem dL_law_745 : decode cL_law 745 = .ok (.ireturn, 1) := by decide +kernel
theorem dL_law_746 : decode cL_law 746 = .ok (.aload_n 1, 1) := by decide +kernel
theorem dL_law_747 : decode cL_law 747 = .ok (.aload_n 0, 1) := by decide +kernel
theorem dL_law_748 : decode cL_law 748 = .ok (.iload_n 3, 1) := by decide +kernel
theorem dL_law_749 : decode cL_law 749 = .ok (.iconst 1, 1) := by decide +kernel
theorem dL_law_750 : decode cL_law 750 = .ok (.iadd, 1) := by decide +kernel
theorem dL_law_751 : decode cL_law 751 = .ok (.iaload, 1) := by decide +kernel
theorem dL_law_752 : decode cL_law 752 = .ok (.aload_n 0, 1) := by decide +kernel
theorem dL_law_753 : decode cL_law 753 = .ok (.iload_n 3, 1) := by decide +kernel
theorem dL_law_754 : decode cL_law 754 = .ok (.iconst 2, 1) := by decide +kernel
theorem dL_law_755 : decode cL_law 755 = .ok (.iadd, 1) := by decide +kernel
theorem dL_law_756 : decode cL_law 756 = .ok (.iaload, 1) := by decide +kernel
theorem dL_law_757 : decode cL_law 757 = .ok (.invokevirtual 93, 3) := by decide +kernel
theorem dL_law_760 : decode cL_law 760 = .ok (.aload_n 2, 1) := by decide +kernel
theorem dL_law_761 : decode cL_law 761 = .ok (.aload_n 0, 1) := by decide +kernel
theorem dL_law_762 : decode cL_law 762 = .ok (.iload_n 3, 1) := by decide +kernel
theorem dL_law_763 : decode cL_law 763 = .ok (.iconst 1, 1) := by decide +kernel
theorem dL_law_764 : decode cL_law 764 = .ok (.iadd, 1) := by decide +kernel
theorem dL_law_765 : decode cL_law 765 = .ok (.iaload, 1) := by decide +kernel
theorem dL_law_766 : decode cL_law 766 = .ok (.aload_n 0, 1) := by decide +kernel
theorem dL_law_767 : decode cL_law 767 = .ok (.iload_n 3, 1) := by decide +kernel
theorem dL_law_768 : decode cL_law 768 = .ok (.iconst 2, 1) := by decide +kernel
theorem dL_law_769 : decode cL_law 769 = .ok (.iadd, 1) := by decide +kernel
theorem dL_law_770 : decode cL_law 770 = .ok (.iaload, 1) := by decide +kernel
theorem dL_law_771 : decode cL_law 771 = .ok (.invokevirtual 96, 3) := by decide +kernel
theorem dL_law_774 : decode cL_law 774 = .ok (.if_icmp .eq 811, 3) := by decide +kernel
theorem dL_law_777 : decode cL_law 777 = .ok (.iconst 0, 1) := by decide +kernel
theorem dL_law_778 : decode cL_law 778 = .ok (.ireturn, 1) := by decide +kernel
theorem dL_law_779 : decode cL_law 779 = .ok (.aload_n 1, 1) := by decide +kernel
theorem dL_law_780 : decode cL_law 780 = .ok (.aload_n 0, 1) := by decide +kernel
theorem dL_law_781 : decode cL_law 781 = .ok (.iload_n 3, 1) := by decide +kernel
theorem dL_law_782 : decode cL_law 782 = .ok (.iconst 1, 1) := by decide +kernel
theorem dL_law_783 : decode cL_law 783 = .ok (.iadd, 1) := by decide +kernel
theorem dL_law_784 : decode cL_law 784 = .ok (.iaload, 1) := by decide +kernel
theorem dL_law_785 : decode cL_law 785 = .ok (.invokevirtual 97, 3) := by decide +kernel
theorem dL_law_788 : decode cL_law 788 = .ok (.aload_n 2, 1) := by decide +kernel
theorem dL_law_789 : decode cL_law 789 = .ok (.aload_n 0, 1) := by decide +kernel
theorem dL_law_790 : decode cL_law 790 = .ok (.iload_n 3, 1) := by decide +kernel
theorem dL_law_791 : decode cL_law 791 = .ok (.iconst 1, 1) := by decide +kernel
theorem dL_law_792 : decode cL_law 792 = .ok (.iadd, 1) := by decide +kernel
theorem dL_law_793 : decode cL_law 793 = .ok (.iaload, 1) := by decide +kernel
theorem dL_law_794 : decode cL_law 794 = .ok (.invokevirtual 100, 3) := by decide +kernel
theorem dL_law_797 : decode cL_law 797 = .ok (.if_icmp .eq 788, 3) := by decide +kernel
theorem dL_law_800 : decode cL_law 800 = .ok (.iconst 0, 1) := by decide +kernel
theorem dL_law_801 : decode cL_law 801 = .ok (.ireturn, 1) := by decide +kernel
theorem dL_law_802 : decode cL_law 802 = .ok (.aload_n 1, 1) := by decide +kernel
theorem dL_law_803 : decode cL_law 803 = .ok (.aload_n 0, 1) := by decide +kernel
theorem dL_law_804 : decode cL_law 804 = .ok (.iload_n 3, 1) := by decide +kernel
theorem dL_law_805 : decode cL_law 805 = .ok (.iconst 1, 1) := by decide +kernel
theorem dL_law_806 : decode cL_law 806 = .ok (.iadd, 1) := by decide +kernel
theorem dL_law_807 : decode cL_law 807 = .ok (.iaload, 1) := by decide +kernel
theorem dL_law_808 : decode cL_law 808 = .ok (.aload_n 0, 1) := by decide +kernel
theorem dL_law_809 : decode cL_law 809 = .ok (.iload_n 3, 1) := by decide +kernel
theorem dL_law_810 : decode cL_law 810 = .ok (.iconst 2, 1) := by decide +kernel
theorem dL_law_811 : decode cL_law 811 = .ok (.iadd, 1) := by decide +kernel
theorem dL_law_812 : decode cL_law 812 = .ok (.iaload, 1) := by decide +kernel
theorem dL_law_813 : decode cL_law 813 = .ok (.invokevirtual 101, 3) := by decide +kernel
theorem dL_law_816 : decode cL_law 816 = .ok (.aload_n 2, 1) := by decide +kernel
theorem dL_law_817 : decode cL_law 817 = .ok (.aload_n 0, 1) := by decide +kernel
theorem dL_law_818 : decode cL_law 818 = .ok (.iload_n 3, 1) := by decide +kernel
theorem dL_law_819 : decode cL_law 819 = .ok (.iconst 1, 1) := by decide +kernel
theorem dL_law_820 : decode cL_law 820 = .ok (.iadd, 1) := by decide +kernel
theorem dL_law_821 : decode cL_law 821 = .ok (.iaload, 1) := by decide +kernel
theorem dL_law_822 : decode cL_law 822 = .ok (.aload_n 0, 1) := by decide +kernel
theorem dL_law_823 : decode cL_law 823 = .ok (.iload_n 3, 1) := by decide +kernel
theorem dL_law_824 : decode cL_law 824 = .ok (.iconst 2, 1) := by decide +kernel
theorem dL_law_825 : decode cL_law 825 = .ok (.iadd, 1) := by decide +kernel
theorem dL_law_826 : decode cL_law 826 = .ok (.iaload, 1) := by decide +kernel
theorem dL_law_827 : decode cL_law 827 = .ok (.invokevirtual 104, 3) := by decide +kernel
theorem dL_law_830 : decode cL_law 830 = .ok (.if_icmp .eq 755, 3) := by decide +kernel
theorem dL_law_833 : decode cL_law 833 = .ok (.iconst 0, 1) := by decide +kernel
theorem dL_law_834 : decode cL_law 834 = .ok (.ireturn, 1) := by decide +kernel
theorem dL_law_835 : decode cL_law 835 = .ok (.aload_n 1, 1) := by decide +kernel
theorem dL_law_836 : decode cL_law 836 = .ok (.aload_n 0, 1) := by decide +kernel
theorem dL_law_837 : decode cL_law 837 = .ok (.iload_n 3, 1) := by decide +kernel
theorem dL_law_838 : decode cL_law 838 = .ok (.iconst 1, 1) := by decide +kernel
theorem dL_law_839 : decode cL_law 839 = .ok (.iadd, 1) := by decide +kernel
theorem dL_law_840 : decode cL_law 840 = .ok (.iaload, 1) := by decide +kernel
theorem dL_law_841 : decode cL_law 841 = .ok (.aload_n 0, 1) := by decide +kernel
theorem dL_law_842 : decode cL_law 842 = .ok (.iload_n 3, 1) := by decide +kernel
theorem dL_law_843 : decode cL_law 843 = .ok (.iconst 2, 1) := by decide +kernel
theorem dL_law_844 : decode cL_law 844 = .ok (.iadd, 1) := by decide +kernel
theorem dL_law_845 : decode cL_law 845 = .ok (.iaload, 1) := by decide +kernel
theorem dL_law_846 : decode cL_law 846 = .ok (.aload_n 0, 1) := by decide +kernel
theorem dL_law_847 : decode cL_law 847 = .ok (.iload_n 3, 1) := by decide +kernel
theorem dL_law_848 : decode cL_law 848 = .ok (.iconst 3, 1) := by decide +kernel
theorem dL_law_849 : decode cL_law 849 = .ok (.iadd, 1) := by decide +kernel
theorem dL_law_850 : decode cL_law 850 = .ok (.iaload, 1) := by decide +kernel
theorem dL_law_851 : decode cL_law 851 = .ok (.invokevirtual 105, 3) := by decide +kernel
theorem dL_law_854 : decode cL_law 854 = .ok (.aload_n 2, 1) := by decide +kernel
theorem dL_law_855 : decode cL_law 855 = .ok (.aload_n 0, 1) := by decide +kernel
theorem dL_law_856 : decode cL_law 856 = .ok (.iload_n 3, 1) := by decide +kernel
theorem dL_law_857 : decode cL_law 857 = .ok (.iconst 1, 1) := by decide +kernel
theorem dL_law_858 : decode cL_law 858 = .ok (.iadd, 1) := by decide +kernel
theorem dL_law_859 : decode cL_law 859 = .ok (.iaload, 1) := by decide +kernel
theorem dL_law_860 : decode cL_law 860 = .ok (.aload_n 0, 1) := by decide +kernel
theorem dL_law_861 : decode cL_law 861 = .ok (.iload_n 3, 1) := by decide +kernel
theorem dL_law_862 : decode cL_law 862 = .ok (.iconst 2, 1) := by decide +kernel
theorem dL_law_863 : decode cL_law 863 = .ok (.iadd, 1) := by decide +kernel
theorem dL_law_864 : decode cL_law 864 = .ok (.iaload, 1) := by decide +kernel
theorem dL_law_865 : decode cL_law 865 = .ok (.aload_n 0, 1) := by decide +kernel
theorem dL_law_866 : decode cL_law 866 = .ok (.iload_n 3, 1) := by decide +kernel
theorem dL_law_867 : decode cL_law 867 = .ok (.iconst 3, 1) := by decide +kernel
theorem dL_law_868 : decode cL_law 868 = .ok (.iadd, 1) := by decide +kernel
theorem dL_law_869 : decode cL_law 869 = .ok (.iaload, 1) := by decide +kernel
theorem dL_law_870 : decode cL_law 870 = .ok (.invokevirtual 108, 3) := by decide +kernel
theorem dL_law_873 : decode cL_law 873 = .ok (.if_icmp .eq 712, 3) := by decide +kernel
theorem dL_law_876 : decode cL_law 876 = .ok (.iconst 0, 1) := by decide +kernel
theorem dL_law_877 : decode cL_law 877 = .ok (.ireturn, 1) := by decide +kernel
theorem dL_law_878 : decode cL_law 878 = .ok (.aload_n 1, 1) := by decide +kernel
theorem dL_law_879 : decode cL_law 879 = .ok (.aload_n 0, 1) := by decide +kernel
theorem dL_law_880 : decode cL_law 880 = .ok (.iload_n 3, 1) := by decide +kernel
theorem dL_law_881 : decode cL_law 881 = .ok (.iconst 1, 1) := by decide +kernel
theorem dL_law_882 : decode cL_law 882 = .ok (.iadd, 1) := by decide +kernel
theorem dL_law_883 : decode cL_law 883 = .ok (.iaload, 1) := by decide +kernel
theorem dL_law_884 : decode cL_law 884 = .ok (.aload_n 0, 1) := by decide +kernel
theorem dL_law_885 : decode cL_law 885 = .ok (.iload_n 3, 1) := by decide +kernel
theorem dL_law_886 : decode cL_law 886 = .ok (.iconst 2, 1) := by decide +kernel
theorem dL_law_887 : decode cL_law 887 = .ok (.iadd, 1) := by decide +kernel
theorem dL_law_888 : decode cL_law 888 = .ok (.iaload, 1) := by decide +kernel
theorem dL_law_889 : decode cL_law 889 = .ok (.invokevirtual 109, 3) := by decide +kernel
theorem dL_law_892 : decode cL_law 892 = .ok (.aload_n 2, 1) := by decide +kernel
theorem dL_law_893 : decode cL_law 893 = .ok (.aload_n 0, 1) := by decide +kernel
theorem dL_law_894 : decode cL_law 894 = .ok (.iload_n 3, 1) := by decide +kernel
theorem dL_law_895 : decode cL_law 895 = .ok (.iconst 1, 1) := by decide +kernel
theorem dL_law_896 : decode cL_law 896 = .ok (.iadd, 1) := by decide +kernel
theorem dL_law_897 : decode cL_law 897 = .ok (.iaload, 1) := by decide +kernel
theorem dL_law_898 : decode cL_law 898 = .ok (.aload_n 0, 1) := by decide +kernel
theorem dL_law_899 : decode cL_law 899 = .ok (.iload_n 3, 1) := by decide +kernel
theorem dL_law_900 : decode cL_law 900 = .ok (.iconst 2, 1) := by decide +kernel
theorem dL_law_901 : decode cL_law 901 = .ok (.iadd, 1) := by decide +kernel
theorem dL_law_902 : decode cL_law 902 = .ok (.iaload, 1) := by decide +kernel
theorem dL_law_903 : decode cL_law 903 = .ok (.invokevirtual 112, 3) := by decide +kernel
theorem dL_law_906 : decode cL_law 906 = .ok (.if_icmp .eq 679, 3) := by decide +kernel
theorem dL_law_909 : decode cL_law 909 = .ok (.iconst 0, 1) := by decide +kernel
theorem dL_law_910 : decode cL_law 910 = .ok (.ireturn, 1) := by decide +kernel
theorem dL_law_911 : decode cL_law 911 = .ok (.aload_n 1, 1) := by decide +kernel
theorem dL_law_912 : decode cL_law 912 = .ok (.aload_n 0, 1) := by decide +kernel
theorem dL_law_913 : decode cL_law 913 = .ok (.iload_n 3, 1) := by decide +kernel
theorem dL_law_914 : decode cL_law 914 = .ok (.iconst 1, 1) := by decide +kernel
theorem dL_law_915 : decode cL_law 915 = .ok (.iadd, 1) := by decide +kernel
theorem dL_law_916 : decode cL_law 916 = .ok (.iaload, 1) := by decide +kernel
theorem dL_law_917 : decode cL_law 917 = .ok (.aload_n 0, 1) := by decide +kernel
theorem dL_law_918 : decode cL_law 918 = .ok (.iload_n 3, 1) := by decide +kernel
theorem dL_law_919 : decode cL_law 919 = .ok (.iconst 2, 1) := by decide +kernel
theorem dL_law_920 : decode cL_law 920 = .ok (.iadd, 1) := by decide +kernel
theorem dL_law_921 : decode cL_law 921 = .ok (.iaload, 1) := by decide +kernel
theorem dL_law_922 : decode cL_law 922 = .ok (.aload_n 0, 1) := by decide +kernel
theorem dL_law_923 : decode cL_law 923 = .ok (.iload_n 3, 1) := by decide +kernel
theorem dL_law_924 : decode cL_law 924 = .ok (.iconst 3, 1) := by decide +kernel
theorem dL_law_925 : decode cL_law 925 = .ok (.iadd, 1) := by decide +kernel
theorem dL_law_926 : decode cL_law 926 = .ok (.iaload, 1) := by decide +kernel
theorem dL_law_927 : decode cL_law 927 = .ok (.invokevirtual 113, 3) := by decide +kernel
theorem dL_law_930 : decode cL_law 930 = .ok (.aload_n 2, 1) := by decide +kernel
theorem dL_law_931 : decode cL_law 931 = .ok (.aload_n 0, 1) := by decide +kernel
theorem dL_law_932 : decode cL_law 932 = .ok (.iload_n 3, 1) := by decide +kernel
theorem dL_law_933 : decode cL_law 933 = .ok (.iconst 1, 1) := by decide +kernel
theorem dL_law_934 : decode cL_law 934 = .ok (.iadd, 1) := by decide +kernel
theorem dL_law_935 : decode cL_law 935 = .ok (.iaload, 1) := by decide +kernel
theorem dL_law_936 : decode cL_law 936 = .ok (.aload_n 0, 1) := by decide +kernel
theorem dL_law_937 : decode cL_law 937 = .ok (.iload_n 3, 1) := by decide +kernel
theorem dL_law_938 : decode cL_law 938 = .ok (.iconst 2, 1) := by decide +kernel
theorem dL_law_939 : decode cL_law 939 = .ok (.iadd, 1) := by decide +kernel
theorem dL_law_940 : decode cL_law 940 = .ok (.iaload, 1) := by decide +kernel
theorem dL_law_941 : decode cL_law 941 = .ok (.aload_n 0, 1) := by decide +kernel
theorem dL_law_942 : decode cL_law 942 = .ok (.iload_n 3, 1) := by decide +kernel
theorem dL_law_943 : decode cL_law 943 = .ok (.iconst 3, 1) := by decide +kernel
theorem dL_law_944 : decode cL_law 944 = .ok (.iadd, 1) := by decide +kernel
theorem dL_law_945 : decode cL_law 945 = .ok (.iaload, 1) := by decide +kernel
theorem dL_law_946 : decode cL_law 946 = .ok (.invokevirtual 116, 3) := by decide +kernel
theorem dL_law_949 : decode cL_law 949 = .ok (.if_icmp .eq 636, 3) := by decide +kernel
theorem dL_law_952 : decode cL_law 952 = .ok (.iconst 0, 1) := by decide +kernel
theorem dL_law_953 : decode cL_law 953 = .ok (.ireturn, 1) := by decide +kernel
theorem dL_law_954 : decode cL_law 954 = .ok (.aload_n 1, 1) := by decide +kernel
theorem dL_law_955 : decode cL_law 955 = .ok (.aload_n 0, 1) := by decide +kernel
theorem dL_law_956 : decode cL_law 956 = .ok (.iload_n 3, 1) := by decide +kernel
theorem dL_law_957 : decode cL_law 957 = .ok (.iconst 1, 1) := by decide +kernel
theorem dL_law_958 : decode cL_law 958 = .ok (.iadd, 1) := by decide +kernel
theorem dL_law_959 : decode cL_law 959 = .ok (.iaload, 1) := by decide +kernel
theorem dL_law_960 : decode cL_law 960 = .ok (.ifCond .eq 7, 3) := by decide +kernel
theorem dL_law_963 : decode cL_law 963 = .ok (.iconst 1, 1) := by decide +kernel
theorem dL_law_964 : decode cL_law 964 = .ok (.goto 4, 3) := by decide +kernel
theorem dL_law_967 : decode cL_law 967 = .ok (.iconst 0, 1) := by decide +kernel
theorem dL_law_968 : decode cL_law 968 = .ok (.invokevirtual 117, 3) := by decide +kernel
theorem dL_law_971 : decode cL_law 971 = .ok (.aload_n 2, 1) := by decide +kernel
theorem dL_law_972 : decode cL_law 972 = .ok (.aload_n 0, 1) := by decide +kernel
theorem dL_law_973 : decode cL_law 973 = .ok (.iload_n 3, 1) := by decide +kernel
theorem dL_law_974 : decode cL_law 974 = .ok (.iconst 1, 1) := by decide +kernel
theorem dL_law_975 : decode cL_law 975 = .ok (.iadd, 1) := by decide +kernel
theorem dL_law_976 : decode cL_law 976 = .ok (.iaload, 1) := by decide +kernel
theorem dL_law_977 : decode cL_law 977 = .ok (.ifCond .eq 7, 3) := by decide +kernel
theorem dL_law_980 : decode cL_law 980 = .ok (.iconst 1, 1) := by decide +kernel
theorem dL_law_981 : decode cL_law 981 = .ok (.goto 4, 3) := by decide +kernel
theorem dL_law_984 : decode cL_law 984 = .ok (.iconst 0, 1) := by decide +kernel
theorem dL_law_985 : decode cL_law 985 = .ok (.invokevirtual 121, 3) := by decide +kernel
theorem dL_law_988 : decode cL_law 988 = .ok (.if_icmp .eq 597, 3) := by decide +kernel
theorem dL_law_991 : decode cL_law 991 = .ok (.iconst 0, 1) := by decide +kernel
theorem dL_law_992 : decode cL_law 992 = .ok (.ireturn, 1) := by decide +kernel
theorem dL_law_993 : decode cL_law 993 = .ok (.aload_n 1, 1) := by decide +kernel
theorem dL_law_994 : decode cL_law 994 = .ok (.aload_n 0, 1) := by decide +kernel
theorem dL_law_995 : decode cL_law 995 = .ok (.iload_n 3, 1) := by decide +kernel
theorem dL_law_996 : decode cL_law 996 = .ok (.iconst 1, 1) := by decide +kernel
theorem dL_law_997 : decode cL_law 997 = .ok (.iadd, 1) := by decide +kernel
theorem dL_law_998 : decode cL_law 998 = .ok (.iaload, 1) := by decide +kernel
theorem dL_law_999 : decode cL_law 999 = .ok (.invokevirtual 122, 3) := by decide +kernel
theorem dL_law_1002 : decode cL_law 1002 = .ok (.aload_n 2, 1) := by decide +kernel
theorem dL_law_1003 : decode cL_law 1003 = .ok (.aload_n 0, 1) := by decide +kernel
theorem dL_law_1004 : decode cL_law 1004 = .ok (.iload_n 3, 1) := by decide +kernel
theorem dL_law_1005 : decode cL_law 1005 = .ok (.iconst 1, 1) := by decide +kernel
theorem dL_law_1006 : decode cL_law 1006 = .ok (.iadd, 1) := by decide +kernel
theorem dL_law_1007 : decode cL_law 1007 = .ok (.iaload, 1) := by decide +kernel
theorem dL_law_1008 : decode cL_law 1008 = .ok (.invokevirtual 125, 3) := by decide +kernel
theorem dL_law_1011 : decode cL_law 1011 = .ok (.if_icmp .eq 574, 3) := by decide +kernel
theorem dL_law_1014 : decode cL_law 1014 = .ok (.iconst 0, 1) := by decide +kernel
theorem dL_law_1015 : decode cL_law 1015 = .ok (.ireturn, 1) := by decide +kernel
theorem dL_law_1016 : decode cL_law 1016 = .ok (.aload_n 1, 1) := by decide +kernel
theorem dL_law_1017 : decode cL_law 1017 = .ok (.aload_n 0, 1) := by decide +kernel
theorem dL_law_1018 : decode cL_law 1018 = .ok (.iload_n 3, 1) := by decide +kernel
theorem dL_law_1019 : decode cL_law 1019 = .ok (.iconst 1, 1) := by decide +kernel
theorem dL_law_1020 : decode cL_law 1020 = .ok (.iadd, 1) := by decide +kernel
theorem dL_law_1021 : decode cL_law 1021 = .ok (.iaload, 1) := by decide +kernel
theorem dL_law_1022 : decode cL_law 1022 = .ok (.aload_n 0, 1) := by decide +kernel
theorem dL_law_1023 : decode cL_law 1023 = .ok (.iload_n 3, 1) := by decide +kernel
theorem dL_law_1024 : decode cL_law 1024 = .ok (.iconst 2, 1) := by decide +kernel
theorem dL_law_1025 : decode cL_law 1025 = .ok (.iadd, 1) := by decide +kernel
theorem dL_law_1026 : decode cL_law 1026 = .ok (.iaload, 1) := by decide +kernel
theorem dL_law_1027 : decode cL_law 1027 = .ok (.ifCond .eq 7, 3) := by decide +kernel
theorem dL_law_1030 : decode cL_law 1030 = .ok (.iconst 1, 1) := by decide +kernel
theorem dL_law_1031 : decode cL_law 1031 = .ok (.goto 4, 3) := by decide +kernel
theorem dL_law_1034 : decode cL_law 1034 = .ok (.iconst 0, 1) := by decide +kernel
theorem dL_law_1035 : decode cL_law 1035 = .ok (.invokevirtual 126, 3) := by decide +kernel
theorem dL_law_1038 : decode cL_law 1038 = .ok (.aload_n 2, 1) := by decide +kernel
theorem dL_law_1039 : decode cL_law 1039 = .ok (.aload_n 0, 1) := by decide +kernel
theorem dL_law_1040 : decode cL_law 1040 = .ok (.iload_n 3, 1) := by decide +kernel
theorem dL_law_1041 : decode cL_law 1041 = .ok (.iconst 1, 1) := by decide +kernel
theorem dL_law_1042 : decode cL_law 1042 = .ok (.iadd, 1) := by decide +kernel
theorem dL_law_1043 : decode cL_law 1043 = .ok (.iaload, 1) := by decide +kernel
theorem dL_law_1044 : decode cL_law 1044 = .ok (.aload_n 0, 1) := by decide +kernel
theorem dL_law_1045 : decode cL_law 1045 = .ok (.iload_n 3, 1) := by decide +kernel
theorem dL_law_1046 : decode cL_law 1046 = .ok (.iconst 2, 1) := by decide +kernel
theorem dL_law_1047 : decode cL_law 1047 = .ok (.iadd, 1) := by decide +kernel
theorem dL_law_1048 : decode cL_law 1048 = .ok (.iaload, 1) := by decide +kernel
theorem dL_law_1049 : decode cL_law 1049 = .ok (.ifCond .eq 7, 3) := by decide +kernel
theorem dL_law_1052 : decode cL_law 1052 = .ok (.iconst 1, 1) := by decide +kernel
theorem dL_law_1053 : decode cL_law 1053 = .ok (.goto 4, 3) := by decide +kernel
theorem dL_law_1056 : decode cL_law 1056 = .ok (.iconst 0, 1) := by decide +kernel
theorem dL_law_1057 : decode cL_law 1057 = .ok (.invokevirtual 130, 3) := by decide +kernel
theorem dL_law_1060 : decode cL_law 1060 = .ok (.if_icmp .eq 525, 3) := by decide +kernel
theorem dL_law_1063 : decode cL_law 1063 = .ok (.iconst 0, 1) := by decide +kernel
theorem dL_law_1064 : decode cL_law 1064 = .ok (.ireturn, 1) := by decide +kernel
theorem dL_law_1065 : decode cL_law 1065 = .ok (.aload_n 1, 1) := by decide +kernel
theorem dL_law_1066 : decode cL_law 1066 = .ok (.aload_n 0, 1) := by decide +kernel
theorem dL_law_1067 : decode cL_law 1067 = .ok (.iload_n 3, 1) := by decide +kernel
theorem dL_law_1068 : decode cL_law 1068 = .ok (.iconst 1, 1) := by decide +kernel
theorem dL_law_1069 : decode cL_law 1069 = .ok (.iadd, 1) := by decide +kernel
theorem dL_law_1070 : decode cL_law 1070 = .ok (.iaload, 1) := by decide +kernel
theorem dL_law_1071 : decode cL_law 1071 = .ok (.aload_n 0, 1) := by decide +kernel
theorem dL_law_1072 : decode cL_law 1072 = .ok (.iload_n 3, 1) := by decide +kernel
theorem dL_law_1073 : decode cL_law 1073 = .ok (.iconst 2, 1) := by decide +kernel
theorem dL_law_1074 : decode cL_law 1074 = .ok (.iadd, 1) := by decide +kernel
theorem dL_law_1075 : decode cL_law 1075 = .ok (.iaload, 1) := by decide +kernel
theorem dL_law_1076 : decode cL_law 1076 = .ok (.invokevirtual 131, 3) := by decide +kernel
theorem dL_law_1079 : decode cL_law 1079 = .ok (.aload_n 2, 1) := by decide +kernel
theorem dL_law_1080 : decode cL_law 1080 = .ok (.aload_n 0, 1) := by decide +kernel
theorem dL_law_1081 : decode cL_law 1081 = .ok (.iload_n 3, 1) := by decide +kernel
theorem dL_law_1082 : decode cL_law 1082 = .ok (.iconst 1, 1) := by decide +kernel
theorem dL_law_1083 : decode cL_law 1083 = .ok (.iadd, 1) := by decide +kernel
theorem dL_law_1084 : decode cL_law 1084 = .ok (.iaload, 1) := by decide +kernel
theorem dL_law_1085 : decode cL_law 1085 = .ok (.aload_n 0, 1) := by decide +kernel
theorem dL_law_1086 : decode cL_law 1086 = .ok (.iload_n 3, 1) := by decide +kernel
theorem dL_law_1087 : decode cL_law 1087 = .ok (.iconst 2, 1) := by decide +kernel
theorem dL_law_1088 : decode cL_law 1088 = .ok (.iadd, 1) := by decide +kernel
theorem dL_law_1089 : decode cL_law 1089 = .ok (.iaload, 1) := by decide +kernel
theorem dL_law_1090 : decode cL_law 1090 = .ok (.invokevirtual 134, 3) := by decide +kernel
theorem dL_law_1093 : decode cL_law 1093 = .ok (.if_icmp .eq 492, 3) := by decide +kernel
theorem dL_law_1096 : decode cL_law 1096 = .ok (.iconst 0, 1) := by decide +kernel
theorem dL_law_1097 : decode cL_law 1097 = .ok (.ireturn, 1) := by decide +kernel
theorem dL_law_1098 : decode cL_law 1098 = .ok (.aload_n 1, 1) := by decide +kernel
theorem dL_law_1099 : decode cL_law 1099 = .ok (.aload_n 0, 1) := by decide +kernel
theorem dL_law_1100 : decode cL_law 1100 = .ok (.iload_n 3, 1) := by decide +kernel
theorem dL_law_1101 : decode cL_law 1101 = .ok (.iconst 1, 1) := by decide +kernel
theorem dL_law_1102 : decode cL_law 1102 = .ok (.iadd, 1) := by decide +kernel
theorem dL_law_1103 : decode cL_law 1103 = .ok (.iaload, 1) := by decide +kernel
theorem dL_law_1104 : decode cL_law 1104 = .ok (.aload_n 0, 1) := by decide +kernel
theorem dL_law_1105 : decode cL_law 1105 = .ok (.iload_n 3, 1) := by decide +kernel
theorem dL_law_1106 : decode cL_law 1106 = .ok (.iconst 2, 1) := by decide +kernel
theorem dL_law_1107 : decode cL_law 1107 = .ok (.iadd, 1) := by decide +kernel
theorem dL_law_1108 : decode cL_law 1108 = .ok (.iaload, 1) := by decide +kernel
theorem dL_law_1109 : decode cL_law 1109 = .ok (.invokevirtual 135, 3) := by decide +kernel
theorem dL_law_1112 : decode cL_law 1112 = .ok (.aload_n 2, 1) := by decide +kernel
theorem dL_law_1113 : decode cL_law 1113 = .ok (.aload_n 0, 1) := by decide +kernel
theorem dL_law_1114 : decode cL_law 1114 = .ok (.iload_n 3, 1) := by decide +kernel
theorem dL_law_1115 : decode cL_law 1115 = .ok (.iconst 1, 1) := by decide +kernel
theorem dL_law_1116 : decode cL_law 1116 = .ok (.iadd, 1) := by decide +kernel
theorem dL_law_1117 : decode cL_law 1117 = .ok (.iaload, 1) := by decide +kernel
theorem dL_law_1118 : decode cL_law 1118 = .ok (.aload_n 0, 1) := by decide +kernel
theorem dL_law_1119 : decode cL_law 1119 = .ok (.iload_n 3, 1) := by decide +kernel
theorem dL_law_1120 : decode cL_law 1120 = .ok (.iconst 2, 1) := by decide +kernel
theorem dL_law_1121 : decode cL_law 1121 = .ok (.iadd, 1) := by decide +kernel
theorem dL_law_1122 : decode cL_law 1122 = .ok (.iaload, 1) := by decide +kernel
theorem dL_law_1123 : decode cL_law 1123 = .ok (.invokevirtual 138, 3) := by decide +kernel
theorem dL_law_1126 : decode cL_law 1126 = .ok (.if_icmp .eq 459, 3) := by decide +kernel
theorem dL_law_1129 : decode cL_law 1129 = .ok (.iconst 0, 1) := by decide +kernel
theorem dL_law_1130 : decode cL_law 1130 = .ok (.ireturn, 1) := by decide +kernel
theorem dL_law_1131 : decode cL_law 1131 = .ok (.aload_n 1, 1) := by decide +kernel
theorem dL_law_1132 : decode cL_law 1132 = .ok (.aload_n 0, 1) := by decide +kernel
theorem dL_law_1133 : decode cL_law 1133 = .ok (.iload_n 3, 1) := by decide +kernel
theorem dL_law_1134 : decode cL_law 1134 = .ok (.iconst 1, 1) := by decide +kernel
theorem dL_law_1135 : decode cL_law 1135 = .ok (.iadd, 1) := by decide +kernel
theorem dL_law_1136 : decode cL_law 1136 = .ok (.iaload, 1) := by decide +kernel
theorem dL_law_1137 : decode cL_law 1137 = .ok (.aload_n 0, 1) := by decide +kernel
theorem dL_law_1138 : decode cL_law 1138 = .ok (.iload_n 3, 1) := by decide +kernel
theorem dL_law_1139 : decode cL_law 1139 = .ok (.iconst 2, 1) := by decide +kernel
theorem dL_law_1140 : decode cL_law 1140 = .ok (.iadd, 1) := by decide +kernel
theorem dL_law_1141 : decode cL_law 1141 = .ok (.iaload, 1) := by decide +kernel
theorem dL_law_1142 : decode cL_law 1142 = .ok (.invokevirtual 139, 3) := by decide +kernel
theorem dL_law_1145 : decode cL_law 1145 = .ok (.aload_n 2, 1) := by decide +kernel
theorem dL_law_1146 : decode cL_law 1146 = .ok (.aload_n 0, 1) := by decide +kernel
theorem dL_law_1147 : decode cL_law 1147 = .ok (.iload_n 3, 1) := by decide +kernel
theorem dL_law_1148 : decode cL_law 1148 = .ok (.iconst 1, 1) := by decide +kernel
theorem dL_law_1149 : decode cL_law 1149 = .ok (.iadd, 1) := by decide +kernel
theorem dL_law_1150 : decode cL_law 1150 = .ok (.iaload, 1) := by decide +kernel
theorem dL_law_1151 : decode cL_law 1151 = .ok (.aload_n 0, 1) := by decide +kernel
theorem dL_law_1152 : decode cL_law 1152 = .ok (.iload_n 3, 1) := by decide +kernel
theorem dL_law_1153 : decode cL_law 1153 = .ok (.iconst 2, 1) := by decide +kernel
theorem dL_law_1154 : decode cL_law 1154 = .ok (.iadd, 1) := by decide +kernel
theorem dL_law_1155 : decode cL_law 1155 = .ok (.iaload, 1) := by decide +kernel
theorem dL_law_1156 : decode cL_law 1156 = .ok (.invokevirtual 142, 3) := by decide +kernel
theorem dL_law_1159 : decode cL_law 1159 = .ok (.if_icmp .eq 426, 3) := by decide +kernel
theorem dL_law_1162 : decode cL_law 1162 = .ok (.iconst 0, 1) := by decide +kernel
theorem dL_law_1163 : decode cL_law 1163 = .ok (.ireturn, 1) := by decide +kernel
theorem dL_law_1164 : decode cL_law 1164 = .ok (.aload_n 1, 1) := by decide +kernel
theorem dL_law_1165 : decode cL_law 1165 = .ok (.aload_n 0, 1) := by decide +kernel
theorem dL_law_1166 : decode cL_law 1166 = .ok (.iload_n 3, 1) := by decide +kernel
theorem dL_law_1167 : decode cL_law 1167 = .ok (.iconst 1, 1) := by decide +kernel
theorem dL_law_1168 : decode cL_law 1168 = .ok (.iadd, 1) := by decide +kernel
theorem dL_law_1169 : decode cL_law 1169 = .ok (.iaload, 1) := by decide +kernel
theorem dL_law_1170 : decode cL_law 1170 = .ok (.aload_n 0, 1) := by decide +kernel
theorem dL_law_1171 : decode cL_law 1171 = .ok (.iload_n 3, 1) := by decide +kernel
theorem dL_law_1172 : decode cL_law 1172 = .ok (.iconst 2, 1) := by decide +kernel
theorem dL_law_1173 : decode cL_law 1173 = .ok (.iadd, 1) := by decide +kernel
theorem dL_law_1174 : decode cL_law 1174 = .ok (.iaload, 1) := by decide +kernel
theorem dL_law_1175 : decode cL_law 1175 = .ok (.invokevirtual 143, 3) := by decide +kernel
theorem dL_law_1178 : decode cL_law 1178 = .ok (.aload_n 2, 1) := by decide +kernel
theorem dL_law_1179 : decode cL_law 1179 = .ok (.aload_n 0, 1) := by decide +kernel
theorem dL_law_1180 : decode cL_law 1180 = .ok (.iload_n 3, 1) := by decide +kernel
theorem dL_law_1181 : decode cL_law 1181 = .ok (.iconst 1, 1) := by decide +kernel
theorem dL_law_1182 : decode cL_law 1182 = .ok (.iadd, 1) := by decide +kernel
theorem dL_law_1183 : decode cL_law 1183 = .ok (.iaload, 1) := by decide +kernel
theorem dL_law_1184 : decode cL_law 1184 = .ok (.aload_n 0, 1) := by decide +kernel
theorem dL_law_1185 : decode cL_law 1185 = .ok (.iload_n 3, 1) := by decide +kernel
theorem dL_law_1186 : decode cL_law 1186 = .ok (.iconst 2, 1) := by decide +kernel
theorem dL_law_1187 : decode cL_law 1187 = .ok (.iadd, 1) := by decide +kernel
theorem dL_law_1188 : decode cL_law 1188 = .ok (.iaload, 1) := by decide +kernel
theorem dL_law_1189 : decode cL_law 1189 = .ok (.invokevirtual 146, 3) := by decide +kernel
theorem dL_law_1192 : decode cL_law 1192 = .ok (.if_icmp .eq 393, 3) := by decide +kernel
theorem dL_law_1195 : decode cL_law 1195 = .ok (.iconst 0, 1) := by decide +kernel
theorem dL_law_1196 : decode cL_law 1196 = .ok (.ireturn, 1) := by decide +kernel
theorem dL_law_1197 : decode cL_law 1197 = .ok (.aload_n 1, 1) := by decide +kernel
theorem dL_law_1198 : decode cL_law 1198 = .ok (.invokevirtual 147, 3) := by decide +kernel
theorem dL_law_1201 : decode cL_law 1201 = .ok (.aload_n 2, 1) := by decide +kernel
theorem dL_law_1202 : decode cL_law 1202 = .ok (.invokevirtual 150, 3) := by decide +kernel
theorem dL_law_1205 : decode cL_law 1205 = .ok (.if_icmp .eq 380, 3) := by decide +kernel
theorem dL_law_1208 : decode cL_law 1208 = .ok (.iconst 0, 1) := by decide +kernel
theorem dL_law_1209 : decode cL_law 1209 = .ok (.ireturn, 1) := by decide +kernel
theorem dL_law_1210 : decode cL_law 1210 = .ok (.aload_n 1, 1) := by decide +kernel
theorem dL_law_1211 : decode cL_law 1211 = .ok (.aload_n 0, 1) := by decide +kernel
theorem dL_law_1212 : decode cL_law 1212 = .ok (.iload_n 3, 1) := by decide +kernel
theorem dL_law_1213 : decode cL_law 1213 = .ok (.iconst 1, 1) := by decide +kernel
theorem dL_law_1214 : decode cL_law 1214 = .ok (.iadd, 1) := by decide +kernel
theorem dL_law_1215 : decode cL_law 1215 = .ok (.iaload, 1) := by decide +kernel
theorem dL_law_1216 : decode cL_law 1216 = .ok (.aload_n 0, 1) := by decide +kernel
theorem dL_law_1217 : decode cL_law 1217 = .ok (.iload_n 3, 1) := by decide +kernel
theorem dL_law_1218 : decode cL_law 1218 = .ok (.iconst 2, 1) := by decide +kernel
theorem dL_law_1219 : decode cL_law 1219 = .ok (.iadd, 1) := by decide +kernel
theorem dL_law_1220 : decode cL_law 1220 = .ok (.iaload, 1) := by decide +kernel
theorem dL_law_1221 : decode cL_law 1221 = .ok (.invokevirtual 151, 3) := by decide +kernel
theorem dL_law_1224 : decode cL_law 1224 = .ok (.aload_n 2, 1) := by decide +kernel
theorem dL_law_1225 : decode cL_law 1225 = .ok (.aload_n 0, 1) := by decide +kernel
theorem dL_law_1226 : decode cL_law 1226 = .ok (.iload_n 3, 1) := by decide +kernel
theorem dL_law_1227 : decode cL_law 1227 = .ok (.iconst 1, 1) := by decide +kernel
theorem dL_law_1228 : decode cL_law 1228 = .ok (.iadd, 1) := by decide +kernel
theorem dL_law_1229 : decode cL_law 1229 = .ok (.iaload, 1) := by decide +kernel
theorem dL_law_1230 : decode cL_law 1230 = .ok (.aload_n 0, 1) := by decide +kernel
theorem dL_law_1231 : decode cL_law 1231 = .ok (.iload_n 3, 1) := by decide +kernel
theorem dL_law_1232 : decode cL_law 1232 = .ok (.iconst 2, 1) := by decide +kernel
theorem dL_law_1233 : decode cL_law 1233 = .ok (.iadd, 1) := by decide +kernel
theorem dL_law_1234 : decode cL_law 1234 = .ok (.iaload, 1) := by decide +kernel
theorem dL_law_1235 : decode cL_law 1235 = .ok (.invokevirtual 154, 3) := by decide +kernel
theorem dL_law_1238 : decode cL_law 1238 = .ok (.if_icmp .eq 347, 3) := by decide +kernel
theorem dL_law_1241 : decode cL_law 1241 = .ok (.iconst 0, 1) := by decide +kernel
theorem dL_law_1242 : decode cL_law 1242 = .ok (.ireturn, 1) := by decide +kernel
theorem dL_law_1243 : decode cL_law 1243 = .ok (.aload_n 1, 1) := by decide +kernel
theorem dL_law_1244 : decode cL_law 1244 = .ok (.aload_n 0, 1) := by decide +kernel
theorem dL_law_1245 : decode cL_law 1245 = .ok (.iload_n 3, 1) := by decide +kernel
theorem dL_law_1246 : decode cL_law 1246 = .ok (.iconst 1, 1) := by decide +kernel
theorem dL_law_1247 : decode cL_law 1247 = .ok (.iadd, 1) := by decide +kernel
theorem dL_law_1248 : decode cL_law 1248 = .ok (.iaload, 1) := by decide +kernel
theorem dL_law_1249 : decode cL_law 1249 = .ok (.aload_n 0, 1) := by decide +kernel
theorem dL_law_1250 : decode cL_law 1250 = .ok (.iload_n 3, 1) := by decide +kernel
theorem dL_law_1251 : decode cL_law 1251 = .ok (.iconst 2, 1) := by decide +kernel
theorem dL_law_1252 : decode cL_law 1252 = .ok (.iadd, 1) := by decide +kernel
theorem dL_law_1253 : decode cL_law 1253 = .ok (.iaload, 1) := by decide +kernel
theorem dL_law_1254 : decode cL_law 1254 = .ok (.ifCond .eq 7, 3) := by decide +kernel
theorem dL_law_1257 : decode cL_law 1257 = .ok (.iconst 1, 1) := by decide +kernel
theorem dL_law_1258 : decode cL_law 1258 = .ok (.goto 4, 3) := by decide +kernel
theorem dL_law_1261 : decode cL_law 1261 = .ok (.iconst 0, 1) := by decide +kernel
theorem dL_law_1262 : decode cL_law 1262 = .ok (.invokevirtual 155, 3) := by decide +kernel
theorem dL_law_1265 : decode cL_law 1265 = .ok (.aload_n 2, 1) := by decide +kernel
theorem dL_law_1266 : decode cL_law 1266 = .ok (.aload_n 0, 1) := by decide +kernel
theorem dL_law_1267 : decode cL_law 1267 = .ok (.iload_n 3, 1) := by decide +kernel
theorem dL_law_1268 : decode cL_law 1268 = .ok (.iconst 1, 1) := by decide +kernel
theorem dL_law_1269 : decode cL_law 1269 = .ok (.iadd, 1) := by decide +kernel
theorem dL_law_1270 : decode cL_law 1270 = .ok (.iaload, 1) := by decide +kernel
theorem dL_law_1271 : decode cL_law 1271 = .ok (.aload_n 0, 1) := by decide +kernel
theorem dL_law_1272 : decode cL_law 1272 = .ok (.iload_n 3, 1) := by decide +kernel
theorem dL_law_1273 : decode cL_law 1273 = .ok (.iconst 2, 1) := by decide +kernel
theorem dL_law_1274 : decode cL_law 1274 = .ok (.iadd, 1) := by decide +kernel
theorem dL_law_1275 : decode cL_law 1275 = .ok (.iaload, 1) := by decide +kernel
theorem dL_law_1276 : decode cL_law 1276 = .ok (.ifCond .eq 7, 3) := by decide +kernel
theorem dL_law_1279 : decode cL_law 1279 = .ok (.iconst 1, 1) := by decide +kernel
theorem dL_law_1280 : decode cL_law 1280 = .ok (.goto 4, 3) := by decide +kernel
theorem dL_law_1283 : decode cL_law 1283 = .ok (.iconst 0, 1) := by decide +kernel
theorem dL_law_1284 : decode cL_law 1284 = .ok (.invokevirtual 159, 3) := by decide +kernel
theorem dL_law_1287 : decode cL_law 1287 = .ok (.lcmp, 1) := by decide +kernel
theorem dL_law_1288 : decode cL_law 1288 = .ok (.ifCond .eq 297, 3) := by decide +kernel
theorem dL_law_1291 : decode cL_law 1291 = .ok (.iconst 0, 1) := by decide +kernel
theorem dL_law_1292 : decode cL_law 1292 = .ok (.ireturn, 1) := by decide +kernel
theorem dL_law_1293 : decode cL_law 1293 = .ok (.aload_n 1, 1) := by decide +kernel
theorem dL_law_1294 : decode cL_law 1294 = .ok (.aload_n 0, 1) := by decide +kernel
theorem dL_law_1295 : decode cL_law 1295 = .ok (.iload_n 3, 1) := by decide +kernel
theorem dL_law_1296 : decode cL_law 1296 = .ok (.iconst 1, 1) := by decide +kernel
theorem dL_law_1297 : decode cL_law 1297 = .ok (.iadd, 1) := by decide +kernel
theorem dL_law_1298 : decode cL_law 1298 = .ok (.iaload, 1) := by decide +kernel
theorem dL_law_1299 : decode cL_law 1299 = .ok (.aload_n 0, 1) := by decide +kernel
theorem dL_law_1300 : decode cL_law 1300 = .ok (.iload_n 3, 1) := by decide +kernel
theorem dL_law_1301 : decode cL_law 1301 = .ok (.iconst 2, 1) := by decide +kernel
theorem dL_law_1302 : decode cL_law 1302 = .ok (.iadd, 1) := by decide +kernel
theorem dL_law_1303 : decode cL_law 1303 = .ok (.iaload, 1) := by decide +kernel
theorem dL_law_1304 : decode cL_law 1304 = .ok (.invokevirtual 160, 3) := by decide +kernel
theorem dL_law_1307 : decode cL_law 1307 = .ok (.aload_n 2, 1) := by decide +kernel
theorem dL_law_1308 : decode cL_law 1308 = .ok (.aload_n 0, 1) := by decide +kernel
theorem dL_law_1309 : decode cL_law 1309 = .ok (.iload_n 3, 1) := by decide +kernel
theorem dL_law_1310 : decode cL_law 1310 = .ok (.iconst 1, 1) := by decide +kernel
theorem dL_law_1311 : decode cL_law 1311 = .ok (.iadd, 1) := by decide +kernel
theorem dL_law_1312 : decode cL_law 1312 = .ok (.iaload, 1) := by decide +kernel
theorem dL_law_1313 : decode cL_law 1313 = .ok (.aload_n 0, 1) := by decide +kernel
theorem dL_law_1314 : decode cL_law 1314 = .ok (.iload_n 3, 1) := by decide +kernel
theorem dL_law_1315 : decode cL_law 1315 = .ok (.iconst 2, 1) := by decide +kernel
theorem dL_law_1316 : decode cL_law 1316 = .ok (.iadd, 1) := by decide +kernel
theorem dL_law_1317 : decode cL_law 1317 = .ok (.iaload, 1) := by decide +kernel
theorem dL_law_1318 : decode cL_law 1318 = .ok (.invokevirtual 163, 3) := by decide +kernel
theorem dL_law_1321 : decode cL_law 1321 = .ok (.if_icmp .eq 264, 3) := by decide +kernel
theorem dL_law_1324 : decode cL_law 1324 = .ok (.iconst 0, 1) := by decide +kernel
theorem dL_law_1325 : decode cL_law 1325 = .ok (.ireturn, 1) := by decide +kernel
theorem dL_law_1326 : decode cL_law 1326 = .ok (.aload_n 1, 1) := by decide +kernel
theorem dL_law_1327 : decode cL_law 1327 = .ok (.aload_n 0, 1) := by decide +kernel
theorem dL_law_1328 : decode cL_law 1328 = .ok (.iload_n 3, 1) := by decide +kernel
theorem dL_law_1329 : decode cL_law 1329 = .ok (.iconst 1, 1) := by decide +kernel
theorem dL_law_1330 : decode cL_law 1330 = .ok (.iadd, 1) := by decide +kernel
theorem dL_law_1331 : decode cL_law 1331 = .ok (.iaload, 1) := by decide +kernel
theorem dL_law_1332 : decode cL_law 1332 = .ok (.aload_n 0, 1) := by decide +kernel
theorem dL_law_1333 : decode cL_law 1333 = .ok (.iload_n 3, 1) := by decide +kernel
theorem dL_law_1334 : decode cL_law 1334 = .ok (.iconst 2, 1) := by decide +kernel
theorem dL_law_1335 : decode cL_law 1335 = .ok (.iadd, 1) := by decide +kernel
theorem dL_law_1336 : decode cL_law 1336 = .ok (.iaload, 1) := by decide +kernel
theorem dL_law_1337 : decode cL_law 1337 = .ok (.invokevirtual 164, 3) := by decide +kernel
theorem dL_law_1340 : decode cL_law 1340 = .ok (.aload_n 2, 1) := by decide +kernel
theorem dL_law_1341 : decode cL_law 1341 = .ok (.aload_n 0, 1) := by decide +kernel
theorem dL_law_1342 : decode cL_law 1342 = .ok (.iload_n 3, 1) := by decide +kernel
theorem dL_law_1343 : decode cL_law 1343 = .ok (.iconst 1, 1) := by decide +kernel
theorem dL_law_1344 : decode cL_law 1344 = .ok (.iadd, 1) := by decide +kernel
theorem dL_law_1345 : decode cL_law 1345 = .ok (.iaload, 1) := by decide +kernel
theorem dL_law_1346 : decode cL_law 1346 = .ok (.aload_n 0, 1) := by decide +kernel
theorem dL_law_1347 : decode cL_law 1347 = .ok (.iload_n 3, 1) := by decide +kernel
theorem dL_law_1348 : decode cL_law 1348 = .ok (.iconst 2, 1) := by decide +kernel
theorem dL_law_1349 : decode cL_law 1349 = .ok (.iadd, 1) := by decide +kernel
theorem dL_law_1350 : decode cL_law 1350 = .ok (.iaload, 1) := by decide +kernel
theorem dL_law_1351 : decode cL_law 1351 = .ok (.invokevirtual 167, 3) := by decide +kernel
theorem dL_law_1354 : decode cL_law 1354 = .ok (.if_icmp .eq 231, 3) := by decide +kernel
theorem dL_law_1357 : decode cL_law 1357 = .ok (.iconst 0, 1) := by decide +kernel
theorem dL_law_1358 : decode cL_law 1358 = .ok (.ireturn, 1) := by decide +kernel
theorem dL_law_1359 : decode cL_law 1359 = .ok (.aload_n 1, 1) := by decide +kernel
theorem dL_law_1360 : decode cL_law 1360 = .ok (.aload_n 0, 1) := by decide +kernel
theorem dL_law_1361 : decode cL_law 1361 = .ok (.iload_n 3, 1) := by decide +kernel
theorem dL_law_1362 : decode cL_law 1362 = .ok (.iconst 1, 1) := by decide +kernel
theorem dL_law_1363 : decode cL_law 1363 = .ok (.iadd, 1) := by decide +kernel
theorem dL_law_1364 : decode cL_law 1364 = .ok (.iaload, 1) := by decide +kernel
theorem dL_law_1365 : decode cL_law 1365 = .ok (.aload_n 0, 1) := by decide +kernel
theorem dL_law_1366 : decode cL_law 1366 = .ok (.iload_n 3, 1) := by decide +kernel
theorem dL_law_1367 : decode cL_law 1367 = .ok (.iconst 2, 1) := by decide +kernel
theorem dL_law_1368 : decode cL_law 1368 = .ok (.iadd, 1) := by decide +kernel
theorem dL_law_1369 : decode cL_law 1369 = .ok (.iaload, 1) := by decide +kernel
theorem dL_law_1370 : decode cL_law 1370 = .ok (.aload_n 0, 1) := by decide +kernel
theorem dL_law_1371 : decode cL_law 1371 = .ok (.iload_n 3, 1) := by decide +kernel
theorem dL_law_1372 : decode cL_law 1372 = .ok (.iconst 3, 1) := by decide +kernel
theorem dL_law_1373 : decode cL_law 1373 = .ok (.iadd, 1) := by decide +kernel
theorem dL_law_1374 : decode cL_law 1374 = .ok (.iaload, 1) := by decide +kernel
theorem dL_law_1375 : decode cL_law 1375 = .ok (.ifCond .eq 7, 3) := by decide +kernel
theorem dL_law_1378 : decode cL_law 1378 = .ok (.iconst 1, 1) := by decide +kernel
theorem dL_law_1379 : decode cL_law 1379 = .ok (.goto 4, 3) := by decide +kernel
theorem dL_law_1382 : decode cL_law 1382 = .ok (.iconst 0, 1) := by decide +kernel
theorem dL_law_1383 : decode cL_law 1383 = .ok (.invokevirtual 168, 3) := by decide +kernel
theorem dL_law_1386 : decode cL_law 1386 = .ok (.aload_n 2, 1) := by decide +kernel
theorem dL_law_1387 : decode cL_law 1387 = .ok (.aload_n 0, 1) := by decide +kernel
theorem dL_law_1388 : decode cL_law 1388 = .ok (.iload_n 3, 1) := by decide +kernel
theorem dL_law_1389 : decode cL_law 1389 = .ok (.iconst 1, 1) := by decide +kernel
theorem dL_law_1390 : decode cL_law 1390 = .ok (.iadd, 1) := by decide +kernel
theorem dL_law_1391 : decode cL_law 1391 = .ok (.iaload, 1) := by decide +kernel
theorem dL_law_1392 : decode cL_law 1392 = .ok (.aload_n 0, 1) := by decide +kernel
theorem dL_law_1393 : decode cL_law 1393 = .ok (.iload_n 3, 1) := by decide +kernel
theorem dL_law_1394 : decode cL_law 1394 = .ok (.iconst 2, 1) := by decide +kernel
theorem dL_law_1395 : decode cL_law 1395 = .ok (.iadd, 1) := by decide +kernel
theorem dL_law_1396 : decode cL_law 1396 = .ok (.iaload, 1) := by decide +kernel
theorem dL_law_1397 : decode cL_law 1397 = .ok (.aload_n 0, 1) := by decide +kernel
theorem dL_law_1398 : decode cL_law 1398 = .ok (.iload_n 3, 1) := by decide +kernel
theorem dL_law_1399 : decode cL_law 1399 = .ok (.iconst 3, 1) := by decide +kernel
theorem dL_law_1400 : decode cL_law 1400 = .ok (.iadd, 1) := by decide +kernel
theorem dL_law_1401 : decode cL_law 1401 = .ok (.iaload, 1) := by decide +kernel
theorem dL_law_1402 : decode cL_law 1402 = .ok (.ifCond .eq 7, 3) := by decide +kernel
theorem dL_law_1405 : decode cL_law 1405 = .ok (.iconst 1, 1) := by decide +kernel
theorem dL_law_1406 : decode cL_law 1406 = .ok (.goto 4, 3) := by decide +kernel
theorem dL_law_1409 : decode cL_law 1409 = .ok (.iconst 0, 1) := by decide +kernel
theorem dL_law_1410 : decode cL_law 1410 = .ok (.invokevirtual 172, 3) := by decide +kernel
theorem dL_law_1413 : decode cL_law 1413 = .ok (.if_icmp .eq 172, 3) := by decide +kernel
theorem dL_law_1416 : decode cL_law 1416 = .ok (.iconst 0, 1) := by decide +kernel
theorem dL_law_1417 : decode cL_law 1417 = .ok (.ireturn, 1) := by decide +kernel
theorem dL_law_1418 : decode cL_law 1418 = .ok (.aload_n 1, 1) := by decide +kernel
theorem dL_law_1419 : decode cL_law 1419 = .ok (.aload_n 0, 1) := by decide +kernel
theorem dL_law_1420 : decode cL_law 1420 = .ok (.iload_n 3, 1) := by decide +kernel
theorem dL_law_1421 : decode cL_law 1421 = .ok (.iconst 1, 1) := by decide +kernel
theorem dL_law_1422 : decode cL_law 1422 = .ok (.iadd, 1) := by decide +kernel
theorem dL_law_1423 : decode cL_law 1423 = .ok (.iaload, 1) := by decide +kernel
theorem dL_law_1424 : decode cL_law 1424 = .ok (.aload_n 0, 1) := by decide +kernel
theorem dL_law_1425 : decode cL_law 1425 = .ok (.iload_n 3, 1) := by decide +kernel
theorem dL_law_1426 : decode cL_law 1426 = .ok (.iconst 2, 1) := by decide +kernel
theorem dL_law_1427 : decode cL_law 1427 = .ok (.iadd, 1) := by decide +kernel
theorem dL_law_1428 : decode cL_law 1428 = .ok (.iaload, 1) := by decide +kernel
theorem dL_law_1429 : decode cL_law 1429 = .ok (.invokevirtual 173, 3) := by decide +kernel
theorem dL_law_1432 : decode cL_law 1432 = .ok (.aload_n 2, 1) := by decide +kernel
theorem dL_law_1433 : decode cL_law 1433 = .ok (.aload_n 0, 1) := by decide +kernel
theorem dL_law_1434 : decode cL_law 1434 = .ok (.iload_n 3, 1) := by decide +kernel
theorem dL_law_1435 : decode cL_law 1435 = .ok (.iconst 1, 1) := by decide +kernel
theorem dL_law_1436 : decode cL_law 1436 = .ok (.iadd, 1) := by decide +kernel
theorem dL_law_1437 : decode cL_law 1437 = .ok (.iaload, 1) := by decide +kernel
theorem dL_law_1438 : decode cL_law 1438 = .ok (.aload_n 0, 1) := by decide +kernel
theorem dL_law_1439 : decode cL_law 1439 = .ok (.iload_n 3, 1) := by decide +kernel
theorem dL_law_1440 : decode cL_law 1440 = .ok (.iconst 2, 1) := by decide +kernel
theorem dL_law_1441 : decode cL_law 1441 = .ok (.iadd, 1) := by decide +kernel
theorem dL_law_1442 : decode cL_law 1442 = .ok (.iaload, 1) := by decide +kernel
theorem dL_law_1443 : decode cL_law 1443 = .ok (.invokevirtual 176, 3) := by decide +kernel
theorem dL_law_1446 : decode cL_law 1446 = .ok (.if_icmp .eq 139, 3) := by decide +kernel
theorem dL_law_1449 : decode cL_law 1449 = .ok (.iconst 0, 1) := by decide +kernel
theorem dL_law_1450 : decode cL_law 1450 = .ok (.ireturn, 1) := by decide +kernel
theorem dL_law_1451 : decode cL_law 1451 = .ok (.aload_n 1, 1) := by decide +kernel
theorem dL_law_1452 : decode cL_law 1452 = .ok (.invokevirtual 177, 3) := by decide +kernel
theorem dL_law_1455 : decode cL_law 1455 = .ok (.aload_n 2, 1) := by decide +kernel
theorem dL_law_1456 : decode cL_law 1456 = .ok (.invokevirtual 180, 3) := by decide +kernel
theorem dL_law_1459 : decode cL_law 1459 = .ok (.if_icmp .eq 126, 3) := by decide +kernel
theorem dL_law_1462 : decode cL_law 1462 = .ok (.iconst 0, 1) := by decide +kernel
theorem dL_law_1463 : decode cL_law 1463 = .ok (.ireturn, 1) := by decide +kernel
theorem dL_law_1464 : decode cL_law 1464 = .ok (.aload_n 1, 1) := by decide +kernel
theorem dL_law_1465 : decode cL_law 1465 = .ok (.invokevirtual 181, 3) := by decide +kernel
theorem dL_law_1468 : decode cL_law 1468 = .ok (.aload_n 2, 1) := by decide +kernel
theorem dL_law_1469 : decode cL_law 1469 = .ok (.invokevirtual 184, 3) := by decide +kernel
theorem dL_law_1472 : decode cL_law 1472 = .ok (.if_icmp .eq 113, 3) := by decide +kernel
theorem dL_law_1475 : decode cL_law 1475 = .ok (.iconst 0, 1) := by decide +kernel
theorem dL_law_1476 : decode cL_law 1476 = .ok (.ireturn, 1) := by decide +kernel
theorem dL_law_1477 : decode cL_law 1477 = .ok (.aload_n 1, 1) := by decide +kernel
theorem dL_law_1478 : decode cL_law 1478 = .ok (.aload_n 0, 1) := by decide +kernel
theorem dL_law_1479 : decode cL_law 1479 = .ok (.iload_n 3, 1) := by decide +kernel
theorem dL_law_1480 : decode cL_law 1480 = .ok (.iconst 1, 1) := by decide +kernel
theorem dL_law_1481 : decode cL_law 1481 = .ok (.iadd, 1) := by decide +kernel
theorem dL_law_1482 : decode cL_law 1482 = .ok (.iaload, 1) := by decide +kernel
theorem dL_law_1483 : decode cL_law 1483 = .ok (.invokevirtual 185, 3) := by decide +kernel
theorem dL_law_1486 : decode cL_law 1486 = .ok (.aload_n 2, 1) := by decide +kernel
theorem dL_law_1487 : decode cL_law 1487 = .ok (.aload_n 0, 1) := by decide +kernel
theorem dL_law_1488 : decode cL_law 1488 = .ok (.iload_n 3, 1) := by decide +kernel
theorem dL_law_1489 : decode cL_law 1489 = .ok (.iconst 1, 1) := by decide +kernel
theorem dL_law_1490 : decode cL_law 1490 = .ok (.iadd, 1) := by decide +kernel
theorem dL_law_1491 : decode cL_law 1491 = .ok (.iaload, 1) := by decide +kernel
theorem dL_law_1492 : decode cL_law 1492 = .ok (.invokevirtual 188, 3) := by decide +kernel
theorem dL_law_1495 : decode cL_law 1495 = .ok (.if_icmp .eq 90, 3) := by decide +kernel
theorem dL_law_1498 : decode cL_law 1498 = .ok (.iconst 0, 1) := by decide +kernel
theorem dL_law_1499 : decode cL_law 1499 = .ok (.ireturn, 1) := by decide +kernel
theorem dL_law_1500 : decode cL_law 1500 = .ok (.aload_n 1, 1) := by decide +kernel
theorem dL_law_1501 : decode cL_law 1501 = .ok (.aload_n 0, 1) := by decide +kernel
theorem dL_law_1502 : decode cL_law 1502 = .ok (.iload_n 3, 1) := by decide +kernel
theorem dL_law_1503 : decode cL_law 1503 = .ok (.iconst 1, 1) := by decide +kernel
theorem dL_law_1504 : decode cL_law 1504 = .ok (.iadd, 1) := by decide +kernel
theorem dL_law_1505 : decode cL_law 1505 = .ok (.iaload, 1) := by decide +kernel
theorem dL_law_1506 : decode cL_law 1506 = .ok (.invokevirtual 189, 3) := by decide +kernel
theorem dL_law_1509 : decode cL_law 1509 = .ok (.aload_n 2, 1) := by decide +kernel
theorem dL_law_1510 : decode cL_law 1510 = .ok (.aload_n 0, 1) := by decide +kernel
theorem dL_law_1511 : decode cL_law 1511 = .ok (.iload_n 3, 1) := by decide +kernel
theorem dL_law_1512 : decode cL_law 1512 = .ok (.iconst 1, 1) := by decide +kernel
theorem dL_law_1513 : decode cL_law 1513 = .ok (.iadd, 1) := by decide +kernel
theorem dL_law_1514 : decode cL_law 1514 = .ok (.iaload, 1) := by decide +kernel
theorem dL_law_1515 : decode cL_law 1515 = .ok (.invokevirtual 192, 3) := by decide +kernel
theorem dL_law_1518 : decode cL_law 1518 = .ok (.if_icmp .eq 67, 3) := by decide +kernel
theorem dL_law_1521 : decode cL_law 1521 = .ok (.iconst 0, 1) := by decide +kernel
theorem dL_law_1522 : decode cL_law 1522 = .ok (.ireturn, 1) := by decide +kernel
theorem dL_law_1523 : decode cL_law 1523 = .ok (.aload_n 1, 1) := by decide +kernel
theorem dL_law_1524 : decode cL_law 1524 = .ok (.invokevirtual 193, 3) := by decide +kernel
theorem dL_law_1527 : decode cL_law 1527 = .ok (.aload_n 2, 1) := by decide +kernel
theorem dL_law_1528 : decode cL_law 1528 = .ok (.invokevirtual 196, 3) := by decide +kernel
theorem dL_law_1531 : decode cL_law 1531 = .ok (.if_icmp .eq 54, 3) := by decide +kernel
theorem dL_law_1534 : decode cL_law 1534 = .ok (.iconst 0, 1) := by decide +kernel
theorem dL_law_1535 : decode cL_law 1535 = .ok (.ireturn, 1) := by decide +kernel
theorem dL_law_1536 : decode cL_law 1536 = .ok (.aload_n 1, 1) := by decide +kernel
theorem dL_law_1537 : decode cL_law 1537 = .ok (.invokevirtual 197, 3) := by decide +kernel
theorem dL_law_1540 : decode cL_law 1540 = .ok (.aload_n 2, 1) := by decide +kernel
theorem dL_law_1541 : decode cL_law 1541 = .ok (.invokevirtual 200, 3) := by decide +kernel
theorem dL_law_1544 : decode cL_law 1544 = .ok (.if_icmp .eq 41, 3) := by decide +kernel
theorem dL_law_1547 : decode cL_law 1547 = .ok (.iconst 0, 1) := by decide +kernel
theorem dL_law_1548 : decode cL_law 1548 = .ok (.ireturn, 1) := by decide +kernel
theorem dL_law_1549 : decode cL_law 1549 = .ok (.aload_n 1, 1) := by decide +kernel
theorem dL_law_1550 : decode cL_law 1550 = .ok (.invokevirtual 201, 3) := by decide +kernel
theorem dL_law_1553 : decode cL_law 1553 = .ok (.aload_n 2, 1) := by decide +kernel
theorem dL_law_1554 : decode cL_law 1554 = .ok (.invokevirtual 204, 3) := by decide +kernel
theorem dL_law_1557 : decode cL_law 1557 = .ok (.if_icmp .eq 28, 3) := by decide +kernel
theorem dL_law_1560 : decode cL_law 1560 = .ok (.iconst 0, 1) := by decide +kernel
theorem dL_law_1561 : decode cL_law 1561 = .ok (.ireturn, 1) := by decide +kernel
theorem dL_law_1562 : decode cL_law 1562 = .ok (.aload_n 1, 1) := by decide +kernel
theorem dL_law_1563 : decode cL_law 1563 = .ok (.aload_n 0, 1) := by decide +kernel
theorem dL_law_1564 : decode cL_law 1564 = .ok (.iload_n 3, 1) := by decide +kernel
theorem dL_law_1565 : decode cL_law 1565 = .ok (.iconst 1, 1) := by decide +kernel
theorem dL_law_1566 : decode cL_law 1566 = .ok (.iadd, 1) := by decide +kernel
theorem dL_law_1567 : decode cL_law 1567 = .ok (.iaload, 1) := by decide +kernel
theorem dL_law_1568 : decode cL_law 1568 = .ok (.invokevirtual 205, 3) := by decide +kernel
theorem dL_law_1571 : decode cL_law 1571 = .ok (.aload_n 2, 1) := by decide +kernel
theorem dL_law_1572 : decode cL_law 1572 = .ok (.aload_n 0, 1) := by decide +kernel
theorem dL_law_1573 : decode cL_law 1573 = .ok (.iload_n 3, 1) := by decide +kernel
theorem dL_law_1574 : decode cL_law 1574 = .ok (.iconst 1, 1) := by decide +kernel
theorem dL_law_1575 : decode cL_law 1575 = .ok (.iadd, 1) := by decide +kernel
theorem dL_law_1576 : decode cL_law 1576 = .ok (.iaload, 1) := by decide +kernel
theorem dL_law_1577 : decode cL_law 1577 = .ok (.invokevirtual 208, 3) := by decide +kernel
theorem dL_law_1580 : decode cL_law 1580 = .ok (.if_icmp .eq 5, 3) := by decide +kernel
theorem dL_law_1583 : decode cL_law 1583 = .ok (.iconst 0, 1) := by decide +kernel
theorem dL_law_1584 : decode cL_law 1584 = .ok (.ireturn, 1) := by decide +kernel
theorem dL_law_1585 : decode cL_law 1585 = .ok (.iinc 3 6, 3) := by decide +kernel
theorem dL_law_1588 : decode cL_law 1588 = .ok (.goto (-1570), 3) := by decide +kernel
theorem dL_law_1591 : decode cL_law 1591 = .ok (.iconst 1, 1) := by decide +kernel
theorem dL_law_1592 : decode cL_law 1592 = .ok (.ireturn, 1) := by decide +kernel
theorem dX0_init_0 : decode cX0_init 0 = .ok (.aload_n 0, 1) := by decide +kernel
theorem dX0_init_1 : decode cX0_init 1 = .ok (.invokespecial 3, 3) := by decide +kernel
theorem dX0_init_4 : decode cX0_init 4 = .ok (.aload_n 0, 1) := by decide +kernel
theorem dX0_init_5 : decode cX0_init 5 = .ok (.iconst 5, 1) := by decide +kernel
theorem dX0_init_6 : decode cX0_init 6 = .ok (.newarray .int, 2) := by decide +kernel
theorem dX0_init_8 : decode cX0_init 8 = .ok (.putfield 9, 3) := by decide +kernel
theorem dX0_init_11 : decode cX0_init 11 = .ok (.aload_n 0, 1) := by decide +kernel
theorem dX0_init_12 : decode cX0_init 12 = .ok (.iconst 5, 1) := by decide +kernel
theorem dX0_init_13 : decode cX0_init 13 = .ok (.newarray .int, 2) := by decide +kernel
theorem dX0_init_15 : decode cX0_init 15 = .ok (.putfield 15, 3) := by decide +kernel
theorem dX0_init_18 : decode cX0_init 18 = .ok (.aload_n 0, 1) := by decide +kernel
theorem dX0_init_19 : decode cX0_init 19 = .ok (.aload_n 1, 1) := by decide +kernel
theorem dX0_init_20 : decode cX0_init 20 = .ok (.putfield 18, 3) := by decide +kernel
theorem dX0_init_23 : decode cX0_init 23 = .ok (.aload_n 0, 1) := by decide +kernel
theorem dX0_init_24 : decode cX0_init 24 = .ok (.aload_n 2, 1) := by decide +kernel
theorem dX0_init_25 : decode cX0_init 25 = .ok (.putfield 22, 3) := by decide +kernel
theorem dX0_init_28 : decode cX0_init 28 = .ok (.return_, 1) := by decide +kernel
theorem dX0_findOrder_0 : decode cX0_findOrder 0 = .ok (.aload_n 0, 1) := by decide +kernel
theorem dX0_findOrder_1 : decode cX0_findOrder 1 = .ok (.iconst (-1), 1) := by decide +kernel
theorem dX0_findOrder_2 : decode cX0_findOrder 2 = .ok (.putfield 26, 3) := by decide +kernel
theorem dX0_findOrder_5 : decode cX0_findOrder 5 = .ok (.aload_n 0, 1) := by decide +kernel
theorem dX0_findOrder_6 : decode cX0_findOrder 6 = .ok (.aload_n 1, 1) := by decide +kernel
theorem dX0_findOrder_7 : decode cX0_findOrder 7 = .ok (.iload_n 2, 1) := by decide +kernel
theorem dX0_findOrder_8 : decode cX0_findOrder 8 = .ok (.iconst 0, 1) := by decide +kernel
theorem dX0_findOrder_9 : decode cX0_findOrder 9 = .ok (.iconst 0, 1) := by decide +kernel
theorem dX0_findOrder_10 : decode cX0_findOrder 10 = .ok (.invokevirtual 30, 3) := by decide +kernel
theorem dX0_findOrder_13 : decode cX0_findOrder 13 = .ok (.return_, 1) := by decide +kernel
theorem dX0_tryOrders_0 : decode cX0_tryOrders 0 = .ok (.iload_n 2, 1) := by decide +kernel
theorem dX0_tryOrders_1 : decode cX0_tryOrders 1 = .ok (.ifCond .eq 8, 3) := by decide +kernel
theorem dX0_tryOrders_4 : decode cX0_tryOrders 4 = .ok (.iload_n 3, 1) := by decide +kernel
theorem dX0_tryOrders_5 : decode cX0_tryOrders 5 = .ok (.iconst 5, 1) := by decide +kernel
theorem dX0_tryOrders_6 : decode cX0_tryOrders 6 = .ok (.if_icmp .lt 33, 3) := by decide +kernel
theorem dX0_tryOrders_9 : decode cX0_tryOrders 9 = .ok (.iload 4, 2) := by decide +kernel
theorem dX0_tryOrders_11 : decode cX0_tryOrders 11 = .ok (.aload_n 0, 1) := by decide +kernel
theorem dX0_tryOrders_12 : decode cX0_tryOrders 12 = .ok (.getfield 26, 3) := by decide +kernel
theorem dX0_tryOrders_15 : decode cX0_tryOrders 15 = .ok (.if_icmp .le 23, 3) := by decide +kernel
theorem dX0_tryOrders_18 : decode cX0_tryOrders 18 = .ok (.aload_n 0, 1) := by decide +kernel
theorem dX0_tryOrders_19 : decode cX0_tryOrders 19 = .ok (.iload 4, 2) := by decide +kernel
theorem dX0_tryOrders_21 : decode cX0_tryOrders 21 = .ok (.putfield 26, 3) := by decide +kernel
theorem dX0_tryOrders_24 : decode cX0_tryOrders 24 = .ok (.aload_n 0, 1) := by decide +kernel
theorem dX0_tryOrders_25 : decode cX0_tryOrders 25 = .ok (.getfield 15, 3) := by decide +kernel
theorem dX0_tryOrders_28 : decode cX0_tryOrders 28 = .ok (.iconst 0, 1) := by decide +kernel
theorem dX0_tryOrders_29 : decode cX0_tryOrders 29 = .ok (.aload_n 0, 1) := by decide +kernel
theorem dX0_tryOrders_30 : decode cX0_tryOrders 30 = .ok (.getfield 9, 3) := by decide +kernel
theorem dX0_tryOrders_33 : decode cX0_tryOrders 33 = .ok (.iconst 0, 1) := by decide +kernel
theorem dX0_tryOrders_34 : decode cX0_tryOrders 34 = .ok (.iconst 5, 1) := by decide +kernel
theorem dX0_tryOrders_35 : decode cX0_tryOrders 35 = .ok (.invokestatic 34, 3) := by decide +kernel
theorem dX0_tryOrders_38 : decode cX0_tryOrders 38 = .ok (.return_, 1) := by decide +kernel
theorem dX0_tryOrders_39 : decode cX0_tryOrders 39 = .ok (.iconst 0, 1) := by decide +kernel
theorem dX0_tryOrders_40 : decode cX0_tryOrders 40 = .ok (.istore 5, 2) := by decide +kernel
theorem dX0_tryOrders_42 : decode cX0_tryOrders 42 = .ok (.iload 5, 2) := by decide +kernel
theorem dX0_tryOrders_44 : decode cX0_tryOrders 44 = .ok (.aload_n 0, 1) := by decide +kernel
theorem dX0_tryOrders_45 : decode cX0_tryOrders 45 = .ok (.getfield 18, 3) := by decide +kernel
theorem dX0_tryOrders_48 : decode cX0_tryOrders 48 = .ok (.getfield 40, 3) := by decide +kernel
theorem dX0_tryOrders_51 : decode cX0_tryOrders 51 = .ok (.if_icmp .ge 146, 3) := by decide +kernel
theorem dX0_tryOrders_54 : decode cX0_tryOrders 54 = .ok (.iload_n 2, 1) := by decide +kernel
theorem dX0_tryOrders_55 : decode cX0_tryOrders 55 = .ok (.iload 5, 2) := by decide +kernel
theorem dX0_tryOrders_57 : decode cX0_tryOrders 57 = .ok (.ishr, 1) := by decide +kernel
theorem dX0_tryOrders_58 : decode cX0_tryOrders 58 = .ok (.iconst 1, 1) := by decide +kernel
theorem dX0_tryOrders_59 : decode cX0_tryOrders 59 = .ok (.iand, 1) := by decide +kernel
theorem dX0_tryOrders_60 : decode cX0_tryOrders 60 = .ok (.ifCond .ne 6, 3) := by decide +kernel
theorem dX0_tryOrders_63 : decode cX0_tryOrders 63 = .ok (.goto 128, 3) := by decide +kernel
theorem dX0_tryOrders_66 : decode cX0_tryOrders 66 = .ok (.aload_n 0, 1) := by decide +kernel
theorem dX0_tryOrders_67 : decode cX0_tryOrders 67 = .ok (.getfield 15, 3) := by decide +kernel
theorem dX0_tryOrders_70 : decode cX0_tryOrders 70 = .ok (.iload_n 3, 1) := by decide +kernel
theorem dX0_tryOrders_71 : decode cX0_tryOrders 71 = .ok (.iload 5, 2) := by decide +kernel
theorem dX0_tryOrders_73 : decode cX0_tryOrders 73 = .ok (.iastore, 1) := by decide +kernel
theorem dX0_tryOrders_74 : decode cX0_tryOrders 74 = .ok (.aload_n 0, 1) := by decide +kernel
theorem dX0_tryOrders_75 : decode cX0_tryOrders 75 = .ok (.getfield 22, 3) := by decide +kernel
theorem dX0_tryOrders_78 : decode cX0_tryOrders 78 = .ok (.aload_n 1, 1) := by decide +kernel
theorem dX0_tryOrders_79 : decode cX0_tryOrders 79 = .ok (.iload 5, 2) := by decide +kernel
theorem dX0_tryOrders_81 : decode cX0_tryOrders 81 = .ok (.invokevirtual 45, 3) := by decide +kernel
theorem dX0_tryOrders_84 : decode cX0_tryOrders 84 = .ok (.aload_n 0, 1) := by decide +kernel
theorem dX0_tryOrders_85 : decode cX0_tryOrders 85 = .ok (.getfield 22, 3) := by decide +kernel
theorem dX0_tryOrders_88 : decode cX0_tryOrders 88 = .ok (.getfield 51, 3) := by decide +kernel
theorem dX0_tryOrders_91 : decode cX0_tryOrders 91 = .ok (.istore 6, 2) := by decide +kernel
theorem dX0_tryOrders_93 : decode cX0_tryOrders 93 = .ok (.aload_n 0, 1) := by decide +kernel
theorem dX0_tryOrders_94 : decode cX0_tryOrders 94 = .ok (.getfield 22, 3) := by decide +kernel
theorem dX0_tryOrders_97 : decode cX0_tryOrders 97 = .ok (.getfield 54, 3) := by decide +kernel
theorem dX0_tryOrders_100 : decode cX0_tryOrders 100 = .ok (.istore 7, 2) := by decide +kernel
theorem dX0_tryOrders_102 : decode cX0_tryOrders 102 = .ok (.iload_n 2, 1) := by decide +kernel
theorem dX0_tryOrders_103 : decode cX0_tryOrders 103 = .ok (.iconst 1, 1) := by decide +kernel
theorem dX0_tryOrders_104 : decode cX0_tryOrders 104 = .ok (.iload 5, 2) := by decide +kernel
theorem dX0_tryOrders_106 : decode cX0_tryOrders 106 = .ok (.ishl, 1) := by decide +kernel
theorem dX0_tryOrders_107 : decode cX0_tryOrders 107 = .ok (.iconst (-1), 1) := by decide +kernel
theorem dX0_tryOrders_108 : decode cX0_tryOrders 108 = .ok (.ixor, 1) := by decide +kernel
theorem dX0_tryOrders_109 : decode cX0_tryOrders 109 = .ok (.iand, 1) := by decide +kernel
theorem dX0_tryOrders_110 : decode cX0_tryOrders 110 = .ok (.istore 8, 2) := by decide +kernel
theorem dX0_tryOrders_112 : decode cX0_tryOrders 112 = .ok (.iload 6, 2) := by decide +kernel
theorem dX0_tryOrders_114 : decode cX0_tryOrders 114 = .ok (.iconst (-1), 1) := by decide +kernel
theorem dX0_tryOrders_115 : decode cX0_tryOrders 115 = .ok (.if_icmp .ne 18, 3) := by decide +kernel
theorem dX0_tryOrders_118 : decode cX0_tryOrders 118 = .ok (.aload_n 0, 1) := by decide +kernel
theorem dX0_tryOrders_119 : decode cX0_tryOrders 119 = .ok (.aload_n 1, 1) := by decide +kernel
theorem dX0_tryOrders_120 : decode cX0_tryOrders 120 = .ok (.iload 8, 2) := by decide +kernel
theorem dX0_tryOrders_122 : decode cX0_tryOrders 122 = .ok (.iload_n 3, 1) := by decide +kernel
theorem dX0_tryOrders_123 : decode cX0_tryOrders 123 = .ok (.iconst 1, 1) := by decide +kernel
theorem dX0_tryOrders_124 : decode cX0_tryOrders 124 = .ok (.iadd, 1) := by decide +kernel
theorem dX0_tryOrders_125 : decode cX0_tryOrders 125 = .ok (.iload 4, 2) := by decide +kernel
theorem dX0_tryOrders_127 : decode cX0_tryOrders 127 = .ok (.invokevirtual 30, 3) := by decide +kernel
theorem dX0_tryOrders_130 : decode cX0_tryOrders 130 = .ok (.goto 61, 3) := by decide +kernel
theorem dX0_tryOrders_133 : decode cX0_tryOrders 133 = .ok (.aload_n 1, 1) := by decide +kernel
theorem dX0_tryOrders_134 : decode cX0_tryOrders 134 = .ok (.getfield 57, 3) := by decide +kernel
theorem dX0_tryOrders_137 : decode cX0_tryOrders 137 = .ok (.iload 6, 2) := by decide +kernel
theorem dX0_tryOrders_139 : decode cX0_tryOrders 139 = .ok (.dup2, 1) := by decide +kernel
theorem dX0_tryOrders_140 : decode cX0_tryOrders 140 = .ok (.iaload, 1) := by decide +kernel
theorem dX0_tryOrders_141 : decode cX0_tryOrders 141 = .ok (.iload 7, 2) := by decide +kernel
theorem dX0_tryOrders_143 : decode cX0_tryOrders 143 = .ok (.isub, 1) := by decide +kernel
theorem dX0_tryOrders_144 : decode cX0_tryOrders 144 = .ok (.iastore, 1) := by decide +kernel
theorem dX0_tryOrders_145 : decode cX0_tryOrders 145 = .ok (.aload_n 1, 1) := by decide +kernel
theorem dX0_tryOrders_146 : decode cX0_tryOrders 146 = .ok (.getfield 62, 3) := by decide +kernel
theorem dX0_tryOrders_149 : decode cX0_tryOrders 149 = .ok (.iload 5, 2) := by decide +kernel
theorem dX0_tryOrders_151 : decode cX0_tryOrders 151 = .ok (.iconst 3, 1) := by decide +kernel
theorem dX0_tryOrders_152 : decode cX0_tryOrders 152 = .ok (.iload 6, 2) := by decide +kernel
theorem dX0_tryOrders_154 : decode cX0_tryOrders 154 = .ok (.iadd, 1) := by decide +kernel
theorem dX0_tryOrders_155 : decode cX0_tryOrders 155 = .ok (.iastore, 1) := by decide +kernel
theorem dX0_tryOrders_156 : decode cX0_tryOrders 156 = .ok (.aload_n 0, 1) := by decide +kernel
theorem dX0_tryOrders_157 : decode cX0_tryOrders 157 = .ok (.aload_n 1, 1) := by decide +kernel
theorem dX0_tryOrders_158 : decode cX0_tryOrders 158 = .ok (.iload 8, 2) := by decide +kernel
theorem dX0_tryOrders_160 : decode cX0_tryOrders 160 = .ok (.iload_n 3, 1) := by decide +kernel
theorem dX0_tryOrders_161 : decode cX0_tryOrders 161 = .ok (.iconst 1, 1) := by decide +kernel
theorem dX0_tryOrders_162 : decode cX0_tryOrders 162 = .ok (.iadd, 1) := by decide +kernel
theorem dX0_tryOrders_163 : decode cX0_tryOrders 163 = .ok (.iload 4, 2) := by decide +kernel
theorem dX0_tryOrders_165 : decode cX0_tryOrders 165 = .ok (.iload 7, 2) := by decide +kernel
theorem dX0_tryOrders_167 : decode cX0_tryOrders 167 = .ok (.iadd, 1) := by decide +kernel
theorem dX0_tryOrders_168 : decode cX0_tryOrders 168 = .ok (.invokevirtual 30, 3) := by decide +kernel
theorem dX0_tryOrders_171 : decode cX0_tryOrders 171 = .ok (.aload_n 1, 1) := by decide +kernel
theorem dX0_tryOrders_172 : decode cX0_tryOrders 172 = .ok (.getfield 57, 3) := by decide +kernel
theorem dX0_tryOrders_175 : decode cX0_tryOrders 175 = .ok (.iload 6, 2) := by decide +kernel
theorem dX0_tryOrders_177 : decode cX0_tryOrders 177 = .ok (.dup2, 1) := by decide +kernel
theorem dX0_tryOrders_178 : decode cX0_tryOrders 178 = .ok (.iaload, 1) := by decide +kernel
theorem dX0_tryOrders_179 : decode cX0_tryOrders 179 = .ok (.iload 7, 2) := by decide +kernel
theorem dX0_tryOrders_181 : decode cX0_tryOrders 181 = .ok (.iadd, 1) := by decide +kernel
theorem dX0_tryOrders_182 : decode cX0_tryOrders 182 = .ok (.iastore, 1) := by decide +kernel
theorem dX0_tryOrders_183 : decode cX0_tryOrders 183 = .ok (.aload_n 1, 1) := by decide +kernel
theorem dX0_tryOrders_184 : decode cX0_tryOrders 184 = .ok (.getfield 62, 3) := by decide +kernel
theorem dX0_tryOrders_187 : decode cX0_tryOrders 187 = .ok (.iload 5, 2) := by decide +kernel
theorem dX0_tryOrders_189 : decode cX0_tryOrders 189 = .ok (.iconst 0, 1) := by decide +kernel
theorem dX0_tryOrders_190 : decode cX0_tryOrders 190 = .ok (.iastore, 1) := by decide +kernel
theorem dX0_tryOrders_191 : decode cX0_tryOrders 191 = .ok (.iinc 5 1, 3) := by decide +kernel
theorem dX0_tryOrders_194 : decode cX0_tryOrders 194 = .ok (.goto (-152), 3) := by decide +kernel
theorem dX0_tryOrders_197 : decode cX0_tryOrders 197 = .ok (.return_, 1) := by decide +kernel
theorem dX0_bestBundles_0 : decode cX0_bestBundles 0 = .ok (.iconst 0, 1) := by decide +kernel
theorem dX0_bestBundles_1 : decode cX0_bestBundles 1 = .ok (.istore_n 2, 1) := by decide +kernel
theorem dX0_bestBundles_2 : decode cX0_bestBundles 2 = .ok (.iconst 0, 1) := by decide +kernel
theorem dX0_bestBundles_3 : decode cX0_bestBundles 3 = .ok (.istore_n 3, 1) := by decide +kernel
theorem dX0_bestBundles_4 : decode cX0_bestBundles 4 = .ok (.iconst 1, 1) := by decide +kernel
theorem dX0_bestBundles_5 : decode cX0_bestBundles 5 = .ok (.istore 4, 2) := by decide +kernel
theorem dX0_bestBundles_7 : decode cX0_bestBundles 7 = .ok (.iload 4, 2) := by decide +kernel
theorem dX0_bestBundles_9 : decode cX0_bestBundles 9 = .ok (.iconst 1, 1) := by decide +kernel
theorem dX0_bestBundles_10 : decode cX0_bestBundles 10 = .ok (.aload_n 0, 1) := by decide +kernel
theorem dX0_bestBundles_11 : decode cX0_bestBundles 11 = .ok (.getfield 18, 3) := by decide +kernel
theorem dX0_bestBundles_14 : decode cX0_bestBundles 14 = .ok (.getfield 65, 3) := by decide +kernel
theorem dX0_bestBundles_17 : decode cX0_bestBundles 17 = .ok (.ishl, 1) := by decide +kernel
theorem dX0_bestBundles_18 : decode cX0_bestBundles 18 = .ok (.if_icmp .ge 40, 3) := by decide +kernel
theorem dX0_bestBundles_21 : decode cX0_bestBundles 21 = .ok (.aload_n 0, 1) := by decide +kernel
theorem dX0_bestBundles_22 : decode cX0_bestBundles 22 = .ok (.iload 4, 2) := by decide +kernel
theorem dX0_bestBundles_24 : decode cX0_bestBundles 24 = .ok (.iconst (-1), 1) := by decide +kernel
theorem dX0_bestBundles_25 : decode cX0_bestBundles 25 = .ok (.invokevirtual 68, 3) := by decide +kernel
theorem dX0_bestBundles_28 : decode cX0_bestBundles 28 = .ok (.istore 5, 2) := by decide +kernel
theorem dX0_bestBundles_30 : decode cX0_bestBundles 30 = .ok (.iload 5, 2) := by decide +kernel
theorem dX0_bestBundles_32 : decode cX0_bestBundles 32 = .ok (.iload_n 3, 1) := by decide +kernel
theorem dX0_bestBundles_33 : decode cX0_bestBundles 33 = .ok (.if_icmp .le 19, 3) := by decide +kernel
theorem dX0_bestBundles_36 : decode cX0_bestBundles 36 = .ok (.aload_n 0, 1) := by decide +kernel
theorem dX0_bestBundles_37 : decode cX0_bestBundles 37 = .ok (.iload 4, 2) := by decide +kernel
theorem dX0_bestBundles_39 : decode cX0_bestBundles 39 = .ok (.iload_n 1, 1) := by decide +kernel
theorem dX0_bestBundles_40 : decode cX0_bestBundles 40 = .ok (.invokevirtual 72, 3) := by decide +kernel
theorem dX0_bestBundles_43 : decode cX0_bestBundles 43 = .ok (.ifCond .eq 9, 3) := by decide +kernel
theorem dX0_bestBundles_46 : decode cX0_bestBundles 46 = .ok (.iload 5, 2) := by decide +kernel
theorem dX0_bestBundles_48 : decode cX0_bestBundles 48 = .ok (.istore_n 3, 1) := by decide +kernel
theorem dX0_bestBundles_49 : decode cX0_bestBundles 49 = .ok (.iload 4, 2) := by decide +kernel
theorem dX0_bestBundles_51 : decode cX0_bestBundles 51 = .ok (.istore_n 2, 1) := by decide +kernel
theorem dX0_bestBundles_52 : decode cX0_bestBundles 52 = .ok (.iinc 4 1, 3) := by decide +kernel
theorem dX0_bestBundles_55 : decode cX0_bestBundles 55 = .ok (.goto (-48), 3) := by decide +kernel
theorem dX0_bestBundles_58 : decode cX0_bestBundles 58 = .ok (.iload_n 2, 1) := by decide +kernel
theorem dX0_bestBundles_59 : decode cX0_bestBundles 59 = .ok (.ireturn, 1) := by decide +kernel
theorem dX0_goTogether_0 : decode cX0_goTogether 0 = .ok (.iconst 0, 1) := by decide +kernel
theorem dX0_goTogether_1 : decode cX0_goTogether 1 = .ok (.istore_n 3, 1) := by decide +kernel
theorem dX0_goTogether_2 : decode cX0_goTogether 2 = .ok (.iconst 0, 1) := by decide +kernel
theorem dX0_goTogether_3 : decode cX0_goTogether 3 = .ok (.istore 4, 2) := by decide +kernel
theorem dX0_goTogether_5 : decode cX0_goTogether 5 = .ok (.iconst 0, 1) := by decide +kernel
theorem dX0_goTogether_6 : decode cX0_goTogether 6 = .ok (.istore 5, 2) := by decide +kernel
theorem dX0_goTogether_8 : decode cX0_goTogether 8 = .ok (.iload 5, 2) := by decide +kernel
theorem dX0_goTogether_10 : decode cX0_goTogether 10 = .ok (.aload_n 0, 1) := by decide +kernel
theorem dX0_goTogether_11 : decode cX0_goTogether 11 = .ok (.getfield 18, 3) := by decide +kernel
theorem dX0_goTogether_14 : decode cX0_goTogether 14 = .ok (.getfield 65, 3) := by decide +kernel
theorem dX0_goTogether_17 : decode cX0_goTogether 17 = .ok (.if_icmp .ge 94, 3) := by decide +kernel
theorem dX0_goTogether_20 : decode cX0_goTogether 20 = .ok (.iload_n 1, 1) := by decide +kernel
theorem dX0_goTogether_21 : decode cX0_goTogether 21 = .ok (.iload 5, 2) := by decide +kernel
theorem dX0_goTogether_23 : decode cX0_goTogether 23 = .ok (.ishr, 1) := by decide +kernel
theorem dX0_goTogether_24 : decode cX0_goTogether 24 = .ok (.iconst 1, 1) := by decide +kernel
theorem dX0_goTogether_25 : decode cX0_goTogether 25 = .ok (.iand, 1) := by decide +kernel
theorem dX0_goTogether_26 : decode cX0_goTogether 26 = .ok (.ifCond .ne 6, 3) := by decide +kernel
theorem dX0_goTogether_29 : decode cX0_goTogether 29 = .ok (.goto 76, 3) := by decide +kernel
theorem dX0_goTogether_32 : decode cX0_goTogether 32 = .ok (.iconst 1, 1) := by decide +kernel
theorem dX0_goTogether_33 : decode cX0_goTogether 33 = .ok (.aload_n 0, 1) := by decide +kernel
theorem dX0_goTogether_34 : decode cX0_goTogether 34 = .ok (.getfield 18, 3) := by decide +kernel
theorem dX0_goTogether_37 : decode cX0_goTogether 37 = .ok (.getfield 76, 3) := by decide +kernel
theorem dX0_goTogether_40 : decode cX0_goTogether 40 = .ok (.iload 5, 2) := by decide +kernel
theorem dX0_goTogether_42 : decode cX0_goTogether 42 = .ok (.iaload, 1) := by decide +kernel
theorem dX0_goTogether_43 : decode cX0_goTogether 43 = .ok (.ishl, 1) := by decide +kernel
theorem dX0_goTogether_44 : decode cX0_goTogether 44 = .ok (.istore 6, 2) := by decide +kernel
theorem dX0_goTogether_46 : decode cX0_goTogether 46 = .ok (.aload_n 0, 1) := by decide +kernel
theorem dX0_goTogether_47 : decode cX0_goTogether 47 = .ok (.getfield 18, 3) := by decide +kernel
theorem dX0_goTogether_50 : decode cX0_goTogether 50 = .ok (.getfield 76, 3) := by decide +kernel
theorem dX0_goTogether_53 : decode cX0_goTogether 53 = .ok (.iload 5, 2) := by decide +kernel
theorem dX0_goTogether_55 : decode cX0_goTogether 55 = .ok (.iaload, 1) := by decide +kernel
theorem dX0_goTogether_56 : decode cX0_goTogether 56 = .ok (.iload_n 2, 1) := by decide +kernel
theorem dX0_goTogether_57 : decode cX0_goTogether 57 = .ok (.if_icmp .eq 26, 3) := by decide +kernel
theorem dX0_goTogether_60 : decode cX0_goTogether 60 = .ok (.iload_n 3, 1) := by decide +kernel
theorem dX0_goTogether_61 : decode cX0_goTogether 61 = .ok (.aload_n 0, 1) := by decide +kernel
theorem dX0_goTogether_62 : decode cX0_goTogether 62 = .ok (.getfield 18, 3) := by decide +kernel
theorem dX0_goTogether_65 : decode cX0_goTogether 65 = .ok (.getfield 79, 3) := by decide +kernel
theorem dX0_goTogether_68 : decode cX0_goTogether 68 = .ok (.iload 5, 2) := by decide +kernel
theorem dX0_goTogether_70 : decode cX0_goTogether 70 = .ok (.iaload, 1) := by decide +kernel
theorem dX0_goTogether_71 : decode cX0_goTogether 71 = .ok (.iand, 1) := by decide +kernel
theorem dX0_goTogether_72 : decode cX0_goTogether 72 = .ok (.ifCond .ne 11, 3) := by decide +kernel
theorem dX0_goTogether_75 : decode cX0_goTogether 75 = .ok (.iload 4, 2) := by decide +kernel
theorem dX0_goTogether_77 : decode cX0_goTogether 77 = .ok (.iload 6, 2) := by decide +kernel
theorem dX0_goTogether_79 : decode cX0_goTogether 79 = .ok (.iand, 1) := by decide +kernel
theorem dX0_goTogether_80 : decode cX0_goTogether 80 = .ok (.ifCond .eq 5, 3) := by decide +kernel
theorem dX0_goTogether_83 : decode cX0_goTogether 83 = .ok (.iconst 0, 1) := by decide +kernel
theorem dX0_goTogether_84 : decode cX0_goTogether 84 = .ok (.ireturn, 1) := by decide +kernel
theorem dX0_goTogether_85 : decode cX0_goTogether 85 = .ok (.iload_n 3, 1) := by decide +kernel
theorem dX0_goTogether_86 : decode cX0_goTogether 86 = .ok (.aload_n 0, 1) := by decide +kernel
theorem dX0_goTogether_87 : decode cX0_goTogether 87 = .ok (.getfield 18, 3) := by decide +kernel
theorem dX0_goTogether_90 : decode cX0_goTogether 90 = .ok (.getfield 79, 3) := by decide +kernel
theorem dX0_goTogether_93 : decode cX0_goTogether 93 = .ok (.iload 5, 2) := by decide +kernel
theorem dX0_goTogether_95 : decode cX0_goTogether 95 = .ok (.iaload, 1) := by decide +kernel
theorem dX0_goTogether_96 : decode cX0_goTogether 96 = .ok (.ior, 1) := by decide +kernel
theorem dX0_goTogether_97 : decode cX0_goTogether 97 = .ok (.istore_n 3, 1) := by decide +kernel
theorem dX0_goTogether_98 : decode cX0_goTogether 98 = .ok (.iload 4, 2) := by decide +kernel
theorem dX0_goTogether_100 : decode cX0_goTogether 100 = .ok (.iload 6, 2) := by decide +kernel
theorem dX0_goTogether_102 : decode cX0_goTogether 102 = .ok (.ior, 1) := by decide +kernel
theorem dX0_goTogether_103 : decode cX0_goTogether 103 = .ok (.istore 4, 2) := by decide +kernel
theorem dX0_goTogether_105 : decode cX0_goTogether 105 = .ok (.iinc 5 1, 3) := by decide +kernel
theorem dX0_goTogether_108 : decode cX0_goTogether 108 = .ok (.goto (-100), 3) := by decide +kernel
theorem dX0_goTogether_111 : decode cX0_goTogether 111 = .ok (.iconst 1, 1) := by decide +kernel
theorem dX0_goTogether_112 : decode cX0_goTogether 112 = .ok (.ireturn, 1) := by decide +kernel
theorem dX0_pricesOf_0 : decode cX0_pricesOf 0 = .ok (.iconst 0, 1) := by decide +kernel
theorem dX0_pricesOf_1 : decode cX0_pricesOf 1 = .ok (.istore_n 3, 1) := by decide +kernel
theorem dX0_pricesOf_2 : decode cX0_pricesOf 2 = .ok (.iconst 0, 1) := by decide +kernel
theorem dX0_pricesOf_3 : decode cX0_pricesOf 3 = .ok (.istore 4, 2) := by decide +kernel
theorem dX0_pricesOf_5 : decode cX0_pricesOf 5 = .ok (.iload 4, 2) := by decide +kernel
theorem dX0_pricesOf_7 : decode cX0_pricesOf 7 = .ok (.aload_n 0, 1) := by decide +kernel
theorem dX0_pricesOf_8 : decode cX0_pricesOf 8 = .ok (.getfield 18, 3) := by decide +kernel
theorem dX0_pricesOf_11 : decode cX0_pricesOf 11 = .ok (.getfield 65, 3) := by decide +kernel
theorem dX0_pricesOf_14 : decode cX0_pricesOf 14 = .ok (.if_icmp .ge 45, 3) := by decide +kernel
theorem dX0_pricesOf_17 : decode cX0_pricesOf 17 = .ok (.iload_n 1, 1) := by decide +kernel
theorem dX0_pricesOf_18 : decode cX0_pricesOf 18 = .ok (.iload 4, 2) := by decide +kernel
theorem dX0_pricesOf_20 : decode cX0_pricesOf 20 = .ok (.ishr, 1) := by decide +kernel
theorem dX0_pricesOf_21 : decode cX0_pricesOf 21 = .ok (.iconst 1, 1) := by decide +kernel
theorem dX0_pricesOf_22 : decode cX0_pricesOf 22 = .ok (.iand, 1) := by decide +kernel
theorem dX0_pricesOf_23 : decode cX0_pricesOf 23 = .ok (.ifCond .eq 30, 3) := by decide +kernel
theorem dX0_pricesOf_26 : decode cX0_pricesOf 26 = .ok (.aload_n 0, 1) := by decide +kernel
theorem dX0_pricesOf_27 : decode cX0_pricesOf 27 = .ok (.getfield 18, 3) := by decide +kernel
theorem dX0_pricesOf_30 : decode cX0_pricesOf 30 = .ok (.getfield 76, 3) := by decide +kernel
theorem dX0_pricesOf_33 : decode cX0_pricesOf 33 = .ok (.iload 4, 2) := by decide +kernel
theorem dX0_pricesOf_35 : decode cX0_pricesOf 35 = .ok (.iaload, 1) := by decide +kernel
theorem dX0_pricesOf_36 : decode cX0_pricesOf 36 = .ok (.iload_n 2, 1) := by decide +kernel
theorem dX0_pricesOf_37 : decode cX0_pricesOf 37 = .ok (.if_icmp .eq 16, 3) := by decide +kernel
theorem dX0_pricesOf_40 : decode cX0_pricesOf 40 = .ok (.iload_n 3, 1) := by decide +kernel
theorem dX0_pricesOf_41 : decode cX0_pricesOf 41 = .ok (.aload_n 0, 1) := by decide +kernel
theorem dX0_pricesOf_42 : decode cX0_pricesOf 42 = .ok (.getfield 18, 3) := by decide +kernel
theorem dX0_pricesOf_45 : decode cX0_pricesOf 45 = .ok (.getfield 82, 3) := by decide +kernel
theorem dX0_pricesOf_48 : decode cX0_pricesOf 48 = .ok (.iload 4, 2) := by decide +kernel
theorem dX0_pricesOf_50 : decode cX0_pricesOf 50 = .ok (.iaload, 1) := by decide +kernel
theorem dX0_pricesOf_51 : decode cX0_pricesOf 51 = .ok (.iadd, 1) := by decide +kernel
theorem dX0_pricesOf_52 : decode cX0_pricesOf 52 = .ok (.istore_n 3, 1) := by decide +kernel
theorem dX0_pricesOf_53 : decode cX0_pricesOf 53 = .ok (.iinc 4 1, 3) := by decide +kernel
theorem dX0_pricesOf_56 : decode cX0_pricesOf 56 = .ok (.goto (-51), 3) := by decide +kernel
theorem dX0_pricesOf_59 : decode cX0_pricesOf 59 = .ok (.iload_n 3, 1) := by decide +kernel
theorem dX0_pricesOf_60 : decode cX0_pricesOf 60 = .ok (.ireturn, 1) := by decide +kernel
theorem dX0_bestKept_0 : decode cX0_bestKept 0 = .ok (.iconst 0, 1) := by decide +kernel
theorem dX0_bestKept_1 : decode cX0_bestKept 1 = .ok (.istore_n 3, 1) := by decide +kernel
theorem dX0_bestKept_2 : decode cX0_bestKept 2 = .ok (.iconst 0, 1) := by decide +kernel
theorem dX0_bestKept_3 : decode cX0_bestKept 3 = .ok (.istore 4, 2) := by decide +kernel
theorem dX0_bestKept_5 : decode cX0_bestKept 5 = .ok (.iconst 0, 1) := by decide +kernel
theorem dX0_bestKept_6 : decode cX0_bestKept 6 = .ok (.istore 5, 2) := by decide +kernel
theorem dX0_bestKept_8 : decode cX0_bestKept 8 = .ok (.iload 5, 2) := by decide +kernel
theorem dX0_bestKept_10 : decode cX0_bestKept 10 = .ok (.aload_n 0, 1) := by decide +kernel
theorem dX0_bestKept_11 : decode cX0_bestKept 11 = .ok (.getfield 18, 3) := by decide +kernel
theorem dX0_bestKept_14 : decode cX0_bestKept 14 = .ok (.getfield 40, 3) := by decide +kernel
theorem dX0_bestKept_17 : decode cX0_bestKept 17 = .ok (.if_icmp .ge 57, 3) := by decide +kernel
theorem dX0_bestKept_20 : decode cX0_bestKept 20 = .ok (.aload_n 0, 1) := by decide +kernel
theorem dX0_bestKept_21 : decode cX0_bestKept 21 = .ok (.aload_n 1, 1) := by decide +kernel
theorem dX0_bestKept_22 : decode cX0_bestKept 22 = .ok (.iload 4, 2) := by decide +kernel
theorem dX0_bestKept_24 : decode cX0_bestKept 24 = .ok (.invokevirtual 85, 3) := by decide +kernel
theorem dX0_bestKept_27 : decode cX0_bestKept 27 = .ok (.istore 6, 2) := by decide +kernel
theorem dX0_bestKept_29 : decode cX0_bestKept 29 = .ok (.iload 6, 2) := by decide +kernel
theorem dX0_bestKept_31 : decode cX0_bestKept 31 = .ok (.iconst (-1), 1) := by decide +kernel
theorem dX0_bestKept_32 : decode cX0_bestKept 32 = .ok (.if_icmp .ne 5, 3) := by decide +kernel
theorem dX0_bestKept_35 : decode cX0_bestKept 35 = .ok (.iload_n 3, 1) := by decide +kernel
theorem dX0_bestKept_36 : decode cX0_bestKept 36 = .ok (.ireturn, 1) := by decide +kernel
theorem dX0_bestKept_37 : decode cX0_bestKept 37 = .ok (.iload 4, 2) := by decide +kernel
theorem dX0_bestKept_39 : decode cX0_bestKept 39 = .ok (.iconst 1, 1) := by decide +kernel
theorem dX0_bestKept_40 : decode cX0_bestKept 40 = .ok (.iload 6, 2) := by decide +kernel
theorem dX0_bestKept_42 : decode cX0_bestKept 42 = .ok (.ishl, 1) := by decide +kernel
theorem dX0_bestKept_43 : decode cX0_bestKept 43 = .ok (.ior, 1) := by decide +kernel
theorem dX0_bestKept_44 : decode cX0_bestKept 44 = .ok (.istore 4, 2) := by decide +kernel
theorem dX0_bestKept_46 : decode cX0_bestKept 46 = .ok (.aload_n 0, 1) := by decide +kernel
theorem dX0_bestKept_47 : decode cX0_bestKept 47 = .ok (.aload_n 1, 1) := by decide +kernel
theorem dX0_bestKept_48 : decode cX0_bestKept 48 = .ok (.iload_n 3, 1) := by decide +kernel
theorem dX0_bestKept_49 : decode cX0_bestKept 49 = .ok (.iconst 1, 1) := by decide +kernel
theorem dX0_bestKept_50 : decode cX0_bestKept 50 = .ok (.iload 6, 2) := by decide +kernel
theorem dX0_bestKept_52 : decode cX0_bestKept 52 = .ok (.ishl, 1) := by decide +kernel
theorem dX0_bestKept_53 : decode cX0_bestKept 53 = .ok (.ior, 1) := by decide +kernel
theorem dX0_bestKept_54 : decode cX0_bestKept 54 = .ok (.iload_n 2, 1) := by decide +kernel
theorem dX0_bestKept_55 : decode cX0_bestKept 55 = .ok (.invokevirtual 89, 3) := by decide +kernel
theorem dX0_bestKept_58 : decode cX0_bestKept 58 = .ok (.ifCond .eq 10, 3) := by decide +kernel
theorem dX0_bestKept_61 : decode cX0_bestKept 61 = .ok (.iload_n 3, 1) := by decide +kernel
theorem dX0_bestKept_62 : decode cX0_bestKept 62 = .ok (.iconst 1, 1) := by decide +kernel
theorem dX0_bestKept_63 : decode cX0_bestKept 63 = .ok (.iload 6, 2) := by decide +kernel
theorem dX0_bestKept_65 : decode cX0_bestKept 65 = .ok (.ishl, 1) := by decide +kernel
theorem dX0_bestKept_66 : decode cX0_bestKept 66 = .ok (.ior, 1) := by decide +kernel
theorem dX0_bestKept_67 : decode cX0_bestKept 67 = .ok (.istore_n 3, 1) := by decide +kernel
theorem dX0_bestKept_68 : decode cX0_bestKept 68 = .ok (.iinc 5 1, 3) := by decide +kernel
theorem dX0_bestKept_71 : decode cX0_bestKept 71 = .ok (.goto (-63), 3) := by decide +kernel
theorem dX0_bestKept_74 : decode cX0_bestKept 74 = .ok (.iload_n 3, 1) := by decide +kernel
theorem dX0_bestKept_75 : decode cX0_bestKept 75 = .ok (.ireturn, 1) := by decide +kernel
theorem dX0_dearestUntried_0 : decode cX0_dearestUntried 0 = .ok (.iconst (-1), 1) := by decide +kernel
theorem dX0_dearestUntried_1 : decode cX0_dearestUntried 1 = .ok (.istore_n 3, 1) := by decide +kernel
theorem dX0_dearestUntried_2 : decode cX0_dearestUntried 2 = .ok (.iconst 0, 1) := by decide +kernel
theorem dX0_dearestUntried_3 : decode cX0_dearestUntried 3 = .ok (.istore 4, 2) := by decide +kernel
theorem dX0_dearestUntried_5 : decode cX0_dearestUntried 5 = .ok (.iconst 0, 1) := by decide +kernel
theorem dX0_dearestUntried_6 : decode cX0_dearestUntried 6 = .ok (.istore 5, 2) := by decide +kernel
theorem dX0_dearestUntried_8 : decode cX0_dearestUntried 8 = .ok (.iload 5, 2) := by decide +kernel
theorem dX0_dearestUntried_10 : decode cX0_dearestUntried 10 = .ok (.aload_n 0, 1) := by decide +kernel
theorem dX0_dearestUntried_11 : decode cX0_dearestUntried 11 = .ok (.getfield 18, 3) := by decide +kernel
theorem dX0_dearestUntried_14 : decode cX0_dearestUntried 14 = .ok (.getfield 40, 3) := by decide +kernel
theorem dX0_dearestUntried_17 : decode cX0_dearestUntried 17 = .ok (.if_icmp .ge 84, 3) := by decide +kernel
theorem dX0_dearestUntried_20 : decode cX0_dearestUntried 20 = .ok (.iload_n 2, 1) := by decide +kernel
theorem dX0_dearestUntried_21 : decode cX0_dearestUntried 21 = .ok (.iload 5, 2) := by decide +kernel
theorem dX0_dearestUntried_23 : decode cX0_dearestUntried 23 = .ok (.ishr, 1) := by decide +kernel
theorem dX0_dearestUntried_24 : decode cX0_dearestUntried 24 = .ok (.iconst 1, 1) := by decide +kernel
theorem dX0_dearestUntried_25 : decode cX0_dearestUntried 25 = .ok (.iand, 1) := by decide +kernel
theorem dX0_dearestUntried_26 : decode cX0_dearestUntried 26 = .ok (.ifCond .ne 31, 3) := by decide +kernel
theorem dX0_dearestUntried_29 : decode cX0_dearestUntried 29 = .ok (.aload_n 1, 1) := by decide +kernel
theorem dX0_dearestUntried_30 : decode cX0_dearestUntried 30 = .ok (.getfield 62, 3) := by decide +kernel
theorem dX0_dearestUntried_33 : decode cX0_dearestUntried 33 = .ok (.iload 5, 2) := by decide +kernel
theorem dX0_dearestUntried_35 : decode cX0_dearestUntried 35 = .ok (.iaload, 1) := by decide +kernel
theorem dX0_dearestUntried_36 : decode cX0_dearestUntried 36 = .ok (.ifCond .ne 21, 3) := by decide +kernel
theorem dX0_dearestUntried_39 : decode cX0_dearestUntried 39 = .ok (.aload_n 1, 1) := by decide +kernel
theorem dX0_dearestUntried_40 : decode cX0_dearestUntried 40 = .ok (.getfield 93, 3) := by decide +kernel
theorem dX0_dearestUntried_43 : decode cX0_dearestUntried 43 = .ok (.iload 5, 2) := by decide +kernel
theorem dX0_dearestUntried_45 : decode cX0_dearestUntried 45 = .ok (.iaload, 1) := by decide +kernel
theorem dX0_dearestUntried_46 : decode cX0_dearestUntried 46 = .ok (.aload_n 1, 1) := by decide +kernel
theorem dX0_dearestUntried_47 : decode cX0_dearestUntried 47 = .ok (.invokevirtual 96, 3) := by decide +kernel
theorem dX0_dearestUntried_50 : decode cX0_dearestUntried 50 = .ok (.if_icmp .lt 7, 3) := by decide +kernel
theorem dX0_dearestUntried_53 : decode cX0_dearestUntried 53 = .ok (.iconst 1, 1) := by decide +kernel
theorem dX0_dearestUntried_54 : decode cX0_dearestUntried 54 = .ok (.goto 4, 3) := by decide +kernel
theorem dX0_dearestUntried_57 : decode cX0_dearestUntried 57 = .ok (.iconst 0, 1) := by decide +kernel
theorem dX0_dearestUntried_58 : decode cX0_dearestUntried 58 = .ok (.istore 6, 2) := by decide +kernel
theorem dX0_dearestUntried_60 : decode cX0_dearestUntried 60 = .ok (.iload 6, 2) := by decide +kernel
theorem dX0_dearestUntried_62 : decode cX0_dearestUntried 62 = .ok (.ifCond .eq 33, 3) := by decide +kernel
theorem dX0_dearestUntried_65 : decode cX0_dearestUntried 65 = .ok (.aload_n 0, 1) := by decide +kernel
theorem dX0_dearestUntried_66 : decode cX0_dearestUntried 66 = .ok (.getfield 18, 3) := by decide +kernel
theorem dX0_dearestUntried_69 : decode cX0_dearestUntried 69 = .ok (.getfield 100, 3) := by decide +kernel
theorem dX0_dearestUntried_72 : decode cX0_dearestUntried 72 = .ok (.iload 5, 2) := by decide +kernel
theorem dX0_dearestUntried_74 : decode cX0_dearestUntried 74 = .ok (.iaload, 1) := by decide +kernel
theorem dX0_dearestUntried_75 : decode cX0_dearestUntried 75 = .ok (.iload 4, 2) := by decide +kernel
theorem dX0_dearestUntried_77 : decode cX0_dearestUntried 77 = .ok (.if_icmp .le 18, 3) := by decide +kernel
theorem dX0_dearestUntried_80 : decode cX0_dearestUntried 80 = .ok (.aload_n 0, 1) := by decide +kernel
theorem dX0_dearestUntried_81 : decode cX0_dearestUntried 81 = .ok (.getfield 18, 3) := by decide +kernel
theorem dX0_dearestUntried_84 : decode cX0_dearestUntried 84 = .ok (.getfield 100, 3) := by decide +kernel
theorem dX0_dearestUntried_87 : decode cX0_dearestUntried 87 = .ok (.iload 5, 2) := by decide +kernel
theorem dX0_dearestUntried_89 : decode cX0_dearestUntried 89 = .ok (.iaload, 1) := by decide +kernel
theorem dX0_dearestUntried_90 : decode cX0_dearestUntried 90 = .ok (.istore 4, 2) := by decide +kernel
theorem dX0_dearestUntried_92 : decode cX0_dearestUntried 92 = .ok (.iload 5, 2) := by decide +kernel
theorem dX0_dearestUntried_94 : decode cX0_dearestUntried 94 = .ok (.istore_n 3, 1) := by decide +kernel
theorem dX0_dearestUntried_95 : decode cX0_dearestUntried 95 = .ok (.iinc 5 1, 3) := by decide +kernel
theorem dX0_dearestUntried_98 : decode cX0_dearestUntried 98 = .ok (.goto (-90), 3) := by decide +kernel
theorem dX0_dearestUntried_101 : decode cX0_dearestUntried 101 = .ok (.iload_n 3, 1) := by decide +kernel
theorem dX0_dearestUntried_102 : decode cX0_dearestUntried 102 = .ok (.ireturn, 1) := by decide +kernel
theorem dX0_canBeKept_0 : decode cX0_canBeKept 0 = .ok (.iconst 1, 1) := by decide +kernel
theorem dX0_canBeKept_1 : decode cX0_canBeKept 1 = .ok (.istore 4, 2) := by decide +kernel
theorem dX0_canBeKept_3 : decode cX0_canBeKept 3 = .ok (.iload 4, 2) := by decide +kernel
theorem dX0_canBeKept_5 : decode cX0_canBeKept 5 = .ok (.bipush 6, 2) := by decide +kernel
theorem dX0_canBeKept_7 : decode cX0_canBeKept 7 = .ok (.if_icmp .gt 75, 3) := by decide +kernel
theorem dX0_canBeKept_10 : decode cX0_canBeKept 10 = .ok (.iconst 0, 1) := by decide +kernel
theorem dX0_canBeKept_11 : decode cX0_canBeKept 11 = .ok (.istore 5, 2) := by decide +kernel
theorem dX0_canBeKept_13 : decode cX0_canBeKept 13 = .ok (.iconst 0, 1) := by decide +kernel
theorem dX0_canBeKept_14 : decode cX0_canBeKept 14 = .ok (.istore 6, 2) := by decide +kernel
theorem dX0_canBeKept_16 : decode cX0_canBeKept 16 = .ok (.iload 6, 2) := by decide +kernel
theorem dX0_canBeKept_18 : decode cX0_canBeKept 18 = .ok (.aload_n 0, 1) := by decide +kernel
theorem dX0_canBeKept_19 : decode cX0_canBeKept 19 = .ok (.getfield 18, 3) := by decide +kernel
theorem dX0_canBeKept_22 : decode cX0_canBeKept 22 = .ok (.getfield 40, 3) := by decide +kernel
theorem dX0_canBeKept_25 : decode cX0_canBeKept 25 = .ok (.if_icmp .ge 40, 3) := by decide +kernel
theorem dX0_canBeKept_28 : decode cX0_canBeKept 28 = .ok (.iload_n 2, 1) := by decide +kernel
theorem dX0_canBeKept_29 : decode cX0_canBeKept 29 = .ok (.iload 6, 2) := by decide +kernel
theorem dX0_canBeKept_31 : decode cX0_canBeKept 31 = .ok (.ishr, 1) := by decide +kernel
theorem dX0_canBeKept_32 : decode cX0_canBeKept 32 = .ok (.iconst 1, 1) := by decide +kernel
theorem dX0_canBeKept_33 : decode cX0_canBeKept 33 = .ok (.iand, 1) := by decide +kernel
theorem dX0_canBeKept_34 : decode cX0_canBeKept 34 = .ok (.ifCond .eq 25, 3) := by decide +kernel
theorem dX0_canBeKept_37 : decode cX0_canBeKept 37 = .ok (.aload_n 1, 1) := by decide +kernel
theorem dX0_canBeKept_38 : decode cX0_canBeKept 38 = .ok (.getfield 93, 3) := by decide +kernel
theorem dX0_canBeKept_41 : decode cX0_canBeKept 41 = .ok (.iload 6, 2) := by decide +kernel
theorem dX0_canBeKept_43 : decode cX0_canBeKept 43 = .ok (.iaload, 1) := by decide +kernel
theorem dX0_canBeKept_44 : decode cX0_canBeKept 44 = .ok (.aload_n 1, 1) := by decide +kernel
theorem dX0_canBeKept_45 : decode cX0_canBeKept 45 = .ok (.invokevirtual 96, 3) := by decide +kernel
theorem dX0_canBeKept_48 : decode cX0_canBeKept 48 = .ok (.isub, 1) := by decide +kernel
theorem dX0_canBeKept_49 : decode cX0_canBeKept 49 = .ok (.iconst 1, 1) := by decide +kernel
theorem dX0_canBeKept_50 : decode cX0_canBeKept 50 = .ok (.iadd, 1) := by decide +kernel
theorem dX0_canBeKept_51 : decode cX0_canBeKept 51 = .ok (.iload 4, 2) := by decide +kernel
theorem dX0_canBeKept_53 : decode cX0_canBeKept 53 = .ok (.if_icmp .gt 6, 3) := by decide +kernel
theorem dX0_canBeKept_56 : decode cX0_canBeKept 56 = .ok (.iinc 5 1, 3) := by decide +kernel
theorem dX0_canBeKept_59 : decode cX0_canBeKept 59 = .ok (.iinc 6 1, 3) := by decide +kernel
theorem dX0_canBeKept_62 : decode cX0_canBeKept 62 = .ok (.goto (-46), 3) := by decide +kernel
theorem dX0_canBeKept_65 : decode cX0_canBeKept 65 = .ok (.iload 5, 2) := by decide +kernel
theorem dX0_canBeKept_67 : decode cX0_canBeKept 67 = .ok (.iload_n 3, 1) := by decide +kernel
theorem dX0_canBeKept_68 : decode cX0_canBeKept 68 = .ok (.iload 4, 2) := by decide +kernel
theorem dX0_canBeKept_70 : decode cX0_canBeKept 70 = .ok (.imul, 1) := by decide +kernel
theorem dX0_canBeKept_71 : decode cX0_canBeKept 71 = .ok (.if_icmp .le 5, 3) := by decide +kernel
theorem dX0_canBeKept_74 : decode cX0_canBeKept 74 = .ok (.iconst 0, 1) := by decide +kernel
theorem dX0_canBeKept_75 : decode cX0_canBeKept 75 = .ok (.ireturn, 1) := by decide +kernel
theorem dX0_canBeKept_76 : decode cX0_canBeKept 76 = .ok (.iinc 4 1, 3) := by decide +kernel
theorem dX0_canBeKept_79 : decode cX0_canBeKept 79 = .ok (.goto (-76), 3) := by decide +kernel
theorem dX0_canBeKept_82 : decode cX0_canBeKept 82 = .ok (.iconst 1, 1) := by decide +kernel
theorem dX0_canBeKept_83 : decode cX0_canBeKept 83 = .ok (.ireturn, 1) := by decide +kernel
theorem dX0_findAshes_0 : decode cX0_findAshes 0 = .ok (.aload_n 0, 1) := by decide +kernel
theorem dX0_findAshes_1 : decode cX0_findAshes 1 = .ok (.iconst 0, 1) := by decide +kernel
theorem dX0_findAshes_2 : decode cX0_findAshes 2 = .ok (.putfield 103, 3) := by decide +kernel
theorem dX0_findAshes_5 : decode cX0_findAshes 5 = .ok (.aload_n 0, 1) := by decide +kernel
theorem dX0_findAshes_6 : decode cX0_findAshes 6 = .ok (.iconst 1, 1) := by decide +kernel
theorem dX0_findAshes_7 : decode cX0_findAshes 7 = .ok (.aload_n 0, 1) := by decide +kernel
theorem dX0_findAshes_8 : decode cX0_findAshes 8 = .ok (.getfield 18, 3) := by decide +kernel
theorem dX0_findAshes_11 : decode cX0_findAshes 11 = .ok (.getfield 40, 3) := by decide +kernel
theorem dX0_findAshes_14 : decode cX0_findAshes 14 = .ok (.ishl, 1) := by decide +kernel
theorem dX0_findAshes_15 : decode cX0_findAshes 15 = .ok (.iconst 1, 1) := by decide +kernel
theorem dX0_findAshes_16 : decode cX0_findAshes 16 = .ok (.isub, 1) := by decide +kernel
theorem dX0_findAshes_17 : decode cX0_findAshes 17 = .ok (.putfield 106, 3) := by decide +kernel
theorem dX0_findAshes_20 : decode cX0_findAshes 20 = .ok (.aload_n 0, 1) := by decide +kernel
theorem dX0_findAshes_21 : decode cX0_findAshes 21 = .ok (.iconst 0, 1) := by decide +kernel
theorem dX0_findAshes_22 : decode cX0_findAshes 22 = .ok (.putfield 109, 3) := by decide +kernel
theorem dX0_findAshes_25 : decode cX0_findAshes 25 = .ok (.aload_n 0, 1) := by decide +kernel
theorem dX0_findAshes_26 : decode cX0_findAshes 26 = .ok (.iconst 0, 1) := by decide +kernel
theorem dX0_findAshes_27 : decode cX0_findAshes 27 = .ok (.putfield 112, 3) := by decide +kernel
theorem dX0_findAshes_30 : decode cX0_findAshes 30 = .ok (.iconst 0, 1) := by decide +kernel
theorem dX0_findAshes_31 : decode cX0_findAshes 31 = .ok (.istore 4, 2) := by decide +kernel
theorem dX0_findAshes_33 : decode cX0_findAshes 33 = .ok (.iload 4, 2) := by decide +kernel
theorem dX0_findAshes_35 : decode cX0_findAshes 35 = .ok (.aload_n 0, 1) := by decide +kernel
theorem dX0_findAshes_36 : decode cX0_findAshes 36 = .ok (.getfield 18, 3) := by decide +kernel
theorem dX0_findAshes_39 : decode cX0_findAshes 39 = .ok (.getfield 40, 3) := by decide +kernel
theorem dX0_findAshes_42 : decode cX0_findAshes 42 = .ok (.if_icmp .ge 43, 3) := by decide +kernel
theorem dX0_findAshes_45 : decode cX0_findAshes 45 = .ok (.aload_n 1, 1) := by decide +kernel
theorem dX0_findAshes_46 : decode cX0_findAshes 46 = .ok (.getfield 62, 3) := by decide +kernel
theorem dX0_findAshes_49 : decode cX0_findAshes 49 = .ok (.iload 4, 2) := by decide +kernel
theorem dX0_findAshes_51 : decode cX0_findAshes 51 = .ok (.iaload, 1) := by decide +kernel
theorem dX0_findAshes_52 : decode cX0_findAshes 52 = .ok (.ifCond .eq 14, 3) := by decide +kernel
theorem dX0_findAshes_55 : decode cX0_findAshes 55 = .ok (.aload_n 1, 1) := by decide +kernel
theorem dX0_findAshes_56 : decode cX0_findAshes 56 = .ok (.getfield 62, 3) := by decide +kernel
theorem dX0_findAshes_59 : decode cX0_findAshes 59 = .ok (.iload 4, 2) := by decide +kernel
theorem dX0_findAshes_61 : decode cX0_findAshes 61 = .ok (.iaload, 1) := by decide +kernel
theorem dX0_findAshes_62 : decode cX0_findAshes 62 = .ok (.iconst 2, 1) := by decide +kernel
theorem dX0_findAshes_63 : decode cX0_findAshes 63 = .ok (.if_icmp .ne 16, 3) := by decide +kernel
theorem dX0_findAshes_66 : decode cX0_findAshes 66 = .ok (.aload_n 0, 1) := by decide +kernel
theorem dX0_findAshes_67 : decode cX0_findAshes 67 = .ok (.dup, 1) := by decide +kernel
theorem dX0_findAshes_68 : decode cX0_findAshes 68 = .ok (.getfield 112, 3) := by decide +kernel
theorem dX0_findAshes_71 : decode cX0_findAshes 71 = .ok (.iconst 1, 1) := by decide +kernel
theorem dX0_findAshes_72 : decode cX0_findAshes 72 = .ok (.iload 4, 2) := by decide +kernel
theorem dX0_findAshes_74 : decode cX0_findAshes 74 = .ok (.ishl, 1) := by decide +kernel
theorem dX0_findAshes_75 : decode cX0_findAshes 75 = .ok (.ior, 1) := by decide +kernel
theorem dX0_findAshes_76 : decode cX0_findAshes 76 = .ok (.putfield 112, 3) := by decide +kernel
theorem dX0_findAshes_79 : decode cX0_findAshes 79 = .ok (.iinc 4 1, 3) := by decide +kernel
theorem dX0_findAshes_82 : decode cX0_findAshes 82 = .ok (.goto (-49), 3) := by decide +kernel
theorem dX0_findAshes_85 : decode cX0_findAshes 85 = .ok (.aload_n 0, 1) := by decide +kernel
theorem dX0_findAshes_86 : decode cX0_findAshes 86 = .ok (.iconst 0, 1) := by decide +kernel
theorem dX0_findAshes_87 : decode cX0_findAshes 87 = .ok (.iload_n 2, 1) := by decide +kernel
theorem dX0_findAshes_88 : decode cX0_findAshes 88 = .ok (.iload_n 3, 1) := by decide +kernel
theorem dX0_findAshes_89 : decode cX0_findAshes 89 = .ok (.iconst 0, 1) := by decide +kernel
theorem dX0_findAshes_90 : decode cX0_findAshes 90 = .ok (.invokevirtual 115, 3) := by decide +kernel
theorem dX0_findAshes_93 : decode cX0_findAshes 93 = .ok (.return_, 1) := by decide +kernel
theorem dX0_tryAshes_0 : decode cX0_tryAshes 0 = .ok (.iload_n 2, 1) := by decide +kernel
theorem dX0_tryAshes_1 : decode cX0_tryAshes 1 = .ok (.ifCond .lt 7, 3) := by decide +kernel
theorem dX0_tryAshes_4 : decode cX0_tryAshes 4 = .ok (.iload_n 3, 1) := by decide +kernel
theorem dX0_tryAshes_5 : decode cX0_tryAshes 5 = .ok (.ifCond .ge 4, 3) := by decide +kernel
theorem dX0_tryAshes_8 : decode cX0_tryAshes 8 = .ok (.return_, 1) := by decide +kernel
theorem dX0_tryAshes_9 : decode cX0_tryAshes 9 = .ok (.iload_n 1, 1) := by decide +kernel
theorem dX0_tryAshes_10 : decode cX0_tryAshes 10 = .ok (.aload_n 0, 1) := by decide +kernel
theorem dX0_tryAshes_11 : decode cX0_tryAshes 11 = .ok (.getfield 18, 3) := by decide +kernel
theorem dX0_tryAshes_14 : decode cX0_tryAshes 14 = .ok (.getfield 40, 3) := by decide +kernel
theorem dX0_tryAshes_17 : decode cX0_tryAshes 17 = .ok (.if_icmp .lt 44, 3) := by decide +kernel
theorem dX0_tryAshes_20 : decode cX0_tryAshes 20 = .ok (.iload_n 2, 1) := by decide +kernel
theorem dX0_tryAshes_21 : decode cX0_tryAshes 21 = .ok (.ifCond .ne 39, 3) := by decide +kernel
theorem dX0_tryAshes_24 : decode cX0_tryAshes 24 = .ok (.iload_n 3, 1) := by decide +kernel
theorem dX0_tryAshes_25 : decode cX0_tryAshes 25 = .ok (.ifCond .ne 35, 3) := by decide +kernel
theorem dX0_tryAshes_28 : decode cX0_tryAshes 28 = .ok (.aload_n 0, 1) := by decide +kernel
theorem dX0_tryAshes_29 : decode cX0_tryAshes 29 = .ok (.dup, 1) := by decide +kernel
theorem dX0_tryAshes_30 : decode cX0_tryAshes 30 = .ok (.getfield 103, 3) := by decide +kernel
theorem dX0_tryAshes_33 : decode cX0_tryAshes 33 = .ok (.iconst 1, 1) := by decide +kernel
theorem dX0_tryAshes_34 : decode cX0_tryAshes 34 = .ok (.iadd, 1) := by decide +kernel
theorem dX0_tryAshes_35 : decode cX0_tryAshes 35 = .ok (.putfield 103, 3) := by decide +kernel
theorem dX0_tryAshes_38 : decode cX0_tryAshes 38 = .ok (.aload_n 0, 1) := by decide +kernel
theorem dX0_tryAshes_39 : decode cX0_tryAshes 39 = .ok (.dup, 1) := by decide +kernel
theorem dX0_tryAshes_40 : decode cX0_tryAshes 40 = .ok (.getfield 106, 3) := by decide +kernel
theorem dX0_tryAshes_43 : decode cX0_tryAshes 43 = .ok (.iload 4, 2) := by decide +kernel
theorem dX0_tryAshes_45 : decode cX0_tryAshes 45 = .ok (.iand, 1) := by decide +kernel
theorem dX0_tryAshes_46 : decode cX0_tryAshes 46 = .ok (.putfield 106, 3) := by decide +kernel
theorem dX0_tryAshes_49 : decode cX0_tryAshes 49 = .ok (.aload_n 0, 1) := by decide +kernel
theorem dX0_tryAshes_50 : decode cX0_tryAshes 50 = .ok (.dup, 1) := by decide +kernel
theorem dX0_tryAshes_51 : decode cX0_tryAshes 51 = .ok (.getfield 109, 3) := by decide +kernel
theorem dX0_tryAshes_54 : decode cX0_tryAshes 54 = .ok (.iload 4, 2) := by decide +kernel
theorem dX0_tryAshes_56 : decode cX0_tryAshes 56 = .ok (.ior, 1) := by decide +kernel
theorem dX0_tryAshes_57 : decode cX0_tryAshes 57 = .ok (.putfield 109, 3) := by decide +kernel
theorem dX0_tryAshes_60 : decode cX0_tryAshes 60 = .ok (.return_, 1) := by decide +kernel
theorem dX0_tryAshes_61 : decode cX0_tryAshes 61 = .ok (.aload_n 0, 1) := by decide +kernel
theorem dX0_tryAshes_62 : decode cX0_tryAshes 62 = .ok (.iload_n 1, 1) := by decide +kernel
theorem dX0_tryAshes_63 : decode cX0_tryAshes 63 = .ok (.iconst 1, 1) := by decide +kernel
theorem dX0_tryAshes_64 : decode cX0_tryAshes 64 = .ok (.iadd, 1) := by decide +kernel
theorem dX0_tryAshes_65 : decode cX0_tryAshes 65 = .ok (.iload_n 2, 1) := by decide +kernel
theorem dX0_tryAshes_66 : decode cX0_tryAshes 66 = .ok (.iload_n 3, 1) := by decide +kernel
theorem dX0_tryAshes_67 : decode cX0_tryAshes 67 = .ok (.iload 4, 2) := by decide +kernel
theorem dX0_tryAshes_69 : decode cX0_tryAshes 69 = .ok (.invokevirtual 115, 3) := by decide +kernel
theorem dX0_tryAshes_72 : decode cX0_tryAshes 72 = .ok (.aload_n 0, 1) := by decide +kernel
theorem dX0_tryAshes_73 : decode cX0_tryAshes 73 = .ok (.getfield 112, 3) := by decide +kernel
theorem dX0_tryAshes_76 : decode cX0_tryAshes 76 = .ok (.iload_n 1, 1) := by decide +kernel
theorem dX0_tryAshes_77 : decode cX0_tryAshes 77 = .ok (.ishr, 1) := by decide +kernel
theorem dX0_tryAshes_78 : decode cX0_tryAshes 78 = .ok (.iconst 1, 1) := by decide +kernel
theorem dX0_tryAshes_79 : decode cX0_tryAshes 79 = .ok (.iand, 1) := by decide +kernel
theorem dX0_tryAshes_80 : decode cX0_tryAshes 80 = .ok (.ifCond .eq 30, 3) := by decide +kernel
theorem dX0_tryAshes_83 : decode cX0_tryAshes 83 = .ok (.aload_n 0, 1) := by decide +kernel
theorem dX0_tryAshes_84 : decode cX0_tryAshes 84 = .ok (.iload_n 1, 1) := by decide +kernel
theorem dX0_tryAshes_85 : decode cX0_tryAshes 85 = .ok (.iconst 1, 1) := by decide +kernel
theorem dX0_tryAshes_86 : decode cX0_tryAshes 86 = .ok (.iadd, 1) := by decide +kernel
theorem dX0_tryAshes_87 : decode cX0_tryAshes 87 = .ok (.iload_n 2, 1) := by decide +kernel
theorem dX0_tryAshes_88 : decode cX0_tryAshes 88 = .ok (.aload_n 0, 1) := by decide +kernel
theorem dX0_tryAshes_89 : decode cX0_tryAshes 89 = .ok (.getfield 18, 3) := by decide +kernel
theorem dX0_tryAshes_92 : decode cX0_tryAshes 92 = .ok (.getfield 119, 3) := by decide +kernel
theorem dX0_tryAshes_95 : decode cX0_tryAshes 95 = .ok (.iload_n 1, 1) := by decide +kernel
theorem dX0_tryAshes_96 : decode cX0_tryAshes 96 = .ok (.iaload, 1) := by decide +kernel
theorem dX0_tryAshes_97 : decode cX0_tryAshes 97 = .ok (.isub, 1) := by decide +kernel
theorem dX0_tryAshes_98 : decode cX0_tryAshes 98 = .ok (.iload_n 3, 1) := by decide +kernel
theorem dX0_tryAshes_99 : decode cX0_tryAshes 99 = .ok (.iconst 1, 1) := by decide +kernel
theorem dX0_tryAshes_100 : decode cX0_tryAshes 100 = .ok (.isub, 1) := by decide +kernel
theorem dX0_tryAshes_101 : decode cX0_tryAshes 101 = .ok (.iload 4, 2) := by decide +kernel
theorem dX0_tryAshes_103 : decode cX0_tryAshes 103 = .ok (.iconst 1, 1) := by decide +kernel
theorem dX0_tryAshes_104 : decode cX0_tryAshes 104 = .ok (.iload_n 1, 1) := by decide +kernel
theorem dX0_tryAshes_105 : decode cX0_tryAshes 105 = .ok (.ishl, 1) := by decide +kernel
theorem dX0_tryAshes_106 : decode cX0_tryAshes 106 = .ok (.ior, 1) := by decide +kernel
theorem dX0_tryAshes_107 : decode cX0_tryAshes 107 = .ok (.invokevirtual 115, 3) := by decide +kernel
theorem dX0_tryAshes_110 : decode cX0_tryAshes 110 = .ok (.return_, 1) := by decide +kernel
theorem dX1_init_0 : decode cX1_init 0 = .ok (.aload_n 0, 1) := by decide +kernel
theorem dX1_init_1 : decode cX1_init 1 = .ok (.invokespecial 3, 3) := by decide +kernel
theorem dX1_init_4 : decode cX1_init 4 = .ok (.aload_n 0, 1) := by decide +kernel
theorem dX1_init_5 : decode cX1_init 5 = .ok (.bipush 12, 2) := by decide +kernel
theorem dX1_init_7 : decode cX1_init 7 = .ok (.newarray .int, 2) := by decide +kernel
theorem dX1_init_9 : decode cX1_init 9 = .ok (.putfield 9, 3) := by decide +kernel
theorem dX1_init_12 : decode cX1_init 12 = .ok (.aload_n 0, 1) := by decide +kernel
theorem dX1_init_13 : decode cX1_init 13 = .ok (.bipush 12, 2) := by decide +kernel
theorem dX1_init_15 : decode cX1_init 15 = .ok (.newarray .int, 2) := by decide +kernel
theorem dX1_init_17 : decode cX1_init 17 = .ok (.putfield 15, 3) := by decide +kernel
theorem dX1_init_20 : decode cX1_init 20 = .ok (.aload_n 0, 1) := by decide +kernel
theorem dX1_init_21 : decode cX1_init 21 = .ok (.iconst 5, 1) := by decide +kernel
theorem dX1_init_22 : decode cX1_init 22 = .ok (.newarray .int, 2) := by decide +kernel
theorem dX1_init_24 : decode cX1_init 24 = .ok (.putfield 18, 3) := by decide +kernel
theorem dX1_init_27 : decode cX1_init 27 = .ok (.aload_n 0, 1) := by decide +kernel
theorem dX1_init_28 : decode cX1_init 28 = .ok (.bipush 60, 2) := by decide +kernel
theorem dX1_init_30 : decode cX1_init 30 = .ok (.newarray .int, 2) := by decide +kernel
theorem dX1_init_32 : decode cX1_init 32 = .ok (.putfield 21, 3) := by decide +kernel
theorem dX1_init_35 : decode cX1_init 35 = .ok (.aload_n 0, 1) := by decide +kernel
theorem dX1_init_36 : decode cX1_init 36 = .ok (.bipush 120, 2) := by decide +kernel
theorem dX1_init_38 : decode cX1_init 38 = .ok (.newarray .int, 2) := by decide +kernel
theorem dX1_init_40 : decode cX1_init 40 = .ok (.putfield 24, 3) := by decide +kernel
theorem dX1_init_43 : decode cX1_init 43 = .ok (.aload_n 0, 1) := by decide +kernel
theorem dX1_init_44 : decode cX1_init 44 = .ok (.sipush 211, 3) := by decide +kernel
theorem dX1_init_47 : decode cX1_init 47 = .ok (.putfield 27, 3) := by decide +kernel
theorem dX1_init_50 : decode cX1_init 50 = .ok (.return_, 1) := by decide +kernel
theorem dX1_copyFrom_0 : decode cX1_copyFrom 0 = .ok (.aload_n 1, 1) := by decide +kernel
theorem dX1_copyFrom_1 : decode cX1_copyFrom 1 = .ok (.getfield 9, 3) := by decide +kernel
theorem dX1_copyFrom_4 : decode cX1_copyFrom 4 = .ok (.iconst 0, 1) := by decide +kernel
theorem dX1_copyFrom_5 : decode cX1_copyFrom 5 = .ok (.aload_n 0, 1) := by decide +kernel
theorem dX1_copyFrom_6 : decode cX1_copyFrom 6 = .ok (.getfield 9, 3) := by decide +kernel
theorem dX1_copyFrom_9 : decode cX1_copyFrom 9 = .ok (.iconst 0, 1) := by decide +kernel
theorem dX1_copyFrom_10 : decode cX1_copyFrom 10 = .ok (.aload_n 0, 1) := by decide +kernel
theorem dX1_copyFrom_11 : decode cX1_copyFrom 11 = .ok (.getfield 9, 3) := by decide +kernel
theorem dX1_copyFrom_14 : decode cX1_copyFrom 14 = .ok (.arraylength, 1) := by decide +kernel
theorem dX1_copyFrom_15 : decode cX1_copyFrom 15 = .ok (.invokestatic 31, 3) := by decide +kernel
theorem dX1_copyFrom_18 : decode cX1_copyFrom 18 = .ok (.aload_n 1, 1) := by decide +kernel
theorem dX1_copyFrom_19 : decode cX1_copyFrom 19 = .ok (.getfield 15, 3) := by decide +kernel
theorem dX1_copyFrom_22 : decode cX1_copyFrom 22 = .ok (.iconst 0, 1) := by decide +kernel
theorem dX1_copyFrom_23 : decode cX1_copyFrom 23 = .ok (.aload_n 0, 1) := by decide +kernel
theorem dX1_copyFrom_24 : decode cX1_copyFrom 24 = .ok (.getfield 15, 3) := by decide +kernel
theorem dX1_copyFrom_27 : decode cX1_copyFrom 27 = .ok (.iconst 0, 1) := by decide +kernel
theorem dX1_copyFrom_28 : decode cX1_copyFrom 28 = .ok (.aload_n 0, 1) := by decide +kernel
theorem dX1_copyFrom_29 : decode cX1_copyFrom 29 = .ok (.getfield 15, 3) := by decide +kernel
theorem dX1_copyFrom_32 : decode cX1_copyFrom 32 = .ok (.arraylength, 1) := by decide +kernel
theorem dX1_copyFrom_33 : decode cX1_copyFrom 33 = .ok (.invokestatic 31, 3) := by decide +kernel
theorem dX1_copyFrom_36 : decode cX1_copyFrom 36 = .ok (.aload_n 1, 1) := by decide +kernel
theorem dX1_copyFrom_37 : decode cX1_copyFrom 37 = .ok (.getfield 18, 3) := by decide +kernel
theorem dX1_copyFrom_40 : decode cX1_copyFrom 40 = .ok (.iconst 0, 1) := by decide +kernel
theorem dX1_copyFrom_41 : decode cX1_copyFrom 41 = .ok (.aload_n 0, 1) := by decide +kernel
theorem dX1_copyFrom_42 : decode cX1_copyFrom 42 = .ok (.getfield 18, 3) := by decide +kernel
theorem dX1_copyFrom_45 : decode cX1_copyFrom 45 = .ok (.iconst 0, 1) := by decide +kernel
theorem dX1_copyFrom_46 : decode cX1_copyFrom 46 = .ok (.aload_n 0, 1) := by decide +kernel
theorem dX1_copyFrom_47 : decode cX1_copyFrom 47 = .ok (.getfield 18, 3) := by decide +kernel
theorem dX1_copyFrom_50 : decode cX1_copyFrom 50 = .ok (.arraylength, 1) := by decide +kernel
theorem dX1_copyFrom_51 : decode cX1_copyFrom 51 = .ok (.invokestatic 31, 3) := by decide +kernel
theorem dX1_copyFrom_54 : decode cX1_copyFrom 54 = .ok (.aload_n 1, 1) := by decide +kernel
theorem dX1_copyFrom_55 : decode cX1_copyFrom 55 = .ok (.getfield 21, 3) := by decide +kernel
theorem dX1_copyFrom_58 : decode cX1_copyFrom 58 = .ok (.iconst 0, 1) := by decide +kernel
theorem dX1_copyFrom_59 : decode cX1_copyFrom 59 = .ok (.aload_n 0, 1) := by decide +kernel
theorem dX1_copyFrom_60 : decode cX1_copyFrom 60 = .ok (.getfield 21, 3) := by decide +kernel
theorem dX1_copyFrom_63 : decode cX1_copyFrom 63 = .ok (.iconst 0, 1) := by decide +kernel
theorem dX1_copyFrom_64 : decode cX1_copyFrom 64 = .ok (.aload_n 0, 1) := by decide +kernel
theorem dX1_copyFrom_65 : decode cX1_copyFrom 65 = .ok (.getfield 21, 3) := by decide +kernel
theorem dX1_copyFrom_68 : decode cX1_copyFrom 68 = .ok (.arraylength, 1) := by decide +kernel
theorem dX1_copyFrom_69 : decode cX1_copyFrom 69 = .ok (.invokestatic 31, 3) := by decide +kernel
theorem dX1_copyFrom_72 : decode cX1_copyFrom 72 = .ok (.aload_n 1, 1) := by decide +kernel
theorem dX1_copyFrom_73 : decode cX1_copyFrom 73 = .ok (.getfield 24, 3) := by decide +kernel
theorem dX1_copyFrom_76 : decode cX1_copyFrom 76 = .ok (.iconst 0, 1) := by decide +kernel
theorem dX1_copyFrom_77 : decode cX1_copyFrom 77 = .ok (.aload_n 0, 1) := by decide +kernel
theorem dX1_copyFrom_78 : decode cX1_copyFrom 78 = .ok (.getfield 24, 3) := by decide +kernel
theorem dX1_copyFrom_81 : decode cX1_copyFrom 81 = .ok (.iconst 0, 1) := by decide +kernel
theorem dX1_copyFrom_82 : decode cX1_copyFrom 82 = .ok (.aload_n 0, 1) := by decide +kernel
theorem dX1_copyFrom_83 : decode cX1_copyFrom 83 = .ok (.getfield 24, 3) := by decide +kernel
theorem dX1_copyFrom_86 : decode cX1_copyFrom 86 = .ok (.arraylength, 1) := by decide +kernel
theorem dX1_copyFrom_87 : decode cX1_copyFrom 87 = .ok (.invokestatic 31, 3) := by decide +kernel
theorem dX1_copyFrom_90 : decode cX1_copyFrom 90 = .ok (.aload_n 0, 1) := by decide +kernel
theorem dX1_copyFrom_91 : decode cX1_copyFrom 91 = .ok (.aload_n 1, 1) := by decide +kernel
theorem dX1_copyFrom_92 : decode cX1_copyFrom 92 = .ok (.getfield 37, 3) := by decide +kernel
theorem dX1_copyFrom_95 : decode cX1_copyFrom 95 = .ok (.putfield 37, 3) := by decide +kernel
theorem dX1_copyFrom_98 : decode cX1_copyFrom 98 = .ok (.aload_n 0, 1) := by decide +kernel
theorem dX1_copyFrom_99 : decode cX1_copyFrom 99 = .ok (.aload_n 1, 1) := by decide +kernel
theorem dX1_copyFrom_100 : decode cX1_copyFrom 100 = .ok (.getfield 40, 3) := by decide +kernel
theorem dX1_copyFrom_103 : decode cX1_copyFrom 103 = .ok (.putfield 40, 3) := by decide +kernel
theorem dX1_copyFrom_106 : decode cX1_copyFrom 106 = .ok (.aload_n 0, 1) := by decide +kernel
theorem dX1_copyFrom_107 : decode cX1_copyFrom 107 = .ok (.aload_n 1, 1) := by decide +kernel
theorem dX1_copyFrom_108 : decode cX1_copyFrom 108 = .ok (.getfield 43, 3) := by decide +kernel
theorem dX1_copyFrom_111 : decode cX1_copyFrom 111 = .ok (.putfield 43, 3) := by decide +kernel
theorem dX1_copyFrom_114 : decode cX1_copyFrom 114 = .ok (.aload_n 0, 1) := by decide +kernel
theorem dX1_copyFrom_115 : decode cX1_copyFrom 115 = .ok (.aload_n 1, 1) := by decide +kernel
theorem dX1_copyFrom_116 : decode cX1_copyFrom 116 = .ok (.getfield 27, 3) := by decide +kernel
theorem dX1_copyFrom_119 : decode cX1_copyFrom 119 = .ok (.putfield 27, 3) := by decide +kernel
theorem dX1_copyFrom_122 : decode cX1_copyFrom 122 = .ok (.return_, 1) := by decide +kernel
theorem dX1_saleFloor_0 : decode cX1_saleFloor 0 = .ok (.aload_n 0, 1) := by decide +kernel
theorem dX1_saleFloor_1 : decode cX1_saleFloor 1 = .ok (.getfield 43, 3) := by decide +kernel
theorem dX1_saleFloor_4 : decode cX1_saleFloor 4 = .ok (.iconst 5, 1) := by decide +kernel
theorem dX1_saleFloor_5 : decode cX1_saleFloor 5 = .ok (.invokestatic 46, 3) := by decide +kernel
theorem dX1_saleFloor_8 : decode cX1_saleFloor 8 = .ok (.ireturn, 1) := by decide +kernel
theorem dX1_keepsAt_0 : decode cX1_keepsAt 0 = .ok (.aload_n 0, 1) := by decide +kernel
theorem dX1_keepsAt_1 : decode cX1_keepsAt 1 = .ok (.getfield 9, 3) := by decide +kernel
theorem dX1_keepsAt_4 : decode cX1_keepsAt 4 = .ok (.iload_n 1, 1) := by decide +kernel
theorem dX1_keepsAt_5 : decode cX1_keepsAt 5 = .ok (.iaload, 1) := by decide +kernel
theorem dX1_keepsAt_6 : decode cX1_keepsAt 6 = .ok (.ifCond .ne 17, 3) := by decide +kernel
theorem dX1_keepsAt_9 : decode cX1_keepsAt 9 = .ok (.aload_n 0, 1) := by decide +kernel
theorem dX1_keepsAt_10 : decode cX1_keepsAt 10 = .ok (.getfield 15, 3) := by decide +kernel
theorem dX1_keepsAt_13 : decode cX1_keepsAt 13 = .ok (.iload_n 1, 1) := by decide +kernel
theorem dX1_keepsAt_14 : decode cX1_keepsAt 14 = .ok (.iaload, 1) := by decide +kernel
theorem dX1_keepsAt_15 : decode cX1_keepsAt 15 = .ok (.iload_n 2, 1) := by decide +kernel
theorem dX1_keepsAt_16 : decode cX1_keepsAt 16 = .ok (.if_icmp .ne 7, 3) := by decide +kernel
theorem dX1_keepsAt_19 : decode cX1_keepsAt 19 = .ok (.iconst 1, 1) := by decide +kernel
theorem dX1_keepsAt_20 : decode cX1_keepsAt 20 = .ok (.goto 4, 3) := by decide +kernel
theorem dX1_keepsAt_23 : decode cX1_keepsAt 23 = .ok (.iconst 0, 1) := by decide +kernel
theorem dX1_keepsAt_24 : decode cX1_keepsAt 24 = .ok (.ireturn, 1) := by decide +kernel
theorem dX1_lotsAt_0 : decode cX1_lotsAt 0 = .ok (.iconst 0, 1) := by decide +kernel
theorem dX1_lotsAt_1 : decode cX1_lotsAt 1 = .ok (.istore_n 3, 1) := by decide +kernel
theorem dX1_lotsAt_2 : decode cX1_lotsAt 2 = .ok (.iconst 0, 1) := by decide +kernel
theorem dX1_lotsAt_3 : decode cX1_lotsAt 3 = .ok (.istore 4, 2) := by decide +kernel
theorem dX1_lotsAt_5 : decode cX1_lotsAt 5 = .ok (.iload 4, 2) := by decide +kernel
theorem dX1_lotsAt_7 : decode cX1_lotsAt 7 = .ok (.iload_n 2, 1) := by decide +kernel
theorem dX1_lotsAt_8 : decode cX1_lotsAt 8 = .ok (.if_icmp .ge 26, 3) := by decide +kernel
theorem dX1_lotsAt_11 : decode cX1_lotsAt 11 = .ok (.aload_n 0, 1) := by decide +kernel
theorem dX1_lotsAt_12 : decode cX1_lotsAt 12 = .ok (.iload 4, 2) := by decide +kernel
theorem dX1_lotsAt_14 : decode cX1_lotsAt 14 = .ok (.iload_n 1, 1) := by decide +kernel
theorem dX1_lotsAt_15 : decode cX1_lotsAt 15 = .ok (.invokevirtual 52, 3) := by decide +kernel
theorem dX1_lotsAt_18 : decode cX1_lotsAt 18 = .ok (.ifCond .eq 10, 3) := by decide +kernel
theorem dX1_lotsAt_21 : decode cX1_lotsAt 21 = .ok (.iload_n 3, 1) := by decide +kernel
theorem dX1_lotsAt_22 : decode cX1_lotsAt 22 = .ok (.iconst 1, 1) := by decide +kernel
theorem dX1_lotsAt_23 : decode cX1_lotsAt 23 = .ok (.iload 4, 2) := by decide +kernel
theorem dX1_lotsAt_25 : decode cX1_lotsAt 25 = .ok (.ishl, 1) := by decide +kernel
theorem dX1_lotsAt_26 : decode cX1_lotsAt 26 = .ok (.ior, 1) := by decide +kernel
theorem dX1_lotsAt_27 : decode cX1_lotsAt 27 = .ok (.istore_n 3, 1) := by decide +kernel
theorem dX1_lotsAt_28 : decode cX1_lotsAt 28 = .ok (.iinc 4 1, 3) := by decide +kernel
theorem dX1_lotsAt_31 : decode cX1_lotsAt 31 = .ok (.goto (-26), 3) := by decide +kernel
theorem dX1_lotsAt_34 : decode cX1_lotsAt 34 = .ok (.iload_n 3, 1) := by decide +kernel
theorem dX1_lotsAt_35 : decode cX1_lotsAt 35 = .ok (.ireturn, 1) := by decide +kernel
theorem dX1_writeDown_0 : decode cX1_writeDown 0 = .ok (.aload_n 0, 1) := by decide +kernel
theorem dX1_writeDown_1 : decode cX1_writeDown 1 = .ok (.getfield 37, 3) := by decide +kernel
theorem dX1_writeDown_4 : decode cX1_writeDown 4 = .ok (.bipush 30, 2) := by decide +kernel
theorem dX1_writeDown_6 : decode cX1_writeDown 6 = .ok (.if_icmp .lt 29, 3) := by decide +kernel
theorem dX1_writeDown_9 : decode cX1_writeDown 9 = .ok (.aload_n 0, 1) := by decide +kernel
theorem dX1_writeDown_10 : decode cX1_writeDown 10 = .ok (.getfield 24, 3) := by decide +kernel
theorem dX1_writeDown_13 : decode cX1_writeDown 13 = .ok (.iconst 4, 1) := by decide +kernel
theorem dX1_writeDown_14 : decode cX1_writeDown 14 = .ok (.aload_n 0, 1) := by decide +kernel
theorem dX1_writeDown_15 : decode cX1_writeDown 15 = .ok (.getfield 24, 3) := by decide +kernel
theorem dX1_writeDown_18 : decode cX1_writeDown 18 = .ok (.iconst 0, 1) := by decide +kernel
theorem dX1_writeDown_19 : decode cX1_writeDown 19 = .ok (.aload_n 0, 1) := by decide +kernel
theorem dX1_writeDown_20 : decode cX1_writeDown 20 = .ok (.getfield 24, 3) := by decide +kernel
theorem dX1_writeDown_23 : decode cX1_writeDown 23 = .ok (.arraylength, 1) := by decide +kernel
theorem dX1_writeDown_24 : decode cX1_writeDown 24 = .ok (.iconst 4, 1) := by decide +kernel
theorem dX1_writeDown_25 : decode cX1_writeDown 25 = .ok (.isub, 1) := by decide +kernel
theorem dX1_writeDown_26 : decode cX1_writeDown 26 = .ok (.invokestatic 31, 3) := by decide +kernel
theorem dX1_writeDown_29 : decode cX1_writeDown 29 = .ok (.aload_n 0, 1) := by decide +kernel
theorem dX1_writeDown_30 : decode cX1_writeDown 30 = .ok (.bipush 29, 2) := by decide +kernel
theorem dX1_writeDown_32 : decode cX1_writeDown 32 = .ok (.putfield 37, 3) := by decide +kernel
theorem dX1_writeDown_35 : decode cX1_writeDown 35 = .ok (.aload_n 0, 1) := by decide +kernel
theorem dX1_writeDown_36 : decode cX1_writeDown 36 = .ok (.getfield 37, 3) := by decide +kernel
theorem dX1_writeDown_39 : decode cX1_writeDown 39 = .ok (.iconst 4, 1) := by decide +kernel
theorem dX1_writeDown_40 : decode cX1_writeDown 40 = .ok (.imul, 1) := by decide +kernel
theorem dX1_writeDown_41 : decode cX1_writeDown 41 = .ok (.istore 4, 2) := by decide +kernel
theorem dX1_writeDown_43 : decode cX1_writeDown 43 = .ok (.aload_n 0, 1) := by decide +kernel
theorem dX1_writeDown_44 : decode cX1_writeDown 44 = .ok (.getfield 24, 3) := by decide +kernel
theorem dX1_writeDown_47 : decode cX1_writeDown 47 = .ok (.iload 4, 2) := by decide +kernel
theorem dX1_writeDown_49 : decode cX1_writeDown 49 = .ok (.aload_n 0, 1) := by decide +kernel
theorem dX1_writeDown_50 : decode cX1_writeDown 50 = .ok (.getfield 43, 3) := by decide +kernel
theorem dX1_writeDown_53 : decode cX1_writeDown 53 = .ok (.iastore, 1) := by decide +kernel
theorem dX1_writeDown_54 : decode cX1_writeDown 54 = .ok (.aload_n 0, 1) := by decide +kernel
theorem dX1_writeDown_55 : decode cX1_writeDown 55 = .ok (.getfield 24, 3) := by decide +kernel
theorem dX1_writeDown_58 : decode cX1_writeDown 58 = .ok (.iload 4, 2) := by decide +kernel
theorem dX1_writeDown_60 : decode cX1_writeDown 60 = .ok (.iconst 1, 1) := by decide +kernel
theorem dX1_writeDown_61 : decode cX1_writeDown 61 = .ok (.iadd, 1) := by decide +kernel
theorem dX1_writeDown_62 : decode cX1_writeDown 62 = .ok (.iload_n 1, 1) := by decide +kernel
theorem dX1_writeDown_63 : decode cX1_writeDown 63 = .ok (.iastore, 1) := by decide +kernel
theorem dX1_writeDown_64 : decode cX1_writeDown 64 = .ok (.aload_n 0, 1) := by decide +kernel
theorem dX1_writeDown_65 : decode cX1_writeDown 65 = .ok (.getfield 24, 3) := by decide +kernel
theorem dX1_writeDown_68 : decode cX1_writeDown 68 = .ok (.iload 4, 2) := by decide +kernel
theorem dX1_writeDown_70 : decode cX1_writeDown 70 = .ok (.iconst 2, 1) := by decide +kernel
theorem dX1_writeDown_71 : decode cX1_writeDown 71 = .ok (.iadd, 1) := by decide +kernel
theorem dX1_writeDown_72 : decode cX1_writeDown 72 = .ok (.iload_n 2, 1) := by decide +kernel
theorem dX1_writeDown_73 : decode cX1_writeDown 73 = .ok (.iastore, 1) := by decide +kernel
theorem dX1_writeDown_74 : decode cX1_writeDown 74 = .ok (.aload_n 0, 1) := by decide +kernel
theorem dX1_writeDown_75 : decode cX1_writeDown 75 = .ok (.getfield 24, 3) := by decide +kernel
theorem dX1_writeDown_78 : decode cX1_writeDown 78 = .ok (.iload 4, 2) := by decide +kernel
theorem dX1_writeDown_80 : decode cX1_writeDown 80 = .ok (.iconst 3, 1) := by decide +kernel
theorem dX1_writeDown_81 : decode cX1_writeDown 81 = .ok (.iadd, 1) := by decide +kernel
theorem dX1_writeDown_82 : decode cX1_writeDown 82 = .ok (.iload_n 3, 1) := by decide +kernel
theorem dX1_writeDown_83 : decode cX1_writeDown 83 = .ok (.iastore, 1) := by decide +kernel
theorem dX1_writeDown_84 : decode cX1_writeDown 84 = .ok (.aload_n 0, 1) := by decide +kernel
theorem dX1_writeDown_85 : decode cX1_writeDown 85 = .ok (.dup, 1) := by decide +kernel
theorem dX1_writeDown_86 : decode cX1_writeDown 86 = .ok (.getfield 37, 3) := by decide +kernel
theorem dX1_writeDown_89 : decode cX1_writeDown 89 = .ok (.iconst 1, 1) := by decide +kernel
theorem dX1_writeDown_90 : decode cX1_writeDown 90 = .ok (.iadd, 1) := by decide +kernel
theorem dX1_writeDown_91 : decode cX1_writeDown 91 = .ok (.putfield 37, 3) := by decide +kernel
theorem dX1_writeDown_94 : decode cX1_writeDown 94 = .ok (.return_, 1) := by decide +kernel
theorem dX1_turnX_0 : decode cX1_turnX 0 = .ok (.aload_n 0, 1) := by decide +kernel
theorem dX1_turnX_1 : decode cX1_turnX 1 = .ok (.getfield 27, 3) := by decide +kernel
theorem dX1_turnX_4 : decode cX1_turnX 4 = .ok (.istore_n 1, 1) := by decide +kernel
theorem dX1_turnX_5 : decode cX1_turnX 5 = .ok (.aload_n 0, 1) := by decide +kernel
theorem dX1_turnX_6 : decode cX1_turnX 6 = .ok (.aload_n 0, 1) := by decide +kernel
theorem dX1_turnX_7 : decode cX1_turnX 7 = .ok (.getfield 27, 3) := by decide +kernel
theorem dX1_turnX_10 : decode cX1_turnX 10 = .ok (.sipush 449, 3) := by decide +kernel
theorem dX1_turnX_13 : decode cX1_turnX 13 = .ok (.imul, 1) := by decide +kernel
theorem dX1_turnX_14 : decode cX1_turnX 14 = .ok (.sipush 337, 3) := by decide +kernel
theorem dX1_turnX_17 : decode cX1_turnX 17 = .ok (.iadd, 1) := by decide +kernel
theorem dX1_turnX_18 : decode cX1_turnX 18 = .ok (.sipush 30593, 3) := by decide +kernel
theorem dX1_turnX_21 : decode cX1_turnX 21 = .ok (.irem, 1) := by decide +kernel
theorem dX1_turnX_22 : decode cX1_turnX 22 = .ok (.putfield 27, 3) := by decide +kernel
theorem dX1_turnX_25 : decode cX1_turnX 25 = .ok (.iload_n 1, 1) := by decide +kernel
theorem dX1_turnX_26 : decode cX1_turnX 26 = .ok (.ireturn, 1) := by decide +kernel
theorem dX10_init_0 : decode cX10_init 0 = .ok (.aload_n 0, 1) := by decide +kernel
theorem dX10_init_1 : decode cX10_init 1 = .ok (.invokespecial 3, 3) := by decide +kernel
theorem dX10_init_4 : decode cX10_init 4 = .ok (.aload_n 0, 1) := by decide +kernel
theorem dX10_init_5 : decode cX10_init 5 = .ok (.bipush 12, 2) := by decide +kernel
theorem dX10_init_7 : decode cX10_init 7 = .ok (.newarray .int, 2) := by decide +kernel
theorem dX10_init_9 : decode cX10_init 9 = .ok (.putfield 9, 3) := by decide +kernel
theorem dX10_init_12 : decode cX10_init 12 = .ok (.aload_n 0, 1) := by decide +kernel
theorem dX10_init_13 : decode cX10_init 13 = .ok (.bipush 12, 2) := by decide +kernel
theorem dX10_init_15 : decode cX10_init 15 = .ok (.newarray .int, 2) := by decide +kernel
theorem dX10_init_17 : decode cX10_init 17 = .ok (.putfield 15, 3) := by decide +kernel
theorem dX10_init_20 : decode cX10_init 20 = .ok (.aload_n 0, 1) := by decide +kernel
theorem dX10_init_21 : decode cX10_init 21 = .ok (.iconst 4, 1) := by decide +kernel
theorem dX10_init_22 : decode cX10_init 22 = .ok (.anewarray 18, 3) := by decide +kernel
theorem dX10_init_25 : decode cX10_init 25 = .ok (.putfield 20, 3) := by decide +kernel
theorem dX10_init_28 : decode cX10_init 28 = .ok (.aload_n 0, 1) := by decide +kernel
theorem dX10_init_29 : decode cX10_init 29 = .ok (.iconst (-1), 1) := by decide +kernel
theorem dX10_init_30 : decode cX10_init 30 = .ok (.putfield 24, 3) := by decide +kernel
theorem dX10_init_33 : decode cX10_init 33 = .ok (.aload_n 0, 1) := by decide +kernel
theorem dX10_init_34 : decode cX10_init 34 = .ok (.bipush 8, 2) := by decide +kernel
theorem dX10_init_36 : decode cX10_init 36 = .ok (.newarray .int, 2) := by decide +kernel
theorem dX10_init_38 : decode cX10_init 38 = .ok (.putfield 28, 3) := by decide +kernel
theorem dX10_init_41 : decode cX10_init 41 = .ok (.aload_n 0, 1) := by decide +kernel
theorem dX10_init_42 : decode cX10_init 42 = .ok (.bipush 8, 2) := by decide +kernel
theorem dX10_init_44 : decode cX10_init 44 = .ok (.newarray .int, 2) := by decide +kernel
theorem dX10_init_46 : decode cX10_init 46 = .ok (.putfield 31, 3) := by decide +kernel
theorem dX10_init_49 : decode cX10_init 49 = .ok (.aload_n 0, 1) := by decide +kernel
theorem dX10_init_50 : decode cX10_init 50 = .ok (.bipush 8, 2) := by decide +kernel
theorem dX10_init_52 : decode cX10_init 52 = .ok (.newarray .int, 2) := by decide +kernel
theorem dX10_init_54 : decode cX10_init 54 = .ok (.putfield 34, 3) := by decide +kernel
theorem dX10_init_57 : decode cX10_init 57 = .ok (.aload_n 0, 1) := by decide +kernel
theorem dX10_init_58 : decode cX10_init 58 = .ok (.bipush 8, 2) := by decide +kernel
theorem dX10_init_60 : decode cX10_init 60 = .ok (.newarray .int, 2) := by decide +kernel
theorem dX10_init_62 : decode cX10_init 62 = .ok (.putfield 37, 3) := by decide +kernel
theorem dX10_init_65 : decode cX10_init 65 = .ok (.aload_n 0, 1) := by decide +kernel
theorem dX10_init_66 : decode cX10_init 66 = .ok (.bipush 8, 2) := by decide +kernel
theorem dX10_init_68 : decode cX10_init 68 = .ok (.newarray .int, 2) := by decide +kernel
theorem dX10_init_70 : decode cX10_init 70 = .ok (.putfield 40, 3) := by decide +kernel
theorem dX10_init_73 : decode cX10_init 73 = .ok (.aload_n 0, 1) := by decide +kernel
theorem dX10_init_74 : decode cX10_init 74 = .ok (.new 43, 3) := by decide +kernel
theorem dX10_init_77 : decode cX10_init 77 = .ok (.dup, 1) := by decide +kernel
theorem dX10_init_78 : decode cX10_init 78 = .ok (.invokespecial 45, 3) := by decide +kernel
theorem dX10_init_81 : decode cX10_init 81 = .ok (.putfield 46, 3) := by decide +kernel
theorem dX10_init_84 : decode cX10_init 84 = .ok (.aload_n 0, 1) := by decide +kernel
theorem dX10_init_85 : decode cX10_init 85 = .ok (.new 50, 3) := by decide +kernel
theorem dX10_init_88 : decode cX10_init 88 = .ok (.dup, 1) := by decide +kernel
theorem dX10_init_89 : decode cX10_init 89 = .ok (.invokespecial 52, 3) := by decide +kernel
theorem dX10_init_92 : decode cX10_init 92 = .ok (.putfield 53, 3) := by decide +kernel
theorem dX10_init_95 : decode cX10_init 95 = .ok (.return_, 1) := by decide +kernel
theorem dX10_copyFrom_0 : decode cX10_copyFrom 0 = .ok (.aload_n 0, 1) := by decide +kernel
theorem dX10_copyFrom_1 : decode cX10_copyFrom 1 = .ok (.aload_n 1, 1) := by decide +kernel
theorem dX10_copyFrom_2 : decode cX10_copyFrom 2 = .ok (.getfield 57, 3) := by decide +kernel
theorem dX10_copyFrom_5 : decode cX10_copyFrom 5 = .ok (.putfield 57, 3) := by decide +kernel
theorem dX10_copyFrom_8 : decode cX10_copyFrom 8 = .ok (.aload_n 0, 1) := by decide +kernel
theorem dX10_copyFrom_9 : decode cX10_copyFrom 9 = .ok (.aload_n 1, 1) := by decide +kernel
theorem dX10_copyFrom_10 : decode cX10_copyFrom 10 = .ok (.getfield 60, 3) := by decide +kernel
theorem dX10_copyFrom_13 : decode cX10_copyFrom 13 = .ok (.putfield 60, 3) := by decide +kernel
theorem dX10_copyFrom_16 : decode cX10_copyFrom 16 = .ok (.aload_n 0, 1) := by decide +kernel
theorem dX10_copyFrom_17 : decode cX10_copyFrom 17 = .ok (.aload_n 1, 1) := by decide +kernel
theorem dX10_copyFrom_18 : decode cX10_copyFrom 18 = .ok (.getfield 63, 3) := by decide +kernel
theorem dX10_copyFrom_21 : decode cX10_copyFrom 21 = .ok (.putfield 63, 3) := by decide +kernel
theorem dX10_copyFrom_24 : decode cX10_copyFrom 24 = .ok (.aload_n 0, 1) := by decide +kernel
theorem dX10_copyFrom_25 : decode cX10_copyFrom 25 = .ok (.aload_n 1, 1) := by decide +kernel
theorem dX10_copyFrom_26 : decode cX10_copyFrom 26 = .ok (.getfield 24, 3) := by decide +kernel
theorem dX10_copyFrom_29 : decode cX10_copyFrom 29 = .ok (.putfield 24, 3) := by decide +kernel
theorem dX10_copyFrom_32 : decode cX10_copyFrom 32 = .ok (.aload_n 0, 1) := by decide +kernel
theorem dX10_copyFrom_33 : decode cX10_copyFrom 33 = .ok (.aload_n 1, 1) := by decide +kernel
theorem dX10_copyFrom_34 : decode cX10_copyFrom 34 = .ok (.getfield 66, 3) := by decide +kernel
theorem dX10_copyFrom_37 : decode cX10_copyFrom 37 = .ok (.putfield 66, 3) := by decide +kernel
theorem dX10_copyFrom_40 : decode cX10_copyFrom 40 = .ok (.aload_n 0, 1) := by decide +kernel
theorem dX10_copyFrom_41 : decode cX10_copyFrom 41 = .ok (.aload_n 1, 1) := by decide +kernel
theorem dX10_copyFrom_42 : decode cX10_copyFrom 42 = .ok (.getfield 69, 3) := by decide +kernel
theorem dX10_copyFrom_45 : decode cX10_copyFrom 45 = .ok (.putfield 69, 3) := by decide +kernel
theorem dX10_copyFrom_48 : decode cX10_copyFrom 48 = .ok (.aload_n 1, 1) := by decide +kernel
theorem dX10_copyFrom_49 : decode cX10_copyFrom 49 = .ok (.getfield 9, 3) := by decide +kernel
theorem dX10_copyFrom_52 : decode cX10_copyFrom 52 = .ok (.iconst 0, 1) := by decide +kernel
theorem dX10_copyFrom_53 : decode cX10_copyFrom 53 = .ok (.aload_n 0, 1) := by decide +kernel
theorem dX10_copyFrom_54 : decode cX10_copyFrom 54 = .ok (.getfield 9, 3) := by decide +kernel
theorem dX10_copyFrom_57 : decode cX10_copyFrom 57 = .ok (.iconst 0, 1) := by decide +kernel
theorem dX10_copyFrom_58 : decode cX10_copyFrom 58 = .ok (.aload_n 0, 1) := by decide +kernel
theorem dX10_copyFrom_59 : decode cX10_copyFrom 59 = .ok (.getfield 9, 3) := by decide +kernel
theorem dX10_copyFrom_62 : decode cX10_copyFrom 62 = .ok (.arraylength, 1) := by decide +kernel
theorem dX10_copyFrom_63 : decode cX10_copyFrom 63 = .ok (.invokestatic 72, 3) := by decide +kernel
theorem dX10_copyFrom_66 : decode cX10_copyFrom 66 = .ok (.aload_n 1, 1) := by decide +kernel
theorem dX10_copyFrom_67 : decode cX10_copyFrom 67 = .ok (.getfield 15, 3) := by decide +kernel
theorem dX10_copyFrom_70 : decode cX10_copyFrom 70 = .ok (.iconst 0, 1) := by decide +kernel
theorem dX10_copyFrom_71 : decode cX10_copyFrom 71 = .ok (.aload_n 0, 1) := by decide +kernel
theorem dX10_copyFrom_72 : decode cX10_copyFrom 72 = .ok (.getfield 15, 3) := by decide +kernel
theorem dX10_copyFrom_75 : decode cX10_copyFrom 75 = .ok (.iconst 0, 1) := by decide +kernel
theorem dX10_copyFrom_76 : decode cX10_copyFrom 76 = .ok (.aload_n 0, 1) := by decide +kernel
theorem dX10_copyFrom_77 : decode cX10_copyFrom 77 = .ok (.getfield 15, 3) := by decide +kernel
theorem dX10_copyFrom_80 : decode cX10_copyFrom 80 = .ok (.arraylength, 1) := by decide +kernel
theorem dX10_copyFrom_81 : decode cX10_copyFrom 81 = .ok (.invokestatic 72, 3) := by decide +kernel
theorem dX10_copyFrom_84 : decode cX10_copyFrom 84 = .ok (.aload_n 1, 1) := by decide +kernel
theorem dX10_copyFrom_85 : decode cX10_copyFrom 85 = .ok (.getfield 28, 3) := by decide +kernel
theorem dX10_copyFrom_88 : decode cX10_copyFrom 88 = .ok (.iconst 0, 1) := by decide +kernel
theorem dX10_copyFrom_89 : decode cX10_copyFrom 89 = .ok (.aload_n 0, 1) := by decide +kernel
theorem dX10_copyFrom_90 : decode cX10_copyFrom 90 = .ok (.getfield 28, 3) := by decide +kernel
theorem dX10_copyFrom_93 : decode cX10_copyFrom 93 = .ok (.iconst 0, 1) := by decide +kernel
theorem dX10_copyFrom_94 : decode cX10_copyFrom 94 = .ok (.bipush 8, 2) := by decide +kernel
theorem dX10_copyFrom_96 : decode cX10_copyFrom 96 = .ok (.invokestatic 72, 3) := by decide +kernel
theorem dX10_copyFrom_99 : decode cX10_copyFrom 99 = .ok (.aload_n 1, 1) := by decide +kernel
theorem dX10_copyFrom_100 : decode cX10_copyFrom 100 = .ok (.getfield 31, 3) := by decide +kernel
theorem dX10_copyFrom_103 : decode cX10_copyFrom 103 = .ok (.iconst 0, 1) := by decide +kernel
theorem dX10_copyFrom_104 : decode cX10_copyFrom 104 = .ok (.aload_n 0, 1) := by decide +kernel
theorem dX10_copyFrom_105 : decode cX10_copyFrom 105 = .ok (.getfield 31, 3) := by decide +kernel
theorem dX10_copyFrom_108 : decode cX10_copyFrom 108 = .ok (.iconst 0, 1) := by decide +kernel
theorem dX10_copyFrom_109 : decode cX10_copyFrom 109 = .ok (.bipush 8, 2) := by decide +kernel
theorem dX10_copyFrom_111 : decode cX10_copyFrom 111 = .ok (.invokestatic 72, 3) := by decide +kernel
theorem dX10_copyFrom_114 : decode cX10_copyFrom 114 = .ok (.aload_n 1, 1) := by decide +kernel
theorem dX10_copyFrom_115 : decode cX10_copyFrom 115 = .ok (.getfield 34, 3) := by decide +kernel
theorem dX10_copyFrom_118 : decode cX10_copyFrom 118 = .ok (.iconst 0, 1) := by decide +kernel
theorem dX10_copyFrom_119 : decode cX10_copyFrom 119 = .ok (.aload_n 0, 1) := by decide +kernel
theorem dX10_copyFrom_120 : decode cX10_copyFrom 120 = .ok (.getfield 34, 3) := by decide +kernel
theorem dX10_copyFrom_123 : decode cX10_copyFrom 123 = .ok (.iconst 0, 1) := by decide +kernel
theorem dX10_copyFrom_124 : decode cX10_copyFrom 124 = .ok (.bipush 8, 2) := by decide +kernel
theorem dX10_copyFrom_126 : decode cX10_copyFrom 126 = .ok (.invokestatic 72, 3) := by decide +kernel
theorem dX10_copyFrom_129 : decode cX10_copyFrom 129 = .ok (.aload_n 1, 1) := by decide +kernel
theorem dX10_copyFrom_130 : decode cX10_copyFrom 130 = .ok (.getfield 37, 3) := by decide +kernel
theorem dX10_copyFrom_133 : decode cX10_copyFrom 133 = .ok (.iconst 0, 1) := by decide +kernel
theorem dX10_copyFrom_134 : decode cX10_copyFrom 134 = .ok (.aload_n 0, 1) := by decide +kernel
theorem dX10_copyFrom_135 : decode cX10_copyFrom 135 = .ok (.getfield 37, 3) := by decide +kernel
theorem dX10_copyFrom_138 : decode cX10_copyFrom 138 = .ok (.iconst 0, 1) := by decide +kernel
theorem dX10_copyFrom_139 : decode cX10_copyFrom 139 = .ok (.bipush 8, 2) := by decide +kernel
theorem dX10_copyFrom_141 : decode cX10_copyFrom 141 = .ok (.invokestatic 72, 3) := by decide +kernel
theorem dX10_copyFrom_144 : decode cX10_copyFrom 144 = .ok (.aload_n 1, 1) := by decide +kernel
theorem dX10_copyFrom_145 : decode cX10_copyFrom 145 = .ok (.getfield 40, 3) := by decide +kernel
theorem dX10_copyFrom_148 : decode cX10_copyFrom 148 = .ok (.iconst 0, 1) := by decide +kernel
theorem dX10_copyFrom_149 : decode cX10_copyFrom 149 = .ok (.aload_n 0, 1) := by decide +kernel
theorem dX10_copyFrom_150 : decode cX10_copyFrom 150 = .ok (.getfield 40, 3) := by decide +kernel
theorem dX10_copyFrom_153 : decode cX10_copyFrom 153 = .ok (.iconst 0, 1) := by decide +kernel
theorem dX10_copyFrom_154 : decode cX10_copyFrom 154 = .ok (.bipush 8, 2) := by decide +kernel
theorem dX10_copyFrom_156 : decode cX10_copyFrom 156 = .ok (.invokestatic 72, 3) := by decide +kernel
theorem dX10_copyFrom_159 : decode cX10_copyFrom 159 = .ok (.aload_n 1, 1) := by decide +kernel
theorem dX10_copyFrom_160 : decode cX10_copyFrom 160 = .ok (.getfield 46, 3) := by decide +kernel
theorem dX10_copyFrom_163 : decode cX10_copyFrom 163 = .ok (.getfield 78, 3) := by decide +kernel
theorem dX10_copyFrom_166 : decode cX10_copyFrom 166 = .ok (.iconst 0, 1) := by decide +kernel
theorem dX10_copyFrom_167 : decode cX10_copyFrom 167 = .ok (.aload_n 0, 1) := by decide +kernel
theorem dX10_copyFrom_168 : decode cX10_copyFrom 168 = .ok (.getfield 46, 3) := by decide +kernel
theorem dX10_copyFrom_171 : decode cX10_copyFrom 171 = .ok (.getfield 78, 3) := by decide +kernel
theorem dX10_copyFrom_174 : decode cX10_copyFrom 174 = .ok (.iconst 0, 1) := by decide +kernel
theorem dX10_copyFrom_175 : decode cX10_copyFrom 175 = .ok (.bipush 6, 2) := by decide +kernel
theorem dX10_copyFrom_177 : decode cX10_copyFrom 177 = .ok (.invokestatic 72, 3) := by decide +kernel
theorem dX10_copyFrom_180 : decode cX10_copyFrom 180 = .ok (.aload_n 1, 1) := by decide +kernel
theorem dX10_copyFrom_181 : decode cX10_copyFrom 181 = .ok (.getfield 53, 3) := by decide +kernel
theorem dX10_copyFrom_184 : decode cX10_copyFrom 184 = .ok (.getfield 81, 3) := by decide +kernel
theorem dX10_copyFrom_187 : decode cX10_copyFrom 187 = .ok (.iconst 0, 1) := by decide +kernel
theorem dX10_copyFrom_188 : decode cX10_copyFrom 188 = .ok (.aload_n 0, 1) := by decide +kernel
theorem dX10_copyFrom_189 : decode cX10_copyFrom 189 = .ok (.getfield 53, 3) := by decide +kernel
theorem dX10_copyFrom_192 : decode cX10_copyFrom 192 = .ok (.getfield 81, 3) := by decide +kernel
theorem dX10_copyFrom_195 : decode cX10_copyFrom 195 = .ok (.iconst 0, 1) := by decide +kernel
theorem dX10_copyFrom_196 : decode cX10_copyFrom 196 = .ok (.bipush 6, 2) := by decide +kernel
theorem dX10_copyFrom_198 : decode cX10_copyFrom 198 = .ok (.invokestatic 72, 3) := by decide +kernel
theorem dX10_copyFrom_201 : decode cX10_copyFrom 201 = .ok (.iconst 0, 1) := by decide +kernel
theorem dX10_copyFrom_202 : decode cX10_copyFrom 202 = .ok (.istore_n 2, 1) := by decide +kernel
theorem dX10_copyFrom_203 : decode cX10_copyFrom 203 = .ok (.iload_n 2, 1) := by decide +kernel
theorem dX10_copyFrom_204 : decode cX10_copyFrom 204 = .ok (.iconst 4, 1) := by decide +kernel
theorem dX10_copyFrom_205 : decode cX10_copyFrom 205 = .ok (.if_icmp .ge 21, 3) := by decide +kernel
theorem dX10_copyFrom_208 : decode cX10_copyFrom 208 = .ok (.aload_n 0, 1) := by decide +kernel
theorem dX10_copyFrom_209 : decode cX10_copyFrom 209 = .ok (.getfield 20, 3) := by decide +kernel
theorem dX10_copyFrom_212 : decode cX10_copyFrom 212 = .ok (.iload_n 2, 1) := by decide +kernel
theorem dX10_copyFrom_213 : decode cX10_copyFrom 213 = .ok (.aload_n 1, 1) := by decide +kernel
theorem dX10_copyFrom_214 : decode cX10_copyFrom 214 = .ok (.getfield 20, 3) := by decide +kernel
theorem dX10_copyFrom_217 : decode cX10_copyFrom 217 = .ok (.iload_n 2, 1) := by decide +kernel
theorem dX10_copyFrom_218 : decode cX10_copyFrom 218 = .ok (.aaload, 1) := by decide +kernel
theorem dX10_copyFrom_219 : decode cX10_copyFrom 219 = .ok (.aastore, 1) := by decide +kernel
theorem dX10_copyFrom_220 : decode cX10_copyFrom 220 = .ok (.iinc 2 1, 3) := by decide +kernel
theorem dX10_copyFrom_223 : decode cX10_copyFrom 223 = .ok (.goto (-20), 3) := by decide +kernel
theorem dX10_copyFrom_226 : decode cX10_copyFrom 226 = .ok (.return_, 1) := by decide +kernel
theorem dX10_hasLot_0 : decode cX10_hasLot 0 = .ok (.iload_n 1, 1) := by decide +kernel
theorem dX10_hasLot_1 : decode cX10_hasLot 1 = .ok (.iconst 0, 1) := by decide +kernel
theorem dX10_hasLot_2 : decode cX10_hasLot 2 = .ok (.aload_n 0, 1) := by decide +kernel
theorem dX10_hasLot_3 : decode cX10_hasLot 3 = .ok (.getfield 57, 3) := by decide +kernel
theorem dX10_hasLot_6 : decode cX10_hasLot 6 = .ok (.iconst 1, 1) := by decide +kernel
theorem dX10_hasLot_7 : decode cX10_hasLot 7 = .ok (.isub, 1) := by decide +kernel
theorem dX10_hasLot_8 : decode cX10_hasLot 8 = .ok (.invokestatic 84, 3) := by decide +kernel
theorem dX10_hasLot_11 : decode cX10_hasLot 11 = .ok (.ireturn, 1) := by decide +kernel
theorem dX10_hasLots_0 : decode cX10_hasLots 0 = .ok (.iload_n 1, 1) := by decide +kernel
theorem dX10_hasLots_1 : decode cX10_hasLots 1 = .ok (.ifCond .lt 17, 3) := by decide +kernel
theorem dX10_hasLots_4 : decode cX10_hasLots 4 = .ok (.iload_n 1, 1) := by decide +kernel
theorem dX10_hasLots_5 : decode cX10_hasLots 5 = .ok (.iconst 1, 1) := by decide +kernel
theorem dX10_hasLots_6 : decode cX10_hasLots 6 = .ok (.aload_n 0, 1) := by decide +kernel
theorem dX10_hasLots_7 : decode cX10_hasLots 7 = .ok (.getfield 57, 3) := by decide +kernel
theorem dX10_hasLots_10 : decode cX10_hasLots 10 = .ok (.ishl, 1) := by decide +kernel
theorem dX10_hasLots_11 : decode cX10_hasLots 11 = .ok (.if_icmp .ge 7, 3) := by decide +kernel
theorem dX10_hasLots_14 : decode cX10_hasLots 14 = .ok (.iconst 1, 1) := by decide +kernel
theorem dX10_hasLots_15 : decode cX10_hasLots 15 = .ok (.goto 4, 3) := by decide +kernel
theorem dX10_hasLots_18 : decode cX10_hasLots 18 = .ok (.iconst 0, 1) := by decide +kernel
theorem dX10_hasLots_19 : decode cX10_hasLots 19 = .ok (.ireturn, 1) := by decide +kernel
theorem dX10_hasBidder_0 : decode cX10_hasBidder 0 = .ok (.iload_n 1, 1) := by decide +kernel
theorem dX10_hasBidder_1 : decode cX10_hasBidder 1 = .ok (.iconst 0, 1) := by decide +kernel
theorem dX10_hasBidder_2 : decode cX10_hasBidder 2 = .ok (.aload_n 0, 1) := by decide +kernel
theorem dX10_hasBidder_3 : decode cX10_hasBidder 3 = .ok (.getfield 60, 3) := by decide +kernel
theorem dX10_hasBidder_6 : decode cX10_hasBidder 6 = .ok (.iconst 1, 1) := by decide +kernel
theorem dX10_hasBidder_7 : decode cX10_hasBidder 7 = .ok (.isub, 1) := by decide +kernel
theorem dX10_hasBidder_8 : decode cX10_hasBidder 8 = .ok (.invokestatic 84, 3) := by decide +kernel
theorem dX10_hasBidder_11 : decode cX10_hasBidder 11 = .ok (.ireturn, 1) := by decide +kernel
theorem dX10_hasText_0 : decode cX10_hasText 0 = .ok (.iload_n 1, 1) := by decide +kernel
theorem dX10_hasText_1 : decode cX10_hasText 1 = .ok (.iconst 0, 1) := by decide +kernel
theorem dX10_hasText_2 : decode cX10_hasText 2 = .ok (.aload_n 0, 1) := by decide +kernel
theorem dX10_hasText_3 : decode cX10_hasText 3 = .ok (.getfield 63, 3) := by decide +kernel
theorem dX10_hasText_6 : decode cX10_hasText 6 = .ok (.iconst 1, 1) := by decide +kernel
theorem dX10_hasText_7 : decode cX10_hasText 7 = .ok (.isub, 1) := by decide +kernel
theorem dX10_hasText_8 : decode cX10_hasText 8 = .ok (.invokestatic 84, 3) := by decide +kernel
theorem dX10_hasText_11 : decode cX10_hasText 11 = .ok (.ireturn, 1) := by decide +kernel
theorem dX10_scriptOf_0 : decode cX10_scriptOf 0 = .ok (.iload_n 1, 1) := by decide +kernel
theorem dX10_scriptOf_1 : decode cX10_scriptOf 1 = .ok (.ifCond .lt 20, 3) := by decide +kernel
theorem dX10_scriptOf_4 : decode cX10_scriptOf 4 = .ok (.iload_n 1, 1) := by decide +kernel
theorem dX10_scriptOf_5 : decode cX10_scriptOf 5 = .ok (.aload_n 0, 1) := by decide +kernel
theorem dX10_scriptOf_6 : decode cX10_scriptOf 6 = .ok (.getfield 63, 3) := by decide +kernel
theorem dX10_scriptOf_9 : decode cX10_scriptOf 9 = .ok (.if_icmp .ge 12, 3) := by decide +kernel
theorem dX10_scriptOf_12 : decode cX10_scriptOf 12 = .ok (.aload_n 0, 1) := by decide +kernel
theorem dX10_scriptOf_13 : decode cX10_scriptOf 13 = .ok (.getfield 20, 3) := by decide +kernel
theorem dX10_scriptOf_16 : decode cX10_scriptOf 16 = .ok (.iload_n 1, 1) := by decide +kernel
theorem dX10_scriptOf_17 : decode cX10_scriptOf 17 = .ok (.aaload, 1) := by decide +kernel
theorem dX10_scriptOf_18 : decode cX10_scriptOf 18 = .ok (.goto 4, 3) := by decide +kernel
theorem dX10_scriptOf_21 : decode cX10_scriptOf 21 = .ok (.aconst_null, 1) := by decide +kernel
theorem dX10_scriptOf_22 : decode cX10_scriptOf 22 = .ok (.areturn, 1) := by decide +kernel
theorem dX11_init_0 : decode cX11_init 0 = .ok (.aload_n 0, 1) := by decide +kernel
theorem dX11_init_1 : decode cX11_init 1 = .ok (.invokespecial 1, 3) := by decide +kernel
theorem dX11_init_4 : decode cX11_init 4 = .ok (.aload_n 0, 1) := by decide +kernel
theorem dX11_init_5 : decode cX11_init 5 = .ok (.new 7, 3) := by decide +kernel
theorem dX11_init_8 : decode cX11_init 8 = .ok (.dup, 1) := by decide +kernel
theorem dX11_init_9 : decode cX11_init 9 = .ok (.invokespecial 9, 3) := by decide +kernel
theorem dX11_init_12 : decode cX11_init 12 = .ok (.putfield 10, 3) := by decide +kernel
theorem dX11_init_15 : decode cX11_init 15 = .ok (.aload_n 0, 1) := by decide +kernel
theorem dX11_init_16 : decode cX11_init 16 = .ok (.new 16, 3) := by decide +kernel
theorem dX11_init_19 : decode cX11_init 19 = .ok (.dup, 1) := by decide +kernel
theorem dX11_init_20 : decode cX11_init 20 = .ok (.invokespecial 18, 3) := by decide +kernel
theorem dX11_init_23 : decode cX11_init 23 = .ok (.putfield 19, 3) := by decide +kernel
theorem dX11_init_26 : decode cX11_init 26 = .ok (.aload_n 0, 1) := by decide +kernel
theorem dX11_init_27 : decode cX11_init 27 = .ok (.new 23, 3) := by decide +kernel
theorem dX11_init_30 : decode cX11_init 30 = .ok (.dup, 1) := by decide +kernel
theorem dX11_init_31 : decode cX11_init 31 = .ok (.invokespecial 25, 3) := by decide +kernel
theorem dX11_init_34 : decode cX11_init 34 = .ok (.putfield 26, 3) := by decide +kernel
theorem dX11_init_37 : decode cX11_init 37 = .ok (.aload_n 0, 1) := by decide +kernel
theorem dX11_init_38 : decode cX11_init 38 = .ok (.new 7, 3) := by decide +kernel
theorem dX11_init_41 : decode cX11_init 41 = .ok (.dup, 1) := by decide +kernel
theorem dX11_init_42 : decode cX11_init 42 = .ok (.invokespecial 9, 3) := by decide +kernel
theorem dX11_init_45 : decode cX11_init 45 = .ok (.putfield 30, 3) := by decide +kernel
theorem dX11_init_48 : decode cX11_init 48 = .ok (.aload_n 0, 1) := by decide +kernel
theorem dX11_init_49 : decode cX11_init 49 = .ok (.new 16, 3) := by decide +kernel
theorem dX11_init_52 : decode cX11_init 52 = .ok (.dup, 1) := by decide +kernel
theorem dX11_init_53 : decode cX11_init 53 = .ok (.invokespecial 18, 3) := by decide +kernel
theorem dX11_init_56 : decode cX11_init 56 = .ok (.putfield 33, 3) := by decide +kernel
theorem dX11_init_59 : decode cX11_init 59 = .ok (.aload_n 0, 1) := by decide +kernel
theorem dX11_init_60 : decode cX11_init 60 = .ok (.new 23, 3) := by decide +kernel
theorem dX11_init_63 : decode cX11_init 63 = .ok (.dup, 1) := by decide +kernel
theorem dX11_init_64 : decode cX11_init 64 = .ok (.invokespecial 25, 3) := by decide +kernel
theorem dX11_init_67 : decode cX11_init 67 = .ok (.putfield 36, 3) := by decide +kernel
theorem dX11_init_70 : decode cX11_init 70 = .ok (.aload_n 0, 1) := by decide +kernel
theorem dX11_init_71 : decode cX11_init 71 = .ok (.new 39, 3) := by decide +kernel
theorem dX11_init_74 : decode cX11_init 74 = .ok (.dup, 1) := by decide +kernel
theorem dX11_init_75 : decode cX11_init 75 = .ok (.invokespecial 41, 3) := by decide +kernel
theorem dX11_init_78 : decode cX11_init 78 = .ok (.putfield 42, 3) := by decide +kernel
theorem dX11_init_81 : decode cX11_init 81 = .ok (.aload_n 0, 1) := by decide +kernel
theorem dX11_init_82 : decode cX11_init 82 = .ok (.new 46, 3) := by decide +kernel
theorem dX11_init_85 : decode cX11_init 85 = .ok (.dup, 1) := by decide +kernel
theorem dX11_init_86 : decode cX11_init 86 = .ok (.aload_n 0, 1) := by decide +kernel
theorem dX11_init_87 : decode cX11_init 87 = .ok (.getfield 42, 3) := by decide +kernel
theorem dX11_init_90 : decode cX11_init 90 = .ok (.invokespecial 48, 3) := by decide +kernel
theorem dX11_init_93 : decode cX11_init 93 = .ok (.putfield 51, 3) := by decide +kernel
theorem dX11_init_96 : decode cX11_init 96 = .ok (.aload_n 0, 1) := by decide +kernel
theorem dX11_init_97 : decode cX11_init 97 = .ok (.new 55, 3) := by decide +kernel
theorem dX11_init_100 : decode cX11_init 100 = .ok (.dup, 1) := by decide +kernel
theorem dX11_init_101 : decode cX11_init 101 = .ok (.aload_n 0, 1) := by decide +kernel
theorem dX11_init_102 : decode cX11_init 102 = .ok (.getfield 10, 3) := by decide +kernel
theorem dX11_init_105 : decode cX11_init 105 = .ok (.invokespecial 57, 3) := by decide +kernel
theorem dX11_init_108 : decode cX11_init 108 = .ok (.putfield 60, 3) := by decide +kernel
theorem dX11_init_111 : decode cX11_init 111 = .ok (.aload_n 0, 1) := by decide +kernel
theorem dX11_init_112 : decode cX11_init 112 = .ok (.new 64, 3) := by decide +kernel
theorem dX11_init_115 : decode cX11_init 115 = .ok (.dup, 1) := by decide +kernel
theorem dX11_init_116 : decode cX11_init 116 = .ok (.aload_n 0, 1) := by decide +kernel
theorem dX11_init_117 : decode cX11_init 117 = .ok (.getfield 10, 3) := by decide +kernel
theorem dX11_init_120 : decode cX11_init 120 = .ok (.aload_n 0, 1) := by decide +kernel
theorem dX11_init_121 : decode cX11_init 121 = .ok (.getfield 60, 3) := by decide +kernel
theorem dX11_init_124 : decode cX11_init 124 = .ok (.invokespecial 66, 3) := by decide +kernel
theorem dX11_init_127 : decode cX11_init 127 = .ok (.putfield 69, 3) := by decide +kernel
theorem dX11_init_130 : decode cX11_init 130 = .ok (.aload_n 0, 1) := by decide +kernel
theorem dX11_init_131 : decode cX11_init 131 = .ok (.new 16, 3) := by decide +kernel
theorem dX11_init_134 : decode cX11_init 134 = .ok (.dup, 1) := by decide +kernel
theorem dX11_init_135 : decode cX11_init 135 = .ok (.invokespecial 18, 3) := by decide +kernel
theorem dX11_init_138 : decode cX11_init 138 = .ok (.putfield 73, 3) := by decide +kernel
theorem dX11_init_141 : decode cX11_init 141 = .ok (.return_, 1) := by decide +kernel
theorem dX11_lot_0 : decode cX11_lot 0 = .ok (.iload_n 1, 1) := by decide +kernel
theorem dX11_lot_1 : decode cX11_lot 1 = .ok (.iconst 0, 1) := by decide +kernel
theorem dX11_lot_2 : decode cX11_lot 2 = .ok (.iconst 5, 1) := by decide +kernel
theorem dX11_lot_3 : decode cX11_lot 3 = .ok (.invokestatic 76, 3) := by decide +kernel
theorem dX11_lot_6 : decode cX11_lot 6 = .ok (.ifCond .eq 23, 3) := by decide +kernel
theorem dX11_lot_9 : decode cX11_lot 9 = .ok (.iload_n 2, 1) := by decide +kernel
theorem dX11_lot_10 : decode cX11_lot 10 = .ok (.iconst 0, 1) := by decide +kernel
theorem dX11_lot_11 : decode cX11_lot 11 = .ok (.bipush 99, 2) := by decide +kernel
theorem dX11_lot_13 : decode cX11_lot 13 = .ok (.invokestatic 76, 3) := by decide +kernel
theorem dX11_lot_16 : decode cX11_lot 16 = .ok (.ifCond .eq 13, 3) := by decide +kernel
theorem dX11_lot_19 : decode cX11_lot 19 = .ok (.iload_n 3, 1) := by decide +kernel
theorem dX11_lot_20 : decode cX11_lot 20 = .ok (.iconst 1, 1) := by decide +kernel
theorem dX11_lot_21 : decode cX11_lot 21 = .ok (.bipush 9, 2) := by decide +kernel
theorem dX11_lot_23 : decode cX11_lot 23 = .ok (.invokestatic 76, 3) := by decide +kernel
theorem dX11_lot_26 : decode cX11_lot 26 = .ok (.ifCond .ne 5, 3) := by decide +kernel
theorem dX11_lot_29 : decode cX11_lot 29 = .ok (.iconst (-1), 1) := by decide +kernel
theorem dX11_lot_30 : decode cX11_lot 30 = .ok (.ireturn, 1) := by decide +kernel
theorem dX11_lot_31 : decode cX11_lot 31 = .ok (.aload_n 0, 1) := by decide +kernel
theorem dX11_lot_32 : decode cX11_lot 32 = .ok (.getfield 10, 3) := by decide +kernel
theorem dX11_lot_35 : decode cX11_lot 35 = .ok (.getfield 80, 3) := by decide +kernel
theorem dX11_lot_38 : decode cX11_lot 38 = .ok (.bipush 12, 2) := by decide +kernel
theorem dX11_lot_40 : decode cX11_lot 40 = .ok (.if_icmp .lt 5, 3) := by decide +kernel
theorem dX11_lot_43 : decode cX11_lot 43 = .ok (.iconst (-1), 1) := by decide +kernel
theorem dX11_lot_44 : decode cX11_lot 44 = .ok (.ireturn, 1) := by decide +kernel
theorem dX11_lot_45 : decode cX11_lot 45 = .ok (.aload_n 0, 1) := by decide +kernel
theorem dX11_lot_46 : decode cX11_lot 46 = .ok (.getfield 10, 3) := by decide +kernel
theorem dX11_lot_49 : decode cX11_lot 49 = .ok (.getfield 80, 3) := by decide +kernel
theorem dX11_lot_52 : decode cX11_lot 52 = .ok (.istore 4, 2) := by decide +kernel
theorem dX11_lot_54 : decode cX11_lot 54 = .ok (.aload_n 0, 1) := by decide +kernel
theorem dX11_lot_55 : decode cX11_lot 55 = .ok (.getfield 10, 3) := by decide +kernel
theorem dX11_lot_58 : decode cX11_lot 58 = .ok (.getfield 84, 3) := by decide +kernel
theorem dX11_lot_61 : decode cX11_lot 61 = .ok (.iload 4, 2) := by decide +kernel
theorem dX11_lot_63 : decode cX11_lot 63 = .ok (.iload_n 2, 1) := by decide +kernel
theorem dX11_lot_64 : decode cX11_lot 64 = .ok (.iastore, 1) := by decide +kernel
theorem dX11_lot_65 : decode cX11_lot 65 = .ok (.aload_n 0, 1) := by decide +kernel
theorem dX11_lot_66 : decode cX11_lot 66 = .ok (.getfield 10, 3) := by decide +kernel
theorem dX11_lot_69 : decode cX11_lot 69 = .ok (.getfield 88, 3) := by decide +kernel
theorem dX11_lot_72 : decode cX11_lot 72 = .ok (.iload 4, 2) := by decide +kernel
theorem dX11_lot_74 : decode cX11_lot 74 = .ok (.iload_n 3, 1) := by decide +kernel
theorem dX11_lot_75 : decode cX11_lot 75 = .ok (.iastore, 1) := by decide +kernel
theorem dX11_lot_76 : decode cX11_lot 76 = .ok (.aload_n 0, 1) := by decide +kernel
theorem dX11_lot_77 : decode cX11_lot 77 = .ok (.getfield 10, 3) := by decide +kernel
theorem dX11_lot_80 : decode cX11_lot 80 = .ok (.dup, 1) := by decide +kernel
theorem dX11_lot_81 : decode cX11_lot 81 = .ok (.getfield 80, 3) := by decide +kernel
theorem dX11_lot_84 : decode cX11_lot 84 = .ok (.iconst 1, 1) := by decide +kernel
theorem dX11_lot_85 : decode cX11_lot 85 = .ok (.iadd, 1) := by decide +kernel
theorem dX11_lot_86 : decode cX11_lot 86 = .ok (.putfield 80, 3) := by decide +kernel
theorem dX11_lot_89 : decode cX11_lot 89 = .ok (.aload_n 0, 1) := by decide +kernel
theorem dX11_lot_90 : decode cX11_lot 90 = .ok (.getfield 19, 3) := by decide +kernel
theorem dX11_lot_93 : decode cX11_lot 93 = .ok (.getfield 91, 3) := by decide +kernel
theorem dX11_lot_96 : decode cX11_lot 96 = .ok (.iload 4, 2) := by decide +kernel
theorem dX11_lot_98 : decode cX11_lot 98 = .ok (.iload_n 1, 1) := by decide +kernel
theorem dX11_lot_99 : decode cX11_lot 99 = .ok (.iastore, 1) := by decide +kernel
theorem dX11_lot_100 : decode cX11_lot 100 = .ok (.aload_n 0, 1) := by decide +kernel
theorem dX11_lot_101 : decode cX11_lot 101 = .ok (.getfield 26, 3) := by decide +kernel
theorem dX11_lot_104 : decode cX11_lot 104 = .ok (.iload 4, 2) := by decide +kernel
theorem dX11_lot_106 : decode cX11_lot 106 = .ok (.iload_n 1, 1) := by decide +kernel
theorem dX11_lot_107 : decode cX11_lot 107 = .ok (.invokevirtual 94, 3) := by decide +kernel
theorem dX11_lot_110 : decode cX11_lot 110 = .ok (.iload 4, 2) := by decide +kernel
theorem dX11_lot_112 : decode cX11_lot 112 = .ok (.ireturn, 1) := by decide +kernel
theorem dX11_bidder_0 : decode cX11_bidder 0 = .ok (.iload_n 1, 1) := by decide +kernel
theorem dX11_bidder_1 : decode cX11_bidder 1 = .ok (.iconst 0, 1) := by decide +kernel
theorem dX11_bidder_2 : decode cX11_bidder 2 = .ok (.sipush 9999, 3) := by decide +kernel
theorem dX11_bidder_5 : decode cX11_bidder 5 = .ok (.invokestatic 76, 3) := by decide +kernel
theorem dX11_bidder_8 : decode cX11_bidder 8 = .ok (.ifCond .eq 14, 3) := by decide +kernel
theorem dX11_bidder_11 : decode cX11_bidder 11 = .ok (.aload_n 0, 1) := by decide +kernel
theorem dX11_bidder_12 : decode cX11_bidder 12 = .ok (.getfield 10, 3) := by decide +kernel
theorem dX11_bidder_15 : decode cX11_bidder 15 = .ok (.getfield 98, 3) := by decide +kernel
theorem dX11_bidder_18 : decode cX11_bidder 18 = .ok (.iconst 5, 1) := by decide +kernel
theorem dX11_bidder_19 : decode cX11_bidder 19 = .ok (.if_icmp .lt 5, 3) := by decide +kernel
theorem dX11_bidder_22 : decode cX11_bidder 22 = .ok (.iconst (-1), 1) := by decide +kernel
theorem dX11_bidder_23 : decode cX11_bidder 23 = .ok (.ireturn, 1) := by decide +kernel
theorem dX11_bidder_24 : decode cX11_bidder 24 = .ok (.aload_n 0, 1) := by decide +kernel
theorem dX11_bidder_25 : decode cX11_bidder 25 = .ok (.getfield 10, 3) := by decide +kernel
theorem dX11_bidder_28 : decode cX11_bidder 28 = .ok (.getfield 98, 3) := by decide +kernel
theorem dX11_bidder_31 : decode cX11_bidder 31 = .ok (.istore_n 2, 1) := by decide +kernel
theorem dX11_bidder_32 : decode cX11_bidder 32 = .ok (.aload_n 0, 1) := by decide +kernel
theorem dX11_bidder_33 : decode cX11_bidder 33 = .ok (.getfield 10, 3) := by decide +kernel
theorem dX11_bidder_36 : decode cX11_bidder 36 = .ok (.dup, 1) := by decide +kernel
theorem dX11_bidder_37 : decode cX11_bidder 37 = .ok (.getfield 98, 3) := by decide +kernel
theorem dX11_bidder_40 : decode cX11_bidder 40 = .ok (.iconst 1, 1) := by decide +kernel
theorem dX11_bidder_41 : decode cX11_bidder 41 = .ok (.iadd, 1) := by decide +kernel
theorem dX11_bidder_42 : decode cX11_bidder 42 = .ok (.putfield 98, 3) := by decide +kernel
theorem dX11_bidder_45 : decode cX11_bidder 45 = .ok (.aload_n 0, 1) := by decide +kernel
theorem dX11_bidder_46 : decode cX11_bidder 46 = .ok (.getfield 19, 3) := by decide +kernel
theorem dX11_bidder_49 : decode cX11_bidder 49 = .ok (.getfield 101, 3) := by decide +kernel
theorem dX11_bidder_52 : decode cX11_bidder 52 = .ok (.iload_n 2, 1) := by decide +kernel
theorem dX11_bidder_53 : decode cX11_bidder 53 = .ok (.iload_n 1, 1) := by decide +kernel
theorem dX11_bidder_54 : decode cX11_bidder 54 = .ok (.iastore, 1) := by decide +kernel
theorem dX11_bidder_55 : decode cX11_bidder 55 = .ok (.aload_n 0, 1) := by decide +kernel
theorem dX11_bidder_56 : decode cX11_bidder 56 = .ok (.getfield 26, 3) := by decide +kernel
theorem dX11_bidder_59 : decode cX11_bidder 59 = .ok (.iload_n 2, 1) := by decide +kernel
theorem dX11_bidder_60 : decode cX11_bidder 60 = .ok (.iload_n 1, 1) := by decide +kernel
theorem dX11_bidder_61 : decode cX11_bidder 61 = .ok (.invokevirtual 104, 3) := by decide +kernel
theorem dX11_bidder_64 : decode cX11_bidder 64 = .ok (.iload_n 2, 1) := by decide +kernel
theorem dX11_bidder_65 : decode cX11_bidder 65 = .ok (.ireturn, 1) := by decide +kernel
theorem dX11_want_0 : decode cX11_want 0 = .ok (.aload_n 0, 1) := by decide +kernel
theorem dX11_want_1 : decode cX11_want 1 = .ok (.getfield 10, 3) := by decide +kernel
theorem dX11_want_4 : decode cX11_want 4 = .ok (.iload_n 1, 1) := by decide +kernel
theorem dX11_want_5 : decode cX11_want 5 = .ok (.invokevirtual 107, 3) := by decide +kernel
theorem dX11_want_8 : decode cX11_want 8 = .ok (.ifCond .eq 24, 3) := by decide +kernel
theorem dX11_want_11 : decode cX11_want 11 = .ok (.aload_n 0, 1) := by decide +kernel
theorem dX11_want_12 : decode cX11_want 12 = .ok (.getfield 10, 3) := by decide +kernel
theorem dX11_want_15 : decode cX11_want 15 = .ok (.iload_n 2, 1) := by decide +kernel
theorem dX11_want_16 : decode cX11_want 16 = .ok (.invokevirtual 111, 3) := by decide +kernel
theorem dX11_want_19 : decode cX11_want 19 = .ok (.ifCond .eq 13, 3) := by decide +kernel
theorem dX11_want_22 : decode cX11_want 22 = .ok (.iload_n 3, 1) := by decide +kernel
theorem dX11_want_23 : decode cX11_want 23 = .ok (.iconst 0, 1) := by decide +kernel
theorem dX11_want_24 : decode cX11_want 24 = .ok (.bipush 99, 2) := by decide +kernel
theorem dX11_want_26 : decode cX11_want 26 = .ok (.invokestatic 76, 3) := by decide +kernel
theorem dX11_want_29 : decode cX11_want 29 = .ok (.ifCond .ne 5, 3) := by decide +kernel
theorem dX11_want_32 : decode cX11_want 32 = .ok (.iconst 0, 1) := by decide +kernel
theorem dX11_want_33 : decode cX11_want 33 = .ok (.ireturn, 1) := by decide +kernel
theorem dX11_want_34 : decode cX11_want 34 = .ok (.aload_n 0, 1) := by decide +kernel
theorem dX11_want_35 : decode cX11_want 35 = .ok (.getfield 19, 3) := by decide +kernel
theorem dX11_want_38 : decode cX11_want 38 = .ok (.getfield 114, 3) := by decide +kernel
theorem dX11_want_41 : decode cX11_want 41 = .ok (.iload_n 1, 1) := by decide +kernel
theorem dX11_want_42 : decode cX11_want 42 = .ok (.iload_n 2, 1) := by decide +kernel
theorem dX11_want_43 : decode cX11_want 43 = .ok (.invokestatic 117, 3) := by decide +kernel
theorem dX11_want_46 : decode cX11_want 46 = .ok (.iload_n 3, 1) := by decide +kernel
theorem dX11_want_47 : decode cX11_want 47 = .ok (.iastore, 1) := by decide +kernel
theorem dX11_want_48 : decode cX11_want 48 = .ok (.aload_n 0, 1) := by decide +kernel
theorem dX11_want_49 : decode cX11_want 49 = .ok (.getfield 26, 3) := by decide +kernel
theorem dX11_want_52 : decode cX11_want 52 = .ok (.iload_n 1, 1) := by decide +kernel
theorem dX11_want_53 : decode cX11_want 53 = .ok (.iload_n 2, 1) := by decide +kernel
theorem dX11_want_54 : decode cX11_want 54 = .ok (.invokestatic 117, 3) := by decide +kernel
theorem dX11_want_57 : decode cX11_want 57 = .ok (.iload_n 3, 1) := by decide +kernel
theorem dX11_want_58 : decode cX11_want 58 = .ok (.invokevirtual 121, 3) := by decide +kernel
theorem dX11_want_61 : decode cX11_want 61 = .ok (.iconst 1, 1) := by decide +kernel
theorem dX11_want_62 : decode cX11_want 62 = .ok (.ireturn, 1) := by decide +kernel
theorem dX11_feed_0 : decode cX11_feed 0 = .ok (.aload_n 0, 1) := by decide +kernel
theorem dX11_feed_1 : decode cX11_feed 1 = .ok (.getfield 42, 3) := by decide +kernel
theorem dX11_feed_4 : decode cX11_feed 4 = .ok (.getfield 124, 3) := by decide +kernel
theorem dX11_feed_7 : decode cX11_feed 7 = .ok (.bipush 20, 2) := by decide +kernel
theorem dX11_feed_9 : decode cX11_feed 9 = .ok (.iadd, 1) := by decide +kernel
theorem dX11_feed_10 : decode cX11_feed 10 = .ok (.sipush 300, 3) := by decide +kernel
theorem dX11_feed_13 : decode cX11_feed 13 = .ok (.if_icmp .le 5, 3) := by decide +kernel
theorem dX11_feed_16 : decode cX11_feed 16 = .ok (.iconst (-1), 1) := by decide +kernel
theorem dX11_feed_17 : decode cX11_feed 17 = .ok (.ireturn, 1) := by decide +kernel
theorem dX11_feed_18 : decode cX11_feed 18 = .ok (.aload_n 0, 1) := by decide +kernel
theorem dX11_feed_19 : decode cX11_feed 19 = .ok (.getfield 42, 3) := by decide +kernel
theorem dX11_feed_22 : decode cX11_feed 22 = .ok (.iload_n 1, 1) := by decide +kernel
theorem dX11_feed_23 : decode cX11_feed 23 = .ok (.invokevirtual 127, 3) := by decide +kernel
theorem dX11_feed_26 : decode cX11_feed 26 = .ok (.aload_n 0, 1) := by decide +kernel
theorem dX11_feed_27 : decode cX11_feed 27 = .ok (.getfield 42, 3) := by decide +kernel
theorem dX11_feed_30 : decode cX11_feed 30 = .ok (.iload_n 2, 1) := by decide +kernel
theorem dX11_feed_31 : decode cX11_feed 31 = .ok (.invokevirtual 127, 3) := by decide +kernel
theorem dX11_feed_34 : decode cX11_feed 34 = .ok (.aload_n 0, 1) := by decide +kernel
theorem dX11_feed_35 : decode cX11_feed 35 = .ok (.getfield 42, 3) := by decide +kernel
theorem dX11_feed_38 : decode cX11_feed 38 = .ok (.iload_n 3, 1) := by decide +kernel
theorem dX11_feed_39 : decode cX11_feed 39 = .ok (.invokevirtual 127, 3) := by decide +kernel
theorem dX11_feed_42 : decode cX11_feed 42 = .ok (.aload_n 0, 1) := by decide +kernel
theorem dX11_feed_43 : decode cX11_feed 43 = .ok (.getfield 42, 3) := by decide +kernel
theorem dX11_feed_46 : decode cX11_feed 46 = .ok (.iload 4, 2) := by decide +kernel
theorem dX11_feed_48 : decode cX11_feed 48 = .ok (.invokevirtual 127, 3) := by decide +kernel
theorem dX11_feed_51 : decode cX11_feed 51 = .ok (.aload_n 0, 1) := by decide +kernel
theorem dX11_feed_52 : decode cX11_feed 52 = .ok (.getfield 42, 3) := by decide +kernel
theorem dX11_feed_55 : decode cX11_feed 55 = .ok (.iload 5, 2) := by decide +kernel
theorem dX11_feed_57 : decode cX11_feed 57 = .ok (.invokevirtual 127, 3) := by decide +kernel
theorem dX11_feed_60 : decode cX11_feed 60 = .ok (.aload_n 0, 1) := by decide +kernel
theorem dX11_feed_61 : decode cX11_feed 61 = .ok (.getfield 42, 3) := by decide +kernel
theorem dX11_feed_64 : decode cX11_feed 64 = .ok (.getfield 124, 3) := by decide +kernel
theorem dX11_feed_67 : decode cX11_feed 67 = .ok (.ireturn, 1) := by decide +kernel
theorem dX11_end_0 : decode cX11_end 0 = .ok (.iload_n 1, 1) := by decide +kernel
theorem dX11_end_1 : decode cX11_end 1 = .ok (.iconst 0, 1) := by decide +kernel
theorem dX11_end_2 : decode cX11_end 2 = .ok (.aload_n 0, 1) := by decide +kernel
theorem dX11_end_3 : decode cX11_end 3 = .ok (.getfield 42, 3) := by decide +kernel
theorem dX11_end_6 : decode cX11_end 6 = .ok (.getfield 124, 3) := by decide +kernel
theorem dX11_end_9 : decode cX11_end 9 = .ok (.invokestatic 76, 3) := by decide +kernel
theorem dX11_end_12 : decode cX11_end 12 = .ok (.ifCond .ne 5, 3) := by decide +kernel
theorem dX11_end_15 : decode cX11_end 15 = .ok (.iconst (-1), 1) := by decide +kernel
theorem dX11_end_16 : decode cX11_end 16 = .ok (.ireturn, 1) := by decide +kernel
theorem dX11_end_17 : decode cX11_end 17 = .ok (.aload_n 0, 1) := by decide +kernel
theorem dX11_end_18 : decode cX11_end 18 = .ok (.getfield 42, 3) := by decide +kernel
theorem dX11_end_21 : decode cX11_end 21 = .ok (.iload_n 1, 1) := by decide +kernel
theorem dX11_end_22 : decode cX11_end 22 = .ok (.putfield 124, 3) := by decide +kernel
theorem dX11_end_25 : decode cX11_end 25 = .ok (.iload_n 1, 1) := by decide +kernel
theorem dX11_end_26 : decode cX11_end 26 = .ok (.ireturn, 1) := by decide +kernel
theorem dX11_text_0 : decode cX11_text 0 = .ok (.aload_n 0, 1) := by decide +kernel
theorem dX11_text_1 : decode cX11_text 1 = .ok (.getfield 10, 3) := by decide +kernel
