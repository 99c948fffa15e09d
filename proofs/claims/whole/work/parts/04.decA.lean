theorem dJ0_length_8abf5_0 : decode cJ0_length_8abf5 0 = .ok (.aload_n 0, 1) := by decide +kernel
theorem dJ0_length_8abf5_1 : decode cJ0_length_8abf5 1 = .ok (.getfield 9, 3) := by decide +kernel
theorem dJ0_length_8abf5_4 : decode cJ0_length_8abf5 4 = .ok (.arraylength, 1) := by decide +kernel
theorem dJ0_length_8abf5_5 : decode cJ0_length_8abf5 5 = .ok (.aload_n 0, 1) := by decide +kernel
theorem dJ0_length_8abf5_6 : decode cJ0_length_8abf5 6 = .ok (.invokevirtual 335, 3) := by decide +kernel
theorem dJ0_length_8abf5_9 : decode cJ0_length_8abf5 9 = .ok (.ishr, 1) := by decide +kernel
theorem dJ0_length_8abf5_10 : decode cJ0_length_8abf5 10 = .ok (.ireturn, 1) := by decide +kernel
theorem dJ0_charAt_5068e_0 : decode cJ0_charAt_5068e 0 = .ok (.aload_n 0, 1) := by decide +kernel
theorem dJ0_charAt_5068e_1 : decode cJ0_charAt_5068e 1 = .ok (.invokevirtual 492, 3) := by decide +kernel
theorem dJ0_charAt_5068e_4 : decode cJ0_charAt_5068e 4 = .ok (.ifCond .eq 12, 3) := by decide +kernel
theorem dJ0_charAt_5068e_7 : decode cJ0_charAt_5068e 7 = .ok (.aload_n 0, 1) := by decide +kernel
theorem dJ0_charAt_5068e_8 : decode cJ0_charAt_5068e 8 = .ok (.getfield 9, 3) := by decide +kernel
theorem dJ0_charAt_5068e_11 : decode cJ0_charAt_5068e 11 = .ok (.iload_n 1, 1) := by decide +kernel
theorem dJ0_charAt_5068e_12 : decode cJ0_charAt_5068e 12 = .ok (.invokestatic 495, 3) := by decide +kernel
theorem dJ0_charAt_5068e_15 : decode cJ0_charAt_5068e 15 = .ok (.ireturn, 1) := by decide +kernel
theorem dJ0_charAt_5068e_16 : decode cJ0_charAt_5068e 16 = .ok (.aload_n 0, 1) := by decide +kernel
theorem dJ0_charAt_5068e_17 : decode cJ0_charAt_5068e 17 = .ok (.getfield 9, 3) := by decide +kernel
theorem dJ0_charAt_5068e_20 : decode cJ0_charAt_5068e 20 = .ok (.iload_n 1, 1) := by decide +kernel
theorem dJ0_charAt_5068e_21 : decode cJ0_charAt_5068e 21 = .ok (.invokestatic 498, 3) := by decide +kernel
theorem dJ0_charAt_5068e_24 : decode cJ0_charAt_5068e 24 = .ok (.ireturn, 1) := by decide +kernel
theorem dJ0_coder_7d493_0 : decode cJ0_coder_7d493 0 = .ok (.getstatic 38, 3) := by decide +kernel
theorem dJ0_coder_7d493_3 : decode cJ0_coder_7d493 3 = .ok (.ifCond .eq 10, 3) := by decide +kernel
theorem dJ0_coder_7d493_6 : decode cJ0_coder_7d493 6 = .ok (.aload_n 0, 1) := by decide +kernel
theorem dJ0_coder_7d493_7 : decode cJ0_coder_7d493 7 = .ok (.getfield 15, 3) := by decide +kernel
theorem dJ0_coder_7d493_10 : decode cJ0_coder_7d493 10 = .ok (.goto 4, 3) := by decide +kernel
theorem dJ0_coder_7d493_13 : decode cJ0_coder_7d493 13 = .ok (.iconst 1, 1) := by decide +kernel
theorem dJ0_coder_7d493_14 : decode cJ0_coder_7d493 14 = .ok (.ireturn, 1) := by decide +kernel
theorem dJ0_isLatin1_aae02_0 : decode cJ0_isLatin1_aae02 0 = .ok (.getstatic 38, 3) := by decide +kernel
theorem dJ0_isLatin1_aae02_3 : decode cJ0_isLatin1_aae02 3 = .ok (.ifCond .eq 14, 3) := by decide +kernel
theorem dJ0_isLatin1_aae02_6 : decode cJ0_isLatin1_aae02 6 = .ok (.aload_n 0, 1) := by decide +kernel
theorem dJ0_isLatin1_aae02_7 : decode cJ0_isLatin1_aae02 7 = .ok (.getfield 15, 3) := by decide +kernel
theorem dJ0_isLatin1_aae02_10 : decode cJ0_isLatin1_aae02 10 = .ok (.ifCond .ne 7, 3) := by decide +kernel
theorem dJ0_isLatin1_aae02_13 : decode cJ0_isLatin1_aae02 13 = .ok (.iconst 1, 1) := by decide +kernel
theorem dJ0_isLatin1_aae02_14 : decode cJ0_isLatin1_aae02 14 = .ok (.goto 4, 3) := by decide +kernel
theorem dJ0_isLatin1_aae02_17 : decode cJ0_isLatin1_aae02 17 = .ok (.iconst 0, 1) := by decide +kernel
theorem dJ0_isLatin1_aae02_18 : decode cJ0_isLatin1_aae02 18 = .ok (.ireturn, 1) := by decide +kernel
theorem dJ0_checkIndex_df160_0 : decode cJ0_checkIndex_df160 0 = .ok (.iload_n 0, 1) := by decide +kernel
theorem dJ0_checkIndex_df160_1 : decode cJ0_checkIndex_df160 1 = .ok (.iload_n 1, 1) := by decide +kernel
theorem dJ0_checkIndex_df160_2 : decode cJ0_checkIndex_df160 2 = .ok (.getstatic 1053, 3) := by decide +kernel
theorem dJ0_checkIndex_df160_5 : decode cJ0_checkIndex_df160 5 = .ok (.invokestatic 1059, 3) := by decide +kernel
theorem dJ0_checkIndex_df160_8 : decode cJ0_checkIndex_df160 8 = .ok (.pop, 1) := by decide +kernel
theorem dJ0_checkIndex_df160_9 : decode cJ0_checkIndex_df160 9 = .ok (.return_, 1) := by decide +kernel
theorem dJ1_charAt_3b067_0 : decode cJ1_charAt_3b067 0 = .ok (.iload_n 1, 1) := by decide +kernel
theorem dJ1_charAt_3b067_1 : decode cJ1_charAt_3b067 1 = .ok (.aload_n 0, 1) := by decide +kernel
theorem dJ1_charAt_3b067_2 : decode cJ1_charAt_3b067 2 = .ok (.arraylength, 1) := by decide +kernel
theorem dJ1_charAt_3b067_3 : decode cJ1_charAt_3b067 3 = .ok (.invokestatic 9, 3) := by decide +kernel
theorem dJ1_charAt_3b067_6 : decode cJ1_charAt_3b067 6 = .ok (.aload_n 0, 1) := by decide +kernel
theorem dJ1_charAt_3b067_7 : decode cJ1_charAt_3b067 7 = .ok (.iload_n 1, 1) := by decide +kernel
theorem dJ1_charAt_3b067_8 : decode cJ1_charAt_3b067 8 = .ok (.baload, 1) := by decide +kernel
theorem dJ1_charAt_3b067_9 : decode cJ1_charAt_3b067 9 = .ok (.sipush 255, 3) := by decide +kernel
theorem dJ1_charAt_3b067_12 : decode cJ1_charAt_3b067 12 = .ok (.iand, 1) := by decide +kernel
theorem dJ1_charAt_3b067_13 : decode cJ1_charAt_3b067 13 = .ok (.i2c, 1) := by decide +kernel
theorem dJ1_charAt_3b067_14 : decode cJ1_charAt_3b067 14 = .ok (.ireturn, 1) := by decide +kernel
theorem dJ2_getChar_3b067_0 : decode cJ2_getChar_3b067 0 = .ok (.getstatic 44, 3) := by decide +kernel
theorem dJ2_getChar_3b067_3 : decode cJ2_getChar_3b067 3 = .ok (.ifCond .ne 25, 3) := by decide +kernel
theorem dJ2_getChar_3b067_6 : decode cJ2_getChar_3b067 6 = .ok (.iload_n 1, 1) := by decide +kernel
theorem dJ2_getChar_3b067_7 : decode cJ2_getChar_3b067 7 = .ok (.ifCond .lt 11, 3) := by decide +kernel
theorem dJ2_getChar_3b067_10 : decode cJ2_getChar_3b067 10 = .ok (.iload_n 1, 1) := by decide +kernel
theorem dJ2_getChar_3b067_11 : decode cJ2_getChar_3b067 11 = .ok (.aload_n 0, 1) := by decide +kernel
theorem dJ2_getChar_3b067_12 : decode cJ2_getChar_3b067 12 = .ok (.invokestatic 48, 3) := by decide +kernel
theorem dJ2_getChar_3b067_15 : decode cJ2_getChar_3b067 15 = .ok (.if_icmp .lt 13, 3) := by decide +kernel
theorem dJ2_getChar_3b067_18 : decode cJ2_getChar_3b067 18 = .ok (.new 52, 3) := by decide +kernel
theorem dJ2_getChar_3b067_21 : decode cJ2_getChar_3b067 21 = .ok (.dup, 1) := by decide +kernel
theorem dJ2_getChar_3b067_22 : decode cJ2_getChar_3b067 22 = .ok (.ldc 54, 2) := by decide +kernel
theorem dJ2_getChar_3b067_24 : decode cJ2_getChar_3b067 24 = .ok (.invokespecial 56, 3) := by decide +kernel
theorem dJ2_getChar_3b067_27 : decode cJ2_getChar_3b067 27 = .ok (.athrow, 1) := by decide +kernel
theorem dJ2_getChar_3b067_28 : decode cJ2_getChar_3b067 28 = .ok (.iload_n 1, 1) := by decide +kernel
theorem dJ2_getChar_3b067_29 : decode cJ2_getChar_3b067 29 = .ok (.iconst 1, 1) := by decide +kernel
theorem dJ2_getChar_3b067_30 : decode cJ2_getChar_3b067 30 = .ok (.ishl, 1) := by decide +kernel
theorem dJ2_getChar_3b067_31 : decode cJ2_getChar_3b067 31 = .ok (.istore_n 1, 1) := by decide +kernel
theorem dJ2_getChar_3b067_32 : decode cJ2_getChar_3b067 32 = .ok (.aload_n 0, 1) := by decide +kernel
theorem dJ2_getChar_3b067_33 : decode cJ2_getChar_3b067 33 = .ok (.iload_n 1, 1) := by decide +kernel
theorem dJ2_getChar_3b067_34 : decode cJ2_getChar_3b067 34 = .ok (.iinc 1 1, 3) := by decide +kernel
theorem dJ2_getChar_3b067_37 : decode cJ2_getChar_3b067 37 = .ok (.baload, 1) := by decide +kernel
theorem dJ2_getChar_3b067_38 : decode cJ2_getChar_3b067 38 = .ok (.sipush 255, 3) := by decide +kernel
theorem dJ2_getChar_3b067_41 : decode cJ2_getChar_3b067 41 = .ok (.iand, 1) := by decide +kernel
theorem dJ2_getChar_3b067_42 : decode cJ2_getChar_3b067 42 = .ok (.getstatic 59, 3) := by decide +kernel
theorem dJ2_getChar_3b067_45 : decode cJ2_getChar_3b067 45 = .ok (.ishl, 1) := by decide +kernel
theorem dJ2_getChar_3b067_46 : decode cJ2_getChar_3b067 46 = .ok (.aload_n 0, 1) := by decide +kernel
theorem dJ2_getChar_3b067_47 : decode cJ2_getChar_3b067 47 = .ok (.iload_n 1, 1) := by decide +kernel
theorem dJ2_getChar_3b067_48 : decode cJ2_getChar_3b067 48 = .ok (.baload, 1) := by decide +kernel
theorem dJ2_getChar_3b067_49 : decode cJ2_getChar_3b067 49 = .ok (.sipush 255, 3) := by decide +kernel
theorem dJ2_getChar_3b067_52 : decode cJ2_getChar_3b067 52 = .ok (.iand, 1) := by decide +kernel
theorem dJ2_getChar_3b067_53 : decode cJ2_getChar_3b067 53 = .ok (.getstatic 63, 3) := by decide +kernel
theorem dJ2_getChar_3b067_56 : decode cJ2_getChar_3b067 56 = .ok (.ishl, 1) := by decide +kernel
theorem dJ2_getChar_3b067_57 : decode cJ2_getChar_3b067 57 = .ok (.ior, 1) := by decide +kernel
theorem dJ2_getChar_3b067_58 : decode cJ2_getChar_3b067 58 = .ok (.i2c, 1) := by decide +kernel
theorem dJ2_getChar_3b067_59 : decode cJ2_getChar_3b067 59 = .ok (.ireturn, 1) := by decide +kernel
theorem dJ2_length_9d52b_0 : decode cJ2_length_9d52b 0 = .ok (.aload_n 0, 1) := by decide +kernel
theorem dJ2_length_9d52b_1 : decode cJ2_length_9d52b 1 = .ok (.arraylength, 1) := by decide +kernel
theorem dJ2_length_9d52b_2 : decode cJ2_length_9d52b 2 = .ok (.iconst 1, 1) := by decide +kernel
theorem dJ2_length_9d52b_3 : decode cJ2_length_9d52b 3 = .ok (.ishr, 1) := by decide +kernel
theorem dJ2_length_9d52b_4 : decode cJ2_length_9d52b 4 = .ok (.ireturn, 1) := by decide +kernel
theorem dJ2_charAt_3b067_0 : decode cJ2_charAt_3b067 0 = .ok (.iload_n 1, 1) := by decide +kernel
theorem dJ2_charAt_3b067_1 : decode cJ2_charAt_3b067 1 = .ok (.aload_n 0, 1) := by decide +kernel
theorem dJ2_charAt_3b067_2 : decode cJ2_charAt_3b067 2 = .ok (.invokestatic 67, 3) := by decide +kernel
theorem dJ2_charAt_3b067_5 : decode cJ2_charAt_3b067 5 = .ok (.aload_n 0, 1) := by decide +kernel
theorem dJ2_charAt_3b067_6 : decode cJ2_charAt_3b067 6 = .ok (.iload_n 1, 1) := by decide +kernel
theorem dJ2_charAt_3b067_7 : decode cJ2_charAt_3b067 7 = .ok (.invokestatic 71, 3) := by decide +kernel
theorem dJ2_charAt_3b067_10 : decode cJ2_charAt_3b067 10 = .ok (.ireturn, 1) := by decide +kernel
theorem dJ2_checkIndex_2214a_0 : decode cJ2_checkIndex_2214a 0 = .ok (.iload_n 0, 1) := by decide +kernel
theorem dJ2_checkIndex_2214a_1 : decode cJ2_checkIndex_2214a 1 = .ok (.aload_n 1, 1) := by decide +kernel
theorem dJ2_checkIndex_2214a_2 : decode cJ2_checkIndex_2214a 2 = .ok (.invokestatic 48, 3) := by decide +kernel
theorem dJ2_checkIndex_2214a_5 : decode cJ2_checkIndex_2214a 5 = .ok (.invokestatic 414, 3) := by decide +kernel
theorem dJ2_checkIndex_2214a_8 : decode cJ2_checkIndex_2214a 8 = .ok (.return_, 1) := by decide +kernel
theorem dJ3_checkIndex_8e157_0 : decode cJ3_checkIndex_8e157 0 = .ok (.iload_n 0, 1) := by decide +kernel
theorem dJ3_checkIndex_8e157_1 : decode cJ3_checkIndex_8e157 1 = .ok (.ifCond .lt 8, 3) := by decide +kernel
theorem dJ3_checkIndex_8e157_4 : decode cJ3_checkIndex_8e157 4 = .ok (.iload_n 0, 1) := by decide +kernel
theorem dJ3_checkIndex_8e157_5 : decode cJ3_checkIndex_8e157 5 = .ok (.iload_n 1, 1) := by decide +kernel
theorem dJ3_checkIndex_8e157_6 : decode cJ3_checkIndex_8e157 6 = .ok (.if_icmp .lt 10, 3) := by decide +kernel
theorem dJ3_checkIndex_8e157_9 : decode cJ3_checkIndex_8e157 9 = .ok (.aload_n 2, 1) := by decide +kernel
theorem dJ3_checkIndex_8e157_10 : decode cJ3_checkIndex_8e157 10 = .ok (.iload_n 0, 1) := by decide +kernel
theorem dJ3_checkIndex_8e157_11 : decode cJ3_checkIndex_8e157 11 = .ok (.iload_n 1, 1) := by decide +kernel
theorem dJ3_checkIndex_8e157_12 : decode cJ3_checkIndex_8e157 12 = .ok (.invokestatic 95, 3) := by decide +kernel
theorem dJ3_checkIndex_8e157_15 : decode cJ3_checkIndex_8e157 15 = .ok (.athrow, 1) := by decide +kernel
theorem dJ3_checkIndex_8e157_16 : decode cJ3_checkIndex_8e157 16 = .ok (.iload_n 0, 1) := by decide +kernel
theorem dJ3_checkIndex_8e157_17 : decode cJ3_checkIndex_8e157 17 = .ok (.ireturn, 1) := by decide +kernel
theorem dJ6_bitCount_0f7a4_0 : decode cJ6_bitCount_0f7a4 0 = .ok (.iload_n 0, 1) := by decide +kernel
theorem dJ6_bitCount_0f7a4_1 : decode cJ6_bitCount_0f7a4 1 = .ok (.iload_n 0, 1) := by decide +kernel
theorem dJ6_bitCount_0f7a4_2 : decode cJ6_bitCount_0f7a4 2 = .ok (.iconst 1, 1) := by decide +kernel
theorem dJ6_bitCount_0f7a4_3 : decode cJ6_bitCount_0f7a4 3 = .ok (.iushr, 1) := by decide +kernel
theorem dJ6_bitCount_0f7a4_4 : decode cJ6_bitCount_0f7a4 4 = .ok (.ldc_w 265, 3) := by decide +kernel
theorem dJ6_bitCount_0f7a4_7 : decode cJ6_bitCount_0f7a4 7 = .ok (.iand, 1) := by decide +kernel
theorem dJ6_bitCount_0f7a4_8 : decode cJ6_bitCount_0f7a4 8 = .ok (.isub, 1) := by decide +kernel
theorem dJ6_bitCount_0f7a4_9 : decode cJ6_bitCount_0f7a4 9 = .ok (.istore_n 0, 1) := by decide +kernel
theorem dJ6_bitCount_0f7a4_10 : decode cJ6_bitCount_0f7a4 10 = .ok (.iload_n 0, 1) := by decide +kernel
theorem dJ6_bitCount_0f7a4_11 : decode cJ6_bitCount_0f7a4 11 = .ok (.ldc_w 266, 3) := by decide +kernel
theorem dJ6_bitCount_0f7a4_14 : decode cJ6_bitCount_0f7a4 14 = .ok (.iand, 1) := by decide +kernel
theorem dJ6_bitCount_0f7a4_15 : decode cJ6_bitCount_0f7a4 15 = .ok (.iload_n 0, 1) := by decide +kernel
theorem dJ6_bitCount_0f7a4_16 : decode cJ6_bitCount_0f7a4 16 = .ok (.iconst 2, 1) := by decide +kernel
theorem dJ6_bitCount_0f7a4_17 : decode cJ6_bitCount_0f7a4 17 = .ok (.iushr, 1) := by decide +kernel
theorem dJ6_bitCount_0f7a4_18 : decode cJ6_bitCount_0f7a4 18 = .ok (.ldc_w 266, 3) := by decide +kernel
theorem dJ6_bitCount_0f7a4_21 : decode cJ6_bitCount_0f7a4 21 = .ok (.iand, 1) := by decide +kernel
theorem dJ6_bitCount_0f7a4_22 : decode cJ6_bitCount_0f7a4 22 = .ok (.iadd, 1) := by decide +kernel
theorem dJ6_bitCount_0f7a4_23 : decode cJ6_bitCount_0f7a4 23 = .ok (.istore_n 0, 1) := by decide +kernel
theorem dJ6_bitCount_0f7a4_24 : decode cJ6_bitCount_0f7a4 24 = .ok (.iload_n 0, 1) := by decide +kernel
theorem dJ6_bitCount_0f7a4_25 : decode cJ6_bitCount_0f7a4 25 = .ok (.iload_n 0, 1) := by decide +kernel
theorem dJ6_bitCount_0f7a4_26 : decode cJ6_bitCount_0f7a4 26 = .ok (.iconst 4, 1) := by decide +kernel
theorem dJ6_bitCount_0f7a4_27 : decode cJ6_bitCount_0f7a4 27 = .ok (.iushr, 1) := by decide +kernel
theorem dJ6_bitCount_0f7a4_28 : decode cJ6_bitCount_0f7a4 28 = .ok (.iadd, 1) := by decide +kernel
theorem dJ6_bitCount_0f7a4_29 : decode cJ6_bitCount_0f7a4 29 = .ok (.ldc_w 267, 3) := by decide +kernel
theorem dJ6_bitCount_0f7a4_32 : decode cJ6_bitCount_0f7a4 32 = .ok (.iand, 1) := by decide +kernel
theorem dJ6_bitCount_0f7a4_33 : decode cJ6_bitCount_0f7a4 33 = .ok (.istore_n 0, 1) := by decide +kernel
theorem dJ6_bitCount_0f7a4_34 : decode cJ6_bitCount_0f7a4 34 = .ok (.iload_n 0, 1) := by decide +kernel
theorem dJ6_bitCount_0f7a4_35 : decode cJ6_bitCount_0f7a4 35 = .ok (.iload_n 0, 1) := by decide +kernel
theorem dJ6_bitCount_0f7a4_36 : decode cJ6_bitCount_0f7a4 36 = .ok (.bipush 8, 2) := by decide +kernel
theorem dJ6_bitCount_0f7a4_38 : decode cJ6_bitCount_0f7a4 38 = .ok (.iushr, 1) := by decide +kernel
theorem dJ6_bitCount_0f7a4_39 : decode cJ6_bitCount_0f7a4 39 = .ok (.iadd, 1) := by decide +kernel
theorem dJ6_bitCount_0f7a4_40 : decode cJ6_bitCount_0f7a4 40 = .ok (.istore_n 0, 1) := by decide +kernel
theorem dJ6_bitCount_0f7a4_41 : decode cJ6_bitCount_0f7a4 41 = .ok (.iload_n 0, 1) := by decide +kernel
theorem dJ6_bitCount_0f7a4_42 : decode cJ6_bitCount_0f7a4 42 = .ok (.iload_n 0, 1) := by decide +kernel
theorem dJ6_bitCount_0f7a4_43 : decode cJ6_bitCount_0f7a4 43 = .ok (.bipush 16, 2) := by decide +kernel
theorem dJ6_bitCount_0f7a4_45 : decode cJ6_bitCount_0f7a4 45 = .ok (.iushr, 1) := by decide +kernel
theorem dJ6_bitCount_0f7a4_46 : decode cJ6_bitCount_0f7a4 46 = .ok (.iadd, 1) := by decide +kernel
theorem dJ6_bitCount_0f7a4_47 : decode cJ6_bitCount_0f7a4 47 = .ok (.istore_n 0, 1) := by decide +kernel
theorem dJ6_bitCount_0f7a4_48 : decode cJ6_bitCount_0f7a4 48 = .ok (.iload_n 0, 1) := by decide +kernel
theorem dJ6_bitCount_0f7a4_49 : decode cJ6_bitCount_0f7a4 49 = .ok (.bipush 63, 2) := by decide +kernel
theorem dJ6_bitCount_0f7a4_51 : decode cJ6_bitCount_0f7a4 51 = .ok (.iand, 1) := by decide +kernel
theorem dJ6_bitCount_0f7a4_52 : decode cJ6_bitCount_0f7a4 52 = .ok (.ireturn, 1) := by decide +kernel
theorem dX0_init_0 : decode cX0_init 0 = .ok (.aload_n 0, 1) := by decide +kernel
theorem dX0_init_1 : decode cX0_init 1 = .ok (.invokespecial 3, 3) := by decide +kernel
theorem dX0_init_4 : decode cX0_init 4 = .ok (.aload_n 0, 1) := by decide +kernel
theorem dX0_init_5 : decode cX0_init 5 = .ok (.bipush 40, 2) := by decide +kernel
theorem dX0_init_7 : decode cX0_init 7 = .ok (.newarray .int, 2) := by decide +kernel
theorem dX0_init_9 : decode cX0_init 9 = .ok (.putfield 9, 3) := by decide +kernel
theorem dX0_init_12 : decode cX0_init 12 = .ok (.aload_n 0, 1) := by decide +kernel
theorem dX0_init_13 : decode cX0_init 13 = .ok (.bipush 40, 2) := by decide +kernel
theorem dX0_init_15 : decode cX0_init 15 = .ok (.newarray .int, 2) := by decide +kernel
theorem dX0_init_17 : decode cX0_init 17 = .ok (.putfield 15, 3) := by decide +kernel
theorem dX0_init_20 : decode cX0_init 20 = .ok (.aload_n 0, 1) := by decide +kernel
theorem dX0_init_21 : decode cX0_init 21 = .ok (.bipush 40, 2) := by decide +kernel
theorem dX0_init_23 : decode cX0_init 23 = .ok (.newarray .int, 2) := by decide +kernel
theorem dX0_init_25 : decode cX0_init 25 = .ok (.putfield 18, 3) := by decide +kernel
theorem dX0_init_28 : decode cX0_init 28 = .ok (.aload_n 0, 1) := by decide +kernel
theorem dX0_init_29 : decode cX0_init 29 = .ok (.bipush 40, 2) := by decide +kernel
theorem dX0_init_31 : decode cX0_init 31 = .ok (.newarray .int, 2) := by decide +kernel
theorem dX0_init_33 : decode cX0_init 33 = .ok (.putfield 21, 3) := by decide +kernel
theorem dX0_init_36 : decode cX0_init 36 = .ok (.aload_n 0, 1) := by decide +kernel
theorem dX0_init_37 : decode cX0_init 37 = .ok (.bipush 40, 2) := by decide +kernel
theorem dX0_init_39 : decode cX0_init 39 = .ok (.newarray .int, 2) := by decide +kernel
theorem dX0_init_41 : decode cX0_init 41 = .ok (.putfield 24, 3) := by decide +kernel
theorem dX0_init_44 : decode cX0_init 44 = .ok (.aload_n 0, 1) := by decide +kernel
theorem dX0_init_45 : decode cX0_init 45 = .ok (.iconst 0, 1) := by decide +kernel
theorem dX0_init_46 : decode cX0_init 46 = .ok (.putfield 27, 3) := by decide +kernel
theorem dX0_init_49 : decode cX0_init 49 = .ok (.aload_n 0, 1) := by decide +kernel
theorem dX0_init_50 : decode cX0_init 50 = .ok (.iconst 0, 1) := by decide +kernel
theorem dX0_init_51 : decode cX0_init 51 = .ok (.putfield 31, 3) := by decide +kernel
theorem dX0_init_54 : decode cX0_init 54 = .ok (.aload_n 0, 1) := by decide +kernel
theorem dX0_init_55 : decode cX0_init 55 = .ok (.iconst 0, 1) := by decide +kernel
theorem dX0_init_56 : decode cX0_init 56 = .ok (.putfield 34, 3) := by decide +kernel
theorem dX0_init_59 : decode cX0_init 59 = .ok (.return_, 1) := by decide +kernel
theorem dX0_hasRoomFor_0 : decode cX0_hasRoomFor 0 = .ok (.aload_n 0, 1) := by decide +kernel
theorem dX0_hasRoomFor_1 : decode cX0_hasRoomFor 1 = .ok (.getfield 27, 3) := by decide +kernel
theorem dX0_hasRoomFor_4 : decode cX0_hasRoomFor 4 = .ok (.bipush 40, 2) := by decide +kernel
theorem dX0_hasRoomFor_6 : decode cX0_hasRoomFor 6 = .ok (.if_icmp .ge 21, 3) := by decide +kernel
theorem dX0_hasRoomFor_9 : decode cX0_hasRoomFor 9 = .ok (.iload_n 1, 1) := by decide +kernel
theorem dX0_hasRoomFor_10 : decode cX0_hasRoomFor 10 = .ok (.iconst 1, 1) := by decide +kernel
theorem dX0_hasRoomFor_11 : decode cX0_hasRoomFor 11 = .ok (.if_icmp .ne 12, 3) := by decide +kernel
theorem dX0_hasRoomFor_14 : decode cX0_hasRoomFor 14 = .ok (.aload_n 0, 1) := by decide +kernel
theorem dX0_hasRoomFor_15 : decode cX0_hasRoomFor 15 = .ok (.getfield 31, 3) := by decide +kernel
theorem dX0_hasRoomFor_18 : decode cX0_hasRoomFor 18 = .ok (.bipush 6, 2) := by decide +kernel
theorem dX0_hasRoomFor_20 : decode cX0_hasRoomFor 20 = .ok (.if_icmp .ge 7, 3) := by decide +kernel
theorem dX0_hasRoomFor_23 : decode cX0_hasRoomFor 23 = .ok (.iconst 1, 1) := by decide +kernel
theorem dX0_hasRoomFor_24 : decode cX0_hasRoomFor 24 = .ok (.goto 4, 3) := by decide +kernel
theorem dX0_hasRoomFor_27 : decode cX0_hasRoomFor 27 = .ok (.iconst 0, 1) := by decide +kernel
theorem dX0_hasRoomFor_28 : decode cX0_hasRoomFor 28 = .ok (.ireturn, 1) := by decide +kernel
theorem dX0_add_0 : decode cX0_add 0 = .ok (.aload_n 0, 1) := by decide +kernel
theorem dX0_add_1 : decode cX0_add 1 = .ok (.iload_n 1, 1) := by decide +kernel
theorem dX0_add_2 : decode cX0_add 2 = .ok (.invokevirtual 37, 3) := by decide +kernel
theorem dX0_add_5 : decode cX0_add 5 = .ok (.ifCond .ne 4, 3) := by decide +kernel
theorem dX0_add_8 : decode cX0_add 8 = .ok (.return_, 1) := by decide +kernel
theorem dX0_add_9 : decode cX0_add 9 = .ok (.aload_n 0, 1) := by decide +kernel
theorem dX0_add_10 : decode cX0_add 10 = .ok (.getfield 9, 3) := by decide +kernel
theorem dX0_add_13 : decode cX0_add 13 = .ok (.aload_n 0, 1) := by decide +kernel
theorem dX0_add_14 : decode cX0_add 14 = .ok (.getfield 27, 3) := by decide +kernel
theorem dX0_add_17 : decode cX0_add 17 = .ok (.iload_n 1, 1) := by decide +kernel
theorem dX0_add_18 : decode cX0_add 18 = .ok (.iastore, 1) := by decide +kernel
theorem dX0_add_19 : decode cX0_add 19 = .ok (.aload_n 0, 1) := by decide +kernel
theorem dX0_add_20 : decode cX0_add 20 = .ok (.getfield 15, 3) := by decide +kernel
theorem dX0_add_23 : decode cX0_add 23 = .ok (.aload_n 0, 1) := by decide +kernel
theorem dX0_add_24 : decode cX0_add 24 = .ok (.getfield 27, 3) := by decide +kernel
theorem dX0_add_27 : decode cX0_add 27 = .ok (.aload_n 0, 1) := by decide +kernel
theorem dX0_add_28 : decode cX0_add 28 = .ok (.getfield 34, 3) := by decide +kernel
theorem dX0_add_31 : decode cX0_add 31 = .ok (.iastore, 1) := by decide +kernel
theorem dX0_add_32 : decode cX0_add 32 = .ok (.aload_n 0, 1) := by decide +kernel
theorem dX0_add_33 : decode cX0_add 33 = .ok (.getfield 18, 3) := by decide +kernel
theorem dX0_add_36 : decode cX0_add 36 = .ok (.aload_n 0, 1) := by decide +kernel
theorem dX0_add_37 : decode cX0_add 37 = .ok (.getfield 27, 3) := by decide +kernel
theorem dX0_add_40 : decode cX0_add 40 = .ok (.iload_n 2, 1) := by decide +kernel
theorem dX0_add_41 : decode cX0_add 41 = .ok (.iastore, 1) := by decide +kernel
theorem dX0_add_42 : decode cX0_add 42 = .ok (.aload_n 0, 1) := by decide +kernel
theorem dX0_add_43 : decode cX0_add 43 = .ok (.getfield 21, 3) := by decide +kernel
theorem dX0_add_46 : decode cX0_add 46 = .ok (.aload_n 0, 1) := by decide +kernel
theorem dX0_add_47 : decode cX0_add 47 = .ok (.getfield 27, 3) := by decide +kernel
theorem dX0_add_50 : decode cX0_add 50 = .ok (.iload_n 3, 1) := by decide +kernel
theorem dX0_add_51 : decode cX0_add 51 = .ok (.iastore, 1) := by decide +kernel
theorem dX0_add_52 : decode cX0_add 52 = .ok (.aload_n 0, 1) := by decide +kernel
theorem dX0_add_53 : decode cX0_add 53 = .ok (.getfield 24, 3) := by decide +kernel
theorem dX0_add_56 : decode cX0_add 56 = .ok (.aload_n 0, 1) := by decide +kernel
theorem dX0_add_57 : decode cX0_add 57 = .ok (.getfield 27, 3) := by decide +kernel
theorem dX0_add_60 : decode cX0_add 60 = .ok (.iload_n 1, 1) := by decide +kernel
theorem dX0_add_61 : decode cX0_add 61 = .ok (.iconst 1, 1) := by decide +kernel
theorem dX0_add_62 : decode cX0_add 62 = .ok (.if_icmp .ne 12, 3) := by decide +kernel
theorem dX0_add_65 : decode cX0_add 65 = .ok (.iconst 1, 1) := by decide +kernel
theorem dX0_add_66 : decode cX0_add 66 = .ok (.aload_n 0, 1) := by decide +kernel
theorem dX0_add_67 : decode cX0_add 67 = .ok (.getfield 31, 3) := by decide +kernel
theorem dX0_add_70 : decode cX0_add 70 = .ok (.ishl, 1) := by decide +kernel
theorem dX0_add_71 : decode cX0_add 71 = .ok (.goto 4, 3) := by decide +kernel
theorem dX0_add_74 : decode cX0_add 74 = .ok (.iconst 0, 1) := by decide +kernel
theorem dX0_add_75 : decode cX0_add 75 = .ok (.iastore, 1) := by decide +kernel
theorem dX0_add_76 : decode cX0_add 76 = .ok (.iload_n 1, 1) := by decide +kernel
theorem dX0_add_77 : decode cX0_add 77 = .ok (.iconst 1, 1) := by decide +kernel
theorem dX0_add_78 : decode cX0_add 78 = .ok (.if_icmp .ne 13, 3) := by decide +kernel
theorem dX0_add_81 : decode cX0_add 81 = .ok (.aload_n 0, 1) := by decide +kernel
theorem dX0_add_82 : decode cX0_add 82 = .ok (.dup, 1) := by decide +kernel
theorem dX0_add_83 : decode cX0_add 83 = .ok (.getfield 31, 3) := by decide +kernel
theorem dX0_add_86 : decode cX0_add 86 = .ok (.iconst 1, 1) := by decide +kernel
theorem dX0_add_87 : decode cX0_add 87 = .ok (.iadd, 1) := by decide +kernel
theorem dX0_add_88 : decode cX0_add 88 = .ok (.putfield 31, 3) := by decide +kernel
theorem dX0_add_91 : decode cX0_add 91 = .ok (.aload_n 0, 1) := by decide +kernel
theorem dX0_add_92 : decode cX0_add 92 = .ok (.dup, 1) := by decide +kernel
theorem dX0_add_93 : decode cX0_add 93 = .ok (.getfield 27, 3) := by decide +kernel
theorem dX0_add_96 : decode cX0_add 96 = .ok (.iconst 1, 1) := by decide +kernel
theorem dX0_add_97 : decode cX0_add 97 = .ok (.iadd, 1) := by decide +kernel
theorem dX0_add_98 : decode cX0_add 98 = .ok (.putfield 27, 3) := by decide +kernel
theorem dX0_add_101 : decode cX0_add 101 = .ok (.return_, 1) := by decide +kernel
theorem dX0_dropLast_0 : decode cX0_dropLast 0 = .ok (.aload_n 0, 1) := by decide +kernel
theorem dX0_dropLast_1 : decode cX0_dropLast 1 = .ok (.getfield 27, 3) := by decide +kernel
theorem dX0_dropLast_4 : decode cX0_dropLast 4 = .ok (.ifCond .le 36, 3) := by decide +kernel
theorem dX0_dropLast_7 : decode cX0_dropLast 7 = .ok (.aload_n 0, 1) := by decide +kernel
theorem dX0_dropLast_8 : decode cX0_dropLast 8 = .ok (.dup, 1) := by decide +kernel
theorem dX0_dropLast_9 : decode cX0_dropLast 9 = .ok (.getfield 27, 3) := by decide +kernel
theorem dX0_dropLast_12 : decode cX0_dropLast 12 = .ok (.iconst 1, 1) := by decide +kernel
theorem dX0_dropLast_13 : decode cX0_dropLast 13 = .ok (.isub, 1) := by decide +kernel
theorem dX0_dropLast_14 : decode cX0_dropLast 14 = .ok (.putfield 27, 3) := by decide +kernel
theorem dX0_dropLast_17 : decode cX0_dropLast 17 = .ok (.aload_n 0, 1) := by decide +kernel
theorem dX0_dropLast_18 : decode cX0_dropLast 18 = .ok (.getfield 9, 3) := by decide +kernel
theorem dX0_dropLast_21 : decode cX0_dropLast 21 = .ok (.aload_n 0, 1) := by decide +kernel
theorem dX0_dropLast_22 : decode cX0_dropLast 22 = .ok (.getfield 27, 3) := by decide +kernel
theorem dX0_dropLast_25 : decode cX0_dropLast 25 = .ok (.iaload, 1) := by decide +kernel
theorem dX0_dropLast_26 : decode cX0_dropLast 26 = .ok (.iconst 1, 1) := by decide +kernel
theorem dX0_dropLast_27 : decode cX0_dropLast 27 = .ok (.if_icmp .ne 13, 3) := by decide +kernel
theorem dX0_dropLast_30 : decode cX0_dropLast 30 = .ok (.aload_n 0, 1) := by decide +kernel
theorem dX0_dropLast_31 : decode cX0_dropLast 31 = .ok (.dup, 1) := by decide +kernel
theorem dX0_dropLast_32 : decode cX0_dropLast 32 = .ok (.getfield 31, 3) := by decide +kernel
theorem dX0_dropLast_35 : decode cX0_dropLast 35 = .ok (.iconst 1, 1) := by decide +kernel
theorem dX0_dropLast_36 : decode cX0_dropLast 36 = .ok (.isub, 1) := by decide +kernel
theorem dX0_dropLast_37 : decode cX0_dropLast 37 = .ok (.putfield 31, 3) := by decide +kernel
theorem dX0_dropLast_40 : decode cX0_dropLast 40 = .ok (.return_, 1) := by decide +kernel
theorem dX0_forget_0 : decode cX0_forget 0 = .ok (.aload_n 0, 1) := by decide +kernel
theorem dX0_forget_1 : decode cX0_forget 1 = .ok (.iconst 0, 1) := by decide +kernel
theorem dX0_forget_2 : decode cX0_forget 2 = .ok (.putfield 27, 3) := by decide +kernel
theorem dX0_forget_5 : decode cX0_forget 5 = .ok (.aload_n 0, 1) := by decide +kernel
theorem dX0_forget_6 : decode cX0_forget 6 = .ok (.iconst 0, 1) := by decide +kernel
theorem dX0_forget_7 : decode cX0_forget 7 = .ok (.putfield 31, 3) := by decide +kernel
theorem dX0_forget_10 : decode cX0_forget 10 = .ok (.aload_n 0, 1) := by decide +kernel
theorem dX0_forget_11 : decode cX0_forget 11 = .ok (.iconst 0, 1) := by decide +kernel
theorem dX0_forget_12 : decode cX0_forget 12 = .ok (.putfield 34, 3) := by decide +kernel
theorem dX0_forget_15 : decode cX0_forget 15 = .ok (.return_, 1) := by decide +kernel
theorem dX0_takeFrom_0 : decode cX0_takeFrom 0 = .ok (.aload_n 1, 1) := by decide +kernel
theorem dX0_takeFrom_1 : decode cX0_takeFrom 1 = .ok (.getfield 9, 3) := by decide +kernel
theorem dX0_takeFrom_4 : decode cX0_takeFrom 4 = .ok (.iconst 0, 1) := by decide +kernel
theorem dX0_takeFrom_5 : decode cX0_takeFrom 5 = .ok (.aload_n 0, 1) := by decide +kernel
theorem dX0_takeFrom_6 : decode cX0_takeFrom 6 = .ok (.getfield 9, 3) := by decide +kernel
theorem dX0_takeFrom_9 : decode cX0_takeFrom 9 = .ok (.iconst 0, 1) := by decide +kernel
theorem dX0_takeFrom_10 : decode cX0_takeFrom 10 = .ok (.bipush 40, 2) := by decide +kernel
theorem dX0_takeFrom_12 : decode cX0_takeFrom 12 = .ok (.invokestatic 41, 3) := by decide +kernel
theorem dX0_takeFrom_15 : decode cX0_takeFrom 15 = .ok (.aload_n 1, 1) := by decide +kernel
theorem dX0_takeFrom_16 : decode cX0_takeFrom 16 = .ok (.getfield 15, 3) := by decide +kernel
theorem dX0_takeFrom_19 : decode cX0_takeFrom 19 = .ok (.iconst 0, 1) := by decide +kernel
theorem dX0_takeFrom_20 : decode cX0_takeFrom 20 = .ok (.aload_n 0, 1) := by decide +kernel
theorem dX0_takeFrom_21 : decode cX0_takeFrom 21 = .ok (.getfield 15, 3) := by decide +kernel
theorem dX0_takeFrom_24 : decode cX0_takeFrom 24 = .ok (.iconst 0, 1) := by decide +kernel
theorem dX0_takeFrom_25 : decode cX0_takeFrom 25 = .ok (.bipush 40, 2) := by decide +kernel
theorem dX0_takeFrom_27 : decode cX0_takeFrom 27 = .ok (.invokestatic 41, 3) := by decide +kernel
theorem dX0_takeFrom_30 : decode cX0_takeFrom 30 = .ok (.aload_n 1, 1) := by decide +kernel
theorem dX0_takeFrom_31 : decode cX0_takeFrom 31 = .ok (.getfield 18, 3) := by decide +kernel
theorem dX0_takeFrom_34 : decode cX0_takeFrom 34 = .ok (.iconst 0, 1) := by decide +kernel
theorem dX0_takeFrom_35 : decode cX0_takeFrom 35 = .ok (.aload_n 0, 1) := by decide +kernel
theorem dX0_takeFrom_36 : decode cX0_takeFrom 36 = .ok (.getfield 18, 3) := by decide +kernel
theorem dX0_takeFrom_39 : decode cX0_takeFrom 39 = .ok (.iconst 0, 1) := by decide +kernel
theorem dX0_takeFrom_40 : decode cX0_takeFrom 40 = .ok (.bipush 40, 2) := by decide +kernel
theorem dX0_takeFrom_42 : decode cX0_takeFrom 42 = .ok (.invokestatic 41, 3) := by decide +kernel
theorem dX0_takeFrom_45 : decode cX0_takeFrom 45 = .ok (.aload_n 1, 1) := by decide +kernel
theorem dX0_takeFrom_46 : decode cX0_takeFrom 46 = .ok (.getfield 21, 3) := by decide +kernel
theorem dX0_takeFrom_49 : decode cX0_takeFrom 49 = .ok (.iconst 0, 1) := by decide +kernel
theorem dX0_takeFrom_50 : decode cX0_takeFrom 50 = .ok (.aload_n 0, 1) := by decide +kernel
theorem dX0_takeFrom_51 : decode cX0_takeFrom 51 = .ok (.getfield 21, 3) := by decide +kernel
theorem dX0_takeFrom_54 : decode cX0_takeFrom 54 = .ok (.iconst 0, 1) := by decide +kernel
theorem dX0_takeFrom_55 : decode cX0_takeFrom 55 = .ok (.bipush 40, 2) := by decide +kernel
theorem dX0_takeFrom_57 : decode cX0_takeFrom 57 = .ok (.invokestatic 41, 3) := by decide +kernel
theorem dX0_takeFrom_60 : decode cX0_takeFrom 60 = .ok (.aload_n 1, 1) := by decide +kernel
theorem dX0_takeFrom_61 : decode cX0_takeFrom 61 = .ok (.getfield 24, 3) := by decide +kernel
theorem dX0_takeFrom_64 : decode cX0_takeFrom 64 = .ok (.iconst 0, 1) := by decide +kernel
theorem dX0_takeFrom_65 : decode cX0_takeFrom 65 = .ok (.aload_n 0, 1) := by decide +kernel
theorem dX0_takeFrom_66 : decode cX0_takeFrom 66 = .ok (.getfield 24, 3) := by decide +kernel
theorem dX0_takeFrom_69 : decode cX0_takeFrom 69 = .ok (.iconst 0, 1) := by decide +kernel
theorem dX0_takeFrom_70 : decode cX0_takeFrom 70 = .ok (.bipush 40, 2) := by decide +kernel
theorem dX0_takeFrom_72 : decode cX0_takeFrom 72 = .ok (.invokestatic 41, 3) := by decide +kernel
theorem dX0_takeFrom_75 : decode cX0_takeFrom 75 = .ok (.aload_n 0, 1) := by decide +kernel
theorem dX0_takeFrom_76 : decode cX0_takeFrom 76 = .ok (.aload_n 1, 1) := by decide +kernel
theorem dX0_takeFrom_77 : decode cX0_takeFrom 77 = .ok (.getfield 27, 3) := by decide +kernel
theorem dX0_takeFrom_80 : decode cX0_takeFrom 80 = .ok (.putfield 27, 3) := by decide +kernel
theorem dX0_takeFrom_83 : decode cX0_takeFrom 83 = .ok (.aload_n 0, 1) := by decide +kernel
theorem dX0_takeFrom_84 : decode cX0_takeFrom 84 = .ok (.aload_n 1, 1) := by decide +kernel
theorem dX0_takeFrom_85 : decode cX0_takeFrom 85 = .ok (.getfield 31, 3) := by decide +kernel
theorem dX0_takeFrom_88 : decode cX0_takeFrom 88 = .ok (.putfield 31, 3) := by decide +kernel
theorem dX0_takeFrom_91 : decode cX0_takeFrom 91 = .ok (.aload_n 0, 1) := by decide +kernel
theorem dX0_takeFrom_92 : decode cX0_takeFrom 92 = .ok (.aload_n 1, 1) := by decide +kernel
theorem dX0_takeFrom_93 : decode cX0_takeFrom 93 = .ok (.getfield 34, 3) := by decide +kernel
theorem dX0_takeFrom_96 : decode cX0_takeFrom 96 = .ok (.putfield 34, 3) := by decide +kernel
theorem dX0_takeFrom_99 : decode cX0_takeFrom 99 = .ok (.return_, 1) := by decide +kernel
theorem dX0_firstFrom_0 : decode cX0_firstFrom 0 = .ok (.iconst 0, 1) := by decide +kernel
theorem dX0_firstFrom_1 : decode cX0_firstFrom 1 = .ok (.istore_n 2, 1) := by decide +kernel
theorem dX0_firstFrom_2 : decode cX0_firstFrom 2 = .ok (.iload_n 2, 1) := by decide +kernel
theorem dX0_firstFrom_3 : decode cX0_firstFrom 3 = .ok (.aload_n 0, 1) := by decide +kernel
theorem dX0_firstFrom_4 : decode cX0_firstFrom 4 = .ok (.getfield 27, 3) := by decide +kernel
theorem dX0_firstFrom_7 : decode cX0_firstFrom 7 = .ok (.if_icmp .ge 21, 3) := by decide +kernel
theorem dX0_firstFrom_10 : decode cX0_firstFrom 10 = .ok (.aload_n 0, 1) := by decide +kernel
theorem dX0_firstFrom_11 : decode cX0_firstFrom 11 = .ok (.getfield 15, 3) := by decide +kernel
theorem dX0_firstFrom_14 : decode cX0_firstFrom 14 = .ok (.iload_n 2, 1) := by decide +kernel
theorem dX0_firstFrom_15 : decode cX0_firstFrom 15 = .ok (.iaload, 1) := by decide +kernel
theorem dX0_firstFrom_16 : decode cX0_firstFrom 16 = .ok (.iload_n 1, 1) := by decide +kernel
theorem dX0_firstFrom_17 : decode cX0_firstFrom 17 = .ok (.if_icmp .lt 5, 3) := by decide +kernel
theorem dX0_firstFrom_20 : decode cX0_firstFrom 20 = .ok (.iload_n 2, 1) := by decide +kernel
theorem dX0_firstFrom_21 : decode cX0_firstFrom 21 = .ok (.ireturn, 1) := by decide +kernel
theorem dX0_firstFrom_22 : decode cX0_firstFrom 22 = .ok (.iinc 2 1, 3) := by decide +kernel
theorem dX0_firstFrom_25 : decode cX0_firstFrom 25 = .ok (.goto (-23), 3) := by decide +kernel
theorem dX0_firstFrom_28 : decode cX0_firstFrom 28 = .ok (.aload_n 0, 1) := by decide +kernel
theorem dX0_firstFrom_29 : decode cX0_firstFrom 29 = .ok (.getfield 27, 3) := by decide +kernel
theorem dX0_firstFrom_32 : decode cX0_firstFrom 32 = .ok (.ireturn, 1) := by decide +kernel
theorem dX1_init_0 : decode cX1_init 0 = .ok (.aload_n 0, 1) := by decide +kernel
theorem dX1_init_1 : decode cX1_init 1 = .ok (.invokespecial 3, 3) := by decide +kernel
theorem dX1_init_4 : decode cX1_init 4 = .ok (.aload_n 0, 1) := by decide +kernel
theorem dX1_init_5 : decode cX1_init 5 = .ok (.bipush 8, 2) := by decide +kernel
theorem dX1_init_7 : decode cX1_init 7 = .ok (.newarray .int, 2) := by decide +kernel
theorem dX1_init_9 : decode cX1_init 9 = .ok (.putfield 9, 3) := by decide +kernel
theorem dX1_init_12 : decode cX1_init 12 = .ok (.aload_n 0, 1) := by decide +kernel
theorem dX1_init_13 : decode cX1_init 13 = .ok (.iconst 0, 1) := by decide +kernel
theorem dX1_init_14 : decode cX1_init 14 = .ok (.putfield 15, 3) := by decide +kernel
theorem dX1_init_17 : decode cX1_init 17 = .ok (.return_, 1) := by decide +kernel
theorem dX1_add_0 : decode cX1_add 0 = .ok (.aload_n 0, 1) := by decide +kernel
theorem dX1_add_1 : decode cX1_add 1 = .ok (.getfield 15, 3) := by decide +kernel
theorem dX1_add_4 : decode cX1_add 4 = .ok (.bipush 8, 2) := by decide +kernel
theorem dX1_add_6 : decode cX1_add 6 = .ok (.if_icmp .ge 23, 3) := by decide +kernel
theorem dX1_add_9 : decode cX1_add 9 = .ok (.aload_n 0, 1) := by decide +kernel
theorem dX1_add_10 : decode cX1_add 10 = .ok (.getfield 9, 3) := by decide +kernel
theorem dX1_add_13 : decode cX1_add 13 = .ok (.aload_n 0, 1) := by decide +kernel
theorem dX1_add_14 : decode cX1_add 14 = .ok (.getfield 15, 3) := by decide +kernel
theorem dX1_add_17 : decode cX1_add 17 = .ok (.iload_n 1, 1) := by decide +kernel
theorem dX1_add_18 : decode cX1_add 18 = .ok (.iastore, 1) := by decide +kernel
theorem dX1_add_19 : decode cX1_add 19 = .ok (.aload_n 0, 1) := by decide +kernel
theorem dX1_add_20 : decode cX1_add 20 = .ok (.dup, 1) := by decide +kernel
theorem dX1_add_21 : decode cX1_add 21 = .ok (.getfield 15, 3) := by decide +kernel
theorem dX1_add_24 : decode cX1_add 24 = .ok (.iconst 1, 1) := by decide +kernel
theorem dX1_add_25 : decode cX1_add 25 = .ok (.iadd, 1) := by decide +kernel
theorem dX1_add_26 : decode cX1_add 26 = .ok (.putfield 15, 3) := by decide +kernel
theorem dX1_add_29 : decode cX1_add 29 = .ok (.return_, 1) := by decide +kernel
theorem dX1_takeFrom_0 : decode cX1_takeFrom 0 = .ok (.aload_n 1, 1) := by decide +kernel
theorem dX1_takeFrom_1 : decode cX1_takeFrom 1 = .ok (.getfield 9, 3) := by decide +kernel
theorem dX1_takeFrom_4 : decode cX1_takeFrom 4 = .ok (.iconst 0, 1) := by decide +kernel
theorem dX1_takeFrom_5 : decode cX1_takeFrom 5 = .ok (.aload_n 0, 1) := by decide +kernel
theorem dX1_takeFrom_6 : decode cX1_takeFrom 6 = .ok (.getfield 9, 3) := by decide +kernel
theorem dX1_takeFrom_9 : decode cX1_takeFrom 9 = .ok (.iconst 0, 1) := by decide +kernel
theorem dX1_takeFrom_10 : decode cX1_takeFrom 10 = .ok (.bipush 8, 2) := by decide +kernel
theorem dX1_takeFrom_12 : decode cX1_takeFrom 12 = .ok (.invokestatic 19, 3) := by decide +kernel
theorem dX1_takeFrom_15 : decode cX1_takeFrom 15 = .ok (.aload_n 0, 1) := by decide +kernel
theorem dX1_takeFrom_16 : decode cX1_takeFrom 16 = .ok (.aload_n 1, 1) := by decide +kernel
theorem dX1_takeFrom_17 : decode cX1_takeFrom 17 = .ok (.getfield 15, 3) := by decide +kernel
theorem dX1_takeFrom_20 : decode cX1_takeFrom 20 = .ok (.putfield 15, 3) := by decide +kernel
theorem dX1_takeFrom_23 : decode cX1_takeFrom 23 = .ok (.return_, 1) := by decide +kernel
theorem dX1_knows_0 : decode cX1_knows 0 = .ok (.iload_n 1, 1) := by decide +kernel
theorem dX1_knows_1 : decode cX1_knows 1 = .ok (.ifCond .lt 15, 3) := by decide +kernel
theorem dX1_knows_4 : decode cX1_knows 4 = .ok (.iload_n 1, 1) := by decide +kernel
theorem dX1_knows_5 : decode cX1_knows 5 = .ok (.aload_n 0, 1) := by decide +kernel
theorem dX1_knows_6 : decode cX1_knows 6 = .ok (.getfield 15, 3) := by decide +kernel
theorem dX1_knows_9 : decode cX1_knows 9 = .ok (.if_icmp .ge 7, 3) := by decide +kernel
theorem dX1_knows_12 : decode cX1_knows 12 = .ok (.iconst 1, 1) := by decide +kernel
theorem dX1_knows_13 : decode cX1_knows 13 = .ok (.goto 4, 3) := by decide +kernel
theorem dX1_knows_16 : decode cX1_knows 16 = .ok (.iconst 0, 1) := by decide +kernel
theorem dX1_knows_17 : decode cX1_knows 17 = .ok (.ireturn, 1) := by decide +kernel
theorem dX1_allows_0 : decode cX1_allows 0 = .ok (.iload_n 1, 1) := by decide +kernel
theorem dX1_allows_1 : decode cX1_allows 1 = .ok (.ifCond .eq 8, 3) := by decide +kernel
theorem dX1_allows_4 : decode cX1_allows 4 = .ok (.iload_n 1, 1) := by decide +kernel
theorem dX1_allows_5 : decode cX1_allows 5 = .ok (.iconst 1, 1) := by decide +kernel
theorem dX1_allows_6 : decode cX1_allows 6 = .ok (.if_icmp .ne 22, 3) := by decide +kernel
theorem dX1_allows_9 : decode cX1_allows 9 = .ok (.aload_n 0, 1) := by decide +kernel
theorem dX1_allows_10 : decode cX1_allows 10 = .ok (.iload_n 3, 1) := by decide +kernel
theorem dX1_allows_11 : decode cX1_allows 11 = .ok (.invokevirtual 25, 3) := by decide +kernel
theorem dX1_allows_14 : decode cX1_allows 14 = .ok (.ifCond .eq 12, 3) := by decide +kernel
theorem dX1_allows_17 : decode cX1_allows 17 = .ok (.iload_n 3, 1) := by decide +kernel
theorem dX1_allows_18 : decode cX1_allows 18 = .ok (.iload_n 2, 1) := by decide +kernel
theorem dX1_allows_19 : decode cX1_allows 19 = .ok (.if_icmp .eq 7, 3) := by decide +kernel
theorem dX1_allows_22 : decode cX1_allows 22 = .ok (.iconst 1, 1) := by decide +kernel
theorem dX1_allows_23 : decode cX1_allows 23 = .ok (.goto 4, 3) := by decide +kernel
theorem dX1_allows_26 : decode cX1_allows 26 = .ok (.iconst 0, 1) := by decide +kernel
theorem dX1_allows_27 : decode cX1_allows 27 = .ok (.ireturn, 1) := by decide +kernel
theorem dX1_allows_28 : decode cX1_allows 28 = .ok (.iload_n 3, 1) := by decide +kernel
theorem dX1_allows_29 : decode cX1_allows 29 = .ok (.ifCond .lt 21, 3) := by decide +kernel
theorem dX1_allows_32 : decode cX1_allows 32 = .ok (.iload_n 3, 1) := by decide +kernel
theorem dX1_allows_33 : decode cX1_allows 33 = .ok (.iload_n 1, 1) := by decide +kernel
theorem dX1_allows_34 : decode cX1_allows 34 = .ok (.iconst 4, 1) := by decide +kernel
theorem dX1_allows_35 : decode cX1_allows 35 = .ok (.if_icmp .ne 7, 3) := by decide +kernel
theorem dX1_allows_38 : decode cX1_allows 38 = .ok (.iconst 4, 1) := by decide +kernel
theorem dX1_allows_39 : decode cX1_allows 39 = .ok (.goto 4, 3) := by decide +kernel
theorem dX1_allows_42 : decode cX1_allows 42 = .ok (.iconst 4, 1) := by decide +kernel
theorem dX1_allows_43 : decode cX1_allows 43 = .ok (.if_icmp .ge 7, 3) := by decide +kernel
theorem dX1_allows_46 : decode cX1_allows 46 = .ok (.iconst 1, 1) := by decide +kernel
theorem dX1_allows_47 : decode cX1_allows 47 = .ok (.goto 4, 3) := by decide +kernel
theorem dX1_allows_50 : decode cX1_allows 50 = .ok (.iconst 0, 1) := by decide +kernel
theorem dX1_allows_51 : decode cX1_allows 51 = .ok (.ireturn, 1) := by decide +kernel
theorem dX2_init_0 : decode cX2_init 0 = .ok (.aload_n 0, 1) := by decide +kernel
theorem dX2_init_1 : decode cX2_init 1 = .ok (.invokespecial 3, 3) := by decide +kernel
theorem dX2_init_4 : decode cX2_init 4 = .ok (.aload_n 0, 1) := by decide +kernel
theorem dX2_init_5 : decode cX2_init 5 = .ok (.new 9, 3) := by decide +kernel
theorem dX2_init_8 : decode cX2_init 8 = .ok (.dup, 1) := by decide +kernel
theorem dX2_init_9 : decode cX2_init 9 = .ok (.invokespecial 11, 3) := by decide +kernel
theorem dX2_init_12 : decode cX2_init 12 = .ok (.putfield 12, 3) := by decide +kernel
theorem dX2_init_15 : decode cX2_init 15 = .ok (.aload_n 0, 1) := by decide +kernel
theorem dX2_init_16 : decode cX2_init 16 = .ok (.new 18, 3) := by decide +kernel
theorem dX2_init_19 : decode cX2_init 19 = .ok (.dup, 1) := by decide +kernel
theorem dX2_init_20 : decode cX2_init 20 = .ok (.invokespecial 20, 3) := by decide +kernel
theorem dX2_init_23 : decode cX2_init 23 = .ok (.putfield 21, 3) := by decide +kernel
theorem dX2_init_26 : decode cX2_init 26 = .ok (.aload_n 0, 1) := by decide +kernel
theorem dX2_init_27 : decode cX2_init 27 = .ok (.iconst 0, 1) := by decide +kernel
theorem dX2_init_28 : decode cX2_init 28 = .ok (.putfield 25, 3) := by decide +kernel
theorem dX2_init_31 : decode cX2_init 31 = .ok (.aload_n 0, 1) := by decide +kernel
theorem dX2_init_32 : decode cX2_init 32 = .ok (.iconst 0, 1) := by decide +kernel
theorem dX2_init_33 : decode cX2_init 33 = .ok (.putfield 29, 3) := by decide +kernel
theorem dX2_init_36 : decode cX2_init 36 = .ok (.aload_n 0, 1) := by decide +kernel
theorem dX2_init_37 : decode cX2_init 37 = .ok (.iconst 0, 1) := by decide +kernel
theorem dX2_init_38 : decode cX2_init 38 = .ok (.putfield 32, 3) := by decide +kernel
theorem dX2_init_41 : decode cX2_init 41 = .ok (.aload_n 0, 1) := by decide +kernel
theorem dX2_init_42 : decode cX2_init 42 = .ok (.iconst 0, 1) := by decide +kernel
theorem dX2_init_43 : decode cX2_init 43 = .ok (.putfield 35, 3) := by decide +kernel
theorem dX2_init_46 : decode cX2_init 46 = .ok (.aload_n 0, 1) := by decide +kernel
theorem dX2_init_47 : decode cX2_init 47 = .ok (.aload_n 1, 1) := by decide +kernel
theorem dX2_init_48 : decode cX2_init 48 = .ok (.putfield 38, 3) := by decide +kernel
theorem dX2_init_51 : decode cX2_init 51 = .ok (.return_, 1) := by decide +kernel
theorem dX2_readText_0 : decode cX2_readText 0 = .ok (.aload_n 0, 1) := by decide +kernel
theorem dX2_readText_1 : decode cX2_readText 1 = .ok (.iconst 0, 1) := by decide +kernel
theorem dX2_readText_2 : decode cX2_readText 2 = .ok (.putfield 25, 3) := by decide +kernel
theorem dX2_readText_5 : decode cX2_readText 5 = .ok (.aload_n 0, 1) := by decide +kernel
theorem dX2_readText_6 : decode cX2_readText 6 = .ok (.getfield 12, 3) := by decide +kernel
theorem dX2_readText_9 : decode cX2_readText 9 = .ok (.iconst 0, 1) := by decide +kernel
theorem dX2_readText_10 : decode cX2_readText 10 = .ok (.putfield 42, 3) := by decide +kernel
theorem dX2_readText_13 : decode cX2_readText 13 = .ok (.aload_n 0, 1) := by decide +kernel
theorem dX2_readText_14 : decode cX2_readText 14 = .ok (.getfield 21, 3) := by decide +kernel
theorem dX2_readText_17 : decode cX2_readText 17 = .ok (.invokevirtual 45, 3) := by decide +kernel
theorem dX2_readText_20 : decode cX2_readText 20 = .ok (.iconst 0, 1) := by decide +kernel
theorem dX2_readText_21 : decode cX2_readText 21 = .ok (.istore_n 1, 1) := by decide +kernel
theorem dX2_readText_22 : decode cX2_readText 22 = .ok (.iload_n 1, 1) := by decide +kernel
theorem dX2_readText_23 : decode cX2_readText 23 = .ok (.sipush 400, 3) := by decide +kernel
theorem dX2_readText_26 : decode cX2_readText 26 = .ok (.if_icmp .gt 31, 3) := by decide +kernel
theorem dX2_readText_29 : decode cX2_readText 29 = .ok (.aload_n 0, 1) := by decide +kernel
theorem dX2_readText_30 : decode cX2_readText 30 = .ok (.invokevirtual 48, 3) := by decide +kernel
theorem dX2_readText_33 : decode cX2_readText 33 = .ok (.aload_n 0, 1) := by decide +kernel
theorem dX2_readText_34 : decode cX2_readText 34 = .ok (.getfield 29, 3) := by decide +kernel
theorem dX2_readText_37 : decode cX2_readText 37 = .ok (.ifCond .ne 5, 3) := by decide +kernel
theorem dX2_readText_40 : decode cX2_readText 40 = .ok (.iload_n 1, 1) := by decide +kernel
theorem dX2_readText_41 : decode cX2_readText 41 = .ok (.ireturn, 1) := by decide +kernel
theorem dX2_readText_42 : decode cX2_readText 42 = .ok (.aload_n 0, 1) := by decide +kernel
theorem dX2_readText_43 : decode cX2_readText 43 = .ok (.invokevirtual 51, 3) := by decide +kernel
theorem dX2_readText_46 : decode cX2_readText 46 = .ok (.ifCond .ne 5, 3) := by decide +kernel
theorem dX2_readText_49 : decode cX2_readText 49 = .ok (.iconst (-1), 1) := by decide +kernel
theorem dX2_readText_50 : decode cX2_readText 50 = .ok (.ireturn, 1) := by decide +kernel
theorem dX2_readText_51 : decode cX2_readText 51 = .ok (.iinc 1 1, 3) := by decide +kernel
theorem dX2_readText_54 : decode cX2_readText 54 = .ok (.goto (-32), 3) := by decide +kernel
theorem dX2_readText_57 : decode cX2_readText 57 = .ok (.iconst (-1), 1) := by decide +kernel
theorem dX2_readText_58 : decode cX2_readText 58 = .ok (.ireturn, 1) := by decide +kernel
theorem dX2_readItem_0 : decode cX2_readItem 0 = .ok (.aload_n 0, 1) := by decide +kernel
theorem dX2_readItem_1 : decode cX2_readItem 1 = .ok (.getfield 29, 3) := by decide +kernel
theorem dX2_readItem_4 : decode cX2_readItem 4 = .ok (.iconst 1, 1) := by decide +kernel
theorem dX2_readItem_5 : decode cX2_readItem 5 = .ok (.if_icmp .eq 5, 3) := by decide +kernel
theorem dX2_readItem_8 : decode cX2_readItem 8 = .ok (.iconst 0, 1) := by decide +kernel
theorem dX2_readItem_9 : decode cX2_readItem 9 = .ok (.ireturn, 1) := by decide +kernel
theorem dX2_readItem_10 : decode cX2_readItem 10 = .ok (.aload_n 0, 1) := by decide +kernel
theorem dX2_readItem_11 : decode cX2_readItem 11 = .ok (.ldc 55, 2) := by decide +kernel
theorem dX2_readItem_13 : decode cX2_readItem 13 = .ok (.invokevirtual 57, 3) := by decide +kernel
theorem dX2_readItem_16 : decode cX2_readItem 16 = .ok (.ifCond .eq 8, 3) := by decide +kernel
theorem dX2_readItem_19 : decode cX2_readItem 19 = .ok (.aload_n 0, 1) := by decide +kernel
theorem dX2_readItem_20 : decode cX2_readItem 20 = .ok (.invokevirtual 61, 3) := by decide +kernel
theorem dX2_readItem_23 : decode cX2_readItem 23 = .ok (.ireturn, 1) := by decide +kernel
theorem dX2_readItem_24 : decode cX2_readItem 24 = .ok (.aload_n 0, 1) := by decide +kernel
theorem dX2_readItem_25 : decode cX2_readItem 25 = .ok (.invokevirtual 64, 3) := by decide +kernel
theorem dX2_readItem_28 : decode cX2_readItem 28 = .ok (.istore_n 1, 1) := by decide +kernel
theorem dX2_readItem_29 : decode cX2_readItem 29 = .ok (.iload_n 1, 1) := by decide +kernel
theorem dX2_readItem_30 : decode cX2_readItem 30 = .ok (.ifCond .lt 15, 3) := by decide +kernel
theorem dX2_readItem_33 : decode cX2_readItem 33 = .ok (.aload_n 0, 1) := by decide +kernel
theorem dX2_readItem_34 : decode cX2_readItem 34 = .ok (.iload_n 1, 1) := by decide +kernel
theorem dX2_readItem_35 : decode cX2_readItem 35 = .ok (.invokevirtual 68, 3) := by decide +kernel
theorem dX2_readItem_38 : decode cX2_readItem 38 = .ok (.ifCond .eq 7, 3) := by decide +kernel
theorem dX2_readItem_41 : decode cX2_readItem 41 = .ok (.iconst 1, 1) := by decide +kernel
theorem dX2_readItem_42 : decode cX2_readItem 42 = .ok (.goto 4, 3) := by decide +kernel
theorem dX2_readItem_45 : decode cX2_readItem 45 = .ok (.iconst 0, 1) := by decide +kernel
theorem dX2_readItem_46 : decode cX2_readItem 46 = .ok (.ireturn, 1) := by decide +kernel
theorem dX2_readPerson_0 : decode cX2_readPerson 0 = .ok (.aload_n 0, 1) := by decide +kernel
theorem dX2_readPerson_1 : decode cX2_readPerson 1 = .ok (.getfield 12, 3) := by decide +kernel
theorem dX2_readPerson_4 : decode cX2_readPerson 4 = .ok (.getfield 42, 3) := by decide +kernel
theorem dX2_readPerson_7 : decode cX2_readPerson 7 = .ok (.bipush 8, 2) := by decide +kernel
theorem dX2_readPerson_9 : decode cX2_readPerson 9 = .ok (.if_icmp .ge 12, 3) := by decide +kernel
theorem dX2_readPerson_12 : decode cX2_readPerson 12 = .ok (.aload_n 0, 1) := by decide +kernel
theorem dX2_readPerson_13 : decode cX2_readPerson 13 = .ok (.iconst 0, 1) := by decide +kernel
theorem dX2_readPerson_14 : decode cX2_readPerson 14 = .ok (.iconst 3, 1) := by decide +kernel
theorem dX2_readPerson_15 : decode cX2_readPerson 15 = .ok (.invokevirtual 72, 3) := by decide +kernel
theorem dX2_readPerson_18 : decode cX2_readPerson 18 = .ok (.ifCond .ne 5, 3) := by decide +kernel
theorem dX2_readPerson_21 : decode cX2_readPerson 21 = .ok (.iconst 0, 1) := by decide +kernel
theorem dX2_readPerson_22 : decode cX2_readPerson 22 = .ok (.ireturn, 1) := by decide +kernel
theorem dX2_readPerson_23 : decode cX2_readPerson 23 = .ok (.aload_n 0, 1) := by decide +kernel
theorem dX2_readPerson_24 : decode cX2_readPerson 24 = .ok (.getfield 32, 3) := by decide +kernel
theorem dX2_readPerson_27 : decode cX2_readPerson 27 = .ok (.istore_n 1, 1) := by decide +kernel
theorem dX2_readPerson_28 : decode cX2_readPerson 28 = .ok (.aload_n 0, 1) := by decide +kernel
theorem dX2_readPerson_29 : decode cX2_readPerson 29 = .ok (.invokevirtual 76, 3) := by decide +kernel
theorem dX2_readPerson_32 : decode cX2_readPerson 32 = .ok (.ifCond .ne 5, 3) := by decide +kernel
theorem dX2_readPerson_35 : decode cX2_readPerson 35 = .ok (.iconst 0, 1) := by decide +kernel
theorem dX2_readPerson_36 : decode cX2_readPerson 36 = .ok (.ireturn, 1) := by decide +kernel
theorem dX2_readPerson_37 : decode cX2_readPerson 37 = .ok (.aload_n 0, 1) := by decide +kernel
theorem dX2_readPerson_38 : decode cX2_readPerson 38 = .ok (.getfield 12, 3) := by decide +kernel
theorem dX2_readPerson_41 : decode cX2_readPerson 41 = .ok (.iload_n 1, 1) := by decide +kernel
theorem dX2_readPerson_42 : decode cX2_readPerson 42 = .ok (.invokevirtual 79, 3) := by decide +kernel
theorem dX2_readPerson_45 : decode cX2_readPerson 45 = .ok (.iconst 1, 1) := by decide +kernel
theorem dX2_readPerson_46 : decode cX2_readPerson 46 = .ok (.ireturn, 1) := by decide +kernel
theorem dX2_readEvent_0 : decode cX2_readEvent 0 = .ok (.aload_n 0, 1) := by decide +kernel
theorem dX2_readEvent_1 : decode cX2_readEvent 1 = .ok (.getfield 21, 3) := by decide +kernel
theorem dX2_readEvent_4 : decode cX2_readEvent 4 = .ok (.iload_n 1, 1) := by decide +kernel
theorem dX2_readEvent_5 : decode cX2_readEvent 5 = .ok (.invokevirtual 83, 3) := by decide +kernel
theorem dX2_readEvent_8 : decode cX2_readEvent 8 = .ok (.ifCond .eq 19, 3) := by decide +kernel
theorem dX2_readEvent_11 : decode cX2_readEvent 11 = .ok (.aload_n 0, 1) := by decide +kernel
theorem dX2_readEvent_12 : decode cX2_readEvent 12 = .ok (.aload_n 0, 1) := by decide +kernel
theorem dX2_readEvent_13 : decode cX2_readEvent 13 = .ok (.getfield 21, 3) := by decide +kernel
theorem dX2_readEvent_16 : decode cX2_readEvent 16 = .ok (.getfield 86, 3) := by decide +kernel
theorem dX2_readEvent_19 : decode cX2_readEvent 19 = .ok (.bipush 99, 2) := by decide +kernel
theorem dX2_readEvent_21 : decode cX2_readEvent 21 = .ok (.invokevirtual 72, 3) := by decide +kernel
theorem dX2_readEvent_24 : decode cX2_readEvent 24 = .ok (.ifCond .ne 5, 3) := by decide +kernel
theorem dX2_readEvent_27 : decode cX2_readEvent 27 = .ok (.iconst 0, 1) := by decide +kernel
theorem dX2_readEvent_28 : decode cX2_readEvent 28 = .ok (.ireturn, 1) := by decide +kernel
theorem dX2_readEvent_29 : decode cX2_readEvent 29 = .ok (.aload_n 0, 1) := by decide +kernel
theorem dX2_readEvent_30 : decode cX2_readEvent 30 = .ok (.getfield 32, 3) := by decide +kernel
theorem dX2_readEvent_33 : decode cX2_readEvent 33 = .ok (.istore_n 2, 1) := by decide +kernel
theorem dX2_readEvent_34 : decode cX2_readEvent 34 = .ok (.aload_n 0, 1) := by decide +kernel
theorem dX2_readEvent_35 : decode cX2_readEvent 35 = .ok (.iconst 0, 1) := by decide +kernel
theorem dX2_readEvent_36 : decode cX2_readEvent 36 = .ok (.aload_n 0, 1) := by decide +kernel
theorem dX2_readEvent_37 : decode cX2_readEvent 37 = .ok (.getfield 12, 3) := by decide +kernel
theorem dX2_readEvent_40 : decode cX2_readEvent 40 = .ok (.getfield 42, 3) := by decide +kernel
theorem dX2_readEvent_43 : decode cX2_readEvent 43 = .ok (.iconst 1, 1) := by decide +kernel
theorem dX2_readEvent_44 : decode cX2_readEvent 44 = .ok (.isub, 1) := by decide +kernel
theorem dX2_readEvent_45 : decode cX2_readEvent 45 = .ok (.invokevirtual 72, 3) := by decide +kernel
theorem dX2_readEvent_48 : decode cX2_readEvent 48 = .ok (.ifCond .ne 5, 3) := by decide +kernel
theorem dX2_readEvent_51 : decode cX2_readEvent 51 = .ok (.iconst 0, 1) := by decide +kernel
theorem dX2_readEvent_52 : decode cX2_readEvent 52 = .ok (.ireturn, 1) := by decide +kernel
theorem dX2_readEvent_53 : decode cX2_readEvent 53 = .ok (.aload_n 0, 1) := by decide +kernel
theorem dX2_readEvent_54 : decode cX2_readEvent 54 = .ok (.getfield 32, 3) := by decide +kernel
theorem dX2_readEvent_57 : decode cX2_readEvent 57 = .ok (.istore_n 3, 1) := by decide +kernel
theorem dX2_readEvent_58 : decode cX2_readEvent 58 = .ok (.aload_n 0, 1) := by decide +kernel
theorem dX2_readEvent_59 : decode cX2_readEvent 59 = .ok (.iconst 0, 1) := by decide +kernel
theorem dX2_readEvent_60 : decode cX2_readEvent 60 = .ok (.bipush 99, 2) := by decide +kernel
theorem dX2_readEvent_62 : decode cX2_readEvent 62 = .ok (.invokevirtual 72, 3) := by decide +kernel
theorem dX2_readEvent_65 : decode cX2_readEvent 65 = .ok (.ifCond .eq 19, 3) := by decide +kernel
theorem dX2_readEvent_68 : decode cX2_readEvent 68 = .ok (.aload_n 0, 1) := by decide +kernel
theorem dX2_readEvent_69 : decode cX2_readEvent 69 = .ok (.getfield 12, 3) := by decide +kernel
theorem dX2_readEvent_72 : decode cX2_readEvent 72 = .ok (.iload_n 1, 1) := by decide +kernel
theorem dX2_readEvent_73 : decode cX2_readEvent 73 = .ok (.iload_n 3, 1) := by decide +kernel
theorem dX2_readEvent_74 : decode cX2_readEvent 74 = .ok (.aload_n 0, 1) := by decide +kernel
theorem dX2_readEvent_75 : decode cX2_readEvent 75 = .ok (.getfield 32, 3) := by decide +kernel
theorem dX2_readEvent_78 : decode cX2_readEvent 78 = .ok (.invokevirtual 89, 3) := by decide +kernel
theorem dX2_readEvent_81 : decode cX2_readEvent 81 = .ok (.ifCond .ne 5, 3) := by decide +kernel
theorem dX2_readEvent_84 : decode cX2_readEvent 84 = .ok (.iconst 0, 1) := by decide +kernel
theorem dX2_readEvent_85 : decode cX2_readEvent 85 = .ok (.ireturn, 1) := by decide +kernel
theorem dX2_readEvent_86 : decode cX2_readEvent 86 = .ok (.aload_n 0, 1) := by decide +kernel
theorem dX2_readEvent_87 : decode cX2_readEvent 87 = .ok (.getfield 32, 3) := by decide +kernel
theorem dX2_readEvent_90 : decode cX2_readEvent 90 = .ok (.istore 4, 2) := by decide +kernel
theorem dX2_readEvent_92 : decode cX2_readEvent 92 = .ok (.aload_n 0, 1) := by decide +kernel
theorem dX2_readEvent_93 : decode cX2_readEvent 93 = .ok (.invokevirtual 76, 3) := by decide +kernel
theorem dX2_readEvent_96 : decode cX2_readEvent 96 = .ok (.ifCond .ne 5, 3) := by decide +kernel
theorem dX2_readEvent_99 : decode cX2_readEvent 99 = .ok (.iconst 0, 1) := by decide +kernel
theorem dX2_readEvent_100 : decode cX2_readEvent 100 = .ok (.ireturn, 1) := by decide +kernel
theorem dX2_readEvent_101 : decode cX2_readEvent 101 = .ok (.aload_n 0, 1) := by decide +kernel
theorem dX2_readEvent_102 : decode cX2_readEvent 102 = .ok (.getfield 21, 3) := by decide +kernel
theorem dX2_readEvent_105 : decode cX2_readEvent 105 = .ok (.iload_n 2, 1) := by decide +kernel
theorem dX2_readEvent_106 : decode cX2_readEvent 106 = .ok (.putfield 86, 3) := by decide +kernel
theorem dX2_readEvent_109 : decode cX2_readEvent 109 = .ok (.aload_n 0, 1) := by decide +kernel
theorem dX2_readEvent_110 : decode cX2_readEvent 110 = .ok (.getfield 21, 3) := by decide +kernel
theorem dX2_readEvent_113 : decode cX2_readEvent 113 = .ok (.iload_n 1, 1) := by decide +kernel
theorem dX2_readEvent_114 : decode cX2_readEvent 114 = .ok (.iload_n 3, 1) := by decide +kernel
theorem dX2_readEvent_115 : decode cX2_readEvent 115 = .ok (.iload 4, 2) := by decide +kernel
theorem dX2_readEvent_117 : decode cX2_readEvent 117 = .ok (.invokevirtual 93, 3) := by decide +kernel
theorem dX2_readEvent_120 : decode cX2_readEvent 120 = .ok (.iconst 1, 1) := by decide +kernel
theorem dX2_readEvent_121 : decode cX2_readEvent 121 = .ok (.ireturn, 1) := by decide +kernel
theorem dX2_readNumber_0 : decode cX2_readNumber 0 = .ok (.aload_n 0, 1) := by decide +kernel
theorem dX2_readNumber_1 : decode cX2_readNumber 1 = .ok (.invokevirtual 48, 3) := by decide +kernel
theorem dX2_readNumber_4 : decode cX2_readNumber 4 = .ok (.aload_n 0, 1) := by decide +kernel
theorem dX2_readNumber_5 : decode cX2_readNumber 5 = .ok (.getfield 29, 3) := by decide +kernel
theorem dX2_readNumber_8 : decode cX2_readNumber 8 = .ok (.iconst 2, 1) := by decide +kernel
theorem dX2_readNumber_9 : decode cX2_readNumber 9 = .ok (.if_icmp .ne 23, 3) := by decide +kernel
theorem dX2_readNumber_12 : decode cX2_readNumber 12 = .ok (.aload_n 0, 1) := by decide +kernel
theorem dX2_readNumber_13 : decode cX2_readNumber 13 = .ok (.getfield 32, 3) := by decide +kernel
theorem dX2_readNumber_16 : decode cX2_readNumber 16 = .ok (.iload_n 1, 1) := by decide +kernel
theorem dX2_readNumber_17 : decode cX2_readNumber 17 = .ok (.if_icmp .lt 15, 3) := by decide +kernel
theorem dX2_readNumber_20 : decode cX2_readNumber 20 = .ok (.aload_n 0, 1) := by decide +kernel
theorem dX2_readNumber_21 : decode cX2_readNumber 21 = .ok (.getfield 32, 3) := by decide +kernel
theorem dX2_readNumber_24 : decode cX2_readNumber 24 = .ok (.iload_n 2, 1) := by decide +kernel
theorem dX2_readNumber_25 : decode cX2_readNumber 25 = .ok (.if_icmp .gt 7, 3) := by decide +kernel
theorem dX2_readNumber_28 : decode cX2_readNumber 28 = .ok (.iconst 1, 1) := by decide +kernel
theorem dX2_readNumber_29 : decode cX2_readNumber 29 = .ok (.goto 4, 3) := by decide +kernel
theorem dX2_readNumber_32 : decode cX2_readNumber 32 = .ok (.iconst 0, 1) := by decide +kernel
theorem dX2_readNumber_33 : decode cX2_readNumber 33 = .ok (.ireturn, 1) := by decide +kernel
theorem dX2_readStop_0 : decode cX2_readStop 0 = .ok (.aload_n 0, 1) := by decide +kernel
theorem dX2_readStop_1 : decode cX2_readStop 1 = .ok (.invokevirtual 48, 3) := by decide +kernel
theorem dX2_readStop_4 : decode cX2_readStop 4 = .ok (.aload_n 0, 1) := by decide +kernel
theorem dX2_readStop_5 : decode cX2_readStop 5 = .ok (.getfield 29, 3) := by decide +kernel
theorem dX2_readStop_8 : decode cX2_readStop 8 = .ok (.iconst 3, 1) := by decide +kernel
theorem dX2_readStop_9 : decode cX2_readStop 9 = .ok (.if_icmp .ne 7, 3) := by decide +kernel
theorem dX2_readStop_12 : decode cX2_readStop 12 = .ok (.iconst 1, 1) := by decide +kernel
theorem dX2_readStop_13 : decode cX2_readStop 13 = .ok (.goto 4, 3) := by decide +kernel
theorem dX2_readStop_16 : decode cX2_readStop 16 = .ok (.iconst 0, 1) := by decide +kernel
theorem dX2_readStop_17 : decode cX2_readStop 17 = .ok (.ireturn, 1) := by decide +kernel
theorem dX2_sortOfWord_0 : decode cX2_sortOfWord 0 = .ok (.aload_n 0, 1) := by decide +kernel
theorem dX2_sortOfWord_1 : decode cX2_sortOfWord 1 = .ok (.ldc 96, 2) := by decide +kernel
theorem dX2_sortOfWord_3 : decode cX2_sortOfWord 3 = .ok (.invokevirtual 57, 3) := by decide +kernel
theorem dX2_sortOfWord_6 : decode cX2_sortOfWord 6 = .ok (.ifCond .eq 5, 3) := by decide +kernel
theorem dX2_sortOfWord_9 : decode cX2_sortOfWord 9 = .ok (.iconst 0, 1) := by decide +kernel
theorem dX2_sortOfWord_10 : decode cX2_sortOfWord 10 = .ok (.ireturn, 1) := by decide +kernel
theorem dX2_sortOfWord_11 : decode cX2_sortOfWord 11 = .ok (.aload_n 0, 1) := by decide +kernel
theorem dX2_sortOfWord_12 : decode cX2_sortOfWord 12 = .ok (.ldc 98, 2) := by decide +kernel
theorem dX2_sortOfWord_14 : decode cX2_sortOfWord 14 = .ok (.invokevirtual 57, 3) := by decide +kernel
theorem dX2_sortOfWord_17 : decode cX2_sortOfWord 17 = .ok (.ifCond .eq 5, 3) := by decide +kernel
theorem dX2_sortOfWord_20 : decode cX2_sortOfWord 20 = .ok (.iconst 1, 1) := by decide +kernel
theorem dX2_sortOfWord_21 : decode cX2_sortOfWord 21 = .ok (.ireturn, 1) := by decide +kernel
theorem dX2_sortOfWord_22 : decode cX2_sortOfWord 22 = .ok (.aload_n 0, 1) := by decide +kernel
theorem dX2_sortOfWord_23 : decode cX2_sortOfWord 23 = .ok (.ldc 100, 2) := by decide +kernel
theorem dX2_sortOfWord_25 : decode cX2_sortOfWord 25 = .ok (.invokevirtual 57, 3) := by decide +kernel
theorem dX2_sortOfWord_28 : decode cX2_sortOfWord 28 = .ok (.ifCond .eq 5, 3) := by decide +kernel
theorem dX2_sortOfWord_31 : decode cX2_sortOfWord 31 = .ok (.iconst 2, 1) := by decide +kernel
theorem dX2_sortOfWord_32 : decode cX2_sortOfWord 32 = .ok (.ireturn, 1) := by decide +kernel
theorem dX2_sortOfWord_33 : decode cX2_sortOfWord 33 = .ok (.aload_n 0, 1) := by decide +kernel
theorem dX2_sortOfWord_34 : decode cX2_sortOfWord 34 = .ok (.ldc 102, 2) := by decide +kernel
theorem dX2_sortOfWord_36 : decode cX2_sortOfWord 36 = .ok (.invokevirtual 57, 3) := by decide +kernel
theorem dX2_sortOfWord_39 : decode cX2_sortOfWord 39 = .ok (.ifCond .eq 5, 3) := by decide +kernel
theorem dX2_sortOfWord_42 : decode cX2_sortOfWord 42 = .ok (.iconst 3, 1) := by decide +kernel
theorem dX2_sortOfWord_43 : decode cX2_sortOfWord 43 = .ok (.ireturn, 1) := by decide +kernel
theorem dX2_sortOfWord_44 : decode cX2_sortOfWord 44 = .ok (.aload_n 0, 1) := by decide +kernel
theorem dX2_sortOfWord_45 : decode cX2_sortOfWord 45 = .ok (.ldc 104, 2) := by decide +kernel
theorem dX2_sortOfWord_47 : decode cX2_sortOfWord 47 = .ok (.invokevirtual 57, 3) := by decide +kernel
theorem dX2_sortOfWord_50 : decode cX2_sortOfWord 50 = .ok (.ifCond .eq 7, 3) := by decide +kernel
theorem dX2_sortOfWord_53 : decode cX2_sortOfWord 53 = .ok (.iconst 4, 1) := by decide +kernel
theorem dX2_sortOfWord_54 : decode cX2_sortOfWord 54 = .ok (.goto 4, 3) := by decide +kernel
theorem dX2_sortOfWord_57 : decode cX2_sortOfWord 57 = .ok (.iconst (-1), 1) := by decide +kernel
theorem dX2_sortOfWord_58 : decode cX2_sortOfWord 58 = .ok (.ireturn, 1) := by decide +kernel
theorem dX2_isWord_0 : decode cX2_isWord 0 = .ok (.aload_n 0, 1) := by decide +kernel
theorem dX2_isWord_1 : decode cX2_isWord 1 = .ok (.getfield 25, 3) := by decide +kernel
theorem dX2_isWord_4 : decode cX2_isWord 4 = .ok (.aload_n 0, 1) := by decide +kernel
theorem dX2_isWord_5 : decode cX2_isWord 5 = .ok (.getfield 35, 3) := by decide +kernel
theorem dX2_isWord_8 : decode cX2_isWord 8 = .ok (.isub, 1) := by decide +kernel
theorem dX2_isWord_9 : decode cX2_isWord 9 = .ok (.aload_n 1, 1) := by decide +kernel
theorem dX2_isWord_10 : decode cX2_isWord 10 = .ok (.invokevirtual 106, 3) := by decide +kernel
theorem dX2_isWord_13 : decode cX2_isWord 13 = .ok (.if_icmp .eq 5, 3) := by decide +kernel
theorem dX2_isWord_16 : decode cX2_isWord 16 = .ok (.iconst 0, 1) := by decide +kernel
theorem dX2_isWord_17 : decode cX2_isWord 17 = .ok (.ireturn, 1) := by decide +kernel
theorem dX2_isWord_18 : decode cX2_isWord 18 = .ok (.iconst 0, 1) := by decide +kernel
theorem dX2_isWord_19 : decode cX2_isWord 19 = .ok (.istore_n 2, 1) := by decide +kernel
theorem dX2_isWord_20 : decode cX2_isWord 20 = .ok (.iload_n 2, 1) := by decide +kernel
theorem dX2_isWord_21 : decode cX2_isWord 21 = .ok (.aload_n 1, 1) := by decide +kernel
theorem dX2_isWord_22 : decode cX2_isWord 22 = .ok (.invokevirtual 106, 3) := by decide +kernel
theorem dX2_isWord_25 : decode cX2_isWord 25 = .ok (.if_icmp .ge 32, 3) := by decide +kernel
theorem dX2_isWord_28 : decode cX2_isWord 28 = .ok (.aload_n 0, 1) := by decide +kernel
theorem dX2_isWord_29 : decode cX2_isWord 29 = .ok (.getfield 38, 3) := by decide +kernel
theorem dX2_isWord_32 : decode cX2_isWord 32 = .ok (.aload_n 0, 1) := by decide +kernel
theorem dX2_isWord_33 : decode cX2_isWord 33 = .ok (.getfield 35, 3) := by decide +kernel
theorem dX2_isWord_36 : decode cX2_isWord 36 = .ok (.iload_n 2, 1) := by decide +kernel
theorem dX2_isWord_37 : decode cX2_isWord 37 = .ok (.iadd, 1) := by decide +kernel
theorem dX2_isWord_38 : decode cX2_isWord 38 = .ok (.invokevirtual 111, 3) := by decide +kernel
theorem dX2_isWord_41 : decode cX2_isWord 41 = .ok (.aload_n 1, 1) := by decide +kernel
theorem dX2_isWord_42 : decode cX2_isWord 42 = .ok (.iload_n 2, 1) := by decide +kernel
theorem dX2_isWord_43 : decode cX2_isWord 43 = .ok (.invokevirtual 117, 3) := by decide +kernel
theorem dX2_isWord_46 : decode cX2_isWord 46 = .ok (.if_icmp .eq 5, 3) := by decide +kernel
theorem dX2_isWord_49 : decode cX2_isWord 49 = .ok (.iconst 0, 1) := by decide +kernel
theorem dX2_isWord_50 : decode cX2_isWord 50 = .ok (.ireturn, 1) := by decide +kernel
theorem dX2_isWord_51 : decode cX2_isWord 51 = .ok (.iinc 2 1, 3) := by decide +kernel
theorem dX2_isWord_54 : decode cX2_isWord 54 = .ok (.goto (-34), 3) := by decide +kernel
theorem dX2_isWord_57 : decode cX2_isWord 57 = .ok (.iconst 1, 1) := by decide +kernel
theorem dX2_isWord_58 : decode cX2_isWord 58 = .ok (.ireturn, 1) := by decide +kernel
theorem dX2_readToken_0 : decode cX2_readToken 0 = .ok (.aload_n 0, 1) := by decide +kernel
theorem dX2_readToken_1 : decode cX2_readToken 1 = .ok (.getfield 25, 3) := by decide +kernel
theorem dX2_readToken_4 : decode cX2_readToken 4 = .ok (.aload_n 0, 1) := by decide +kernel
theorem dX2_readToken_5 : decode cX2_readToken 5 = .ok (.getfield 38, 3) := by decide +kernel
theorem dX2_readToken_8 : decode cX2_readToken 8 = .ok (.getfield 121, 3) := by decide +kernel
theorem dX2_readToken_11 : decode cX2_readToken 11 = .ok (.if_icmp .ge 32, 3) := by decide +kernel
theorem dX2_readToken_14 : decode cX2_readToken 14 = .ok (.aload_n 0, 1) := by decide +kernel
theorem dX2_readToken_15 : decode cX2_readToken 15 = .ok (.getfield 38, 3) := by decide +kernel
theorem dX2_readToken_18 : decode cX2_readToken 18 = .ok (.aload_n 0, 1) := by decide +kernel
theorem dX2_readToken_19 : decode cX2_readToken 19 = .ok (.getfield 25, 3) := by decide +kernel
theorem dX2_readToken_22 : decode cX2_readToken 22 = .ok (.invokevirtual 111, 3) := by decide +kernel
theorem dX2_readToken_25 : decode cX2_readToken 25 = .ok (.bipush 32, 2) := by decide +kernel
theorem dX2_readToken_27 : decode cX2_readToken 27 = .ok (.if_icmp .ne 16, 3) := by decide +kernel
theorem dX2_readToken_30 : decode cX2_readToken 30 = .ok (.aload_n 0, 1) := by decide +kernel
theorem dX2_readToken_31 : decode cX2_readToken 31 = .ok (.dup, 1) := by decide +kernel
theorem dX2_readToken_32 : decode cX2_readToken 32 = .ok (.getfield 25, 3) := by decide +kernel
theorem dX2_readToken_35 : decode cX2_readToken 35 = .ok (.iconst 1, 1) := by decide +kernel
theorem dX2_readToken_36 : decode cX2_readToken 36 = .ok (.iadd, 1) := by decide +kernel
theorem dX2_readToken_37 : decode cX2_readToken 37 = .ok (.putfield 25, 3) := by decide +kernel
theorem dX2_readToken_40 : decode cX2_readToken 40 = .ok (.goto (-40), 3) := by decide +kernel
theorem dX2_readToken_43 : decode cX2_readToken 43 = .ok (.aload_n 0, 1) := by decide +kernel
theorem dX2_readToken_44 : decode cX2_readToken 44 = .ok (.aload_n 0, 1) := by decide +kernel
theorem dX2_readToken_45 : decode cX2_readToken 45 = .ok (.getfield 25, 3) := by decide +kernel
theorem dX2_readToken_48 : decode cX2_readToken 48 = .ok (.putfield 35, 3) := by decide +kernel
theorem dX2_readToken_51 : decode cX2_readToken 51 = .ok (.aload_n 0, 1) := by decide +kernel
theorem dX2_readToken_52 : decode cX2_readToken 52 = .ok (.getfield 38, 3) := by decide +kernel
theorem dX2_readToken_55 : decode cX2_readToken 55 = .ok (.aload_n 0, 1) := by decide +kernel
theorem dX2_readToken_56 : decode cX2_readToken 56 = .ok (.getfield 25, 3) := by decide +kernel
theorem dX2_readToken_59 : decode cX2_readToken 59 = .ok (.invokevirtual 111, 3) := by decide +kernel
theorem dX2_readToken_62 : decode cX2_readToken 62 = .ok (.istore_n 1, 1) := by decide +kernel
theorem dX2_readToken_63 : decode cX2_readToken 63 = .ok (.iload_n 1, 1) := by decide +kernel
theorem dX2_readToken_64 : decode cX2_readToken 64 = .ok (.ifCond .ge 11, 3) := by decide +kernel
theorem dX2_readToken_67 : decode cX2_readToken 67 = .ok (.aload_n 0, 1) := by decide +kernel
theorem dX2_readToken_68 : decode cX2_readToken 68 = .ok (.iconst 0, 1) := by decide +kernel
theorem dX2_readToken_69 : decode cX2_readToken 69 = .ok (.putfield 29, 3) := by decide +kernel
theorem dX2_readToken_72 : decode cX2_readToken 72 = .ok (.goto 56, 3) := by decide +kernel
theorem dX2_readToken_75 : decode cX2_readToken 75 = .ok (.iload_n 1, 1) := by decide +kernel
theorem dX2_readToken_76 : decode cX2_readToken 76 = .ok (.invokestatic 122, 3) := by decide +kernel
theorem dX2_readToken_79 : decode cX2_readToken 79 = .ok (.ifCond .eq 10, 3) := by decide +kernel
theorem dX2_readToken_82 : decode cX2_readToken 82 = .ok (.aload_n 0, 1) := by decide +kernel
theorem dX2_readToken_83 : decode cX2_readToken 83 = .ok (.invokevirtual 125, 3) := by decide +kernel
theorem dX2_readToken_86 : decode cX2_readToken 86 = .ok (.goto 42, 3) := by decide +kernel
theorem dX2_readToken_89 : decode cX2_readToken 89 = .ok (.iload_n 1, 1) := by decide +kernel
theorem dX2_readToken_90 : decode cX2_readToken 90 = .ok (.invokestatic 128, 3) := by decide +kernel
theorem dX2_readToken_93 : decode cX2_readToken 93 = .ok (.ifCond .eq 10, 3) := by decide +kernel
theorem dX2_readToken_96 : decode cX2_readToken 96 = .ok (.aload_n 0, 1) := by decide +kernel
theorem dX2_readToken_97 : decode cX2_readToken 97 = .ok (.invokevirtual 131, 3) := by decide +kernel
theorem dX2_readToken_100 : decode cX2_readToken 100 = .ok (.goto 28, 3) := by decide +kernel
theorem dX2_readToken_103 : decode cX2_readToken 103 = .ok (.aload_n 0, 1) := by decide +kernel
theorem dX2_readToken_104 : decode cX2_readToken 104 = .ok (.dup, 1) := by decide +kernel
theorem dX2_readToken_105 : decode cX2_readToken 105 = .ok (.getfield 25, 3) := by decide +kernel
theorem dX2_readToken_108 : decode cX2_readToken 108 = .ok (.iconst 1, 1) := by decide +kernel
theorem dX2_readToken_109 : decode cX2_readToken 109 = .ok (.iadd, 1) := by decide +kernel
theorem dX2_readToken_110 : decode cX2_readToken 110 = .ok (.putfield 25, 3) := by decide +kernel
theorem dX2_readToken_113 : decode cX2_readToken 113 = .ok (.aload_n 0, 1) := by decide +kernel
theorem dX2_readToken_114 : decode cX2_readToken 114 = .ok (.iload_n 1, 1) := by decide +kernel
theorem dX2_readToken_115 : decode cX2_readToken 115 = .ok (.bipush 59, 2) := by decide +kernel
theorem dX2_readToken_117 : decode cX2_readToken 117 = .ok (.if_icmp .ne 7, 3) := by decide +kernel
theorem dX2_readToken_120 : decode cX2_readToken 120 = .ok (.iconst 3, 1) := by decide +kernel
theorem dX2_readToken_121 : decode cX2_readToken 121 = .ok (.goto 4, 3) := by decide +kernel
theorem dX2_readToken_124 : decode cX2_readToken 124 = .ok (.iconst 4, 1) := by decide +kernel
theorem dX2_readToken_125 : decode cX2_readToken 125 = .ok (.putfield 29, 3) := by decide +kernel
theorem dX2_readToken_128 : decode cX2_readToken 128 = .ok (.return_, 1) := by decide +kernel
theorem dX2_readWord_0 : decode cX2_readWord 0 = .ok (.aload_n 0, 1) := by decide +kernel
theorem dX2_readWord_1 : decode cX2_readWord 1 = .ok (.getfield 25, 3) := by decide +kernel
theorem dX2_readWord_4 : decode cX2_readWord 4 = .ok (.aload_n 0, 1) := by decide +kernel
theorem dX2_readWord_5 : decode cX2_readWord 5 = .ok (.getfield 38, 3) := by decide +kernel
theorem dX2_readWord_8 : decode cX2_readWord 8 = .ok (.getfield 121, 3) := by decide +kernel
theorem dX2_readWord_11 : decode cX2_readWord 11 = .ok (.if_icmp .ge 33, 3) := by decide +kernel
theorem dX2_readWord_14 : decode cX2_readWord 14 = .ok (.aload_n 0, 1) := by decide +kernel
theorem dX2_readWord_15 : decode cX2_readWord 15 = .ok (.getfield 38, 3) := by decide +kernel
theorem dX2_readWord_18 : decode cX2_readWord 18 = .ok (.aload_n 0, 1) := by decide +kernel
theorem dX2_readWord_19 : decode cX2_readWord 19 = .ok (.getfield 25, 3) := by decide +kernel
theorem dX2_readWord_22 : decode cX2_readWord 22 = .ok (.invokevirtual 111, 3) := by decide +kernel
theorem dX2_readWord_25 : decode cX2_readWord 25 = .ok (.invokestatic 122, 3) := by decide +kernel
theorem dX2_readWord_28 : decode cX2_readWord 28 = .ok (.ifCond .eq 16, 3) := by decide +kernel
theorem dX2_readWord_31 : decode cX2_readWord 31 = .ok (.aload_n 0, 1) := by decide +kernel
theorem dX2_readWord_32 : decode cX2_readWord 32 = .ok (.dup, 1) := by decide +kernel
theorem dX2_readWord_33 : decode cX2_readWord 33 = .ok (.getfield 25, 3) := by decide +kernel
theorem dX2_readWord_36 : decode cX2_readWord 36 = .ok (.iconst 1, 1) := by decide +kernel
theorem dX2_readWord_37 : decode cX2_readWord 37 = .ok (.iadd, 1) := by decide +kernel
theorem dX2_readWord_38 : decode cX2_readWord 38 = .ok (.putfield 25, 3) := by decide +kernel
theorem dX2_readWord_41 : decode cX2_readWord 41 = .ok (.goto (-41), 3) := by decide +kernel
theorem dX2_readWord_44 : decode cX2_readWord 44 = .ok (.aload_n 0, 1) := by decide +kernel
theorem dX2_readWord_45 : decode cX2_readWord 45 = .ok (.iconst 1, 1) := by decide +kernel
theorem dX2_readWord_46 : decode cX2_readWord 46 = .ok (.putfield 29, 3) := by decide +kernel
theorem dX2_readWord_49 : decode cX2_readWord 49 = .ok (.return_, 1) := by decide +kernel
theorem dX2_readDigits_0 : decode cX2_readDigits 0 = .ok (.aload_n 0, 1) := by decide +kernel
theorem dX2_readDigits_1 : decode cX2_readDigits 1 = .ok (.iconst 0, 1) := by decide +kernel
theorem dX2_readDigits_2 : decode cX2_readDigits 2 = .ok (.putfield 32, 3) := by decide +kernel
theorem dX2_readDigits_5 : decode cX2_readDigits 5 = .ok (.aload_n 0, 1) := by decide +kernel
theorem dX2_readDigits_6 : decode cX2_readDigits 6 = .ok (.getfield 25, 3) := by decide +kernel
theorem dX2_readDigits_9 : decode cX2_readDigits 9 = .ok (.aload_n 0, 1) := by decide +kernel
theorem dX2_readDigits_10 : decode cX2_readDigits 10 = .ok (.getfield 38, 3) := by decide +kernel
theorem dX2_readDigits_13 : decode cX2_readDigits 13 = .ok (.getfield 121, 3) := by decide +kernel
theorem dX2_readDigits_16 : decode cX2_readDigits 16 = .ok (.if_icmp .ge 64, 3) := by decide +kernel
theorem dX2_readDigits_19 : decode cX2_readDigits 19 = .ok (.aload_n 0, 1) := by decide +kernel
theorem dX2_readDigits_20 : decode cX2_readDigits 20 = .ok (.getfield 38, 3) := by decide +kernel
theorem dX2_readDigits_23 : decode cX2_readDigits 23 = .ok (.aload_n 0, 1) := by decide +kernel
theorem dX2_readDigits_24 : decode cX2_readDigits 24 = .ok (.getfield 25, 3) := by decide +kernel
theorem dX2_readDigits_27 : decode cX2_readDigits 27 = .ok (.invokevirtual 111, 3) := by decide +kernel
theorem dX2_readDigits_30 : decode cX2_readDigits 30 = .ok (.invokestatic 128, 3) := by decide +kernel
theorem dX2_readDigits_33 : decode cX2_readDigits 33 = .ok (.ifCond .eq 47, 3) := by decide +kernel
theorem dX2_readDigits_36 : decode cX2_readDigits 36 = .ok (.aload_n 0, 1) := by decide +kernel
theorem dX2_readDigits_37 : decode cX2_readDigits 37 = .ok (.aload_n 0, 1) := by decide +kernel
theorem dX2_readDigits_38 : decode cX2_readDigits 38 = .ok (.getfield 32, 3) := by decide +kernel
theorem dX2_readDigits_41 : decode cX2_readDigits 41 = .ok (.bipush 10, 2) := by decide +kernel
theorem dX2_readDigits_43 : decode cX2_readDigits 43 = .ok (.imul, 1) := by decide +kernel
theorem dX2_readDigits_44 : decode cX2_readDigits 44 = .ok (.aload_n 0, 1) := by decide +kernel
theorem dX2_readDigits_45 : decode cX2_readDigits 45 = .ok (.getfield 38, 3) := by decide +kernel
theorem dX2_readDigits_48 : decode cX2_readDigits 48 = .ok (.aload_n 0, 1) := by decide +kernel
theorem dX2_readDigits_49 : decode cX2_readDigits 49 = .ok (.getfield 25, 3) := by decide +kernel
theorem dX2_readDigits_52 : decode cX2_readDigits 52 = .ok (.invokevirtual 111, 3) := by decide +kernel
theorem dX2_readDigits_55 : decode cX2_readDigits 55 = .ok (.iadd, 1) := by decide +kernel
theorem dX2_readDigits_56 : decode cX2_readDigits 56 = .ok (.bipush 48, 2) := by decide +kernel
theorem dX2_readDigits_58 : decode cX2_readDigits 58 = .ok (.isub, 1) := by decide +kernel
theorem dX2_readDigits_59 : decode cX2_readDigits 59 = .ok (.bipush 100, 2) := by decide +kernel
theorem dX2_readDigits_61 : decode cX2_readDigits 61 = .ok (.invokestatic 134, 3) := by decide +kernel
theorem dX2_readDigits_64 : decode cX2_readDigits 64 = .ok (.putfield 32, 3) := by decide +kernel
theorem dX2_readDigits_67 : decode cX2_readDigits 67 = .ok (.aload_n 0, 1) := by decide +kernel
theorem dX2_readDigits_68 : decode cX2_readDigits 68 = .ok (.dup, 1) := by decide +kernel
theorem dX2_readDigits_69 : decode cX2_readDigits 69 = .ok (.getfield 25, 3) := by decide +kernel
theorem dX2_readDigits_72 : decode cX2_readDigits 72 = .ok (.iconst 1, 1) := by decide +kernel
theorem dX2_readDigits_73 : decode cX2_readDigits 73 = .ok (.iadd, 1) := by decide +kernel
theorem dX2_readDigits_74 : decode cX2_readDigits 74 = .ok (.putfield 25, 3) := by decide +kernel
theorem dX2_readDigits_77 : decode cX2_readDigits 77 = .ok (.goto (-72), 3) := by decide +kernel
theorem dX2_readDigits_80 : decode cX2_readDigits 80 = .ok (.aload_n 0, 1) := by decide +kernel
theorem dX2_readDigits_81 : decode cX2_readDigits 81 = .ok (.getfield 38, 3) := by decide +kernel
theorem dX2_readDigits_84 : decode cX2_readDigits 84 = .ok (.aload_n 0, 1) := by decide +kernel
theorem dX2_readDigits_85 : decode cX2_readDigits 85 = .ok (.getfield 35, 3) := by decide +kernel
theorem dX2_readDigits_88 : decode cX2_readDigits 88 = .ok (.invokevirtual 111, 3) := by decide +kernel
theorem dX2_readDigits_91 : decode cX2_readDigits 91 = .ok (.bipush 48, 2) := by decide +kernel
theorem dX2_readDigits_93 : decode cX2_readDigits 93 = .ok (.if_icmp .ne 20, 3) := by decide +kernel
theorem dX2_readDigits_96 : decode cX2_readDigits 96 = .ok (.aload_n 0, 1) := by decide +kernel
theorem dX2_readDigits_97 : decode cX2_readDigits 97 = .ok (.getfield 25, 3) := by decide +kernel
theorem dX2_readDigits_100 : decode cX2_readDigits 100 = .ok (.aload_n 0, 1) := by decide +kernel
theorem dX2_readDigits_101 : decode cX2_readDigits 101 = .ok (.getfield 35, 3) := by decide +kernel
theorem dX2_readDigits_104 : decode cX2_readDigits 104 = .ok (.isub, 1) := by decide +kernel
theorem dX2_readDigits_105 : decode cX2_readDigits 105 = .ok (.iconst 1, 1) := by decide +kernel
theorem dX2_readDigits_106 : decode cX2_readDigits 106 = .ok (.if_icmp .le 7, 3) := by decide +kernel
theorem dX2_readDigits_109 : decode cX2_readDigits 109 = .ok (.iconst 1, 1) := by decide +kernel
theorem dX2_readDigits_110 : decode cX2_readDigits 110 = .ok (.goto 4, 3) := by decide +kernel
theorem dX2_readDigits_113 : decode cX2_readDigits 113 = .ok (.iconst 0, 1) := by decide +kernel
theorem dX2_readDigits_114 : decode cX2_readDigits 114 = .ok (.istore_n 1, 1) := by decide +kernel
theorem dX2_readDigits_115 : decode cX2_readDigits 115 = .ok (.aload_n 0, 1) := by decide +kernel
theorem dX2_readDigits_116 : decode cX2_readDigits 116 = .ok (.iload_n 1, 1) := by decide +kernel
theorem dX2_readDigits_117 : decode cX2_readDigits 117 = .ok (.ifCond .ne 12, 3) := by decide +kernel
theorem dX2_readDigits_120 : decode cX2_readDigits 120 = .ok (.aload_n 0, 1) := by decide +kernel
theorem dX2_readDigits_121 : decode cX2_readDigits 121 = .ok (.getfield 32, 3) := by decide +kernel
theorem dX2_readDigits_124 : decode cX2_readDigits 124 = .ok (.bipush 99, 2) := by decide +kernel
theorem dX2_readDigits_126 : decode cX2_readDigits 126 = .ok (.if_icmp .le 7, 3) := by decide +kernel
theorem dX2_readDigits_129 : decode cX2_readDigits 129 = .ok (.iconst 4, 1) := by decide +kernel
theorem dX2_readDigits_130 : decode cX2_readDigits 130 = .ok (.goto 4, 3) := by decide +kernel
theorem dX2_readDigits_133 : decode cX2_readDigits 133 = .ok (.iconst 2, 1) := by decide +kernel
theorem dX2_readDigits_134 : decode cX2_readDigits 134 = .ok (.putfield 29, 3) := by decide +kernel
theorem dX2_readDigits_137 : decode cX2_readDigits 137 = .ok (.return_, 1) := by decide +kernel
theorem dX2_isLetter_0 : decode cX2_isLetter 0 = .ok (.iload_n 0, 1) := by decide +kernel
theorem dX2_isLetter_1 : decode cX2_isLetter 1 = .ok (.bipush 97, 2) := by decide +kernel
theorem dX2_isLetter_3 : decode cX2_isLetter 3 = .ok (.if_icmp .lt 13, 3) := by decide +kernel
theorem dX2_isLetter_6 : decode cX2_isLetter 6 = .ok (.iload_n 0, 1) := by decide +kernel
theorem dX2_isLetter_7 : decode cX2_isLetter 7 = .ok (.bipush 122, 2) := by decide +kernel
theorem dX2_isLetter_9 : decode cX2_isLetter 9 = .ok (.if_icmp .gt 7, 3) := by decide +kernel
theorem dX2_isLetter_12 : decode cX2_isLetter 12 = .ok (.iconst 1, 1) := by decide +kernel
theorem dX2_isLetter_13 : decode cX2_isLetter 13 = .ok (.goto 4, 3) := by decide +kernel
theorem dX2_isLetter_16 : decode cX2_isLetter 16 = .ok (.iconst 0, 1) := by decide +kernel
theorem dX2_isLetter_17 : decode cX2_isLetter 17 = .ok (.ireturn, 1) := by decide +kernel
theorem dX2_isDigit_0 : decode cX2_isDigit 0 = .ok (.iload_n 0, 1) := by decide +kernel
theorem dX2_isDigit_1 : decode cX2_isDigit 1 = .ok (.bipush 48, 2) := by decide +kernel
theorem dX2_isDigit_3 : decode cX2_isDigit 3 = .ok (.if_icmp .lt 13, 3) := by decide +kernel
theorem dX2_isDigit_6 : decode cX2_isDigit 6 = .ok (.iload_n 0, 1) := by decide +kernel
theorem dX2_isDigit_7 : decode cX2_isDigit 7 = .ok (.bipush 57, 2) := by decide +kernel
theorem dX2_isDigit_9 : decode cX2_isDigit 9 = .ok (.if_icmp .gt 7, 3) := by decide +kernel
theorem dX2_isDigit_12 : decode cX2_isDigit 12 = .ok (.iconst 1, 1) := by decide +kernel
theorem dX2_isDigit_13 : decode cX2_isDigit 13 = .ok (.goto 4, 3) := by decide +kernel
theorem dX2_isDigit_16 : decode cX2_isDigit 16 = .ok (.iconst 0, 1) := by decide +kernel
theorem dX2_isDigit_17 : decode cX2_isDigit 17 = .ok (.ireturn, 1) := by decide +kernel
theorem dX3_init_0 : decode cX3_init 0 = .ok (.aload_n 0, 1) := by decide +kernel
theorem dX3_init_1 : decode cX3_init 1 = .ok (.invokespecial 3, 3) := by decide +kernel
theorem dX3_init_4 : decode cX3_init 4 = .ok (.aload_n 0, 1) := by decide +kernel
theorem dX3_init_5 : decode cX3_init 5 = .ok (.bipush 8, 2) := by decide +kernel
theorem dX3_init_7 : decode cX3_init 7 = .ok (.newarray .int, 2) := by decide +kernel
theorem dX3_init_9 : decode cX3_init 9 = .ok (.putfield 9, 3) := by decide +kernel
theorem dX3_init_12 : decode cX3_init 12 = .ok (.aload_n 0, 1) := by decide +kernel
theorem dX3_init_13 : decode cX3_init 13 = .ok (.bipush 8, 2) := by decide +kernel
theorem dX3_init_15 : decode cX3_init 15 = .ok (.newarray .int, 2) := by decide +kernel
theorem dX3_init_17 : decode cX3_init 17 = .ok (.putfield 15, 3) := by decide +kernel
theorem dX3_init_20 : decode cX3_init 20 = .ok (.aload_n 0, 1) := by decide +kernel
theorem dX3_init_21 : decode cX3_init 21 = .ok (.bipush 8, 2) := by decide +kernel
theorem dX3_init_23 : decode cX3_init 23 = .ok (.newarray .int, 2) := by decide +kernel
theorem dX3_init_25 : decode cX3_init 25 = .ok (.putfield 18, 3) := by decide +kernel
theorem dX3_init_28 : decode cX3_init 28 = .ok (.aload_n 0, 1) := by decide +kernel
theorem dX3_init_29 : decode cX3_init 29 = .ok (.iconst 0, 1) := by decide +kernel
theorem dX3_init_30 : decode cX3_init 30 = .ok (.putfield 21, 3) := by decide +kernel
theorem dX3_init_33 : decode cX3_init 33 = .ok (.aload_n 0, 1) := by decide +kernel
theorem dX3_init_34 : decode cX3_init 34 = .ok (.iconst 0, 1) := by decide +kernel
theorem dX3_init_35 : decode cX3_init 35 = .ok (.putfield 25, 3) := by decide +kernel
theorem dX3_init_38 : decode cX3_init 38 = .ok (.aload_n 0, 1) := by decide +kernel
theorem dX3_init_39 : decode cX3_init 39 = .ok (.bipush (-9), 2) := by decide +kernel
theorem dX3_init_41 : decode cX3_init 41 = .ok (.putfield 28, 3) := by decide +kernel
theorem dX3_init_44 : decode cX3_init 44 = .ok (.aload_n 0, 1) := by decide +kernel
theorem dX3_init_45 : decode cX3_init 45 = .ok (.bipush (-9), 2) := by decide +kernel
theorem dX3_init_47 : decode cX3_init 47 = .ok (.putfield 31, 3) := by decide +kernel
theorem dX3_init_50 : decode cX3_init 50 = .ok (.aload_n 0, 1) := by decide +kernel
theorem dX3_init_51 : decode cX3_init 51 = .ok (.iconst 0, 1) := by decide +kernel
theorem dX3_init_52 : decode cX3_init 52 = .ok (.putfield 34, 3) := by decide +kernel
theorem dX3_init_55 : decode cX3_init 55 = .ok (.return_, 1) := by decide +kernel
theorem dX3_begin_0 : decode cX3_begin 0 = .ok (.iconst 0, 1) := by decide +kernel
theorem dX3_begin_1 : decode cX3_begin 1 = .ok (.istore_n 3, 1) := by decide +kernel
theorem dX3_begin_2 : decode cX3_begin 2 = .ok (.iload_n 3, 1) := by decide +kernel
theorem dX3_begin_3 : decode cX3_begin 3 = .ok (.bipush 8, 2) := by decide +kernel
theorem dX3_begin_5 : decode cX3_begin 5 = .ok (.if_icmp .ge 35, 3) := by decide +kernel
theorem dX3_begin_8 : decode cX3_begin 8 = .ok (.aload_n 0, 1) := by decide +kernel
theorem dX3_begin_9 : decode cX3_begin 9 = .ok (.getfield 9, 3) := by decide +kernel
theorem dX3_begin_12 : decode cX3_begin 12 = .ok (.iload_n 3, 1) := by decide +kernel
theorem dX3_begin_13 : decode cX3_begin 13 = .ok (.aload_n 1, 1) := by decide +kernel
theorem dX3_begin_14 : decode cX3_begin 14 = .ok (.getfield 37, 3) := by decide +kernel
theorem dX3_begin_17 : decode cX3_begin 17 = .ok (.iload_n 3, 1) := by decide +kernel
theorem dX3_begin_18 : decode cX3_begin 18 = .ok (.iaload, 1) := by decide +kernel
theorem dX3_begin_19 : decode cX3_begin 19 = .ok (.iastore, 1) := by decide +kernel
theorem dX3_begin_20 : decode cX3_begin 20 = .ok (.aload_n 0, 1) := by decide +kernel
theorem dX3_begin_21 : decode cX3_begin 21 = .ok (.getfield 15, 3) := by decide +kernel
theorem dX3_begin_24 : decode cX3_begin 24 = .ok (.iload_n 3, 1) := by decide +kernel
theorem dX3_begin_25 : decode cX3_begin 25 = .ok (.iconst 0, 1) := by decide +kernel
theorem dX3_begin_26 : decode cX3_begin 26 = .ok (.iastore, 1) := by decide +kernel
theorem dX3_begin_27 : decode cX3_begin 27 = .ok (.aload_n 0, 1) := by decide +kernel
theorem dX3_begin_28 : decode cX3_begin 28 = .ok (.getfield 18, 3) := by decide +kernel
theorem dX3_begin_31 : decode cX3_begin 31 = .ok (.iload_n 3, 1) := by decide +kernel
theorem dX3_begin_32 : decode cX3_begin 32 = .ok (.iconst 0, 1) := by decide +kernel
theorem dX3_begin_33 : decode cX3_begin 33 = .ok (.iastore, 1) := by decide +kernel
theorem dX3_begin_34 : decode cX3_begin 34 = .ok (.iinc 3 1, 3) := by decide +kernel
theorem dX3_begin_37 : decode cX3_begin 37 = .ok (.goto (-35), 3) := by decide +kernel
theorem dX3_begin_40 : decode cX3_begin 40 = .ok (.aload_n 0, 1) := by decide +kernel
theorem dX3_begin_41 : decode cX3_begin 41 = .ok (.aload_n 1, 1) := by decide +kernel
theorem dX3_begin_42 : decode cX3_begin 42 = .ok (.getfield 42, 3) := by decide +kernel
theorem dX3_begin_45 : decode cX3_begin 45 = .ok (.putfield 21, 3) := by decide +kernel
theorem dX3_begin_48 : decode cX3_begin 48 = .ok (.aload_n 0, 1) := by decide +kernel
theorem dX3_begin_49 : decode cX3_begin 49 = .ok (.iload_n 2, 1) := by decide +kernel
theorem dX3_begin_50 : decode cX3_begin 50 = .ok (.putfield 25, 3) := by decide +kernel
theorem dX3_begin_53 : decode cX3_begin 53 = .ok (.aload_n 0, 1) := by decide +kernel
theorem dX3_begin_54 : decode cX3_begin 54 = .ok (.bipush (-9), 2) := by decide +kernel
theorem dX3_begin_56 : decode cX3_begin 56 = .ok (.putfield 28, 3) := by decide +kernel
theorem dX3_begin_59 : decode cX3_begin 59 = .ok (.aload_n 0, 1) := by decide +kernel
theorem dX3_begin_60 : decode cX3_begin 60 = .ok (.bipush (-9), 2) := by decide +kernel
theorem dX3_begin_62 : decode cX3_begin 62 = .ok (.putfield 31, 3) := by decide +kernel
theorem dX3_begin_65 : decode cX3_begin 65 = .ok (.aload_n 0, 1) := by decide +kernel
theorem dX3_begin_66 : decode cX3_begin 66 = .ok (.iconst 0, 1) := by decide +kernel
theorem dX3_begin_67 : decode cX3_begin 67 = .ok (.putfield 34, 3) := by decide +kernel
theorem dX3_begin_70 : decode cX3_begin 70 = .ok (.return_, 1) := by decide +kernel
theorem dX3_takeFrom_0 : decode cX3_takeFrom 0 = .ok (.aload_n 1, 1) := by decide +kernel
theorem dX3_takeFrom_1 : decode cX3_takeFrom 1 = .ok (.getfield 9, 3) := by decide +kernel
theorem dX3_takeFrom_4 : decode cX3_takeFrom 4 = .ok (.iconst 0, 1) := by decide +kernel
theorem dX3_takeFrom_5 : decode cX3_takeFrom 5 = .ok (.aload_n 0, 1) := by decide +kernel
theorem dX3_takeFrom_6 : decode cX3_takeFrom 6 = .ok (.getfield 9, 3) := by decide +kernel
theorem dX3_takeFrom_9 : decode cX3_takeFrom 9 = .ok (.iconst 0, 1) := by decide +kernel
theorem dX3_takeFrom_10 : decode cX3_takeFrom 10 = .ok (.bipush 8, 2) := by decide +kernel
theorem dX3_takeFrom_12 : decode cX3_takeFrom 12 = .ok (.invokestatic 43, 3) := by decide +kernel
theorem dX3_takeFrom_15 : decode cX3_takeFrom 15 = .ok (.aload_n 1, 1) := by decide +kernel
theorem dX3_takeFrom_16 : decode cX3_takeFrom 16 = .ok (.getfield 15, 3) := by decide +kernel
theorem dX3_takeFrom_19 : decode cX3_takeFrom 19 = .ok (.iconst 0, 1) := by decide +kernel
theorem dX3_takeFrom_20 : decode cX3_takeFrom 20 = .ok (.aload_n 0, 1) := by decide +kernel
theorem dX3_takeFrom_21 : decode cX3_takeFrom 21 = .ok (.getfield 15, 3) := by decide +kernel
theorem dX3_takeFrom_24 : decode cX3_takeFrom 24 = .ok (.iconst 0, 1) := by decide +kernel
theorem dX3_takeFrom_25 : decode cX3_takeFrom 25 = .ok (.bipush 8, 2) := by decide +kernel
theorem dX3_takeFrom_27 : decode cX3_takeFrom 27 = .ok (.invokestatic 43, 3) := by decide +kernel
theorem dX3_takeFrom_30 : decode cX3_takeFrom 30 = .ok (.aload_n 1, 1) := by decide +kernel
theorem dX3_takeFrom_31 : decode cX3_takeFrom 31 = .ok (.getfield 18, 3) := by decide +kernel
theorem dX3_takeFrom_34 : decode cX3_takeFrom 34 = .ok (.iconst 0, 1) := by decide +kernel
theorem dX3_takeFrom_35 : decode cX3_takeFrom 35 = .ok (.aload_n 0, 1) := by decide +kernel
theorem dX3_takeFrom_36 : decode cX3_takeFrom 36 = .ok (.getfield 18, 3) := by decide +kernel
theorem dX3_takeFrom_39 : decode cX3_takeFrom 39 = .ok (.iconst 0, 1) := by decide +kernel
theorem dX3_takeFrom_40 : decode cX3_takeFrom 40 = .ok (.bipush 8, 2) := by decide +kernel
theorem dX3_takeFrom_42 : decode cX3_takeFrom 42 = .ok (.invokestatic 43, 3) := by decide +kernel
theorem dX3_takeFrom_45 : decode cX3_takeFrom 45 = .ok (.aload_n 0, 1) := by decide +kernel
theorem dX3_takeFrom_46 : decode cX3_takeFrom 46 = .ok (.aload_n 1, 1) := by decide +kernel
theorem dX3_takeFrom_47 : decode cX3_takeFrom 47 = .ok (.getfield 21, 3) := by decide +kernel
theorem dX3_takeFrom_50 : decode cX3_takeFrom 50 = .ok (.putfield 21, 3) := by decide +kernel
theorem dX3_takeFrom_53 : decode cX3_takeFrom 53 = .ok (.aload_n 0, 1) := by decide +kernel
theorem dX3_takeFrom_54 : decode cX3_takeFrom 54 = .ok (.aload_n 1, 1) := by decide +kernel
theorem dX3_takeFrom_55 : decode cX3_takeFrom 55 = .ok (.getfield 25, 3) := by decide +kernel
theorem dX3_takeFrom_58 : decode cX3_takeFrom 58 = .ok (.putfield 25, 3) := by decide +kernel
theorem dX3_takeFrom_61 : decode cX3_takeFrom 61 = .ok (.aload_n 0, 1) := by decide +kernel
theorem dX3_takeFrom_62 : decode cX3_takeFrom 62 = .ok (.aload_n 1, 1) := by decide +kernel
theorem dX3_takeFrom_63 : decode cX3_takeFrom 63 = .ok (.getfield 28, 3) := by decide +kernel
theorem dX3_takeFrom_66 : decode cX3_takeFrom 66 = .ok (.putfield 28, 3) := by decide +kernel
theorem dX3_takeFrom_69 : decode cX3_takeFrom 69 = .ok (.aload_n 0, 1) := by decide +kernel
theorem dX3_takeFrom_70 : decode cX3_takeFrom 70 = .ok (.aload_n 1, 1) := by decide +kernel
theorem dX3_takeFrom_71 : decode cX3_takeFrom 71 = .ok (.getfield 31, 3) := by decide +kernel
theorem dX3_takeFrom_74 : decode cX3_takeFrom 74 = .ok (.putfield 31, 3) := by decide +kernel
theorem dX3_takeFrom_77 : decode cX3_takeFrom 77 = .ok (.aload_n 0, 1) := by decide +kernel
theorem dX3_takeFrom_78 : decode cX3_takeFrom 78 = .ok (.aload_n 1, 1) := by decide +kernel
theorem dX3_takeFrom_79 : decode cX3_takeFrom 79 = .ok (.getfield 34, 3) := by decide +kernel
theorem dX3_takeFrom_82 : decode cX3_takeFrom 82 = .ok (.putfield 34, 3) := by decide +kernel
theorem dX3_takeFrom_85 : decode cX3_takeFrom 85 = .ok (.return_, 1) := by decide +kernel
theorem dX3_play_0 : decode cX3_play 0 = .ok (.iload_n 2, 1) := by decide +kernel
theorem dX3_play_1 : decode cX3_play 1 = .ok (.iconst 0, 1) := by decide +kernel
theorem dX3_play_2 : decode cX3_play 2 = .ok (.invokestatic 49, 3) := by decide +kernel
theorem dX3_play_5 : decode cX3_play 5 = .ok (.istore 5, 2) := by decide +kernel
theorem dX3_play_7 : decode cX3_play 7 = .ok (.iload 5, 2) := by decide +kernel
theorem dX3_play_9 : decode cX3_play 9 = .ok (.iload_n 3, 1) := by decide +kernel
theorem dX3_play_10 : decode cX3_play 10 = .ok (.if_icmp .ge 186, 3) := by decide +kernel
theorem dX3_play_13 : decode cX3_play 13 = .ok (.iload 5, 2) := by decide +kernel
theorem dX3_play_15 : decode cX3_play 15 = .ok (.aload_n 1, 1) := by decide +kernel
theorem dX3_play_16 : decode cX3_play 16 = .ok (.getfield 55, 3) := by decide +kernel
theorem dX3_play_19 : decode cX3_play 19 = .ok (.if_icmp .ge 177, 3) := by decide +kernel
theorem dX3_play_22 : decode cX3_play 22 = .ok (.aload_n 1, 1) := by decide +kernel
theorem dX3_play_23 : decode cX3_play 23 = .ok (.getfield 58, 3) := by decide +kernel
theorem dX3_play_26 : decode cX3_play 26 = .ok (.iload 5, 2) := by decide +kernel
theorem dX3_play_28 : decode cX3_play 28 = .ok (.iaload, 1) := by decide +kernel
theorem dX3_play_29 : decode cX3_play 29 = .ok (.istore 6, 2) := by decide +kernel
theorem dX3_play_31 : decode cX3_play 31 = .ok (.aload_n 1, 1) := by decide +kernel
theorem dX3_play_32 : decode cX3_play 32 = .ok (.getfield 61, 3) := by decide +kernel
theorem dX3_play_35 : decode cX3_play 35 = .ok (.iload 5, 2) := by decide +kernel
theorem dX3_play_37 : decode cX3_play 37 = .ok (.iaload, 1) := by decide +kernel
theorem dX3_play_38 : decode cX3_play 38 = .ok (.istore 7, 2) := by decide +kernel
theorem dX3_play_40 : decode cX3_play 40 = .ok (.aload_n 1, 1) := by decide +kernel
theorem dX3_play_41 : decode cX3_play 41 = .ok (.getfield 64, 3) := by decide +kernel
theorem dX3_play_44 : decode cX3_play 44 = .ok (.iload 5, 2) := by decide +kernel
theorem dX3_play_46 : decode cX3_play 46 = .ok (.iaload, 1) := by decide +kernel
theorem dX3_play_47 : decode cX3_play 47 = .ok (.tableswitch 125 0 3 #[29, 49, 82, 100], 29) := by decide +kernel
theorem dX3_play_76 : decode cX3_play 76 = .ok (.aload_n 0, 1) := by decide +kernel
theorem dX3_play_77 : decode cX3_play 77 = .ok (.getfield 15, 3) := by decide +kernel
theorem dX3_play_80 : decode cX3_play 80 = .ok (.iload 7, 2) := by decide +kernel
theorem dX3_play_82 : decode cX3_play 82 = .ok (.dup2, 1) := by decide +kernel
theorem dX3_play_83 : decode cX3_play 83 = .ok (.iaload, 1) := by decide +kernel
theorem dX3_play_84 : decode cX3_play 84 = .ok (.aload_n 0, 1) := by decide +kernel
theorem dX3_play_85 : decode cX3_play 85 = .ok (.getfield 15, 3) := by decide +kernel
theorem dX3_play_88 : decode cX3_play 88 = .ok (.iload 6, 2) := by decide +kernel
theorem dX3_play_90 : decode cX3_play 90 = .ok (.iaload, 1) := by decide +kernel
theorem dX3_play_91 : decode cX3_play 91 = .ok (.ior, 1) := by decide +kernel
theorem dX3_play_92 : decode cX3_play 92 = .ok (.iastore, 1) := by decide +kernel
theorem dX3_play_93 : decode cX3_play 93 = .ok (.goto 97, 3) := by decide +kernel
theorem dX3_play_96 : decode cX3_play 96 = .ok (.iload 4, 2) := by decide +kernel
theorem dX3_play_98 : decode cX3_play 98 = .ok (.aload_n 1, 1) := by decide +kernel
theorem dX3_play_99 : decode cX3_play 99 = .ok (.getfield 67, 3) := by decide +kernel
theorem dX3_play_102 : decode cX3_play 102 = .ok (.iload 5, 2) := by decide +kernel
theorem dX3_play_104 : decode cX3_play 104 = .ok (.iaload, 1) := by decide +kernel
theorem dX3_play_105 : decode cX3_play 105 = .ok (.iand, 1) := by decide +kernel
theorem dX3_play_106 : decode cX3_play 106 = .ok (.ifCond .eq 84, 3) := by decide +kernel
theorem dX3_play_109 : decode cX3_play 109 = .ok (.aload_n 0, 1) := by decide +kernel
theorem dX3_play_110 : decode cX3_play 110 = .ok (.getfield 15, 3) := by decide +kernel
theorem dX3_play_113 : decode cX3_play 113 = .ok (.iload 7, 2) := by decide +kernel
theorem dX3_play_115 : decode cX3_play 115 = .ok (.dup2, 1) := by decide +kernel
theorem dX3_play_116 : decode cX3_play 116 = .ok (.iaload, 1) := by decide +kernel
theorem dX3_play_117 : decode cX3_play 117 = .ok (.aload_n 0, 1) := by decide +kernel
theorem dX3_play_118 : decode cX3_play 118 = .ok (.getfield 15, 3) := by decide +kernel
theorem dX3_play_121 : decode cX3_play 121 = .ok (.iload 6, 2) := by decide +kernel
theorem dX3_play_123 : decode cX3_play 123 = .ok (.iaload, 1) := by decide +kernel
theorem dX3_play_124 : decode cX3_play 124 = .ok (.ior, 1) := by decide +kernel
theorem dX3_play_125 : decode cX3_play 125 = .ok (.iastore, 1) := by decide +kernel
theorem dX3_play_126 : decode cX3_play 126 = .ok (.goto 64, 3) := by decide +kernel
theorem dX3_play_129 : decode cX3_play 129 = .ok (.iload 7, 2) := by decide +kernel
theorem dX3_play_131 : decode cX3_play 131 = .ok (.aload_n 0, 1) := by decide +kernel
theorem dX3_play_132 : decode cX3_play 132 = .ok (.getfield 25, 3) := by decide +kernel
theorem dX3_play_135 : decode cX3_play 135 = .ok (.if_icmp .ne 55, 3) := by decide +kernel
theorem dX3_play_138 : decode cX3_play 138 = .ok (.aload_n 0, 1) := by decide +kernel
theorem dX3_play_139 : decode cX3_play 139 = .ok (.iload 6, 2) := by decide +kernel
theorem dX3_play_141 : decode cX3_play 141 = .ok (.invokevirtual 70, 3) := by decide +kernel
theorem dX3_play_144 : decode cX3_play 144 = .ok (.goto 46, 3) := by decide +kernel
theorem dX3_play_147 : decode cX3_play 147 = .ok (.iload 7, 2) := by decide +kernel
theorem dX3_play_149 : decode cX3_play 149 = .ok (.aload_n 0, 1) := by decide +kernel
theorem dX3_play_150 : decode cX3_play 150 = .ok (.getfield 25, 3) := by decide +kernel
theorem dX3_play_153 : decode cX3_play 153 = .ok (.if_icmp .ne 37, 3) := by decide +kernel
theorem dX3_play_156 : decode cX3_play 156 = .ok (.aload_n 0, 1) := by decide +kernel
theorem dX3_play_157 : decode cX3_play 157 = .ok (.iload 6, 2) := by decide +kernel
theorem dX3_play_159 : decode cX3_play 159 = .ok (.aload_n 1, 1) := by decide +kernel
theorem dX3_play_160 : decode cX3_play 160 = .ok (.getfield 74, 3) := by decide +kernel
theorem dX3_play_163 : decode cX3_play 163 = .ok (.iload 5, 2) := by decide +kernel
theorem dX3_play_165 : decode cX3_play 165 = .ok (.iaload, 1) := by decide +kernel
theorem dX3_play_166 : decode cX3_play 166 = .ok (.invokevirtual 77, 3) := by decide +kernel
theorem dX3_play_169 : decode cX3_play 169 = .ok (.goto 21, 3) := by decide +kernel
theorem dX3_play_172 : decode cX3_play 172 = .ok (.iload 6, 2) := by decide +kernel
theorem dX3_play_174 : decode cX3_play 174 = .ok (.aload_n 0, 1) := by decide +kernel
theorem dX3_play_175 : decode cX3_play 175 = .ok (.getfield 28, 3) := by decide +kernel
theorem dX3_play_178 : decode cX3_play 178 = .ok (.if_icmp .eq 12, 3) := by decide +kernel
theorem dX3_play_181 : decode cX3_play 181 = .ok (.aload_n 0, 1) := by decide +kernel
theorem dX3_play_182 : decode cX3_play 182 = .ok (.getfield 9, 3) := by decide +kernel
theorem dX3_play_185 : decode cX3_play 185 = .ok (.iload 6, 2) := by decide +kernel
theorem dX3_play_187 : decode cX3_play 187 = .ok (.iload 7, 2) := by decide +kernel
theorem dX3_play_189 : decode cX3_play 189 = .ok (.iastore, 1) := by decide +kernel
theorem dX3_play_190 : decode cX3_play 190 = .ok (.iinc 5 1, 3) := by decide +kernel
theorem dX3_play_193 : decode cX3_play 193 = .ok (.goto (-186), 3) := by decide +kernel
theorem dX3_play_196 : decode cX3_play 196 = .ok (.return_, 1) := by decide +kernel
theorem dX3_think_0 : decode cX3_think 0 = .ok (.aload_n 0, 1) := by decide +kernel
theorem dX3_think_1 : decode cX3_think 1 = .ok (.getfield 15, 3) := by decide +kernel
theorem dX3_think_4 : decode cX3_think 4 = .ok (.iload_n 1, 1) := by decide +kernel
theorem dX3_think_5 : decode cX3_think 5 = .ok (.iaload, 1) := by decide +kernel
theorem dX3_think_6 : decode cX3_think 6 = .ok (.ifCond .ne 12, 3) := by decide +kernel
theorem dX3_think_9 : decode cX3_think 9 = .ok (.aload_n 0, 1) := by decide +kernel
theorem dX3_think_10 : decode cX3_think 10 = .ok (.getfield 15, 3) := by decide +kernel
theorem dX3_think_13 : decode cX3_think 13 = .ok (.iload_n 1, 1) := by decide +kernel
theorem dX3_think_14 : decode cX3_think 14 = .ok (.iconst 1, 1) := by decide +kernel
theorem dX3_think_15 : decode cX3_think 15 = .ok (.iload_n 1, 1) := by decide +kernel
theorem dX3_think_16 : decode cX3_think 16 = .ok (.ishl, 1) := by decide +kernel
theorem dX3_think_17 : decode cX3_think 17 = .ok (.iastore, 1) := by decide +kernel
theorem dX3_think_18 : decode cX3_think 18 = .ok (.return_, 1) := by decide +kernel
theorem dX3_say_0 : decode cX3_say 0 = .ok (.aload_n 0, 1) := by decide +kernel
theorem dX3_say_1 : decode cX3_say 1 = .ok (.iload_n 1, 1) := by decide +kernel
theorem dX3_say_2 : decode cX3_say 2 = .ok (.invokevirtual 70, 3) := by decide +kernel
theorem dX3_say_5 : decode cX3_say 5 = .ok (.aload_n 0, 1) := by decide +kernel
theorem dX3_say_6 : decode cX3_say 6 = .ok (.getfield 18, 3) := by decide +kernel
theorem dX3_say_9 : decode cX3_say 9 = .ok (.iload_n 1, 1) := by decide +kernel
theorem dX3_say_10 : decode cX3_say 10 = .ok (.iaload, 1) := by decide +kernel
theorem dX3_say_11 : decode cX3_say 11 = .ok (.ifCond .ne 47, 3) := by decide +kernel
theorem dX3_say_14 : decode cX3_say 14 = .ok (.aload_n 0, 1) := by decide +kernel
theorem dX3_say_15 : decode cX3_say 15 = .ok (.getfield 18, 3) := by decide +kernel
theorem dX3_say_18 : decode cX3_say 18 = .ok (.iload_n 1, 1) := by decide +kernel
theorem dX3_say_19 : decode cX3_say 19 = .ok (.aload_n 0, 1) := by decide +kernel
theorem dX3_say_20 : decode cX3_say 20 = .ok (.getfield 15, 3) := by decide +kernel
theorem dX3_say_23 : decode cX3_say 23 = .ok (.iload_n 1, 1) := by decide +kernel
theorem dX3_say_24 : decode cX3_say 24 = .ok (.iaload, 1) := by decide +kernel
theorem dX3_say_25 : decode cX3_say 25 = .ok (.iastore, 1) := by decide +kernel
theorem dX3_say_26 : decode cX3_say 26 = .ok (.aload_n 0, 1) := by decide +kernel
theorem dX3_say_27 : decode cX3_say 27 = .ok (.getfield 34, 3) := by decide +kernel
theorem dX3_say_30 : decode cX3_say 30 = .ok (.ifCond .ne 28, 3) := by decide +kernel
theorem dX3_say_33 : decode cX3_say 33 = .ok (.aload_n 0, 1) := by decide +kernel
theorem dX3_say_34 : decode cX3_say 34 = .ok (.aload_n 0, 1) := by decide +kernel
theorem dX3_say_35 : decode cX3_say 35 = .ok (.invokevirtual 81, 3) := by decide +kernel
theorem dX3_say_38 : decode cX3_say 38 = .ok (.putfield 34, 3) := by decide +kernel
theorem dX3_say_41 : decode cX3_say 41 = .ok (.aload_n 0, 1) := by decide +kernel
theorem dX3_say_42 : decode cX3_say 42 = .ok (.aload_n 0, 1) := by decide +kernel
theorem dX3_say_43 : decode cX3_say 43 = .ok (.getfield 34, 3) := by decide +kernel
theorem dX3_say_46 : decode cX3_say 46 = .ok (.ifCond .ne 8, 3) := by decide +kernel
theorem dX3_say_49 : decode cX3_say 49 = .ok (.bipush (-9), 2) := by decide +kernel
theorem dX3_say_51 : decode cX3_say 51 = .ok (.goto 4, 3) := by decide +kernel
theorem dX3_say_54 : decode cX3_say 54 = .ok (.iload_n 2, 1) := by decide +kernel
theorem dX3_say_55 : decode cX3_say 55 = .ok (.putfield 31, 3) := by decide +kernel
theorem dX3_say_58 : decode cX3_say 58 = .ok (.iconst 0, 1) := by decide +kernel
theorem dX3_say_59 : decode cX3_say 59 = .ok (.istore_n 3, 1) := by decide +kernel
theorem dX3_say_60 : decode cX3_say 60 = .ok (.iload_n 3, 1) := by decide +kernel
theorem dX3_say_61 : decode cX3_say 61 = .ok (.aload_n 0, 1) := by decide +kernel
theorem dX3_say_62 : decode cX3_say 62 = .ok (.getfield 21, 3) := by decide +kernel
theorem dX3_say_65 : decode cX3_say 65 = .ok (.if_icmp .ge 39, 3) := by decide +kernel
theorem dX3_say_68 : decode cX3_say 68 = .ok (.aload_n 0, 1) := by decide +kernel
theorem dX3_say_69 : decode cX3_say 69 = .ok (.getfield 9, 3) := by decide +kernel
theorem dX3_say_72 : decode cX3_say 72 = .ok (.iload_n 3, 1) := by decide +kernel
theorem dX3_say_73 : decode cX3_say 73 = .ok (.iaload, 1) := by decide +kernel
theorem dX3_say_74 : decode cX3_say 74 = .ok (.aload_n 0, 1) := by decide +kernel
theorem dX3_say_75 : decode cX3_say 75 = .ok (.getfield 9, 3) := by decide +kernel
theorem dX3_say_78 : decode cX3_say 78 = .ok (.iload_n 1, 1) := by decide +kernel
theorem dX3_say_79 : decode cX3_say 79 = .ok (.iaload, 1) := by decide +kernel
theorem dX3_say_80 : decode cX3_say 80 = .ok (.if_icmp .ne 18, 3) := by decide +kernel
theorem dX3_say_83 : decode cX3_say 83 = .ok (.aload_n 0, 1) := by decide +kernel
theorem dX3_say_84 : decode cX3_say 84 = .ok (.getfield 15, 3) := by decide +kernel
theorem dX3_say_87 : decode cX3_say 87 = .ok (.iload_n 3, 1) := by decide +kernel
theorem dX3_say_88 : decode cX3_say 88 = .ok (.dup2, 1) := by decide +kernel
theorem dX3_say_89 : decode cX3_say 89 = .ok (.iaload, 1) := by decide +kernel
theorem dX3_say_90 : decode cX3_say 90 = .ok (.aload_n 0, 1) := by decide +kernel
theorem dX3_say_91 : decode cX3_say 91 = .ok (.getfield 15, 3) := by decide +kernel
theorem dX3_say_94 : decode cX3_say 94 = .ok (.iload_n 1, 1) := by decide +kernel
theorem dX3_say_95 : decode cX3_say 95 = .ok (.iaload, 1) := by decide +kernel
theorem dX3_say_96 : decode cX3_say 96 = .ok (.ior, 1) := by decide +kernel
theorem dX3_say_97 : decode cX3_say 97 = .ok (.iastore, 1) := by decide +kernel
theorem dX3_say_98 : decode cX3_say 98 = .ok (.iinc 3 1, 3) := by decide +kernel
theorem dX3_say_101 : decode cX3_say 101 = .ok (.goto (-41), 3) := by decide +kernel
theorem dX3_say_104 : decode cX3_say 104 = .ok (.return_, 1) := by decide +kernel
theorem dX3_choose_0 : decode cX3_choose 0 = .ok (.iload_n 2, 1) := by decide +kernel
theorem dX3_choose_1 : decode cX3_choose 1 = .ok (.ifCond .eq 33, 3) := by decide +kernel
theorem dX3_choose_4 : decode cX3_choose 4 = .ok (.aload_n 0, 1) := by decide +kernel
theorem dX3_choose_5 : decode cX3_choose 5 = .ok (.iload_n 1, 1) := by decide +kernel
theorem dX3_choose_6 : decode cX3_choose 6 = .ok (.invokevirtual 70, 3) := by decide +kernel
theorem dX3_choose_9 : decode cX3_choose 9 = .ok (.aload_n 0, 1) := by decide +kernel
theorem dX3_choose_10 : decode cX3_choose 10 = .ok (.getfield 18, 3) := by decide +kernel
theorem dX3_choose_13 : decode cX3_choose 13 = .ok (.iload_n 1, 1) := by decide +kernel
theorem dX3_choose_14 : decode cX3_choose 14 = .ok (.iaload, 1) := by decide +kernel
theorem dX3_choose_15 : decode cX3_choose 15 = .ok (.ifCond .eq 5, 3) := by decide +kernel
theorem dX3_choose_18 : decode cX3_choose 18 = .ok (.iconst 0, 1) := by decide +kernel
theorem dX3_choose_19 : decode cX3_choose 19 = .ok (.ireturn, 1) := by decide +kernel
theorem dX3_choose_20 : decode cX3_choose 20 = .ok (.aload_n 0, 1) := by decide +kernel
theorem dX3_choose_21 : decode cX3_choose 21 = .ok (.getfield 18, 3) := by decide +kernel
theorem dX3_choose_24 : decode cX3_choose 24 = .ok (.iload_n 1, 1) := by decide +kernel
theorem dX3_choose_25 : decode cX3_choose 25 = .ok (.aload_n 0, 1) := by decide +kernel
theorem dX3_choose_26 : decode cX3_choose 26 = .ok (.getfield 15, 3) := by decide +kernel
theorem dX3_choose_29 : decode cX3_choose 29 = .ok (.iload_n 1, 1) := by decide +kernel
theorem dX3_choose_30 : decode cX3_choose 30 = .ok (.iaload, 1) := by decide +kernel
theorem dX3_choose_31 : decode cX3_choose 31 = .ok (.iastore, 1) := by decide +kernel
theorem dX3_choose_32 : decode cX3_choose 32 = .ok (.iconst 1, 1) := by decide +kernel
theorem dX3_choose_33 : decode cX3_choose 33 = .ok (.ireturn, 1) := by decide +kernel
theorem dX3_choose_34 : decode cX3_choose 34 = .ok (.aload_n 0, 1) := by decide +kernel
theorem dX3_choose_35 : decode cX3_choose 35 = .ok (.getfield 15, 3) := by decide +kernel
theorem dX3_choose_38 : decode cX3_choose 38 = .ok (.iload_n 1, 1) := by decide +kernel
theorem dX3_choose_39 : decode cX3_choose 39 = .ok (.iaload, 1) := by decide +kernel
theorem dX3_choose_40 : decode cX3_choose 40 = .ok (.sipush 256, 3) := by decide +kernel
theorem dX3_choose_43 : decode cX3_choose 43 = .ok (.iand, 1) := by decide +kernel
theorem dX3_choose_44 : decode cX3_choose 44 = .ok (.ifCond .ne 7, 3) := by decide +kernel
theorem dX3_choose_47 : decode cX3_choose 47 = .ok (.iconst 1, 1) := by decide +kernel
theorem dX3_choose_48 : decode cX3_choose 48 = .ok (.goto 4, 3) := by decide +kernel
theorem dX3_choose_51 : decode cX3_choose 51 = .ok (.iconst 0, 1) := by decide +kernel
theorem dX3_choose_52 : decode cX3_choose 52 = .ok (.istore_n 3, 1) := by decide +kernel
theorem dX3_choose_53 : decode cX3_choose 53 = .ok (.aload_n 0, 1) := by decide +kernel
theorem dX3_choose_54 : decode cX3_choose 54 = .ok (.getfield 15, 3) := by decide +kernel
theorem dX3_choose_57 : decode cX3_choose 57 = .ok (.iload_n 1, 1) := by decide +kernel
theorem dX3_choose_58 : decode cX3_choose 58 = .ok (.dup2, 1) := by decide +kernel
theorem dX3_choose_59 : decode cX3_choose 59 = .ok (.iaload, 1) := by decide +kernel
theorem dX3_choose_60 : decode cX3_choose 60 = .ok (.sipush 256, 3) := by decide +kernel
theorem dX3_choose_63 : decode cX3_choose 63 = .ok (.ior, 1) := by decide +kernel
theorem dX3_choose_64 : decode cX3_choose 64 = .ok (.iastore, 1) := by decide +kernel
theorem dX3_choose_65 : decode cX3_choose 65 = .ok (.iload_n 3, 1) := by decide +kernel
theorem dX3_choose_66 : decode cX3_choose 66 = .ok (.ireturn, 1) := by decide +kernel
theorem dX3_stay_0 : decode cX3_stay 0 = .ok (.aload_n 0, 1) := by decide +kernel
theorem dX3_stay_1 : decode cX3_stay 1 = .ok (.getfield 9, 3) := by decide +kernel
theorem dX3_stay_4 : decode cX3_stay 4 = .ok (.iload_n 1, 1) := by decide +kernel
theorem dX3_stay_5 : decode cX3_stay 5 = .ok (.iload_n 2, 1) := by decide +kernel
theorem dX3_stay_6 : decode cX3_stay 6 = .ok (.iastore, 1) := by decide +kernel
theorem dX3_stay_7 : decode cX3_stay 7 = .ok (.aload_n 0, 1) := by decide +kernel
theorem dX3_stay_8 : decode cX3_stay 8 = .ok (.iload_n 1, 1) := by decide +kernel
theorem dX3_stay_9 : decode cX3_stay 9 = .ok (.putfield 28, 3) := by decide +kernel
theorem dX3_stay_12 : decode cX3_stay 12 = .ok (.return_, 1) := by decide +kernel
theorem dX3_thoseWithout_0 : decode cX3_thoseWithout 0 = .ok (.iconst 0, 1) := by decide +kernel
theorem dX3_thoseWithout_1 : decode cX3_thoseWithout 1 = .ok (.istore_n 1, 1) := by decide +kernel
theorem dX3_thoseWithout_2 : decode cX3_thoseWithout 2 = .ok (.iconst 0, 1) := by decide +kernel
theorem dX3_thoseWithout_3 : decode cX3_thoseWithout 3 = .ok (.istore_n 2, 1) := by decide +kernel
theorem dX3_thoseWithout_4 : decode cX3_thoseWithout 4 = .ok (.iload_n 2, 1) := by decide +kernel
theorem dX3_thoseWithout_5 : decode cX3_thoseWithout 5 = .ok (.aload_n 0, 1) := by decide +kernel
theorem dX3_thoseWithout_6 : decode cX3_thoseWithout 6 = .ok (.getfield 21, 3) := by decide +kernel
theorem dX3_thoseWithout_9 : decode cX3_thoseWithout 9 = .ok (.if_icmp .ge 24, 3) := by decide +kernel
theorem dX3_thoseWithout_12 : decode cX3_thoseWithout 12 = .ok (.aload_n 0, 1) := by decide +kernel
theorem dX3_thoseWithout_13 : decode cX3_thoseWithout 13 = .ok (.getfield 15, 3) := by decide +kernel
theorem dX3_thoseWithout_16 : decode cX3_thoseWithout 16 = .ok (.iload_n 2, 1) := by decide +kernel
theorem dX3_thoseWithout_17 : decode cX3_thoseWithout 17 = .ok (.iaload, 1) := by decide +kernel
theorem dX3_thoseWithout_18 : decode cX3_thoseWithout 18 = .ok (.ifCond .ne 9, 3) := by decide +kernel
theorem dX3_thoseWithout_21 : decode cX3_thoseWithout 21 = .ok (.iload_n 1, 1) := by decide +kernel
theorem dX3_thoseWithout_22 : decode cX3_thoseWithout 22 = .ok (.iconst 1, 1) := by decide +kernel
theorem dX3_thoseWithout_23 : decode cX3_thoseWithout 23 = .ok (.iload_n 2, 1) := by decide +kernel
theorem dX3_thoseWithout_24 : decode cX3_thoseWithout 24 = .ok (.ishl, 1) := by decide +kernel
theorem dX3_thoseWithout_25 : decode cX3_thoseWithout 25 = .ok (.ior, 1) := by decide +kernel
theorem dX3_thoseWithout_26 : decode cX3_thoseWithout 26 = .ok (.istore_n 1, 1) := by decide +kernel
theorem dX3_thoseWithout_27 : decode cX3_thoseWithout 27 = .ok (.iinc 2 1, 3) := by decide +kernel
theorem dX3_thoseWithout_30 : decode cX3_thoseWithout 30 = .ok (.goto (-26), 3) := by decide +kernel
theorem dX3_thoseWithout_33 : decode cX3_thoseWithout 33 = .ok (.iload_n 1, 1) := by decide +kernel
theorem dX3_thoseWithout_34 : decode cX3_thoseWithout 34 = .ok (.ireturn, 1) := by decide +kernel
theorem dX3_leastThree_0 : decode cX3_leastThree 0 = .ok (.iconst 0, 1) := by decide +kernel
theorem dX3_leastThree_1 : decode cX3_leastThree 1 = .ok (.istore_n 1, 1) := by decide +kernel
theorem dX3_leastThree_2 : decode cX3_leastThree 2 = .ok (.iload_n 1, 1) := by decide +kernel
theorem dX3_leastThree_3 : decode cX3_leastThree 3 = .ok (.aload_n 0, 1) := by decide +kernel
theorem dX3_leastThree_4 : decode cX3_leastThree 4 = .ok (.getfield 21, 3) := by decide +kernel
theorem dX3_leastThree_7 : decode cX3_leastThree 7 = .ok (.if_icmp .ge 96, 3) := by decide +kernel
theorem dX3_leastThree_10 : decode cX3_leastThree 10 = .ok (.iload_n 1, 1) := by decide +kernel
theorem dX3_leastThree_11 : decode cX3_leastThree 11 = .ok (.iconst 1, 1) := by decide +kernel
theorem dX3_leastThree_12 : decode cX3_leastThree 12 = .ok (.iadd, 1) := by decide +kernel
theorem dX3_leastThree_13 : decode cX3_leastThree 13 = .ok (.istore_n 2, 1) := by decide +kernel
theorem dX3_leastThree_14 : decode cX3_leastThree 14 = .ok (.iload_n 2, 1) := by decide +kernel
theorem dX3_leastThree_15 : decode cX3_leastThree 15 = .ok (.aload_n 0, 1) := by decide +kernel
theorem dX3_leastThree_16 : decode cX3_leastThree 16 = .ok (.getfield 21, 3) := by decide +kernel
theorem dX3_leastThree_19 : decode cX3_leastThree 19 = .ok (.if_icmp .ge 78, 3) := by decide +kernel
theorem dX3_leastThree_22 : decode cX3_leastThree 22 = .ok (.aload_n 0, 1) := by decide +kernel
theorem dX3_leastThree_23 : decode cX3_leastThree 23 = .ok (.getfield 18, 3) := by decide +kernel
theorem dX3_leastThree_26 : decode cX3_leastThree 26 = .ok (.iload_n 1, 1) := by decide +kernel
theorem dX3_leastThree_27 : decode cX3_leastThree 27 = .ok (.iaload, 1) := by decide +kernel
theorem dX3_leastThree_28 : decode cX3_leastThree 28 = .ok (.ifCond .eq 69, 3) := by decide +kernel
theorem dX3_leastThree_31 : decode cX3_leastThree 31 = .ok (.aload_n 0, 1) := by decide +kernel
theorem dX3_leastThree_32 : decode cX3_leastThree 32 = .ok (.getfield 18, 3) := by decide +kernel
theorem dX3_leastThree_35 : decode cX3_leastThree 35 = .ok (.iload_n 2, 1) := by decide +kernel
theorem dX3_leastThree_36 : decode cX3_leastThree 36 = .ok (.iaload, 1) := by decide +kernel
theorem dX3_leastThree_37 : decode cX3_leastThree 37 = .ok (.ifCond .eq 54, 3) := by decide +kernel
theorem dX3_leastThree_40 : decode cX3_leastThree 40 = .ok (.aload_n 0, 1) := by decide +kernel
theorem dX3_leastThree_41 : decode cX3_leastThree 41 = .ok (.getfield 18, 3) := by decide +kernel
theorem dX3_leastThree_44 : decode cX3_leastThree 44 = .ok (.iload_n 1, 1) := by decide +kernel
theorem dX3_leastThree_45 : decode cX3_leastThree 45 = .ok (.iaload, 1) := by decide +kernel
theorem dX3_leastThree_46 : decode cX3_leastThree 46 = .ok (.aload_n 0, 1) := by decide +kernel
theorem dX3_leastThree_47 : decode cX3_leastThree 47 = .ok (.getfield 18, 3) := by decide +kernel
theorem dX3_leastThree_50 : decode cX3_leastThree 50 = .ok (.iload_n 2, 1) := by decide +kernel
theorem dX3_leastThree_51 : decode cX3_leastThree 51 = .ok (.iaload, 1) := by decide +kernel
theorem dX3_leastThree_52 : decode cX3_leastThree 52 = .ok (.iand, 1) := by decide +kernel
theorem dX3_leastThree_53 : decode cX3_leastThree 53 = .ok (.ifCond .ne 38, 3) := by decide +kernel
theorem dX3_leastThree_56 : decode cX3_leastThree 56 = .ok (.aload_n 0, 1) := by decide +kernel
theorem dX3_leastThree_57 : decode cX3_leastThree 57 = .ok (.iload_n 2, 1) := by decide +kernel
theorem dX3_leastThree_58 : decode cX3_leastThree 58 = .ok (.iconst 1, 1) := by decide +kernel
theorem dX3_leastThree_59 : decode cX3_leastThree 59 = .ok (.iadd, 1) := by decide +kernel
theorem dX3_leastThree_60 : decode cX3_leastThree 60 = .ok (.aload_n 0, 1) := by decide +kernel
theorem dX3_leastThree_61 : decode cX3_leastThree 61 = .ok (.getfield 18, 3) := by decide +kernel
theorem dX3_leastThree_64 : decode cX3_leastThree 64 = .ok (.iload_n 1, 1) := by decide +kernel
theorem dX3_leastThree_65 : decode cX3_leastThree 65 = .ok (.iaload, 1) := by decide +kernel
theorem dX3_leastThree_66 : decode cX3_leastThree 66 = .ok (.aload_n 0, 1) := by decide +kernel
theorem dX3_leastThree_67 : decode cX3_leastThree 67 = .ok (.getfield 18, 3) := by decide +kernel
theorem dX3_leastThree_70 : decode cX3_leastThree 70 = .ok (.iload_n 2, 1) := by decide +kernel
theorem dX3_leastThree_71 : decode cX3_leastThree 71 = .ok (.iaload, 1) := by decide +kernel
theorem dX3_leastThree_72 : decode cX3_leastThree 72 = .ok (.ior, 1) := by decide +kernel
theorem dX3_leastThree_73 : decode cX3_leastThree 73 = .ok (.invokevirtual 85, 3) := by decide +kernel
theorem dX3_leastThree_76 : decode cX3_leastThree 76 = .ok (.istore_n 3, 1) := by decide +kernel
theorem dX3_leastThree_77 : decode cX3_leastThree 77 = .ok (.iload_n 3, 1) := by decide +kernel
theorem dX3_leastThree_78 : decode cX3_leastThree 78 = .ok (.ifCond .eq 13, 3) := by decide +kernel
theorem dX3_leastThree_81 : decode cX3_leastThree 81 = .ok (.iconst 1, 1) := by decide +kernel
theorem dX3_leastThree_82 : decode cX3_leastThree 82 = .ok (.iload_n 1, 1) := by decide +kernel
theorem dX3_leastThree_83 : decode cX3_leastThree 83 = .ok (.ishl, 1) := by decide +kernel
theorem dX3_leastThree_84 : decode cX3_leastThree 84 = .ok (.iconst 1, 1) := by decide +kernel
theorem dX3_leastThree_85 : decode cX3_leastThree 85 = .ok (.iload_n 2, 1) := by decide +kernel
theorem dX3_leastThree_86 : decode cX3_leastThree 86 = .ok (.ishl, 1) := by decide +kernel
theorem dX3_leastThree_87 : decode cX3_leastThree 87 = .ok (.ior, 1) := by decide +kernel
theorem dX3_leastThree_88 : decode cX3_leastThree 88 = .ok (.iload_n 3, 1) := by decide +kernel
theorem dX3_leastThree_89 : decode cX3_leastThree 89 = .ok (.ior, 1) := by decide +kernel
theorem dX3_leastThree_90 : decode cX3_leastThree 90 = .ok (.ireturn, 1) := by decide +kernel
theorem dX3_leastThree_91 : decode cX3_leastThree 91 = .ok (.iinc 2 1, 3) := by decide +kernel
theorem dX3_leastThree_94 : decode cX3_leastThree 94 = .ok (.goto (-80), 3) := by decide +kernel
theorem dX3_leastThree_97 : decode cX3_leastThree 97 = .ok (.iinc 1 1, 3) := by decide +kernel
theorem dX3_leastThree_100 : decode cX3_leastThree 100 = .ok (.goto (-98), 3) := by decide +kernel
theorem dX3_leastThree_103 : decode cX3_leastThree 103 = .ok (.iconst 0, 1) := by decide +kernel
theorem dX3_leastThree_104 : decode cX3_leastThree 104 = .ok (.ireturn, 1) := by decide +kernel
theorem dX3_leastThird_0 : decode cX3_leastThird 0 = .ok (.iload_n 1, 1) := by decide +kernel
theorem dX3_leastThird_1 : decode cX3_leastThird 1 = .ok (.istore_n 3, 1) := by decide +kernel
theorem dX3_leastThird_2 : decode cX3_leastThird 2 = .ok (.iload_n 3, 1) := by decide +kernel
theorem dX3_leastThird_3 : decode cX3_leastThird 3 = .ok (.aload_n 0, 1) := by decide +kernel
theorem dX3_leastThird_4 : decode cX3_leastThird 4 = .ok (.getfield 21, 3) := by decide +kernel
theorem dX3_leastThird_7 : decode cX3_leastThird 7 = .ok (.if_icmp .ge 33, 3) := by decide +kernel
theorem dX3_leastThird_10 : decode cX3_leastThird 10 = .ok (.aload_n 0, 1) := by decide +kernel
theorem dX3_leastThird_11 : decode cX3_leastThird 11 = .ok (.getfield 18, 3) := by decide +kernel
theorem dX3_leastThird_14 : decode cX3_leastThird 14 = .ok (.iload_n 3, 1) := by decide +kernel
theorem dX3_leastThird_15 : decode cX3_leastThird 15 = .ok (.iaload, 1) := by decide +kernel
theorem dX3_leastThird_16 : decode cX3_leastThird 16 = .ok (.ifCond .eq 18, 3) := by decide +kernel
theorem dX3_leastThird_19 : decode cX3_leastThird 19 = .ok (.aload_n 0, 1) := by decide +kernel
theorem dX3_leastThird_20 : decode cX3_leastThird 20 = .ok (.getfield 18, 3) := by decide +kernel
theorem dX3_leastThird_23 : decode cX3_leastThird 23 = .ok (.iload_n 3, 1) := by decide +kernel
theorem dX3_leastThird_24 : decode cX3_leastThird 24 = .ok (.iaload, 1) := by decide +kernel
theorem dX3_leastThird_25 : decode cX3_leastThird 25 = .ok (.iload_n 2, 1) := by decide +kernel
theorem dX3_leastThird_26 : decode cX3_leastThird 26 = .ok (.iand, 1) := by decide +kernel
theorem dX3_leastThird_27 : decode cX3_leastThird 27 = .ok (.ifCond .ne 7, 3) := by decide +kernel
theorem dX3_leastThird_30 : decode cX3_leastThird 30 = .ok (.iconst 1, 1) := by decide +kernel
theorem dX3_leastThird_31 : decode cX3_leastThird 31 = .ok (.iload_n 3, 1) := by decide +kernel
theorem dX3_leastThird_32 : decode cX3_leastThird 32 = .ok (.ishl, 1) := by decide +kernel
theorem dX3_leastThird_33 : decode cX3_leastThird 33 = .ok (.ireturn, 1) := by decide +kernel
theorem dX3_leastThird_34 : decode cX3_leastThird 34 = .ok (.iinc 3 1, 3) := by decide +kernel
theorem dX3_leastThird_37 : decode cX3_leastThird 37 = .ok (.goto (-35), 3) := by decide +kernel
theorem dX3_leastThird_40 : decode cX3_leastThird 40 = .ok (.iconst 0, 1) := by decide +kernel
theorem dX3_leastThird_41 : decode cX3_leastThird 41 = .ok (.ireturn, 1) := by decide +kernel
theorem dX4_init_0 : decode cX4_init 0 = .ok (.aload_n 0, 1) := by decide +kernel
theorem dX4_init_1 : decode cX4_init 1 = .ok (.invokespecial 3, 3) := by decide +kernel
theorem dX4_init_4 : decode cX4_init 4 = .ok (.aload_n 0, 1) := by decide +kernel
theorem dX4_init_5 : decode cX4_init 5 = .ok (.sipush 400, 3) := by decide +kernel
theorem dX4_init_8 : decode cX4_init 8 = .ok (.newarray .int, 2) := by decide +kernel
theorem dX4_init_10 : decode cX4_init 10 = .ok (.putfield 9, 3) := by decide +kernel
theorem dX4_init_13 : decode cX4_init 13 = .ok (.aload_n 0, 1) := by decide +kernel
theorem dX4_init_14 : decode cX4_init 14 = .ok (.iconst 0, 1) := by decide +kernel
theorem dX4_init_15 : decode cX4_init 15 = .ok (.putfield 15, 3) := by decide +kernel
theorem dX4_init_18 : decode cX4_init 18 = .ok (.return_, 1) := by decide +kernel
theorem dX4_add_0 : decode cX4_add 0 = .ok (.aload_n 0, 1) := by decide +kernel
theorem dX4_add_1 : decode cX4_add 1 = .ok (.getfield 15, 3) := by decide +kernel
theorem dX4_add_4 : decode cX4_add 4 = .ok (.sipush 400, 3) := by decide +kernel
theorem dX4_add_7 : decode cX4_add 7 = .ok (.if_icmp .ge 23, 3) := by decide +kernel
theorem dX4_add_10 : decode cX4_add 10 = .ok (.aload_n 0, 1) := by decide +kernel
theorem dX4_add_11 : decode cX4_add 11 = .ok (.getfield 9, 3) := by decide +kernel
theorem dX4_add_14 : decode cX4_add 14 = .ok (.aload_n 0, 1) := by decide +kernel
theorem dX4_add_15 : decode cX4_add 15 = .ok (.getfield 15, 3) := by decide +kernel
theorem dX4_add_18 : decode cX4_add 18 = .ok (.iload_n 1, 1) := by decide +kernel
theorem dX4_add_19 : decode cX4_add 19 = .ok (.iastore, 1) := by decide +kernel
theorem dX4_add_20 : decode cX4_add 20 = .ok (.aload_n 0, 1) := by decide +kernel
theorem dX4_add_21 : decode cX4_add 21 = .ok (.dup, 1) := by decide +kernel
theorem dX4_add_22 : decode cX4_add 22 = .ok (.getfield 15, 3) := by decide +kernel
theorem dX4_add_25 : decode cX4_add 25 = .ok (.iconst 1, 1) := by decide +kernel
theorem dX4_add_26 : decode cX4_add 26 = .ok (.iadd, 1) := by decide +kernel
theorem dX4_add_27 : decode cX4_add 27 = .ok (.putfield 15, 3) := by decide +kernel
theorem dX4_add_30 : decode cX4_add 30 = .ok (.return_, 1) := by decide +kernel
theorem dX4_byteAt_0 : decode cX4_byteAt 0 = .ok (.iload_n 1, 1) := by decide +kernel
theorem dX4_byteAt_1 : decode cX4_byteAt 1 = .ok (.ifCond .lt 20, 3) := by decide +kernel
theorem dX4_byteAt_4 : decode cX4_byteAt 4 = .ok (.iload_n 1, 1) := by decide +kernel
theorem dX4_byteAt_5 : decode cX4_byteAt 5 = .ok (.aload_n 0, 1) := by decide +kernel
theorem dX4_byteAt_6 : decode cX4_byteAt 6 = .ok (.getfield 15, 3) := by decide +kernel
theorem dX4_byteAt_9 : decode cX4_byteAt 9 = .ok (.if_icmp .ge 12, 3) := by decide +kernel
theorem dX4_byteAt_12 : decode cX4_byteAt 12 = .ok (.aload_n 0, 1) := by decide +kernel
theorem dX4_byteAt_13 : decode cX4_byteAt 13 = .ok (.getfield 9, 3) := by decide +kernel
theorem dX4_byteAt_16 : decode cX4_byteAt 16 = .ok (.iload_n 1, 1) := by decide +kernel
theorem dX4_byteAt_17 : decode cX4_byteAt 17 = .ok (.iaload, 1) := by decide +kernel
theorem dX4_byteAt_18 : decode cX4_byteAt 18 = .ok (.goto 4, 3) := by decide +kernel
theorem dX4_byteAt_21 : decode cX4_byteAt 21 = .ok (.iconst (-1), 1) := by decide +kernel
theorem dX4_byteAt_22 : decode cX4_byteAt 22 = .ok (.ireturn, 1) := by decide +kernel
