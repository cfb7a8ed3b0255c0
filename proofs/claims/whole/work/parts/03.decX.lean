theorem dJ0_length_8abf5_0 : decode cJ0_length_8abf5 0 = .ok (.aload_n 0, 1) := by decide +kernel
theorem dJ0_length_8abf5_1 : decode cJ0_length_8abf5 1 = .ok (.getfield 9, 3) := by decide +kernel
theorem dJ0_length_8abf5_4 : decode cJ0_length_8abf5 4 = .ok (.arraylength, 1) := by decide +kernel
theorem dJ0_length_8abf5_5 : decode cJ0_length_8abf5 5 = .ok (.aload_n 0, 1) := by decide +kernel
theorem dJ0_length_8abf5_6 : decode cJ0_length_8abf5 6 = .ok (.invokevirtual 335, 3) := by decide +kernel
theorem dJ0_length_8abf5_9 : decode cJ0_length_8abf5 9 = .ok (.ishr, 1) := by decide +kernel
theorem dJ0_length_8abf5_10 : decode cJ0_length_8abf5 10 = .ok (.ireturn, 1) := by decide +kernel
theorem dJ0_charAt_5068e_0 : decode cJ0_charAt_5068e 0 = .ok (.aload_n 0, 1) := by decide +kernel
theorem dJ0_charAt_5068e_1 : decode cJ0_charAt_5068e 1 = .ok (.invokevirtual 492, 3) := by decide +kernel
theorem dJ0_charAt_5068e_4 : decode cJ0_charAt_5068e 4 = .ok (.ifCond .eq 12, 3) := by decide +kernel
theorem dJ0_charAt_5068e_7 : decode cJ0_charAt_5068e 7 = .ok (.aload_n 0, 1) := by decide +kernel
theorem dJ0_charAt_5068e_8 : decode cJ0_charAt_5068e 8 = .ok (.getfield 9, 3) := by decide +kernel
theorem dJ0_charAt_5068e_11 : decode cJ0_charAt_5068e 11 = .ok (.iload_n 1, 1) := by decide +kernel
theorem dJ0_charAt_5068e_12 : decode cJ0_charAt_5068e 12 = .ok (.invokestatic 495, 3) := by decide +kernel
theorem dJ0_charAt_5068e_15 : decode cJ0_charAt_5068e 15 = .ok (.ireturn, 1) := by decide +kernel
theorem dJ0_charAt_5068e_16 : decode cJ0_charAt_5068e 16 = .ok (.aload_n 0, 1) := by decide +kernel
theorem dJ0_charAt_5068e_17 : decode cJ0_charAt_5068e 17 = .ok (.getfield 9, 3) := by decide +kernel
theorem dJ0_charAt_5068e_20 : decode cJ0_charAt_5068e 20 = .ok (.iload_n 1, 1) := by decide +kernel
theorem dJ0_charAt_5068e_21 : decode cJ0_charAt_5068e 21 = .ok (.invokestatic 498, 3) := by decide +kernel
theorem dJ0_charAt_5068e_24 : decode cJ0_charAt_5068e 24 = .ok (.ireturn, 1) := by decide +kernel
theorem dJ0_coder_7d493_0 : decode cJ0_coder_7d493 0 = .ok (.getstatic 38, 3) := by decide +kernel
theorem dJ0_coder_7d493_3 : decode cJ0_coder_7d493 3 = .ok (.ifCond .eq 10, 3) := by decide +kernel
theorem dJ0_coder_7d493_6 : decode cJ0_coder_7d493 6 = .ok (.aload_n 0, 1) := by decide +kernel
theorem dJ0_coder_7d493_7 : decode cJ0_coder_7d493 7 = .ok (.getfield 15, 3) := by decide +kernel
theorem dJ0_coder_7d493_10 : decode cJ0_coder_7d493 10 = .ok (.goto 4, 3) := by decide +kernel
theorem dJ0_coder_7d493_13 : decode cJ0_coder_7d493 13 = .ok (.iconst 1, 1) := by decide +kernel
theorem dJ0_coder_7d493_14 : decode cJ0_coder_7d493 14 = .ok (.ireturn, 1) := by decide +kernel
theorem dJ0_isLatin1_aae02_0 : decode cJ0_isLatin1_aae02 0 = .ok (.getstatic 38, 3) := by decide +kernel
theorem dJ0_isLatin1_aae02_3 : decode cJ0_isLatin1_aae02 3 = .ok (.ifCond .eq 14, 3) := by decide +kernel
theorem dJ0_isLatin1_aae02_6 : decode cJ0_isLatin1_aae02 6 = .ok (.aload_n 0, 1) := by decide +kernel
theorem dJ0_isLatin1_aae02_7 : decode cJ0_isLatin1_aae02 7 = .ok (.getfield 15, 3) := by decide +kernel
theorem dJ0_isLatin1_aae02_10 : decode cJ0_isLatin1_aae02 10 = .ok (.ifCond .ne 7, 3) := by decide +kernel
theorem dJ0_isLatin1_aae02_13 : decode cJ0_isLatin1_aae02 13 = .ok (.iconst 1, 1) := by decide +kernel
theorem dJ0_isLatin1_aae02_14 : decode cJ0_isLatin1_aae02 14 = .ok (.goto 4, 3) := by decide +kernel
theorem dJ0_isLatin1_aae02_17 : decode cJ0_isLatin1_aae02 17 = .ok (.iconst 0, 1) := by decide +kernel
theorem dJ0_isLatin1_aae02_18 : decode cJ0_isLatin1_aae02 18 = .ok (.ireturn, 1) := by decide +kernel
theorem dJ0_checkIndex_df160_0 : decode cJ0_checkIndex_df160 0 = .ok (.iload_n 0, 1) := by decide +kernel
theorem dJ0_checkIndex_df160_1 : decode cJ0_checkIndex_df160 1 = .ok (.iload_n 1, 1) := by decide +kernel
theorem dJ0_checkIndex_df160_2 : decode cJ0_checkIndex_df160 2 = .ok (.getstatic 1053, 3) := by decide +kernel
theorem dJ0_checkIndex_df160_5 : decode cJ0_checkIndex_df160 5 = .ok (.invokestatic 1059, 3) := by decide +kernel
theorem dJ0_checkIndex_df160_8 : decode cJ0_checkIndex_df160 8 = .ok (.pop, 1) := by decide +kernel
theorem dJ0_checkIndex_df160_9 : decode cJ0_checkIndex_df160 9 = .ok (.return_, 1) := by decide +kernel
theorem dJ1_charAt_3b067_0 : decode cJ1_charAt_3b067 0 = .ok (.iload_n 1, 1) := by decide +kernel
theorem dJ1_charAt_3b067_1 : decode cJ1_charAt_3b067 1 = .ok (.aload_n 0, 1) := by decide +kernel
theorem dJ1_charAt_3b067_2 : decode cJ1_charAt_3b067 2 = .ok (.arraylength, 1) := by decide +kernel
theorem dJ1_charAt_3b067_3 : decode cJ1_charAt_3b067 3 = .ok (.invokestatic 9, 3) := by decide +kernel
theorem dJ1_charAt_3b067_6 : decode cJ1_charAt_3b067 6 = .ok (.aload_n 0, 1) := by decide +kernel
theorem dJ1_charAt_3b067_7 : decode cJ1_charAt_3b067 7 = .ok (.iload_n 1, 1) := by decide +kernel
theorem dJ1_charAt_3b067_8 : decode cJ1_charAt_3b067 8 = .ok (.baload, 1) := by decide +kernel
theorem dJ1_charAt_3b067_9 : decode cJ1_charAt_3b067 9 = .ok (.sipush 255, 3) := by decide +kernel
theorem dJ1_charAt_3b067_12 : decode cJ1_charAt_3b067 12 = .ok (.iand, 1) := by decide +kernel
theorem dJ1_charAt_3b067_13 : decode cJ1_charAt_3b067 13 = .ok (.i2c, 1) := by decide +kernel
theorem dJ1_charAt_3b067_14 : decode cJ1_charAt_3b067 14 = .ok (.ireturn, 1) := by decide +kernel
theorem dJ13_bitCount_95d88_0 : decode cJ13_bitCount_95d88 0 = .ok (.lload_n 0, 1) := by decide +kernel
theorem dJ13_bitCount_95d88_1 : decode cJ13_bitCount_95d88 1 = .ok (.lload_n 0, 1) := by decide +kernel
theorem dJ13_bitCount_95d88_2 : decode cJ13_bitCount_95d88 2 = .ok (.iconst 1, 1) := by decide +kernel
theorem dJ13_bitCount_95d88_3 : decode cJ13_bitCount_95d88 3 = .ok (.lushr, 1) := by decide +kernel
theorem dJ13_bitCount_95d88_4 : decode cJ13_bitCount_95d88 4 = .ok (.ldc2_w 314, 3) := by decide +kernel
theorem dJ13_bitCount_95d88_7 : decode cJ13_bitCount_95d88 7 = .ok (.land, 1) := by decide +kernel
theorem dJ13_bitCount_95d88_8 : decode cJ13_bitCount_95d88 8 = .ok (.lsub, 1) := by decide +kernel
theorem dJ13_bitCount_95d88_9 : decode cJ13_bitCount_95d88 9 = .ok (.lstore_n 0, 1) := by decide +kernel
theorem dJ13_bitCount_95d88_10 : decode cJ13_bitCount_95d88 10 = .ok (.lload_n 0, 1) := by decide +kernel
theorem dJ13_bitCount_95d88_11 : decode cJ13_bitCount_95d88 11 = .ok (.ldc2_w 316, 3) := by decide +kernel
theorem dJ13_bitCount_95d88_14 : decode cJ13_bitCount_95d88 14 = .ok (.land, 1) := by decide +kernel
theorem dJ13_bitCount_95d88_15 : decode cJ13_bitCount_95d88 15 = .ok (.lload_n 0, 1) := by decide +kernel
theorem dJ13_bitCount_95d88_16 : decode cJ13_bitCount_95d88 16 = .ok (.iconst 2, 1) := by decide +kernel
theorem dJ13_bitCount_95d88_17 : decode cJ13_bitCount_95d88 17 = .ok (.lushr, 1) := by decide +kernel
theorem dJ13_bitCount_95d88_18 : decode cJ13_bitCount_95d88 18 = .ok (.ldc2_w 316, 3) := by decide +kernel
theorem dJ13_bitCount_95d88_21 : decode cJ13_bitCount_95d88 21 = .ok (.land, 1) := by decide +kernel
theorem dJ13_bitCount_95d88_22 : decode cJ13_bitCount_95d88 22 = .ok (.ladd, 1) := by decide +kernel
theorem dJ13_bitCount_95d88_23 : decode cJ13_bitCount_95d88 23 = .ok (.lstore_n 0, 1) := by decide +kernel
theorem dJ13_bitCount_95d88_24 : decode cJ13_bitCount_95d88 24 = .ok (.lload_n 0, 1) := by decide +kernel
theorem dJ13_bitCount_95d88_25 : decode cJ13_bitCount_95d88 25 = .ok (.lload_n 0, 1) := by decide +kernel
theorem dJ13_bitCount_95d88_26 : decode cJ13_bitCount_95d88 26 = .ok (.iconst 4, 1) := by decide +kernel
theorem dJ13_bitCount_95d88_27 : decode cJ13_bitCount_95d88 27 = .ok (.lushr, 1) := by decide +kernel
theorem dJ13_bitCount_95d88_28 : decode cJ13_bitCount_95d88 28 = .ok (.ladd, 1) := by decide +kernel
theorem dJ13_bitCount_95d88_29 : decode cJ13_bitCount_95d88 29 = .ok (.ldc2_w 318, 3) := by decide +kernel
theorem dJ13_bitCount_95d88_32 : decode cJ13_bitCount_95d88 32 = .ok (.land, 1) := by decide +kernel
theorem dJ13_bitCount_95d88_33 : decode cJ13_bitCount_95d88 33 = .ok (.lstore_n 0, 1) := by decide +kernel
theorem dJ13_bitCount_95d88_34 : decode cJ13_bitCount_95d88 34 = .ok (.lload_n 0, 1) := by decide +kernel
theorem dJ13_bitCount_95d88_35 : decode cJ13_bitCount_95d88 35 = .ok (.lload_n 0, 1) := by decide +kernel
theorem dJ13_bitCount_95d88_36 : decode cJ13_bitCount_95d88 36 = .ok (.bipush 8, 2) := by decide +kernel
theorem dJ13_bitCount_95d88_38 : decode cJ13_bitCount_95d88 38 = .ok (.lushr, 1) := by decide +kernel
theorem dJ13_bitCount_95d88_39 : decode cJ13_bitCount_95d88 39 = .ok (.ladd, 1) := by decide +kernel
theorem dJ13_bitCount_95d88_40 : decode cJ13_bitCount_95d88 40 = .ok (.lstore_n 0, 1) := by decide +kernel
theorem dJ13_bitCount_95d88_41 : decode cJ13_bitCount_95d88 41 = .ok (.lload_n 0, 1) := by decide +kernel
theorem dJ13_bitCount_95d88_42 : decode cJ13_bitCount_95d88 42 = .ok (.lload_n 0, 1) := by decide +kernel
theorem dJ13_bitCount_95d88_43 : decode cJ13_bitCount_95d88 43 = .ok (.bipush 16, 2) := by decide +kernel
theorem dJ13_bitCount_95d88_45 : decode cJ13_bitCount_95d88 45 = .ok (.lushr, 1) := by decide +kernel
theorem dJ13_bitCount_95d88_46 : decode cJ13_bitCount_95d88 46 = .ok (.ladd, 1) := by decide +kernel
theorem dJ13_bitCount_95d88_47 : decode cJ13_bitCount_95d88 47 = .ok (.lstore_n 0, 1) := by decide +kernel
theorem dJ13_bitCount_95d88_48 : decode cJ13_bitCount_95d88 48 = .ok (.lload_n 0, 1) := by decide +kernel
theorem dJ13_bitCount_95d88_49 : decode cJ13_bitCount_95d88 49 = .ok (.lload_n 0, 1) := by decide +kernel
theorem dJ13_bitCount_95d88_50 : decode cJ13_bitCount_95d88 50 = .ok (.bipush 32, 2) := by decide +kernel
theorem dJ13_bitCount_95d88_52 : decode cJ13_bitCount_95d88 52 = .ok (.lushr, 1) := by decide +kernel
theorem dJ13_bitCount_95d88_53 : decode cJ13_bitCount_95d88 53 = .ok (.ladd, 1) := by decide +kernel
theorem dJ13_bitCount_95d88_54 : decode cJ13_bitCount_95d88 54 = .ok (.lstore_n 0, 1) := by decide +kernel
theorem dJ13_bitCount_95d88_55 : decode cJ13_bitCount_95d88 55 = .ok (.lload_n 0, 1) := by decide +kernel
theorem dJ13_bitCount_95d88_56 : decode cJ13_bitCount_95d88 56 = .ok (.l2i, 1) := by decide +kernel
theorem dJ13_bitCount_95d88_57 : decode cJ13_bitCount_95d88 57 = .ok (.bipush 127, 2) := by decide +kernel
theorem dJ13_bitCount_95d88_59 : decode cJ13_bitCount_95d88 59 = .ok (.iand, 1) := by decide +kernel
theorem dJ13_bitCount_95d88_60 : decode cJ13_bitCount_95d88 60 = .ok (.ireturn, 1) := by decide +kernel
theorem dJ2_getChar_3b067_0 : decode cJ2_getChar_3b067 0 = .ok (.getstatic 44, 3) := by decide +kernel
theorem dJ2_getChar_3b067_3 : decode cJ2_getChar_3b067 3 = .ok (.ifCond .ne 25, 3) := by decide +kernel
theorem dJ2_getChar_3b067_6 : decode cJ2_getChar_3b067 6 = .ok (.iload_n 1, 1) := by decide +kernel
theorem dJ2_getChar_3b067_7 : decode cJ2_getChar_3b067 7 = .ok (.ifCond .lt 11, 3) := by decide +kernel
theorem dJ2_getChar_3b067_10 : decode cJ2_getChar_3b067 10 = .ok (.iload_n 1, 1) := by decide +kernel
theorem dJ2_getChar_3b067_11 : decode cJ2_getChar_3b067 11 = .ok (.aload_n 0, 1) := by decide +kernel
theorem dJ2_getChar_3b067_12 : decode cJ2_getChar_3b067 12 = .ok (.invokestatic 48, 3) := by decide +kernel
theorem dJ2_getChar_3b067_15 : decode cJ2_getChar_3b067 15 = .ok (.if_icmp .lt 13, 3) := by decide +kernel
theorem dJ2_getChar_3b067_18 : decode cJ2_getChar_3b067 18 = .ok (.new 52, 3) := by decide +kernel
theorem dJ2_getChar_3b067_21 : decode cJ2_getChar_3b067 21 = .ok (.dup, 1) := by decide +kernel
theorem dJ2_getChar_3b067_22 : decode cJ2_getChar_3b067 22 = .ok (.ldc 54, 2) := by decide +kernel
theorem dJ2_getChar_3b067_24 : decode cJ2_getChar_3b067 24 = .ok (.invokespecial 56, 3) := by decide +kernel
theorem dJ2_getChar_3b067_27 : decode cJ2_getChar_3b067 27 = .ok (.athrow, 1) := by decide +kernel
theorem dJ2_getChar_3b067_28 : decode cJ2_getChar_3b067 28 = .ok (.iload_n 1, 1) := by decide +kernel
theorem dJ2_getChar_3b067_29 : decode cJ2_getChar_3b067 29 = .ok (.iconst 1, 1) := by decide +kernel
theorem dJ2_getChar_3b067_30 : decode cJ2_getChar_3b067 30 = .ok (.ishl, 1) := by decide +kernel
theorem dJ2_getChar_3b067_31 : decode cJ2_getChar_3b067 31 = .ok (.istore_n 1, 1) := by decide +kernel
theorem dJ2_getChar_3b067_32 : decode cJ2_getChar_3b067 32 = .ok (.aload_n 0, 1) := by decide +kernel
theorem dJ2_getChar_3b067_33 : decode cJ2_getChar_3b067 33 = .ok (.iload_n 1, 1) := by decide +kernel
theorem dJ2_getChar_3b067_34 : decode cJ2_getChar_3b067 34 = .ok (.iinc 1 1, 3) := by decide +kernel
theorem dJ2_getChar_3b067_37 : decode cJ2_getChar_3b067 37 = .ok (.baload, 1) := by decide +kernel
theorem dJ2_getChar_3b067_38 : decode cJ2_getChar_3b067 38 = .ok (.sipush 255, 3) := by decide +kernel
theorem dJ2_getChar_3b067_41 : decode cJ2_getChar_3b067 41 = .ok (.iand, 1) := by decide +kernel
theorem dJ2_getChar_3b067_42 : decode cJ2_getChar_3b067 42 = .ok (.getstatic 59, 3) := by decide +kernel
theorem dJ2_getChar_3b067_45 : decode cJ2_getChar_3b067 45 = .ok (.ishl, 1) := by decide +kernel
theorem dJ2_getChar_3b067_46 : decode cJ2_getChar_3b067 46 = .ok (.aload_n 0, 1) := by decide +kernel
theorem dJ2_getChar_3b067_47 : decode cJ2_getChar_3b067 47 = .ok (.iload_n 1, 1) := by decide +kernel
theorem dJ2_getChar_3b067_48 : decode cJ2_getChar_3b067 48 = .ok (.baload, 1) := by decide +kernel
theorem dJ2_getChar_3b067_49 : decode cJ2_getChar_3b067 49 = .ok (.sipush 255, 3) := by decide +kernel
theorem dJ2_getChar_3b067_52 : decode cJ2_getChar_3b067 52 = .ok (.iand, 1) := by decide +kernel
theorem dJ2_getChar_3b067_53 : decode cJ2_getChar_3b067 53 = .ok (.getstatic 63, 3) := by decide +kernel
theorem dJ2_getChar_3b067_56 : decode cJ2_getChar_3b067 56 = .ok (.ishl, 1) := by decide +kernel
theorem dJ2_getChar_3b067_57 : decode cJ2_getChar_3b067 57 = .ok (.ior, 1) := by decide +kernel
theorem dJ2_getChar_3b067_58 : decode cJ2_getChar_3b067 58 = .ok (.i2c, 1) := by decide +kernel
theorem dJ2_getChar_3b067_59 : decode cJ2_getChar_3b067 59 = .ok (.ireturn, 1) := by decide +kernel
theorem dJ2_length_9d52b_0 : decode cJ2_length_9d52b 0 = .ok (.aload_n 0, 1) := by decide +kernel
theorem dJ2_length_9d52b_1 : decode cJ2_length_9d52b 1 = .ok (.arraylength, 1) := by decide +kernel
theorem dJ2_length_9d52b_2 : decode cJ2_length_9d52b 2 = .ok (.iconst 1, 1) := by decide +kernel
theorem dJ2_length_9d52b_3 : decode cJ2_length_9d52b 3 = .ok (.ishr, 1) := by decide +kernel
theorem dJ2_length_9d52b_4 : decode cJ2_length_9d52b 4 = .ok (.ireturn, 1) := by decide +kernel
theorem dJ2_charAt_3b067_0 : decode cJ2_charAt_3b067 0 = .ok (.iload_n 1, 1) := by decide +kernel
theorem dJ2_charAt_3b067_1 : decode cJ2_charAt_3b067 1 = .ok (.aload_n 0, 1) := by decide +kernel
theorem dJ2_charAt_3b067_2 : decode cJ2_charAt_3b067 2 = .ok (.invokestatic 67, 3) := by decide +kernel
theorem dJ2_charAt_3b067_5 : decode cJ2_charAt_3b067 5 = .ok (.aload_n 0, 1) := by decide +kernel
theorem dJ2_charAt_3b067_6 : decode cJ2_charAt_3b067 6 = .ok (.iload_n 1, 1) := by decide +kernel
theorem dJ2_charAt_3b067_7 : decode cJ2_charAt_3b067 7 = .ok (.invokestatic 71, 3) := by decide +kernel
theorem dJ2_charAt_3b067_10 : decode cJ2_charAt_3b067 10 = .ok (.ireturn, 1) := by decide +kernel
theorem dJ2_checkIndex_2214a_0 : decode cJ2_checkIndex_2214a 0 = .ok (.iload_n 0, 1) := by decide +kernel
theorem dJ2_checkIndex_2214a_1 : decode cJ2_checkIndex_2214a 1 = .ok (.aload_n 1, 1) := by decide +kernel
theorem dJ2_checkIndex_2214a_2 : decode cJ2_checkIndex_2214a 2 = .ok (.invokestatic 48, 3) := by decide +kernel
theorem dJ2_checkIndex_2214a_5 : decode cJ2_checkIndex_2214a 5 = .ok (.invokestatic 414, 3) := by decide +kernel
theorem dJ2_checkIndex_2214a_8 : decode cJ2_checkIndex_2214a 8 = .ok (.return_, 1) := by decide +kernel
theorem dJ3_checkIndex_8e157_0 : decode cJ3_checkIndex_8e157 0 = .ok (.iload_n 0, 1) := by decide +kernel
theorem dJ3_checkIndex_8e157_1 : decode cJ3_checkIndex_8e157 1 = .ok (.ifCond .lt 8, 3) := by decide +kernel
theorem dJ3_checkIndex_8e157_4 : decode cJ3_checkIndex_8e157 4 = .ok (.iload_n 0, 1) := by decide +kernel
theorem dJ3_checkIndex_8e157_5 : decode cJ3_checkIndex_8e157 5 = .ok (.iload_n 1, 1) := by decide +kernel
theorem dJ3_checkIndex_8e157_6 : decode cJ3_checkIndex_8e157 6 = .ok (.if_icmp .lt 10, 3) := by decide +kernel
theorem dJ3_checkIndex_8e157_9 : decode cJ3_checkIndex_8e157 9 = .ok (.aload_n 2, 1) := by decide +kernel
theorem dJ3_checkIndex_8e157_10 : decode cJ3_checkIndex_8e157 10 = .ok (.iload_n 0, 1) := by decide +kernel
theorem dJ3_checkIndex_8e157_11 : decode cJ3_checkIndex_8e157 11 = .ok (.iload_n 1, 1) := by decide +kernel
theorem dJ3_checkIndex_8e157_12 : decode cJ3_checkIndex_8e157 12 = .ok (.invokestatic 95, 3) := by decide +kernel
theorem dJ3_checkIndex_8e157_15 : decode cJ3_checkIndex_8e157 15 = .ok (.athrow, 1) := by decide +kernel
theorem dJ3_checkIndex_8e157_16 : decode cJ3_checkIndex_8e157 16 = .ok (.iload_n 0, 1) := by decide +kernel
theorem dJ3_checkIndex_8e157_17 : decode cJ3_checkIndex_8e157 17 = .ok (.ireturn, 1) := by decide +kernel
theorem dJ9_max_7cf53_0 : decode cJ9_max_7cf53 0 = .ok (.iload_n 0, 1) := by decide +kernel
theorem dJ9_max_7cf53_1 : decode cJ9_max_7cf53 1 = .ok (.iload_n 1, 1) := by decide +kernel
theorem dJ9_max_7cf53_2 : decode cJ9_max_7cf53 2 = .ok (.if_icmp .lt 7, 3) := by decide +kernel
theorem dJ9_max_7cf53_5 : decode cJ9_max_7cf53 5 = .ok (.iload_n 0, 1) := by decide +kernel
theorem dJ9_max_7cf53_6 : decode cJ9_max_7cf53 6 = .ok (.goto 4, 3) := by decide +kernel
theorem dJ9_max_7cf53_9 : decode cJ9_max_7cf53 9 = .ok (.iload_n 1, 1) := by decide +kernel
theorem dJ9_max_7cf53_10 : decode cJ9_max_7cf53 10 = .ok (.ireturn, 1) := by decide +kernel
theorem dX0_init_0 : decode cX0_init 0 = .ok (.aload_n 0, 1) := by decide +kernel
theorem dX0_init_1 : decode cX0_init 1 = .ok (.invokespecial 3, 3) := by decide +kernel
theorem dX0_init_4 : decode cX0_init 4 = .ok (.aload_n 0, 1) := by decide +kernel
theorem dX0_init_5 : decode cX0_init 5 = .ok (.aload_n 1, 1) := by decide +kernel
theorem dX0_init_6 : decode cX0_init 6 = .ok (.putfield 9, 3) := by decide +kernel
theorem dX0_init_9 : decode cX0_init 9 = .ok (.aload_n 0, 1) := by decide +kernel
theorem dX0_init_10 : decode cX0_init 10 = .ok (.aload_n 2, 1) := by decide +kernel
theorem dX0_init_11 : decode cX0_init 11 = .ok (.putfield 15, 3) := by decide +kernel
theorem dX0_init_14 : decode cX0_init 14 = .ok (.return_, 1) := by decide +kernel
theorem dX0_advise_0 : decode cX0_advise 0 = .ok (.iload 4, 2) := by decide +kernel
theorem dX0_advise_2 : decode cX0_advise 2 = .ok (.tableswitch 49 0 2 #[26, 33, 41], 26) := by decide +kernel
theorem dX0_advise_28 : decode cX0_advise 28 = .ok (.aload_n 0, 1) := by decide +kernel
theorem dX0_advise_29 : decode cX0_advise 29 = .ok (.aload_n 1, 1) := by decide +kernel
theorem dX0_advise_30 : decode cX0_advise 30 = .ok (.iload_n 2, 1) := by decide +kernel
theorem dX0_advise_31 : decode cX0_advise 31 = .ok (.invokevirtual 19, 3) := by decide +kernel
theorem dX0_advise_34 : decode cX0_advise 34 = .ok (.ireturn, 1) := by decide +kernel
theorem dX0_advise_35 : decode cX0_advise 35 = .ok (.aload_n 0, 1) := by decide +kernel
theorem dX0_advise_36 : decode cX0_advise 36 = .ok (.aload_n 1, 1) := by decide +kernel
theorem dX0_advise_37 : decode cX0_advise 37 = .ok (.iload_n 2, 1) := by decide +kernel
theorem dX0_advise_38 : decode cX0_advise 38 = .ok (.iload_n 3, 1) := by decide +kernel
theorem dX0_advise_39 : decode cX0_advise 39 = .ok (.invokevirtual 23, 3) := by decide +kernel
theorem dX0_advise_42 : decode cX0_advise 42 = .ok (.ireturn, 1) := by decide +kernel
theorem dX0_advise_43 : decode cX0_advise 43 = .ok (.aload_n 0, 1) := by decide +kernel
theorem dX0_advise_44 : decode cX0_advise 44 = .ok (.aload_n 1, 1) := by decide +kernel
theorem dX0_advise_45 : decode cX0_advise 45 = .ok (.iload_n 2, 1) := by decide +kernel
theorem dX0_advise_46 : decode cX0_advise 46 = .ok (.iload_n 3, 1) := by decide +kernel
theorem dX0_advise_47 : decode cX0_advise 47 = .ok (.invokevirtual 27, 3) := by decide +kernel
theorem dX0_advise_50 : decode cX0_advise 50 = .ok (.ireturn, 1) := by decide +kernel
theorem dX0_advise_51 : decode cX0_advise 51 = .ok (.aload_n 0, 1) := by decide +kernel
theorem dX0_advise_52 : decode cX0_advise 52 = .ok (.aload_n 1, 1) := by decide +kernel
theorem dX0_advise_53 : decode cX0_advise 53 = .ok (.iload_n 2, 1) := by decide +kernel
theorem dX0_advise_54 : decode cX0_advise 54 = .ok (.iload_n 3, 1) := by decide +kernel
theorem dX0_advise_55 : decode cX0_advise 55 = .ok (.invokevirtual 30, 3) := by decide +kernel
theorem dX0_advise_58 : decode cX0_advise 58 = .ok (.ireturn, 1) := by decide +kernel
theorem dX0_lowest_0 : decode cX0_lowest 0 = .ok (.iconst 0, 1) := by decide +kernel
theorem dX0_lowest_1 : decode cX0_lowest 1 = .ok (.istore_n 3, 1) := by decide +kernel
theorem dX0_lowest_2 : decode cX0_lowest 2 = .ok (.iload_n 3, 1) := by decide +kernel
theorem dX0_lowest_3 : decode cX0_lowest 3 = .ok (.iload_n 2, 1) := by decide +kernel
theorem dX0_lowest_4 : decode cX0_lowest 4 = .ok (.if_icmp .ge 31, 3) := by decide +kernel
theorem dX0_lowest_7 : decode cX0_lowest 7 = .ok (.aload_n 0, 1) := by decide +kernel
theorem dX0_lowest_8 : decode cX0_lowest 8 = .ok (.getfield 9, 3) := by decide +kernel
theorem dX0_lowest_11 : decode cX0_lowest 11 = .ok (.getfield 33, 3) := by decide +kernel
theorem dX0_lowest_14 : decode cX0_lowest 14 = .ok (.aload_n 1, 1) := by decide +kernel
theorem dX0_lowest_15 : decode cX0_lowest 15 = .ok (.iload_n 3, 1) := by decide +kernel
theorem dX0_lowest_16 : decode cX0_lowest 16 = .ok (.iaload, 1) := by decide +kernel
theorem dX0_lowest_17 : decode cX0_lowest 17 = .ok (.aaload, 1) := by decide +kernel
theorem dX0_lowest_18 : decode cX0_lowest 18 = .ok (.getfield 39, 3) := by decide +kernel
theorem dX0_lowest_21 : decode cX0_lowest 21 = .ok (.ifCond .ne 8, 3) := by decide +kernel
theorem dX0_lowest_24 : decode cX0_lowest 24 = .ok (.bipush 100, 2) := by decide +kernel
theorem dX0_lowest_26 : decode cX0_lowest 26 = .ok (.iload_n 3, 1) := by decide +kernel
theorem dX0_lowest_27 : decode cX0_lowest 27 = .ok (.imul, 1) := by decide +kernel
theorem dX0_lowest_28 : decode cX0_lowest 28 = .ok (.ireturn, 1) := by decide +kernel
theorem dX0_lowest_29 : decode cX0_lowest 29 = .ok (.iinc 3 1, 3) := by decide +kernel
theorem dX0_lowest_32 : decode cX0_lowest 32 = .ok (.goto (-30), 3) := by decide +kernel
theorem dX0_lowest_35 : decode cX0_lowest 35 = .ok (.iconst (-1), 1) := by decide +kernel
theorem dX0_lowest_36 : decode cX0_lowest 36 = .ok (.ireturn, 1) := by decide +kernel
theorem dX0_hottest_0 : decode cX0_hottest 0 = .ok (.iconst (-1), 1) := by decide +kernel
theorem dX0_hottest_1 : decode cX0_hottest 1 = .ok (.istore 4, 2) := by decide +kernel
theorem dX0_hottest_3 : decode cX0_hottest 3 = .ok (.iconst (-1), 1) := by decide +kernel
theorem dX0_hottest_4 : decode cX0_hottest 4 = .ok (.istore 5, 2) := by decide +kernel
theorem dX0_hottest_6 : decode cX0_hottest 6 = .ok (.iconst 0, 1) := by decide +kernel
theorem dX0_hottest_7 : decode cX0_hottest 7 = .ok (.istore 6, 2) := by decide +kernel
theorem dX0_hottest_9 : decode cX0_hottest 9 = .ok (.iload 6, 2) := by decide +kernel
theorem dX0_hottest_11 : decode cX0_hottest 11 = .ok (.iload_n 2, 1) := by decide +kernel
theorem dX0_hottest_12 : decode cX0_hottest 12 = .ok (.if_icmp .ge 50, 3) := by decide +kernel
theorem dX0_hottest_15 : decode cX0_hottest 15 = .ok (.aload_n 0, 1) := by decide +kernel
theorem dX0_hottest_16 : decode cX0_hottest 16 = .ok (.getfield 9, 3) := by decide +kernel
theorem dX0_hottest_19 : decode cX0_hottest 19 = .ok (.getfield 33, 3) := by decide +kernel
theorem dX0_hottest_22 : decode cX0_hottest 22 = .ok (.aload_n 1, 1) := by decide +kernel
theorem dX0_hottest_23 : decode cX0_hottest 23 = .ok (.iload 6, 2) := by decide +kernel
theorem dX0_hottest_25 : decode cX0_hottest 25 = .ok (.iaload, 1) := by decide +kernel
theorem dX0_hottest_26 : decode cX0_hottest 26 = .ok (.aaload, 1) := by decide +kernel
theorem dX0_hottest_27 : decode cX0_hottest 27 = .ok (.getfield 45, 3) := by decide +kernel
theorem dX0_hottest_30 : decode cX0_hottest 30 = .ok (.iload 5, 2) := by decide +kernel
theorem dX0_hottest_32 : decode cX0_hottest 32 = .ok (.if_icmp .le 24, 3) := by decide +kernel
theorem dX0_hottest_35 : decode cX0_hottest 35 = .ok (.aload_n 0, 1) := by decide +kernel
theorem dX0_hottest_36 : decode cX0_hottest 36 = .ok (.getfield 9, 3) := by decide +kernel
theorem dX0_hottest_39 : decode cX0_hottest 39 = .ok (.getfield 33, 3) := by decide +kernel
theorem dX0_hottest_42 : decode cX0_hottest 42 = .ok (.aload_n 1, 1) := by decide +kernel
theorem dX0_hottest_43 : decode cX0_hottest 43 = .ok (.iload 6, 2) := by decide +kernel
theorem dX0_hottest_45 : decode cX0_hottest 45 = .ok (.iaload, 1) := by decide +kernel
theorem dX0_hottest_46 : decode cX0_hottest 46 = .ok (.aaload, 1) := by decide +kernel
theorem dX0_hottest_47 : decode cX0_hottest 47 = .ok (.getfield 45, 3) := by decide +kernel
theorem dX0_hottest_50 : decode cX0_hottest 50 = .ok (.istore 5, 2) := by decide +kernel
theorem dX0_hottest_52 : decode cX0_hottest 52 = .ok (.iload 6, 2) := by decide +kernel
theorem dX0_hottest_54 : decode cX0_hottest 54 = .ok (.istore 4, 2) := by decide +kernel
theorem dX0_hottest_56 : decode cX0_hottest 56 = .ok (.iinc 6 1, 3) := by decide +kernel
theorem dX0_hottest_59 : decode cX0_hottest 59 = .ok (.goto (-50), 3) := by decide +kernel
theorem dX0_hottest_62 : decode cX0_hottest 62 = .ok (.iload 4, 2) := by decide +kernel
theorem dX0_hottest_64 : decode cX0_hottest 64 = .ok (.iconst (-1), 1) := by decide +kernel
theorem dX0_hottest_65 : decode cX0_hottest 65 = .ok (.if_icmp .ne 7, 3) := by decide +kernel
theorem dX0_hottest_68 : decode cX0_hottest 68 = .ok (.iconst (-1), 1) := by decide +kernel
theorem dX0_hottest_69 : decode cX0_hottest 69 = .ok (.goto 26, 3) := by decide +kernel
theorem dX0_hottest_72 : decode cX0_hottest 72 = .ok (.bipush 100, 2) := by decide +kernel
theorem dX0_hottest_74 : decode cX0_hottest 74 = .ok (.iload 4, 2) := by decide +kernel
theorem dX0_hottest_76 : decode cX0_hottest 76 = .ok (.imul, 1) := by decide +kernel
theorem dX0_hottest_77 : decode cX0_hottest 77 = .ok (.aload_n 0, 1) := by decide +kernel
theorem dX0_hottest_78 : decode cX0_hottest 78 = .ok (.aload_n 0, 1) := by decide +kernel
theorem dX0_hottest_79 : decode cX0_hottest 79 = .ok (.getfield 9, 3) := by decide +kernel
theorem dX0_hottest_82 : decode cX0_hottest 82 = .ok (.getfield 33, 3) := by decide +kernel
theorem dX0_hottest_85 : decode cX0_hottest 85 = .ok (.aload_n 1, 1) := by decide +kernel
theorem dX0_hottest_86 : decode cX0_hottest 86 = .ok (.iload 4, 2) := by decide +kernel
theorem dX0_hottest_88 : decode cX0_hottest 88 = .ok (.iaload, 1) := by decide +kernel
theorem dX0_hottest_89 : decode cX0_hottest 89 = .ok (.aaload, 1) := by decide +kernel
theorem dX0_hottest_90 : decode cX0_hottest 90 = .ok (.iload_n 3, 1) := by decide +kernel
theorem dX0_hottest_91 : decode cX0_hottest 91 = .ok (.invokevirtual 49, 3) := by decide +kernel
theorem dX0_hottest_94 : decode cX0_hottest 94 = .ok (.iadd, 1) := by decide +kernel
theorem dX0_hottest_95 : decode cX0_hottest 95 = .ok (.ireturn, 1) := by decide +kernel
theorem dX0_coolest_0 : decode cX0_coolest 0 = .ok (.aload_n 0, 1) := by decide +kernel
theorem dX0_coolest_1 : decode cX0_coolest 1 = .ok (.getfield 9, 3) := by decide +kernel
theorem dX0_coolest_4 : decode cX0_coolest 4 = .ok (.aload_n 1, 1) := by decide +kernel
theorem dX0_coolest_5 : decode cX0_coolest 5 = .ok (.getfield 53, 3) := by decide +kernel
theorem dX0_coolest_8 : decode cX0_coolest 8 = .ok (.aload_n 1, 1) := by decide +kernel
theorem dX0_coolest_9 : decode cX0_coolest 9 = .ok (.getfield 45, 3) := by decide +kernel
theorem dX0_coolest_12 : decode cX0_coolest 12 = .ok (.invokevirtual 57, 3) := by decide +kernel
theorem dX0_coolest_15 : decode cX0_coolest 15 = .ok (.ldc 61, 2) := by decide +kernel
theorem dX0_coolest_17 : decode cX0_coolest 17 = .ok (.istore_n 3, 1) := by decide +kernel
theorem dX0_coolest_18 : decode cX0_coolest 18 = .ok (.iconst 0, 1) := by decide +kernel
theorem dX0_coolest_19 : decode cX0_coolest 19 = .ok (.istore 4, 2) := by decide +kernel
theorem dX0_coolest_21 : decode cX0_coolest 21 = .ok (.iconst 0, 1) := by decide +kernel
theorem dX0_coolest_22 : decode cX0_coolest 22 = .ok (.istore 5, 2) := by decide +kernel
theorem dX0_coolest_24 : decode cX0_coolest 24 = .ok (.iload 5, 2) := by decide +kernel
theorem dX0_coolest_26 : decode cX0_coolest 26 = .ok (.aload_n 1, 1) := by decide +kernel
theorem dX0_coolest_27 : decode cX0_coolest 27 = .ok (.getfield 62, 3) := by decide +kernel
theorem dX0_coolest_30 : decode cX0_coolest 30 = .ok (.iload_n 2, 1) := by decide +kernel
theorem dX0_coolest_31 : decode cX0_coolest 31 = .ok (.iaload, 1) := by decide +kernel
theorem dX0_coolest_32 : decode cX0_coolest 32 = .ok (.if_icmp .ge 46, 3) := by decide +kernel
theorem dX0_coolest_35 : decode cX0_coolest 35 = .ok (.iload_n 2, 1) := by decide +kernel
theorem dX0_coolest_36 : decode cX0_coolest 36 = .ok (.invokestatic 66, 3) := by decide +kernel
theorem dX0_coolest_39 : decode cX0_coolest 39 = .ok (.aload_n 0, 1) := by decide +kernel
theorem dX0_coolest_40 : decode cX0_coolest 40 = .ok (.getfield 9, 3) := by decide +kernel
theorem dX0_coolest_43 : decode cX0_coolest 43 = .ok (.aload_n 1, 1) := by decide +kernel
theorem dX0_coolest_44 : decode cX0_coolest 44 = .ok (.iload_n 2, 1) := by decide +kernel
theorem dX0_coolest_45 : decode cX0_coolest 45 = .ok (.iload 5, 2) := by decide +kernel
theorem dX0_coolest_47 : decode cX0_coolest 47 = .ok (.invokevirtual 70, 3) := by decide +kernel
theorem dX0_coolest_50 : decode cX0_coolest 50 = .ok (.iconst 1, 1) := by decide +kernel
theorem dX0_coolest_51 : decode cX0_coolest 51 = .ok (.iload_n 2, 1) := by decide +kernel
theorem dX0_coolest_52 : decode cX0_coolest 52 = .ok (.isub, 1) := by decide +kernel
theorem dX0_coolest_53 : decode cX0_coolest 53 = .ok (.invokevirtual 74, 3) := by decide +kernel
theorem dX0_coolest_56 : decode cX0_coolest 56 = .ok (.imul, 1) := by decide +kernel
theorem dX0_coolest_57 : decode cX0_coolest 57 = .ok (.istore 6, 2) := by decide +kernel
theorem dX0_coolest_59 : decode cX0_coolest 59 = .ok (.iload 6, 2) := by decide +kernel
theorem dX0_coolest_61 : decode cX0_coolest 61 = .ok (.iload_n 3, 1) := by decide +kernel
theorem dX0_coolest_62 : decode cX0_coolest 62 = .ok (.if_icmp .le 10, 3) := by decide +kernel
theorem dX0_coolest_65 : decode cX0_coolest 65 = .ok (.iload 6, 2) := by decide +kernel
theorem dX0_coolest_67 : decode cX0_coolest 67 = .ok (.istore_n 3, 1) := by decide +kernel
theorem dX0_coolest_68 : decode cX0_coolest 68 = .ok (.iload 5, 2) := by decide +kernel
theorem dX0_coolest_70 : decode cX0_coolest 70 = .ok (.istore 4, 2) := by decide +kernel
theorem dX0_coolest_72 : decode cX0_coolest 72 = .ok (.iinc 5 1, 3) := by decide +kernel
theorem dX0_coolest_75 : decode cX0_coolest 75 = .ok (.goto (-51), 3) := by decide +kernel
theorem dX0_coolest_78 : decode cX0_coolest 78 = .ok (.iload 4, 2) := by decide +kernel
theorem dX0_coolest_80 : decode cX0_coolest 80 = .ok (.ireturn, 1) := by decide +kernel
theorem dX0_greediest_0 : decode cX0_greediest 0 = .ok (.ldc 61, 2) := by decide +kernel
theorem dX0_greediest_2 : decode cX0_greediest 2 = .ok (.istore 4, 2) := by decide +kernel
theorem dX0_greediest_4 : decode cX0_greediest 4 = .ok (.iconst (-1), 1) := by decide +kernel
theorem dX0_greediest_5 : decode cX0_greediest 5 = .ok (.istore 5, 2) := by decide +kernel
theorem dX0_greediest_7 : decode cX0_greediest 7 = .ok (.iconst 0, 1) := by decide +kernel
theorem dX0_greediest_8 : decode cX0_greediest 8 = .ok (.istore 6, 2) := by decide +kernel
theorem dX0_greediest_10 : decode cX0_greediest 10 = .ok (.iload 6, 2) := by decide +kernel
theorem dX0_greediest_12 : decode cX0_greediest 12 = .ok (.iload_n 2, 1) := by decide +kernel
theorem dX0_greediest_13 : decode cX0_greediest 13 = .ok (.if_icmp .ge 105, 3) := by decide +kernel
theorem dX0_greediest_16 : decode cX0_greediest 16 = .ok (.aload_n 0, 1) := by decide +kernel
theorem dX0_greediest_17 : decode cX0_greediest 17 = .ok (.getfield 9, 3) := by decide +kernel
theorem dX0_greediest_20 : decode cX0_greediest 20 = .ok (.getfield 33, 3) := by decide +kernel
theorem dX0_greediest_23 : decode cX0_greediest 23 = .ok (.aload_n 1, 1) := by decide +kernel
theorem dX0_greediest_24 : decode cX0_greediest 24 = .ok (.iload 6, 2) := by decide +kernel
theorem dX0_greediest_26 : decode cX0_greediest 26 = .ok (.iaload, 1) := by decide +kernel
theorem dX0_greediest_27 : decode cX0_greediest 27 = .ok (.aaload, 1) := by decide +kernel
theorem dX0_greediest_28 : decode cX0_greediest 28 = .ok (.astore 7, 2) := by decide +kernel
theorem dX0_greediest_30 : decode cX0_greediest 30 = .ok (.iconst 0, 1) := by decide +kernel
theorem dX0_greediest_31 : decode cX0_greediest 31 = .ok (.istore 8, 2) := by decide +kernel
theorem dX0_greediest_33 : decode cX0_greediest 33 = .ok (.iload 8, 2) := by decide +kernel
theorem dX0_greediest_35 : decode cX0_greediest 35 = .ok (.aload 7, 2) := by decide +kernel
theorem dX0_greediest_37 : decode cX0_greediest 37 = .ok (.getfield 62, 3) := by decide +kernel
theorem dX0_greediest_40 : decode cX0_greediest 40 = .ok (.iload_n 3, 1) := by decide +kernel
theorem dX0_greediest_41 : decode cX0_greediest 41 = .ok (.iaload, 1) := by decide +kernel
theorem dX0_greediest_42 : decode cX0_greediest 42 = .ok (.if_icmp .ge 70, 3) := by decide +kernel
theorem dX0_greediest_45 : decode cX0_greediest 45 = .ok (.aload 7, 2) := by decide +kernel
theorem dX0_greediest_47 : decode cX0_greediest 47 = .ok (.getfield 39, 3) := by decide +kernel
theorem dX0_greediest_50 : decode cX0_greediest 50 = .ok (.ifCond .ne 62, 3) := by decide +kernel
theorem dX0_greediest_53 : decode cX0_greediest 53 = .ok (.iload_n 3, 1) := by decide +kernel
theorem dX0_greediest_54 : decode cX0_greediest 54 = .ok (.invokestatic 66, 3) := by decide +kernel
theorem dX0_greediest_57 : decode cX0_greediest 57 = .ok (.aload_n 0, 1) := by decide +kernel
theorem dX0_greediest_58 : decode cX0_greediest 58 = .ok (.getfield 9, 3) := by decide +kernel
theorem dX0_greediest_61 : decode cX0_greediest 61 = .ok (.getfield 33, 3) := by decide +kernel
theorem dX0_greediest_64 : decode cX0_greediest 64 = .ok (.aload 7, 2) := by decide +kernel
theorem dX0_greediest_66 : decode cX0_greediest 66 = .ok (.iload_n 3, 1) := by decide +kernel
theorem dX0_greediest_67 : decode cX0_greediest 67 = .ok (.iload 8, 2) := by decide +kernel
theorem dX0_greediest_69 : decode cX0_greediest 69 = .ok (.invokevirtual 70, 3) := by decide +kernel
theorem dX0_greediest_72 : decode cX0_greediest 72 = .ok (.aaload, 1) := by decide +kernel
theorem dX0_greediest_73 : decode cX0_greediest 73 = .ok (.getfield 77, 3) := by decide +kernel
theorem dX0_greediest_76 : decode cX0_greediest 76 = .ok (.aload 7, 2) := by decide +kernel
theorem dX0_greediest_78 : decode cX0_greediest 78 = .ok (.getfield 77, 3) := by decide +kernel
theorem dX0_greediest_81 : decode cX0_greediest 81 = .ok (.isub, 1) := by decide +kernel
theorem dX0_greediest_82 : decode cX0_greediest 82 = .ok (.imul, 1) := by decide +kernel
theorem dX0_greediest_83 : decode cX0_greediest 83 = .ok (.istore 9, 2) := by decide +kernel
theorem dX0_greediest_85 : decode cX0_greediest 85 = .ok (.iload 9, 2) := by decide +kernel
theorem dX0_greediest_87 : decode cX0_greediest 87 = .ok (.iload 4, 2) := by decide +kernel
theorem dX0_greediest_89 : decode cX0_greediest 89 = .ok (.if_icmp .le 17, 3) := by decide +kernel
theorem dX0_greediest_92 : decode cX0_greediest 92 = .ok (.iload 9, 2) := by decide +kernel
theorem dX0_greediest_94 : decode cX0_greediest 94 = .ok (.istore 4, 2) := by decide +kernel
theorem dX0_greediest_96 : decode cX0_greediest 96 = .ok (.bipush 100, 2) := by decide +kernel
theorem dX0_greediest_98 : decode cX0_greediest 98 = .ok (.iload 6, 2) := by decide +kernel
theorem dX0_greediest_100 : decode cX0_greediest 100 = .ok (.imul, 1) := by decide +kernel
theorem dX0_greediest_101 : decode cX0_greediest 101 = .ok (.iload 8, 2) := by decide +kernel
theorem dX0_greediest_103 : decode cX0_greediest 103 = .ok (.iadd, 1) := by decide +kernel
theorem dX0_greediest_104 : decode cX0_greediest 104 = .ok (.istore 5, 2) := by decide +kernel
theorem dX0_greediest_106 : decode cX0_greediest 106 = .ok (.iinc 8 1, 3) := by decide +kernel
theorem dX0_greediest_109 : decode cX0_greediest 109 = .ok (.goto (-76), 3) := by decide +kernel
theorem dX0_greediest_112 : decode cX0_greediest 112 = .ok (.iinc 6 1, 3) := by decide +kernel
theorem dX0_greediest_115 : decode cX0_greediest 115 = .ok (.goto (-105), 3) := by decide +kernel
theorem dX0_greediest_118 : decode cX0_greediest 118 = .ok (.iload 5, 2) := by decide +kernel
theorem dX0_greediest_120 : decode cX0_greediest 120 = .ok (.ireturn, 1) := by decide +kernel
theorem dX0_optimal_0 : decode cX0_optimal 0 = .ok (.aload_n 0, 1) := by decide +kernel
theorem dX0_optimal_1 : decode cX0_optimal 1 = .ok (.getfield 15, 3) := by decide +kernel
theorem dX0_optimal_4 : decode cX0_optimal 4 = .ok (.aload_n 1, 1) := by decide +kernel
theorem dX0_optimal_5 : decode cX0_optimal 5 = .ok (.iload_n 2, 1) := by decide +kernel
theorem dX0_optimal_6 : decode cX0_optimal 6 = .ok (.iload_n 3, 1) := by decide +kernel
theorem dX0_optimal_7 : decode cX0_optimal 7 = .ok (.invokevirtual 80, 3) := by decide +kernel
theorem dX0_optimal_10 : decode cX0_optimal 10 = .ok (.istore 4, 2) := by decide +kernel
theorem dX0_optimal_12 : decode cX0_optimal 12 = .ok (.iconst 0, 1) := by decide +kernel
theorem dX0_optimal_13 : decode cX0_optimal 13 = .ok (.istore 5, 2) := by decide +kernel
theorem dX0_optimal_15 : decode cX0_optimal 15 = .ok (.iload 5, 2) := by decide +kernel
theorem dX0_optimal_17 : decode cX0_optimal 17 = .ok (.iload_n 2, 1) := by decide +kernel
theorem dX0_optimal_18 : decode cX0_optimal 18 = .ok (.if_icmp .ge 104, 3) := by decide +kernel
theorem dX0_optimal_21 : decode cX0_optimal 21 = .ok (.aload_n 1, 1) := by decide +kernel
theorem dX0_optimal_22 : decode cX0_optimal 22 = .ok (.iload 5, 2) := by decide +kernel
theorem dX0_optimal_24 : decode cX0_optimal 24 = .ok (.iaload, 1) := by decide +kernel
theorem dX0_optimal_25 : decode cX0_optimal 25 = .ok (.istore 6, 2) := by decide +kernel
theorem dX0_optimal_27 : decode cX0_optimal 27 = .ok (.aload_n 0, 1) := by decide +kernel
theorem dX0_optimal_28 : decode cX0_optimal 28 = .ok (.getfield 9, 3) := by decide +kernel
theorem dX0_optimal_31 : decode cX0_optimal 31 = .ok (.getfield 33, 3) := by decide +kernel
theorem dX0_optimal_34 : decode cX0_optimal 34 = .ok (.iload 6, 2) := by decide +kernel
theorem dX0_optimal_36 : decode cX0_optimal 36 = .ok (.aaload, 1) := by decide +kernel
theorem dX0_optimal_37 : decode cX0_optimal 37 = .ok (.astore 7, 2) := by decide +kernel
theorem dX0_optimal_39 : decode cX0_optimal 39 = .ok (.iconst 0, 1) := by decide +kernel
theorem dX0_optimal_40 : decode cX0_optimal 40 = .ok (.istore 8, 2) := by decide +kernel
theorem dX0_optimal_42 : decode cX0_optimal 42 = .ok (.iload 8, 2) := by decide +kernel
theorem dX0_optimal_44 : decode cX0_optimal 44 = .ok (.aload 7, 2) := by decide +kernel
theorem dX0_optimal_46 : decode cX0_optimal 46 = .ok (.getfield 62, 3) := by decide +kernel
theorem dX0_optimal_49 : decode cX0_optimal 49 = .ok (.iload_n 3, 1) := by decide +kernel
theorem dX0_optimal_50 : decode cX0_optimal 50 = .ok (.iaload, 1) := by decide +kernel
theorem dX0_optimal_51 : decode cX0_optimal 51 = .ok (.if_icmp .ge 65, 3) := by decide +kernel
theorem dX0_optimal_54 : decode cX0_optimal 54 = .ok (.aload 7, 2) := by decide +kernel
theorem dX0_optimal_56 : decode cX0_optimal 56 = .ok (.getfield 39, 3) := by decide +kernel
theorem dX0_optimal_59 : decode cX0_optimal 59 = .ok (.ifCond .ne 57, 3) := by decide +kernel
theorem dX0_optimal_62 : decode cX0_optimal 62 = .ok (.aload_n 1, 1) := by decide +kernel
theorem dX0_optimal_63 : decode cX0_optimal 63 = .ok (.iload 5, 2) := by decide +kernel
theorem dX0_optimal_65 : decode cX0_optimal 65 = .ok (.aload 7, 2) := by decide +kernel
theorem dX0_optimal_67 : decode cX0_optimal 67 = .ok (.iload_n 3, 1) := by decide +kernel
theorem dX0_optimal_68 : decode cX0_optimal 68 = .ok (.iload 8, 2) := by decide +kernel
theorem dX0_optimal_70 : decode cX0_optimal 70 = .ok (.invokevirtual 70, 3) := by decide +kernel
theorem dX0_optimal_73 : decode cX0_optimal 73 = .ok (.iastore, 1) := by decide +kernel
theorem dX0_optimal_74 : decode cX0_optimal 74 = .ok (.aload_n 0, 1) := by decide +kernel
theorem dX0_optimal_75 : decode cX0_optimal 75 = .ok (.getfield 15, 3) := by decide +kernel
theorem dX0_optimal_78 : decode cX0_optimal 78 = .ok (.aload_n 1, 1) := by decide +kernel
theorem dX0_optimal_79 : decode cX0_optimal 79 = .ok (.iload_n 2, 1) := by decide +kernel
theorem dX0_optimal_80 : decode cX0_optimal 80 = .ok (.iconst 1, 1) := by decide +kernel
theorem dX0_optimal_81 : decode cX0_optimal 81 = .ok (.iload_n 3, 1) := by decide +kernel
theorem dX0_optimal_82 : decode cX0_optimal 82 = .ok (.isub, 1) := by decide +kernel
theorem dX0_optimal_83 : decode cX0_optimal 83 = .ok (.invokevirtual 80, 3) := by decide +kernel
theorem dX0_optimal_86 : decode cX0_optimal 86 = .ok (.istore 9, 2) := by decide +kernel
theorem dX0_optimal_88 : decode cX0_optimal 88 = .ok (.aload_n 1, 1) := by decide +kernel
theorem dX0_optimal_89 : decode cX0_optimal 89 = .ok (.iload 5, 2) := by decide +kernel
theorem dX0_optimal_91 : decode cX0_optimal 91 = .ok (.iload 6, 2) := by decide +kernel
theorem dX0_optimal_93 : decode cX0_optimal 93 = .ok (.iastore, 1) := by decide +kernel
theorem dX0_optimal_94 : decode cX0_optimal 94 = .ok (.iload 9, 2) := by decide +kernel
theorem dX0_optimal_96 : decode cX0_optimal 96 = .ok (.iload 4, 2) := by decide +kernel
theorem dX0_optimal_98 : decode cX0_optimal 98 = .ok (.if_icmp .ne 12, 3) := by decide +kernel
theorem dX0_optimal_101 : decode cX0_optimal 101 = .ok (.bipush 100, 2) := by decide +kernel
theorem dX0_optimal_103 : decode cX0_optimal 103 = .ok (.iload 5, 2) := by decide +kernel
theorem dX0_optimal_105 : decode cX0_optimal 105 = .ok (.imul, 1) := by decide +kernel
theorem dX0_optimal_106 : decode cX0_optimal 106 = .ok (.iload 8, 2) := by decide +kernel
theorem dX0_optimal_108 : decode cX0_optimal 108 = .ok (.iadd, 1) := by decide +kernel
theorem dX0_optimal_109 : decode cX0_optimal 109 = .ok (.ireturn, 1) := by decide +kernel
theorem dX0_optimal_110 : decode cX0_optimal 110 = .ok (.iinc 8 1, 3) := by decide +kernel
theorem dX0_optimal_113 : decode cX0_optimal 113 = .ok (.goto (-71), 3) := by decide +kernel
theorem dX0_optimal_116 : decode cX0_optimal 116 = .ok (.iinc 5 1, 3) := by decide +kernel
theorem dX0_optimal_119 : decode cX0_optimal 119 = .ok (.goto (-104), 3) := by decide +kernel
theorem dX0_optimal_122 : decode cX0_optimal 122 = .ok (.iconst (-1), 1) := by decide +kernel
theorem dX0_optimal_123 : decode cX0_optimal 123 = .ok (.ireturn, 1) := by decide +kernel
theorem dX1_init_0 : decode cX1_init 0 = .ok (.aload_n 0, 1) := by decide +kernel
theorem dX1_init_1 : decode cX1_init 1 = .ok (.invokespecial 3, 3) := by decide +kernel
theorem dX1_init_4 : decode cX1_init 4 = .ok (.aload_n 0, 1) := by decide +kernel
theorem dX1_init_5 : decode cX1_init 5 = .ok (.bipush 80, 2) := by decide +kernel
theorem dX1_init_7 : decode cX1_init 7 = .ok (.newarray .long, 2) := by decide +kernel
theorem dX1_init_9 : decode cX1_init 9 = .ok (.putfield 9, 3) := by decide +kernel
theorem dX1_init_12 : decode cX1_init 12 = .ok (.aload_n 0, 1) := by decide +kernel
theorem dX1_init_13 : decode cX1_init 13 = .ok (.bipush 80, 2) := by decide +kernel
theorem dX1_init_15 : decode cX1_init 15 = .ok (.newarray .long, 2) := by decide +kernel
theorem dX1_init_17 : decode cX1_init 17 = .ok (.putfield 15, 3) := by decide +kernel
theorem dX1_init_20 : decode cX1_init 20 = .ok (.aload_n 0, 1) := by decide +kernel
theorem dX1_init_21 : decode cX1_init 21 = .ok (.bipush 80, 2) := by decide +kernel
theorem dX1_init_23 : decode cX1_init 23 = .ok (.newarray .boolean, 2) := by decide +kernel
theorem dX1_init_25 : decode cX1_init 25 = .ok (.putfield 18, 3) := by decide +kernel
theorem dX1_init_28 : decode cX1_init 28 = .ok (.aload_n 0, 1) := by decide +kernel
theorem dX1_init_29 : decode cX1_init 29 = .ok (.bipush 40, 2) := by decide +kernel
theorem dX1_init_31 : decode cX1_init 31 = .ok (.newarray .int, 2) := by decide +kernel
theorem dX1_init_33 : decode cX1_init 33 = .ok (.putfield 22, 3) := by decide +kernel
theorem dX1_init_36 : decode cX1_init 36 = .ok (.aload_n 0, 1) := by decide +kernel
theorem dX1_init_37 : decode cX1_init 37 = .ok (.aload_n 1, 1) := by decide +kernel
theorem dX1_init_38 : decode cX1_init 38 = .ok (.putfield 26, 3) := by decide +kernel
theorem dX1_init_41 : decode cX1_init 41 = .ok (.return_, 1) := by decide +kernel
theorem dX1_negate_0 : decode cX1_negate 0 = .ok (.aload_n 0, 1) := by decide +kernel
theorem dX1_negate_1 : decode cX1_negate 1 = .ok (.getfield 26, 3) := by decide +kernel
theorem dX1_negate_4 : decode cX1_negate 4 = .ok (.getfield 30, 3) := by decide +kernel
theorem dX1_negate_7 : decode cX1_negate 7 = .ok (.iload_n 1, 1) := by decide +kernel
theorem dX1_negate_8 : decode cX1_negate 8 = .ok (.aaload, 1) := by decide +kernel
theorem dX1_negate_9 : decode cX1_negate 9 = .ok (.getfield 36, 3) := by decide +kernel
theorem dX1_negate_12 : decode cX1_negate 12 = .ok (.lstore_n 2, 1) := by decide +kernel
theorem dX1_negate_13 : decode cX1_negate 13 = .ok (.iconst 0, 1) := by decide +kernel
theorem dX1_negate_14 : decode cX1_negate 14 = .ok (.istore 4, 2) := by decide +kernel
theorem dX1_negate_16 : decode cX1_negate 16 = .ok (.iload 4, 2) := by decide +kernel
theorem dX1_negate_18 : decode cX1_negate 18 = .ok (.iload_n 1, 1) := by decide +kernel
theorem dX1_negate_19 : decode cX1_negate 19 = .ok (.if_icmp .gt 51, 3) := by decide +kernel
theorem dX1_negate_22 : decode cX1_negate 22 = .ok (.lload_n 2, 1) := by decide +kernel
theorem dX1_negate_23 : decode cX1_negate 23 = .ok (.iload 4, 2) := by decide +kernel
theorem dX1_negate_25 : decode cX1_negate 25 = .ok (.invokestatic 42, 3) := by decide +kernel
theorem dX1_negate_28 : decode cX1_negate 28 = .ok (.ifCond .eq 36, 3) := by decide +kernel
theorem dX1_negate_31 : decode cX1_negate 31 = .ok (.aload_n 0, 1) := by decide +kernel
theorem dX1_negate_32 : decode cX1_negate 32 = .ok (.aload_n 0, 1) := by decide +kernel
theorem dX1_negate_33 : decode cX1_negate 33 = .ok (.getfield 26, 3) := by decide +kernel
theorem dX1_negate_36 : decode cX1_negate 36 = .ok (.getfield 30, 3) := by decide +kernel
theorem dX1_negate_39 : decode cX1_negate 39 = .ok (.iload 4, 2) := by decide +kernel
theorem dX1_negate_41 : decode cX1_negate 41 = .ok (.aaload, 1) := by decide +kernel
theorem dX1_negate_42 : decode cX1_negate 42 = .ok (.invokevirtual 46, 3) := by decide +kernel
theorem dX1_negate_45 : decode cX1_negate 45 = .ok (.istore 5, 2) := by decide +kernel
theorem dX1_negate_47 : decode cX1_negate 47 = .ok (.iload 5, 2) := by decide +kernel
theorem dX1_negate_49 : decode cX1_negate 49 = .ok (.iconst (-1), 1) := by decide +kernel
theorem dX1_negate_50 : decode cX1_negate 50 = .ok (.if_icmp .ne 5, 3) := by decide +kernel
theorem dX1_negate_53 : decode cX1_negate 53 = .ok (.iconst (-1), 1) := by decide +kernel
theorem dX1_negate_54 : decode cX1_negate 54 = .ok (.ireturn, 1) := by decide +kernel
theorem dX1_negate_55 : decode cX1_negate 55 = .ok (.aload_n 0, 1) := by decide +kernel
theorem dX1_negate_56 : decode cX1_negate 56 = .ok (.getfield 22, 3) := by decide +kernel
theorem dX1_negate_59 : decode cX1_negate 59 = .ok (.iload 4, 2) := by decide +kernel
theorem dX1_negate_61 : decode cX1_negate 61 = .ok (.iload 5, 2) := by decide +kernel
theorem dX1_negate_63 : decode cX1_negate 63 = .ok (.iastore, 1) := by decide +kernel
theorem dX1_negate_64 : decode cX1_negate 64 = .ok (.iinc 4 1, 3) := by decide +kernel
theorem dX1_negate_67 : decode cX1_negate 67 = .ok (.goto (-51), 3) := by decide +kernel
theorem dX1_negate_70 : decode cX1_negate 70 = .ok (.aload_n 0, 1) := by decide +kernel
theorem dX1_negate_71 : decode cX1_negate 71 = .ok (.getfield 22, 3) := by decide +kernel
theorem dX1_negate_74 : decode cX1_negate 74 = .ok (.iload_n 1, 1) := by decide +kernel
theorem dX1_negate_75 : decode cX1_negate 75 = .ok (.iaload, 1) := by decide +kernel
theorem dX1_negate_76 : decode cX1_negate 76 = .ok (.ireturn, 1) := by decide +kernel
theorem dX1_negateOne_0 : decode cX1_negateOne 0 = .ok (.aload_n 1, 1) := by decide +kernel
theorem dX1_negateOne_1 : decode cX1_negateOne 1 = .ok (.getfield 50, 3) := by decide +kernel
theorem dX1_negateOne_4 : decode cX1_negateOne 4 = .ok (.ifCond .ne 16, 3) := by decide +kernel
theorem dX1_negateOne_7 : decode cX1_negateOne 7 = .ok (.aload_n 0, 1) := by decide +kernel
theorem dX1_negateOne_8 : decode cX1_negateOne 8 = .ok (.getfield 26, 3) := by decide +kernel
theorem dX1_negateOne_11 : decode cX1_negateOne 11 = .ok (.aload_n 1, 1) := by decide +kernel
theorem dX1_negateOne_12 : decode cX1_negateOne 12 = .ok (.getfield 54, 3) := by decide +kernel
theorem dX1_negateOne_15 : decode cX1_negateOne 15 = .ok (.ineg, 1) := by decide +kernel
theorem dX1_negateOne_16 : decode cX1_negateOne 16 = .ok (.invokevirtual 58, 3) := by decide +kernel
theorem dX1_negateOne_19 : decode cX1_negateOne 19 = .ok (.ireturn, 1) := by decide +kernel
theorem dX1_negateOne_20 : decode cX1_negateOne 20 = .ok (.aload_n 0, 1) := by decide +kernel
theorem dX1_negateOne_21 : decode cX1_negateOne 21 = .ok (.getfield 26, 3) := by decide +kernel
theorem dX1_negateOne_24 : decode cX1_negateOne 24 = .ok (.aload_n 0, 1) := by decide +kernel
theorem dX1_negateOne_25 : decode cX1_negateOne 25 = .ok (.aload_n 1, 1) := by decide +kernel
theorem dX1_negateOne_26 : decode cX1_negateOne 26 = .ok (.iconst 1, 1) := by decide +kernel
theorem dX1_negateOne_27 : decode cX1_negateOne 27 = .ok (.invokevirtual 62, 3) := by decide +kernel
theorem dX1_negateOne_30 : decode cX1_negateOne 30 = .ok (.aload_n 0, 1) := by decide +kernel
theorem dX1_negateOne_31 : decode cX1_negateOne 31 = .ok (.aload_n 1, 1) := by decide +kernel
theorem dX1_negateOne_32 : decode cX1_negateOne 32 = .ok (.iconst 0, 1) := by decide +kernel
theorem dX1_negateOne_33 : decode cX1_negateOne 33 = .ok (.invokevirtual 62, 3) := by decide +kernel
theorem dX1_negateOne_36 : decode cX1_negateOne 36 = .ok (.invokevirtual 66, 3) := by decide +kernel
theorem dX1_negateOne_39 : decode cX1_negateOne 39 = .ok (.ireturn, 1) := by decide +kernel
theorem dX1_negated_0 : decode cX1_negated 0 = .ok (.lconst 0, 1) := by decide +kernel
theorem dX1_negated_1 : decode cX1_negated 1 = .ok (.lstore_n 3, 1) := by decide +kernel
theorem dX1_negated_2 : decode cX1_negated 2 = .ok (.iconst 0, 1) := by decide +kernel
theorem dX1_negated_3 : decode cX1_negated 3 = .ok (.istore 5, 2) := by decide +kernel
theorem dX1_negated_5 : decode cX1_negated 5 = .ok (.iload 5, 2) := by decide +kernel
theorem dX1_negated_7 : decode cX1_negated 7 = .ok (.aload_n 1, 1) := by decide +kernel
theorem dX1_negated_8 : decode cX1_negated 8 = .ok (.getfield 70, 3) := by decide +kernel
theorem dX1_negated_11 : decode cX1_negated 11 = .ok (.iload_n 2, 1) := by decide +kernel
theorem dX1_negated_12 : decode cX1_negated 12 = .ok (.iaload, 1) := by decide +kernel
theorem dX1_negated_13 : decode cX1_negated 13 = .ok (.if_icmp .ge 27, 3) := by decide +kernel
theorem dX1_negated_16 : decode cX1_negated 16 = .ok (.lload_n 3, 1) := by decide +kernel
theorem dX1_negated_17 : decode cX1_negated 17 = .ok (.aload_n 0, 1) := by decide +kernel
theorem dX1_negated_18 : decode cX1_negated 18 = .ok (.getfield 22, 3) := by decide +kernel
theorem dX1_negated_21 : decode cX1_negated 21 = .ok (.aload_n 1, 1) := by decide +kernel
theorem dX1_negated_22 : decode cX1_negated 22 = .ok (.iload_n 2, 1) := by decide +kernel
theorem dX1_negated_23 : decode cX1_negated 23 = .ok (.iload 5, 2) := by decide +kernel
theorem dX1_negated_25 : decode cX1_negated 25 = .ok (.invokevirtual 73, 3) := by decide +kernel
theorem dX1_negated_28 : decode cX1_negated 28 = .ok (.iaload, 1) := by decide +kernel
theorem dX1_negated_29 : decode cX1_negated 29 = .ok (.invokestatic 77, 3) := by decide +kernel
theorem dX1_negated_32 : decode cX1_negated 32 = .ok (.lor, 1) := by decide +kernel
theorem dX1_negated_33 : decode cX1_negated 33 = .ok (.lstore_n 3, 1) := by decide +kernel
theorem dX1_negated_34 : decode cX1_negated 34 = .ok (.iinc 5 1, 3) := by decide +kernel
theorem dX1_negated_37 : decode cX1_negated 37 = .ok (.goto (-32), 3) := by decide +kernel
theorem dX1_negated_40 : decode cX1_negated 40 = .ok (.lload_n 3, 1) := by decide +kernel
theorem dX1_negated_41 : decode cX1_negated 41 = .ok (.lreturn, 1) := by decide +kernel
theorem dX1_build_0 : decode cX1_build 0 = .ok (.iconst 0, 1) := by decide +kernel
theorem dX1_build_1 : decode cX1_build 1 = .ok (.istore_n 3, 1) := by decide +kernel
theorem dX1_build_2 : decode cX1_build 2 = .ok (.iconst (-1), 1) := by decide +kernel
theorem dX1_build_3 : decode cX1_build 3 = .ok (.istore 4, 2) := by decide +kernel
theorem dX1_build_5 : decode cX1_build 5 = .ok (.iconst 0, 1) := by decide +kernel
theorem dX1_build_6 : decode cX1_build 6 = .ok (.istore 5, 2) := by decide +kernel
theorem dX1_build_8 : decode cX1_build 8 = .ok (.iload 5, 2) := by decide +kernel
theorem dX1_build_10 : decode cX1_build 10 = .ok (.iload_n 2, 1) := by decide +kernel
theorem dX1_build_11 : decode cX1_build 11 = .ok (.if_icmp .ge 148, 3) := by decide +kernel
theorem dX1_build_14 : decode cX1_build 14 = .ok (.aload_n 1, 1) := by decide +kernel
theorem dX1_build_15 : decode cX1_build 15 = .ok (.iload 5, 2) := by decide +kernel
theorem dX1_build_17 : decode cX1_build 17 = .ok (.iaload, 1) := by decide +kernel
theorem dX1_build_18 : decode cX1_build 18 = .ok (.istore 6, 2) := by decide +kernel
theorem dX1_build_20 : decode cX1_build 20 = .ok (.iload 6, 2) := by decide +kernel
theorem dX1_build_22 : decode cX1_build 22 = .ok (.bipush 100, 2) := by decide +kernel
theorem dX1_build_24 : decode cX1_build 24 = .ok (.if_icmp .ne 20, 3) := by decide +kernel
theorem dX1_build_27 : decode cX1_build 27 = .ok (.iload_n 3, 1) := by decide +kernel
theorem dX1_build_28 : decode cX1_build 28 = .ok (.bipush 80, 2) := by decide +kernel
theorem dX1_build_30 : decode cX1_build 30 = .ok (.if_icmp .ge 14, 3) := by decide +kernel
theorem dX1_build_33 : decode cX1_build 33 = .ok (.aload_n 0, 1) := by decide +kernel
theorem dX1_build_34 : decode cX1_build 34 = .ok (.iload_n 3, 1) := by decide +kernel
theorem dX1_build_35 : decode cX1_build 35 = .ok (.invokevirtual 83, 3) := by decide +kernel
theorem dX1_build_38 : decode cX1_build 38 = .ok (.iinc 3 1, 3) := by decide +kernel
theorem dX1_build_41 : decode cX1_build 41 = .ok (.goto 112, 3) := by decide +kernel
theorem dX1_build_44 : decode cX1_build 44 = .ok (.iload 6, 2) := by decide +kernel
theorem dX1_build_46 : decode cX1_build 46 = .ok (.bipush 101, 2) := by decide +kernel
theorem dX1_build_48 : decode cX1_build 48 = .ok (.if_icmp .ne 19, 3) := by decide +kernel
theorem dX1_build_51 : decode cX1_build 51 = .ok (.iload_n 3, 1) := by decide +kernel
theorem dX1_build_52 : decode cX1_build 52 = .ok (.ifCond .le 15, 3) := by decide +kernel
theorem dX1_build_55 : decode cX1_build 55 = .ok (.aload_n 0, 1) := by decide +kernel
theorem dX1_build_56 : decode cX1_build 56 = .ok (.getfield 18, 3) := by decide +kernel
theorem dX1_build_59 : decode cX1_build 59 = .ok (.iload_n 3, 1) := by decide +kernel
theorem dX1_build_60 : decode cX1_build 60 = .ok (.iconst 1, 1) := by decide +kernel
theorem dX1_build_61 : decode cX1_build 61 = .ok (.isub, 1) := by decide +kernel
theorem dX1_build_62 : decode cX1_build 62 = .ok (.iconst 1, 1) := by decide +kernel
theorem dX1_build_63 : decode cX1_build 63 = .ok (.bastore, 1) := by decide +kernel
theorem dX1_build_64 : decode cX1_build 64 = .ok (.goto 89, 3) := by decide +kernel
theorem dX1_build_67 : decode cX1_build 67 = .ok (.iload 6, 2) := by decide +kernel
theorem dX1_build_69 : decode cX1_build 69 = .ok (.bipush 102, 2) := by decide +kernel
theorem dX1_build_71 : decode cX1_build 71 = .ok (.if_icmp .ne 11, 3) := by decide +kernel
theorem dX1_build_74 : decode cX1_build 74 = .ok (.iload_n 3, 1) := by decide +kernel
theorem dX1_build_75 : decode cX1_build 75 = .ok (.ifCond .le 7, 3) := by decide +kernel
theorem dX1_build_78 : decode cX1_build 78 = .ok (.iconst 1, 1) := by decide +kernel
theorem dX1_build_79 : decode cX1_build 79 = .ok (.goto 4, 3) := by decide +kernel
theorem dX1_build_82 : decode cX1_build 82 = .ok (.iconst 0, 1) := by decide +kernel
theorem dX1_build_83 : decode cX1_build 83 = .ok (.istore 7, 2) := by decide +kernel
theorem dX1_build_85 : decode cX1_build 85 = .ok (.iload_n 3, 1) := by decide +kernel
theorem dX1_build_86 : decode cX1_build 86 = .ok (.iload 7, 2) := by decide +kernel
theorem dX1_build_88 : decode cX1_build 88 = .ok (.ifCond .eq 7, 3) := by decide +kernel
theorem dX1_build_91 : decode cX1_build 91 = .ok (.iconst 1, 1) := by decide +kernel
theorem dX1_build_92 : decode cX1_build 92 = .ok (.goto 4, 3) := by decide +kernel
theorem dX1_build_95 : decode cX1_build 95 = .ok (.iconst 0, 1) := by decide +kernel
theorem dX1_build_96 : decode cX1_build 96 = .ok (.isub, 1) := by decide +kernel
theorem dX1_build_97 : decode cX1_build 97 = .ok (.istore_n 3, 1) := by decide +kernel
theorem dX1_build_98 : decode cX1_build 98 = .ok (.iload 7, 2) := by decide +kernel
theorem dX1_build_100 : decode cX1_build 100 = .ok (.ifCond .eq 25, 3) := by decide +kernel
theorem dX1_build_103 : decode cX1_build 103 = .ok (.aload_n 0, 1) := by decide +kernel
theorem dX1_build_104 : decode cX1_build 104 = .ok (.getfield 26, 3) := by decide +kernel
theorem dX1_build_107 : decode cX1_build 107 = .ok (.aload_n 0, 1) := by decide +kernel
theorem dX1_build_108 : decode cX1_build 108 = .ok (.getfield 9, 3) := by decide +kernel
theorem dX1_build_111 : decode cX1_build 111 = .ok (.iload_n 3, 1) := by decide +kernel
theorem dX1_build_112 : decode cX1_build 112 = .ok (.laload, 1) := by decide +kernel
theorem dX1_build_113 : decode cX1_build 113 = .ok (.aload_n 0, 1) := by decide +kernel
theorem dX1_build_114 : decode cX1_build 114 = .ok (.getfield 15, 3) := by decide +kernel
theorem dX1_build_117 : decode cX1_build 117 = .ok (.iload_n 3, 1) := by decide +kernel
theorem dX1_build_118 : decode cX1_build 118 = .ok (.laload, 1) := by decide +kernel
theorem dX1_build_119 : decode cX1_build 119 = .ok (.invokevirtual 66, 3) := by decide +kernel
theorem dX1_build_122 : decode cX1_build 122 = .ok (.goto 12, 3) := by decide +kernel
theorem dX1_build_125 : decode cX1_build 125 = .ok (.aload_n 0, 1) := by decide +kernel
theorem dX1_build_126 : decode cX1_build 126 = .ok (.getfield 26, 3) := by decide +kernel
theorem dX1_build_129 : decode cX1_build 129 = .ok (.iload 6, 2) := by decide +kernel
theorem dX1_build_131 : decode cX1_build 131 = .ok (.invokevirtual 58, 3) := by decide +kernel
theorem dX1_build_134 : decode cX1_build 134 = .ok (.istore 4, 2) := by decide +kernel
theorem dX1_build_136 : decode cX1_build 136 = .ok (.iload 4, 2) := by decide +kernel
theorem dX1_build_138 : decode cX1_build 138 = .ok (.iconst (-1), 1) := by decide +kernel
theorem dX1_build_139 : decode cX1_build 139 = .ok (.if_icmp .ne 5, 3) := by decide +kernel
theorem dX1_build_142 : decode cX1_build 142 = .ok (.iconst (-1), 1) := by decide +kernel
theorem dX1_build_143 : decode cX1_build 143 = .ok (.ireturn, 1) := by decide +kernel
theorem dX1_build_144 : decode cX1_build 144 = .ok (.aload_n 0, 1) := by decide +kernel
theorem dX1_build_145 : decode cX1_build 145 = .ok (.iload_n 3, 1) := by decide +kernel
theorem dX1_build_146 : decode cX1_build 146 = .ok (.iconst 1, 1) := by decide +kernel
theorem dX1_build_147 : decode cX1_build 147 = .ok (.isub, 1) := by decide +kernel
theorem dX1_build_148 : decode cX1_build 148 = .ok (.iload 4, 2) := by decide +kernel
theorem dX1_build_150 : decode cX1_build 150 = .ok (.invokevirtual 87, 3) := by decide +kernel
theorem dX1_build_153 : decode cX1_build 153 = .ok (.iinc 5 1, 3) := by decide +kernel
theorem dX1_build_156 : decode cX1_build 156 = .ok (.goto (-148), 3) := by decide +kernel
theorem dX1_build_159 : decode cX1_build 159 = .ok (.iload 4, 2) := by decide +kernel
theorem dX1_build_161 : decode cX1_build 161 = .ok (.ireturn, 1) := by decide +kernel
theorem dX1_openAt_0 : decode cX1_openAt 0 = .ok (.aload_n 0, 1) := by decide +kernel
theorem dX1_openAt_1 : decode cX1_openAt 1 = .ok (.getfield 9, 3) := by decide +kernel
theorem dX1_openAt_4 : decode cX1_openAt 4 = .ok (.iload_n 1, 1) := by decide +kernel
theorem dX1_openAt_5 : decode cX1_openAt 5 = .ok (.lconst 0, 1) := by decide +kernel
theorem dX1_openAt_6 : decode cX1_openAt 6 = .ok (.lastore, 1) := by decide +kernel
theorem dX1_openAt_7 : decode cX1_openAt 7 = .ok (.aload_n 0, 1) := by decide +kernel
theorem dX1_openAt_8 : decode cX1_openAt 8 = .ok (.getfield 15, 3) := by decide +kernel
theorem dX1_openAt_11 : decode cX1_openAt 11 = .ok (.iload_n 1, 1) := by decide +kernel
theorem dX1_openAt_12 : decode cX1_openAt 12 = .ok (.lconst 0, 1) := by decide +kernel
theorem dX1_openAt_13 : decode cX1_openAt 13 = .ok (.lastore, 1) := by decide +kernel
theorem dX1_openAt_14 : decode cX1_openAt 14 = .ok (.aload_n 0, 1) := by decide +kernel
theorem dX1_openAt_15 : decode cX1_openAt 15 = .ok (.getfield 18, 3) := by decide +kernel
theorem dX1_openAt_18 : decode cX1_openAt 18 = .ok (.iload_n 1, 1) := by decide +kernel
theorem dX1_openAt_19 : decode cX1_openAt 19 = .ok (.iconst 0, 1) := by decide +kernel
theorem dX1_openAt_20 : decode cX1_openAt 20 = .ok (.bastore, 1) := by decide +kernel
theorem dX1_openAt_21 : decode cX1_openAt 21 = .ok (.return_, 1) := by decide +kernel
theorem dX1_giveTo_0 : decode cX1_giveTo 0 = .ok (.iload_n 1, 1) := by decide +kernel
theorem dX1_giveTo_1 : decode cX1_giveTo 1 = .ok (.ifCond .lt 28, 3) := by decide +kernel
theorem dX1_giveTo_4 : decode cX1_giveTo 4 = .ok (.aload_n 0, 1) := by decide +kernel
theorem dX1_giveTo_5 : decode cX1_giveTo 5 = .ok (.getfield 18, 3) := by decide +kernel
theorem dX1_giveTo_8 : decode cX1_giveTo 8 = .ok (.iload_n 1, 1) := by decide +kernel
theorem dX1_giveTo_9 : decode cX1_giveTo 9 = .ok (.baload, 1) := by decide +kernel
theorem dX1_giveTo_10 : decode cX1_giveTo 10 = .ok (.ifCond .eq 19, 3) := by decide +kernel
theorem dX1_giveTo_13 : decode cX1_giveTo 13 = .ok (.aload_n 0, 1) := by decide +kernel
theorem dX1_giveTo_14 : decode cX1_giveTo 14 = .ok (.getfield 15, 3) := by decide +kernel
theorem dX1_giveTo_17 : decode cX1_giveTo 17 = .ok (.iload_n 1, 1) := by decide +kernel
theorem dX1_giveTo_18 : decode cX1_giveTo 18 = .ok (.dup2, 1) := by decide +kernel
theorem dX1_giveTo_19 : decode cX1_giveTo 19 = .ok (.laload, 1) := by decide +kernel
theorem dX1_giveTo_20 : decode cX1_giveTo 20 = .ok (.iload_n 2, 1) := by decide +kernel
theorem dX1_giveTo_21 : decode cX1_giveTo 21 = .ok (.invokestatic 77, 3) := by decide +kernel
theorem dX1_giveTo_24 : decode cX1_giveTo 24 = .ok (.lor, 1) := by decide +kernel
theorem dX1_giveTo_25 : decode cX1_giveTo 25 = .ok (.lastore, 1) := by decide +kernel
theorem dX1_giveTo_26 : decode cX1_giveTo 26 = .ok (.goto 20, 3) := by decide +kernel
theorem dX1_giveTo_29 : decode cX1_giveTo 29 = .ok (.iload_n 1, 1) := by decide +kernel
theorem dX1_giveTo_30 : decode cX1_giveTo 30 = .ok (.ifCond .lt 16, 3) := by decide +kernel
theorem dX1_giveTo_33 : decode cX1_giveTo 33 = .ok (.aload_n 0, 1) := by decide +kernel
theorem dX1_giveTo_34 : decode cX1_giveTo 34 = .ok (.getfield 9, 3) := by decide +kernel
theorem dX1_giveTo_37 : decode cX1_giveTo 37 = .ok (.iload_n 1, 1) := by decide +kernel
theorem dX1_giveTo_38 : decode cX1_giveTo 38 = .ok (.dup2, 1) := by decide +kernel
theorem dX1_giveTo_39 : decode cX1_giveTo 39 = .ok (.laload, 1) := by decide +kernel
theorem dX1_giveTo_40 : decode cX1_giveTo 40 = .ok (.iload_n 2, 1) := by decide +kernel
theorem dX1_giveTo_41 : decode cX1_giveTo 41 = .ok (.invokestatic 77, 3) := by decide +kernel
theorem dX1_giveTo_44 : decode cX1_giveTo 44 = .ok (.lor, 1) := by decide +kernel
theorem dX1_giveTo_45 : decode cX1_giveTo 45 = .ok (.lastore, 1) := by decide +kernel
theorem dX1_giveTo_46 : decode cX1_giveTo 46 = .ok (.return_, 1) := by decide +kernel
theorem dX2_init_0 : decode cX2_init 0 = .ok (.aload_n 0, 1) := by decide +kernel
theorem dX2_init_1 : decode cX2_init 1 = .ok (.invokespecial 3, 3) := by decide +kernel
theorem dX2_init_4 : decode cX2_init 4 = .ok (.aload_n 0, 1) := by decide +kernel
theorem dX2_init_5 : decode cX2_init 5 = .ok (.iconst 2, 1) := by decide +kernel
theorem dX2_init_6 : decode cX2_init 6 = .ok (.newarray .long, 2) := by decide +kernel
theorem dX2_init_8 : decode cX2_init 8 = .ok (.putfield 9, 3) := by decide +kernel
theorem dX2_init_11 : decode cX2_init 11 = .ok (.aload_n 0, 1) := by decide +kernel
theorem dX2_init_12 : decode cX2_init 12 = .ok (.iconst 2, 1) := by decide +kernel
theorem dX2_init_13 : decode cX2_init 13 = .ok (.newarray .int, 2) := by decide +kernel
theorem dX2_init_15 : decode cX2_init 15 = .ok (.putfield 15, 3) := by decide +kernel
theorem dX2_init_18 : decode cX2_init 18 = .ok (.aload_n 0, 1) := by decide +kernel
theorem dX2_init_19 : decode cX2_init 19 = .ok (.bipush 8, 2) := by decide +kernel
theorem dX2_init_21 : decode cX2_init 21 = .ok (.newarray .int, 2) := by decide +kernel
theorem dX2_init_23 : decode cX2_init 23 = .ok (.putfield 19, 3) := by decide +kernel
theorem dX2_init_26 : decode cX2_init 26 = .ok (.aload_n 0, 1) := by decide +kernel
theorem dX2_init_27 : decode cX2_init 27 = .ok (.iconst 2, 1) := by decide +kernel
theorem dX2_init_28 : decode cX2_init 28 = .ok (.newarray .int, 2) := by decide +kernel
theorem dX2_init_30 : decode cX2_init 30 = .ok (.putfield 22, 3) := by decide +kernel
theorem dX2_init_33 : decode cX2_init 33 = .ok (.aload_n 0, 1) := by decide +kernel
theorem dX2_init_34 : decode cX2_init 34 = .ok (.iconst 2, 1) := by decide +kernel
theorem dX2_init_35 : decode cX2_init 35 = .ok (.newarray .boolean, 2) := by decide +kernel
theorem dX2_init_37 : decode cX2_init 37 = .ok (.putfield 25, 3) := by decide +kernel
theorem dX2_init_40 : decode cX2_init 40 = .ok (.return_, 1) := by decide +kernel
theorem dX2_becomeNumber_0 : decode cX2_becomeNumber 0 = .ok (.aload_n 0, 1) := by decide +kernel
theorem dX2_becomeNumber_1 : decode cX2_becomeNumber 1 = .ok (.iconst 0, 1) := by decide +kernel
theorem dX2_becomeNumber_2 : decode cX2_becomeNumber 2 = .ok (.putfield 29, 3) := by decide +kernel
theorem dX2_becomeNumber_5 : decode cX2_becomeNumber 5 = .ok (.aload_n 0, 1) := by decide +kernel
theorem dX2_becomeNumber_6 : decode cX2_becomeNumber 6 = .ok (.iload_n 1, 1) := by decide +kernel
theorem dX2_becomeNumber_7 : decode cX2_becomeNumber 7 = .ok (.putfield 33, 3) := by decide +kernel
theorem dX2_becomeNumber_10 : decode cX2_becomeNumber 10 = .ok (.aload_n 0, 1) := by decide +kernel
theorem dX2_becomeNumber_11 : decode cX2_becomeNumber 11 = .ok (.iconst 0, 1) := by decide +kernel
theorem dX2_becomeNumber_12 : decode cX2_becomeNumber 12 = .ok (.putfield 37, 3) := by decide +kernel
theorem dX2_becomeNumber_15 : decode cX2_becomeNumber 15 = .ok (.aload_n 0, 1) := by decide +kernel
theorem dX2_becomeNumber_16 : decode cX2_becomeNumber 16 = .ok (.iload_n 1, 1) := by decide +kernel
theorem dX2_becomeNumber_17 : decode cX2_becomeNumber 17 = .ok (.invokestatic 40, 3) := by decide +kernel
theorem dX2_becomeNumber_20 : decode cX2_becomeNumber 20 = .ok (.putfield 44, 3) := by decide +kernel
theorem dX2_becomeNumber_23 : decode cX2_becomeNumber 23 = .ok (.aload_n 0, 1) := by decide +kernel
theorem dX2_becomeNumber_24 : decode cX2_becomeNumber 24 = .ok (.iconst 0, 1) := by decide +kernel
theorem dX2_becomeNumber_25 : decode cX2_becomeNumber 25 = .ok (.lconst 0, 1) := by decide +kernel
theorem dX2_becomeNumber_26 : decode cX2_becomeNumber 26 = .ok (.invokevirtual 47, 3) := by decide +kernel
theorem dX2_becomeNumber_29 : decode cX2_becomeNumber 29 = .ok (.aload_n 0, 1) := by decide +kernel
theorem dX2_becomeNumber_30 : decode cX2_becomeNumber 30 = .ok (.iconst 1, 1) := by decide +kernel
theorem dX2_becomeNumber_31 : decode cX2_becomeNumber 31 = .ok (.lconst 0, 1) := by decide +kernel
theorem dX2_becomeNumber_32 : decode cX2_becomeNumber 32 = .ok (.invokevirtual 47, 3) := by decide +kernel
theorem dX2_becomeNumber_35 : decode cX2_becomeNumber 35 = .ok (.aload_n 0, 1) := by decide +kernel
theorem dX2_becomeNumber_36 : decode cX2_becomeNumber 36 = .ok (.iload_n 1, 1) := by decide +kernel
theorem dX2_becomeNumber_37 : decode cX2_becomeNumber 37 = .ok (.sipush 128, 3) := by decide +kernel
theorem dX2_becomeNumber_40 : decode cX2_becomeNumber 40 = .ok (.imul, 1) := by decide +kernel
theorem dX2_becomeNumber_41 : decode cX2_becomeNumber 41 = .ok (.invokevirtual 51, 3) := by decide +kernel
theorem dX2_becomeNumber_44 : decode cX2_becomeNumber 44 = .ok (.return_, 1) := by decide +kernel
theorem dX2_takeOptions_0 : decode cX2_takeOptions 0 = .ok (.aload_n 0, 1) := by decide +kernel
theorem dX2_takeOptions_1 : decode cX2_takeOptions 1 = .ok (.getfield 9, 3) := by decide +kernel
theorem dX2_takeOptions_4 : decode cX2_takeOptions 4 = .ok (.iload_n 1, 1) := by decide +kernel
theorem dX2_takeOptions_5 : decode cX2_takeOptions 5 = .ok (.lload_n 2, 1) := by decide +kernel
theorem dX2_takeOptions_6 : decode cX2_takeOptions 6 = .ok (.lastore, 1) := by decide +kernel
theorem dX2_takeOptions_7 : decode cX2_takeOptions 7 = .ok (.iconst 0, 1) := by decide +kernel
theorem dX2_takeOptions_8 : decode cX2_takeOptions 8 = .ok (.istore 4, 2) := by decide +kernel
theorem dX2_takeOptions_10 : decode cX2_takeOptions 10 = .ok (.iconst 0, 1) := by decide +kernel
theorem dX2_takeOptions_11 : decode cX2_takeOptions 11 = .ok (.istore 5, 2) := by decide +kernel
theorem dX2_takeOptions_13 : decode cX2_takeOptions 13 = .ok (.iload 5, 2) := by decide +kernel
theorem dX2_takeOptions_15 : decode cX2_takeOptions 15 = .ok (.bipush 40, 2) := by decide +kernel
theorem dX2_takeOptions_17 : decode cX2_takeOptions 17 = .ok (.if_icmp .ge 40, 3) := by decide +kernel
theorem dX2_takeOptions_20 : decode cX2_takeOptions 20 = .ok (.iload 4, 2) := by decide +kernel
theorem dX2_takeOptions_22 : decode cX2_takeOptions 22 = .ok (.iconst 4, 1) := by decide +kernel
theorem dX2_takeOptions_23 : decode cX2_takeOptions 23 = .ok (.if_icmp .ge 34, 3) := by decide +kernel
theorem dX2_takeOptions_26 : decode cX2_takeOptions 26 = .ok (.lload_n 2, 1) := by decide +kernel
theorem dX2_takeOptions_27 : decode cX2_takeOptions 27 = .ok (.iload 5, 2) := by decide +kernel
theorem dX2_takeOptions_29 : decode cX2_takeOptions 29 = .ok (.invokestatic 55, 3) := by decide +kernel
theorem dX2_takeOptions_32 : decode cX2_takeOptions 32 = .ok (.ifCond .eq 19, 3) := by decide +kernel
theorem dX2_takeOptions_35 : decode cX2_takeOptions 35 = .ok (.aload_n 0, 1) := by decide +kernel
theorem dX2_takeOptions_36 : decode cX2_takeOptions 36 = .ok (.getfield 19, 3) := by decide +kernel
theorem dX2_takeOptions_39 : decode cX2_takeOptions 39 = .ok (.iload_n 1, 1) := by decide +kernel
theorem dX2_takeOptions_40 : decode cX2_takeOptions 40 = .ok (.iconst 4, 1) := by decide +kernel
theorem dX2_takeOptions_41 : decode cX2_takeOptions 41 = .ok (.imul, 1) := by decide +kernel
theorem dX2_takeOptions_42 : decode cX2_takeOptions 42 = .ok (.iload 4, 2) := by decide +kernel
theorem dX2_takeOptions_44 : decode cX2_takeOptions 44 = .ok (.iadd, 1) := by decide +kernel
theorem dX2_takeOptions_45 : decode cX2_takeOptions 45 = .ok (.iload 5, 2) := by decide +kernel
theorem dX2_takeOptions_47 : decode cX2_takeOptions 47 = .ok (.iastore, 1) := by decide +kernel
theorem dX2_takeOptions_48 : decode cX2_takeOptions 48 = .ok (.iinc 4 1, 3) := by decide +kernel
theorem dX2_takeOptions_51 : decode cX2_takeOptions 51 = .ok (.iinc 5 1, 3) := by decide +kernel
theorem dX2_takeOptions_54 : decode cX2_takeOptions 54 = .ok (.goto (-41), 3) := by decide +kernel
theorem dX2_takeOptions_57 : decode cX2_takeOptions 57 = .ok (.aload_n 0, 1) := by decide +kernel
theorem dX2_takeOptions_58 : decode cX2_takeOptions 58 = .ok (.getfield 15, 3) := by decide +kernel
theorem dX2_takeOptions_61 : decode cX2_takeOptions 61 = .ok (.iload_n 1, 1) := by decide +kernel
theorem dX2_takeOptions_62 : decode cX2_takeOptions 62 = .ok (.iload 4, 2) := by decide +kernel
theorem dX2_takeOptions_64 : decode cX2_takeOptions 64 = .ok (.iastore, 1) := by decide +kernel
theorem dX2_takeOptions_65 : decode cX2_takeOptions 65 = .ok (.return_, 1) := by decide +kernel
theorem dX2_becomeCold_0 : decode cX2_becomeCold 0 = .ok (.aload_n 0, 1) := by decide +kernel
theorem dX2_becomeCold_1 : decode cX2_becomeCold 1 = .ok (.iconst 1, 1) := by decide +kernel
theorem dX2_becomeCold_2 : decode cX2_becomeCold 2 = .ok (.putfield 59, 3) := by decide +kernel
theorem dX2_becomeCold_5 : decode cX2_becomeCold 5 = .ok (.aload_n 0, 1) := by decide +kernel
theorem dX2_becomeCold_6 : decode cX2_becomeCold 6 = .ok (.iload_n 1, 1) := by decide +kernel
theorem dX2_becomeCold_7 : decode cX2_becomeCold 7 = .ok (.putfield 62, 3) := by decide +kernel
theorem dX2_becomeCold_10 : decode cX2_becomeCold 10 = .ok (.aload_n 0, 1) := by decide +kernel
theorem dX2_becomeCold_11 : decode cX2_becomeCold 11 = .ok (.iconst (-1), 1) := by decide +kernel
theorem dX2_becomeCold_12 : decode cX2_becomeCold 12 = .ok (.putfield 65, 3) := by decide +kernel
theorem dX2_becomeCold_15 : decode cX2_becomeCold 15 = .ok (.iconst 0, 1) := by decide +kernel
theorem dX2_becomeCold_16 : decode cX2_becomeCold 16 = .ok (.istore_n 2, 1) := by decide +kernel
theorem dX2_becomeCold_17 : decode cX2_becomeCold 17 = .ok (.iload_n 2, 1) := by decide +kernel
theorem dX2_becomeCold_18 : decode cX2_becomeCold 18 = .ok (.iconst 1, 1) := by decide +kernel
theorem dX2_becomeCold_19 : decode cX2_becomeCold 19 = .ok (.if_icmp .gt 23, 3) := by decide +kernel
theorem dX2_becomeCold_22 : decode cX2_becomeCold 22 = .ok (.aload_n 0, 1) := by decide +kernel
theorem dX2_becomeCold_23 : decode cX2_becomeCold 23 = .ok (.getfield 22, 3) := by decide +kernel
theorem dX2_becomeCold_26 : decode cX2_becomeCold 26 = .ok (.iload_n 2, 1) := by decide +kernel
theorem dX2_becomeCold_27 : decode cX2_becomeCold 27 = .ok (.iload_n 1, 1) := by decide +kernel
theorem dX2_becomeCold_28 : decode cX2_becomeCold 28 = .ok (.iastore, 1) := by decide +kernel
theorem dX2_becomeCold_29 : decode cX2_becomeCold 29 = .ok (.aload_n 0, 1) := by decide +kernel
theorem dX2_becomeCold_30 : decode cX2_becomeCold 30 = .ok (.getfield 25, 3) := by decide +kernel
theorem dX2_becomeCold_33 : decode cX2_becomeCold 33 = .ok (.iload_n 2, 1) := by decide +kernel
theorem dX2_becomeCold_34 : decode cX2_becomeCold 34 = .ok (.iconst 1, 1) := by decide +kernel
theorem dX2_becomeCold_35 : decode cX2_becomeCold 35 = .ok (.bastore, 1) := by decide +kernel
theorem dX2_becomeCold_36 : decode cX2_becomeCold 36 = .ok (.iinc 2 1, 3) := by decide +kernel
theorem dX2_becomeCold_39 : decode cX2_becomeCold 39 = .ok (.goto (-22), 3) := by decide +kernel
theorem dX2_becomeCold_42 : decode cX2_becomeCold 42 = .ok (.return_, 1) := by decide +kernel
theorem dX2_optionAt_0 : decode cX2_optionAt 0 = .ok (.iload_n 2, 1) := by decide +kernel
theorem dX2_optionAt_1 : decode cX2_optionAt 1 = .ok (.ifCond .lt 26, 3) := by decide +kernel
theorem dX2_optionAt_4 : decode cX2_optionAt 4 = .ok (.iload_n 2, 1) := by decide +kernel
theorem dX2_optionAt_5 : decode cX2_optionAt 5 = .ok (.aload_n 0, 1) := by decide +kernel
theorem dX2_optionAt_6 : decode cX2_optionAt 6 = .ok (.getfield 15, 3) := by decide +kernel
theorem dX2_optionAt_9 : decode cX2_optionAt 9 = .ok (.iload_n 1, 1) := by decide +kernel
theorem dX2_optionAt_10 : decode cX2_optionAt 10 = .ok (.iaload, 1) := by decide +kernel
theorem dX2_optionAt_11 : decode cX2_optionAt 11 = .ok (.if_icmp .ge 16, 3) := by decide +kernel
theorem dX2_optionAt_14 : decode cX2_optionAt 14 = .ok (.aload_n 0, 1) := by decide +kernel
theorem dX2_optionAt_15 : decode cX2_optionAt 15 = .ok (.getfield 19, 3) := by decide +kernel
theorem dX2_optionAt_18 : decode cX2_optionAt 18 = .ok (.iload_n 1, 1) := by decide +kernel
theorem dX2_optionAt_19 : decode cX2_optionAt 19 = .ok (.iconst 4, 1) := by decide +kernel
theorem dX2_optionAt_20 : decode cX2_optionAt 20 = .ok (.imul, 1) := by decide +kernel
theorem dX2_optionAt_21 : decode cX2_optionAt 21 = .ok (.iload_n 2, 1) := by decide +kernel
theorem dX2_optionAt_22 : decode cX2_optionAt 22 = .ok (.iadd, 1) := by decide +kernel
theorem dX2_optionAt_23 : decode cX2_optionAt 23 = .ok (.iaload, 1) := by decide +kernel
theorem dX2_optionAt_24 : decode cX2_optionAt 24 = .ok (.goto 4, 3) := by decide +kernel
theorem dX2_optionAt_27 : decode cX2_optionAt 27 = .ok (.iconst (-1), 1) := by decide +kernel
theorem dX2_optionAt_28 : decode cX2_optionAt 28 = .ok (.ireturn, 1) := by decide +kernel
theorem dX2_isAtLeastNumber_0 : decode cX2_isAtLeastNumber 0 = .ok (.iload_n 1, 1) := by decide +kernel
theorem dX2_isAtLeastNumber_1 : decode cX2_isAtLeastNumber 1 = .ok (.aload_n 0, 1) := by decide +kernel
theorem dX2_isAtLeastNumber_2 : decode cX2_isAtLeastNumber 2 = .ok (.getfield 22, 3) := by decide +kernel
theorem dX2_isAtLeastNumber_5 : decode cX2_isAtLeastNumber 5 = .ok (.iconst 1, 1) := by decide +kernel
theorem dX2_isAtLeastNumber_6 : decode cX2_isAtLeastNumber 6 = .ok (.iaload, 1) := by decide +kernel
theorem dX2_isAtLeastNumber_7 : decode cX2_isAtLeastNumber 7 = .ok (.if_icmp .lt 22, 3) := by decide +kernel
theorem dX2_isAtLeastNumber_10 : decode cX2_isAtLeastNumber 10 = .ok (.iload_n 1, 1) := by decide +kernel
theorem dX2_isAtLeastNumber_11 : decode cX2_isAtLeastNumber 11 = .ok (.aload_n 0, 1) := by decide +kernel
theorem dX2_isAtLeastNumber_12 : decode cX2_isAtLeastNumber 12 = .ok (.getfield 22, 3) := by decide +kernel
theorem dX2_isAtLeastNumber_15 : decode cX2_isAtLeastNumber 15 = .ok (.iconst 1, 1) := by decide +kernel
theorem dX2_isAtLeastNumber_16 : decode cX2_isAtLeastNumber 16 = .ok (.iaload, 1) := by decide +kernel
theorem dX2_isAtLeastNumber_17 : decode cX2_isAtLeastNumber 17 = .ok (.if_icmp .ne 16, 3) := by decide +kernel
theorem dX2_isAtLeastNumber_20 : decode cX2_isAtLeastNumber 20 = .ok (.aload_n 0, 1) := by decide +kernel
theorem dX2_isAtLeastNumber_21 : decode cX2_isAtLeastNumber 21 = .ok (.getfield 25, 3) := by decide +kernel
theorem dX2_isAtLeastNumber_24 : decode cX2_isAtLeastNumber 24 = .ok (.iconst 1, 1) := by decide +kernel
theorem dX2_isAtLeastNumber_25 : decode cX2_isAtLeastNumber 25 = .ok (.baload, 1) := by decide +kernel
theorem dX2_isAtLeastNumber_26 : decode cX2_isAtLeastNumber 26 = .ok (.ifCond .eq 7, 3) := by decide +kernel
theorem dX2_isAtLeastNumber_29 : decode cX2_isAtLeastNumber 29 = .ok (.iconst 1, 1) := by decide +kernel
theorem dX2_isAtLeastNumber_30 : decode cX2_isAtLeastNumber 30 = .ok (.goto 4, 3) := by decide +kernel
theorem dX2_isAtLeastNumber_33 : decode cX2_isAtLeastNumber 33 = .ok (.iconst 0, 1) := by decide +kernel
theorem dX2_isAtLeastNumber_34 : decode cX2_isAtLeastNumber 34 = .ok (.ireturn, 1) := by decide +kernel
theorem dX2_isAtMostNumber_0 : decode cX2_isAtMostNumber 0 = .ok (.iload_n 1, 1) := by decide +kernel
theorem dX2_isAtMostNumber_1 : decode cX2_isAtMostNumber 1 = .ok (.aload_n 0, 1) := by decide +kernel
theorem dX2_isAtMostNumber_2 : decode cX2_isAtMostNumber 2 = .ok (.getfield 22, 3) := by decide +kernel
theorem dX2_isAtMostNumber_5 : decode cX2_isAtMostNumber 5 = .ok (.iconst 0, 1) := by decide +kernel
theorem dX2_isAtMostNumber_6 : decode cX2_isAtMostNumber 6 = .ok (.iaload, 1) := by decide +kernel
theorem dX2_isAtMostNumber_7 : decode cX2_isAtMostNumber 7 = .ok (.if_icmp .gt 22, 3) := by decide +kernel
theorem dX2_isAtMostNumber_10 : decode cX2_isAtMostNumber 10 = .ok (.iload_n 1, 1) := by decide +kernel
theorem dX2_isAtMostNumber_11 : decode cX2_isAtMostNumber 11 = .ok (.aload_n 0, 1) := by decide +kernel
theorem dX2_isAtMostNumber_12 : decode cX2_isAtMostNumber 12 = .ok (.getfield 22, 3) := by decide +kernel
theorem dX2_isAtMostNumber_15 : decode cX2_isAtMostNumber 15 = .ok (.iconst 0, 1) := by decide +kernel
theorem dX2_isAtMostNumber_16 : decode cX2_isAtMostNumber 16 = .ok (.iaload, 1) := by decide +kernel
theorem dX2_isAtMostNumber_17 : decode cX2_isAtMostNumber 17 = .ok (.if_icmp .ne 16, 3) := by decide +kernel
theorem dX2_isAtMostNumber_20 : decode cX2_isAtMostNumber 20 = .ok (.aload_n 0, 1) := by decide +kernel
theorem dX2_isAtMostNumber_21 : decode cX2_isAtMostNumber 21 = .ok (.getfield 25, 3) := by decide +kernel
theorem dX2_isAtMostNumber_24 : decode cX2_isAtMostNumber 24 = .ok (.iconst 0, 1) := by decide +kernel
theorem dX2_isAtMostNumber_25 : decode cX2_isAtMostNumber 25 = .ok (.baload, 1) := by decide +kernel
theorem dX2_isAtMostNumber_26 : decode cX2_isAtMostNumber 26 = .ok (.ifCond .eq 7, 3) := by decide +kernel
theorem dX2_isAtMostNumber_29 : decode cX2_isAtMostNumber 29 = .ok (.iconst 1, 1) := by decide +kernel
theorem dX2_isAtMostNumber_30 : decode cX2_isAtMostNumber 30 = .ok (.goto 4, 3) := by decide +kernel
theorem dX2_isAtMostNumber_33 : decode cX2_isAtMostNumber 33 = .ok (.iconst 0, 1) := by decide +kernel
theorem dX2_isAtMostNumber_34 : decode cX2_isAtMostNumber 34 = .ok (.ireturn, 1) := by decide +kernel
theorem dX2_lengthOfNumber_0 : decode cX2_lengthOfNumber 0 = .ok (.iload_n 0, 1) := by decide +kernel
theorem dX2_lengthOfNumber_1 : decode cX2_lengthOfNumber 1 = .ok (.ifCond .ge 7, 3) := by decide +kernel
theorem dX2_lengthOfNumber_4 : decode cX2_lengthOfNumber 4 = .ok (.iconst 1, 1) := by decide +kernel
theorem dX2_lengthOfNumber_5 : decode cX2_lengthOfNumber 5 = .ok (.goto 4, 3) := by decide +kernel
theorem dX2_lengthOfNumber_8 : decode cX2_lengthOfNumber 8 = .ok (.iconst 0, 1) := by decide +kernel
theorem dX2_lengthOfNumber_9 : decode cX2_lengthOfNumber 9 = .ok (.istore_n 1, 1) := by decide +kernel
theorem dX2_lengthOfNumber_10 : decode cX2_lengthOfNumber 10 = .ok (.iload_n 0, 1) := by decide +kernel
theorem dX2_lengthOfNumber_11 : decode cX2_lengthOfNumber 11 = .ok (.invokestatic 68, 3) := by decide +kernel
theorem dX2_lengthOfNumber_14 : decode cX2_lengthOfNumber 14 = .ok (.istore_n 2, 1) := by decide +kernel
theorem dX2_lengthOfNumber_15 : decode cX2_lengthOfNumber 15 = .ok (.iload_n 0, 1) := by decide +kernel
theorem dX2_lengthOfNumber_16 : decode cX2_lengthOfNumber 16 = .ok (.ifCond .ge 8, 3) := by decide +kernel
theorem dX2_lengthOfNumber_19 : decode cX2_lengthOfNumber 19 = .ok (.iload_n 0, 1) := by decide +kernel
theorem dX2_lengthOfNumber_20 : decode cX2_lengthOfNumber 20 = .ok (.ineg, 1) := by decide +kernel
theorem dX2_lengthOfNumber_21 : decode cX2_lengthOfNumber 21 = .ok (.goto 4, 3) := by decide +kernel
theorem dX2_lengthOfNumber_24 : decode cX2_lengthOfNumber 24 = .ok (.iload_n 0, 1) := by decide +kernel
theorem dX2_lengthOfNumber_25 : decode cX2_lengthOfNumber 25 = .ok (.iload_n 2, 1) := by decide +kernel
theorem dX2_lengthOfNumber_26 : decode cX2_lengthOfNumber 26 = .ok (.ishr, 1) := by decide +kernel
theorem dX2_lengthOfNumber_27 : decode cX2_lengthOfNumber 27 = .ok (.istore_n 3, 1) := by decide +kernel
theorem dX2_lengthOfNumber_28 : decode cX2_lengthOfNumber 28 = .ok (.iload_n 1, 1) := by decide +kernel
theorem dX2_lengthOfNumber_29 : decode cX2_lengthOfNumber 29 = .ok (.iload_n 3, 1) := by decide +kernel
theorem dX2_lengthOfNumber_30 : decode cX2_lengthOfNumber 30 = .ok (.bipush 10, 2) := by decide +kernel
theorem dX2_lengthOfNumber_32 : decode cX2_lengthOfNumber 32 = .ok (.if_icmp .ge 7, 3) := by decide +kernel
theorem dX2_lengthOfNumber_35 : decode cX2_lengthOfNumber 35 = .ok (.iconst 1, 1) := by decide +kernel
theorem dX2_lengthOfNumber_36 : decode cX2_lengthOfNumber 36 = .ok (.goto 4, 3) := by decide +kernel
theorem dX2_lengthOfNumber_39 : decode cX2_lengthOfNumber 39 = .ok (.iconst 2, 1) := by decide +kernel
theorem dX2_lengthOfNumber_40 : decode cX2_lengthOfNumber 40 = .ok (.iadd, 1) := by decide +kernel
theorem dX2_lengthOfNumber_41 : decode cX2_lengthOfNumber 41 = .ok (.iload_n 2, 1) := by decide +kernel
theorem dX2_lengthOfNumber_42 : decode cX2_lengthOfNumber 42 = .ok (.iconst 3, 1) := by decide +kernel
theorem dX2_lengthOfNumber_43 : decode cX2_lengthOfNumber 43 = .ok (.if_icmp .ge 7, 3) := by decide +kernel
theorem dX2_lengthOfNumber_46 : decode cX2_lengthOfNumber 46 = .ok (.iconst 2, 1) := by decide +kernel
theorem dX2_lengthOfNumber_47 : decode cX2_lengthOfNumber 47 = .ok (.goto 4, 3) := by decide +kernel
theorem dX2_lengthOfNumber_50 : decode cX2_lengthOfNumber 50 = .ok (.iconst 0, 1) := by decide +kernel
theorem dX2_lengthOfNumber_51 : decode cX2_lengthOfNumber 51 = .ok (.iadd, 1) := by decide +kernel
theorem dX2_lengthOfNumber_52 : decode cX2_lengthOfNumber 52 = .ok (.ireturn, 1) := by decide +kernel
theorem dX3_init_0 : decode cX3_init 0 = .ok (.aload_n 0, 1) := by decide +kernel
theorem dX3_init_1 : decode cX3_init 1 = .ok (.invokespecial 3, 3) := by decide +kernel
theorem dX3_init_4 : decode cX3_init 4 = .ok (.aload_n 0, 1) := by decide +kernel
theorem dX3_init_5 : decode cX3_init 5 = .ok (.iconst 0, 1) := by decide +kernel
theorem dX3_init_6 : decode cX3_init 6 = .ok (.putfield 9, 3) := by decide +kernel
theorem dX3_init_9 : decode cX3_init 9 = .ok (.aload_n 0, 1) := by decide +kernel
theorem dX3_init_10 : decode cX3_init 10 = .ok (.bipush 36, 2) := by decide +kernel
theorem dX3_init_12 : decode cX3_init 12 = .ok (.newarray .int, 2) := by decide +kernel
theorem dX3_init_14 : decode cX3_init 14 = .ok (.putfield 15, 3) := by decide +kernel
theorem dX3_init_17 : decode cX3_init 17 = .ok (.return_, 1) := by decide +kernel
theorem dX3_save_0 : decode cX3_save 0 = .ok (.aload_n 0, 1) := by decide +kernel
theorem dX3_save_1 : decode cX3_save 1 = .ok (.getfield 9, 3) := by decide +kernel
theorem dX3_save_4 : decode cX3_save 4 = .ok (.bipush 6, 2) := by decide +kernel
theorem dX3_save_6 : decode cX3_save 6 = .ok (.if_icmp .ne 29, 3) := by decide +kernel
theorem dX3_save_9 : decode cX3_save 9 = .ok (.aload_n 0, 1) := by decide +kernel
theorem dX3_save_10 : decode cX3_save 10 = .ok (.getfield 15, 3) := by decide +kernel
theorem dX3_save_13 : decode cX3_save 13 = .ok (.bipush 6, 2) := by decide +kernel
theorem dX3_save_15 : decode cX3_save 15 = .ok (.aload_n 0, 1) := by decide +kernel
theorem dX3_save_16 : decode cX3_save 16 = .ok (.getfield 15, 3) := by decide +kernel
theorem dX3_save_19 : decode cX3_save 19 = .ok (.iconst 0, 1) := by decide +kernel
theorem dX3_save_20 : decode cX3_save 20 = .ok (.bipush 30, 2) := by decide +kernel
theorem dX3_save_22 : decode cX3_save 22 = .ok (.invokestatic 19, 3) := by decide +kernel
theorem dX3_save_25 : decode cX3_save 25 = .ok (.aload_n 0, 1) := by decide +kernel
theorem dX3_save_26 : decode cX3_save 26 = .ok (.dup, 1) := by decide +kernel
theorem dX3_save_27 : decode cX3_save 27 = .ok (.getfield 9, 3) := by decide +kernel
theorem dX3_save_30 : decode cX3_save 30 = .ok (.iconst 1, 1) := by decide +kernel
theorem dX3_save_31 : decode cX3_save 31 = .ok (.isub, 1) := by decide +kernel
theorem dX3_save_32 : decode cX3_save 32 = .ok (.putfield 9, 3) := by decide +kernel
theorem dX3_save_35 : decode cX3_save 35 = .ok (.aload_n 0, 1) := by decide +kernel
theorem dX3_save_36 : decode cX3_save 36 = .ok (.getfield 9, 3) := by decide +kernel
theorem dX3_save_39 : decode cX3_save 39 = .ok (.bipush 6, 2) := by decide +kernel
theorem dX3_save_41 : decode cX3_save 41 = .ok (.imul, 1) := by decide +kernel
theorem dX3_save_42 : decode cX3_save 42 = .ok (.istore_n 3, 1) := by decide +kernel
theorem dX3_save_43 : decode cX3_save 43 = .ok (.aload_n 0, 1) := by decide +kernel
theorem dX3_save_44 : decode cX3_save 44 = .ok (.getfield 15, 3) := by decide +kernel
theorem dX3_save_47 : decode cX3_save 47 = .ok (.iload_n 3, 1) := by decide +kernel
theorem dX3_save_48 : decode cX3_save 48 = .ok (.iload_n 1, 1) := by decide +kernel
theorem dX3_save_49 : decode cX3_save 49 = .ok (.iastore, 1) := by decide +kernel
theorem dX3_save_50 : decode cX3_save 50 = .ok (.aload_n 0, 1) := by decide +kernel
theorem dX3_save_51 : decode cX3_save 51 = .ok (.getfield 15, 3) := by decide +kernel
theorem dX3_save_54 : decode cX3_save 54 = .ok (.iload_n 3, 1) := by decide +kernel
theorem dX3_save_55 : decode cX3_save 55 = .ok (.iconst 1, 1) := by decide +kernel
theorem dX3_save_56 : decode cX3_save 56 = .ok (.iadd, 1) := by decide +kernel
theorem dX3_save_57 : decode cX3_save 57 = .ok (.aload_n 2, 1) := by decide +kernel
theorem dX3_save_58 : decode cX3_save 58 = .ok (.getfield 25, 3) := by decide +kernel
theorem dX3_save_61 : decode cX3_save 61 = .ok (.iastore, 1) := by decide +kernel
theorem dX3_save_62 : decode cX3_save 62 = .ok (.iconst 0, 1) := by decide +kernel
theorem dX3_save_63 : decode cX3_save 63 = .ok (.istore 4, 2) := by decide +kernel
theorem dX3_save_65 : decode cX3_save 65 = .ok (.iload 4, 2) := by decide +kernel
theorem dX3_save_67 : decode cX3_save 67 = .ok (.iconst 4, 1) := by decide +kernel
theorem dX3_save_68 : decode cX3_save 68 = .ok (.if_icmp .ge 27, 3) := by decide +kernel
theorem dX3_save_71 : decode cX3_save 71 = .ok (.aload_n 0, 1) := by decide +kernel
theorem dX3_save_72 : decode cX3_save 72 = .ok (.getfield 15, 3) := by decide +kernel
theorem dX3_save_75 : decode cX3_save 75 = .ok (.iload_n 3, 1) := by decide +kernel
theorem dX3_save_76 : decode cX3_save 76 = .ok (.iconst 2, 1) := by decide +kernel
theorem dX3_save_77 : decode cX3_save 77 = .ok (.iadd, 1) := by decide +kernel
theorem dX3_save_78 : decode cX3_save 78 = .ok (.iload 4, 2) := by decide +kernel
theorem dX3_save_80 : decode cX3_save 80 = .ok (.iadd, 1) := by decide +kernel
theorem dX3_save_81 : decode cX3_save 81 = .ok (.aload_n 2, 1) := by decide +kernel
theorem dX3_save_82 : decode cX3_save 82 = .ok (.getfield 28, 3) := by decide +kernel
theorem dX3_save_85 : decode cX3_save 85 = .ok (.iload 4, 2) := by decide +kernel
theorem dX3_save_87 : decode cX3_save 87 = .ok (.iaload, 1) := by decide +kernel
theorem dX3_save_88 : decode cX3_save 88 = .ok (.iastore, 1) := by decide +kernel
theorem dX3_save_89 : decode cX3_save 89 = .ok (.iinc 4 1, 3) := by decide +kernel
theorem dX3_save_92 : decode cX3_save 92 = .ok (.goto (-27), 3) := by decide +kernel
theorem dX3_save_95 : decode cX3_save 95 = .ok (.aload_n 0, 1) := by decide +kernel
theorem dX3_save_96 : decode cX3_save 96 = .ok (.dup, 1) := by decide +kernel
theorem dX3_save_97 : decode cX3_save 97 = .ok (.getfield 9, 3) := by decide +kernel
theorem dX3_save_100 : decode cX3_save 100 = .ok (.iconst 1, 1) := by decide +kernel
theorem dX3_save_101 : decode cX3_save 101 = .ok (.iadd, 1) := by decide +kernel
theorem dX3_save_102 : decode cX3_save 102 = .ok (.putfield 9, 3) := by decide +kernel
theorem dX3_save_105 : decode cX3_save 105 = .ok (.return_, 1) := by decide +kernel
theorem dX3_restore_0 : decode cX3_restore 0 = .ok (.aload_n 0, 1) := by decide +kernel
theorem dX3_restore_1 : decode cX3_restore 1 = .ok (.getfield 9, 3) := by decide +kernel
theorem dX3_restore_4 : decode cX3_restore 4 = .ok (.ifCond .le 13, 3) := by decide +kernel
theorem dX3_restore_7 : decode cX3_restore 7 = .ok (.aload_n 0, 1) := by decide +kernel
theorem dX3_restore_8 : decode cX3_restore 8 = .ok (.dup, 1) := by decide +kernel
theorem dX3_restore_9 : decode cX3_restore 9 = .ok (.getfield 9, 3) := by decide +kernel
theorem dX3_restore_12 : decode cX3_restore 12 = .ok (.iconst 1, 1) := by decide +kernel
theorem dX3_restore_13 : decode cX3_restore 13 = .ok (.isub, 1) := by decide +kernel
theorem dX3_restore_14 : decode cX3_restore 14 = .ok (.putfield 9, 3) := by decide +kernel
theorem dX3_restore_17 : decode cX3_restore 17 = .ok (.aload_n 0, 1) := by decide +kernel
theorem dX3_restore_18 : decode cX3_restore 18 = .ok (.getfield 9, 3) := by decide +kernel
theorem dX3_restore_21 : decode cX3_restore 21 = .ok (.bipush 6, 2) := by decide +kernel
theorem dX3_restore_23 : decode cX3_restore 23 = .ok (.imul, 1) := by decide +kernel
theorem dX3_restore_24 : decode cX3_restore 24 = .ok (.istore_n 2, 1) := by decide +kernel
theorem dX3_restore_25 : decode cX3_restore 25 = .ok (.aload_n 1, 1) := by decide +kernel
theorem dX3_restore_26 : decode cX3_restore 26 = .ok (.aload_n 0, 1) := by decide +kernel
theorem dX3_restore_27 : decode cX3_restore 27 = .ok (.getfield 15, 3) := by decide +kernel
theorem dX3_restore_30 : decode cX3_restore 30 = .ok (.iload_n 2, 1) := by decide +kernel
theorem dX3_restore_31 : decode cX3_restore 31 = .ok (.iconst 1, 1) := by decide +kernel
theorem dX3_restore_32 : decode cX3_restore 32 = .ok (.iadd, 1) := by decide +kernel
theorem dX3_restore_33 : decode cX3_restore 33 = .ok (.iaload, 1) := by decide +kernel
theorem dX3_restore_34 : decode cX3_restore 34 = .ok (.putfield 25, 3) := by decide +kernel
theorem dX3_restore_37 : decode cX3_restore 37 = .ok (.iconst 0, 1) := by decide +kernel
theorem dX3_restore_38 : decode cX3_restore 38 = .ok (.istore_n 3, 1) := by decide +kernel
theorem dX3_restore_39 : decode cX3_restore 39 = .ok (.iload_n 3, 1) := by decide +kernel
theorem dX3_restore_40 : decode cX3_restore 40 = .ok (.iconst 4, 1) := by decide +kernel
theorem dX3_restore_41 : decode cX3_restore 41 = .ok (.if_icmp .ge 25, 3) := by decide +kernel
theorem dX3_restore_44 : decode cX3_restore 44 = .ok (.aload_n 1, 1) := by decide +kernel
theorem dX3_restore_45 : decode cX3_restore 45 = .ok (.getfield 28, 3) := by decide +kernel
theorem dX3_restore_48 : decode cX3_restore 48 = .ok (.iload_n 3, 1) := by decide +kernel
theorem dX3_restore_49 : decode cX3_restore 49 = .ok (.aload_n 0, 1) := by decide +kernel
theorem dX3_restore_50 : decode cX3_restore 50 = .ok (.getfield 15, 3) := by decide +kernel
theorem dX3_restore_53 : decode cX3_restore 53 = .ok (.iload_n 2, 1) := by decide +kernel
theorem dX3_restore_54 : decode cX3_restore 54 = .ok (.iconst 2, 1) := by decide +kernel
theorem dX3_restore_55 : decode cX3_restore 55 = .ok (.iadd, 1) := by decide +kernel
theorem dX3_restore_56 : decode cX3_restore 56 = .ok (.iload_n 3, 1) := by decide +kernel
theorem dX3_restore_57 : decode cX3_restore 57 = .ok (.iadd, 1) := by decide +kernel
theorem dX3_restore_58 : decode cX3_restore 58 = .ok (.iaload, 1) := by decide +kernel
theorem dX3_restore_59 : decode cX3_restore 59 = .ok (.iastore, 1) := by decide +kernel
theorem dX3_restore_60 : decode cX3_restore 60 = .ok (.iinc 3 1, 3) := by decide +kernel
theorem dX3_restore_63 : decode cX3_restore 63 = .ok (.goto (-24), 3) := by decide +kernel
theorem dX3_restore_66 : decode cX3_restore 66 = .ok (.aload_n 0, 1) := by decide +kernel
theorem dX3_restore_67 : decode cX3_restore 67 = .ok (.getfield 15, 3) := by decide +kernel
theorem dX3_restore_70 : decode cX3_restore 70 = .ok (.iload_n 2, 1) := by decide +kernel
theorem dX3_restore_71 : decode cX3_restore 71 = .ok (.iaload, 1) := by decide +kernel
theorem dX3_restore_72 : decode cX3_restore 72 = .ok (.ireturn, 1) := by decide +kernel
theorem dX4_init_0 : decode cX4_init 0 = .ok (.aload_n 0, 1) := by decide +kernel
theorem dX4_init_1 : decode cX4_init 1 = .ok (.invokespecial 3, 3) := by decide +kernel
theorem dX4_init_4 : decode cX4_init 4 = .ok (.aload_n 0, 1) := by decide +kernel
theorem dX4_init_5 : decode cX4_init 5 = .ok (.sipush 400, 3) := by decide +kernel
theorem dX4_init_8 : decode cX4_init 8 = .ok (.newarray .char, 2) := by decide +kernel
theorem dX4_init_10 : decode cX4_init 10 = .ok (.putfield 9, 3) := by decide +kernel
theorem dX4_init_13 : decode cX4_init 13 = .ok (.aload_n 0, 1) := by decide +kernel
theorem dX4_init_14 : decode cX4_init 14 = .ok (.iconst 0, 1) := by decide +kernel
theorem dX4_init_15 : decode cX4_init 15 = .ok (.putfield 15, 3) := by decide +kernel
theorem dX4_init_18 : decode cX4_init 18 = .ok (.aload_n 0, 1) := by decide +kernel
theorem dX4_init_19 : decode cX4_init 19 = .ok (.aload_n 1, 1) := by decide +kernel
theorem dX4_init_20 : decode cX4_init 20 = .ok (.putfield 19, 3) := by decide +kernel
theorem dX4_init_23 : decode cX4_init 23 = .ok (.return_, 1) := by decide +kernel
theorem dX4_copyOut_0 : decode cX4_copyOut 0 = .ok (.aload_n 0, 1) := by decide +kernel
theorem dX4_copyOut_1 : decode cX4_copyOut 1 = .ok (.iconst 0, 1) := by decide +kernel
theorem dX4_copyOut_2 : decode cX4_copyOut 2 = .ok (.putfield 15, 3) := by decide +kernel
theorem dX4_copyOut_5 : decode cX4_copyOut 5 = .ok (.aload_n 0, 1) := by decide +kernel
theorem dX4_copyOut_6 : decode cX4_copyOut 6 = .ok (.iload_n 1, 1) := by decide +kernel
theorem dX4_copyOut_7 : decode cX4_copyOut 7 = .ok (.iconst 0, 1) := by decide +kernel
theorem dX4_copyOut_8 : decode cX4_copyOut 8 = .ok (.invokevirtual 23, 3) := by decide +kernel
theorem dX4_copyOut_11 : decode cX4_copyOut 11 = .ok (.return_, 1) := by decide +kernel
theorem dX4_putGame_0 : decode cX4_putGame 0 = .ok (.aload_n 0, 1) := by decide +kernel
theorem dX4_putGame_1 : decode cX4_putGame 1 = .ok (.getfield 19, 3) := by decide +kernel
theorem dX4_putGame_4 : decode cX4_putGame 4 = .ok (.getfield 27, 3) := by decide +kernel
theorem dX4_putGame_7 : decode cX4_putGame 7 = .ok (.iload_n 1, 1) := by decide +kernel
theorem dX4_putGame_8 : decode cX4_putGame 8 = .ok (.aaload, 1) := by decide +kernel
theorem dX4_putGame_9 : decode cX4_putGame 9 = .ok (.astore_n 3, 1) := by decide +kernel
theorem dX4_putGame_10 : decode cX4_putGame 10 = .ok (.aload_n 3, 1) := by decide +kernel
theorem dX4_putGame_11 : decode cX4_putGame 11 = .ok (.getfield 33, 3) := by decide +kernel
theorem dX4_putGame_14 : decode cX4_putGame 14 = .ok (.ifCond .ne 12, 3) := by decide +kernel
theorem dX4_putGame_17 : decode cX4_putGame 17 = .ok (.aload_n 0, 1) := by decide +kernel
theorem dX4_putGame_18 : decode cX4_putGame 18 = .ok (.aload_n 3, 1) := by decide +kernel
theorem dX4_putGame_19 : decode cX4_putGame 19 = .ok (.getfield 39, 3) := by decide +kernel
theorem dX4_putGame_22 : decode cX4_putGame 22 = .ok (.invokevirtual 42, 3) := by decide +kernel
theorem dX4_putGame_25 : decode cX4_putGame 25 = .ok (.return_, 1) := by decide +kernel
theorem dX4_putGame_26 : decode cX4_putGame 26 = .ok (.iload_n 2, 1) := by decide +kernel
theorem dX4_putGame_27 : decode cX4_putGame 27 = .ok (.bipush 6, 2) := by decide +kernel
theorem dX4_putGame_29 : decode cX4_putGame 29 = .ok (.if_icmp .le 4, 3) := by decide +kernel
theorem dX4_putGame_32 : decode cX4_putGame 32 = .ok (.return_, 1) := by decide +kernel
theorem dX4_putGame_33 : decode cX4_putGame 33 = .ok (.aload_n 0, 1) := by decide +kernel
theorem dX4_putGame_34 : decode cX4_putGame 34 = .ok (.bipush 123, 2) := by decide +kernel
theorem dX4_putGame_36 : decode cX4_putGame 36 = .ok (.invokevirtual 46, 3) := by decide +kernel
theorem dX4_putGame_39 : decode cX4_putGame 39 = .ok (.iconst 0, 1) := by decide +kernel
theorem dX4_putGame_40 : decode cX4_putGame 40 = .ok (.istore 4, 2) := by decide +kernel
theorem dX4_putGame_42 : decode cX4_putGame 42 = .ok (.iload 4, 2) := by decide +kernel
theorem dX4_putGame_44 : decode cX4_putGame 44 = .ok (.iconst 1, 1) := by decide +kernel
theorem dX4_putGame_45 : decode cX4_putGame 45 = .ok (.if_icmp .gt 72, 3) := by decide +kernel
theorem dX4_putGame_48 : decode cX4_putGame 48 = .ok (.iconst 0, 1) := by decide +kernel
theorem dX4_putGame_49 : decode cX4_putGame 49 = .ok (.istore 5, 2) := by decide +kernel
theorem dX4_putGame_51 : decode cX4_putGame 51 = .ok (.iload 5, 2) := by decide +kernel
theorem dX4_putGame_53 : decode cX4_putGame 53 = .ok (.aload_n 3, 1) := by decide +kernel
theorem dX4_putGame_54 : decode cX4_putGame 54 = .ok (.getfield 50, 3) := by decide +kernel
theorem dX4_putGame_57 : decode cX4_putGame 57 = .ok (.iload 4, 2) := by decide +kernel
theorem dX4_putGame_59 : decode cX4_putGame 59 = .ok (.iaload, 1) := by decide +kernel
theorem dX4_putGame_60 : decode cX4_putGame 60 = .ok (.if_icmp .ge 35, 3) := by decide +kernel
theorem dX4_putGame_63 : decode cX4_putGame 63 = .ok (.iload 5, 2) := by decide +kernel
theorem dX4_putGame_65 : decode cX4_putGame 65 = .ok (.ifCond .le 9, 3) := by decide +kernel
theorem dX4_putGame_68 : decode cX4_putGame 68 = .ok (.aload_n 0, 1) := by decide +kernel
theorem dX4_putGame_69 : decode cX4_putGame 69 = .ok (.bipush 44, 2) := by decide +kernel
theorem dX4_putGame_71 : decode cX4_putGame 71 = .ok (.invokevirtual 46, 3) := by decide +kernel
theorem dX4_putGame_74 : decode cX4_putGame 74 = .ok (.aload_n 0, 1) := by decide +kernel
theorem dX4_putGame_75 : decode cX4_putGame 75 = .ok (.aload_n 3, 1) := by decide +kernel
theorem dX4_putGame_76 : decode cX4_putGame 76 = .ok (.iload 4, 2) := by decide +kernel
theorem dX4_putGame_78 : decode cX4_putGame 78 = .ok (.iload 5, 2) := by decide +kernel
theorem dX4_putGame_80 : decode cX4_putGame 80 = .ok (.invokevirtual 54, 3) := by decide +kernel
theorem dX4_putGame_83 : decode cX4_putGame 83 = .ok (.iload_n 2, 1) := by decide +kernel
theorem dX4_putGame_84 : decode cX4_putGame 84 = .ok (.iconst 1, 1) := by decide +kernel
theorem dX4_putGame_85 : decode cX4_putGame 85 = .ok (.iadd, 1) := by decide +kernel
theorem dX4_putGame_86 : decode cX4_putGame 86 = .ok (.invokevirtual 23, 3) := by decide +kernel
theorem dX4_putGame_89 : decode cX4_putGame 89 = .ok (.iinc 5 1, 3) := by decide +kernel
theorem dX4_putGame_92 : decode cX4_putGame 92 = .ok (.goto (-41), 3) := by decide +kernel
theorem dX4_putGame_95 : decode cX4_putGame 95 = .ok (.aload_n 0, 1) := by decide +kernel
theorem dX4_putGame_96 : decode cX4_putGame 96 = .ok (.iload 4, 2) := by decide +kernel
theorem dX4_putGame_98 : decode cX4_putGame 98 = .ok (.ifCond .ne 8, 3) := by decide +kernel
theorem dX4_putGame_101 : decode cX4_putGame 101 = .ok (.bipush 124, 2) := by decide +kernel
theorem dX4_putGame_103 : decode cX4_putGame 103 = .ok (.goto 5, 3) := by decide +kernel
theorem dX4_putGame_106 : decode cX4_putGame 106 = .ok (.bipush 125, 2) := by decide +kernel
theorem dX4_putGame_108 : decode cX4_putGame 108 = .ok (.invokevirtual 46, 3) := by decide +kernel
theorem dX4_putGame_111 : decode cX4_putGame 111 = .ok (.iinc 4 1, 3) := by decide +kernel
theorem dX4_putGame_114 : decode cX4_putGame 114 = .ok (.goto (-72), 3) := by decide +kernel
theorem dX4_putGame_117 : decode cX4_putGame 117 = .ok (.return_, 1) := by decide +kernel
theorem dX4_putNumber_0 : decode cX4_putNumber 0 = .ok (.iload_n 1, 1) := by decide +kernel
theorem dX4_putNumber_1 : decode cX4_putNumber 1 = .ok (.ifCond .ge 9, 3) := by decide +kernel
theorem dX4_putNumber_4 : decode cX4_putNumber 4 = .ok (.aload_n 0, 1) := by decide +kernel
theorem dX4_putNumber_5 : decode cX4_putNumber 5 = .ok (.bipush 45, 2) := by decide +kernel
theorem dX4_putNumber_7 : decode cX4_putNumber 7 = .ok (.invokevirtual 46, 3) := by decide +kernel
theorem dX4_putNumber_10 : decode cX4_putNumber 10 = .ok (.iload_n 1, 1) := by decide +kernel
theorem dX4_putNumber_11 : decode cX4_putNumber 11 = .ok (.invokestatic 58, 3) := by decide +kernel
theorem dX4_putNumber_14 : decode cX4_putNumber 14 = .ok (.istore_n 2, 1) := by decide +kernel
theorem dX4_putNumber_15 : decode cX4_putNumber 15 = .ok (.iload_n 1, 1) := by decide +kernel
theorem dX4_putNumber_16 : decode cX4_putNumber 16 = .ok (.ifCond .ge 8, 3) := by decide +kernel
theorem dX4_putNumber_19 : decode cX4_putNumber 19 = .ok (.iload_n 1, 1) := by decide +kernel
theorem dX4_putNumber_20 : decode cX4_putNumber 20 = .ok (.ineg, 1) := by decide +kernel
theorem dX4_putNumber_21 : decode cX4_putNumber 21 = .ok (.goto 4, 3) := by decide +kernel
theorem dX4_putNumber_24 : decode cX4_putNumber 24 = .ok (.iload_n 1, 1) := by decide +kernel
theorem dX4_putNumber_25 : decode cX4_putNumber 25 = .ok (.iload_n 2, 1) := by decide +kernel
theorem dX4_putNumber_26 : decode cX4_putNumber 26 = .ok (.ishr, 1) := by decide +kernel
theorem dX4_putNumber_27 : decode cX4_putNumber 27 = .ok (.istore_n 3, 1) := by decide +kernel
theorem dX4_putNumber_28 : decode cX4_putNumber 28 = .ok (.iload_n 3, 1) := by decide +kernel
theorem dX4_putNumber_29 : decode cX4_putNumber 29 = .ok (.bipush 10, 2) := by decide +kernel
theorem dX4_putNumber_31 : decode cX4_putNumber 31 = .ok (.if_icmp .lt 15, 3) := by decide +kernel
theorem dX4_putNumber_34 : decode cX4_putNumber 34 = .ok (.aload_n 0, 1) := by decide +kernel
theorem dX4_putNumber_35 : decode cX4_putNumber 35 = .ok (.bipush 48, 2) := by decide +kernel
theorem dX4_putNumber_37 : decode cX4_putNumber 37 = .ok (.iload_n 3, 1) := by decide +kernel
theorem dX4_putNumber_38 : decode cX4_putNumber 38 = .ok (.bipush 10, 2) := by decide +kernel
theorem dX4_putNumber_40 : decode cX4_putNumber 40 = .ok (.idiv, 1) := by decide +kernel
theorem dX4_putNumber_41 : decode cX4_putNumber 41 = .ok (.iadd, 1) := by decide +kernel
theorem dX4_putNumber_42 : decode cX4_putNumber 42 = .ok (.i2c, 1) := by decide +kernel
theorem dX4_putNumber_43 : decode cX4_putNumber 43 = .ok (.invokevirtual 46, 3) := by decide +kernel
theorem dX4_putNumber_46 : decode cX4_putNumber 46 = .ok (.aload_n 0, 1) := by decide +kernel
theorem dX4_putNumber_47 : decode cX4_putNumber 47 = .ok (.bipush 48, 2) := by decide +kernel
theorem dX4_putNumber_49 : decode cX4_putNumber 49 = .ok (.iload_n 3, 1) := by decide +kernel
theorem dX4_putNumber_50 : decode cX4_putNumber 50 = .ok (.bipush 10, 2) := by decide +kernel
theorem dX4_putNumber_52 : decode cX4_putNumber 52 = .ok (.irem, 1) := by decide +kernel
theorem dX4_putNumber_53 : decode cX4_putNumber 53 = .ok (.iadd, 1) := by decide +kernel
theorem dX4_putNumber_54 : decode cX4_putNumber 54 = .ok (.i2c, 1) := by decide +kernel
theorem dX4_putNumber_55 : decode cX4_putNumber 55 = .ok (.invokevirtual 46, 3) := by decide +kernel
theorem dX4_putNumber_58 : decode cX4_putNumber 58 = .ok (.iload_n 2, 1) := by decide +kernel
theorem dX4_putNumber_59 : decode cX4_putNumber 59 = .ok (.iconst 3, 1) := by decide +kernel
theorem dX4_putNumber_60 : decode cX4_putNumber 60 = .ok (.if_icmp .ge 21, 3) := by decide +kernel
theorem dX4_putNumber_63 : decode cX4_putNumber 63 = .ok (.aload_n 0, 1) := by decide +kernel
theorem dX4_putNumber_64 : decode cX4_putNumber 64 = .ok (.bipush 47, 2) := by decide +kernel
theorem dX4_putNumber_66 : decode cX4_putNumber 66 = .ok (.invokevirtual 46, 3) := by decide +kernel
theorem dX4_putNumber_69 : decode cX4_putNumber 69 = .ok (.aload_n 0, 1) := by decide +kernel
theorem dX4_putNumber_70 : decode cX4_putNumber 70 = .ok (.bipush 48, 2) := by decide +kernel
theorem dX4_putNumber_72 : decode cX4_putNumber 72 = .ok (.bipush 8, 2) := by decide +kernel
theorem dX4_putNumber_74 : decode cX4_putNumber 74 = .ok (.iload_n 2, 1) := by decide +kernel
theorem dX4_putNumber_75 : decode cX4_putNumber 75 = .ok (.ishr, 1) := by decide +kernel
theorem dX4_putNumber_76 : decode cX4_putNumber 76 = .ok (.iadd, 1) := by decide +kernel
theorem dX4_putNumber_77 : decode cX4_putNumber 77 = .ok (.i2c, 1) := by decide +kernel
theorem dX4_putNumber_78 : decode cX4_putNumber 78 = .ok (.invokevirtual 46, 3) := by decide +kernel
theorem dX4_putNumber_81 : decode cX4_putNumber 81 = .ok (.return_, 1) := by decide +kernel
theorem dX4_put_0 : decode cX4_put 0 = .ok (.aload_n 0, 1) := by decide +kernel
theorem dX4_put_1 : decode cX4_put 1 = .ok (.getfield 15, 3) := by decide +kernel
theorem dX4_put_4 : decode cX4_put 4 = .ok (.sipush 400, 3) := by decide +kernel
theorem dX4_put_7 : decode cX4_put 7 = .ok (.if_icmp .ge 23, 3) := by decide +kernel
theorem dX4_put_10 : decode cX4_put 10 = .ok (.aload_n 0, 1) := by decide +kernel
theorem dX4_put_11 : decode cX4_put 11 = .ok (.getfield 9, 3) := by decide +kernel
theorem dX4_put_14 : decode cX4_put 14 = .ok (.aload_n 0, 1) := by decide +kernel
theorem dX4_put_15 : decode cX4_put 15 = .ok (.getfield 15, 3) := by decide +kernel
theorem dX4_put_18 : decode cX4_put 18 = .ok (.iload_n 1, 1) := by decide +kernel
theorem dX4_put_19 : decode cX4_put 19 = .ok (.castore, 1) := by decide +kernel
theorem dX4_put_20 : decode cX4_put 20 = .ok (.aload_n 0, 1) := by decide +kernel
theorem dX4_put_21 : decode cX4_put 21 = .ok (.dup, 1) := by decide +kernel
theorem dX4_put_22 : decode cX4_put 22 = .ok (.getfield 15, 3) := by decide +kernel
theorem dX4_put_25 : decode cX4_put 25 = .ok (.iconst 1, 1) := by decide +kernel
theorem dX4_put_26 : decode cX4_put 26 = .ok (.iadd, 1) := by decide +kernel
theorem dX4_put_27 : decode cX4_put 27 = .ok (.putfield 15, 3) := by decide +kernel
theorem dX4_put_30 : decode cX4_put 30 = .ok (.return_, 1) := by decide +kernel
theorem dX5_init_0 : decode cX5_init 0 = .ok (.aload_n 0, 1) := by decide +kernel
theorem dX5_init_1 : decode cX5_init 1 = .ok (.invokespecial 3, 3) := by decide +kernel
theorem dX5_init_4 : decode cX5_init 4 = .ok (.aload_n 0, 1) := by decide +kernel
theorem dX5_init_5 : decode cX5_init 5 = .ok (.bipush 40, 2) := by decide +kernel
theorem dX5_init_7 : decode cX5_init 7 = .ok (.anewarray 9, 3) := by decide +kernel
theorem dX5_init_10 : decode cX5_init 10 = .ok (.putfield 11, 3) := by decide +kernel
theorem dX5_init_13 : decode cX5_init 13 = .ok (.aload_n 0, 1) := by decide +kernel
theorem dX5_init_14 : decode cX5_init 14 = .ok (.iconst 0, 1) := by decide +kernel
theorem dX5_init_15 : decode cX5_init 15 = .ok (.putfield 17, 3) := by decide +kernel
theorem dX5_init_18 : decode cX5_init 18 = .ok (.aload_n 0, 1) := by decide +kernel
theorem dX5_init_19 : decode cX5_init 19 = .ok (.bipush 40, 2) := by decide +kernel
theorem dX5_init_21 : decode cX5_init 21 = .ok (.newarray .long, 2) := by decide +kernel
theorem dX5_init_23 : decode cX5_init 23 = .ok (.putfield 21, 3) := by decide +kernel
theorem dX5_init_26 : decode cX5_init 26 = .ok (.aload_n 0, 1) := by decide +kernel
theorem dX5_init_27 : decode cX5_init 27 = .ok (.iconst 2, 1) := by decide +kernel
theorem dX5_init_28 : decode cX5_init 28 = .ok (.bipush 40, 2) := by decide +kernel
theorem dX5_init_30 : decode cX5_init 30 = .ok (.multianewarray 25 2, 4) := by decide +kernel
theorem dX5_init_34 : decode cX5_init 34 = .ok (.putfield 27, 3) := by decide +kernel
theorem dX5_init_37 : decode cX5_init 37 = .ok (.aload_n 0, 1) := by decide +kernel
theorem dX5_init_38 : decode cX5_init 38 = .ok (.iconst 2, 1) := by decide +kernel
theorem dX5_init_39 : decode cX5_init 39 = .ok (.newarray .int, 2) := by decide +kernel
theorem dX5_init_41 : decode cX5_init 41 = .ok (.putfield 30, 3) := by decide +kernel
theorem dX5_init_44 : decode cX5_init 44 = .ok (.aload_n 0, 1) := by decide +kernel
theorem dX5_init_45 : decode cX5_init 45 = .ok (.iconst 2, 1) := by decide +kernel
theorem dX5_init_46 : decode cX5_init 46 = .ok (.newarray .boolean, 2) := by decide +kernel
theorem dX5_init_48 : decode cX5_init 48 = .ok (.putfield 34, 3) := by decide +kernel
theorem dX5_init_51 : decode cX5_init 51 = .ok (.iconst 0, 1) := by decide +kernel
theorem dX5_init_52 : decode cX5_init 52 = .ok (.istore_n 1, 1) := by decide +kernel
theorem dX5_init_53 : decode cX5_init 53 = .ok (.iload_n 1, 1) := by decide +kernel
theorem dX5_init_54 : decode cX5_init 54 = .ok (.bipush 40, 2) := by decide +kernel
theorem dX5_init_56 : decode cX5_init 56 = .ok (.if_icmp .ge 22, 3) := by decide +kernel
theorem dX5_init_59 : decode cX5_init 59 = .ok (.aload_n 0, 1) := by decide +kernel
theorem dX5_init_60 : decode cX5_init 60 = .ok (.getfield 11, 3) := by decide +kernel
theorem dX5_init_63 : decode cX5_init 63 = .ok (.iload_n 1, 1) := by decide +kernel
theorem dX5_init_64 : decode cX5_init 64 = .ok (.new 9, 3) := by decide +kernel
theorem dX5_init_67 : decode cX5_init 67 = .ok (.dup, 1) := by decide +kernel
theorem dX5_init_68 : decode cX5_init 68 = .ok (.invokespecial 38, 3) := by decide +kernel
theorem dX5_init_71 : decode cX5_init 71 = .ok (.aastore, 1) := by decide +kernel
theorem dX5_init_72 : decode cX5_init 72 = .ok (.iinc 1 1, 3) := by decide +kernel
theorem dX5_init_75 : decode cX5_init 75 = .ok (.goto (-22), 3) := by decide +kernel
theorem dX5_init_78 : decode cX5_init 78 = .ok (.return_, 1) := by decide +kernel
theorem dX5_makeNumber_0 : decode cX5_makeNumber 0 = .ok (.iconst 0, 1) := by decide +kernel
theorem dX5_makeNumber_1 : decode cX5_makeNumber 1 = .ok (.istore_n 2, 1) := by decide +kernel
theorem dX5_makeNumber_2 : decode cX5_makeNumber 2 = .ok (.iload_n 2, 1) := by decide +kernel
theorem dX5_makeNumber_3 : decode cX5_makeNumber 3 = .ok (.aload_n 0, 1) := by decide +kernel
theorem dX5_makeNumber_4 : decode cX5_makeNumber 4 = .ok (.getfield 17, 3) := by decide +kernel
theorem dX5_makeNumber_7 : decode cX5_makeNumber 7 = .ok (.if_icmp .ge 36, 3) := by decide +kernel
theorem dX5_makeNumber_10 : decode cX5_makeNumber 10 = .ok (.aload_n 0, 1) := by decide +kernel
theorem dX5_makeNumber_11 : decode cX5_makeNumber 11 = .ok (.getfield 11, 3) := by decide +kernel
theorem dX5_makeNumber_14 : decode cX5_makeNumber 14 = .ok (.iload_n 2, 1) := by decide +kernel
theorem dX5_makeNumber_15 : decode cX5_makeNumber 15 = .ok (.aaload, 1) := by decide +kernel
theorem dX5_makeNumber_16 : decode cX5_makeNumber 16 = .ok (.getfield 39, 3) := by decide +kernel
theorem dX5_makeNumber_19 : decode cX5_makeNumber 19 = .ok (.ifCond .ne 18, 3) := by decide +kernel
theorem dX5_makeNumber_22 : decode cX5_makeNumber 22 = .ok (.aload_n 0, 1) := by decide +kernel
theorem dX5_makeNumber_23 : decode cX5_makeNumber 23 = .ok (.getfield 11, 3) := by decide +kernel
theorem dX5_makeNumber_26 : decode cX5_makeNumber 26 = .ok (.iload_n 2, 1) := by decide +kernel
theorem dX5_makeNumber_27 : decode cX5_makeNumber 27 = .ok (.aaload, 1) := by decide +kernel
theorem dX5_makeNumber_28 : decode cX5_makeNumber 28 = .ok (.getfield 43, 3) := by decide +kernel
theorem dX5_makeNumber_31 : decode cX5_makeNumber 31 = .ok (.iload_n 1, 1) := by decide +kernel
theorem dX5_makeNumber_32 : decode cX5_makeNumber 32 = .ok (.if_icmp .ne 5, 3) := by decide +kernel
theorem dX5_makeNumber_35 : decode cX5_makeNumber 35 = .ok (.iload_n 2, 1) := by decide +kernel
theorem dX5_makeNumber_36 : decode cX5_makeNumber 36 = .ok (.ireturn, 1) := by decide +kernel
theorem dX5_makeNumber_37 : decode cX5_makeNumber 37 = .ok (.iinc 2 1, 3) := by decide +kernel
theorem dX5_makeNumber_40 : decode cX5_makeNumber 40 = .ok (.goto (-38), 3) := by decide +kernel
theorem dX5_makeNumber_43 : decode cX5_makeNumber 43 = .ok (.aload_n 0, 1) := by decide +kernel
theorem dX5_makeNumber_44 : decode cX5_makeNumber 44 = .ok (.getfield 17, 3) := by decide +kernel
theorem dX5_makeNumber_47 : decode cX5_makeNumber 47 = .ok (.bipush 40, 2) := by decide +kernel
theorem dX5_makeNumber_49 : decode cX5_makeNumber 49 = .ok (.if_icmp .lt 5, 3) := by decide +kernel
theorem dX5_makeNumber_52 : decode cX5_makeNumber 52 = .ok (.iconst (-1), 1) := by decide +kernel
theorem dX5_makeNumber_53 : decode cX5_makeNumber 53 = .ok (.ireturn, 1) := by decide +kernel
theorem dX5_makeNumber_54 : decode cX5_makeNumber 54 = .ok (.aload_n 0, 1) := by decide +kernel
theorem dX5_makeNumber_55 : decode cX5_makeNumber 55 = .ok (.getfield 11, 3) := by decide +kernel
theorem dX5_makeNumber_58 : decode cX5_makeNumber 58 = .ok (.aload_n 0, 1) := by decide +kernel
theorem dX5_makeNumber_59 : decode cX5_makeNumber 59 = .ok (.getfield 17, 3) := by decide +kernel
theorem dX5_makeNumber_62 : decode cX5_makeNumber 62 = .ok (.aaload, 1) := by decide +kernel
theorem dX5_makeNumber_63 : decode cX5_makeNumber 63 = .ok (.astore_n 2, 1) := by decide +kernel
theorem dX5_makeNumber_64 : decode cX5_makeNumber 64 = .ok (.aload_n 2, 1) := by decide +kernel
theorem dX5_makeNumber_65 : decode cX5_makeNumber 65 = .ok (.iload_n 1, 1) := by decide +kernel
theorem dX5_makeNumber_66 : decode cX5_makeNumber 66 = .ok (.invokevirtual 46, 3) := by decide +kernel
theorem dX5_makeNumber_69 : decode cX5_makeNumber 69 = .ok (.aload_n 2, 1) := by decide +kernel
theorem dX5_makeNumber_70 : decode cX5_makeNumber 70 = .ok (.aload_n 0, 1) := by decide +kernel
theorem dX5_makeNumber_71 : decode cX5_makeNumber 71 = .ok (.getfield 17, 3) := by decide +kernel
theorem dX5_makeNumber_74 : decode cX5_makeNumber 74 = .ok (.invokestatic 50, 3) := by decide +kernel
theorem dX5_makeNumber_77 : decode cX5_makeNumber 77 = .ok (.putfield 54, 3) := by decide +kernel
theorem dX5_makeNumber_80 : decode cX5_makeNumber 80 = .ok (.aload_n 2, 1) := by decide +kernel
theorem dX5_makeNumber_81 : decode cX5_makeNumber 81 = .ok (.aload_n 0, 1) := by decide +kernel
theorem dX5_makeNumber_82 : decode cX5_makeNumber 82 = .ok (.getfield 17, 3) := by decide +kernel
theorem dX5_makeNumber_85 : decode cX5_makeNumber 85 = .ok (.invokestatic 50, 3) := by decide +kernel
theorem dX5_makeNumber_88 : decode cX5_makeNumber 88 = .ok (.putfield 58, 3) := by decide +kernel
theorem dX5_makeNumber_91 : decode cX5_makeNumber 91 = .ok (.aload_n 0, 1) := by decide +kernel
theorem dX5_makeNumber_92 : decode cX5_makeNumber 92 = .ok (.invokevirtual 61, 3) := by decide +kernel
theorem dX5_makeNumber_95 : decode cX5_makeNumber 95 = .ok (.ireturn, 1) := by decide +kernel
theorem dX5_compose_0 : decode cX5_compose 0 = .ok (.iconst 0, 1) := by decide +kernel
theorem dX5_compose_1 : decode cX5_compose 1 = .ok (.istore 5, 2) := by decide +kernel
theorem dX5_compose_3 : decode cX5_compose 3 = .ok (.iload 5, 2) := by decide +kernel
theorem dX5_compose_5 : decode cX5_compose 5 = .ok (.aload_n 0, 1) := by decide +kernel
theorem dX5_compose_6 : decode cX5_compose 6 = .ok (.getfield 17, 3) := by decide +kernel
theorem dX5_compose_9 : decode cX5_compose 9 = .ok (.if_icmp .ge 53, 3) := by decide +kernel
theorem dX5_compose_12 : decode cX5_compose 12 = .ok (.aload_n 0, 1) := by decide +kernel
theorem dX5_compose_13 : decode cX5_compose 13 = .ok (.getfield 11, 3) := by decide +kernel
theorem dX5_compose_16 : decode cX5_compose 16 = .ok (.iload 5, 2) := by decide +kernel
theorem dX5_compose_18 : decode cX5_compose 18 = .ok (.aaload, 1) := by decide +kernel
theorem dX5_compose_19 : decode cX5_compose 19 = .ok (.astore 6, 2) := by decide +kernel
theorem dX5_compose_21 : decode cX5_compose 21 = .ok (.aload 6, 2) := by decide +kernel
theorem dX5_compose_23 : decode cX5_compose 23 = .ok (.getfield 39, 3) := by decide +kernel
theorem dX5_compose_26 : decode cX5_compose 26 = .ok (.ifCond .eq 30, 3) := by decide +kernel
theorem dX5_compose_29 : decode cX5_compose 29 = .ok (.aload 6, 2) := by decide +kernel
theorem dX5_compose_31 : decode cX5_compose 31 = .ok (.getfield 65, 3) := by decide +kernel
theorem dX5_compose_34 : decode cX5_compose 34 = .ok (.iconst 0, 1) := by decide +kernel
theorem dX5_compose_35 : decode cX5_compose 35 = .ok (.laload, 1) := by decide +kernel
theorem dX5_compose_36 : decode cX5_compose 36 = .ok (.lload_n 1, 1) := by decide +kernel
theorem dX5_compose_37 : decode cX5_compose 37 = .ok (.lcmp, 1) := by decide +kernel
theorem dX5_compose_38 : decode cX5_compose 38 = .ok (.ifCond .ne 18, 3) := by decide +kernel
theorem dX5_compose_41 : decode cX5_compose 41 = .ok (.aload 6, 2) := by decide +kernel
theorem dX5_compose_43 : decode cX5_compose 43 = .ok (.getfield 65, 3) := by decide +kernel
theorem dX5_compose_46 : decode cX5_compose 46 = .ok (.iconst 1, 1) := by decide +kernel
theorem dX5_compose_47 : decode cX5_compose 47 = .ok (.laload, 1) := by decide +kernel
theorem dX5_compose_48 : decode cX5_compose 48 = .ok (.lload_n 3, 1) := by decide +kernel
theorem dX5_compose_49 : decode cX5_compose 49 = .ok (.lcmp, 1) := by decide +kernel
theorem dX5_compose_50 : decode cX5_compose 50 = .ok (.ifCond .ne 6, 3) := by decide +kernel
theorem dX5_compose_53 : decode cX5_compose 53 = .ok (.iload 5, 2) := by decide +kernel
theorem dX5_compose_55 : decode cX5_compose 55 = .ok (.ireturn, 1) := by decide +kernel
theorem dX5_compose_56 : decode cX5_compose 56 = .ok (.iinc 5 1, 3) := by decide +kernel
theorem dX5_compose_59 : decode cX5_compose 59 = .ok (.goto (-56), 3) := by decide +kernel
theorem dX5_compose_62 : decode cX5_compose 62 = .ok (.lload_n 1, 1) := by decide +kernel
theorem dX5_compose_63 : decode cX5_compose 63 = .ok (.invokestatic 68, 3) := by decide +kernel
theorem dX5_compose_66 : decode cX5_compose 66 = .ok (.iconst 4, 1) := by decide +kernel
theorem dX5_compose_67 : decode cX5_compose 67 = .ok (.if_icmp .gt 11, 3) := by decide +kernel
theorem dX5_compose_70 : decode cX5_compose 70 = .ok (.lload_n 3, 1) := by decide +kernel
theorem dX5_compose_71 : decode cX5_compose 71 = .ok (.invokestatic 68, 3) := by decide +kernel
theorem dX5_compose_74 : decode cX5_compose 74 = .ok (.iconst 4, 1) := by decide +kernel
theorem dX5_compose_75 : decode cX5_compose 75 = .ok (.if_icmp .le 7, 3) := by decide +kernel
theorem dX5_compose_78 : decode cX5_compose 78 = .ok (.iconst 1, 1) := by decide +kernel
theorem dX5_compose_79 : decode cX5_compose 79 = .ok (.goto 4, 3) := by decide +kernel
theorem dX5_compose_82 : decode cX5_compose 82 = .ok (.iconst 0, 1) := by decide +kernel
theorem dX5_compose_83 : decode cX5_compose 83 = .ok (.istore 5, 2) := by decide +kernel
theorem dX5_compose_85 : decode cX5_compose 85 = .ok (.iload 5, 2) := by decide +kernel
theorem dX5_compose_87 : decode cX5_compose 87 = .ok (.ifCond .ne 24, 3) := by decide +kernel
theorem dX5_compose_90 : decode cX5_compose 90 = .ok (.aload_n 0, 1) := by decide +kernel
theorem dX5_compose_91 : decode cX5_compose 91 = .ok (.getfield 17, 3) := by decide +kernel
theorem dX5_compose_94 : decode cX5_compose 94 = .ok (.bipush 40, 2) := by decide +kernel
theorem dX5_compose_96 : decode cX5_compose 96 = .ok (.if_icmp .ge 15, 3) := by decide +kernel
theorem dX5_compose_99 : decode cX5_compose 99 = .ok (.aload_n 0, 1) := by decide +kernel
theorem dX5_compose_100 : decode cX5_compose 100 = .ok (.lload_n 1, 1) := by decide +kernel
theorem dX5_compose_101 : decode cX5_compose 101 = .ok (.lload_n 3, 1) := by decide +kernel
theorem dX5_compose_102 : decode cX5_compose 102 = .ok (.lor, 1) := by decide +kernel
theorem dX5_compose_103 : decode cX5_compose 103 = .ok (.invokevirtual 74, 3) := by decide +kernel
theorem dX5_compose_106 : decode cX5_compose 106 = .ok (.bipush 6, 2) := by decide +kernel
theorem dX5_compose_108 : decode cX5_compose 108 = .ok (.if_icmp .le 5, 3) := by decide +kernel
theorem dX5_compose_111 : decode cX5_compose 111 = .ok (.iconst (-1), 1) := by decide +kernel
theorem dX5_compose_112 : decode cX5_compose 112 = .ok (.ireturn, 1) := by decide +kernel
theorem dX5_compose_113 : decode cX5_compose 113 = .ok (.aload_n 0, 1) := by decide +kernel
theorem dX5_compose_114 : decode cX5_compose 114 = .ok (.getfield 11, 3) := by decide +kernel
theorem dX5_compose_117 : decode cX5_compose 117 = .ok (.aload_n 0, 1) := by decide +kernel
theorem dX5_compose_118 : decode cX5_compose 118 = .ok (.getfield 17, 3) := by decide +kernel
theorem dX5_compose_121 : decode cX5_compose 121 = .ok (.aaload, 1) := by decide +kernel
theorem dX5_compose_122 : decode cX5_compose 122 = .ok (.astore 6, 2) := by decide +kernel
theorem dX5_compose_124 : decode cX5_compose 124 = .ok (.aload 6, 2) := by decide +kernel
theorem dX5_compose_126 : decode cX5_compose 126 = .ok (.iconst 1, 1) := by decide +kernel
theorem dX5_compose_127 : decode cX5_compose 127 = .ok (.putfield 39, 3) := by decide +kernel
theorem dX5_compose_130 : decode cX5_compose 130 = .ok (.aload 6, 2) := by decide +kernel
theorem dX5_compose_132 : decode cX5_compose 132 = .ok (.aload_n 0, 1) := by decide +kernel
theorem dX5_compose_133 : decode cX5_compose 133 = .ok (.lload_n 1, 1) := by decide +kernel
theorem dX5_compose_134 : decode cX5_compose 134 = .ok (.lload_n 3, 1) := by decide +kernel
theorem dX5_compose_135 : decode cX5_compose 135 = .ok (.lor, 1) := by decide +kernel
theorem dX5_compose_136 : decode cX5_compose 136 = .ok (.invokevirtual 74, 3) := by decide +kernel
theorem dX5_compose_139 : decode cX5_compose 139 = .ok (.putfield 77, 3) := by decide +kernel
theorem dX5_compose_142 : decode cX5_compose 142 = .ok (.aload 6, 2) := by decide +kernel
theorem dX5_compose_144 : decode cX5_compose 144 = .ok (.iconst 0, 1) := by decide +kernel
theorem dX5_compose_145 : decode cX5_compose 145 = .ok (.lload_n 1, 1) := by decide +kernel
theorem dX5_compose_146 : decode cX5_compose 146 = .ok (.invokevirtual 80, 3) := by decide +kernel
theorem dX5_compose_149 : decode cX5_compose 149 = .ok (.aload 6, 2) := by decide +kernel
theorem dX5_compose_151 : decode cX5_compose 151 = .ok (.iconst 1, 1) := by decide +kernel
theorem dX5_compose_152 : decode cX5_compose 152 = .ok (.lload_n 3, 1) := by decide +kernel
theorem dX5_compose_153 : decode cX5_compose 153 = .ok (.invokevirtual 80, 3) := by decide +kernel
theorem dX5_compose_156 : decode cX5_compose 156 = .ok (.aload_n 0, 1) := by decide +kernel
theorem dX5_compose_157 : decode cX5_compose 157 = .ok (.aload 6, 2) := by decide +kernel
theorem dX5_compose_159 : decode cX5_compose 159 = .ok (.invokevirtual 84, 3) := by decide +kernel
theorem dX5_compose_162 : decode cX5_compose 162 = .ok (.aload_n 0, 1) := by decide +kernel
theorem dX5_compose_163 : decode cX5_compose 163 = .ok (.aload 6, 2) := by decide +kernel
theorem dX5_compose_165 : decode cX5_compose 165 = .ok (.iconst 0, 1) := by decide +kernel
theorem dX5_compose_166 : decode cX5_compose 166 = .ok (.invokevirtual 88, 3) := by decide +kernel
theorem dX5_compose_169 : decode cX5_compose 169 = .ok (.aload_n 0, 1) := by decide +kernel
theorem dX5_compose_170 : decode cX5_compose 170 = .ok (.aload 6, 2) := by decide +kernel
theorem dX5_compose_172 : decode cX5_compose 172 = .ok (.iconst 1, 1) := by decide +kernel
theorem dX5_compose_173 : decode cX5_compose 173 = .ok (.invokevirtual 88, 3) := by decide +kernel
theorem dX5_compose_176 : decode cX5_compose 176 = .ok (.aload_n 0, 1) := by decide +kernel
theorem dX5_compose_177 : decode cX5_compose 177 = .ok (.invokevirtual 92, 3) := by decide +kernel
theorem dX5_compose_180 : decode cX5_compose 180 = .ok (.ifCond .eq 50, 3) := by decide +kernel
theorem dX5_compose_183 : decode cX5_compose 183 = .ok (.aload 6, 2) := by decide +kernel
theorem dX5_compose_185 : decode cX5_compose 185 = .ok (.aload_n 0, 1) := by decide +kernel
theorem dX5_compose_186 : decode cX5_compose 186 = .ok (.getfield 17, 3) := by decide +kernel
theorem dX5_compose_189 : decode cX5_compose 189 = .ok (.invokestatic 50, 3) := by decide +kernel
theorem dX5_compose_192 : decode cX5_compose 192 = .ok (.putfield 58, 3) := by decide +kernel
theorem dX5_compose_195 : decode cX5_compose 195 = .ok (.aload 6, 2) := by decide +kernel
theorem dX5_compose_197 : decode cX5_compose 197 = .ok (.aload_n 0, 1) := by decide +kernel
theorem dX5_compose_198 : decode cX5_compose 198 = .ok (.getfield 30, 3) := by decide +kernel
theorem dX5_compose_201 : decode cX5_compose 201 = .ok (.iconst 0, 1) := by decide +kernel
theorem dX5_compose_202 : decode cX5_compose 202 = .ok (.iaload, 1) := by decide +kernel
theorem dX5_compose_203 : decode cX5_compose 203 = .ok (.aload_n 0, 1) := by decide +kernel
theorem dX5_compose_204 : decode cX5_compose 204 = .ok (.getfield 34, 3) := by decide +kernel
theorem dX5_compose_207 : decode cX5_compose 207 = .ok (.iconst 0, 1) := by decide +kernel
theorem dX5_compose_208 : decode cX5_compose 208 = .ok (.baload, 1) := by decide +kernel
theorem dX5_compose_209 : decode cX5_compose 209 = .ok (.aload_n 0, 1) := by decide +kernel
theorem dX5_compose_210 : decode cX5_compose 210 = .ok (.getfield 30, 3) := by decide +kernel
theorem dX5_compose_213 : decode cX5_compose 213 = .ok (.iconst 1, 1) := by decide +kernel
theorem dX5_compose_214 : decode cX5_compose 214 = .ok (.iaload, 1) := by decide +kernel
theorem dX5_compose_215 : decode cX5_compose 215 = .ok (.aload_n 0, 1) := by decide +kernel
theorem dX5_compose_216 : decode cX5_compose 216 = .ok (.getfield 34, 3) := by decide +kernel
theorem dX5_compose_219 : decode cX5_compose 219 = .ok (.iconst 1, 1) := by decide +kernel
theorem dX5_compose_220 : decode cX5_compose 220 = .ok (.baload, 1) := by decide +kernel
theorem dX5_compose_221 : decode cX5_compose 221 = .ok (.invokestatic 96, 3) := by decide +kernel
theorem dX5_compose_224 : decode cX5_compose 224 = .ok (.invokevirtual 100, 3) := by decide +kernel
theorem dX5_compose_227 : decode cX5_compose 227 = .ok (.goto 9, 3) := by decide +kernel
theorem dX5_compose_230 : decode cX5_compose 230 = .ok (.aload_n 0, 1) := by decide +kernel
theorem dX5_compose_231 : decode cX5_compose 231 = .ok (.aload 6, 2) := by decide +kernel
theorem dX5_compose_233 : decode cX5_compose 233 = .ok (.invokevirtual 103, 3) := by decide +kernel
theorem dX5_compose_236 : decode cX5_compose 236 = .ok (.aload_n 0, 1) := by decide +kernel
theorem dX5_compose_237 : decode cX5_compose 237 = .ok (.invokevirtual 61, 3) := by decide +kernel
theorem dX5_compose_240 : decode cX5_compose 240 = .ok (.ireturn, 1) := by decide +kernel
theorem dX5_depthAbove_0 : decode cX5_depthAbove 0 = .ok (.iconst 0, 1) := by decide +kernel
theorem dX5_depthAbove_1 : decode cX5_depthAbove 1 = .ok (.istore_n 3, 1) := by decide +kernel
theorem dX5_depthAbove_2 : decode cX5_depthAbove 2 = .ok (.iconst 0, 1) := by decide +kernel
theorem dX5_depthAbove_3 : decode cX5_depthAbove 3 = .ok (.istore 4, 2) := by decide +kernel
theorem dX5_depthAbove_5 : decode cX5_depthAbove 5 = .ok (.iload 4, 2) := by decide +kernel
theorem dX5_depthAbove_7 : decode cX5_depthAbove 7 = .ok (.aload_n 0, 1) := by decide +kernel
theorem dX5_depthAbove_8 : decode cX5_depthAbove 8 = .ok (.getfield 17, 3) := by decide +kernel
theorem dX5_depthAbove_11 : decode cX5_depthAbove 11 = .ok (.if_icmp .ge 33, 3) := by decide +kernel
theorem dX5_depthAbove_14 : decode cX5_depthAbove 14 = .ok (.lload_n 1, 1) := by decide +kernel
theorem dX5_depthAbove_15 : decode cX5_depthAbove 15 = .ok (.iload 4, 2) := by decide +kernel
theorem dX5_depthAbove_17 : decode cX5_depthAbove 17 = .ok (.invokestatic 106, 3) := by decide +kernel
theorem dX5_depthAbove_20 : decode cX5_depthAbove 20 = .ok (.ifCond .eq 18, 3) := by decide +kernel
theorem dX5_depthAbove_23 : decode cX5_depthAbove 23 = .ok (.iload_n 3, 1) := by decide +kernel
theorem dX5_depthAbove_24 : decode cX5_depthAbove 24 = .ok (.aload_n 0, 1) := by decide +kernel
theorem dX5_depthAbove_25 : decode cX5_depthAbove 25 = .ok (.getfield 11, 3) := by decide +kernel
theorem dX5_depthAbove_28 : decode cX5_depthAbove 28 = .ok (.iload 4, 2) := by decide +kernel
theorem dX5_depthAbove_30 : decode cX5_depthAbove 30 = .ok (.aaload, 1) := by decide +kernel
theorem dX5_depthAbove_31 : decode cX5_depthAbove 31 = .ok (.getfield 77, 3) := by decide +kernel
theorem dX5_depthAbove_34 : decode cX5_depthAbove 34 = .ok (.invokestatic 110, 3) := by decide +kernel
theorem dX5_depthAbove_37 : decode cX5_depthAbove 37 = .ok (.istore_n 3, 1) := by decide +kernel
theorem dX5_depthAbove_38 : decode cX5_depthAbove 38 = .ok (.iinc 4 1, 3) := by decide +kernel
theorem dX5_depthAbove_41 : decode cX5_depthAbove 41 = .ok (.goto (-36), 3) := by decide +kernel
theorem dX5_depthAbove_44 : decode cX5_depthAbove 44 = .ok (.iload_n 3, 1) := by decide +kernel
theorem dX5_depthAbove_45 : decode cX5_depthAbove 45 = .ok (.iconst 1, 1) := by decide +kernel
theorem dX5_depthAbove_46 : decode cX5_depthAbove 46 = .ok (.iadd, 1) := by decide +kernel
theorem dX5_depthAbove_47 : decode cX5_depthAbove 47 = .ok (.ireturn, 1) := by decide +kernel
theorem dX5_gather_0 : decode cX5_gather 0 = .ok (.iconst 0, 1) := by decide +kernel
theorem dX5_gather_1 : decode cX5_gather 1 = .ok (.aload_n 1, 1) := by decide +kernel
theorem dX5_gather_2 : decode cX5_gather 2 = .ok (.getfield 116, 3) := by decide +kernel
theorem dX5_gather_5 : decode cX5_gather 5 = .ok (.iconst 0, 1) := by decide +kernel
theorem dX5_gather_6 : decode cX5_gather 6 = .ok (.iaload, 1) := by decide +kernel
theorem dX5_gather_7 : decode cX5_gather 7 = .ok (.iconst 1, 1) := by decide +kernel
theorem dX5_gather_8 : decode cX5_gather 8 = .ok (.isub, 1) := by decide +kernel
theorem dX5_gather_9 : decode cX5_gather 9 = .ok (.invokestatic 110, 3) := by decide +kernel
theorem dX5_gather_12 : decode cX5_gather 12 = .ok (.iconst 0, 1) := by decide +kernel
theorem dX5_gather_13 : decode cX5_gather 13 = .ok (.aload_n 1, 1) := by decide +kernel
theorem dX5_gather_14 : decode cX5_gather 14 = .ok (.getfield 116, 3) := by decide +kernel
theorem dX5_gather_17 : decode cX5_gather 17 = .ok (.iconst 1, 1) := by decide +kernel
theorem dX5_gather_18 : decode cX5_gather 18 = .ok (.iaload, 1) := by decide +kernel
theorem dX5_gather_19 : decode cX5_gather 19 = .ok (.iconst 1, 1) := by decide +kernel
theorem dX5_gather_20 : decode cX5_gather 20 = .ok (.isub, 1) := by decide +kernel
theorem dX5_gather_21 : decode cX5_gather 21 = .ok (.invokestatic 110, 3) := by decide +kernel
theorem dX5_gather_24 : decode cX5_gather 24 = .ok (.iadd, 1) := by decide +kernel
theorem dX5_gather_25 : decode cX5_gather 25 = .ok (.istore_n 2, 1) := by decide +kernel
theorem dX5_gather_26 : decode cX5_gather 26 = .ok (.aload_n 1, 1) := by decide +kernel
theorem dX5_gather_27 : decode cX5_gather 27 = .ok (.iconst 3, 1) := by decide +kernel
theorem dX5_gather_28 : decode cX5_gather 28 = .ok (.iload_n 2, 1) := by decide +kernel
theorem dX5_gather_29 : decode cX5_gather 29 = .ok (.iadd, 1) := by decide +kernel
theorem dX5_gather_30 : decode cX5_gather 30 = .ok (.putfield 119, 3) := by decide +kernel
theorem dX5_gather_33 : decode cX5_gather 33 = .ok (.aload_n 1, 1) := by decide +kernel
theorem dX5_gather_34 : decode cX5_gather 34 = .ok (.aload_n 0, 1) := by decide +kernel
theorem dX5_gather_35 : decode cX5_gather 35 = .ok (.getfield 17, 3) := by decide +kernel
theorem dX5_gather_38 : decode cX5_gather 38 = .ok (.invokestatic 50, 3) := by decide +kernel
theorem dX5_gather_41 : decode cX5_gather 41 = .ok (.putfield 54, 3) := by decide +kernel
theorem dX5_gather_44 : decode cX5_gather 44 = .ok (.iconst 0, 1) := by decide +kernel
theorem dX5_gather_45 : decode cX5_gather 45 = .ok (.istore_n 3, 1) := by decide +kernel
theorem dX5_gather_46 : decode cX5_gather 46 = .ok (.iload_n 3, 1) := by decide +kernel
theorem dX5_gather_47 : decode cX5_gather 47 = .ok (.iconst 1, 1) := by decide +kernel
theorem dX5_gather_48 : decode cX5_gather 48 = .ok (.if_icmp .gt 71, 3) := by decide +kernel
theorem dX5_gather_51 : decode cX5_gather 51 = .ok (.iconst 0, 1) := by decide +kernel
theorem dX5_gather_52 : decode cX5_gather 52 = .ok (.istore 4, 2) := by decide +kernel
theorem dX5_gather_54 : decode cX5_gather 54 = .ok (.iload 4, 2) := by decide +kernel
theorem dX5_gather_56 : decode cX5_gather 56 = .ok (.aload_n 1, 1) := by decide +kernel
theorem dX5_gather_57 : decode cX5_gather 57 = .ok (.getfield 116, 3) := by decide +kernel
theorem dX5_gather_60 : decode cX5_gather 60 = .ok (.iload_n 3, 1) := by decide +kernel
theorem dX5_gather_61 : decode cX5_gather 61 = .ok (.iaload, 1) := by decide +kernel
theorem dX5_gather_62 : decode cX5_gather 62 = .ok (.if_icmp .ge 51, 3) := by decide +kernel
theorem dX5_gather_65 : decode cX5_gather 65 = .ok (.aload_n 0, 1) := by decide +kernel
theorem dX5_gather_66 : decode cX5_gather 66 = .ok (.getfield 11, 3) := by decide +kernel
theorem dX5_gather_69 : decode cX5_gather 69 = .ok (.aload_n 1, 1) := by decide +kernel
theorem dX5_gather_70 : decode cX5_gather 70 = .ok (.iload_n 3, 1) := by decide +kernel
theorem dX5_gather_71 : decode cX5_gather 71 = .ok (.iload 4, 2) := by decide +kernel
theorem dX5_gather_73 : decode cX5_gather 73 = .ok (.invokevirtual 122, 3) := by decide +kernel
theorem dX5_gather_76 : decode cX5_gather 76 = .ok (.aaload, 1) := by decide +kernel
theorem dX5_gather_77 : decode cX5_gather 77 = .ok (.astore 5, 2) := by decide +kernel
theorem dX5_gather_79 : decode cX5_gather 79 = .ok (.aload_n 1, 1) := by decide +kernel
theorem dX5_gather_80 : decode cX5_gather 80 = .ok (.dup, 1) := by decide +kernel
theorem dX5_gather_81 : decode cX5_gather 81 = .ok (.getfield 119, 3) := by decide +kernel
theorem dX5_gather_84 : decode cX5_gather 84 = .ok (.aload 5, 2) := by decide +kernel
theorem dX5_gather_86 : decode cX5_gather 86 = .ok (.getfield 119, 3) := by decide +kernel
theorem dX5_gather_89 : decode cX5_gather 89 = .ok (.iadd, 1) := by decide +kernel
theorem dX5_gather_90 : decode cX5_gather 90 = .ok (.putfield 119, 3) := by decide +kernel
theorem dX5_gather_93 : decode cX5_gather 93 = .ok (.aload_n 1, 1) := by decide +kernel
theorem dX5_gather_94 : decode cX5_gather 94 = .ok (.dup, 1) := by decide +kernel
theorem dX5_gather_95 : decode cX5_gather 95 = .ok (.getfield 54, 3) := by decide +kernel
theorem dX5_gather_98 : decode cX5_gather 98 = .ok (.aload 5, 2) := by decide +kernel
theorem dX5_gather_100 : decode cX5_gather 100 = .ok (.getfield 54, 3) := by decide +kernel
theorem dX5_gather_103 : decode cX5_gather 103 = .ok (.lor, 1) := by decide +kernel
theorem dX5_gather_104 : decode cX5_gather 104 = .ok (.putfield 54, 3) := by decide +kernel
theorem dX5_gather_107 : decode cX5_gather 107 = .ok (.iinc 4 1, 3) := by decide +kernel
theorem dX5_gather_110 : decode cX5_gather 110 = .ok (.goto (-56), 3) := by decide +kernel
theorem dX5_gather_113 : decode cX5_gather 113 = .ok (.iinc 3 1, 3) := by decide +kernel
theorem dX5_gather_116 : decode cX5_gather 116 = .ok (.goto (-70), 3) := by decide +kernel
theorem dX5_gather_119 : decode cX5_gather 119 = .ok (.return_, 1) := by decide +kernel
theorem dX5_findEdge_0 : decode cX5_findEdge 0 = .ok (.iload_n 2, 1) := by decide +kernel
theorem dX5_findEdge_1 : decode cX5_findEdge 1 = .ok (.invokestatic 125, 3) := by decide +kernel
theorem dX5_findEdge_4 : decode cX5_findEdge 4 = .ok (.istore_n 3, 1) := by decide +kernel
theorem dX5_findEdge_5 : decode cX5_findEdge 5 = .ok (.ldc 129, 2) := by decide +kernel
theorem dX5_findEdge_7 : decode cX5_findEdge 7 = .ok (.istore 4, 2) := by decide +kernel
theorem dX5_findEdge_9 : decode cX5_findEdge 9 = .ok (.iconst 1, 1) := by decide +kernel
theorem dX5_findEdge_10 : decode cX5_findEdge 10 = .ok (.istore 5, 2) := by decide +kernel
theorem dX5_findEdge_12 : decode cX5_findEdge 12 = .ok (.iconst 0, 1) := by decide +kernel
theorem dX5_findEdge_13 : decode cX5_findEdge 13 = .ok (.istore 6, 2) := by decide +kernel
theorem dX5_findEdge_15 : decode cX5_findEdge 15 = .ok (.iload 6, 2) := by decide +kernel
theorem dX5_findEdge_17 : decode cX5_findEdge 17 = .ok (.aload_n 1, 1) := by decide +kernel
theorem dX5_findEdge_18 : decode cX5_findEdge 18 = .ok (.getfield 116, 3) := by decide +kernel
theorem dX5_findEdge_21 : decode cX5_findEdge 21 = .ok (.iload_n 2, 1) := by decide +kernel
theorem dX5_findEdge_22 : decode cX5_findEdge 22 = .ok (.iaload, 1) := by decide +kernel
theorem dX5_findEdge_23 : decode cX5_findEdge 23 = .ok (.if_icmp .ge 97, 3) := by decide +kernel
theorem dX5_findEdge_26 : decode cX5_findEdge 26 = .ok (.aload_n 0, 1) := by decide +kernel
theorem dX5_findEdge_27 : decode cX5_findEdge 27 = .ok (.getfield 11, 3) := by decide +kernel
theorem dX5_findEdge_30 : decode cX5_findEdge 30 = .ok (.aload_n 1, 1) := by decide +kernel
theorem dX5_findEdge_31 : decode cX5_findEdge 31 = .ok (.iload_n 2, 1) := by decide +kernel
theorem dX5_findEdge_32 : decode cX5_findEdge 32 = .ok (.iload 6, 2) := by decide +kernel
theorem dX5_findEdge_34 : decode cX5_findEdge 34 = .ok (.invokevirtual 122, 3) := by decide +kernel
theorem dX5_findEdge_37 : decode cX5_findEdge 37 = .ok (.aaload, 1) := by decide +kernel
theorem dX5_findEdge_38 : decode cX5_findEdge 38 = .ok (.astore 7, 2) := by decide +kernel
theorem dX5_findEdge_40 : decode cX5_findEdge 40 = .ok (.iload_n 3, 1) := by decide +kernel
theorem dX5_findEdge_41 : decode cX5_findEdge 41 = .ok (.aload 7, 2) := by decide +kernel
theorem dX5_findEdge_43 : decode cX5_findEdge 43 = .ok (.getfield 130, 3) := by decide +kernel
theorem dX5_findEdge_46 : decode cX5_findEdge 46 = .ok (.iconst 1, 1) := by decide +kernel
theorem dX5_findEdge_47 : decode cX5_findEdge 47 = .ok (.iload_n 2, 1) := by decide +kernel
theorem dX5_findEdge_48 : decode cX5_findEdge 48 = .ok (.isub, 1) := by decide +kernel
theorem dX5_findEdge_49 : decode cX5_findEdge 49 = .ok (.iaload, 1) := by decide +kernel
theorem dX5_findEdge_50 : decode cX5_findEdge 50 = .ok (.imul, 1) := by decide +kernel
theorem dX5_findEdge_51 : decode cX5_findEdge 51 = .ok (.istore 8, 2) := by decide +kernel
theorem dX5_findEdge_53 : decode cX5_findEdge 53 = .ok (.aload 7, 2) := by decide +kernel
theorem dX5_findEdge_55 : decode cX5_findEdge 55 = .ok (.getfield 133, 3) := by decide +kernel
theorem dX5_findEdge_58 : decode cX5_findEdge 58 = .ok (.iconst 1, 1) := by decide +kernel
theorem dX5_findEdge_59 : decode cX5_findEdge 59 = .ok (.iload_n 2, 1) := by decide +kernel
theorem dX5_findEdge_60 : decode cX5_findEdge 60 = .ok (.isub, 1) := by decide +kernel
theorem dX5_findEdge_61 : decode cX5_findEdge 61 = .ok (.baload, 1) := by decide +kernel
theorem dX5_findEdge_62 : decode cX5_findEdge 62 = .ok (.istore 9, 2) := by decide +kernel
theorem dX5_findEdge_64 : decode cX5_findEdge 64 = .ok (.iload 8, 2) := by decide +kernel
theorem dX5_findEdge_66 : decode cX5_findEdge 66 = .ok (.iload 4, 2) := by decide +kernel
theorem dX5_findEdge_68 : decode cX5_findEdge 68 = .ok (.if_icmp .le 22, 3) := by decide +kernel
theorem dX5_findEdge_71 : decode cX5_findEdge 71 = .ok (.iload 8, 2) := by decide +kernel
theorem dX5_findEdge_73 : decode cX5_findEdge 73 = .ok (.istore 4, 2) := by decide +kernel
theorem dX5_findEdge_75 : decode cX5_findEdge 75 = .ok (.iload 9, 2) := by decide +kernel
theorem dX5_findEdge_77 : decode cX5_findEdge 77 = .ok (.ifCond .ne 7, 3) := by decide +kernel
theorem dX5_findEdge_80 : decode cX5_findEdge 80 = .ok (.iconst 1, 1) := by decide +kernel
theorem dX5_findEdge_81 : decode cX5_findEdge 81 = .ok (.goto 4, 3) := by decide +kernel
theorem dX5_findEdge_84 : decode cX5_findEdge 84 = .ok (.iconst 0, 1) := by decide +kernel
theorem dX5_findEdge_85 : decode cX5_findEdge 85 = .ok (.istore 5, 2) := by decide +kernel
theorem dX5_findEdge_87 : decode cX5_findEdge 87 = .ok (.goto 27, 3) := by decide +kernel
theorem dX5_findEdge_90 : decode cX5_findEdge 90 = .ok (.iload 8, 2) := by decide +kernel
theorem dX5_findEdge_92 : decode cX5_findEdge 92 = .ok (.iload 4, 2) := by decide +kernel
theorem dX5_findEdge_94 : decode cX5_findEdge 94 = .ok (.if_icmp .ne 20, 3) := by decide +kernel
theorem dX5_findEdge_97 : decode cX5_findEdge 97 = .ok (.iload 5, 2) := by decide +kernel
theorem dX5_findEdge_99 : decode cX5_findEdge 99 = .ok (.ifCond .eq 12, 3) := by decide +kernel
theorem dX5_findEdge_102 : decode cX5_findEdge 102 = .ok (.iload 9, 2) := by decide +kernel
theorem dX5_findEdge_104 : decode cX5_findEdge 104 = .ok (.ifCond .ne 7, 3) := by decide +kernel
theorem dX5_findEdge_107 : decode cX5_findEdge 107 = .ok (.iconst 1, 1) := by decide +kernel
theorem dX5_findEdge_108 : decode cX5_findEdge 108 = .ok (.goto 4, 3) := by decide +kernel
theorem dX5_findEdge_111 : decode cX5_findEdge 111 = .ok (.iconst 0, 1) := by decide +kernel
theorem dX5_findEdge_112 : decode cX5_findEdge 112 = .ok (.istore 5, 2) := by decide +kernel
theorem dX5_findEdge_114 : decode cX5_findEdge 114 = .ok (.iinc 6 1, 3) := by decide +kernel
theorem dX5_findEdge_117 : decode cX5_findEdge 117 = .ok (.goto (-102), 3) := by decide +kernel
theorem dX5_findEdge_120 : decode cX5_findEdge 120 = .ok (.aload_n 0, 1) := by decide +kernel
theorem dX5_findEdge_121 : decode cX5_findEdge 121 = .ok (.getfield 30, 3) := by decide +kernel
theorem dX5_findEdge_124 : decode cX5_findEdge 124 = .ok (.iload_n 2, 1) := by decide +kernel
theorem dX5_findEdge_125 : decode cX5_findEdge 125 = .ok (.iload_n 3, 1) := by decide +kernel
theorem dX5_findEdge_126 : decode cX5_findEdge 126 = .ok (.iload 4, 2) := by decide +kernel
theorem dX5_findEdge_128 : decode cX5_findEdge 128 = .ok (.imul, 1) := by decide +kernel
theorem dX5_findEdge_129 : decode cX5_findEdge 129 = .ok (.iastore, 1) := by decide +kernel
theorem dX5_findEdge_130 : decode cX5_findEdge 130 = .ok (.aload_n 0, 1) := by decide +kernel
theorem dX5_findEdge_131 : decode cX5_findEdge 131 = .ok (.getfield 34, 3) := by decide +kernel
theorem dX5_findEdge_134 : decode cX5_findEdge 134 = .ok (.iload_n 2, 1) := by decide +kernel
theorem dX5_findEdge_135 : decode cX5_findEdge 135 = .ok (.iload 5, 2) := by decide +kernel
theorem dX5_findEdge_137 : decode cX5_findEdge 137 = .ok (.bastore, 1) := by decide +kernel
theorem dX5_findEdge_138 : decode cX5_findEdge 138 = .ok (.return_, 1) := by decide +kernel
theorem dX5_edgesLeaveRoom_0 : decode cX5_edgesLeaveRoom 0 = .ok (.aload_n 0, 1) := by decide +kernel
theorem dX5_edgesLeaveRoom_1 : decode cX5_edgesLeaveRoom 1 = .ok (.getfield 34, 3) := by decide +kernel
theorem dX5_edgesLeaveRoom_4 : decode cX5_edgesLeaveRoom 4 = .ok (.iconst 0, 1) := by decide +kernel
theorem dX5_edgesLeaveRoom_5 : decode cX5_edgesLeaveRoom 5 = .ok (.baload, 1) := by decide +kernel
theorem dX5_edgesLeaveRoom_6 : decode cX5_edgesLeaveRoom 6 = .ok (.ifCond .eq 16, 3) := by decide +kernel
theorem dX5_edgesLeaveRoom_9 : decode cX5_edgesLeaveRoom 9 = .ok (.aload_n 0, 1) := by decide +kernel
theorem dX5_edgesLeaveRoom_10 : decode cX5_edgesLeaveRoom 10 = .ok (.getfield 34, 3) := by decide +kernel
theorem dX5_edgesLeaveRoom_13 : decode cX5_edgesLeaveRoom 13 = .ok (.iconst 1, 1) := by decide +kernel
theorem dX5_edgesLeaveRoom_14 : decode cX5_edgesLeaveRoom 14 = .ok (.baload, 1) := by decide +kernel
theorem dX5_edgesLeaveRoom_15 : decode cX5_edgesLeaveRoom 15 = .ok (.ifCond .eq 7, 3) := by decide +kernel
theorem dX5_edgesLeaveRoom_18 : decode cX5_edgesLeaveRoom 18 = .ok (.iconst 1, 1) := by decide +kernel
theorem dX5_edgesLeaveRoom_19 : decode cX5_edgesLeaveRoom 19 = .ok (.goto 4, 3) := by decide +kernel
theorem dX5_edgesLeaveRoom_22 : decode cX5_edgesLeaveRoom 22 = .ok (.iconst 0, 1) := by decide +kernel
theorem dX5_edgesLeaveRoom_23 : decode cX5_edgesLeaveRoom 23 = .ok (.istore_n 1, 1) := by decide +kernel
theorem dX5_edgesLeaveRoom_24 : decode cX5_edgesLeaveRoom 24 = .ok (.aload_n 0, 1) := by decide +kernel
theorem dX5_edgesLeaveRoom_25 : decode cX5_edgesLeaveRoom 25 = .ok (.getfield 30, 3) := by decide +kernel
theorem dX5_edgesLeaveRoom_28 : decode cX5_edgesLeaveRoom 28 = .ok (.iconst 0, 1) := by decide +kernel
theorem dX5_edgesLeaveRoom_29 : decode cX5_edgesLeaveRoom 29 = .ok (.iaload, 1) := by decide +kernel
theorem dX5_edgesLeaveRoom_30 : decode cX5_edgesLeaveRoom 30 = .ok (.aload_n 0, 1) := by decide +kernel
theorem dX5_edgesLeaveRoom_31 : decode cX5_edgesLeaveRoom 31 = .ok (.getfield 30, 3) := by decide +kernel
theorem dX5_edgesLeaveRoom_34 : decode cX5_edgesLeaveRoom 34 = .ok (.iconst 1, 1) := by decide +kernel
theorem dX5_edgesLeaveRoom_35 : decode cX5_edgesLeaveRoom 35 = .ok (.iaload, 1) := by decide +kernel
theorem dX5_edgesLeaveRoom_36 : decode cX5_edgesLeaveRoom 36 = .ok (.if_icmp .lt 22, 3) := by decide +kernel
theorem dX5_edgesLeaveRoom_39 : decode cX5_edgesLeaveRoom 39 = .ok (.aload_n 0, 1) := by decide +kernel
theorem dX5_edgesLeaveRoom_40 : decode cX5_edgesLeaveRoom 40 = .ok (.getfield 30, 3) := by decide +kernel
theorem dX5_edgesLeaveRoom_43 : decode cX5_edgesLeaveRoom 43 = .ok (.iconst 0, 1) := by decide +kernel
theorem dX5_edgesLeaveRoom_44 : decode cX5_edgesLeaveRoom 44 = .ok (.iaload, 1) := by decide +kernel
theorem dX5_edgesLeaveRoom_45 : decode cX5_edgesLeaveRoom 45 = .ok (.aload_n 0, 1) := by decide +kernel
theorem dX5_edgesLeaveRoom_46 : decode cX5_edgesLeaveRoom 46 = .ok (.getfield 30, 3) := by decide +kernel
theorem dX5_edgesLeaveRoom_49 : decode cX5_edgesLeaveRoom 49 = .ok (.iconst 1, 1) := by decide +kernel
theorem dX5_edgesLeaveRoom_50 : decode cX5_edgesLeaveRoom 50 = .ok (.iaload, 1) := by decide +kernel
theorem dX5_edgesLeaveRoom_51 : decode cX5_edgesLeaveRoom 51 = .ok (.if_icmp .ne 11, 3) := by decide +kernel
theorem dX5_edgesLeaveRoom_54 : decode cX5_edgesLeaveRoom 54 = .ok (.iload_n 1, 1) := by decide +kernel
theorem dX5_edgesLeaveRoom_55 : decode cX5_edgesLeaveRoom 55 = .ok (.ifCond .eq 7, 3) := by decide +kernel
theorem dX5_edgesLeaveRoom_58 : decode cX5_edgesLeaveRoom 58 = .ok (.iconst 1, 1) := by decide +kernel
theorem dX5_edgesLeaveRoom_59 : decode cX5_edgesLeaveRoom 59 = .ok (.goto 4, 3) := by decide +kernel
theorem dX5_edgesLeaveRoom_62 : decode cX5_edgesLeaveRoom 62 = .ok (.iconst 0, 1) := by decide +kernel
theorem dX5_edgesLeaveRoom_63 : decode cX5_edgesLeaveRoom 63 = .ok (.ireturn, 1) := by decide +kernel
theorem dX5_becomeHot_0 : decode cX5_becomeHot 0 = .ok (.aload_n 1, 1) := by decide +kernel
theorem dX5_becomeHot_1 : decode cX5_becomeHot 1 = .ok (.iconst 0, 1) := by decide +kernel
theorem dX5_becomeHot_2 : decode cX5_becomeHot 2 = .ok (.putfield 136, 3) := by decide +kernel
theorem dX5_becomeHot_5 : decode cX5_becomeHot 5 = .ok (.aload_n 1, 1) := by decide +kernel
theorem dX5_becomeHot_6 : decode cX5_becomeHot 6 = .ok (.aload_n 0, 1) := by decide +kernel
theorem dX5_becomeHot_7 : decode cX5_becomeHot 7 = .ok (.getfield 17, 3) := by decide +kernel
theorem dX5_becomeHot_10 : decode cX5_becomeHot 10 = .ok (.invokestatic 50, 3) := by decide +kernel
theorem dX5_becomeHot_13 : decode cX5_becomeHot 13 = .ok (.putfield 58, 3) := by decide +kernel
theorem dX5_becomeHot_16 : decode cX5_becomeHot 16 = .ok (.iconst 0, 1) := by decide +kernel
theorem dX5_becomeHot_17 : decode cX5_becomeHot 17 = .ok (.istore_n 2, 1) := by decide +kernel
theorem dX5_becomeHot_18 : decode cX5_becomeHot 18 = .ok (.iload_n 2, 1) := by decide +kernel
theorem dX5_becomeHot_19 : decode cX5_becomeHot 19 = .ok (.iconst 1, 1) := by decide +kernel
theorem dX5_becomeHot_20 : decode cX5_becomeHot 20 = .ok (.if_icmp .gt 74, 3) := by decide +kernel
theorem dX5_becomeHot_23 : decode cX5_becomeHot 23 = .ok (.aload_n 1, 1) := by decide +kernel
theorem dX5_becomeHot_24 : decode cX5_becomeHot 24 = .ok (.getfield 130, 3) := by decide +kernel
theorem dX5_becomeHot_27 : decode cX5_becomeHot 27 = .ok (.iload_n 2, 1) := by decide +kernel
theorem dX5_becomeHot_28 : decode cX5_becomeHot 28 = .ok (.aload_n 0, 1) := by decide +kernel
theorem dX5_becomeHot_29 : decode cX5_becomeHot 29 = .ok (.getfield 30, 3) := by decide +kernel
theorem dX5_becomeHot_32 : decode cX5_becomeHot 32 = .ok (.iload_n 2, 1) := by decide +kernel
theorem dX5_becomeHot_33 : decode cX5_becomeHot 33 = .ok (.iaload, 1) := by decide +kernel
theorem dX5_becomeHot_34 : decode cX5_becomeHot 34 = .ok (.iastore, 1) := by decide +kernel
theorem dX5_becomeHot_35 : decode cX5_becomeHot 35 = .ok (.aload_n 1, 1) := by decide +kernel
theorem dX5_becomeHot_36 : decode cX5_becomeHot 36 = .ok (.getfield 133, 3) := by decide +kernel
theorem dX5_becomeHot_39 : decode cX5_becomeHot 39 = .ok (.iload_n 2, 1) := by decide +kernel
theorem dX5_becomeHot_40 : decode cX5_becomeHot 40 = .ok (.aload_n 0, 1) := by decide +kernel
theorem dX5_becomeHot_41 : decode cX5_becomeHot 41 = .ok (.getfield 34, 3) := by decide +kernel
theorem dX5_becomeHot_44 : decode cX5_becomeHot 44 = .ok (.iload_n 2, 1) := by decide +kernel
theorem dX5_becomeHot_45 : decode cX5_becomeHot 45 = .ok (.baload, 1) := by decide +kernel
theorem dX5_becomeHot_46 : decode cX5_becomeHot 46 = .ok (.bastore, 1) := by decide +kernel
theorem dX5_becomeHot_47 : decode cX5_becomeHot 47 = .ok (.iconst 0, 1) := by decide +kernel
theorem dX5_becomeHot_48 : decode cX5_becomeHot 48 = .ok (.istore_n 3, 1) := by decide +kernel
theorem dX5_becomeHot_49 : decode cX5_becomeHot 49 = .ok (.iload_n 3, 1) := by decide +kernel
theorem dX5_becomeHot_50 : decode cX5_becomeHot 50 = .ok (.aload_n 1, 1) := by decide +kernel
theorem dX5_becomeHot_51 : decode cX5_becomeHot 51 = .ok (.getfield 116, 3) := by decide +kernel
theorem dX5_becomeHot_54 : decode cX5_becomeHot 54 = .ok (.iload_n 2, 1) := by decide +kernel
theorem dX5_becomeHot_55 : decode cX5_becomeHot 55 = .ok (.iaload, 1) := by decide +kernel
theorem dX5_becomeHot_56 : decode cX5_becomeHot 56 = .ok (.if_icmp .ge 32, 3) := by decide +kernel
theorem dX5_becomeHot_59 : decode cX5_becomeHot 59 = .ok (.aload_n 1, 1) := by decide +kernel
theorem dX5_becomeHot_60 : decode cX5_becomeHot 60 = .ok (.dup, 1) := by decide +kernel
theorem dX5_becomeHot_61 : decode cX5_becomeHot 61 = .ok (.getfield 58, 3) := by decide +kernel
theorem dX5_becomeHot_64 : decode cX5_becomeHot 64 = .ok (.aload_n 0, 1) := by decide +kernel
theorem dX5_becomeHot_65 : decode cX5_becomeHot 65 = .ok (.getfield 11, 3) := by decide +kernel
theorem dX5_becomeHot_68 : decode cX5_becomeHot 68 = .ok (.aload_n 1, 1) := by decide +kernel
theorem dX5_becomeHot_69 : decode cX5_becomeHot 69 = .ok (.iload_n 2, 1) := by decide +kernel
theorem dX5_becomeHot_70 : decode cX5_becomeHot 70 = .ok (.iload_n 3, 1) := by decide +kernel
theorem dX5_becomeHot_71 : decode cX5_becomeHot 71 = .ok (.invokevirtual 122, 3) := by decide +kernel
theorem dX5_becomeHot_74 : decode cX5_becomeHot 74 = .ok (.aaload, 1) := by decide +kernel
theorem dX5_becomeHot_75 : decode cX5_becomeHot 75 = .ok (.getfield 58, 3) := by decide +kernel
theorem dX5_becomeHot_78 : decode cX5_becomeHot 78 = .ok (.lor, 1) := by decide +kernel
theorem dX5_becomeHot_79 : decode cX5_becomeHot 79 = .ok (.putfield 58, 3) := by decide +kernel
theorem dX5_becomeHot_82 : decode cX5_becomeHot 82 = .ok (.iinc 3 1, 3) := by decide +kernel
theorem dX5_becomeHot_85 : decode cX5_becomeHot 85 = .ok (.goto (-36), 3) := by decide +kernel
theorem dX5_becomeHot_88 : decode cX5_becomeHot 88 = .ok (.iinc 2 1, 3) := by decide +kernel
theorem dX5_becomeHot_91 : decode cX5_becomeHot 91 = .ok (.goto (-73), 3) := by decide +kernel
theorem dX5_becomeHot_94 : decode cX5_becomeHot 94 = .ok (.aload_n 1, 1) := by decide +kernel
theorem dX5_becomeHot_95 : decode cX5_becomeHot 95 = .ok (.getfield 54, 3) := by decide +kernel
theorem dX5_becomeHot_98 : decode cX5_becomeHot 98 = .ok (.aload_n 0, 1) := by decide +kernel
theorem dX5_becomeHot_99 : decode cX5_becomeHot 99 = .ok (.getfield 17, 3) := by decide +kernel
theorem dX5_becomeHot_102 : decode cX5_becomeHot 102 = .ok (.invokestatic 50, 3) := by decide +kernel
theorem dX5_becomeHot_105 : decode cX5_becomeHot 105 = .ok (.ldc2_w 139, 3) := by decide +kernel
theorem dX5_becomeHot_108 : decode cX5_becomeHot 108 = .ok (.lxor, 1) := by decide +kernel
theorem dX5_becomeHot_109 : decode cX5_becomeHot 109 = .ok (.land, 1) := by decide +kernel
theorem dX5_becomeHot_110 : decode cX5_becomeHot 110 = .ok (.lstore_n 2, 1) := by decide +kernel
theorem dX5_becomeHot_111 : decode cX5_becomeHot 111 = .ok (.iconst (-1), 1) := by decide +kernel
theorem dX5_becomeHot_112 : decode cX5_becomeHot 112 = .ok (.istore 4, 2) := by decide +kernel
theorem dX5_becomeHot_114 : decode cX5_becomeHot 114 = .ok (.sipush 8192, 3) := by decide +kernel
theorem dX5_becomeHot_117 : decode cX5_becomeHot 117 = .ok (.istore 5, 2) := by decide +kernel
theorem dX5_becomeHot_119 : decode cX5_becomeHot 119 = .ok (.iload 5, 2) := by decide +kernel
theorem dX5_becomeHot_121 : decode cX5_becomeHot 121 = .ok (.ifCond .le 54, 3) := by decide +kernel
theorem dX5_becomeHot_124 : decode cX5_becomeHot 124 = .ok (.aload_n 0, 1) := by decide +kernel
theorem dX5_becomeHot_125 : decode cX5_becomeHot 125 = .ok (.lload_n 2, 1) := by decide +kernel
theorem dX5_becomeHot_126 : decode cX5_becomeHot 126 = .ok (.iload 4, 2) := by decide +kernel
theorem dX5_becomeHot_128 : decode cX5_becomeHot 128 = .ok (.iload 5, 2) := by decide +kernel
theorem dX5_becomeHot_130 : decode cX5_becomeHot 130 = .ok (.iadd, 1) := by decide +kernel
theorem dX5_becomeHot_131 : decode cX5_becomeHot 131 = .ok (.invokevirtual 141, 3) := by decide +kernel
theorem dX5_becomeHot_134 : decode cX5_becomeHot 134 = .ok (.aload_n 0, 1) := by decide +kernel
theorem dX5_becomeHot_135 : decode cX5_becomeHot 135 = .ok (.aload_n 1, 1) := by decide +kernel
theorem dX5_becomeHot_136 : decode cX5_becomeHot 136 = .ok (.iconst 0, 1) := by decide +kernel
theorem dX5_becomeHot_137 : decode cX5_becomeHot 137 = .ok (.iload 4, 2) := by decide +kernel
theorem dX5_becomeHot_139 : decode cX5_becomeHot 139 = .ok (.iload 5, 2) := by decide +kernel
theorem dX5_becomeHot_141 : decode cX5_becomeHot 141 = .ok (.iadd, 1) := by decide +kernel
theorem dX5_becomeHot_142 : decode cX5_becomeHot 142 = .ok (.invokevirtual 145, 3) := by decide +kernel
theorem dX5_becomeHot_145 : decode cX5_becomeHot 145 = .ok (.aload_n 0, 1) := by decide +kernel
theorem dX5_becomeHot_146 : decode cX5_becomeHot 146 = .ok (.aload_n 1, 1) := by decide +kernel
theorem dX5_becomeHot_147 : decode cX5_becomeHot 147 = .ok (.iconst 1, 1) := by decide +kernel
theorem dX5_becomeHot_148 : decode cX5_becomeHot 148 = .ok (.iload 4, 2) := by decide +kernel
theorem dX5_becomeHot_150 : decode cX5_becomeHot 150 = .ok (.iload 5, 2) := by decide +kernel
theorem dX5_becomeHot_152 : decode cX5_becomeHot 152 = .ok (.iadd, 1) := by decide +kernel
theorem dX5_becomeHot_153 : decode cX5_becomeHot 153 = .ok (.invokevirtual 145, 3) := by decide +kernel
theorem dX5_becomeHot_156 : decode cX5_becomeHot 156 = .ok (.if_icmp .le 10, 3) := by decide +kernel
theorem dX5_becomeHot_159 : decode cX5_becomeHot 159 = .ok (.iload 4, 2) := by decide +kernel
theorem dX5_becomeHot_161 : decode cX5_becomeHot 161 = .ok (.iload 5, 2) := by decide +kernel
theorem dX5_becomeHot_163 : decode cX5_becomeHot 163 = .ok (.iadd, 1) := by decide +kernel
theorem dX5_becomeHot_164 : decode cX5_becomeHot 164 = .ok (.istore 4, 2) := by decide +kernel
theorem dX5_becomeHot_166 : decode cX5_becomeHot 166 = .ok (.iload 5, 2) := by decide +kernel
theorem dX5_becomeHot_168 : decode cX5_becomeHot 168 = .ok (.iconst 2, 1) := by decide +kernel
theorem dX5_becomeHot_169 : decode cX5_becomeHot 169 = .ok (.idiv, 1) := by decide +kernel
theorem dX5_becomeHot_170 : decode cX5_becomeHot 170 = .ok (.istore 5, 2) := by decide +kernel
theorem dX5_becomeHot_172 : decode cX5_becomeHot 172 = .ok (.goto (-53), 3) := by decide +kernel
theorem dX5_becomeHot_175 : decode cX5_becomeHot 175 = .ok (.aload_n 0, 1) := by decide +kernel
theorem dX5_becomeHot_176 : decode cX5_becomeHot 176 = .ok (.lload_n 2, 1) := by decide +kernel
theorem dX5_becomeHot_177 : decode cX5_becomeHot 177 = .ok (.iload 4, 2) := by decide +kernel
theorem dX5_becomeHot_179 : decode cX5_becomeHot 179 = .ok (.iconst 1, 1) := by decide +kernel
theorem dX5_becomeHot_180 : decode cX5_becomeHot 180 = .ok (.iadd, 1) := by decide +kernel
theorem dX5_becomeHot_181 : decode cX5_becomeHot 181 = .ok (.invokevirtual 141, 3) := by decide +kernel
theorem dX5_becomeHot_184 : decode cX5_becomeHot 184 = .ok (.aload_n 1, 1) := by decide +kernel
theorem dX5_becomeHot_185 : decode cX5_becomeHot 185 = .ok (.iload 4, 2) := by decide +kernel
theorem dX5_becomeHot_187 : decode cX5_becomeHot 187 = .ok (.iconst 1, 1) := by decide +kernel
theorem dX5_becomeHot_188 : decode cX5_becomeHot 188 = .ok (.iadd, 1) := by decide +kernel
theorem dX5_becomeHot_189 : decode cX5_becomeHot 189 = .ok (.putfield 149, 3) := by decide +kernel
theorem dX5_becomeHot_192 : decode cX5_becomeHot 192 = .ok (.aload_n 1, 1) := by decide +kernel
theorem dX5_becomeHot_193 : decode cX5_becomeHot 193 = .ok (.aload_n 0, 1) := by decide +kernel
theorem dX5_becomeHot_194 : decode cX5_becomeHot 194 = .ok (.aload_n 1, 1) := by decide +kernel
theorem dX5_becomeHot_195 : decode cX5_becomeHot 195 = .ok (.iconst 0, 1) := by decide +kernel
theorem dX5_becomeHot_196 : decode cX5_becomeHot 196 = .ok (.iload 4, 2) := by decide +kernel
theorem dX5_becomeHot_198 : decode cX5_becomeHot 198 = .ok (.iconst 1, 1) := by decide +kernel
theorem dX5_becomeHot_199 : decode cX5_becomeHot 199 = .ok (.iadd, 1) := by decide +kernel
theorem dX5_becomeHot_200 : decode cX5_becomeHot 200 = .ok (.invokevirtual 145, 3) := by decide +kernel
theorem dX5_becomeHot_203 : decode cX5_becomeHot 203 = .ok (.putfield 152, 3) := by decide +kernel
theorem dX5_becomeHot_206 : decode cX5_becomeHot 206 = .ok (.return_, 1) := by decide +kernel
theorem dX5_simplest_0 : decode cX5_simplest 0 = .ok (.iload_n 2, 1) := by decide +kernel
theorem dX5_simplest_1 : decode cX5_simplest 1 = .ok (.ifCond .lt 11, 3) := by decide +kernel
theorem dX5_simplest_4 : decode cX5_simplest 4 = .ok (.iload_n 2, 1) := by decide +kernel
theorem dX5_simplest_5 : decode cX5_simplest 5 = .ok (.ifCond .ne 18, 3) := by decide +kernel
theorem dX5_simplest_8 : decode cX5_simplest 8 = .ok (.iload_n 3, 1) := by decide +kernel
theorem dX5_simplest_9 : decode cX5_simplest 9 = .ok (.ifCond .ne 14, 3) := by decide +kernel
theorem dX5_simplest_12 : decode cX5_simplest 12 = .ok (.iload_n 2, 1) := by decide +kernel
theorem dX5_simplest_13 : decode cX5_simplest 13 = .ok (.ineg, 1) := by decide +kernel
theorem dX5_simplest_14 : decode cX5_simplest 14 = .ok (.iload_n 3, 1) := by decide +kernel
theorem dX5_simplest_15 : decode cX5_simplest 15 = .ok (.iload_n 0, 1) := by decide +kernel
theorem dX5_simplest_16 : decode cX5_simplest 16 = .ok (.ineg, 1) := by decide +kernel
theorem dX5_simplest_17 : decode cX5_simplest 17 = .ok (.iload_n 1, 1) := by decide +kernel
theorem dX5_simplest_18 : decode cX5_simplest 18 = .ok (.invokestatic 155, 3) := by decide +kernel
theorem dX5_simplest_21 : decode cX5_simplest 21 = .ok (.ineg, 1) := by decide +kernel
theorem dX5_simplest_22 : decode cX5_simplest 22 = .ok (.ireturn, 1) := by decide +kernel
theorem dX5_simplest_23 : decode cX5_simplest 23 = .ok (.iload_n 0, 1) := by decide +kernel
theorem dX5_simplest_24 : decode cX5_simplest 24 = .ok (.ifCond .gt 11, 3) := by decide +kernel
theorem dX5_simplest_27 : decode cX5_simplest 27 = .ok (.iload_n 0, 1) := by decide +kernel
theorem dX5_simplest_28 : decode cX5_simplest 28 = .ok (.ifCond .ne 15, 3) := by decide +kernel
theorem dX5_simplest_31 : decode cX5_simplest 31 = .ok (.iload_n 1, 1) := by decide +kernel
theorem dX5_simplest_32 : decode cX5_simplest 32 = .ok (.ifCond .ne 11, 3) := by decide +kernel
theorem dX5_simplest_35 : decode cX5_simplest 35 = .ok (.iload_n 0, 1) := by decide +kernel
theorem dX5_simplest_36 : decode cX5_simplest 36 = .ok (.iload_n 1, 1) := by decide +kernel
theorem dX5_simplest_37 : decode cX5_simplest 37 = .ok (.iload_n 2, 1) := by decide +kernel
theorem dX5_simplest_38 : decode cX5_simplest 38 = .ok (.iload_n 3, 1) := by decide +kernel
theorem dX5_simplest_39 : decode cX5_simplest 39 = .ok (.invokestatic 155, 3) := by decide +kernel
theorem dX5_simplest_42 : decode cX5_simplest 42 = .ok (.ireturn, 1) := by decide +kernel
theorem dX5_simplest_43 : decode cX5_simplest 43 = .ok (.iconst 0, 1) := by decide +kernel
theorem dX5_simplest_44 : decode cX5_simplest 44 = .ok (.ireturn, 1) := by decide +kernel
theorem dX5_simplestPositive_0 : decode cX5_simplestPositive 0 = .ok (.sipush 1024, 3) := by decide +kernel
theorem dX5_simplestPositive_3 : decode cX5_simplestPositive 3 = .ok (.istore 4, 2) := by decide +kernel
theorem dX5_simplestPositive_5 : decode cX5_simplestPositive 5 = .ok (.iload 4, 2) := by decide +kernel
theorem dX5_simplestPositive_7 : decode cX5_simplestPositive 7 = .ok (.ifCond .le 63, 3) := by decide +kernel
theorem dX5_simplestPositive_10 : decode cX5_simplestPositive 10 = .ok (.iload_n 0, 1) := by decide +kernel
theorem dX5_simplestPositive_11 : decode cX5_simplestPositive 11 = .ok (.iload 4, 2) := by decide +kernel
theorem dX5_simplestPositive_13 : decode cX5_simplestPositive 13 = .ok (.idiv, 1) := by decide +kernel
theorem dX5_simplestPositive_14 : decode cX5_simplestPositive 14 = .ok (.iload 4, 2) := by decide +kernel
theorem dX5_simplestPositive_16 : decode cX5_simplestPositive 16 = .ok (.imul, 1) := by decide +kernel
theorem dX5_simplestPositive_17 : decode cX5_simplestPositive 17 = .ok (.istore 5, 2) := by decide +kernel
theorem dX5_simplestPositive_19 : decode cX5_simplestPositive 19 = .ok (.iload 5, 2) := by decide +kernel
theorem dX5_simplestPositive_21 : decode cX5_simplestPositive 21 = .ok (.iload_n 0, 1) := by decide +kernel
theorem dX5_simplestPositive_22 : decode cX5_simplestPositive 22 = .ok (.if_icmp .lt 13, 3) := by decide +kernel
theorem dX5_simplestPositive_25 : decode cX5_simplestPositive 25 = .ok (.iload 5, 2) := by decide +kernel
theorem dX5_simplestPositive_27 : decode cX5_simplestPositive 27 = .ok (.iload_n 0, 1) := by decide +kernel
theorem dX5_simplestPositive_28 : decode cX5_simplestPositive 28 = .ok (.if_icmp .ne 14, 3) := by decide +kernel
theorem dX5_simplestPositive_31 : decode cX5_simplestPositive 31 = .ok (.iload_n 1, 1) := by decide +kernel
theorem dX5_simplestPositive_32 : decode cX5_simplestPositive 32 = .ok (.ifCond .ne 10, 3) := by decide +kernel
theorem dX5_simplestPositive_35 : decode cX5_simplestPositive 35 = .ok (.iload 5, 2) := by decide +kernel
theorem dX5_simplestPositive_37 : decode cX5_simplestPositive 37 = .ok (.iload 4, 2) := by decide +kernel
theorem dX5_simplestPositive_39 : decode cX5_simplestPositive 39 = .ok (.iadd, 1) := by decide +kernel
theorem dX5_simplestPositive_40 : decode cX5_simplestPositive 40 = .ok (.istore 5, 2) := by decide +kernel
theorem dX5_simplestPositive_42 : decode cX5_simplestPositive 42 = .ok (.iload 5, 2) := by decide +kernel
theorem dX5_simplestPositive_44 : decode cX5_simplestPositive 44 = .ok (.iload_n 2, 1) := by decide +kernel
theorem dX5_simplestPositive_45 : decode cX5_simplestPositive 45 = .ok (.if_icmp .lt 13, 3) := by decide +kernel
theorem dX5_simplestPositive_48 : decode cX5_simplestPositive 48 = .ok (.iload 5, 2) := by decide +kernel
theorem dX5_simplestPositive_50 : decode cX5_simplestPositive 50 = .ok (.iload_n 2, 1) := by decide +kernel
theorem dX5_simplestPositive_51 : decode cX5_simplestPositive 51 = .ok (.if_icmp .ne 10, 3) := by decide +kernel
theorem dX5_simplestPositive_54 : decode cX5_simplestPositive 54 = .ok (.iload_n 3, 1) := by decide +kernel
theorem dX5_simplestPositive_55 : decode cX5_simplestPositive 55 = .ok (.ifCond .eq 6, 3) := by decide +kernel
theorem dX5_simplestPositive_58 : decode cX5_simplestPositive 58 = .ok (.iload 5, 2) := by decide +kernel
theorem dX5_simplestPositive_60 : decode cX5_simplestPositive 60 = .ok (.ireturn, 1) := by decide +kernel
theorem dX5_simplestPositive_61 : decode cX5_simplestPositive 61 = .ok (.iload 4, 2) := by decide +kernel
theorem dX5_simplestPositive_63 : decode cX5_simplestPositive 63 = .ok (.iconst 2, 1) := by decide +kernel
theorem dX5_simplestPositive_64 : decode cX5_simplestPositive 64 = .ok (.idiv, 1) := by decide +kernel
theorem dX5_simplestPositive_65 : decode cX5_simplestPositive 65 = .ok (.istore 4, 2) := by decide +kernel
theorem dX5_simplestPositive_67 : decode cX5_simplestPositive 67 = .ok (.goto (-62), 3) := by decide +kernel
theorem dX5_simplestPositive_70 : decode cX5_simplestPositive 70 = .ok (.iload_n 0, 1) := by decide +kernel
theorem dX5_simplestPositive_71 : decode cX5_simplestPositive 71 = .ok (.ireturn, 1) := by decide +kernel
theorem dX5_enter_0 : decode cX5_enter 0 = .ok (.aload_n 0, 1) := by decide +kernel
theorem dX5_enter_1 : decode cX5_enter 1 = .ok (.getfield 17, 3) := by decide +kernel
theorem dX5_enter_4 : decode cX5_enter 4 = .ok (.istore_n 1, 1) := by decide +kernel
theorem dX5_enter_5 : decode cX5_enter 5 = .ok (.aload_n 0, 1) := by decide +kernel
theorem dX5_enter_6 : decode cX5_enter 6 = .ok (.getfield 21, 3) := by decide +kernel
theorem dX5_enter_9 : decode cX5_enter 9 = .ok (.iload_n 1, 1) := by decide +kernel
theorem dX5_enter_10 : decode cX5_enter 10 = .ok (.iload_n 1, 1) := by decide +kernel
theorem dX5_enter_11 : decode cX5_enter 11 = .ok (.invokestatic 50, 3) := by decide +kernel
theorem dX5_enter_14 : decode cX5_enter 14 = .ok (.lastore, 1) := by decide +kernel
theorem dX5_enter_15 : decode cX5_enter 15 = .ok (.iconst 0, 1) := by decide +kernel
theorem dX5_enter_16 : decode cX5_enter 16 = .ok (.istore_n 2, 1) := by decide +kernel
theorem dX5_enter_17 : decode cX5_enter 17 = .ok (.iload_n 2, 1) := by decide +kernel
theorem dX5_enter_18 : decode cX5_enter 18 = .ok (.iload_n 1, 1) := by decide +kernel
theorem dX5_enter_19 : decode cX5_enter 19 = .ok (.if_icmp .ge 73, 3) := by decide +kernel
theorem dX5_enter_22 : decode cX5_enter 22 = .ok (.aload_n 0, 1) := by decide +kernel
theorem dX5_enter_23 : decode cX5_enter 23 = .ok (.iload_n 1, 1) := by decide +kernel
theorem dX5_enter_24 : decode cX5_enter 24 = .ok (.iload_n 2, 1) := by decide +kernel
theorem dX5_enter_25 : decode cX5_enter 25 = .ok (.invokevirtual 158, 3) := by decide +kernel
theorem dX5_enter_28 : decode cX5_enter 28 = .ok (.ifCond .eq 16, 3) := by decide +kernel
theorem dX5_enter_31 : decode cX5_enter 31 = .ok (.aload_n 0, 1) := by decide +kernel
theorem dX5_enter_32 : decode cX5_enter 32 = .ok (.getfield 21, 3) := by decide +kernel
theorem dX5_enter_35 : decode cX5_enter 35 = .ok (.iload_n 1, 1) := by decide +kernel
theorem dX5_enter_36 : decode cX5_enter 36 = .ok (.dup2, 1) := by decide +kernel
theorem dX5_enter_37 : decode cX5_enter 37 = .ok (.laload, 1) := by decide +kernel
theorem dX5_enter_38 : decode cX5_enter 38 = .ok (.iload_n 2, 1) := by decide +kernel
theorem dX5_enter_39 : decode cX5_enter 39 = .ok (.invokestatic 50, 3) := by decide +kernel
theorem dX5_enter_42 : decode cX5_enter 42 = .ok (.lor, 1) := by decide +kernel
theorem dX5_enter_43 : decode cX5_enter 43 = .ok (.lastore, 1) := by decide +kernel
theorem dX5_enter_44 : decode cX5_enter 44 = .ok (.aload_n 0, 1) := by decide +kernel
theorem dX5_enter_45 : decode cX5_enter 45 = .ok (.iload_n 2, 1) := by decide +kernel
theorem dX5_enter_46 : decode cX5_enter 46 = .ok (.iload_n 1, 1) := by decide +kernel
theorem dX5_enter_47 : decode cX5_enter 47 = .ok (.invokevirtual 158, 3) := by decide +kernel
theorem dX5_enter_50 : decode cX5_enter 50 = .ok (.ifCond .eq 19, 3) := by decide +kernel
theorem dX5_enter_53 : decode cX5_enter 53 = .ok (.aload_n 0, 1) := by decide +kernel
theorem dX5_enter_54 : decode cX5_enter 54 = .ok (.getfield 21, 3) := by decide +kernel
theorem dX5_enter_57 : decode cX5_enter 57 = .ok (.iload_n 2, 1) := by decide +kernel
theorem dX5_enter_58 : decode cX5_enter 58 = .ok (.dup2, 1) := by decide +kernel
theorem dX5_enter_59 : decode cX5_enter 59 = .ok (.laload, 1) := by decide +kernel
theorem dX5_enter_60 : decode cX5_enter 60 = .ok (.iload_n 1, 1) := by decide +kernel
theorem dX5_enter_61 : decode cX5_enter 61 = .ok (.invokestatic 50, 3) := by decide +kernel
theorem dX5_enter_64 : decode cX5_enter 64 = .ok (.lor, 1) := by decide +kernel
theorem dX5_enter_65 : decode cX5_enter 65 = .ok (.lastore, 1) := by decide +kernel
theorem dX5_enter_66 : decode cX5_enter 66 = .ok (.goto 20, 3) := by decide +kernel
theorem dX5_enter_69 : decode cX5_enter 69 = .ok (.aload_n 0, 1) := by decide +kernel
theorem dX5_enter_70 : decode cX5_enter 70 = .ok (.getfield 21, 3) := by decide +kernel
theorem dX5_enter_73 : decode cX5_enter 73 = .ok (.iload_n 2, 1) := by decide +kernel
theorem dX5_enter_74 : decode cX5_enter 74 = .ok (.dup2, 1) := by decide +kernel
theorem dX5_enter_75 : decode cX5_enter 75 = .ok (.laload, 1) := by decide +kernel
theorem dX5_enter_76 : decode cX5_enter 76 = .ok (.iload_n 1, 1) := by decide +kernel
theorem dX5_enter_77 : decode cX5_enter 77 = .ok (.invokestatic 50, 3) := by decide +kernel
theorem dX5_enter_80 : decode cX5_enter 80 = .ok (.ldc2_w 139, 3) := by decide +kernel
theorem dX5_enter_83 : decode cX5_enter 83 = .ok (.lxor, 1) := by decide +kernel
theorem dX5_enter_84 : decode cX5_enter 84 = .ok (.land, 1) := by decide +kernel
theorem dX5_enter_85 : decode cX5_enter 85 = .ok (.lastore, 1) := by decide +kernel
theorem dX5_enter_86 : decode cX5_enter 86 = .ok (.iinc 2 1, 3) := by decide +kernel
theorem dX5_enter_89 : decode cX5_enter 89 = .ok (.goto (-72), 3) := by decide +kernel
theorem dX5_enter_92 : decode cX5_enter 92 = .ok (.aload_n 0, 1) := by decide +kernel
theorem dX5_enter_93 : decode cX5_enter 93 = .ok (.iload_n 1, 1) := by decide +kernel
theorem dX5_enter_94 : decode cX5_enter 94 = .ok (.iconst 1, 1) := by decide +kernel
theorem dX5_enter_95 : decode cX5_enter 95 = .ok (.iadd, 1) := by decide +kernel
theorem dX5_enter_96 : decode cX5_enter 96 = .ok (.putfield 17, 3) := by decide +kernel
theorem dX5_enter_99 : decode cX5_enter 99 = .ok (.iload_n 1, 1) := by decide +kernel
theorem dX5_enter_100 : decode cX5_enter 100 = .ok (.ireturn, 1) := by decide +kernel
theorem dX5_isReached_0 : decode cX5_isReached 0 = .ok (.aload_n 0, 1) := by decide +kernel
theorem dX5_isReached_1 : decode cX5_isReached 1 = .ok (.getfield 11, 3) := by decide +kernel
theorem dX5_isReached_4 : decode cX5_isReached 4 = .ok (.iload_n 1, 1) := by decide +kernel
theorem dX5_isReached_5 : decode cX5_isReached 5 = .ok (.aaload, 1) := by decide +kernel
theorem dX5_isReached_6 : decode cX5_isReached 6 = .ok (.astore_n 3, 1) := by decide +kernel
theorem dX5_isReached_7 : decode cX5_isReached 7 = .ok (.aload_n 0, 1) := by decide +kernel
theorem dX5_isReached_8 : decode cX5_isReached 8 = .ok (.getfield 11, 3) := by decide +kernel
theorem dX5_isReached_11 : decode cX5_isReached 11 = .ok (.iload_n 2, 1) := by decide +kernel
theorem dX5_isReached_12 : decode cX5_isReached 12 = .ok (.aaload, 1) := by decide +kernel
theorem dX5_isReached_13 : decode cX5_isReached 13 = .ok (.astore 4, 2) := by decide +kernel
theorem dX5_isReached_15 : decode cX5_isReached 15 = .ok (.aload 4, 2) := by decide +kernel
theorem dX5_isReached_17 : decode cX5_isReached 17 = .ok (.getfield 136, 3) := by decide +kernel
theorem dX5_isReached_20 : decode cX5_isReached 20 = .ok (.ifCond .eq 13, 3) := by decide +kernel
theorem dX5_isReached_23 : decode cX5_isReached 23 = .ok (.aload_n 3, 1) := by decide +kernel
theorem dX5_isReached_24 : decode cX5_isReached 24 = .ok (.aload 4, 2) := by decide +kernel
theorem dX5_isReached_26 : decode cX5_isReached 26 = .ok (.getfield 152, 3) := by decide +kernel
theorem dX5_isReached_29 : decode cX5_isReached 29 = .ok (.invokevirtual 162, 3) := by decide +kernel
theorem dX5_isReached_32 : decode cX5_isReached 32 = .ok (.ireturn, 1) := by decide +kernel
theorem dX5_isReached_33 : decode cX5_isReached 33 = .ok (.aload_n 3, 1) := by decide +kernel
theorem dX5_isReached_34 : decode cX5_isReached 34 = .ok (.getfield 136, 3) := by decide +kernel
theorem dX5_isReached_37 : decode cX5_isReached 37 = .ok (.ifCond .eq 13, 3) := by decide +kernel
theorem dX5_isReached_40 : decode cX5_isReached 40 = .ok (.aload 4, 2) := by decide +kernel
theorem dX5_isReached_42 : decode cX5_isReached 42 = .ok (.aload_n 3, 1) := by decide +kernel
theorem dX5_isReached_43 : decode cX5_isReached 43 = .ok (.getfield 152, 3) := by decide +kernel
theorem dX5_isReached_46 : decode cX5_isReached 46 = .ok (.invokevirtual 166, 3) := by decide +kernel
theorem dX5_isReached_49 : decode cX5_isReached 49 = .ok (.ireturn, 1) := by decide +kernel
theorem dX5_isReached_50 : decode cX5_isReached 50 = .ok (.iconst 0, 1) := by decide +kernel
theorem dX5_isReached_51 : decode cX5_isReached 51 = .ok (.istore 5, 2) := by decide +kernel
theorem dX5_isReached_53 : decode cX5_isReached 53 = .ok (.iload 5, 2) := by decide +kernel
theorem dX5_isReached_55 : decode cX5_isReached 55 = .ok (.aload_n 3, 1) := by decide +kernel
theorem dX5_isReached_56 : decode cX5_isReached 56 = .ok (.getfield 116, 3) := by decide +kernel
theorem dX5_isReached_59 : decode cX5_isReached 59 = .ok (.iconst 1, 1) := by decide +kernel
theorem dX5_isReached_60 : decode cX5_isReached 60 = .ok (.iaload, 1) := by decide +kernel
theorem dX5_isReached_61 : decode cX5_isReached 61 = .ok (.if_icmp .ge 26, 3) := by decide +kernel
theorem dX5_isReached_64 : decode cX5_isReached 64 = .ok (.aload_n 0, 1) := by decide +kernel
theorem dX5_isReached_65 : decode cX5_isReached 65 = .ok (.iload_n 2, 1) := by decide +kernel
theorem dX5_isReached_66 : decode cX5_isReached 66 = .ok (.aload_n 3, 1) := by decide +kernel
theorem dX5_isReached_67 : decode cX5_isReached 67 = .ok (.iconst 1, 1) := by decide +kernel
theorem dX5_isReached_68 : decode cX5_isReached 68 = .ok (.iload 5, 2) := by decide +kernel
theorem dX5_isReached_70 : decode cX5_isReached 70 = .ok (.invokevirtual 122, 3) := by decide +kernel
theorem dX5_isReached_73 : decode cX5_isReached 73 = .ok (.invokevirtual 169, 3) := by decide +kernel
theorem dX5_isReached_76 : decode cX5_isReached 76 = .ok (.ifCond .eq 5, 3) := by decide +kernel
theorem dX5_isReached_79 : decode cX5_isReached 79 = .ok (.iconst 0, 1) := by decide +kernel
theorem dX5_isReached_80 : decode cX5_isReached 80 = .ok (.ireturn, 1) := by decide +kernel
theorem dX5_isReached_81 : decode cX5_isReached 81 = .ok (.iinc 5 1, 3) := by decide +kernel
theorem dX5_isReached_84 : decode cX5_isReached 84 = .ok (.goto (-31), 3) := by decide +kernel
theorem dX5_isReached_87 : decode cX5_isReached 87 = .ok (.iconst 0, 1) := by decide +kernel
theorem dX5_isReached_88 : decode cX5_isReached 88 = .ok (.istore 5, 2) := by decide +kernel
theorem dX5_isReached_90 : decode cX5_isReached 90 = .ok (.iload 5, 2) := by decide +kernel
theorem dX5_isReached_92 : decode cX5_isReached 92 = .ok (.aload 4, 2) := by decide +kernel
theorem dX5_isReached_94 : decode cX5_isReached 94 = .ok (.getfield 116, 3) := by decide +kernel
theorem dX5_isReached_97 : decode cX5_isReached 97 = .ok (.iconst 0, 1) := by decide +kernel
theorem dX5_isReached_98 : decode cX5_isReached 98 = .ok (.iaload, 1) := by decide +kernel
theorem dX5_isReached_99 : decode cX5_isReached 99 = .ok (.if_icmp .ge 27, 3) := by decide +kernel
theorem dX5_isReached_102 : decode cX5_isReached 102 = .ok (.aload_n 0, 1) := by decide +kernel
theorem dX5_isReached_103 : decode cX5_isReached 103 = .ok (.aload 4, 2) := by decide +kernel
theorem dX5_isReached_105 : decode cX5_isReached 105 = .ok (.iconst 0, 1) := by decide +kernel
theorem dX5_isReached_106 : decode cX5_isReached 106 = .ok (.iload 5, 2) := by decide +kernel
theorem dX5_isReached_108 : decode cX5_isReached 108 = .ok (.invokevirtual 122, 3) := by decide +kernel
theorem dX5_isReached_111 : decode cX5_isReached 111 = .ok (.iload_n 1, 1) := by decide +kernel
theorem dX5_isReached_112 : decode cX5_isReached 112 = .ok (.invokevirtual 169, 3) := by decide +kernel
theorem dX5_isReached_115 : decode cX5_isReached 115 = .ok (.ifCond .eq 5, 3) := by decide +kernel
theorem dX5_isReached_118 : decode cX5_isReached 118 = .ok (.iconst 0, 1) := by decide +kernel
theorem dX5_isReached_119 : decode cX5_isReached 119 = .ok (.ireturn, 1) := by decide +kernel
theorem dX5_isReached_120 : decode cX5_isReached 120 = .ok (.iinc 5 1, 3) := by decide +kernel
theorem dX5_isReached_123 : decode cX5_isReached 123 = .ok (.goto (-33), 3) := by decide +kernel
theorem dX5_isReached_126 : decode cX5_isReached 126 = .ok (.iconst 1, 1) := by decide +kernel
theorem dX5_isReached_127 : decode cX5_isReached 127 = .ok (.ireturn, 1) := by decide +kernel
theorem dX5_isAtLeast_0 : decode cX5_isAtLeast 0 = .ok (.aload_n 0, 1) := by decide +kernel
theorem dX5_isAtLeast_1 : decode cX5_isAtLeast 1 = .ok (.getfield 21, 3) := by decide +kernel
theorem dX5_isAtLeast_4 : decode cX5_isAtLeast 4 = .ok (.iload_n 1, 1) := by decide +kernel
theorem dX5_isAtLeast_5 : decode cX5_isAtLeast 5 = .ok (.laload, 1) := by decide +kernel
theorem dX5_isAtLeast_6 : decode cX5_isAtLeast 6 = .ok (.iload_n 2, 1) := by decide +kernel
theorem dX5_isAtLeast_7 : decode cX5_isAtLeast 7 = .ok (.lushr, 1) := by decide +kernel
theorem dX5_isAtLeast_8 : decode cX5_isAtLeast 8 = .ok (.lconst 1, 1) := by decide +kernel
theorem dX5_isAtLeast_9 : decode cX5_isAtLeast 9 = .ok (.land, 1) := by decide +kernel
theorem dX5_isAtLeast_10 : decode cX5_isAtLeast 10 = .ok (.lconst 0, 1) := by decide +kernel
theorem dX5_isAtLeast_11 : decode cX5_isAtLeast 11 = .ok (.lcmp, 1) := by decide +kernel
theorem dX5_isAtLeast_12 : decode cX5_isAtLeast 12 = .ok (.ifCond .eq 7, 3) := by decide +kernel
theorem dX5_isAtLeast_15 : decode cX5_isAtLeast 15 = .ok (.iconst 1, 1) := by decide +kernel
theorem dX5_isAtLeast_16 : decode cX5_isAtLeast 16 = .ok (.goto 4, 3) := by decide +kernel
theorem dX5_isAtLeast_19 : decode cX5_isAtLeast 19 = .ok (.iconst 0, 1) := by decide +kernel
theorem dX5_isAtLeast_20 : decode cX5_isAtLeast 20 = .ok (.ireturn, 1) := by decide +kernel
theorem dX5_isAsGood_0 : decode cX5_isAsGood 0 = .ok (.iload_n 1, 1) := by decide +kernel
theorem dX5_isAsGood_1 : decode cX5_isAsGood 1 = .ok (.ifCond .ne 12, 3) := by decide +kernel
theorem dX5_isAsGood_4 : decode cX5_isAsGood 4 = .ok (.aload_n 0, 1) := by decide +kernel
theorem dX5_isAsGood_5 : decode cX5_isAsGood 5 = .ok (.iload_n 2, 1) := by decide +kernel
theorem dX5_isAsGood_6 : decode cX5_isAsGood 6 = .ok (.iload_n 3, 1) := by decide +kernel
theorem dX5_isAsGood_7 : decode cX5_isAsGood 7 = .ok (.invokevirtual 169, 3) := by decide +kernel
theorem dX5_isAsGood_10 : decode cX5_isAsGood 10 = .ok (.goto 9, 3) := by decide +kernel
theorem dX5_isAsGood_13 : decode cX5_isAsGood 13 = .ok (.aload_n 0, 1) := by decide +kernel
theorem dX5_isAsGood_14 : decode cX5_isAsGood 14 = .ok (.iload_n 3, 1) := by decide +kernel
theorem dX5_isAsGood_15 : decode cX5_isAsGood 15 = .ok (.iload_n 2, 1) := by decide +kernel
theorem dX5_isAsGood_16 : decode cX5_isAsGood 16 = .ok (.invokevirtual 169, 3) := by decide +kernel
theorem dX5_isAsGood_19 : decode cX5_isAsGood 19 = .ok (.ireturn, 1) := by decide +kernel
theorem dX5_dominatorOf_0 : decode cX5_dominatorOf 0 = .ok (.aload_n 1, 1) := by decide +kernel
theorem dX5_dominatorOf_1 : decode cX5_dominatorOf 1 = .ok (.iload_n 2, 1) := by decide +kernel
theorem dX5_dominatorOf_2 : decode cX5_dominatorOf 2 = .ok (.iload_n 3, 1) := by decide +kernel
theorem dX5_dominatorOf_3 : decode cX5_dominatorOf 3 = .ok (.invokevirtual 122, 3) := by decide +kernel
theorem dX5_dominatorOf_6 : decode cX5_dominatorOf 6 = .ok (.istore 4, 2) := by decide +kernel
theorem dX5_dominatorOf_8 : decode cX5_dominatorOf 8 = .ok (.iload 4, 2) := by decide +kernel
theorem dX5_dominatorOf_10 : decode cX5_dominatorOf 10 = .ok (.iconst (-1), 1) := by decide +kernel
theorem dX5_dominatorOf_11 : decode cX5_dominatorOf 11 = .ok (.if_icmp .ne 5, 3) := by decide +kernel
theorem dX5_dominatorOf_14 : decode cX5_dominatorOf 14 = .ok (.iconst (-1), 1) := by decide +kernel
theorem dX5_dominatorOf_15 : decode cX5_dominatorOf 15 = .ok (.ireturn, 1) := by decide +kernel
theorem dX5_dominatorOf_16 : decode cX5_dominatorOf 16 = .ok (.iconst 0, 1) := by decide +kernel
theorem dX5_dominatorOf_17 : decode cX5_dominatorOf 17 = .ok (.istore 5, 2) := by decide +kernel
theorem dX5_dominatorOf_19 : decode cX5_dominatorOf 19 = .ok (.iload 5, 2) := by decide +kernel
theorem dX5_dominatorOf_21 : decode cX5_dominatorOf 21 = .ok (.aload_n 1, 1) := by decide +kernel
theorem dX5_dominatorOf_22 : decode cX5_dominatorOf 22 = .ok (.getfield 116, 3) := by decide +kernel
theorem dX5_dominatorOf_25 : decode cX5_dominatorOf 25 = .ok (.iload_n 2, 1) := by decide +kernel
theorem dX5_dominatorOf_26 : decode cX5_dominatorOf 26 = .ok (.iaload, 1) := by decide +kernel
theorem dX5_dominatorOf_27 : decode cX5_dominatorOf 27 = .ok (.if_icmp .ge 69, 3) := by decide +kernel
theorem dX5_dominatorOf_30 : decode cX5_dominatorOf 30 = .ok (.aload_n 1, 1) := by decide +kernel
theorem dX5_dominatorOf_31 : decode cX5_dominatorOf 31 = .ok (.iload_n 2, 1) := by decide +kernel
theorem dX5_dominatorOf_32 : decode cX5_dominatorOf 32 = .ok (.iload 5, 2) := by decide +kernel
theorem dX5_dominatorOf_34 : decode cX5_dominatorOf 34 = .ok (.invokevirtual 122, 3) := by decide +kernel
theorem dX5_dominatorOf_37 : decode cX5_dominatorOf 37 = .ok (.istore 6, 2) := by decide +kernel
theorem dX5_dominatorOf_39 : decode cX5_dominatorOf 39 = .ok (.iload 5, 2) := by decide +kernel
theorem dX5_dominatorOf_41 : decode cX5_dominatorOf 41 = .ok (.iload_n 3, 1) := by decide +kernel
theorem dX5_dominatorOf_42 : decode cX5_dominatorOf 42 = .ok (.if_icmp .le 7, 3) := by decide +kernel
theorem dX5_dominatorOf_45 : decode cX5_dominatorOf 45 = .ok (.iconst 1, 1) := by decide +kernel
theorem dX5_dominatorOf_46 : decode cX5_dominatorOf 46 = .ok (.goto 4, 3) := by decide +kernel
theorem dX5_dominatorOf_49 : decode cX5_dominatorOf 49 = .ok (.iconst 0, 1) := by decide +kernel
theorem dX5_dominatorOf_50 : decode cX5_dominatorOf 50 = .ok (.istore 7, 2) := by decide +kernel
theorem dX5_dominatorOf_52 : decode cX5_dominatorOf 52 = .ok (.iload 5, 2) := by decide +kernel
theorem dX5_dominatorOf_54 : decode cX5_dominatorOf 54 = .ok (.iload_n 3, 1) := by decide +kernel
theorem dX5_dominatorOf_55 : decode cX5_dominatorOf 55 = .ok (.if_icmp .eq 35, 3) := by decide +kernel
theorem dX5_dominatorOf_58 : decode cX5_dominatorOf 58 = .ok (.aload_n 0, 1) := by decide +kernel
theorem dX5_dominatorOf_59 : decode cX5_dominatorOf 59 = .ok (.iload_n 2, 1) := by decide +kernel
theorem dX5_dominatorOf_60 : decode cX5_dominatorOf 60 = .ok (.iload 6, 2) := by decide +kernel
theorem dX5_dominatorOf_62 : decode cX5_dominatorOf 62 = .ok (.iload 4, 2) := by decide +kernel
theorem dX5_dominatorOf_64 : decode cX5_dominatorOf 64 = .ok (.invokevirtual 172, 3) := by decide +kernel
theorem dX5_dominatorOf_67 : decode cX5_dominatorOf 67 = .ok (.ifCond .eq 23, 3) := by decide +kernel
theorem dX5_dominatorOf_70 : decode cX5_dominatorOf 70 = .ok (.iload 7, 2) := by decide +kernel
theorem dX5_dominatorOf_72 : decode cX5_dominatorOf 72 = .ok (.ifCond .eq 15, 3) := by decide +kernel
theorem dX5_dominatorOf_75 : decode cX5_dominatorOf 75 = .ok (.aload_n 0, 1) := by decide +kernel
theorem dX5_dominatorOf_76 : decode cX5_dominatorOf 76 = .ok (.iload_n 2, 1) := by decide +kernel
theorem dX5_dominatorOf_77 : decode cX5_dominatorOf 77 = .ok (.iload 4, 2) := by decide +kernel
theorem dX5_dominatorOf_79 : decode cX5_dominatorOf 79 = .ok (.iload 6, 2) := by decide +kernel
theorem dX5_dominatorOf_81 : decode cX5_dominatorOf 81 = .ok (.invokevirtual 172, 3) := by decide +kernel
theorem dX5_dominatorOf_84 : decode cX5_dominatorOf 84 = .ok (.ifCond .ne 6, 3) := by decide +kernel
theorem dX5_dominatorOf_87 : decode cX5_dominatorOf 87 = .ok (.iload 5, 2) := by decide +kernel
theorem dX5_dominatorOf_89 : decode cX5_dominatorOf 89 = .ok (.ireturn, 1) := by decide +kernel
theorem dX5_dominatorOf_90 : decode cX5_dominatorOf 90 = .ok (.iinc 5 1, 3) := by decide +kernel
theorem dX5_dominatorOf_93 : decode cX5_dominatorOf 93 = .ok (.goto (-74), 3) := by decide +kernel
theorem dX5_dominatorOf_96 : decode cX5_dominatorOf 96 = .ok (.iconst (-1), 1) := by decide +kernel
theorem dX5_dominatorOf_97 : decode cX5_dominatorOf 97 = .ok (.ireturn, 1) := by decide +kernel
theorem dX5_isReversible_0 : decode cX5_isReversible 0 = .ok (.aload_n 0, 1) := by decide +kernel
theorem dX5_isReversible_1 : decode cX5_isReversible 1 = .ok (.getfield 11, 3) := by decide +kernel
theorem dX5_isReversible_4 : decode cX5_isReversible 4 = .ok (.iload_n 3, 1) := by decide +kernel
theorem dX5_isReversible_5 : decode cX5_isReversible 5 = .ok (.aaload, 1) := by decide +kernel
theorem dX5_isReversible_6 : decode cX5_isReversible 6 = .ok (.astore 4, 2) := by decide +kernel
theorem dX5_isReversible_8 : decode cX5_isReversible 8 = .ok (.aload 4, 2) := by decide +kernel
theorem dX5_isReversible_10 : decode cX5_isReversible 10 = .ok (.getfield 39, 3) := by decide +kernel
theorem dX5_isReversible_13 : decode cX5_isReversible 13 = .ok (.ifCond .ne 19, 3) := by decide +kernel
theorem dX5_isReversible_16 : decode cX5_isReversible 16 = .ok (.aload_n 0, 1) := by decide +kernel
theorem dX5_isReversible_17 : decode cX5_isReversible 17 = .ok (.getfield 11, 3) := by decide +kernel
theorem dX5_isReversible_20 : decode cX5_isReversible 20 = .ok (.iload_n 1, 1) := by decide +kernel
theorem dX5_isReversible_21 : decode cX5_isReversible 21 = .ok (.aaload, 1) := by decide +kernel
theorem dX5_isReversible_22 : decode cX5_isReversible 22 = .ok (.iload_n 2, 1) := by decide +kernel
theorem dX5_isReversible_23 : decode cX5_isReversible 23 = .ok (.aload 4, 2) := by decide +kernel
theorem dX5_isReversible_25 : decode cX5_isReversible 25 = .ok (.getfield 43, 3) := by decide +kernel
theorem dX5_isReversible_28 : decode cX5_isReversible 28 = .ok (.invokestatic 176, 3) := by decide +kernel
theorem dX5_isReversible_31 : decode cX5_isReversible 31 = .ok (.ireturn, 1) := by decide +kernel
theorem dX5_isReversible_32 : decode cX5_isReversible 32 = .ok (.iconst 0, 1) := by decide +kernel
theorem dX5_isReversible_33 : decode cX5_isReversible 33 = .ok (.istore 5, 2) := by decide +kernel
theorem dX5_isReversible_35 : decode cX5_isReversible 35 = .ok (.iload 5, 2) := by decide +kernel
theorem dX5_isReversible_37 : decode cX5_isReversible 37 = .ok (.aload 4, 2) := by decide +kernel
theorem dX5_isReversible_39 : decode cX5_isReversible 39 = .ok (.getfield 116, 3) := by decide +kernel
theorem dX5_isReversible_42 : decode cX5_isReversible 42 = .ok (.iconst 1, 1) := by decide +kernel
theorem dX5_isReversible_43 : decode cX5_isReversible 43 = .ok (.iload_n 2, 1) := by decide +kernel
theorem dX5_isReversible_44 : decode cX5_isReversible 44 = .ok (.isub, 1) := by decide +kernel
theorem dX5_isReversible_45 : decode cX5_isReversible 45 = .ok (.iaload, 1) := by decide +kernel
theorem dX5_isReversible_46 : decode cX5_isReversible 46 = .ok (.if_icmp .ge 30, 3) := by decide +kernel
theorem dX5_isReversible_49 : decode cX5_isReversible 49 = .ok (.aload_n 0, 1) := by decide +kernel
theorem dX5_isReversible_50 : decode cX5_isReversible 50 = .ok (.iload_n 2, 1) := by decide +kernel
theorem dX5_isReversible_51 : decode cX5_isReversible 51 = .ok (.iload_n 1, 1) := by decide +kernel
theorem dX5_isReversible_52 : decode cX5_isReversible 52 = .ok (.aload 4, 2) := by decide +kernel
theorem dX5_isReversible_54 : decode cX5_isReversible 54 = .ok (.iconst 1, 1) := by decide +kernel
theorem dX5_isReversible_55 : decode cX5_isReversible 55 = .ok (.iload_n 2, 1) := by decide +kernel
theorem dX5_isReversible_56 : decode cX5_isReversible 56 = .ok (.isub, 1) := by decide +kernel
theorem dX5_isReversible_57 : decode cX5_isReversible 57 = .ok (.iload 5, 2) := by decide +kernel
theorem dX5_isReversible_59 : decode cX5_isReversible 59 = .ok (.invokevirtual 122, 3) := by decide +kernel
theorem dX5_isReversible_62 : decode cX5_isReversible 62 = .ok (.invokevirtual 172, 3) := by decide +kernel
theorem dX5_isReversible_65 : decode cX5_isReversible 65 = .ok (.ifCond .eq 5, 3) := by decide +kernel
theorem dX5_isReversible_68 : decode cX5_isReversible 68 = .ok (.iconst 1, 1) := by decide +kernel
theorem dX5_isReversible_69 : decode cX5_isReversible 69 = .ok (.ireturn, 1) := by decide +kernel
theorem dX5_isReversible_70 : decode cX5_isReversible 70 = .ok (.iinc 5 1, 3) := by decide +kernel
theorem dX5_isReversible_73 : decode cX5_isReversible 73 = .ok (.goto (-38), 3) := by decide +kernel
theorem dX5_isReversible_76 : decode cX5_isReversible 76 = .ok (.iconst 0, 1) := by decide +kernel
theorem dX5_isReversible_77 : decode cX5_isReversible 77 = .ok (.ireturn, 1) := by decide +kernel
theorem dX5_isReversibleNumber_0 : decode cX5_isReversibleNumber 0 = .ok (.iload_n 2, 1) := by decide +kernel
theorem dX5_isReversibleNumber_1 : decode cX5_isReversibleNumber 1 = .ok (.invokestatic 180, 3) := by decide +kernel
theorem dX5_isReversibleNumber_4 : decode cX5_isReversibleNumber 4 = .ok (.istore_n 3, 1) := by decide +kernel
theorem dX5_isReversibleNumber_5 : decode cX5_isReversibleNumber 5 = .ok (.iload_n 3, 1) := by decide +kernel
theorem dX5_isReversibleNumber_6 : decode cX5_isReversibleNumber 6 = .ok (.iconst 3, 1) := by decide +kernel
theorem dX5_isReversibleNumber_7 : decode cX5_isReversibleNumber 7 = .ok (.if_icmp .ne 14, 3) := by decide +kernel
theorem dX5_isReversibleNumber_10 : decode cX5_isReversibleNumber 10 = .ok (.iload_n 1, 1) := by decide +kernel
theorem dX5_isReversibleNumber_11 : decode cX5_isReversibleNumber 11 = .ok (.invokestatic 125, 3) := by decide +kernel
theorem dX5_isReversibleNumber_14 : decode cX5_isReversibleNumber 14 = .ok (.iload_n 2, 1) := by decide +kernel
theorem dX5_isReversibleNumber_15 : decode cX5_isReversibleNumber 15 = .ok (.imul, 1) := by decide +kernel
theorem dX5_isReversibleNumber_16 : decode cX5_isReversibleNumber 16 = .ok (.ifCond .lt 5, 3) := by decide +kernel
theorem dX5_isReversibleNumber_19 : decode cX5_isReversibleNumber 19 = .ok (.iconst 0, 1) := by decide +kernel
theorem dX5_isReversibleNumber_20 : decode cX5_isReversibleNumber 20 = .ok (.ireturn, 1) := by decide +kernel
theorem dX5_isReversibleNumber_21 : decode cX5_isReversibleNumber 21 = .ok (.iload_n 2, 1) := by decide +kernel
theorem dX5_isReversibleNumber_22 : decode cX5_isReversibleNumber 22 = .ok (.iload_n 1, 1) := by decide +kernel
theorem dX5_isReversibleNumber_23 : decode cX5_isReversibleNumber 23 = .ok (.invokestatic 125, 3) := by decide +kernel
theorem dX5_isReversibleNumber_26 : decode cX5_isReversibleNumber 26 = .ok (.iconst 1, 1) := by decide +kernel
theorem dX5_isReversibleNumber_27 : decode cX5_isReversibleNumber 27 = .ok (.iload_n 3, 1) := by decide +kernel
theorem dX5_isReversibleNumber_28 : decode cX5_isReversibleNumber 28 = .ok (.ishl, 1) := by decide +kernel
theorem dX5_isReversibleNumber_29 : decode cX5_isReversibleNumber 29 = .ok (.imul, 1) := by decide +kernel
theorem dX5_isReversibleNumber_30 : decode cX5_isReversibleNumber 30 = .ok (.iadd, 1) := by decide +kernel
theorem dX5_isReversibleNumber_31 : decode cX5_isReversibleNumber 31 = .ok (.sipush 128, 3) := by decide +kernel
theorem dX5_isReversibleNumber_34 : decode cX5_isReversibleNumber 34 = .ok (.imul, 1) := by decide +kernel
theorem dX5_isReversibleNumber_35 : decode cX5_isReversibleNumber 35 = .ok (.istore 4, 2) := by decide +kernel
theorem dX5_isReversibleNumber_37 : decode cX5_isReversibleNumber 37 = .ok (.iload_n 1, 1) := by decide +kernel
theorem dX5_isReversibleNumber_38 : decode cX5_isReversibleNumber 38 = .ok (.ifCond .ne 12, 3) := by decide +kernel
theorem dX5_isReversibleNumber_41 : decode cX5_isReversibleNumber 41 = .ok (.aload_n 0, 1) := by decide +kernel
theorem dX5_isReversibleNumber_42 : decode cX5_isReversibleNumber 42 = .ok (.iload 4, 2) := by decide +kernel
theorem dX5_isReversibleNumber_44 : decode cX5_isReversibleNumber 44 = .ok (.invokevirtual 162, 3) := by decide +kernel
theorem dX5_isReversibleNumber_47 : decode cX5_isReversibleNumber 47 = .ok (.goto 9, 3) := by decide +kernel
theorem dX5_isReversibleNumber_50 : decode cX5_isReversibleNumber 50 = .ok (.aload_n 0, 1) := by decide +kernel
theorem dX5_isReversibleNumber_51 : decode cX5_isReversibleNumber 51 = .ok (.iload 4, 2) := by decide +kernel
theorem dX5_isReversibleNumber_53 : decode cX5_isReversibleNumber 53 = .ok (.invokevirtual 166, 3) := by decide +kernel
theorem dX5_isReversibleNumber_56 : decode cX5_isReversibleNumber 56 = .ok (.ireturn, 1) := by decide +kernel
theorem dX5_sweep_0 : decode cX5_sweep 0 = .ok (.iconst 0, 1) := by decide +kernel
theorem dX5_sweep_1 : decode cX5_sweep 1 = .ok (.istore 4, 2) := by decide +kernel
theorem dX5_sweep_3 : decode cX5_sweep 3 = .ok (.iload 4, 2) := by decide +kernel
theorem dX5_sweep_5 : decode cX5_sweep 5 = .ok (.aload_n 0, 1) := by decide +kernel
theorem dX5_sweep_6 : decode cX5_sweep 6 = .ok (.getfield 17, 3) := by decide +kernel
theorem dX5_sweep_9 : decode cX5_sweep 9 = .ok (.if_icmp .ge 111, 3) := by decide +kernel
theorem dX5_sweep_12 : decode cX5_sweep 12 = .ok (.lload_n 1, 1) := by decide +kernel
theorem dX5_sweep_13 : decode cX5_sweep 13 = .ok (.iload 4, 2) := by decide +kernel
theorem dX5_sweep_15 : decode cX5_sweep 15 = .ok (.invokestatic 106, 3) := by decide +kernel
theorem dX5_sweep_18 : decode cX5_sweep 18 = .ok (.ifCond .eq 96, 3) := by decide +kernel
theorem dX5_sweep_21 : decode cX5_sweep 21 = .ok (.aload_n 0, 1) := by decide +kernel
theorem dX5_sweep_22 : decode cX5_sweep 22 = .ok (.getfield 11, 3) := by decide +kernel
theorem dX5_sweep_25 : decode cX5_sweep 25 = .ok (.iload 4, 2) := by decide +kernel
theorem dX5_sweep_27 : decode cX5_sweep 27 = .ok (.aaload, 1) := by decide +kernel
theorem dX5_sweep_28 : decode cX5_sweep 28 = .ok (.astore 5, 2) := by decide +kernel
theorem dX5_sweep_30 : decode cX5_sweep 30 = .ok (.aload 5, 2) := by decide +kernel
theorem dX5_sweep_32 : decode cX5_sweep 32 = .ok (.getfield 136, 3) := by decide +kernel
theorem dX5_sweep_35 : decode cX5_sweep 35 = .ok (.ifCond .ne 12, 3) := by decide +kernel
theorem dX5_sweep_38 : decode cX5_sweep 38 = .ok (.iload_n 3, 1) := by decide +kernel
theorem dX5_sweep_39 : decode cX5_sweep 39 = .ok (.aload 5, 2) := by decide +kernel
theorem dX5_sweep_41 : decode cX5_sweep 41 = .ok (.getfield 149, 3) := by decide +kernel
theorem dX5_sweep_44 : decode cX5_sweep 44 = .ok (.if_icmp .lt 7, 3) := by decide +kernel
theorem dX5_sweep_47 : decode cX5_sweep 47 = .ok (.iconst 1, 1) := by decide +kernel
theorem dX5_sweep_48 : decode cX5_sweep 48 = .ok (.goto 4, 3) := by decide +kernel
theorem dX5_sweep_51 : decode cX5_sweep 51 = .ok (.iconst 0, 1) := by decide +kernel
theorem dX5_sweep_52 : decode cX5_sweep 52 = .ok (.istore 6, 2) := by decide +kernel
theorem dX5_sweep_54 : decode cX5_sweep 54 = .ok (.aload_n 0, 1) := by decide +kernel
theorem dX5_sweep_55 : decode cX5_sweep 55 = .ok (.getfield 27, 3) := by decide +kernel
theorem dX5_sweep_58 : decode cX5_sweep 58 = .ok (.iconst 0, 1) := by decide +kernel
theorem dX5_sweep_59 : decode cX5_sweep 59 = .ok (.aaload, 1) := by decide +kernel
theorem dX5_sweep_60 : decode cX5_sweep 60 = .ok (.iload 4, 2) := by decide +kernel
theorem dX5_sweep_62 : decode cX5_sweep 62 = .ok (.iload 6, 2) := by decide +kernel
theorem dX5_sweep_64 : decode cX5_sweep 64 = .ok (.ifCond .eq 11, 3) := by decide +kernel
theorem dX5_sweep_67 : decode cX5_sweep 67 = .ok (.aload 5, 2) := by decide +kernel
theorem dX5_sweep_69 : decode cX5_sweep 69 = .ok (.getfield 152, 3) := by decide +kernel
theorem dX5_sweep_72 : decode cX5_sweep 72 = .ok (.goto 11, 3) := by decide +kernel
theorem dX5_sweep_75 : decode cX5_sweep 75 = .ok (.aload_n 0, 1) := by decide +kernel
theorem dX5_sweep_76 : decode cX5_sweep 76 = .ok (.aload 5, 2) := by decide +kernel
theorem dX5_sweep_78 : decode cX5_sweep 78 = .ok (.iconst 0, 1) := by decide +kernel
theorem dX5_sweep_79 : decode cX5_sweep 79 = .ok (.iload_n 3, 1) := by decide +kernel
theorem dX5_sweep_80 : decode cX5_sweep 80 = .ok (.invokevirtual 145, 3) := by decide +kernel
theorem dX5_sweep_83 : decode cX5_sweep 83 = .ok (.iastore, 1) := by decide +kernel
theorem dX5_sweep_84 : decode cX5_sweep 84 = .ok (.aload_n 0, 1) := by decide +kernel
theorem dX5_sweep_85 : decode cX5_sweep 85 = .ok (.getfield 27, 3) := by decide +kernel
theorem dX5_sweep_88 : decode cX5_sweep 88 = .ok (.iconst 1, 1) := by decide +kernel
theorem dX5_sweep_89 : decode cX5_sweep 89 = .ok (.aaload, 1) := by decide +kernel
theorem dX5_sweep_90 : decode cX5_sweep 90 = .ok (.iload 4, 2) := by decide +kernel
theorem dX5_sweep_92 : decode cX5_sweep 92 = .ok (.iload 6, 2) := by decide +kernel
theorem dX5_sweep_94 : decode cX5_sweep 94 = .ok (.ifCond .eq 11, 3) := by decide +kernel
theorem dX5_sweep_97 : decode cX5_sweep 97 = .ok (.aload 5, 2) := by decide +kernel
theorem dX5_sweep_99 : decode cX5_sweep 99 = .ok (.getfield 152, 3) := by decide +kernel
theorem dX5_sweep_102 : decode cX5_sweep 102 = .ok (.goto 11, 3) := by decide +kernel
theorem dX5_sweep_105 : decode cX5_sweep 105 = .ok (.aload_n 0, 1) := by decide +kernel
theorem dX5_sweep_106 : decode cX5_sweep 106 = .ok (.aload 5, 2) := by decide +kernel
theorem dX5_sweep_108 : decode cX5_sweep 108 = .ok (.iconst 1, 1) := by decide +kernel
theorem dX5_sweep_109 : decode cX5_sweep 109 = .ok (.iload_n 3, 1) := by decide +kernel
theorem dX5_sweep_110 : decode cX5_sweep 110 = .ok (.invokevirtual 145, 3) := by decide +kernel
theorem dX5_sweep_113 : decode cX5_sweep 113 = .ok (.iastore, 1) := by decide +kernel
theorem dX5_sweep_114 : decode cX5_sweep 114 = .ok (.iinc 4 1, 3) := by decide +kernel
theorem dX5_sweep_117 : decode cX5_sweep 117 = .ok (.goto (-114), 3) := by decide +kernel
theorem dX5_sweep_120 : decode cX5_sweep 120 = .ok (.return_, 1) := by decide +kernel
theorem dX5_scaffold_0 : decode cX5_scaffold 0 = .ok (.iload_n 2, 1) := by decide +kernel
theorem dX5_scaffold_1 : decode cX5_scaffold 1 = .ok (.ifCond .ne 7, 3) := by decide +kernel
theorem dX5_scaffold_4 : decode cX5_scaffold 4 = .ok (.iconst 1, 1) := by decide +kernel
theorem dX5_scaffold_5 : decode cX5_scaffold 5 = .ok (.goto 4, 3) := by decide +kernel
theorem dX5_scaffold_8 : decode cX5_scaffold 8 = .ok (.iconst (-1), 1) := by decide +kernel
theorem dX5_scaffold_9 : decode cX5_scaffold 9 = .ok (.istore 4, 2) := by decide +kernel
theorem dX5_scaffold_11 : decode cX5_scaffold 11 = .ok (.ldc 129, 2) := by decide +kernel
theorem dX5_scaffold_13 : decode cX5_scaffold 13 = .ok (.istore 5, 2) := by decide +kernel
theorem dX5_scaffold_15 : decode cX5_scaffold 15 = .ok (.iconst 0, 1) := by decide +kernel
theorem dX5_scaffold_16 : decode cX5_scaffold 16 = .ok (.istore 6, 2) := by decide +kernel
theorem dX5_scaffold_18 : decode cX5_scaffold 18 = .ok (.iload 6, 2) := by decide +kernel
theorem dX5_scaffold_20 : decode cX5_scaffold 20 = .ok (.aload_n 1, 1) := by decide +kernel
theorem dX5_scaffold_21 : decode cX5_scaffold 21 = .ok (.getfield 116, 3) := by decide +kernel
theorem dX5_scaffold_24 : decode cX5_scaffold 24 = .ok (.iload_n 2, 1) := by decide +kernel
theorem dX5_scaffold_25 : decode cX5_scaffold 25 = .ok (.iaload, 1) := by decide +kernel
theorem dX5_scaffold_26 : decode cX5_scaffold 26 = .ok (.if_icmp .ge 50, 3) := by decide +kernel
theorem dX5_scaffold_29 : decode cX5_scaffold 29 = .ok (.iload 4, 2) := by decide +kernel
theorem dX5_scaffold_31 : decode cX5_scaffold 31 = .ok (.aload_n 0, 1) := by decide +kernel
theorem dX5_scaffold_32 : decode cX5_scaffold 32 = .ok (.getfield 27, 3) := by decide +kernel
theorem dX5_scaffold_35 : decode cX5_scaffold 35 = .ok (.iconst 1, 1) := by decide +kernel
theorem dX5_scaffold_36 : decode cX5_scaffold 36 = .ok (.iload_n 2, 1) := by decide +kernel
theorem dX5_scaffold_37 : decode cX5_scaffold 37 = .ok (.isub, 1) := by decide +kernel
theorem dX5_scaffold_38 : decode cX5_scaffold 38 = .ok (.aaload, 1) := by decide +kernel
theorem dX5_scaffold_39 : decode cX5_scaffold 39 = .ok (.aload_n 1, 1) := by decide +kernel
theorem dX5_scaffold_40 : decode cX5_scaffold 40 = .ok (.getfield 183, 3) := by decide +kernel
theorem dX5_scaffold_43 : decode cX5_scaffold 43 = .ok (.iload_n 2, 1) := by decide +kernel
theorem dX5_scaffold_44 : decode cX5_scaffold 44 = .ok (.iconst 4, 1) := by decide +kernel
theorem dX5_scaffold_45 : decode cX5_scaffold 45 = .ok (.imul, 1) := by decide +kernel
theorem dX5_scaffold_46 : decode cX5_scaffold 46 = .ok (.iload 6, 2) := by decide +kernel
theorem dX5_scaffold_48 : decode cX5_scaffold 48 = .ok (.iadd, 1) := by decide +kernel
theorem dX5_scaffold_49 : decode cX5_scaffold 49 = .ok (.iaload, 1) := by decide +kernel
theorem dX5_scaffold_50 : decode cX5_scaffold 50 = .ok (.iaload, 1) := by decide +kernel
theorem dX5_scaffold_51 : decode cX5_scaffold 51 = .ok (.imul, 1) := by decide +kernel
theorem dX5_scaffold_52 : decode cX5_scaffold 52 = .ok (.istore 7, 2) := by decide +kernel
theorem dX5_scaffold_54 : decode cX5_scaffold 54 = .ok (.iload 7, 2) := by decide +kernel
theorem dX5_scaffold_56 : decode cX5_scaffold 56 = .ok (.iload 5, 2) := by decide +kernel
theorem dX5_scaffold_58 : decode cX5_scaffold 58 = .ok (.if_icmp .le 8, 3) := by decide +kernel
theorem dX5_scaffold_61 : decode cX5_scaffold 61 = .ok (.iload 7, 2) := by decide +kernel
theorem dX5_scaffold_63 : decode cX5_scaffold 63 = .ok (.goto 5, 3) := by decide +kernel
theorem dX5_scaffold_66 : decode cX5_scaffold 66 = .ok (.iload 5, 2) := by decide +kernel
theorem dX5_scaffold_68 : decode cX5_scaffold 68 = .ok (.istore 5, 2) := by decide +kernel
theorem dX5_scaffold_70 : decode cX5_scaffold 70 = .ok (.iinc 6 1, 3) := by decide +kernel
theorem dX5_scaffold_73 : decode cX5_scaffold 73 = .ok (.goto (-55), 3) := by decide +kernel
theorem dX5_scaffold_76 : decode cX5_scaffold 76 = .ok (.iload 4, 2) := by decide +kernel
theorem dX5_scaffold_78 : decode cX5_scaffold 78 = .ok (.iload 5, 2) := by decide +kernel
theorem dX5_scaffold_80 : decode cX5_scaffold 80 = .ok (.iload_n 3, 1) := by decide +kernel
theorem dX5_scaffold_81 : decode cX5_scaffold 81 = .ok (.isub, 1) := by decide +kernel
theorem dX5_scaffold_82 : decode cX5_scaffold 82 = .ok (.imul, 1) := by decide +kernel
theorem dX5_scaffold_83 : decode cX5_scaffold 83 = .ok (.ireturn, 1) := by decide +kernel
theorem dX5_sweptWall_0 : decode cX5_sweptWall 0 = .ok (.aload_n 0, 1) := by decide +kernel
theorem dX5_sweptWall_1 : decode cX5_sweptWall 1 = .ok (.getfield 27, 3) := by decide +kernel
theorem dX5_sweptWall_4 : decode cX5_sweptWall 4 = .ok (.iload_n 2, 1) := by decide +kernel
theorem dX5_sweptWall_5 : decode cX5_sweptWall 5 = .ok (.aaload, 1) := by decide +kernel
theorem dX5_sweptWall_6 : decode cX5_sweptWall 6 = .ok (.iload_n 1, 1) := by decide +kernel
theorem dX5_sweptWall_7 : decode cX5_sweptWall 7 = .ok (.iaload, 1) := by decide +kernel
theorem dX5_sweptWall_8 : decode cX5_sweptWall 8 = .ok (.ireturn, 1) := by decide +kernel
theorem dX5_wallAt_0 : decode cX5_wallAt 0 = .ok (.aload_n 0, 1) := by decide +kernel
theorem dX5_wallAt_1 : decode cX5_wallAt 1 = .ok (.aload_n 0, 1) := by decide +kernel
theorem dX5_wallAt_2 : decode cX5_wallAt 2 = .ok (.getfield 11, 3) := by decide +kernel
theorem dX5_wallAt_5 : decode cX5_wallAt 5 = .ok (.iload_n 1, 1) := by decide +kernel
theorem dX5_wallAt_6 : decode cX5_wallAt 6 = .ok (.aaload, 1) := by decide +kernel
theorem dX5_wallAt_7 : decode cX5_wallAt 7 = .ok (.getfield 54, 3) := by decide +kernel
theorem dX5_wallAt_10 : decode cX5_wallAt 10 = .ok (.iload_n 3, 1) := by decide +kernel
theorem dX5_wallAt_11 : decode cX5_wallAt 11 = .ok (.invokevirtual 141, 3) := by decide +kernel
theorem dX5_wallAt_14 : decode cX5_wallAt 14 = .ok (.aload_n 0, 1) := by decide +kernel
theorem dX5_wallAt_15 : decode cX5_wallAt 15 = .ok (.getfield 27, 3) := by decide +kernel
theorem dX5_wallAt_18 : decode cX5_wallAt 18 = .ok (.iload_n 2, 1) := by decide +kernel
theorem dX5_wallAt_19 : decode cX5_wallAt 19 = .ok (.aaload, 1) := by decide +kernel
theorem dX5_wallAt_20 : decode cX5_wallAt 20 = .ok (.iload_n 1, 1) := by decide +kernel
theorem dX5_wallAt_21 : decode cX5_wallAt 21 = .ok (.iaload, 1) := by decide +kernel
theorem dX5_wallAt_22 : decode cX5_wallAt 22 = .ok (.ireturn, 1) := by decide +kernel
theorem dX5_cornerBehind_0 : decode cX5_cornerBehind 0 = .ok (.aload_n 0, 1) := by decide +kernel
theorem dX5_cornerBehind_1 : decode cX5_cornerBehind 1 = .ok (.iload_n 1, 1) := by decide +kernel
theorem dX5_cornerBehind_2 : decode cX5_cornerBehind 2 = .ok (.iload_n 2, 1) := by decide +kernel
theorem dX5_cornerBehind_3 : decode cX5_cornerBehind 3 = .ok (.iload_n 3, 1) := by decide +kernel
theorem dX5_cornerBehind_4 : decode cX5_cornerBehind 4 = .ok (.invokevirtual 186, 3) := by decide +kernel
theorem dX5_cornerBehind_7 : decode cX5_cornerBehind 7 = .ok (.istore 4, 2) := by decide +kernel
theorem dX5_cornerBehind_9 : decode cX5_cornerBehind 9 = .ok (.aload_n 0, 1) := by decide +kernel
theorem dX5_cornerBehind_10 : decode cX5_cornerBehind 10 = .ok (.iload_n 1, 1) := by decide +kernel
theorem dX5_cornerBehind_11 : decode cX5_cornerBehind 11 = .ok (.iload_n 2, 1) := by decide +kernel
theorem dX5_cornerBehind_12 : decode cX5_cornerBehind 12 = .ok (.iload_n 3, 1) := by decide +kernel
theorem dX5_cornerBehind_13 : decode cX5_cornerBehind 13 = .ok (.iconst 1, 1) := by decide +kernel
theorem dX5_cornerBehind_14 : decode cX5_cornerBehind 14 = .ok (.iadd, 1) := by decide +kernel
theorem dX5_cornerBehind_15 : decode cX5_cornerBehind 15 = .ok (.invokevirtual 186, 3) := by decide +kernel
theorem dX5_cornerBehind_18 : decode cX5_cornerBehind 18 = .ok (.iload 4, 2) := by decide +kernel
theorem dX5_cornerBehind_20 : decode cX5_cornerBehind 20 = .ok (.isub, 1) := by decide +kernel
theorem dX5_cornerBehind_21 : decode cX5_cornerBehind 21 = .ok (.istore 5, 2) := by decide +kernel
theorem dX5_cornerBehind_23 : decode cX5_cornerBehind 23 = .ok (.iconst 1, 1) := by decide +kernel
theorem dX5_cornerBehind_24 : decode cX5_cornerBehind 24 = .ok (.istore 6, 2) := by decide +kernel
theorem dX5_cornerBehind_26 : decode cX5_cornerBehind 26 = .ok (.sipush 16384, 3) := by decide +kernel
theorem dX5_cornerBehind_29 : decode cX5_cornerBehind 29 = .ok (.istore 7, 2) := by decide +kernel
theorem dX5_cornerBehind_31 : decode cX5_cornerBehind 31 = .ok (.iload 7, 2) := by decide +kernel
theorem dX5_cornerBehind_33 : decode cX5_cornerBehind 33 = .ok (.ifCond .le 46, 3) := by decide +kernel
theorem dX5_cornerBehind_36 : decode cX5_cornerBehind 36 = .ok (.aload_n 0, 1) := by decide +kernel
theorem dX5_cornerBehind_37 : decode cX5_cornerBehind 37 = .ok (.iload_n 1, 1) := by decide +kernel
theorem dX5_cornerBehind_38 : decode cX5_cornerBehind 38 = .ok (.iload_n 2, 1) := by decide +kernel
theorem dX5_cornerBehind_39 : decode cX5_cornerBehind 39 = .ok (.iload_n 3, 1) := by decide +kernel
theorem dX5_cornerBehind_40 : decode cX5_cornerBehind 40 = .ok (.iload 6, 2) := by decide +kernel
theorem dX5_cornerBehind_42 : decode cX5_cornerBehind 42 = .ok (.iadd, 1) := by decide +kernel
theorem dX5_cornerBehind_43 : decode cX5_cornerBehind 43 = .ok (.iload 7, 2) := by decide +kernel
theorem dX5_cornerBehind_45 : decode cX5_cornerBehind 45 = .ok (.iadd, 1) := by decide +kernel
theorem dX5_cornerBehind_46 : decode cX5_cornerBehind 46 = .ok (.invokevirtual 186, 3) := by decide +kernel
theorem dX5_cornerBehind_49 : decode cX5_cornerBehind 49 = .ok (.iload 4, 2) := by decide +kernel
theorem dX5_cornerBehind_51 : decode cX5_cornerBehind 51 = .ok (.iload 5, 2) := by decide +kernel
theorem dX5_cornerBehind_53 : decode cX5_cornerBehind 53 = .ok (.iload 6, 2) := by decide +kernel
theorem dX5_cornerBehind_55 : decode cX5_cornerBehind 55 = .ok (.iload 7, 2) := by decide +kernel
theorem dX5_cornerBehind_57 : decode cX5_cornerBehind 57 = .ok (.iadd, 1) := by decide +kernel
theorem dX5_cornerBehind_58 : decode cX5_cornerBehind 58 = .ok (.imul, 1) := by decide +kernel
theorem dX5_cornerBehind_59 : decode cX5_cornerBehind 59 = .ok (.iadd, 1) := by decide +kernel
theorem dX5_cornerBehind_60 : decode cX5_cornerBehind 60 = .ok (.if_icmp .ne 10, 3) := by decide +kernel
theorem dX5_cornerBehind_63 : decode cX5_cornerBehind 63 = .ok (.iload 6, 2) := by decide +kernel
theorem dX5_cornerBehind_65 : decode cX5_cornerBehind 65 = .ok (.iload 7, 2) := by decide +kernel
theorem dX5_cornerBehind_67 : decode cX5_cornerBehind 67 = .ok (.iadd, 1) := by decide +kernel
theorem dX5_cornerBehind_68 : decode cX5_cornerBehind 68 = .ok (.istore 6, 2) := by decide +kernel
theorem dX5_cornerBehind_70 : decode cX5_cornerBehind 70 = .ok (.iload 7, 2) := by decide +kernel
theorem dX5_cornerBehind_72 : decode cX5_cornerBehind 72 = .ok (.iconst 2, 1) := by decide +kernel
theorem dX5_cornerBehind_73 : decode cX5_cornerBehind 73 = .ok (.idiv, 1) := by decide +kernel
theorem dX5_cornerBehind_74 : decode cX5_cornerBehind 74 = .ok (.istore 7, 2) := by decide +kernel
theorem dX5_cornerBehind_76 : decode cX5_cornerBehind 76 = .ok (.goto (-45), 3) := by decide +kernel
theorem dX5_cornerBehind_79 : decode cX5_cornerBehind 79 = .ok (.iload_n 3, 1) := by decide +kernel
theorem dX5_cornerBehind_80 : decode cX5_cornerBehind 80 = .ok (.iload 6, 2) := by decide +kernel
theorem dX5_cornerBehind_82 : decode cX5_cornerBehind 82 = .ok (.iadd, 1) := by decide +kernel
theorem dX5_cornerBehind_83 : decode cX5_cornerBehind 83 = .ok (.sipush 16384, 3) := by decide +kernel
theorem dX5_cornerBehind_86 : decode cX5_cornerBehind 86 = .ok (.if_icmp .le 7, 3) := by decide +kernel
theorem dX5_cornerBehind_89 : decode cX5_cornerBehind 89 = .ok (.iconst (-1), 1) := by decide +kernel
theorem dX5_cornerBehind_90 : decode cX5_cornerBehind 90 = .ok (.goto 7, 3) := by decide +kernel
theorem dX5_cornerBehind_93 : decode cX5_cornerBehind 93 = .ok (.iload_n 3, 1) := by decide +kernel
theorem dX5_cornerBehind_94 : decode cX5_cornerBehind 94 = .ok (.iload 6, 2) := by decide +kernel
theorem dX5_cornerBehind_96 : decode cX5_cornerBehind 96 = .ok (.iadd, 1) := by decide +kernel
theorem dX5_cornerBehind_97 : decode cX5_cornerBehind 97 = .ok (.ireturn, 1) := by decide +kernel
theorem dX5_sumOfMeans_0 : decode cX5_sumOfMeans 0 = .ok (.iconst 0, 1) := by decide +kernel
theorem dX5_sumOfMeans_1 : decode cX5_sumOfMeans 1 = .ok (.istore_n 3, 1) := by decide +kernel
theorem dX5_sumOfMeans_2 : decode cX5_sumOfMeans 2 = .ok (.iconst 0, 1) := by decide +kernel
theorem dX5_sumOfMeans_3 : decode cX5_sumOfMeans 3 = .ok (.istore 4, 2) := by decide +kernel
theorem dX5_sumOfMeans_5 : decode cX5_sumOfMeans 5 = .ok (.iload 4, 2) := by decide +kernel
theorem dX5_sumOfMeans_7 : decode cX5_sumOfMeans 7 = .ok (.iload_n 2, 1) := by decide +kernel
theorem dX5_sumOfMeans_8 : decode cX5_sumOfMeans 8 = .ok (.if_icmp .ge 24, 3) := by decide +kernel
theorem dX5_sumOfMeans_11 : decode cX5_sumOfMeans 11 = .ok (.iload_n 3, 1) := by decide +kernel
theorem dX5_sumOfMeans_12 : decode cX5_sumOfMeans 12 = .ok (.aload_n 0, 1) := by decide +kernel
theorem dX5_sumOfMeans_13 : decode cX5_sumOfMeans 13 = .ok (.getfield 11, 3) := by decide +kernel
theorem dX5_sumOfMeans_16 : decode cX5_sumOfMeans 16 = .ok (.aload_n 1, 1) := by decide +kernel
theorem dX5_sumOfMeans_17 : decode cX5_sumOfMeans 17 = .ok (.iload 4, 2) := by decide +kernel
theorem dX5_sumOfMeans_19 : decode cX5_sumOfMeans 19 = .ok (.iaload, 1) := by decide +kernel
theorem dX5_sumOfMeans_20 : decode cX5_sumOfMeans 20 = .ok (.aaload, 1) := by decide +kernel
theorem dX5_sumOfMeans_21 : decode cX5_sumOfMeans 21 = .ok (.getfield 152, 3) := by decide +kernel
theorem dX5_sumOfMeans_24 : decode cX5_sumOfMeans 24 = .ok (.iadd, 1) := by decide +kernel
theorem dX5_sumOfMeans_25 : decode cX5_sumOfMeans 25 = .ok (.istore_n 3, 1) := by decide +kernel
theorem dX5_sumOfMeans_26 : decode cX5_sumOfMeans 26 = .ok (.iinc 4 1, 3) := by decide +kernel
theorem dX5_sumOfMeans_29 : decode cX5_sumOfMeans 29 = .ok (.goto (-24), 3) := by decide +kernel
theorem dX5_sumOfMeans_32 : decode cX5_sumOfMeans 32 = .ok (.iload_n 3, 1) := by decide +kernel
theorem dX5_sumOfMeans_33 : decode cX5_sumOfMeans 33 = .ok (.ireturn, 1) := by decide +kernel
theorem dX6_init_0 : decode cX6_init 0 = .ok (.aload_n 0, 1) := by decide +kernel
theorem dX6_init_1 : decode cX6_init 1 = .ok (.invokespecial 3, 3) := by decide +kernel
theorem dX6_init_4 : decode cX6_init 4 = .ok (.aload_n 0, 1) := by decide +kernel
theorem dX6_init_5 : decode cX6_init 5 = .ok (.iconst 4, 1) := by decide +kernel
theorem dX6_init_6 : decode cX6_init 6 = .ok (.bipush 40, 2) := by decide +kernel
theorem dX6_init_8 : decode cX6_init 8 = .ok (.multianewarray 9 2, 4) := by decide +kernel
theorem dX6_init_12 : decode cX6_init 12 = .ok (.putfield 11, 3) := by decide +kernel
theorem dX6_init_15 : decode cX6_init 15 = .ok (.aload_n 0, 1) := by decide +kernel
theorem dX6_init_16 : decode cX6_init 16 = .ok (.iconst 4, 1) := by decide +kernel
theorem dX6_init_17 : decode cX6_init 17 = .ok (.bipush 40, 2) := by decide +kernel
theorem dX6_init_19 : decode cX6_init 19 = .ok (.multianewarray 9 2, 4) := by decide +kernel
theorem dX6_init_23 : decode cX6_init 23 = .ok (.putfield 16, 3) := by decide +kernel
theorem dX6_init_26 : decode cX6_init 26 = .ok (.aload_n 0, 1) := by decide +kernel
theorem dX6_init_27 : decode cX6_init 27 = .ok (.iconst 4, 1) := by decide +kernel
theorem dX6_init_28 : decode cX6_init 28 = .ok (.newarray .int, 2) := by decide +kernel
theorem dX6_init_30 : decode cX6_init 30 = .ok (.putfield 19, 3) := by decide +kernel
theorem dX6_init_33 : decode cX6_init 33 = .ok (.aload_n 0, 1) := by decide +kernel
theorem dX6_init_34 : decode cX6_init 34 = .ok (.iconst 4, 1) := by decide +kernel
theorem dX6_init_35 : decode cX6_init 35 = .ok (.newarray .int, 2) := by decide +kernel
theorem dX6_init_37 : decode cX6_init 37 = .ok (.putfield 23, 3) := by decide +kernel
theorem dX6_init_40 : decode cX6_init 40 = .ok (.aload_n 0, 1) := by decide +kernel
theorem dX6_init_41 : decode cX6_init 41 = .ok (.iconst 4, 1) := by decide +kernel
theorem dX6_init_42 : decode cX6_init 42 = .ok (.newarray .int, 2) := by decide +kernel
theorem dX6_init_44 : decode cX6_init 44 = .ok (.putfield 26, 3) := by decide +kernel
theorem dX6_init_47 : decode cX6_init 47 = .ok (.aload_n 0, 1) := by decide +kernel
theorem dX6_init_48 : decode cX6_init 48 = .ok (.iconst 0, 1) := by decide +kernel
theorem dX6_init_49 : decode cX6_init 49 = .ok (.newarray .int, 2) := by decide +kernel
theorem dX6_init_51 : decode cX6_init 51 = .ok (.putfield 29, 3) := by decide +kernel
theorem dX6_init_54 : decode cX6_init 54 = .ok (.aload_n 0, 1) := by decide +kernel
theorem dX6_init_55 : decode cX6_init 55 = .ok (.iconst 0, 1) := by decide +kernel
theorem dX6_init_56 : decode cX6_init 56 = .ok (.newarray .int, 2) := by decide +kernel
theorem dX6_init_58 : decode cX6_init 58 = .ok (.putfield 32, 3) := by decide +kernel
theorem dX6_init_61 : decode cX6_init 61 = .ok (.aload_n 0, 1) := by decide +kernel
theorem dX6_init_62 : decode cX6_init 62 = .ok (.aload_n 1, 1) := by decide +kernel
theorem dX6_init_63 : decode cX6_init 63 = .ok (.putfield 35, 3) := by decide +kernel
theorem dX6_init_66 : decode cX6_init 66 = .ok (.return_, 1) := by decide +kernel
theorem dX6_solve_0 : decode cX6_solve 0 = .ok (.aload_n 0, 1) := by decide +kernel
theorem dX6_solve_1 : decode cX6_solve 1 = .ok (.getfield 29, 3) := by decide +kernel
theorem dX6_solve_4 : decode cX6_solve 4 = .ok (.arraylength, 1) := by decide +kernel
theorem dX6_solve_5 : decode cX6_solve 5 = .ok (.ifCond .ne 21, 3) := by decide +kernel
theorem dX6_solve_8 : decode cX6_solve 8 = .ok (.aload_n 0, 1) := by decide +kernel
theorem dX6_solve_9 : decode cX6_solve 9 = .ok (.sipush 4000, 3) := by decide +kernel
theorem dX6_solve_12 : decode cX6_solve 12 = .ok (.newarray .int, 2) := by decide +kernel
theorem dX6_solve_14 : decode cX6_solve 14 = .ok (.putfield 29, 3) := by decide +kernel
theorem dX6_solve_17 : decode cX6_solve 17 = .ok (.aload_n 0, 1) := by decide +kernel
theorem dX6_solve_18 : decode cX6_solve 18 = .ok (.sipush 4000, 3) := by decide +kernel
theorem dX6_solve_21 : decode cX6_solve 21 = .ok (.newarray .int, 2) := by decide +kernel
theorem dX6_solve_23 : decode cX6_solve 23 = .ok (.putfield 32, 3) := by decide +kernel
theorem dX6_solve_26 : decode cX6_solve 26 = .ok (.aload_n 0, 1) := by decide +kernel
theorem dX6_solve_27 : decode cX6_solve 27 = .ok (.aload_n 1, 1) := by decide +kernel
theorem dX6_solve_28 : decode cX6_solve 28 = .ok (.iload_n 2, 1) := by decide +kernel
theorem dX6_solve_29 : decode cX6_solve 29 = .ok (.invokevirtual 39, 3) := by decide +kernel
theorem dX6_solve_32 : decode cX6_solve 32 = .ok (.istore_n 3, 1) := by decide +kernel
theorem dX6_solve_33 : decode cX6_solve 33 = .ok (.iconst 0, 1) := by decide +kernel
theorem dX6_solve_34 : decode cX6_solve 34 = .ok (.istore 4, 2) := by decide +kernel
theorem dX6_solve_36 : decode cX6_solve 36 = .ok (.iload 4, 2) := by decide +kernel
theorem dX6_solve_38 : decode cX6_solve 38 = .ok (.iload_n 3, 1) := by decide +kernel
theorem dX6_solve_39 : decode cX6_solve 39 = .ok (.if_icmp .ge 52, 3) := by decide +kernel
theorem dX6_solve_42 : decode cX6_solve 42 = .ok (.iload 4, 2) := by decide +kernel
theorem dX6_solve_44 : decode cX6_solve 44 = .ok (.sipush 4000, 3) := by decide +kernel
theorem dX6_solve_47 : decode cX6_solve 47 = .ok (.if_icmp .ge 44, 3) := by decide +kernel
theorem dX6_solve_50 : decode cX6_solve 50 = .ok (.aload_n 0, 1) := by decide +kernel
theorem dX6_solve_51 : decode cX6_solve 51 = .ok (.getfield 29, 3) := by decide +kernel
theorem dX6_solve_54 : decode cX6_solve 54 = .ok (.iload 4, 2) := by decide +kernel
theorem dX6_solve_56 : decode cX6_solve 56 = .ok (.aload_n 0, 1) := by decide +kernel
theorem dX6_solve_57 : decode cX6_solve 57 = .ok (.iload 4, 2) := by decide +kernel
theorem dX6_solve_59 : decode cX6_solve 59 = .ok (.iload_n 2, 1) := by decide +kernel
theorem dX6_solve_60 : decode cX6_solve 60 = .ok (.iconst 0, 1) := by decide +kernel
theorem dX6_solve_61 : decode cX6_solve 61 = .ok (.invokevirtual 43, 3) := by decide +kernel
theorem dX6_solve_64 : decode cX6_solve 64 = .ok (.iastore, 1) := by decide +kernel
theorem dX6_solve_65 : decode cX6_solve 65 = .ok (.aload_n 0, 1) := by decide +kernel
theorem dX6_solve_66 : decode cX6_solve 66 = .ok (.getfield 32, 3) := by decide +kernel
theorem dX6_solve_69 : decode cX6_solve 69 = .ok (.iload 4, 2) := by decide +kernel
theorem dX6_solve_71 : decode cX6_solve 71 = .ok (.aload_n 0, 1) := by decide +kernel
theorem dX6_solve_72 : decode cX6_solve 72 = .ok (.iload 4, 2) := by decide +kernel
theorem dX6_solve_74 : decode cX6_solve 74 = .ok (.iload_n 2, 1) := by decide +kernel
theorem dX6_solve_75 : decode cX6_solve 75 = .ok (.iconst 1, 1) := by decide +kernel
theorem dX6_solve_76 : decode cX6_solve 76 = .ok (.invokevirtual 43, 3) := by decide +kernel
theorem dX6_solve_79 : decode cX6_solve 79 = .ok (.iastore, 1) := by decide +kernel
theorem dX6_solve_80 : decode cX6_solve 80 = .ok (.aload_n 0, 1) := by decide +kernel
theorem dX6_solve_81 : decode cX6_solve 81 = .ok (.iload_n 2, 1) := by decide +kernel
theorem dX6_solve_82 : decode cX6_solve 82 = .ok (.invokevirtual 47, 3) := by decide +kernel
theorem dX6_solve_85 : decode cX6_solve 85 = .ok (.iinc 4 1, 3) := by decide +kernel
theorem dX6_solve_88 : decode cX6_solve 88 = .ok (.goto (-52), 3) := by decide +kernel
theorem dX6_solve_91 : decode cX6_solve 91 = .ok (.return_, 1) := by decide +kernel
theorem dX6_rank_0 : decode cX6_rank 0 = .ok (.iconst 1, 1) := by decide +kernel
theorem dX6_rank_1 : decode cX6_rank 1 = .ok (.istore_n 3, 1) := by decide +kernel
theorem dX6_rank_2 : decode cX6_rank 2 = .ok (.iconst 0, 1) := by decide +kernel
theorem dX6_rank_3 : decode cX6_rank 3 = .ok (.istore 4, 2) := by decide +kernel
theorem dX6_rank_5 : decode cX6_rank 5 = .ok (.iload 4, 2) := by decide +kernel
theorem dX6_rank_7 : decode cX6_rank 7 = .ok (.iload_n 2, 1) := by decide +kernel
theorem dX6_rank_8 : decode cX6_rank 8 = .ok (.if_icmp .ge 114, 3) := by decide +kernel
theorem dX6_rank_11 : decode cX6_rank 11 = .ok (.aload_n 0, 1) := by decide +kernel
theorem dX6_rank_12 : decode cX6_rank 12 = .ok (.getfield 35, 3) := by decide +kernel
theorem dX6_rank_15 : decode cX6_rank 15 = .ok (.getfield 51, 3) := by decide +kernel
theorem dX6_rank_18 : decode cX6_rank 18 = .ok (.aload_n 1, 1) := by decide +kernel
theorem dX6_rank_19 : decode cX6_rank 19 = .ok (.iload 4, 2) := by decide +kernel
theorem dX6_rank_21 : decode cX6_rank 21 = .ok (.iaload, 1) := by decide +kernel
theorem dX6_rank_22 : decode cX6_rank 22 = .ok (.aaload, 1) := by decide +kernel
theorem dX6_rank_23 : decode cX6_rank 23 = .ok (.getfield 57, 3) := by decide +kernel
theorem dX6_rank_26 : decode cX6_rank 26 = .ok (.lstore 5, 2) := by decide +kernel
theorem dX6_rank_28 : decode cX6_rank 28 = .ok (.iconst 0, 1) := by decide +kernel
theorem dX6_rank_29 : decode cX6_rank 29 = .ok (.istore 7, 2) := by decide +kernel
theorem dX6_rank_31 : decode cX6_rank 31 = .ok (.iconst 0, 1) := by decide +kernel
theorem dX6_rank_32 : decode cX6_rank 32 = .ok (.istore 8, 2) := by decide +kernel
theorem dX6_rank_34 : decode cX6_rank 34 = .ok (.iload 8, 2) := by decide +kernel
theorem dX6_rank_36 : decode cX6_rank 36 = .ok (.aload_n 1, 1) := by decide +kernel
theorem dX6_rank_37 : decode cX6_rank 37 = .ok (.iload 4, 2) := by decide +kernel
theorem dX6_rank_39 : decode cX6_rank 39 = .ok (.iaload, 1) := by decide +kernel
theorem dX6_rank_40 : decode cX6_rank 40 = .ok (.if_icmp .gt 46, 3) := by decide +kernel
theorem dX6_rank_43 : decode cX6_rank 43 = .ok (.lload 5, 2) := by decide +kernel
theorem dX6_rank_45 : decode cX6_rank 45 = .ok (.iload 8, 2) := by decide +kernel
theorem dX6_rank_47 : decode cX6_rank 47 = .ok (.invokestatic 63, 3) := by decide +kernel
theorem dX6_rank_50 : decode cX6_rank 50 = .ok (.ifCond .eq 30, 3) := by decide +kernel
theorem dX6_rank_53 : decode cX6_rank 53 = .ok (.aload_n 0, 1) := by decide +kernel
theorem dX6_rank_54 : decode cX6_rank 54 = .ok (.getfield 11, 3) := by decide +kernel
theorem dX6_rank_57 : decode cX6_rank 57 = .ok (.iload 4, 2) := by decide +kernel
theorem dX6_rank_59 : decode cX6_rank 59 = .ok (.aaload, 1) := by decide +kernel
theorem dX6_rank_60 : decode cX6_rank 60 = .ok (.iload 8, 2) := by decide +kernel
theorem dX6_rank_62 : decode cX6_rank 62 = .ok (.iload 7, 2) := by decide +kernel
theorem dX6_rank_64 : decode cX6_rank 64 = .ok (.iastore, 1) := by decide +kernel
theorem dX6_rank_65 : decode cX6_rank 65 = .ok (.aload_n 0, 1) := by decide +kernel
theorem dX6_rank_66 : decode cX6_rank 66 = .ok (.getfield 16, 3) := by decide +kernel
theorem dX6_rank_69 : decode cX6_rank 69 = .ok (.iload 4, 2) := by decide +kernel
theorem dX6_rank_71 : decode cX6_rank 71 = .ok (.aaload, 1) := by decide +kernel
theorem dX6_rank_72 : decode cX6_rank 72 = .ok (.iload 7, 2) := by decide +kernel
theorem dX6_rank_74 : decode cX6_rank 74 = .ok (.iload 8, 2) := by decide +kernel
theorem dX6_rank_76 : decode cX6_rank 76 = .ok (.iastore, 1) := by decide +kernel
theorem dX6_rank_77 : decode cX6_rank 77 = .ok (.iinc 7 1, 3) := by decide +kernel
theorem dX6_rank_80 : decode cX6_rank 80 = .ok (.iinc 8 1, 3) := by decide +kernel
theorem dX6_rank_83 : decode cX6_rank 83 = .ok (.goto (-49), 3) := by decide +kernel
theorem dX6_rank_86 : decode cX6_rank 86 = .ok (.aload_n 0, 1) := by decide +kernel
theorem dX6_rank_87 : decode cX6_rank 87 = .ok (.getfield 26, 3) := by decide +kernel
theorem dX6_rank_90 : decode cX6_rank 90 = .ok (.iload 4, 2) := by decide +kernel
theorem dX6_rank_92 : decode cX6_rank 92 = .ok (.iconst 0, 1) := by decide +kernel
theorem dX6_rank_93 : decode cX6_rank 93 = .ok (.iastore, 1) := by decide +kernel
theorem dX6_rank_94 : decode cX6_rank 94 = .ok (.aload_n 0, 1) := by decide +kernel
theorem dX6_rank_95 : decode cX6_rank 95 = .ok (.getfield 19, 3) := by decide +kernel
theorem dX6_rank_98 : decode cX6_rank 98 = .ok (.iload 4, 2) := by decide +kernel
theorem dX6_rank_100 : decode cX6_rank 100 = .ok (.iload 7, 2) := by decide +kernel
theorem dX6_rank_102 : decode cX6_rank 102 = .ok (.iastore, 1) := by decide +kernel
theorem dX6_rank_103 : decode cX6_rank 103 = .ok (.aload_n 0, 1) := by decide +kernel
theorem dX6_rank_104 : decode cX6_rank 104 = .ok (.getfield 23, 3) := by decide +kernel
theorem dX6_rank_107 : decode cX6_rank 107 = .ok (.iload 4, 2) := by decide +kernel
theorem dX6_rank_109 : decode cX6_rank 109 = .ok (.iload_n 3, 1) := by decide +kernel
theorem dX6_rank_110 : decode cX6_rank 110 = .ok (.iastore, 1) := by decide +kernel
theorem dX6_rank_111 : decode cX6_rank 111 = .ok (.iload_n 3, 1) := by decide +kernel
theorem dX6_rank_112 : decode cX6_rank 112 = .ok (.iload 7, 2) := by decide +kernel
theorem dX6_rank_114 : decode cX6_rank 114 = .ok (.imul, 1) := by decide +kernel
theorem dX6_rank_115 : decode cX6_rank 115 = .ok (.istore_n 3, 1) := by decide +kernel
theorem dX6_rank_116 : decode cX6_rank 116 = .ok (.iinc 4 1, 3) := by decide +kernel
theorem dX6_rank_119 : decode cX6_rank 119 = .ok (.goto (-114), 3) := by decide +kernel
theorem dX6_rank_122 : decode cX6_rank 122 = .ok (.iload_n 3, 1) := by decide +kernel
theorem dX6_rank_123 : decode cX6_rank 123 = .ok (.ireturn, 1) := by decide +kernel
theorem dX6_turn_0 : decode cX6_turn 0 = .ok (.iconst 0, 1) := by decide +kernel
theorem dX6_turn_1 : decode cX6_turn 1 = .ok (.istore_n 2, 1) := by decide +kernel
theorem dX6_turn_2 : decode cX6_turn 2 = .ok (.iload_n 2, 1) := by decide +kernel
theorem dX6_turn_3 : decode cX6_turn 3 = .ok (.iload_n 1, 1) := by decide +kernel
theorem dX6_turn_4 : decode cX6_turn 4 = .ok (.if_icmp .ge 42, 3) := by decide +kernel
theorem dX6_turn_7 : decode cX6_turn 7 = .ok (.aload_n 0, 1) := by decide +kernel
theorem dX6_turn_8 : decode cX6_turn 8 = .ok (.getfield 26, 3) := by decide +kernel
theorem dX6_turn_11 : decode cX6_turn 11 = .ok (.iload_n 2, 1) := by decide +kernel
theorem dX6_turn_12 : decode cX6_turn 12 = .ok (.dup2, 1) := by decide +kernel
theorem dX6_turn_13 : decode cX6_turn 13 = .ok (.iaload, 1) := by decide +kernel
theorem dX6_turn_14 : decode cX6_turn 14 = .ok (.iconst 1, 1) := by decide +kernel
theorem dX6_turn_15 : decode cX6_turn 15 = .ok (.iadd, 1) := by decide +kernel
theorem dX6_turn_16 : decode cX6_turn 16 = .ok (.iastore, 1) := by decide +kernel
theorem dX6_turn_17 : decode cX6_turn 17 = .ok (.aload_n 0, 1) := by decide +kernel
theorem dX6_turn_18 : decode cX6_turn 18 = .ok (.getfield 26, 3) := by decide +kernel
theorem dX6_turn_21 : decode cX6_turn 21 = .ok (.iload_n 2, 1) := by decide +kernel
theorem dX6_turn_22 : decode cX6_turn 22 = .ok (.iaload, 1) := by decide +kernel
theorem dX6_turn_23 : decode cX6_turn 23 = .ok (.aload_n 0, 1) := by decide +kernel
theorem dX6_turn_24 : decode cX6_turn 24 = .ok (.getfield 19, 3) := by decide +kernel
theorem dX6_turn_27 : decode cX6_turn 27 = .ok (.iload_n 2, 1) := by decide +kernel
theorem dX6_turn_28 : decode cX6_turn 28 = .ok (.iaload, 1) := by decide +kernel
theorem dX6_turn_29 : decode cX6_turn 29 = .ok (.if_icmp .ge 4, 3) := by decide +kernel
theorem dX6_turn_32 : decode cX6_turn 32 = .ok (.return_, 1) := by decide +kernel
theorem dX6_turn_33 : decode cX6_turn 33 = .ok (.aload_n 0, 1) := by decide +kernel
theorem dX6_turn_34 : decode cX6_turn 34 = .ok (.getfield 26, 3) := by decide +kernel
theorem dX6_turn_37 : decode cX6_turn 37 = .ok (.iload_n 2, 1) := by decide +kernel
theorem dX6_turn_38 : decode cX6_turn 38 = .ok (.iconst 0, 1) := by decide +kernel
theorem dX6_turn_39 : decode cX6_turn 39 = .ok (.iastore, 1) := by decide +kernel
theorem dX6_turn_40 : decode cX6_turn 40 = .ok (.iinc 2 1, 3) := by decide +kernel
theorem dX6_turn_43 : decode cX6_turn 43 = .ok (.goto (-41), 3) := by decide +kernel
theorem dX6_turn_46 : decode cX6_turn 46 = .ok (.return_, 1) := by decide +kernel
theorem dX6_bestFrom_0 : decode cX6_bestFrom 0 = .ok (.iload_n 3, 1) := by decide +kernel
theorem dX6_bestFrom_1 : decode cX6_bestFrom 1 = .ok (.invokestatic 67, 3) := by decide +kernel
theorem dX6_bestFrom_4 : decode cX6_bestFrom 4 = .ok (.istore 4, 2) := by decide +kernel
theorem dX6_bestFrom_6 : decode cX6_bestFrom 6 = .ok (.iload_n 3, 1) := by decide +kernel
theorem dX6_bestFrom_7 : decode cX6_bestFrom 7 = .ok (.ifCond .ne 10, 3) := by decide +kernel
theorem dX6_bestFrom_10 : decode cX6_bestFrom 10 = .ok (.aload_n 0, 1) := by decide +kernel
theorem dX6_bestFrom_11 : decode cX6_bestFrom 11 = .ok (.getfield 32, 3) := by decide +kernel
theorem dX6_bestFrom_14 : decode cX6_bestFrom 14 = .ok (.goto 7, 3) := by decide +kernel
theorem dX6_bestFrom_17 : decode cX6_bestFrom 17 = .ok (.aload_n 0, 1) := by decide +kernel
theorem dX6_bestFrom_18 : decode cX6_bestFrom 18 = .ok (.getfield 29, 3) := by decide +kernel
theorem dX6_bestFrom_21 : decode cX6_bestFrom 21 = .ok (.astore 5, 2) := by decide +kernel
theorem dX6_bestFrom_23 : decode cX6_bestFrom 23 = .ok (.ldc 71, 2) := by decide +kernel
theorem dX6_bestFrom_25 : decode cX6_bestFrom 25 = .ok (.istore 6, 2) := by decide +kernel
theorem dX6_bestFrom_27 : decode cX6_bestFrom 27 = .ok (.iconst 0, 1) := by decide +kernel
theorem dX6_bestFrom_28 : decode cX6_bestFrom 28 = .ok (.istore 7, 2) := by decide +kernel
theorem dX6_bestFrom_30 : decode cX6_bestFrom 30 = .ok (.iconst 0, 1) := by decide +kernel
theorem dX6_bestFrom_31 : decode cX6_bestFrom 31 = .ok (.istore 8, 2) := by decide +kernel
theorem dX6_bestFrom_33 : decode cX6_bestFrom 33 = .ok (.iload 8, 2) := by decide +kernel
theorem dX6_bestFrom_35 : decode cX6_bestFrom 35 = .ok (.iload_n 2, 1) := by decide +kernel
theorem dX6_bestFrom_36 : decode cX6_bestFrom 36 = .ok (.if_icmp .ge 124, 3) := by decide +kernel
theorem dX6_bestFrom_39 : decode cX6_bestFrom 39 = .ok (.aload_n 0, 1) := by decide +kernel
theorem dX6_bestFrom_40 : decode cX6_bestFrom 40 = .ok (.getfield 35, 3) := by decide +kernel
theorem dX6_bestFrom_43 : decode cX6_bestFrom 43 = .ok (.getfield 51, 3) := by decide +kernel
theorem dX6_bestFrom_46 : decode cX6_bestFrom 46 = .ok (.aload_n 0, 1) := by decide +kernel
theorem dX6_bestFrom_47 : decode cX6_bestFrom 47 = .ok (.getfield 16, 3) := by decide +kernel
theorem dX6_bestFrom_50 : decode cX6_bestFrom 50 = .ok (.iload 8, 2) := by decide +kernel
theorem dX6_bestFrom_52 : decode cX6_bestFrom 52 = .ok (.aaload, 1) := by decide +kernel
theorem dX6_bestFrom_53 : decode cX6_bestFrom 53 = .ok (.aload_n 0, 1) := by decide +kernel
theorem dX6_bestFrom_54 : decode cX6_bestFrom 54 = .ok (.getfield 26, 3) := by decide +kernel
theorem dX6_bestFrom_57 : decode cX6_bestFrom 57 = .ok (.iload 8, 2) := by decide +kernel
theorem dX6_bestFrom_59 : decode cX6_bestFrom 59 = .ok (.iaload, 1) := by decide +kernel
theorem dX6_bestFrom_60 : decode cX6_bestFrom 60 = .ok (.iaload, 1) := by decide +kernel
theorem dX6_bestFrom_61 : decode cX6_bestFrom 61 = .ok (.aaload, 1) := by decide +kernel
theorem dX6_bestFrom_62 : decode cX6_bestFrom 62 = .ok (.astore 9, 2) := by decide +kernel
theorem dX6_bestFrom_64 : decode cX6_bestFrom 64 = .ok (.iload 7, 2) := by decide +kernel
theorem dX6_bestFrom_66 : decode cX6_bestFrom 66 = .ok (.aload 9, 2) := by decide +kernel
theorem dX6_bestFrom_68 : decode cX6_bestFrom 68 = .ok (.getfield 72, 3) := by decide +kernel
theorem dX6_bestFrom_71 : decode cX6_bestFrom 71 = .ok (.iadd, 1) := by decide +kernel
theorem dX6_bestFrom_72 : decode cX6_bestFrom 72 = .ok (.istore 7, 2) := by decide +kernel
theorem dX6_bestFrom_74 : decode cX6_bestFrom 74 = .ok (.iconst 0, 1) := by decide +kernel
theorem dX6_bestFrom_75 : decode cX6_bestFrom 75 = .ok (.istore 10, 2) := by decide +kernel
theorem dX6_bestFrom_77 : decode cX6_bestFrom 77 = .ok (.iload 10, 2) := by decide +kernel
theorem dX6_bestFrom_79 : decode cX6_bestFrom 79 = .ok (.aload 9, 2) := by decide +kernel
theorem dX6_bestFrom_81 : decode cX6_bestFrom 81 = .ok (.getfield 76, 3) := by decide +kernel
theorem dX6_bestFrom_84 : decode cX6_bestFrom 84 = .ok (.iload_n 3, 1) := by decide +kernel
theorem dX6_bestFrom_85 : decode cX6_bestFrom 85 = .ok (.iaload, 1) := by decide +kernel
theorem dX6_bestFrom_86 : decode cX6_bestFrom 86 = .ok (.if_icmp .ge 68, 3) := by decide +kernel
theorem dX6_bestFrom_89 : decode cX6_bestFrom 89 = .ok (.aload 9, 2) := by decide +kernel
theorem dX6_bestFrom_91 : decode cX6_bestFrom 91 = .ok (.getfield 79, 3) := by decide +kernel
theorem dX6_bestFrom_94 : decode cX6_bestFrom 94 = .ok (.ifCond .ne 60, 3) := by decide +kernel
theorem dX6_bestFrom_97 : decode cX6_bestFrom 97 = .ok (.aload_n 0, 1) := by decide +kernel
theorem dX6_bestFrom_98 : decode cX6_bestFrom 98 = .ok (.getfield 26, 3) := by decide +kernel
theorem dX6_bestFrom_101 : decode cX6_bestFrom 101 = .ok (.iload 8, 2) := by decide +kernel
theorem dX6_bestFrom_103 : decode cX6_bestFrom 103 = .ok (.iaload, 1) := by decide +kernel
theorem dX6_bestFrom_104 : decode cX6_bestFrom 104 = .ok (.aload_n 0, 1) := by decide +kernel
theorem dX6_bestFrom_105 : decode cX6_bestFrom 105 = .ok (.getfield 11, 3) := by decide +kernel
theorem dX6_bestFrom_108 : decode cX6_bestFrom 108 = .ok (.iload 8, 2) := by decide +kernel
theorem dX6_bestFrom_110 : decode cX6_bestFrom 110 = .ok (.aaload, 1) := by decide +kernel
theorem dX6_bestFrom_111 : decode cX6_bestFrom 111 = .ok (.aload 9, 2) := by decide +kernel
theorem dX6_bestFrom_113 : decode cX6_bestFrom 113 = .ok (.iload_n 3, 1) := by decide +kernel
theorem dX6_bestFrom_114 : decode cX6_bestFrom 114 = .ok (.iload 10, 2) := by decide +kernel
theorem dX6_bestFrom_116 : decode cX6_bestFrom 116 = .ok (.invokevirtual 83, 3) := by decide +kernel
theorem dX6_bestFrom_119 : decode cX6_bestFrom 119 = .ok (.iaload, 1) := by decide +kernel
theorem dX6_bestFrom_120 : decode cX6_bestFrom 120 = .ok (.isub, 1) := by decide +kernel
theorem dX6_bestFrom_121 : decode cX6_bestFrom 121 = .ok (.istore 11, 2) := by decide +kernel
theorem dX6_bestFrom_123 : decode cX6_bestFrom 123 = .ok (.iload 6, 2) := by decide +kernel
theorem dX6_bestFrom_125 : decode cX6_bestFrom 125 = .ok (.iload 4, 2) := by decide +kernel
theorem dX6_bestFrom_127 : decode cX6_bestFrom 127 = .ok (.aload 5, 2) := by decide +kernel
theorem dX6_bestFrom_129 : decode cX6_bestFrom 129 = .ok (.iload_n 1, 1) := by decide +kernel
theorem dX6_bestFrom_130 : decode cX6_bestFrom 130 = .ok (.iload 11, 2) := by decide +kernel
theorem dX6_bestFrom_132 : decode cX6_bestFrom 132 = .ok (.aload_n 0, 1) := by decide +kernel
theorem dX6_bestFrom_133 : decode cX6_bestFrom 133 = .ok (.getfield 23, 3) := by decide +kernel
theorem dX6_bestFrom_136 : decode cX6_bestFrom 136 = .ok (.iload 8, 2) := by decide +kernel
theorem dX6_bestFrom_138 : decode cX6_bestFrom 138 = .ok (.iaload, 1) := by decide +kernel
theorem dX6_bestFrom_139 : decode cX6_bestFrom 139 = .ok (.imul, 1) := by decide +kernel
theorem dX6_bestFrom_140 : decode cX6_bestFrom 140 = .ok (.isub, 1) := by decide +kernel
theorem dX6_bestFrom_141 : decode cX6_bestFrom 141 = .ok (.iaload, 1) := by decide +kernel
theorem dX6_bestFrom_142 : decode cX6_bestFrom 142 = .ok (.imul, 1) := by decide +kernel
theorem dX6_bestFrom_143 : decode cX6_bestFrom 143 = .ok (.invokestatic 87, 3) := by decide +kernel
theorem dX6_bestFrom_146 : decode cX6_bestFrom 146 = .ok (.istore 6, 2) := by decide +kernel
theorem dX6_bestFrom_148 : decode cX6_bestFrom 148 = .ok (.iinc 10 1, 3) := by decide +kernel
theorem dX6_bestFrom_151 : decode cX6_bestFrom 151 = .ok (.goto (-74), 3) := by decide +kernel
theorem dX6_bestFrom_154 : decode cX6_bestFrom 154 = .ok (.iinc 8 1, 3) := by decide +kernel
theorem dX6_bestFrom_157 : decode cX6_bestFrom 157 = .ok (.goto (-124), 3) := by decide +kernel
theorem dX6_bestFrom_160 : decode cX6_bestFrom 160 = .ok (.iload 6, 2) := by decide +kernel
theorem dX6_bestFrom_162 : decode cX6_bestFrom 162 = .ok (.ldc 71, 2) := by decide +kernel
theorem dX6_bestFrom_164 : decode cX6_bestFrom 164 = .ok (.if_icmp .ne 8, 3) := by decide +kernel
theorem dX6_bestFrom_167 : decode cX6_bestFrom 167 = .ok (.iload 7, 2) := by decide +kernel
theorem dX6_bestFrom_169 : decode cX6_bestFrom 169 = .ok (.goto 8, 3) := by decide +kernel
theorem dX6_bestFrom_172 : decode cX6_bestFrom 172 = .ok (.iload 4, 2) := by decide +kernel
theorem dX6_bestFrom_174 : decode cX6_bestFrom 174 = .ok (.iload 6, 2) := by decide +kernel
theorem dX6_bestFrom_176 : decode cX6_bestFrom 176 = .ok (.imul, 1) := by decide +kernel
theorem dX6_bestFrom_177 : decode cX6_bestFrom 177 = .ok (.ireturn, 1) := by decide +kernel
theorem dX6_scoreOf_0 : decode cX6_scoreOf 0 = .ok (.iconst 0, 1) := by decide +kernel
theorem dX6_scoreOf_1 : decode cX6_scoreOf 1 = .ok (.istore 4, 2) := by decide +kernel
theorem dX6_scoreOf_3 : decode cX6_scoreOf 3 = .ok (.iconst 0, 1) := by decide +kernel
theorem dX6_scoreOf_4 : decode cX6_scoreOf 4 = .ok (.istore 5, 2) := by decide +kernel
theorem dX6_scoreOf_6 : decode cX6_scoreOf 6 = .ok (.iload 5, 2) := by decide +kernel
theorem dX6_scoreOf_8 : decode cX6_scoreOf 8 = .ok (.iload_n 2, 1) := by decide +kernel
theorem dX6_scoreOf_9 : decode cX6_scoreOf 9 = .ok (.if_icmp .ge 34, 3) := by decide +kernel
theorem dX6_scoreOf_12 : decode cX6_scoreOf 12 = .ok (.iload 4, 2) := by decide +kernel
theorem dX6_scoreOf_14 : decode cX6_scoreOf 14 = .ok (.aload_n 0, 1) := by decide +kernel
theorem dX6_scoreOf_15 : decode cX6_scoreOf 15 = .ok (.getfield 11, 3) := by decide +kernel
theorem dX6_scoreOf_18 : decode cX6_scoreOf 18 = .ok (.iload 5, 2) := by decide +kernel
theorem dX6_scoreOf_20 : decode cX6_scoreOf 20 = .ok (.aaload, 1) := by decide +kernel
theorem dX6_scoreOf_21 : decode cX6_scoreOf 21 = .ok (.aload_n 1, 1) := by decide +kernel
theorem dX6_scoreOf_22 : decode cX6_scoreOf 22 = .ok (.iload 5, 2) := by decide +kernel
theorem dX6_scoreOf_24 : decode cX6_scoreOf 24 = .ok (.iaload, 1) := by decide +kernel
theorem dX6_scoreOf_25 : decode cX6_scoreOf 25 = .ok (.iaload, 1) := by decide +kernel
theorem dX6_scoreOf_26 : decode cX6_scoreOf 26 = .ok (.aload_n 0, 1) := by decide +kernel
theorem dX6_scoreOf_27 : decode cX6_scoreOf 27 = .ok (.getfield 23, 3) := by decide +kernel
theorem dX6_scoreOf_30 : decode cX6_scoreOf 30 = .ok (.iload 5, 2) := by decide +kernel
theorem dX6_scoreOf_32 : decode cX6_scoreOf 32 = .ok (.iaload, 1) := by decide +kernel
theorem dX6_scoreOf_33 : decode cX6_scoreOf 33 = .ok (.imul, 1) := by decide +kernel
theorem dX6_scoreOf_34 : decode cX6_scoreOf 34 = .ok (.iadd, 1) := by decide +kernel
theorem dX6_scoreOf_35 : decode cX6_scoreOf 35 = .ok (.istore 4, 2) := by decide +kernel
theorem dX6_scoreOf_37 : decode cX6_scoreOf 37 = .ok (.iinc 5 1, 3) := by decide +kernel
theorem dX6_scoreOf_40 : decode cX6_scoreOf 40 = .ok (.goto (-34), 3) := by decide +kernel
theorem dX6_scoreOf_43 : decode cX6_scoreOf 43 = .ok (.iload_n 3, 1) := by decide +kernel
theorem dX6_scoreOf_44 : decode cX6_scoreOf 44 = .ok (.ifCond .ne 13, 3) := by decide +kernel
theorem dX6_scoreOf_47 : decode cX6_scoreOf 47 = .ok (.aload_n 0, 1) := by decide +kernel
theorem dX6_scoreOf_48 : decode cX6_scoreOf 48 = .ok (.getfield 29, 3) := by decide +kernel
theorem dX6_scoreOf_51 : decode cX6_scoreOf 51 = .ok (.iload 4, 2) := by decide +kernel
theorem dX6_scoreOf_53 : decode cX6_scoreOf 53 = .ok (.iaload, 1) := by decide +kernel
theorem dX6_scoreOf_54 : decode cX6_scoreOf 54 = .ok (.goto 10, 3) := by decide +kernel
theorem dX6_scoreOf_57 : decode cX6_scoreOf 57 = .ok (.aload_n 0, 1) := by decide +kernel
theorem dX6_scoreOf_58 : decode cX6_scoreOf 58 = .ok (.getfield 32, 3) := by decide +kernel
theorem dX6_scoreOf_61 : decode cX6_scoreOf 61 = .ok (.iload 4, 2) := by decide +kernel
theorem dX6_scoreOf_63 : decode cX6_scoreOf 63 = .ok (.iaload, 1) := by decide +kernel
theorem dX6_scoreOf_64 : decode cX6_scoreOf 64 = .ok (.ireturn, 1) := by decide +kernel
theorem dX7_init_0 : decode cX7_init 0 = .ok (.aload_n 0, 1) := by decide +kernel
theorem dX7_init_1 : decode cX7_init 1 = .ok (.invokespecial 3, 3) := by decide +kernel
theorem dX7_init_4 : decode cX7_init 4 = .ok (.aload_n 0, 1) := by decide +kernel
theorem dX7_init_5 : decode cX7_init 5 = .ok (.iconst 4, 1) := by decide +kernel
theorem dX7_init_6 : decode cX7_init 6 = .ok (.newarray .int, 2) := by decide +kernel
theorem dX7_init_8 : decode cX7_init 8 = .ok (.putfield 9, 3) := by decide +kernel
theorem dX7_init_11 : decode cX7_init 11 = .ok (.aload_n 0, 1) := by decide +kernel
theorem dX7_init_12 : decode cX7_init 12 = .ok (.iconst 0, 1) := by decide +kernel
theorem dX7_init_13 : decode cX7_init 13 = .ok (.putfield 15, 3) := by decide +kernel
theorem dX7_init_16 : decode cX7_init 16 = .ok (.return_, 1) := by decide +kernel
theorem dX7_append_0 : decode cX7_append 0 = .ok (.aload_n 0, 1) := by decide +kernel
theorem dX7_append_1 : decode cX7_append 1 = .ok (.getfield 15, 3) := by decide +kernel
theorem dX7_append_4 : decode cX7_append 4 = .ok (.iconst 4, 1) := by decide +kernel
theorem dX7_append_5 : decode cX7_append 5 = .ok (.if_icmp .ge 23, 3) := by decide +kernel
theorem dX7_append_8 : decode cX7_append 8 = .ok (.aload_n 0, 1) := by decide +kernel
theorem dX7_append_9 : decode cX7_append 9 = .ok (.getfield 9, 3) := by decide +kernel
theorem dX7_append_12 : decode cX7_append 12 = .ok (.aload_n 0, 1) := by decide +kernel
theorem dX7_append_13 : decode cX7_append 13 = .ok (.getfield 15, 3) := by decide +kernel
theorem dX7_append_16 : decode cX7_append 16 = .ok (.iload_n 1, 1) := by decide +kernel
theorem dX7_append_17 : decode cX7_append 17 = .ok (.iastore, 1) := by decide +kernel
theorem dX7_append_18 : decode cX7_append 18 = .ok (.aload_n 0, 1) := by decide +kernel
theorem dX7_append_19 : decode cX7_append 19 = .ok (.dup, 1) := by decide +kernel
theorem dX7_append_20 : decode cX7_append 20 = .ok (.getfield 15, 3) := by decide +kernel
theorem dX7_append_23 : decode cX7_append 23 = .ok (.iconst 1, 1) := by decide +kernel
theorem dX7_append_24 : decode cX7_append 24 = .ok (.iadd, 1) := by decide +kernel
theorem dX7_append_25 : decode cX7_append 25 = .ok (.putfield 15, 3) := by decide +kernel
theorem dX7_append_28 : decode cX7_append 28 = .ok (.return_, 1) := by decide +kernel
theorem dX7_takeOut_0 : decode cX7_takeOut 0 = .ok (.aload_n 0, 1) := by decide +kernel
theorem dX7_takeOut_1 : decode cX7_takeOut 1 = .ok (.getfield 9, 3) := by decide +kernel
theorem dX7_takeOut_4 : decode cX7_takeOut 4 = .ok (.iload_n 1, 1) := by decide +kernel
theorem dX7_takeOut_5 : decode cX7_takeOut 5 = .ok (.iaload, 1) := by decide +kernel
theorem dX7_takeOut_6 : decode cX7_takeOut 6 = .ok (.istore_n 2, 1) := by decide +kernel
theorem dX7_takeOut_7 : decode cX7_takeOut 7 = .ok (.iload_n 1, 1) := by decide +kernel
theorem dX7_takeOut_8 : decode cX7_takeOut 8 = .ok (.iconst 1, 1) := by decide +kernel
theorem dX7_takeOut_9 : decode cX7_takeOut 9 = .ok (.iadd, 1) := by decide +kernel
theorem dX7_takeOut_10 : decode cX7_takeOut 10 = .ok (.istore_n 3, 1) := by decide +kernel
theorem dX7_takeOut_11 : decode cX7_takeOut 11 = .ok (.iload_n 3, 1) := by decide +kernel
theorem dX7_takeOut_12 : decode cX7_takeOut 12 = .ok (.aload_n 0, 1) := by decide +kernel
theorem dX7_takeOut_13 : decode cX7_takeOut 13 = .ok (.getfield 15, 3) := by decide +kernel
theorem dX7_takeOut_16 : decode cX7_takeOut 16 = .ok (.if_icmp .ge 23, 3) := by decide +kernel
theorem dX7_takeOut_19 : decode cX7_takeOut 19 = .ok (.aload_n 0, 1) := by decide +kernel
theorem dX7_takeOut_20 : decode cX7_takeOut 20 = .ok (.getfield 9, 3) := by decide +kernel
theorem dX7_takeOut_23 : decode cX7_takeOut 23 = .ok (.iload_n 3, 1) := by decide +kernel
theorem dX7_takeOut_24 : decode cX7_takeOut 24 = .ok (.iconst 1, 1) := by decide +kernel
theorem dX7_takeOut_25 : decode cX7_takeOut 25 = .ok (.isub, 1) := by decide +kernel
theorem dX7_takeOut_26 : decode cX7_takeOut 26 = .ok (.aload_n 0, 1) := by decide +kernel
theorem dX7_takeOut_27 : decode cX7_takeOut 27 = .ok (.getfield 9, 3) := by decide +kernel
theorem dX7_takeOut_30 : decode cX7_takeOut 30 = .ok (.iload_n 3, 1) := by decide +kernel
theorem dX7_takeOut_31 : decode cX7_takeOut 31 = .ok (.iaload, 1) := by decide +kernel
theorem dX7_takeOut_32 : decode cX7_takeOut 32 = .ok (.iastore, 1) := by decide +kernel
theorem dX7_takeOut_33 : decode cX7_takeOut 33 = .ok (.iinc 3 1, 3) := by decide +kernel
theorem dX7_takeOut_36 : decode cX7_takeOut 36 = .ok (.goto (-25), 3) := by decide +kernel
theorem dX7_takeOut_39 : decode cX7_takeOut 39 = .ok (.aload_n 0, 1) := by decide +kernel
theorem dX7_takeOut_40 : decode cX7_takeOut 40 = .ok (.dup, 1) := by decide +kernel
theorem dX7_takeOut_41 : decode cX7_takeOut 41 = .ok (.getfield 15, 3) := by decide +kernel
theorem dX7_takeOut_44 : decode cX7_takeOut 44 = .ok (.iconst 1, 1) := by decide +kernel
theorem dX7_takeOut_45 : decode cX7_takeOut 45 = .ok (.isub, 1) := by decide +kernel
theorem dX7_takeOut_46 : decode cX7_takeOut 46 = .ok (.putfield 15, 3) := by decide +kernel
theorem dX7_takeOut_49 : decode cX7_takeOut 49 = .ok (.iload_n 2, 1) := by decide +kernel
theorem dX7_takeOut_50 : decode cX7_takeOut 50 = .ok (.ireturn, 1) := by decide +kernel
theorem dX8_init_0 : decode cX8_init 0 = .ok (.aload_n 0, 1) := by decide +kernel
theorem dX8_init_1 : decode cX8_init 1 = .ok (.invokespecial 3, 3) := by decide +kernel
theorem dX8_init_4 : decode cX8_init 4 = .ok (.aload_n 0, 1) := by decide +kernel
theorem dX8_init_5 : decode cX8_init 5 = .ok (.sipush 400, 3) := by decide +kernel
theorem dX8_init_8 : decode cX8_init 8 = .ok (.newarray .int, 2) := by decide +kernel
theorem dX8_init_10 : decode cX8_init 10 = .ok (.putfield 9, 3) := by decide +kernel
theorem dX8_init_13 : decode cX8_init 13 = .ok (.aload_n 0, 1) := by decide +kernel
theorem dX8_init_14 : decode cX8_init 14 = .ok (.iconst 0, 1) := by decide +kernel
theorem dX8_init_15 : decode cX8_init 15 = .ok (.putfield 15, 3) := by decide +kernel
theorem dX8_init_18 : decode cX8_init 18 = .ok (.aload_n 0, 1) := by decide +kernel
theorem dX8_init_19 : decode cX8_init 19 = .ok (.bipush 80, 2) := by decide +kernel
theorem dX8_init_21 : decode cX8_init 21 = .ok (.newarray .char, 2) := by decide +kernel
theorem dX8_init_23 : decode cX8_init 23 = .ok (.putfield 19, 3) := by decide +kernel
theorem dX8_init_26 : decode cX8_init 26 = .ok (.aload_n 0, 1) := by decide +kernel
theorem dX8_init_27 : decode cX8_init 27 = .ok (.bipush 80, 2) := by decide +kernel
theorem dX8_init_29 : decode cX8_init 29 = .ok (.newarray .boolean, 2) := by decide +kernel
theorem dX8_init_31 : decode cX8_init 31 = .ok (.putfield 23, 3) := by decide +kernel
theorem dX8_init_34 : decode cX8_init 34 = .ok (.return_, 1) := by decide +kernel
theorem dX8_append_0 : decode cX8_append 0 = .ok (.aload_n 0, 1) := by decide +kernel
theorem dX8_append_1 : decode cX8_append 1 = .ok (.getfield 15, 3) := by decide +kernel
theorem dX8_append_4 : decode cX8_append 4 = .ok (.bipush 80, 2) := by decide +kernel
theorem dX8_append_6 : decode cX8_append 6 = .ok (.if_icmp .ge 23, 3) := by decide +kernel
theorem dX8_append_9 : decode cX8_append 9 = .ok (.aload_n 0, 1) := by decide +kernel
theorem dX8_append_10 : decode cX8_append 10 = .ok (.getfield 19, 3) := by decide +kernel
theorem dX8_append_13 : decode cX8_append 13 = .ok (.aload_n 0, 1) := by decide +kernel
theorem dX8_append_14 : decode cX8_append 14 = .ok (.getfield 15, 3) := by decide +kernel
theorem dX8_append_17 : decode cX8_append 17 = .ok (.iload_n 1, 1) := by decide +kernel
theorem dX8_append_18 : decode cX8_append 18 = .ok (.castore, 1) := by decide +kernel
theorem dX8_append_19 : decode cX8_append 19 = .ok (.aload_n 0, 1) := by decide +kernel
theorem dX8_append_20 : decode cX8_append 20 = .ok (.dup, 1) := by decide +kernel
theorem dX8_append_21 : decode cX8_append 21 = .ok (.getfield 15, 3) := by decide +kernel
theorem dX8_append_24 : decode cX8_append 24 = .ok (.iconst 1, 1) := by decide +kernel
theorem dX8_append_25 : decode cX8_append 25 = .ok (.iadd, 1) := by decide +kernel
theorem dX8_append_26 : decode cX8_append 26 = .ok (.putfield 15, 3) := by decide +kernel
theorem dX8_append_29 : decode cX8_append 29 = .ok (.return_, 1) := by decide +kernel
theorem dX8_parse_0 : decode cX8_parse 0 = .ok (.aload_n 0, 1) := by decide +kernel
theorem dX8_parse_1 : decode cX8_parse 1 = .ok (.iconst 0, 1) := by decide +kernel
theorem dX8_parse_2 : decode cX8_parse 2 = .ok (.putfield 27, 3) := by decide +kernel
theorem dX8_parse_5 : decode cX8_parse 5 = .ok (.aload_n 0, 1) := by decide +kernel
theorem dX8_parse_6 : decode cX8_parse 6 = .ok (.iconst 0, 1) := by decide +kernel
theorem dX8_parse_7 : decode cX8_parse 7 = .ok (.putfield 30, 3) := by decide +kernel
theorem dX8_parse_10 : decode cX8_parse 10 = .ok (.aload_n 0, 1) := by decide +kernel
theorem dX8_parse_11 : decode cX8_parse 11 = .ok (.iconst 0, 1) := by decide +kernel
theorem dX8_parse_12 : decode cX8_parse 12 = .ok (.putfield 33, 3) := by decide +kernel
theorem dX8_parse_15 : decode cX8_parse 15 = .ok (.aload_n 0, 1) := by decide +kernel
theorem dX8_parse_16 : decode cX8_parse 16 = .ok (.iconst (-1), 1) := by decide +kernel
theorem dX8_parse_17 : decode cX8_parse 17 = .ok (.putfield 36, 3) := by decide +kernel
theorem dX8_parse_20 : decode cX8_parse 20 = .ok (.aload_n 0, 1) := by decide +kernel
theorem dX8_parse_21 : decode cX8_parse 21 = .ok (.iconst 0, 1) := by decide +kernel
theorem dX8_parse_22 : decode cX8_parse 22 = .ok (.putfield 39, 3) := by decide +kernel
theorem dX8_parse_25 : decode cX8_parse 25 = .ok (.aload_n 0, 1) := by decide +kernel
theorem dX8_parse_26 : decode cX8_parse 26 = .ok (.invokevirtual 42, 3) := by decide +kernel
theorem dX8_parse_29 : decode cX8_parse 29 = .ok (.iconst 0, 1) := by decide +kernel
theorem dX8_parse_30 : decode cX8_parse 30 = .ok (.istore_n 1, 1) := by decide +kernel
theorem dX8_parse_31 : decode cX8_parse 31 = .ok (.iload_n 1, 1) := by decide +kernel
theorem dX8_parse_32 : decode cX8_parse 32 = .ok (.bipush 80, 2) := by decide +kernel
theorem dX8_parse_34 : decode cX8_parse 34 = .ok (.if_icmp .gt 44, 3) := by decide +kernel
theorem dX8_parse_37 : decode cX8_parse 37 = .ok (.aload_n 0, 1) := by decide +kernel
theorem dX8_parse_38 : decode cX8_parse 38 = .ok (.getfield 36, 3) := by decide +kernel
theorem dX8_parse_41 : decode cX8_parse 41 = .ok (.iconst (-1), 1) := by decide +kernel
theorem dX8_parse_42 : decode cX8_parse 42 = .ok (.if_icmp .ne 36, 3) := by decide +kernel
theorem dX8_parse_45 : decode cX8_parse 45 = .ok (.aload_n 0, 1) := by decide +kernel
theorem dX8_parse_46 : decode cX8_parse 46 = .ok (.getfield 39, 3) := by decide +kernel
theorem dX8_parse_49 : decode cX8_parse 49 = .ok (.iconst 4, 1) := by decide +kernel
theorem dX8_parse_50 : decode cX8_parse 50 = .ok (.if_icmp .eq 28, 3) := by decide +kernel
theorem dX8_parse_53 : decode cX8_parse 53 = .ok (.aload_n 0, 1) := by decide +kernel
theorem dX8_parse_54 : decode cX8_parse 54 = .ok (.getfield 39, 3) := by decide +kernel
theorem dX8_parse_57 : decode cX8_parse 57 = .ok (.iconst 3, 1) := by decide +kernel
theorem dX8_parse_58 : decode cX8_parse 58 = .ok (.if_icmp .ne 10, 3) := by decide +kernel
theorem dX8_parse_61 : decode cX8_parse 61 = .ok (.aload_n 0, 1) := by decide +kernel
theorem dX8_parse_62 : decode cX8_parse 62 = .ok (.invokevirtual 45, 3) := by decide +kernel
theorem dX8_parse_65 : decode cX8_parse 65 = .ok (.goto 7, 3) := by decide +kernel
theorem dX8_parse_68 : decode cX8_parse 68 = .ok (.aload_n 0, 1) := by decide +kernel
theorem dX8_parse_69 : decode cX8_parse 69 = .ok (.invokevirtual 48, 3) := by decide +kernel
theorem dX8_parse_72 : decode cX8_parse 72 = .ok (.iinc 1 1, 3) := by decide +kernel
theorem dX8_parse_75 : decode cX8_parse 75 = .ok (.goto (-44), 3) := by decide +kernel
theorem dX8_parse_78 : decode cX8_parse 78 = .ok (.aload_n 0, 1) := by decide +kernel
theorem dX8_parse_79 : decode cX8_parse 79 = .ok (.getfield 36, 3) := by decide +kernel
theorem dX8_parse_82 : decode cX8_parse 82 = .ok (.ireturn, 1) := by decide +kernel
theorem dX8_advance_0 : decode cX8_advance 0 = .ok (.aload_n 0, 1) := by decide +kernel
theorem dX8_advance_1 : decode cX8_advance 1 = .ok (.getfield 33, 3) := by decide +kernel
theorem dX8_advance_4 : decode cX8_advance 4 = .ok (.aload_n 0, 1) := by decide +kernel
theorem dX8_advance_5 : decode cX8_advance 5 = .ok (.getfield 15, 3) := by decide +kernel
theorem dX8_advance_8 : decode cX8_advance 8 = .ok (.if_icmp .ge 30, 3) := by decide +kernel
theorem dX8_advance_11 : decode cX8_advance 11 = .ok (.aload_n 0, 1) := by decide +kernel
theorem dX8_advance_12 : decode cX8_advance 12 = .ok (.getfield 19, 3) := by decide +kernel
theorem dX8_advance_15 : decode cX8_advance 15 = .ok (.aload_n 0, 1) := by decide +kernel
theorem dX8_advance_16 : decode cX8_advance 16 = .ok (.getfield 33, 3) := by decide +kernel
theorem dX8_advance_19 : decode cX8_advance 19 = .ok (.caload, 1) := by decide +kernel
theorem dX8_advance_20 : decode cX8_advance 20 = .ok (.bipush 32, 2) := by decide +kernel
theorem dX8_advance_22 : decode cX8_advance 22 = .ok (.if_icmp .ne 16, 3) := by decide +kernel
theorem dX8_advance_25 : decode cX8_advance 25 = .ok (.aload_n 0, 1) := by decide +kernel
theorem dX8_advance_26 : decode cX8_advance 26 = .ok (.dup, 1) := by decide +kernel
theorem dX8_advance_27 : decode cX8_advance 27 = .ok (.getfield 33, 3) := by decide +kernel
theorem dX8_advance_30 : decode cX8_advance 30 = .ok (.iconst 1, 1) := by decide +kernel
theorem dX8_advance_31 : decode cX8_advance 31 = .ok (.iadd, 1) := by decide +kernel
theorem dX8_advance_32 : decode cX8_advance 32 = .ok (.putfield 33, 3) := by decide +kernel
theorem dX8_advance_35 : decode cX8_advance 35 = .ok (.goto (-35), 3) := by decide +kernel
theorem dX8_advance_38 : decode cX8_advance 38 = .ok (.aload_n 0, 1) := by decide +kernel
theorem dX8_advance_39 : decode cX8_advance 39 = .ok (.aload_n 0, 1) := by decide +kernel
theorem dX8_advance_40 : decode cX8_advance 40 = .ok (.getfield 33, 3) := by decide +kernel
theorem dX8_advance_43 : decode cX8_advance 43 = .ok (.putfield 51, 3) := by decide +kernel
theorem dX8_advance_46 : decode cX8_advance 46 = .ok (.aload_n 0, 1) := by decide +kernel
theorem dX8_advance_47 : decode cX8_advance 47 = .ok (.aload_n 0, 1) := by decide +kernel
theorem dX8_advance_48 : decode cX8_advance 48 = .ok (.aload_n 0, 1) := by decide +kernel
theorem dX8_advance_49 : decode cX8_advance 49 = .ok (.getfield 51, 3) := by decide +kernel
theorem dX8_advance_52 : decode cX8_advance 52 = .ok (.invokevirtual 54, 3) := by decide +kernel
theorem dX8_advance_55 : decode cX8_advance 55 = .ok (.putfield 58, 3) := by decide +kernel
theorem dX8_advance_58 : decode cX8_advance 58 = .ok (.aload_n 0, 1) := by decide +kernel
theorem dX8_advance_59 : decode cX8_advance 59 = .ok (.getfield 58, 3) := by decide +kernel
theorem dX8_advance_62 : decode cX8_advance 62 = .ok (.ifCond .eq 13, 3) := by decide +kernel
theorem dX8_advance_65 : decode cX8_advance 65 = .ok (.aload_n 0, 1) := by decide +kernel
theorem dX8_advance_66 : decode cX8_advance 66 = .ok (.dup, 1) := by decide +kernel
theorem dX8_advance_67 : decode cX8_advance 67 = .ok (.getfield 33, 3) := by decide +kernel
theorem dX8_advance_70 : decode cX8_advance 70 = .ok (.iconst 1, 1) := by decide +kernel
theorem dX8_advance_71 : decode cX8_advance 71 = .ok (.iadd, 1) := by decide +kernel
theorem dX8_advance_72 : decode cX8_advance 72 = .ok (.putfield 33, 3) := by decide +kernel
theorem dX8_advance_75 : decode cX8_advance 75 = .ok (.aload_n 0, 1) := by decide +kernel
theorem dX8_advance_76 : decode cX8_advance 76 = .ok (.getfield 58, 3) := by decide +kernel
theorem dX8_advance_79 : decode cX8_advance 79 = .ok (.iconst 2, 1) := by decide +kernel
theorem dX8_advance_80 : decode cX8_advance 80 = .ok (.if_icmp .eq 11, 3) := by decide +kernel
theorem dX8_advance_83 : decode cX8_advance 83 = .ok (.aload_n 0, 1) := by decide +kernel
theorem dX8_advance_84 : decode cX8_advance 84 = .ok (.getfield 58, 3) := by decide +kernel
theorem dX8_advance_87 : decode cX8_advance 87 = .ok (.iconst 3, 1) := by decide +kernel
theorem dX8_advance_88 : decode cX8_advance 88 = .ok (.if_icmp .ne 42, 3) := by decide +kernel
theorem dX8_advance_91 : decode cX8_advance 91 = .ok (.aload_n 0, 1) := by decide +kernel
theorem dX8_advance_92 : decode cX8_advance 92 = .ok (.getfield 33, 3) := by decide +kernel
theorem dX8_advance_95 : decode cX8_advance 95 = .ok (.aload_n 0, 1) := by decide +kernel
theorem dX8_advance_96 : decode cX8_advance 96 = .ok (.getfield 15, 3) := by decide +kernel
theorem dX8_advance_99 : decode cX8_advance 99 = .ok (.if_icmp .ge 31, 3) := by decide +kernel
theorem dX8_advance_102 : decode cX8_advance 102 = .ok (.aload_n 0, 1) := by decide +kernel
theorem dX8_advance_103 : decode cX8_advance 103 = .ok (.aload_n 0, 1) := by decide +kernel
theorem dX8_advance_104 : decode cX8_advance 104 = .ok (.getfield 33, 3) := by decide +kernel
theorem dX8_advance_107 : decode cX8_advance 107 = .ok (.invokevirtual 54, 3) := by decide +kernel
theorem dX8_advance_110 : decode cX8_advance 110 = .ok (.aload_n 0, 1) := by decide +kernel
theorem dX8_advance_111 : decode cX8_advance 111 = .ok (.getfield 58, 3) := by decide +kernel
theorem dX8_advance_114 : decode cX8_advance 114 = .ok (.if_icmp .ne 16, 3) := by decide +kernel
theorem dX8_advance_117 : decode cX8_advance 117 = .ok (.aload_n 0, 1) := by decide +kernel
theorem dX8_advance_118 : decode cX8_advance 118 = .ok (.dup, 1) := by decide +kernel
theorem dX8_advance_119 : decode cX8_advance 119 = .ok (.getfield 33, 3) := by decide +kernel
theorem dX8_advance_122 : decode cX8_advance 122 = .ok (.iconst 1, 1) := by decide +kernel
theorem dX8_advance_123 : decode cX8_advance 123 = .ok (.iadd, 1) := by decide +kernel
theorem dX8_advance_124 : decode cX8_advance 124 = .ok (.putfield 33, 3) := by decide +kernel
theorem dX8_advance_127 : decode cX8_advance 127 = .ok (.goto (-52), 3) := by decide +kernel
theorem dX8_advance_130 : decode cX8_advance 130 = .ok (.return_, 1) := by decide +kernel
theorem dX8_kindAt_0 : decode cX8_kindAt 0 = .ok (.iload_n 1, 1) := by decide +kernel
theorem dX8_kindAt_1 : decode cX8_kindAt 1 = .ok (.aload_n 0, 1) := by decide +kernel
theorem dX8_kindAt_2 : decode cX8_kindAt 2 = .ok (.getfield 15, 3) := by decide +kernel
theorem dX8_kindAt_5 : decode cX8_kindAt 5 = .ok (.if_icmp .lt 5, 3) := by decide +kernel
theorem dX8_kindAt_8 : decode cX8_kindAt 8 = .ok (.iconst 0, 1) := by decide +kernel
theorem dX8_kindAt_9 : decode cX8_kindAt 9 = .ok (.ireturn, 1) := by decide +kernel
theorem dX8_kindAt_10 : decode cX8_kindAt 10 = .ok (.aload_n 0, 1) := by decide +kernel
theorem dX8_kindAt_11 : decode cX8_kindAt 11 = .ok (.getfield 19, 3) := by decide +kernel
theorem dX8_kindAt_14 : decode cX8_kindAt 14 = .ok (.iload_n 1, 1) := by decide +kernel
theorem dX8_kindAt_15 : decode cX8_kindAt 15 = .ok (.caload, 1) := by decide +kernel
theorem dX8_kindAt_16 : decode cX8_kindAt 16 = .ok (.istore_n 2, 1) := by decide +kernel
theorem dX8_kindAt_17 : decode cX8_kindAt 17 = .ok (.iload_n 2, 1) := by decide +kernel
theorem dX8_kindAt_18 : decode cX8_kindAt 18 = .ok (.bipush 97, 2) := by decide +kernel
theorem dX8_kindAt_20 : decode cX8_kindAt 20 = .ok (.if_icmp .lt 11, 3) := by decide +kernel
theorem dX8_kindAt_23 : decode cX8_kindAt 23 = .ok (.iload_n 2, 1) := by decide +kernel
theorem dX8_kindAt_24 : decode cX8_kindAt 24 = .ok (.bipush 122, 2) := by decide +kernel
theorem dX8_kindAt_26 : decode cX8_kindAt 26 = .ok (.if_icmp .gt 5, 3) := by decide +kernel
theorem dX8_kindAt_29 : decode cX8_kindAt 29 = .ok (.iconst 2, 1) := by decide +kernel
theorem dX8_kindAt_30 : decode cX8_kindAt 30 = .ok (.ireturn, 1) := by decide +kernel
theorem dX8_kindAt_31 : decode cX8_kindAt 31 = .ok (.iload_n 2, 1) := by decide +kernel
theorem dX8_kindAt_32 : decode cX8_kindAt 32 = .ok (.bipush 48, 2) := by decide +kernel
theorem dX8_kindAt_34 : decode cX8_kindAt 34 = .ok (.if_icmp .lt 11, 3) := by decide +kernel
theorem dX8_kindAt_37 : decode cX8_kindAt 37 = .ok (.iload_n 2, 1) := by decide +kernel
theorem dX8_kindAt_38 : decode cX8_kindAt 38 = .ok (.bipush 57, 2) := by decide +kernel
theorem dX8_kindAt_40 : decode cX8_kindAt 40 = .ok (.if_icmp .gt 5, 3) := by decide +kernel
theorem dX8_kindAt_43 : decode cX8_kindAt 43 = .ok (.iconst 3, 1) := by decide +kernel
theorem dX8_kindAt_44 : decode cX8_kindAt 44 = .ok (.ireturn, 1) := by decide +kernel
theorem dX8_kindAt_45 : decode cX8_kindAt 45 = .ok (.iload_n 2, 1) := by decide +kernel
theorem dX8_kindAt_46 : decode cX8_kindAt 46 = .ok (.bipush 43, 2) := by decide +kernel
theorem dX8_kindAt_48 : decode cX8_kindAt 48 = .ok (.if_icmp .eq 39, 3) := by decide +kernel
theorem dX8_kindAt_51 : decode cX8_kindAt 51 = .ok (.iload_n 2, 1) := by decide +kernel
theorem dX8_kindAt_52 : decode cX8_kindAt 52 = .ok (.bipush 45, 2) := by decide +kernel
theorem dX8_kindAt_54 : decode cX8_kindAt 54 = .ok (.if_icmp .eq 33, 3) := by decide +kernel
theorem dX8_kindAt_57 : decode cX8_kindAt 57 = .ok (.iload_n 2, 1) := by decide +kernel
theorem dX8_kindAt_58 : decode cX8_kindAt 58 = .ok (.bipush 47, 2) := by decide +kernel
theorem dX8_kindAt_60 : decode cX8_kindAt 60 = .ok (.if_icmp .eq 27, 3) := by decide +kernel
theorem dX8_kindAt_63 : decode cX8_kindAt 63 = .ok (.iload_n 2, 1) := by decide +kernel
theorem dX8_kindAt_64 : decode cX8_kindAt 64 = .ok (.bipush 123, 2) := by decide +kernel
theorem dX8_kindAt_66 : decode cX8_kindAt 66 = .ok (.if_icmp .eq 21, 3) := by decide +kernel
theorem dX8_kindAt_69 : decode cX8_kindAt 69 = .ok (.iload_n 2, 1) := by decide +kernel
theorem dX8_kindAt_70 : decode cX8_kindAt 70 = .ok (.bipush 124, 2) := by decide +kernel
theorem dX8_kindAt_72 : decode cX8_kindAt 72 = .ok (.if_icmp .eq 15, 3) := by decide +kernel
theorem dX8_kindAt_75 : decode cX8_kindAt 75 = .ok (.iload_n 2, 1) := by decide +kernel
theorem dX8_kindAt_76 : decode cX8_kindAt 76 = .ok (.bipush 125, 2) := by decide +kernel
theorem dX8_kindAt_78 : decode cX8_kindAt 78 = .ok (.if_icmp .eq 9, 3) := by decide +kernel
theorem dX8_kindAt_81 : decode cX8_kindAt 81 = .ok (.iload_n 2, 1) := by decide +kernel
theorem dX8_kindAt_82 : decode cX8_kindAt 82 = .ok (.bipush 44, 2) := by decide +kernel
theorem dX8_kindAt_84 : decode cX8_kindAt 84 = .ok (.if_icmp .ne 7, 3) := by decide +kernel
theorem dX8_kindAt_87 : decode cX8_kindAt 87 = .ok (.iconst 1, 1) := by decide +kernel
theorem dX8_kindAt_88 : decode cX8_kindAt 88 = .ok (.goto 4, 3) := by decide +kernel
theorem dX8_kindAt_91 : decode cX8_kindAt 91 = .ok (.iconst 0, 1) := by decide +kernel
theorem dX8_kindAt_92 : decode cX8_kindAt 92 = .ok (.istore_n 3, 1) := by decide +kernel
theorem dX8_kindAt_93 : decode cX8_kindAt 93 = .ok (.iload_n 3, 1) := by decide +kernel
theorem dX8_kindAt_94 : decode cX8_kindAt 94 = .ok (.ifCond .eq 7, 3) := by decide +kernel
theorem dX8_kindAt_97 : decode cX8_kindAt 97 = .ok (.iload_n 2, 1) := by decide +kernel
theorem dX8_kindAt_98 : decode cX8_kindAt 98 = .ok (.goto 4, 3) := by decide +kernel
theorem dX8_kindAt_101 : decode cX8_kindAt 101 = .ok (.iconst 1, 1) := by decide +kernel
theorem dX8_kindAt_102 : decode cX8_kindAt 102 = .ok (.ireturn, 1) := by decide +kernel
theorem dX8_takeGame_0 : decode cX8_takeGame 0 = .ok (.aload_n 0, 1) := by decide +kernel
theorem dX8_takeGame_1 : decode cX8_takeGame 1 = .ok (.getfield 58, 3) := by decide +kernel
theorem dX8_takeGame_4 : decode cX8_takeGame 4 = .ok (.iconst 2, 1) := by decide +kernel
theorem dX8_takeGame_5 : decode cX8_takeGame 5 = .ok (.if_icmp .ne 10, 3) := by decide +kernel
theorem dX8_takeGame_8 : decode cX8_takeGame 8 = .ok (.aload_n 0, 1) := by decide +kernel
theorem dX8_takeGame_9 : decode cX8_takeGame 9 = .ok (.invokevirtual 61, 3) := by decide +kernel
theorem dX8_takeGame_12 : decode cX8_takeGame 12 = .ok (.goto 145, 3) := by decide +kernel
theorem dX8_takeGame_15 : decode cX8_takeGame 15 = .ok (.aload_n 0, 1) := by decide +kernel
theorem dX8_takeGame_16 : decode cX8_takeGame 16 = .ok (.getfield 58, 3) := by decide +kernel
theorem dX8_takeGame_19 : decode cX8_takeGame 19 = .ok (.bipush 43, 2) := by decide +kernel
theorem dX8_takeGame_21 : decode cX8_takeGame 21 = .ok (.if_icmp .ne 10, 3) := by decide +kernel
theorem dX8_takeGame_24 : decode cX8_takeGame 24 = .ok (.aload_n 0, 1) := by decide +kernel
theorem dX8_takeGame_25 : decode cX8_takeGame 25 = .ok (.invokevirtual 64, 3) := by decide +kernel
theorem dX8_takeGame_28 : decode cX8_takeGame 28 = .ok (.goto 129, 3) := by decide +kernel
theorem dX8_takeGame_31 : decode cX8_takeGame 31 = .ok (.aload_n 0, 1) := by decide +kernel
theorem dX8_takeGame_32 : decode cX8_takeGame 32 = .ok (.getfield 58, 3) := by decide +kernel
theorem dX8_takeGame_35 : decode cX8_takeGame 35 = .ok (.bipush 45, 2) := by decide +kernel
theorem dX8_takeGame_37 : decode cX8_takeGame 37 = .ok (.if_icmp .ne 24, 3) := by decide +kernel
theorem dX8_takeGame_40 : decode cX8_takeGame 40 = .ok (.aload_n 0, 1) := by decide +kernel
theorem dX8_takeGame_41 : decode cX8_takeGame 41 = .ok (.invokevirtual 42, 3) := by decide +kernel
theorem dX8_takeGame_44 : decode cX8_takeGame 44 = .ok (.aload_n 0, 1) := by decide +kernel
theorem dX8_takeGame_45 : decode cX8_takeGame 45 = .ok (.aload_n 0, 1) := by decide +kernel
theorem dX8_takeGame_46 : decode cX8_takeGame 46 = .ok (.invokevirtual 67, 3) := by decide +kernel
theorem dX8_takeGame_49 : decode cX8_takeGame 49 = .ok (.ineg, 1) := by decide +kernel
theorem dX8_takeGame_50 : decode cX8_takeGame 50 = .ok (.invokevirtual 71, 3) := by decide +kernel
theorem dX8_takeGame_53 : decode cX8_takeGame 53 = .ok (.aload_n 0, 1) := by decide +kernel
theorem dX8_takeGame_54 : decode cX8_takeGame 54 = .ok (.iconst 3, 1) := by decide +kernel
theorem dX8_takeGame_55 : decode cX8_takeGame 55 = .ok (.putfield 39, 3) := by decide +kernel
theorem dX8_takeGame_58 : decode cX8_takeGame 58 = .ok (.goto 99, 3) := by decide +kernel
theorem dX8_takeGame_61 : decode cX8_takeGame 61 = .ok (.aload_n 0, 1) := by decide +kernel
theorem dX8_takeGame_62 : decode cX8_takeGame 62 = .ok (.getfield 58, 3) := by decide +kernel
theorem dX8_takeGame_65 : decode cX8_takeGame 65 = .ok (.iconst 3, 1) := by decide +kernel
theorem dX8_takeGame_66 : decode cX8_takeGame 66 = .ok (.if_icmp .ne 19, 3) := by decide +kernel
theorem dX8_takeGame_69 : decode cX8_takeGame 69 = .ok (.aload_n 0, 1) := by decide +kernel
theorem dX8_takeGame_70 : decode cX8_takeGame 70 = .ok (.aload_n 0, 1) := by decide +kernel
theorem dX8_takeGame_71 : decode cX8_takeGame 71 = .ok (.invokevirtual 67, 3) := by decide +kernel
theorem dX8_takeGame_74 : decode cX8_takeGame 74 = .ok (.invokevirtual 71, 3) := by decide +kernel
theorem dX8_takeGame_77 : decode cX8_takeGame 77 = .ok (.aload_n 0, 1) := by decide +kernel
theorem dX8_takeGame_78 : decode cX8_takeGame 78 = .ok (.iconst 3, 1) := by decide +kernel
theorem dX8_takeGame_79 : decode cX8_takeGame 79 = .ok (.putfield 39, 3) := by decide +kernel
theorem dX8_takeGame_82 : decode cX8_takeGame 82 = .ok (.goto 75, 3) := by decide +kernel
theorem dX8_takeGame_85 : decode cX8_takeGame 85 = .ok (.aload_n 0, 1) := by decide +kernel
theorem dX8_takeGame_86 : decode cX8_takeGame 86 = .ok (.getfield 58, 3) := by decide +kernel
theorem dX8_takeGame_89 : decode cX8_takeGame 89 = .ok (.bipush 123, 2) := by decide +kernel
theorem dX8_takeGame_91 : decode cX8_takeGame 91 = .ok (.if_icmp .ne 10, 3) := by decide +kernel
theorem dX8_takeGame_94 : decode cX8_takeGame 94 = .ok (.aload_n 0, 1) := by decide +kernel
theorem dX8_takeGame_95 : decode cX8_takeGame 95 = .ok (.invokevirtual 75, 3) := by decide +kernel
theorem dX8_takeGame_98 : decode cX8_takeGame 98 = .ok (.goto 59, 3) := by decide +kernel
theorem dX8_takeGame_101 : decode cX8_takeGame 101 = .ok (.aload_n 0, 1) := by decide +kernel
theorem dX8_takeGame_102 : decode cX8_takeGame 102 = .ok (.getfield 58, 3) := by decide +kernel
theorem dX8_takeGame_105 : decode cX8_takeGame 105 = .ok (.bipush 124, 2) := by decide +kernel
theorem dX8_takeGame_107 : decode cX8_takeGame 107 = .ok (.if_icmp .ne 18, 3) := by decide +kernel
theorem dX8_takeGame_110 : decode cX8_takeGame 110 = .ok (.aload_n 0, 1) := by decide +kernel
theorem dX8_takeGame_111 : decode cX8_takeGame 111 = .ok (.getfield 39, 3) := by decide +kernel
theorem dX8_takeGame_114 : decode cX8_takeGame 114 = .ok (.iconst 1, 1) := by decide +kernel
theorem dX8_takeGame_115 : decode cX8_takeGame 115 = .ok (.if_icmp .ne 10, 3) := by decide +kernel
theorem dX8_takeGame_118 : decode cX8_takeGame 118 = .ok (.aload_n 0, 1) := by decide +kernel
theorem dX8_takeGame_119 : decode cX8_takeGame 119 = .ok (.invokevirtual 78, 3) := by decide +kernel
theorem dX8_takeGame_122 : decode cX8_takeGame 122 = .ok (.goto 35, 3) := by decide +kernel
theorem dX8_takeGame_125 : decode cX8_takeGame 125 = .ok (.aload_n 0, 1) := by decide +kernel
theorem dX8_takeGame_126 : decode cX8_takeGame 126 = .ok (.getfield 58, 3) := by decide +kernel
theorem dX8_takeGame_129 : decode cX8_takeGame 129 = .ok (.bipush 125, 2) := by decide +kernel
theorem dX8_takeGame_131 : decode cX8_takeGame 131 = .ok (.if_icmp .ne 18, 3) := by decide +kernel
theorem dX8_takeGame_134 : decode cX8_takeGame 134 = .ok (.aload_n 0, 1) := by decide +kernel
theorem dX8_takeGame_135 : decode cX8_takeGame 135 = .ok (.getfield 39, 3) := by decide +kernel
theorem dX8_takeGame_138 : decode cX8_takeGame 138 = .ok (.iconst 2, 1) := by decide +kernel
theorem dX8_takeGame_139 : decode cX8_takeGame 139 = .ok (.if_icmp .ne 10, 3) := by decide +kernel
theorem dX8_takeGame_142 : decode cX8_takeGame 142 = .ok (.aload_n 0, 1) := by decide +kernel
theorem dX8_takeGame_143 : decode cX8_takeGame 143 = .ok (.invokevirtual 81, 3) := by decide +kernel
theorem dX8_takeGame_146 : decode cX8_takeGame 146 = .ok (.goto 11, 3) := by decide +kernel
theorem dX8_takeGame_149 : decode cX8_takeGame 149 = .ok (.aload_n 0, 1) := by decide +kernel
theorem dX8_takeGame_150 : decode cX8_takeGame 150 = .ok (.aload_n 0, 1) := by decide +kernel
theorem dX8_takeGame_151 : decode cX8_takeGame 151 = .ok (.getfield 51, 3) := by decide +kernel
theorem dX8_takeGame_154 : decode cX8_takeGame 154 = .ok (.putfield 36, 3) := by decide +kernel
theorem dX8_takeGame_157 : decode cX8_takeGame 157 = .ok (.return_, 1) := by decide +kernel
theorem dX8_takeBehindGame_0 : decode cX8_takeBehindGame 0 = .ok (.aload_n 0, 1) := by decide +kernel
theorem dX8_takeBehindGame_1 : decode cX8_takeBehindGame 1 = .ok (.getfield 30, 3) := by decide +kernel
theorem dX8_takeBehindGame_4 : decode cX8_takeBehindGame 4 = .ok (.ifCond .ne 30, 3) := by decide +kernel
theorem dX8_takeBehindGame_7 : decode cX8_takeBehindGame 7 = .ok (.aload_n 0, 1) := by decide +kernel
theorem dX8_takeBehindGame_8 : decode cX8_takeBehindGame 8 = .ok (.iconst 4, 1) := by decide +kernel
theorem dX8_takeBehindGame_9 : decode cX8_takeBehindGame 9 = .ok (.putfield 39, 3) := by decide +kernel
theorem dX8_takeBehindGame_12 : decode cX8_takeBehindGame 12 = .ok (.aload_n 0, 1) := by decide +kernel
theorem dX8_takeBehindGame_13 : decode cX8_takeBehindGame 13 = .ok (.aload_n 0, 1) := by decide +kernel
theorem dX8_takeBehindGame_14 : decode cX8_takeBehindGame 14 = .ok (.getfield 58, 3) := by decide +kernel
theorem dX8_takeBehindGame_17 : decode cX8_takeBehindGame 17 = .ok (.ifCond .ne 7, 3) := by decide +kernel
theorem dX8_takeBehindGame_20 : decode cX8_takeBehindGame 20 = .ok (.iconst (-1), 1) := by decide +kernel
theorem dX8_takeBehindGame_21 : decode cX8_takeBehindGame 21 = .ok (.goto 7, 3) := by decide +kernel
theorem dX8_takeBehindGame_24 : decode cX8_takeBehindGame 24 = .ok (.aload_n 0, 1) := by decide +kernel
theorem dX8_takeBehindGame_25 : decode cX8_takeBehindGame 25 = .ok (.getfield 51, 3) := by decide +kernel
theorem dX8_takeBehindGame_28 : decode cX8_takeBehindGame 28 = .ok (.putfield 36, 3) := by decide +kernel
theorem dX8_takeBehindGame_31 : decode cX8_takeBehindGame 31 = .ok (.goto 92, 3) := by decide +kernel
theorem dX8_takeBehindGame_34 : decode cX8_takeBehindGame 34 = .ok (.aload_n 0, 1) := by decide +kernel
theorem dX8_takeBehindGame_35 : decode cX8_takeBehindGame 35 = .ok (.getfield 58, 3) := by decide +kernel
theorem dX8_takeBehindGame_38 : decode cX8_takeBehindGame 38 = .ok (.bipush 44, 2) := by decide +kernel
theorem dX8_takeBehindGame_40 : decode cX8_takeBehindGame 40 = .ok (.if_icmp .ne 15, 3) := by decide +kernel
theorem dX8_takeBehindGame_43 : decode cX8_takeBehindGame 43 = .ok (.aload_n 0, 1) := by decide +kernel
theorem dX8_takeBehindGame_44 : decode cX8_takeBehindGame 44 = .ok (.iconst 0, 1) := by decide +kernel
theorem dX8_takeBehindGame_45 : decode cX8_takeBehindGame 45 = .ok (.putfield 39, 3) := by decide +kernel
theorem dX8_takeBehindGame_48 : decode cX8_takeBehindGame 48 = .ok (.aload_n 0, 1) := by decide +kernel
theorem dX8_takeBehindGame_49 : decode cX8_takeBehindGame 49 = .ok (.invokevirtual 42, 3) := by decide +kernel
theorem dX8_takeBehindGame_52 : decode cX8_takeBehindGame 52 = .ok (.goto 71, 3) := by decide +kernel
theorem dX8_takeBehindGame_55 : decode cX8_takeBehindGame 55 = .ok (.aload_n 0, 1) := by decide +kernel
theorem dX8_takeBehindGame_56 : decode cX8_takeBehindGame 56 = .ok (.getfield 58, 3) := by decide +kernel
theorem dX8_takeBehindGame_59 : decode cX8_takeBehindGame 59 = .ok (.bipush 124, 2) := by decide +kernel
theorem dX8_takeBehindGame_61 : decode cX8_takeBehindGame 61 = .ok (.if_icmp .ne 24, 3) := by decide +kernel
theorem dX8_takeBehindGame_64 : decode cX8_takeBehindGame 64 = .ok (.aload_n 0, 1) := by decide +kernel
theorem dX8_takeBehindGame_65 : decode cX8_takeBehindGame 65 = .ok (.getfield 23, 3) := by decide +kernel
theorem dX8_takeBehindGame_68 : decode cX8_takeBehindGame 68 = .ok (.aload_n 0, 1) := by decide +kernel
theorem dX8_takeBehindGame_69 : decode cX8_takeBehindGame 69 = .ok (.getfield 30, 3) := by decide +kernel
theorem dX8_takeBehindGame_72 : decode cX8_takeBehindGame 72 = .ok (.iconst 1, 1) := by decide +kernel
theorem dX8_takeBehindGame_73 : decode cX8_takeBehindGame 73 = .ok (.isub, 1) := by decide +kernel
theorem dX8_takeBehindGame_74 : decode cX8_takeBehindGame 74 = .ok (.baload, 1) := by decide +kernel
theorem dX8_takeBehindGame_75 : decode cX8_takeBehindGame 75 = .ok (.ifCond .ne 10, 3) := by decide +kernel
theorem dX8_takeBehindGame_78 : decode cX8_takeBehindGame 78 = .ok (.aload_n 0, 1) := by decide +kernel
theorem dX8_takeBehindGame_79 : decode cX8_takeBehindGame 79 = .ok (.invokevirtual 78, 3) := by decide +kernel
theorem dX8_takeBehindGame_82 : decode cX8_takeBehindGame 82 = .ok (.goto 41, 3) := by decide +kernel
theorem dX8_takeBehindGame_85 : decode cX8_takeBehindGame 85 = .ok (.aload_n 0, 1) := by decide +kernel
theorem dX8_takeBehindGame_86 : decode cX8_takeBehindGame 86 = .ok (.getfield 58, 3) := by decide +kernel
theorem dX8_takeBehindGame_89 : decode cX8_takeBehindGame 89 = .ok (.bipush 125, 2) := by decide +kernel
theorem dX8_takeBehindGame_91 : decode cX8_takeBehindGame 91 = .ok (.if_icmp .ne 24, 3) := by decide +kernel
theorem dX8_takeBehindGame_94 : decode cX8_takeBehindGame 94 = .ok (.aload_n 0, 1) := by decide +kernel
theorem dX8_takeBehindGame_95 : decode cX8_takeBehindGame 95 = .ok (.getfield 23, 3) := by decide +kernel
theorem dX8_takeBehindGame_98 : decode cX8_takeBehindGame 98 = .ok (.aload_n 0, 1) := by decide +kernel
theorem dX8_takeBehindGame_99 : decode cX8_takeBehindGame 99 = .ok (.getfield 30, 3) := by decide +kernel
theorem dX8_takeBehindGame_102 : decode cX8_takeBehindGame 102 = .ok (.iconst 1, 1) := by decide +kernel
theorem dX8_takeBehindGame_103 : decode cX8_takeBehindGame 103 = .ok (.isub, 1) := by decide +kernel
theorem dX8_takeBehindGame_104 : decode cX8_takeBehindGame 104 = .ok (.baload, 1) := by decide +kernel
theorem dX8_takeBehindGame_105 : decode cX8_takeBehindGame 105 = .ok (.ifCond .eq 10, 3) := by decide +kernel
theorem dX8_takeBehindGame_108 : decode cX8_takeBehindGame 108 = .ok (.aload_n 0, 1) := by decide +kernel
theorem dX8_takeBehindGame_109 : decode cX8_takeBehindGame 109 = .ok (.invokevirtual 81, 3) := by decide +kernel
theorem dX8_takeBehindGame_112 : decode cX8_takeBehindGame 112 = .ok (.goto 11, 3) := by decide +kernel
theorem dX8_takeBehindGame_115 : decode cX8_takeBehindGame 115 = .ok (.aload_n 0, 1) := by decide +kernel
theorem dX8_takeBehindGame_116 : decode cX8_takeBehindGame 116 = .ok (.aload_n 0, 1) := by decide +kernel
theorem dX8_takeBehindGame_117 : decode cX8_takeBehindGame 117 = .ok (.getfield 51, 3) := by decide +kernel
theorem dX8_takeBehindGame_120 : decode cX8_takeBehindGame 120 = .ok (.putfield 36, 3) := by decide +kernel
theorem dX8_takeBehindGame_123 : decode cX8_takeBehindGame 123 = .ok (.return_, 1) := by decide +kernel
theorem dX8_takeOpen_0 : decode cX8_takeOpen 0 = .ok (.aload_n 0, 1) := by decide +kernel
theorem dX8_takeOpen_1 : decode cX8_takeOpen 1 = .ok (.bipush 100, 2) := by decide +kernel
theorem dX8_takeOpen_3 : decode cX8_takeOpen 3 = .ok (.invokevirtual 71, 3) := by decide +kernel
theorem dX8_takeOpen_6 : decode cX8_takeOpen 6 = .ok (.aload_n 0, 1) := by decide +kernel
theorem dX8_takeOpen_7 : decode cX8_takeOpen 7 = .ok (.getfield 23, 3) := by decide +kernel
theorem dX8_takeOpen_10 : decode cX8_takeOpen 10 = .ok (.aload_n 0, 1) := by decide +kernel
theorem dX8_takeOpen_11 : decode cX8_takeOpen 11 = .ok (.getfield 30, 3) := by decide +kernel
theorem dX8_takeOpen_14 : decode cX8_takeOpen 14 = .ok (.iconst 0, 1) := by decide +kernel
theorem dX8_takeOpen_15 : decode cX8_takeOpen 15 = .ok (.bastore, 1) := by decide +kernel
theorem dX8_takeOpen_16 : decode cX8_takeOpen 16 = .ok (.aload_n 0, 1) := by decide +kernel
theorem dX8_takeOpen_17 : decode cX8_takeOpen 17 = .ok (.dup, 1) := by decide +kernel
theorem dX8_takeOpen_18 : decode cX8_takeOpen 18 = .ok (.getfield 30, 3) := by decide +kernel
theorem dX8_takeOpen_21 : decode cX8_takeOpen 21 = .ok (.iconst 1, 1) := by decide +kernel
theorem dX8_takeOpen_22 : decode cX8_takeOpen 22 = .ok (.iadd, 1) := by decide +kernel
theorem dX8_takeOpen_23 : decode cX8_takeOpen 23 = .ok (.putfield 30, 3) := by decide +kernel
theorem dX8_takeOpen_26 : decode cX8_takeOpen 26 = .ok (.aload_n 0, 1) := by decide +kernel
theorem dX8_takeOpen_27 : decode cX8_takeOpen 27 = .ok (.iconst 1, 1) := by decide +kernel
theorem dX8_takeOpen_28 : decode cX8_takeOpen 28 = .ok (.putfield 39, 3) := by decide +kernel
theorem dX8_takeOpen_31 : decode cX8_takeOpen 31 = .ok (.aload_n 0, 1) := by decide +kernel
theorem dX8_takeOpen_32 : decode cX8_takeOpen 32 = .ok (.invokevirtual 42, 3) := by decide +kernel
theorem dX8_takeOpen_35 : decode cX8_takeOpen 35 = .ok (.return_, 1) := by decide +kernel
theorem dX8_takeBar_0 : decode cX8_takeBar 0 = .ok (.aload_n 0, 1) := by decide +kernel
theorem dX8_takeBar_1 : decode cX8_takeBar 1 = .ok (.bipush 101, 2) := by decide +kernel
theorem dX8_takeBar_3 : decode cX8_takeBar 3 = .ok (.invokevirtual 71, 3) := by decide +kernel
theorem dX8_takeBar_6 : decode cX8_takeBar 6 = .ok (.aload_n 0, 1) := by decide +kernel
theorem dX8_takeBar_7 : decode cX8_takeBar 7 = .ok (.getfield 23, 3) := by decide +kernel
theorem dX8_takeBar_10 : decode cX8_takeBar 10 = .ok (.aload_n 0, 1) := by decide +kernel
theorem dX8_takeBar_11 : decode cX8_takeBar 11 = .ok (.getfield 30, 3) := by decide +kernel
theorem dX8_takeBar_14 : decode cX8_takeBar 14 = .ok (.iconst 1, 1) := by decide +kernel
theorem dX8_takeBar_15 : decode cX8_takeBar 15 = .ok (.isub, 1) := by decide +kernel
theorem dX8_takeBar_16 : decode cX8_takeBar 16 = .ok (.iconst 1, 1) := by decide +kernel
theorem dX8_takeBar_17 : decode cX8_takeBar 17 = .ok (.bastore, 1) := by decide +kernel
theorem dX8_takeBar_18 : decode cX8_takeBar 18 = .ok (.aload_n 0, 1) := by decide +kernel
theorem dX8_takeBar_19 : decode cX8_takeBar 19 = .ok (.iconst 2, 1) := by decide +kernel
theorem dX8_takeBar_20 : decode cX8_takeBar 20 = .ok (.putfield 39, 3) := by decide +kernel
theorem dX8_takeBar_23 : decode cX8_takeBar 23 = .ok (.aload_n 0, 1) := by decide +kernel
theorem dX8_takeBar_24 : decode cX8_takeBar 24 = .ok (.invokevirtual 42, 3) := by decide +kernel
theorem dX8_takeBar_27 : decode cX8_takeBar 27 = .ok (.return_, 1) := by decide +kernel
theorem dX8_takeClose_0 : decode cX8_takeClose 0 = .ok (.aload_n 0, 1) := by decide +kernel
theorem dX8_takeClose_1 : decode cX8_takeClose 1 = .ok (.bipush 102, 2) := by decide +kernel
theorem dX8_takeClose_3 : decode cX8_takeClose 3 = .ok (.invokevirtual 71, 3) := by decide +kernel
theorem dX8_takeClose_6 : decode cX8_takeClose 6 = .ok (.aload_n 0, 1) := by decide +kernel
theorem dX8_takeClose_7 : decode cX8_takeClose 7 = .ok (.dup, 1) := by decide +kernel
theorem dX8_takeClose_8 : decode cX8_takeClose 8 = .ok (.getfield 30, 3) := by decide +kernel
theorem dX8_takeClose_11 : decode cX8_takeClose 11 = .ok (.iconst 1, 1) := by decide +kernel
theorem dX8_takeClose_12 : decode cX8_takeClose 12 = .ok (.isub, 1) := by decide +kernel
theorem dX8_takeClose_13 : decode cX8_takeClose 13 = .ok (.putfield 30, 3) := by decide +kernel
theorem dX8_takeClose_16 : decode cX8_takeClose 16 = .ok (.aload_n 0, 1) := by decide +kernel
theorem dX8_takeClose_17 : decode cX8_takeClose 17 = .ok (.iconst 3, 1) := by decide +kernel
theorem dX8_takeClose_18 : decode cX8_takeClose 18 = .ok (.putfield 39, 3) := by decide +kernel
theorem dX8_takeClose_21 : decode cX8_takeClose 21 = .ok (.aload_n 0, 1) := by decide +kernel
theorem dX8_takeClose_22 : decode cX8_takeClose 22 = .ok (.invokevirtual 42, 3) := by decide +kernel
theorem dX8_takeClose_25 : decode cX8_takeClose 25 = .ok (.return_, 1) := by decide +kernel
theorem dX8_takeName_0 : decode cX8_takeName 0 = .ok (.aload_n 0, 1) := by decide +kernel
theorem dX8_takeName_1 : decode cX8_takeName 1 = .ok (.ldc 84, 2) := by decide +kernel
theorem dX8_takeName_3 : decode cX8_takeName 3 = .ok (.invokevirtual 86, 3) := by decide +kernel
theorem dX8_takeName_6 : decode cX8_takeName 6 = .ok (.ifCond .eq 10, 3) := by decide +kernel
theorem dX8_takeName_9 : decode cX8_takeName 9 = .ok (.aload_n 0, 1) := by decide +kernel
theorem dX8_takeName_10 : decode cX8_takeName 10 = .ok (.invokevirtual 90, 3) := by decide +kernel
theorem dX8_takeName_13 : decode cX8_takeName 13 = .ok (.goto 89, 3) := by decide +kernel
theorem dX8_takeName_16 : decode cX8_takeName 16 = .ok (.aload_n 0, 1) := by decide +kernel
theorem dX8_takeName_17 : decode cX8_takeName 17 = .ok (.ldc 93, 2) := by decide +kernel
theorem dX8_takeName_19 : decode cX8_takeName 19 = .ok (.invokevirtual 86, 3) := by decide +kernel
theorem dX8_takeName_22 : decode cX8_takeName 22 = .ok (.ifCond .eq 33, 3) := by decide +kernel
theorem dX8_takeName_25 : decode cX8_takeName 25 = .ok (.aload_n 0, 1) := by decide +kernel
theorem dX8_takeName_26 : decode cX8_takeName 26 = .ok (.bipush 100, 2) := by decide +kernel
theorem dX8_takeName_28 : decode cX8_takeName 28 = .ok (.invokevirtual 71, 3) := by decide +kernel
theorem dX8_takeName_31 : decode cX8_takeName 31 = .ok (.aload_n 0, 1) := by decide +kernel
theorem dX8_takeName_32 : decode cX8_takeName 32 = .ok (.iconst 0, 1) := by decide +kernel
theorem dX8_takeName_33 : decode cX8_takeName 33 = .ok (.invokevirtual 71, 3) := by decide +kernel
theorem dX8_takeName_36 : decode cX8_takeName 36 = .ok (.aload_n 0, 1) := by decide +kernel
theorem dX8_takeName_37 : decode cX8_takeName 37 = .ok (.bipush 101, 2) := by decide +kernel
theorem dX8_takeName_39 : decode cX8_takeName 39 = .ok (.invokevirtual 71, 3) := by decide +kernel
theorem dX8_takeName_42 : decode cX8_takeName 42 = .ok (.aload_n 0, 1) := by decide +kernel
theorem dX8_takeName_43 : decode cX8_takeName 43 = .ok (.invokevirtual 90, 3) := by decide +kernel
theorem dX8_takeName_46 : decode cX8_takeName 46 = .ok (.aload_n 0, 1) := by decide +kernel
theorem dX8_takeName_47 : decode cX8_takeName 47 = .ok (.bipush 102, 2) := by decide +kernel
theorem dX8_takeName_49 : decode cX8_takeName 49 = .ok (.invokevirtual 71, 3) := by decide +kernel
theorem dX8_takeName_52 : decode cX8_takeName 52 = .ok (.goto 50, 3) := by decide +kernel
theorem dX8_takeName_55 : decode cX8_takeName 55 = .ok (.aload_n 0, 1) := by decide +kernel
theorem dX8_takeName_56 : decode cX8_takeName 56 = .ok (.ldc 95, 2) := by decide +kernel
theorem dX8_takeName_58 : decode cX8_takeName 58 = .ok (.invokevirtual 86, 3) := by decide +kernel
theorem dX8_takeName_61 : decode cX8_takeName 61 = .ok (.ifCond .eq 33, 3) := by decide +kernel
theorem dX8_takeName_64 : decode cX8_takeName 64 = .ok (.aload_n 0, 1) := by decide +kernel
theorem dX8_takeName_65 : decode cX8_takeName 65 = .ok (.bipush 100, 2) := by decide +kernel
theorem dX8_takeName_67 : decode cX8_takeName 67 = .ok (.invokevirtual 71, 3) := by decide +kernel
theorem dX8_takeName_70 : decode cX8_takeName 70 = .ok (.aload_n 0, 1) := by decide +kernel
theorem dX8_takeName_71 : decode cX8_takeName 71 = .ok (.invokevirtual 90, 3) := by decide +kernel
theorem dX8_takeName_74 : decode cX8_takeName 74 = .ok (.aload_n 0, 1) := by decide +kernel
theorem dX8_takeName_75 : decode cX8_takeName 75 = .ok (.bipush 101, 2) := by decide +kernel
theorem dX8_takeName_77 : decode cX8_takeName 77 = .ok (.invokevirtual 71, 3) := by decide +kernel
theorem dX8_takeName_80 : decode cX8_takeName 80 = .ok (.aload_n 0, 1) := by decide +kernel
theorem dX8_takeName_81 : decode cX8_takeName 81 = .ok (.iconst 0, 1) := by decide +kernel
theorem dX8_takeName_82 : decode cX8_takeName 82 = .ok (.invokevirtual 71, 3) := by decide +kernel
theorem dX8_takeName_85 : decode cX8_takeName 85 = .ok (.aload_n 0, 1) := by decide +kernel
theorem dX8_takeName_86 : decode cX8_takeName 86 = .ok (.bipush 102, 2) := by decide +kernel
theorem dX8_takeName_88 : decode cX8_takeName 88 = .ok (.invokevirtual 71, 3) := by decide +kernel
theorem dX8_takeName_91 : decode cX8_takeName 91 = .ok (.goto 11, 3) := by decide +kernel
theorem dX8_takeName_94 : decode cX8_takeName 94 = .ok (.aload_n 0, 1) := by decide +kernel
theorem dX8_takeName_95 : decode cX8_takeName 95 = .ok (.aload_n 0, 1) := by decide +kernel
theorem dX8_takeName_96 : decode cX8_takeName 96 = .ok (.getfield 51, 3) := by decide +kernel
theorem dX8_takeName_99 : decode cX8_takeName 99 = .ok (.putfield 36, 3) := by decide +kernel
theorem dX8_takeName_102 : decode cX8_takeName 102 = .ok (.aload_n 0, 1) := by decide +kernel
theorem dX8_takeName_103 : decode cX8_takeName 103 = .ok (.iconst 3, 1) := by decide +kernel
theorem dX8_takeName_104 : decode cX8_takeName 104 = .ok (.putfield 39, 3) := by decide +kernel
theorem dX8_takeName_107 : decode cX8_takeName 107 = .ok (.aload_n 0, 1) := by decide +kernel
theorem dX8_takeName_108 : decode cX8_takeName 108 = .ok (.invokevirtual 42, 3) := by decide +kernel
theorem dX8_takeName_111 : decode cX8_takeName 111 = .ok (.return_, 1) := by decide +kernel
theorem dX8_noteStar_0 : decode cX8_noteStar 0 = .ok (.aload_n 0, 1) := by decide +kernel
theorem dX8_noteStar_1 : decode cX8_noteStar 1 = .ok (.iconst 0, 1) := by decide +kernel
theorem dX8_noteStar_2 : decode cX8_noteStar 2 = .ok (.iconst 0, 1) := by decide +kernel
theorem dX8_noteStar_3 : decode cX8_noteStar 3 = .ok (.invokevirtual 97, 3) := by decide +kernel
theorem dX8_noteStar_6 : decode cX8_noteStar 6 = .ok (.return_, 1) := by decide +kernel
theorem dX8_notePair_0 : decode cX8_notePair 0 = .ok (.aload_n 0, 1) := by decide +kernel
theorem dX8_notePair_1 : decode cX8_notePair 1 = .ok (.bipush 100, 2) := by decide +kernel
theorem dX8_notePair_3 : decode cX8_notePair 3 = .ok (.invokevirtual 71, 3) := by decide +kernel
theorem dX8_notePair_6 : decode cX8_notePair 6 = .ok (.aload_n 0, 1) := by decide +kernel
theorem dX8_notePair_7 : decode cX8_notePair 7 = .ok (.iload_n 1, 1) := by decide +kernel
theorem dX8_notePair_8 : decode cX8_notePair 8 = .ok (.invokevirtual 71, 3) := by decide +kernel
theorem dX8_notePair_11 : decode cX8_notePair 11 = .ok (.aload_n 0, 1) := by decide +kernel
theorem dX8_notePair_12 : decode cX8_notePair 12 = .ok (.bipush 101, 2) := by decide +kernel
theorem dX8_notePair_14 : decode cX8_notePair 14 = .ok (.invokevirtual 71, 3) := by decide +kernel
theorem dX8_notePair_17 : decode cX8_notePair 17 = .ok (.aload_n 0, 1) := by decide +kernel
theorem dX8_notePair_18 : decode cX8_notePair 18 = .ok (.iload_n 2, 1) := by decide +kernel
theorem dX8_notePair_19 : decode cX8_notePair 19 = .ok (.invokevirtual 71, 3) := by decide +kernel
theorem dX8_notePair_22 : decode cX8_notePair 22 = .ok (.aload_n 0, 1) := by decide +kernel
theorem dX8_notePair_23 : decode cX8_notePair 23 = .ok (.bipush 102, 2) := by decide +kernel
theorem dX8_notePair_25 : decode cX8_notePair 25 = .ok (.invokevirtual 71, 3) := by decide +kernel
theorem dX8_notePair_28 : decode cX8_notePair 28 = .ok (.return_, 1) := by decide +kernel
theorem dX8_isName_0 : decode cX8_isName 0 = .ok (.aload_n 0, 1) := by decide +kernel
theorem dX8_isName_1 : decode cX8_isName 1 = .ok (.getfield 33, 3) := by decide +kernel
theorem dX8_isName_4 : decode cX8_isName 4 = .ok (.aload_n 0, 1) := by decide +kernel
theorem dX8_isName_5 : decode cX8_isName 5 = .ok (.getfield 51, 3) := by decide +kernel
theorem dX8_isName_8 : decode cX8_isName 8 = .ok (.isub, 1) := by decide +kernel
theorem dX8_isName_9 : decode cX8_isName 9 = .ok (.aload_n 1, 1) := by decide +kernel
theorem dX8_isName_10 : decode cX8_isName 10 = .ok (.invokevirtual 101, 3) := by decide +kernel
theorem dX8_isName_13 : decode cX8_isName 13 = .ok (.if_icmp .eq 5, 3) := by decide +kernel
theorem dX8_isName_16 : decode cX8_isName 16 = .ok (.iconst 0, 1) := by decide +kernel
theorem dX8_isName_17 : decode cX8_isName 17 = .ok (.ireturn, 1) := by decide +kernel
theorem dX8_isName_18 : decode cX8_isName 18 = .ok (.iconst 0, 1) := by decide +kernel
theorem dX8_isName_19 : decode cX8_isName 19 = .ok (.istore_n 2, 1) := by decide +kernel
theorem dX8_isName_20 : decode cX8_isName 20 = .ok (.iload_n 2, 1) := by decide +kernel
theorem dX8_isName_21 : decode cX8_isName 21 = .ok (.aload_n 1, 1) := by decide +kernel
theorem dX8_isName_22 : decode cX8_isName 22 = .ok (.invokevirtual 101, 3) := by decide +kernel
theorem dX8_isName_25 : decode cX8_isName 25 = .ok (.if_icmp .ge 30, 3) := by decide +kernel
theorem dX8_isName_28 : decode cX8_isName 28 = .ok (.aload_n 0, 1) := by decide +kernel
theorem dX8_isName_29 : decode cX8_isName 29 = .ok (.getfield 19, 3) := by decide +kernel
theorem dX8_isName_32 : decode cX8_isName 32 = .ok (.aload_n 0, 1) := by decide +kernel
theorem dX8_isName_33 : decode cX8_isName 33 = .ok (.getfield 51, 3) := by decide +kernel
theorem dX8_isName_36 : decode cX8_isName 36 = .ok (.iload_n 2, 1) := by decide +kernel
theorem dX8_isName_37 : decode cX8_isName 37 = .ok (.iadd, 1) := by decide +kernel
theorem dX8_isName_38 : decode cX8_isName 38 = .ok (.caload, 1) := by decide +kernel
theorem dX8_isName_39 : decode cX8_isName 39 = .ok (.aload_n 1, 1) := by decide +kernel
theorem dX8_isName_40 : decode cX8_isName 40 = .ok (.iload_n 2, 1) := by decide +kernel
theorem dX8_isName_41 : decode cX8_isName 41 = .ok (.invokevirtual 105, 3) := by decide +kernel
theorem dX8_isName_44 : decode cX8_isName 44 = .ok (.if_icmp .eq 5, 3) := by decide +kernel
theorem dX8_isName_47 : decode cX8_isName 47 = .ok (.iconst 0, 1) := by decide +kernel
theorem dX8_isName_48 : decode cX8_isName 48 = .ok (.ireturn, 1) := by decide +kernel
theorem dX8_isName_49 : decode cX8_isName 49 = .ok (.iinc 2 1, 3) := by decide +kernel
theorem dX8_isName_52 : decode cX8_isName 52 = .ok (.goto (-32), 3) := by decide +kernel
theorem dX8_isName_55 : decode cX8_isName 55 = .ok (.iconst 1, 1) := by decide +kernel
theorem dX8_isName_56 : decode cX8_isName 56 = .ok (.ireturn, 1) := by decide +kernel
theorem dX8_takePlusMinus_0 : decode cX8_takePlusMinus 0 = .ok (.aload_n 0, 1) := by decide +kernel
theorem dX8_takePlusMinus_1 : decode cX8_takePlusMinus 1 = .ok (.aload_n 0, 1) := by decide +kernel
theorem dX8_takePlusMinus_2 : decode cX8_takePlusMinus 2 = .ok (.getfield 33, 3) := by decide +kernel
theorem dX8_takePlusMinus_5 : decode cX8_takePlusMinus 5 = .ok (.invokevirtual 54, 3) := by decide +kernel
theorem dX8_takePlusMinus_8 : decode cX8_takePlusMinus 8 = .ok (.bipush 45, 2) := by decide +kernel
theorem dX8_takePlusMinus_10 : decode cX8_takePlusMinus 10 = .ok (.if_icmp .eq 12, 3) := by decide +kernel
theorem dX8_takePlusMinus_13 : decode cX8_takePlusMinus 13 = .ok (.aload_n 0, 1) := by decide +kernel
theorem dX8_takePlusMinus_14 : decode cX8_takePlusMinus 14 = .ok (.aload_n 0, 1) := by decide +kernel
theorem dX8_takePlusMinus_15 : decode cX8_takePlusMinus 15 = .ok (.getfield 33, 3) := by decide +kernel
theorem dX8_takePlusMinus_18 : decode cX8_takePlusMinus 18 = .ok (.putfield 36, 3) := by decide +kernel
theorem dX8_takePlusMinus_21 : decode cX8_takePlusMinus 21 = .ok (.return_, 1) := by decide +kernel
theorem dX8_takePlusMinus_22 : decode cX8_takePlusMinus 22 = .ok (.aload_n 0, 1) := by decide +kernel
theorem dX8_takePlusMinus_23 : decode cX8_takePlusMinus 23 = .ok (.invokevirtual 42, 3) := by decide +kernel
theorem dX8_takePlusMinus_26 : decode cX8_takePlusMinus 26 = .ok (.aload_n 0, 1) := by decide +kernel
theorem dX8_takePlusMinus_27 : decode cX8_takePlusMinus 27 = .ok (.invokevirtual 42, 3) := by decide +kernel
theorem dX8_takePlusMinus_30 : decode cX8_takePlusMinus 30 = .ok (.aload_n 0, 1) := by decide +kernel
theorem dX8_takePlusMinus_31 : decode cX8_takePlusMinus 31 = .ok (.invokevirtual 67, 3) := by decide +kernel
theorem dX8_takePlusMinus_34 : decode cX8_takePlusMinus 34 = .ok (.istore_n 1, 1) := by decide +kernel
theorem dX8_takePlusMinus_35 : decode cX8_takePlusMinus 35 = .ok (.aload_n 0, 1) := by decide +kernel
theorem dX8_takePlusMinus_36 : decode cX8_takePlusMinus 36 = .ok (.iload_n 1, 1) := by decide +kernel
theorem dX8_takePlusMinus_37 : decode cX8_takePlusMinus 37 = .ok (.iload_n 1, 1) := by decide +kernel
theorem dX8_takePlusMinus_38 : decode cX8_takePlusMinus 38 = .ok (.ineg, 1) := by decide +kernel
theorem dX8_takePlusMinus_39 : decode cX8_takePlusMinus 39 = .ok (.invokevirtual 97, 3) := by decide +kernel
theorem dX8_takePlusMinus_42 : decode cX8_takePlusMinus 42 = .ok (.aload_n 0, 1) := by decide +kernel
theorem dX8_takePlusMinus_43 : decode cX8_takePlusMinus 43 = .ok (.iconst 3, 1) := by decide +kernel
theorem dX8_takePlusMinus_44 : decode cX8_takePlusMinus 44 = .ok (.putfield 39, 3) := by decide +kernel
theorem dX8_takePlusMinus_47 : decode cX8_takePlusMinus 47 = .ok (.return_, 1) := by decide +kernel
theorem dX8_takePositive_0 : decode cX8_takePositive 0 = .ok (.aload_n 0, 1) := by decide +kernel
theorem dX8_takePositive_1 : decode cX8_takePositive 1 = .ok (.getfield 51, 3) := by decide +kernel
theorem dX8_takePositive_4 : decode cX8_takePositive 4 = .ok (.istore_n 1, 1) := by decide +kernel
theorem dX8_takePositive_5 : decode cX8_takePositive 5 = .ok (.aload_n 0, 1) := by decide +kernel
theorem dX8_takePositive_6 : decode cX8_takePositive 6 = .ok (.invokevirtual 109, 3) := by decide +kernel
theorem dX8_takePositive_9 : decode cX8_takePositive 9 = .ok (.istore_n 2, 1) := by decide +kernel
theorem dX8_takePositive_10 : decode cX8_takePositive 10 = .ok (.iload_n 2, 1) := by decide +kernel
theorem dX8_takePositive_11 : decode cX8_takePositive 11 = .ok (.iconst (-1), 1) := by decide +kernel
theorem dX8_takePositive_12 : decode cX8_takePositive 12 = .ok (.if_icmp .ne 13, 3) := by decide +kernel
theorem dX8_takePositive_15 : decode cX8_takePositive 15 = .ok (.aload_n 0, 1) := by decide +kernel
theorem dX8_takePositive_16 : decode cX8_takePositive 16 = .ok (.aload_n 0, 1) := by decide +kernel
theorem dX8_takePositive_17 : decode cX8_takePositive 17 = .ok (.getfield 51, 3) := by decide +kernel
theorem dX8_takePositive_20 : decode cX8_takePositive 20 = .ok (.putfield 36, 3) := by decide +kernel
theorem dX8_takePositive_23 : decode cX8_takePositive 23 = .ok (.iconst 0, 1) := by decide +kernel
theorem dX8_takePositive_24 : decode cX8_takePositive 24 = .ok (.ireturn, 1) := by decide +kernel
theorem dX8_takePositive_25 : decode cX8_takePositive 25 = .ok (.aload_n 0, 1) := by decide +kernel
theorem dX8_takePositive_26 : decode cX8_takePositive 26 = .ok (.invokevirtual 42, 3) := by decide +kernel
theorem dX8_takePositive_29 : decode cX8_takePositive 29 = .ok (.aload_n 0, 1) := by decide +kernel
theorem dX8_takePositive_30 : decode cX8_takePositive 30 = .ok (.getfield 58, 3) := by decide +kernel
theorem dX8_takePositive_33 : decode cX8_takePositive 33 = .ok (.bipush 47, 2) := by decide +kernel
theorem dX8_takePositive_35 : decode cX8_takePositive 35 = .ok (.if_icmp .eq 23, 3) := by decide +kernel
theorem dX8_takePositive_38 : decode cX8_takePositive 38 = .ok (.aload_n 0, 1) := by decide +kernel
theorem dX8_takePositive_39 : decode cX8_takePositive 39 = .ok (.iload_n 2, 1) := by decide +kernel
theorem dX8_takePositive_40 : decode cX8_takePositive 40 = .ok (.bipush 8, 2) := by decide +kernel
theorem dX8_takePositive_42 : decode cX8_takePositive 42 = .ok (.if_icmp .le 7, 3) := by decide +kernel
theorem dX8_takePositive_45 : decode cX8_takePositive 45 = .ok (.iload_n 1, 1) := by decide +kernel
theorem dX8_takePositive_46 : decode cX8_takePositive 46 = .ok (.goto 4, 3) := by decide +kernel
theorem dX8_takePositive_49 : decode cX8_takePositive 49 = .ok (.iconst (-1), 1) := by decide +kernel
theorem dX8_takePositive_50 : decode cX8_takePositive 50 = .ok (.putfield 36, 3) := by decide +kernel
theorem dX8_takePositive_53 : decode cX8_takePositive 53 = .ok (.iload_n 2, 1) := by decide +kernel
theorem dX8_takePositive_54 : decode cX8_takePositive 54 = .ok (.bipush 8, 2) := by decide +kernel
theorem dX8_takePositive_56 : decode cX8_takePositive 56 = .ok (.imul, 1) := by decide +kernel
theorem dX8_takePositive_57 : decode cX8_takePositive 57 = .ok (.ireturn, 1) := by decide +kernel
theorem dX8_takePositive_58 : decode cX8_takePositive 58 = .ok (.aload_n 0, 1) := by decide +kernel
theorem dX8_takePositive_59 : decode cX8_takePositive 59 = .ok (.invokevirtual 42, 3) := by decide +kernel
theorem dX8_takePositive_62 : decode cX8_takePositive 62 = .ok (.aload_n 0, 1) := by decide +kernel
theorem dX8_takePositive_63 : decode cX8_takePositive 63 = .ok (.invokevirtual 112, 3) := by decide +kernel
theorem dX8_takePositive_66 : decode cX8_takePositive 66 = .ok (.istore_n 3, 1) := by decide +kernel
theorem dX8_takePositive_67 : decode cX8_takePositive 67 = .ok (.iload_n 3, 1) := by decide +kernel
theorem dX8_takePositive_68 : decode cX8_takePositive 68 = .ok (.ifCond .eq 11, 3) := by decide +kernel
theorem dX8_takePositive_71 : decode cX8_takePositive 71 = .ok (.iload_n 2, 1) := by decide +kernel
theorem dX8_takePositive_72 : decode cX8_takePositive 72 = .ok (.iload_n 3, 1) := by decide +kernel
theorem dX8_takePositive_73 : decode cX8_takePositive 73 = .ok (.imul, 1) := by decide +kernel
theorem dX8_takePositive_74 : decode cX8_takePositive 74 = .ok (.bipush 64, 2) := by decide +kernel
theorem dX8_takePositive_76 : decode cX8_takePositive 76 = .ok (.if_icmp .le 13, 3) := by decide +kernel
theorem dX8_takePositive_79 : decode cX8_takePositive 79 = .ok (.aload_n 0, 1) := by decide +kernel
theorem dX8_takePositive_80 : decode cX8_takePositive 80 = .ok (.aload_n 0, 1) := by decide +kernel
theorem dX8_takePositive_81 : decode cX8_takePositive 81 = .ok (.getfield 51, 3) := by decide +kernel
theorem dX8_takePositive_84 : decode cX8_takePositive 84 = .ok (.putfield 36, 3) := by decide +kernel
theorem dX8_takePositive_87 : decode cX8_takePositive 87 = .ok (.iconst 0, 1) := by decide +kernel
theorem dX8_takePositive_88 : decode cX8_takePositive 88 = .ok (.ireturn, 1) := by decide +kernel
theorem dX8_takePositive_89 : decode cX8_takePositive 89 = .ok (.aload_n 0, 1) := by decide +kernel
theorem dX8_takePositive_90 : decode cX8_takePositive 90 = .ok (.invokevirtual 42, 3) := by decide +kernel
theorem dX8_takePositive_93 : decode cX8_takePositive 93 = .ok (.iload_n 2, 1) := by decide +kernel
theorem dX8_takePositive_94 : decode cX8_takePositive 94 = .ok (.iload_n 3, 1) := by decide +kernel
theorem dX8_takePositive_95 : decode cX8_takePositive 95 = .ok (.imul, 1) := by decide +kernel
theorem dX8_takePositive_96 : decode cX8_takePositive 96 = .ok (.ireturn, 1) := by decide +kernel
theorem dX8_digitsHere_0 : decode cX8_digitsHere 0 = .ok (.aload_n 0, 1) := by decide +kernel
theorem dX8_digitsHere_1 : decode cX8_digitsHere 1 = .ok (.getfield 33, 3) := by decide +kernel
theorem dX8_digitsHere_4 : decode cX8_digitsHere 4 = .ok (.aload_n 0, 1) := by decide +kernel
theorem dX8_digitsHere_5 : decode cX8_digitsHere 5 = .ok (.getfield 51, 3) := by decide +kernel
theorem dX8_digitsHere_8 : decode cX8_digitsHere 8 = .ok (.isub, 1) := by decide +kernel
theorem dX8_digitsHere_9 : decode cX8_digitsHere 9 = .ok (.istore_n 1, 1) := by decide +kernel
theorem dX8_digitsHere_10 : decode cX8_digitsHere 10 = .ok (.aload_n 0, 1) := by decide +kernel
theorem dX8_digitsHere_11 : decode cX8_digitsHere 11 = .ok (.getfield 58, 3) := by decide +kernel
theorem dX8_digitsHere_14 : decode cX8_digitsHere 14 = .ok (.iconst 3, 1) := by decide +kernel
theorem dX8_digitsHere_15 : decode cX8_digitsHere 15 = .ok (.if_icmp .ne 27, 3) := by decide +kernel
theorem dX8_digitsHere_18 : decode cX8_digitsHere 18 = .ok (.iload_n 1, 1) := by decide +kernel
theorem dX8_digitsHere_19 : decode cX8_digitsHere 19 = .ok (.iconst 2, 1) := by decide +kernel
theorem dX8_digitsHere_20 : decode cX8_digitsHere 20 = .ok (.if_icmp .gt 22, 3) := by decide +kernel
theorem dX8_digitsHere_23 : decode cX8_digitsHere 23 = .ok (.iload_n 1, 1) := by decide +kernel
theorem dX8_digitsHere_24 : decode cX8_digitsHere 24 = .ok (.iconst 2, 1) := by decide +kernel
theorem dX8_digitsHere_25 : decode cX8_digitsHere 25 = .ok (.if_icmp .ne 19, 3) := by decide +kernel
theorem dX8_digitsHere_28 : decode cX8_digitsHere 28 = .ok (.aload_n 0, 1) := by decide +kernel
theorem dX8_digitsHere_29 : decode cX8_digitsHere 29 = .ok (.getfield 19, 3) := by decide +kernel
theorem dX8_digitsHere_32 : decode cX8_digitsHere 32 = .ok (.aload_n 0, 1) := by decide +kernel
theorem dX8_digitsHere_33 : decode cX8_digitsHere 33 = .ok (.getfield 51, 3) := by decide +kernel
theorem dX8_digitsHere_36 : decode cX8_digitsHere 36 = .ok (.caload, 1) := by decide +kernel
theorem dX8_digitsHere_37 : decode cX8_digitsHere 37 = .ok (.bipush 48, 2) := by decide +kernel
theorem dX8_digitsHere_39 : decode cX8_digitsHere 39 = .ok (.if_icmp .ne 5, 3) := by decide +kernel
theorem dX8_digitsHere_42 : decode cX8_digitsHere 42 = .ok (.iconst (-1), 1) := by decide +kernel
theorem dX8_digitsHere_43 : decode cX8_digitsHere 43 = .ok (.ireturn, 1) := by decide +kernel
theorem dX8_digitsHere_44 : decode cX8_digitsHere 44 = .ok (.iconst 0, 1) := by decide +kernel
theorem dX8_digitsHere_45 : decode cX8_digitsHere 45 = .ok (.istore_n 2, 1) := by decide +kernel
theorem dX8_digitsHere_46 : decode cX8_digitsHere 46 = .ok (.aload_n 0, 1) := by decide +kernel
theorem dX8_digitsHere_47 : decode cX8_digitsHere 47 = .ok (.getfield 51, 3) := by decide +kernel
theorem dX8_digitsHere_50 : decode cX8_digitsHere 50 = .ok (.istore_n 3, 1) := by decide +kernel
theorem dX8_digitsHere_51 : decode cX8_digitsHere 51 = .ok (.iload_n 3, 1) := by decide +kernel
theorem dX8_digitsHere_52 : decode cX8_digitsHere 52 = .ok (.aload_n 0, 1) := by decide +kernel
theorem dX8_digitsHere_53 : decode cX8_digitsHere 53 = .ok (.getfield 33, 3) := by decide +kernel
theorem dX8_digitsHere_56 : decode cX8_digitsHere 56 = .ok (.if_icmp .ge 24, 3) := by decide +kernel
theorem dX8_digitsHere_59 : decode cX8_digitsHere 59 = .ok (.bipush 10, 2) := by decide +kernel
theorem dX8_digitsHere_61 : decode cX8_digitsHere 61 = .ok (.iload_n 2, 1) := by decide +kernel
theorem dX8_digitsHere_62 : decode cX8_digitsHere 62 = .ok (.imul, 1) := by decide +kernel
theorem dX8_digitsHere_63 : decode cX8_digitsHere 63 = .ok (.aload_n 0, 1) := by decide +kernel
theorem dX8_digitsHere_64 : decode cX8_digitsHere 64 = .ok (.getfield 19, 3) := by decide +kernel
theorem dX8_digitsHere_67 : decode cX8_digitsHere 67 = .ok (.iload_n 3, 1) := by decide +kernel
theorem dX8_digitsHere_68 : decode cX8_digitsHere 68 = .ok (.caload, 1) := by decide +kernel
theorem dX8_digitsHere_69 : decode cX8_digitsHere 69 = .ok (.bipush 48, 2) := by decide +kernel
theorem dX8_digitsHere_71 : decode cX8_digitsHere 71 = .ok (.isub, 1) := by decide +kernel
theorem dX8_digitsHere_72 : decode cX8_digitsHere 72 = .ok (.iadd, 1) := by decide +kernel
theorem dX8_digitsHere_73 : decode cX8_digitsHere 73 = .ok (.istore_n 2, 1) := by decide +kernel
theorem dX8_digitsHere_74 : decode cX8_digitsHere 74 = .ok (.iinc 3 1, 3) := by decide +kernel
theorem dX8_digitsHere_77 : decode cX8_digitsHere 77 = .ok (.goto (-26), 3) := by decide +kernel
theorem dX8_digitsHere_80 : decode cX8_digitsHere 80 = .ok (.iload_n 2, 1) := by decide +kernel
theorem dX8_digitsHere_81 : decode cX8_digitsHere 81 = .ok (.ireturn, 1) := by decide +kernel
theorem dX8_eighthsPerPart_0 : decode cX8_eighthsPerPart 0 = .ok (.aload_n 0, 1) := by decide +kernel
theorem dX8_eighthsPerPart_1 : decode cX8_eighthsPerPart 1 = .ok (.invokevirtual 109, 3) := by decide +kernel
theorem dX8_eighthsPerPart_4 : decode cX8_eighthsPerPart 4 = .ok (.lookupswitch 42 #[(2, 36), (4, 38), (8, 40)], 36) := by decide +kernel
theorem dX8_eighthsPerPart_40 : decode cX8_eighthsPerPart 40 = .ok (.iconst 4, 1) := by decide +kernel
theorem dX8_eighthsPerPart_41 : decode cX8_eighthsPerPart 41 = .ok (.ireturn, 1) := by decide +kernel
theorem dX8_eighthsPerPart_42 : decode cX8_eighthsPerPart 42 = .ok (.iconst 2, 1) := by decide +kernel
theorem dX8_eighthsPerPart_43 : decode cX8_eighthsPerPart 43 = .ok (.ireturn, 1) := by decide +kernel
theorem dX8_eighthsPerPart_44 : decode cX8_eighthsPerPart 44 = .ok (.iconst 1, 1) := by decide +kernel
theorem dX8_eighthsPerPart_45 : decode cX8_eighthsPerPart 45 = .ok (.ireturn, 1) := by decide +kernel
theorem dX8_eighthsPerPart_46 : decode cX8_eighthsPerPart 46 = .ok (.iconst 0, 1) := by decide +kernel
theorem dX8_eighthsPerPart_47 : decode cX8_eighthsPerPart 47 = .ok (.ireturn, 1) := by decide +kernel
theorem dX8_note_0 : decode cX8_note 0 = .ok (.aload_n 0, 1) := by decide +kernel
theorem dX8_note_1 : decode cX8_note 1 = .ok (.getfield 27, 3) := by decide +kernel
theorem dX8_note_4 : decode cX8_note 4 = .ok (.sipush 400, 3) := by decide +kernel
theorem dX8_note_7 : decode cX8_note 7 = .ok (.if_icmp .ge 23, 3) := by decide +kernel
theorem dX8_note_10 : decode cX8_note 10 = .ok (.aload_n 0, 1) := by decide +kernel
theorem dX8_note_11 : decode cX8_note 11 = .ok (.getfield 9, 3) := by decide +kernel
theorem dX8_note_14 : decode cX8_note 14 = .ok (.aload_n 0, 1) := by decide +kernel
theorem dX8_note_15 : decode cX8_note 15 = .ok (.getfield 27, 3) := by decide +kernel
theorem dX8_note_18 : decode cX8_note 18 = .ok (.iload_n 1, 1) := by decide +kernel
theorem dX8_note_19 : decode cX8_note 19 = .ok (.iastore, 1) := by decide +kernel
theorem dX8_note_20 : decode cX8_note 20 = .ok (.aload_n 0, 1) := by decide +kernel
theorem dX8_note_21 : decode cX8_note 21 = .ok (.dup, 1) := by decide +kernel
theorem dX8_note_22 : decode cX8_note 22 = .ok (.getfield 27, 3) := by decide +kernel
theorem dX8_note_25 : decode cX8_note 25 = .ok (.iconst 1, 1) := by decide +kernel
theorem dX8_note_26 : decode cX8_note 26 = .ok (.iadd, 1) := by decide +kernel
theorem dX8_note_27 : decode cX8_note 27 = .ok (.putfield 27, 3) := by decide +kernel
theorem dX8_note_30 : decode cX8_note 30 = .ok (.return_, 1) := by decide +kernel
theorem dX9_init_0 : decode cX9_init 0 = .ok (.aload_n 0, 1) := by decide +kernel
theorem dX9_init_1 : decode cX9_init 1 = .ok (.invokespecial 3, 3) := by decide +kernel
theorem dX9_init_4 : decode cX9_init 4 = .ok (.aload_n 0, 1) := by decide +kernel
theorem dX9_init_5 : decode cX9_init 5 = .ok (.new 9, 3) := by decide +kernel
theorem dX9_init_8 : decode cX9_init 8 = .ok (.dup, 1) := by decide +kernel
theorem dX9_init_9 : decode cX9_init 9 = .ok (.invokespecial 11, 3) := by decide +kernel
theorem dX9_init_12 : decode cX9_init 12 = .ok (.putfield 12, 3) := by decide +kernel
theorem dX9_init_15 : decode cX9_init 15 = .ok (.aload_n 0, 1) := by decide +kernel
theorem dX9_init_16 : decode cX9_init 16 = .ok (.new 16, 3) := by decide +kernel
theorem dX9_init_19 : decode cX9_init 19 = .ok (.dup, 1) := by decide +kernel
theorem dX9_init_20 : decode cX9_init 20 = .ok (.invokespecial 18, 3) := by decide +kernel
theorem dX9_init_23 : decode cX9_init 23 = .ok (.putfield 19, 3) := by decide +kernel
theorem dX9_init_26 : decode cX9_init 26 = .ok (.aload_n 0, 1) := by decide +kernel
theorem dX9_init_27 : decode cX9_init 27 = .ok (.new 23, 3) := by decide +kernel
theorem dX9_init_30 : decode cX9_init 30 = .ok (.dup, 1) := by decide +kernel
theorem dX9_init_31 : decode cX9_init 31 = .ok (.aload_n 0, 1) := by decide +kernel
theorem dX9_init_32 : decode cX9_init 32 = .ok (.getfield 12, 3) := by decide +kernel
theorem dX9_init_35 : decode cX9_init 35 = .ok (.invokespecial 25, 3) := by decide +kernel
theorem dX9_init_38 : decode cX9_init 38 = .ok (.putfield 28, 3) := by decide +kernel
theorem dX9_init_41 : decode cX9_init 41 = .ok (.aload_n 0, 1) := by decide +kernel
theorem dX9_init_42 : decode cX9_init 42 = .ok (.new 32, 3) := by decide +kernel
theorem dX9_init_45 : decode cX9_init 45 = .ok (.dup, 1) := by decide +kernel
theorem dX9_init_46 : decode cX9_init 46 = .ok (.aload_n 0, 1) := by decide +kernel
theorem dX9_init_47 : decode cX9_init 47 = .ok (.getfield 12, 3) := by decide +kernel
theorem dX9_init_50 : decode cX9_init 50 = .ok (.aload_n 0, 1) := by decide +kernel
theorem dX9_init_51 : decode cX9_init 51 = .ok (.getfield 28, 3) := by decide +kernel
theorem dX9_init_54 : decode cX9_init 54 = .ok (.invokespecial 34, 3) := by decide +kernel
theorem dX9_init_57 : decode cX9_init 57 = .ok (.putfield 37, 3) := by decide +kernel
theorem dX9_init_60 : decode cX9_init 60 = .ok (.aload_n 0, 1) := by decide +kernel
theorem dX9_init_61 : decode cX9_init 61 = .ok (.new 41, 3) := by decide +kernel
theorem dX9_init_64 : decode cX9_init 64 = .ok (.dup, 1) := by decide +kernel
theorem dX9_init_65 : decode cX9_init 65 = .ok (.invokespecial 43, 3) := by decide +kernel
theorem dX9_init_68 : decode cX9_init 68 = .ok (.putfield 44, 3) := by decide +kernel
theorem dX9_init_71 : decode cX9_init 71 = .ok (.aload_n 0, 1) := by decide +kernel
theorem dX9_init_72 : decode cX9_init 72 = .ok (.new 48, 3) := by decide +kernel
theorem dX9_init_75 : decode cX9_init 75 = .ok (.dup, 1) := by decide +kernel
theorem dX9_init_76 : decode cX9_init 76 = .ok (.aload_n 0, 1) := by decide +kernel
theorem dX9_init_77 : decode cX9_init 77 = .ok (.getfield 12, 3) := by decide +kernel
theorem dX9_init_80 : decode cX9_init 80 = .ok (.invokespecial 50, 3) := by decide +kernel
theorem dX9_init_83 : decode cX9_init 83 = .ok (.putfield 51, 3) := by decide +kernel
theorem dX9_init_86 : decode cX9_init 86 = .ok (.aload_n 0, 1) := by decide +kernel
theorem dX9_init_87 : decode cX9_init 87 = .ok (.new 55, 3) := by decide +kernel
theorem dX9_init_90 : decode cX9_init 90 = .ok (.dup, 1) := by decide +kernel
theorem dX9_init_91 : decode cX9_init 91 = .ok (.aload_n 0, 1) := by decide +kernel
theorem dX9_init_92 : decode cX9_init 92 = .ok (.getfield 12, 3) := by decide +kernel
theorem dX9_init_95 : decode cX9_init 95 = .ok (.invokespecial 57, 3) := by decide +kernel
theorem dX9_init_98 : decode cX9_init 98 = .ok (.putfield 58, 3) := by decide +kernel
theorem dX9_init_101 : decode cX9_init 101 = .ok (.aload_n 0, 1) := by decide +kernel
theorem dX9_init_102 : decode cX9_init 102 = .ok (.new 62, 3) := by decide +kernel
theorem dX9_init_105 : decode cX9_init 105 = .ok (.dup, 1) := by decide +kernel
theorem dX9_init_106 : decode cX9_init 106 = .ok (.invokespecial 64, 3) := by decide +kernel
theorem dX9_init_109 : decode cX9_init 109 = .ok (.putfield 65, 3) := by decide +kernel
theorem dX9_init_112 : decode cX9_init 112 = .ok (.aload_n 0, 1) := by decide +kernel
theorem dX9_init_113 : decode cX9_init 113 = .ok (.iconst 2, 1) := by decide +kernel
theorem dX9_init_114 : decode cX9_init 114 = .ok (.newarray .long, 2) := by decide +kernel
theorem dX9_init_116 : decode cX9_init 116 = .ok (.putfield 69, 3) := by decide +kernel
theorem dX9_init_119 : decode cX9_init 119 = .ok (.aload_n 0, 1) := by decide +kernel
theorem dX9_init_120 : decode cX9_init 120 = .ok (.iconst 4, 1) := by decide +kernel
theorem dX9_init_121 : decode cX9_init 121 = .ok (.newarray .int, 2) := by decide +kernel
theorem dX9_init_123 : decode cX9_init 123 = .ok (.putfield 73, 3) := by decide +kernel
theorem dX9_init_126 : decode cX9_init 126 = .ok (.aload_n 0, 1) := by decide +kernel
theorem dX9_init_127 : decode cX9_init 127 = .ok (.bipush 24, 2) := by decide +kernel
theorem dX9_init_129 : decode cX9_init 129 = .ok (.newarray .int, 2) := by decide +kernel
theorem dX9_init_131 : decode cX9_init 131 = .ok (.putfield 77, 3) := by decide +kernel
theorem dX9_init_134 : decode cX9_init 134 = .ok (.aload_n 0, 1) := by decide +kernel
theorem dX9_init_135 : decode cX9_init 135 = .ok (.iconst 0, 1) := by decide +kernel
theorem dX9_init_136 : decode cX9_init 136 = .ok (.putfield 80, 3) := by decide +kernel
theorem dX9_init_139 : decode cX9_init 139 = .ok (.aload_n 0, 1) := by decide +kernel
theorem dX9_init_140 : decode cX9_init 140 = .ok (.getfield 12, 3) := by decide +kernel
theorem dX9_init_143 : decode cX9_init 143 = .ok (.iconst 0, 1) := by decide +kernel
theorem dX9_init_144 : decode cX9_init 144 = .ok (.invokevirtual 84, 3) := by decide +kernel
theorem dX9_init_147 : decode cX9_init 147 = .ok (.istore_n 1, 1) := by decide +kernel
theorem dX9_init_148 : decode cX9_init 148 = .ok (.aload_n 0, 1) := by decide +kernel
theorem dX9_init_149 : decode cX9_init 149 = .ok (.getfield 12, 3) := by decide +kernel
theorem dX9_init_152 : decode cX9_init 152 = .ok (.bipush 8, 2) := by decide +kernel
theorem dX9_init_154 : decode cX9_init 154 = .ok (.invokevirtual 84, 3) := by decide +kernel
theorem dX9_init_157 : decode cX9_init 157 = .ok (.istore_n 2, 1) := by decide +kernel
theorem dX9_init_158 : decode cX9_init 158 = .ok (.aload_n 0, 1) := by decide +kernel
theorem dX9_init_159 : decode cX9_init 159 = .ok (.getfield 12, 3) := by decide +kernel
theorem dX9_init_162 : decode cX9_init 162 = .ok (.bipush (-8), 2) := by decide +kernel
theorem dX9_init_164 : decode cX9_init 164 = .ok (.invokevirtual 84, 3) := by decide +kernel
theorem dX9_init_167 : decode cX9_init 167 = .ok (.istore_n 3, 1) := by decide +kernel
theorem dX9_init_168 : decode cX9_init 168 = .ok (.aload_n 0, 1) := by decide +kernel
theorem dX9_init_169 : decode cX9_init 169 = .ok (.getfield 12, 3) := by decide +kernel
theorem dX9_init_172 : decode cX9_init 172 = .ok (.iload_n 1, 1) := by decide +kernel
theorem dX9_init_173 : decode cX9_init 173 = .ok (.invokestatic 88, 3) := by decide +kernel
theorem dX9_init_176 : decode cX9_init 176 = .ok (.iload_n 1, 1) := by decide +kernel
theorem dX9_init_177 : decode cX9_init 177 = .ok (.invokestatic 88, 3) := by decide +kernel
theorem dX9_init_180 : decode cX9_init 180 = .ok (.invokevirtual 92, 3) := by decide +kernel
theorem dX9_init_183 : decode cX9_init 183 = .ok (.istore 4, 2) := by decide +kernel
theorem dX9_init_185 : decode cX9_init 185 = .ok (.aload_n 0, 1) := by decide +kernel
theorem dX9_init_186 : decode cX9_init 186 = .ok (.getfield 12, 3) := by decide +kernel
theorem dX9_init_189 : decode cX9_init 189 = .ok (.iload_n 1, 1) := by decide +kernel
theorem dX9_init_190 : decode cX9_init 190 = .ok (.invokestatic 88, 3) := by decide +kernel
theorem dX9_init_193 : decode cX9_init 193 = .ok (.iload 4, 2) := by decide +kernel
theorem dX9_init_195 : decode cX9_init 195 = .ok (.invokestatic 88, 3) := by decide +kernel
theorem dX9_init_198 : decode cX9_init 198 = .ok (.invokevirtual 92, 3) := by decide +kernel
theorem dX9_init_201 : decode cX9_init 201 = .ok (.pop, 1) := by decide +kernel
theorem dX9_init_202 : decode cX9_init 202 = .ok (.aload_n 0, 1) := by decide +kernel
theorem dX9_init_203 : decode cX9_init 203 = .ok (.getfield 12, 3) := by decide +kernel
theorem dX9_init_206 : decode cX9_init 206 = .ok (.iload_n 2, 1) := by decide +kernel
theorem dX9_init_207 : decode cX9_init 207 = .ok (.invokestatic 88, 3) := by decide +kernel
theorem dX9_init_210 : decode cX9_init 210 = .ok (.iload_n 3, 1) := by decide +kernel
theorem dX9_init_211 : decode cX9_init 211 = .ok (.invokestatic 88, 3) := by decide +kernel
theorem dX9_init_214 : decode cX9_init 214 = .ok (.invokevirtual 92, 3) := by decide +kernel
theorem dX9_init_217 : decode cX9_init 217 = .ok (.istore 5, 2) := by decide +kernel
theorem dX9_init_219 : decode cX9_init 219 = .ok (.aload_n 0, 1) := by decide +kernel
theorem dX9_init_220 : decode cX9_init 220 = .ok (.getfield 12, 3) := by decide +kernel
theorem dX9_init_223 : decode cX9_init 223 = .ok (.bipush 16, 2) := by decide +kernel
theorem dX9_init_225 : decode cX9_init 225 = .ok (.invokevirtual 84, 3) := by decide +kernel
theorem dX9_init_228 : decode cX9_init 228 = .ok (.istore 6, 2) := by decide +kernel
theorem dX9_init_230 : decode cX9_init 230 = .ok (.aload_n 0, 1) := by decide +kernel
theorem dX9_init_231 : decode cX9_init 231 = .ok (.getfield 12, 3) := by decide +kernel
theorem dX9_init_234 : decode cX9_init 234 = .ok (.iload 6, 2) := by decide +kernel
theorem dX9_init_236 : decode cX9_init 236 = .ok (.invokestatic 88, 3) := by decide +kernel
theorem dX9_init_239 : decode cX9_init 239 = .ok (.iload_n 1, 1) := by decide +kernel
theorem dX9_init_240 : decode cX9_init 240 = .ok (.invokestatic 88, 3) := by decide +kernel
theorem dX9_init_243 : decode cX9_init 243 = .ok (.invokevirtual 92, 3) := by decide +kernel
theorem dX9_init_246 : decode cX9_init 246 = .ok (.istore 7, 2) := by decide +kernel
theorem dX9_init_248 : decode cX9_init 248 = .ok (.aload_n 0, 1) := by decide +kernel
theorem dX9_init_249 : decode cX9_init 249 = .ok (.getfield 12, 3) := by decide +kernel
theorem dX9_init_252 : decode cX9_init 252 = .ok (.iload 7, 2) := by decide +kernel
theorem dX9_init_254 : decode cX9_init 254 = .ok (.invokestatic 88, 3) := by decide +kernel
theorem dX9_init_257 : decode cX9_init 257 = .ok (.iload_n 3, 1) := by decide +kernel
theorem dX9_init_258 : decode cX9_init 258 = .ok (.invokestatic 88, 3) := by decide +kernel
theorem dX9_init_261 : decode cX9_init 261 = .ok (.invokevirtual 92, 3) := by decide +kernel
theorem dX9_init_264 : decode cX9_init 264 = .ok (.istore 8, 2) := by decide +kernel
theorem dX9_init_266 : decode cX9_init 266 = .ok (.aload_n 0, 1) := by decide +kernel
theorem dX9_init_267 : decode cX9_init 267 = .ok (.getfield 12, 3) := by decide +kernel
theorem dX9_init_270 : decode cX9_init 270 = .ok (.iload_n 1, 1) := by decide +kernel
theorem dX9_init_271 : decode cX9_init 271 = .ok (.invokestatic 88, 3) := by decide +kernel
theorem dX9_init_274 : decode cX9_init 274 = .ok (.iload 4, 2) := by decide +kernel
theorem dX9_init_276 : decode cX9_init 276 = .ok (.invokestatic 88, 3) := by decide +kernel
theorem dX9_init_279 : decode cX9_init 279 = .ok (.lor, 1) := by decide +kernel
theorem dX9_init_280 : decode cX9_init 280 = .ok (.iload_n 1, 1) := by decide +kernel
theorem dX9_init_281 : decode cX9_init 281 = .ok (.invokestatic 88, 3) := by decide +kernel
theorem dX9_init_284 : decode cX9_init 284 = .ok (.invokevirtual 92, 3) := by decide +kernel
theorem dX9_init_287 : decode cX9_init 287 = .ok (.pop, 1) := by decide +kernel
theorem dX9_init_288 : decode cX9_init 288 = .ok (.aload_n 0, 1) := by decide +kernel
theorem dX9_init_289 : decode cX9_init 289 = .ok (.getfield 19, 3) := by decide +kernel
theorem dX9_init_292 : decode cX9_init 292 = .ok (.iload 5, 2) := by decide +kernel
theorem dX9_init_294 : decode cX9_init 294 = .ok (.invokevirtual 96, 3) := by decide +kernel
theorem dX9_init_297 : decode cX9_init 297 = .ok (.aload_n 0, 1) := by decide +kernel
theorem dX9_init_298 : decode cX9_init 298 = .ok (.getfield 19, 3) := by decide +kernel
theorem dX9_init_301 : decode cX9_init 301 = .ok (.iload 8, 2) := by decide +kernel
theorem dX9_init_303 : decode cX9_init 303 = .ok (.invokevirtual 96, 3) := by decide +kernel
theorem dX9_init_306 : decode cX9_init 306 = .ok (.return_, 1) := by decide +kernel
theorem dX9_games_0 : decode cX9_games 0 = .ok (.aload_n 0, 1) := by decide +kernel
theorem dX9_games_1 : decode cX9_games 1 = .ok (.getfield 12, 3) := by decide +kernel
theorem dX9_games_4 : decode cX9_games 4 = .ok (.getfield 100, 3) := by decide +kernel
theorem dX9_games_7 : decode cX9_games 7 = .ok (.ireturn, 1) := by decide +kernel
theorem dX9_number_0 : decode cX9_number 0 = .ok (.iload_n 1, 1) := by decide +kernel
theorem dX9_number_1 : decode cX9_number 1 = .ok (.bipush (-64), 2) := by decide +kernel
theorem dX9_number_3 : decode cX9_number 3 = .ok (.if_icmp .lt 9, 3) := by decide +kernel
theorem dX9_number_6 : decode cX9_number 6 = .ok (.iload_n 1, 1) := by decide +kernel
theorem dX9_number_7 : decode cX9_number 7 = .ok (.bipush 64, 2) := by decide +kernel
theorem dX9_number_9 : decode cX9_number 9 = .ok (.if_icmp .le 13, 3) := by decide +kernel
theorem dX9_number_12 : decode cX9_number 12 = .ok (.new 103, 3) := by decide +kernel
theorem dX9_number_15 : decode cX9_number 15 = .ok (.dup, 1) := by decide +kernel
theorem dX9_number_16 : decode cX9_number 16 = .ok (.ldc 105, 2) := by decide +kernel
theorem dX9_number_18 : decode cX9_number 18 = .ok (.invokespecial 107, 3) := by decide +kernel
theorem dX9_number_21 : decode cX9_number 21 = .ok (.athrow, 1) := by decide +kernel
theorem dX9_number_22 : decode cX9_number 22 = .ok (.aload_n 0, 1) := by decide +kernel
theorem dX9_number_23 : decode cX9_number 23 = .ok (.getfield 12, 3) := by decide +kernel
theorem dX9_number_26 : decode cX9_number 26 = .ok (.getfield 100, 3) := by decide +kernel
theorem dX9_number_29 : decode cX9_number 29 = .ok (.istore_n 2, 1) := by decide +kernel
theorem dX9_number_30 : decode cX9_number 30 = .ok (.aload_n 0, 1) := by decide +kernel
theorem dX9_number_31 : decode cX9_number 31 = .ok (.getfield 12, 3) := by decide +kernel
theorem dX9_number_34 : decode cX9_number 34 = .ok (.iload_n 1, 1) := by decide +kernel
theorem dX9_number_35 : decode cX9_number 35 = .ok (.invokevirtual 84, 3) := by decide +kernel
theorem dX9_number_38 : decode cX9_number 38 = .ok (.istore_n 3, 1) := by decide +kernel
theorem dX9_number_39 : decode cX9_number 39 = .ok (.iload_n 3, 1) := by decide +kernel
theorem dX9_number_40 : decode cX9_number 40 = .ok (.iconst (-1), 1) := by decide +kernel
theorem dX9_number_41 : decode cX9_number 41 = .ok (.if_icmp .ne 13, 3) := by decide +kernel
theorem dX9_number_44 : decode cX9_number 44 = .ok (.new 110, 3) := by decide +kernel
theorem dX9_number_47 : decode cX9_number 47 = .ok (.dup, 1) := by decide +kernel
theorem dX9_number_48 : decode cX9_number 48 = .ok (.ldc 112, 2) := by decide +kernel
theorem dX9_number_50 : decode cX9_number 50 = .ok (.invokespecial 114, 3) := by decide +kernel
theorem dX9_number_53 : decode cX9_number 53 = .ok (.athrow, 1) := by decide +kernel
theorem dX9_number_54 : decode cX9_number 54 = .ok (.aload_n 0, 1) := by decide +kernel
theorem dX9_number_55 : decode cX9_number 55 = .ok (.getfield 65, 3) := by decide +kernel
theorem dX9_number_58 : decode cX9_number 58 = .ok (.iload_n 2, 1) := by decide +kernel
theorem dX9_number_59 : decode cX9_number 59 = .ok (.aload_n 0, 1) := by decide +kernel
theorem dX9_number_60 : decode cX9_number 60 = .ok (.getfield 19, 3) := by decide +kernel
theorem dX9_number_63 : decode cX9_number 63 = .ok (.invokevirtual 115, 3) := by decide +kernel
theorem dX9_number_66 : decode cX9_number 66 = .ok (.iload_n 3, 1) := by decide +kernel
theorem dX9_number_67 : decode cX9_number 67 = .ok (.ireturn, 1) := by decide +kernel
theorem dX9_draft_0 : decode cX9_draft 0 = .ok (.aload_n 0, 1) := by decide +kernel
theorem dX9_draft_1 : decode cX9_draft 1 = .ok (.iload_n 2, 1) := by decide +kernel
theorem dX9_draft_2 : decode cX9_draft 2 = .ok (.invokevirtual 119, 3) := by decide +kernel
theorem dX9_draft_5 : decode cX9_draft 5 = .ok (.iload_n 1, 1) := by decide +kernel
theorem dX9_draft_6 : decode cX9_draft 6 = .ok (.invokestatic 122, 3) := by decide +kernel
theorem dX9_draft_9 : decode cX9_draft 9 = .ok (.aload_n 0, 1) := by decide +kernel
theorem dX9_draft_10 : decode cX9_draft 10 = .ok (.getfield 69, 3) := by decide +kernel
theorem dX9_draft_13 : decode cX9_draft 13 = .ok (.iload_n 1, 1) := by decide +kernel
theorem dX9_draft_14 : decode cX9_draft 14 = .ok (.laload, 1) := by decide +kernel
theorem dX9_draft_15 : decode cX9_draft 15 = .ok (.iload_n 2, 1) := by decide +kernel
theorem dX9_draft_16 : decode cX9_draft 16 = .ok (.invokestatic 88, 3) := by decide +kernel
theorem dX9_draft_19 : decode cX9_draft 19 = .ok (.lor, 1) := by decide +kernel
theorem dX9_draft_20 : decode cX9_draft 20 = .ok (.lstore_n 3, 1) := by decide +kernel
theorem dX9_draft_21 : decode cX9_draft 21 = .ok (.lload_n 3, 1) := by decide +kernel
theorem dX9_draft_22 : decode cX9_draft 22 = .ok (.invokestatic 125, 3) := by decide +kernel
theorem dX9_draft_25 : decode cX9_draft 25 = .ok (.iconst 4, 1) := by decide +kernel
theorem dX9_draft_26 : decode cX9_draft 26 = .ok (.if_icmp .le 13, 3) := by decide +kernel
theorem dX9_draft_29 : decode cX9_draft 29 = .ok (.new 110, 3) := by decide +kernel
theorem dX9_draft_32 : decode cX9_draft 32 = .ok (.dup, 1) := by decide +kernel
theorem dX9_draft_33 : decode cX9_draft 33 = .ok (.ldc 131, 2) := by decide +kernel
theorem dX9_draft_35 : decode cX9_draft 35 = .ok (.invokespecial 114, 3) := by decide +kernel
theorem dX9_draft_38 : decode cX9_draft 38 = .ok (.athrow, 1) := by decide +kernel
theorem dX9_draft_39 : decode cX9_draft 39 = .ok (.aload_n 0, 1) := by decide +kernel
theorem dX9_draft_40 : decode cX9_draft 40 = .ok (.getfield 69, 3) := by decide +kernel
theorem dX9_draft_43 : decode cX9_draft 43 = .ok (.iload_n 1, 1) := by decide +kernel
theorem dX9_draft_44 : decode cX9_draft 44 = .ok (.lload_n 3, 1) := by decide +kernel
theorem dX9_draft_45 : decode cX9_draft 45 = .ok (.lastore, 1) := by decide +kernel
theorem dX9_draft_46 : decode cX9_draft 46 = .ok (.lload_n 3, 1) := by decide +kernel
theorem dX9_draft_47 : decode cX9_draft 47 = .ok (.invokestatic 125, 3) := by decide +kernel
theorem dX9_draft_50 : decode cX9_draft 50 = .ok (.ireturn, 1) := by decide +kernel
theorem dX9_clearDraft_0 : decode cX9_clearDraft 0 = .ok (.aload_n 0, 1) := by decide +kernel
theorem dX9_clearDraft_1 : decode cX9_clearDraft 1 = .ok (.getfield 69, 3) := by decide +kernel
theorem dX9_clearDraft_4 : decode cX9_clearDraft 4 = .ok (.iconst 0, 1) := by decide +kernel
theorem dX9_clearDraft_5 : decode cX9_clearDraft 5 = .ok (.laload, 1) := by decide +kernel
theorem dX9_clearDraft_6 : decode cX9_clearDraft 6 = .ok (.invokestatic 125, 3) := by decide +kernel
theorem dX9_clearDraft_9 : decode cX9_clearDraft 9 = .ok (.aload_n 0, 1) := by decide +kernel
theorem dX9_clearDraft_10 : decode cX9_clearDraft 10 = .ok (.getfield 69, 3) := by decide +kernel
theorem dX9_clearDraft_13 : decode cX9_clearDraft 13 = .ok (.iconst 1, 1) := by decide +kernel
theorem dX9_clearDraft_14 : decode cX9_clearDraft 14 = .ok (.laload, 1) := by decide +kernel
theorem dX9_clearDraft_15 : decode cX9_clearDraft 15 = .ok (.invokestatic 125, 3) := by decide +kernel
theorem dX9_clearDraft_18 : decode cX9_clearDraft 18 = .ok (.iadd, 1) := by decide +kernel
theorem dX9_clearDraft_19 : decode cX9_clearDraft 19 = .ok (.istore_n 1, 1) := by decide +kernel
theorem dX9_clearDraft_20 : decode cX9_clearDraft 20 = .ok (.aload_n 0, 1) := by decide +kernel
theorem dX9_clearDraft_21 : decode cX9_clearDraft 21 = .ok (.getfield 69, 3) := by decide +kernel
theorem dX9_clearDraft_24 : decode cX9_clearDraft 24 = .ok (.iconst 0, 1) := by decide +kernel
theorem dX9_clearDraft_25 : decode cX9_clearDraft 25 = .ok (.lconst 0, 1) := by decide +kernel
theorem dX9_clearDraft_26 : decode cX9_clearDraft 26 = .ok (.lastore, 1) := by decide +kernel
theorem dX9_clearDraft_27 : decode cX9_clearDraft 27 = .ok (.aload_n 0, 1) := by decide +kernel
theorem dX9_clearDraft_28 : decode cX9_clearDraft 28 = .ok (.getfield 69, 3) := by decide +kernel
theorem dX9_clearDraft_31 : decode cX9_clearDraft 31 = .ok (.iconst 1, 1) := by decide +kernel
theorem dX9_clearDraft_32 : decode cX9_clearDraft 32 = .ok (.lconst 0, 1) := by decide +kernel
theorem dX9_clearDraft_33 : decode cX9_clearDraft 33 = .ok (.lastore, 1) := by decide +kernel
theorem dX9_clearDraft_34 : decode cX9_clearDraft 34 = .ok (.iload_n 1, 1) := by decide +kernel
theorem dX9_clearDraft_35 : decode cX9_clearDraft 35 = .ok (.ireturn, 1) := by decide +kernel
theorem dX9_make_0 : decode cX9_make 0 = .ok (.aload_n 0, 1) := by decide +kernel
theorem dX9_make_1 : decode cX9_make 1 = .ok (.getfield 12, 3) := by decide +kernel
theorem dX9_make_4 : decode cX9_make 4 = .ok (.getfield 100, 3) := by decide +kernel
theorem dX9_make_7 : decode cX9_make 7 = .ok (.istore_n 1, 1) := by decide +kernel
theorem dX9_make_8 : decode cX9_make 8 = .ok (.aload_n 0, 1) := by decide +kernel
theorem dX9_make_9 : decode cX9_make 9 = .ok (.getfield 12, 3) := by decide +kernel
theorem dX9_make_12 : decode cX9_make 12 = .ok (.aload_n 0, 1) := by decide +kernel
theorem dX9_make_13 : decode cX9_make 13 = .ok (.getfield 69, 3) := by decide +kernel
theorem dX9_make_16 : decode cX9_make 16 = .ok (.iconst 0, 1) := by decide +kernel
theorem dX9_make_17 : decode cX9_make 17 = .ok (.laload, 1) := by decide +kernel
theorem dX9_make_18 : decode cX9_make 18 = .ok (.aload_n 0, 1) := by decide +kernel
theorem dX9_make_19 : decode cX9_make 19 = .ok (.getfield 69, 3) := by decide +kernel
theorem dX9_make_22 : decode cX9_make 22 = .ok (.iconst 1, 1) := by decide +kernel
theorem dX9_make_23 : decode cX9_make 23 = .ok (.laload, 1) := by decide +kernel
theorem dX9_make_24 : decode cX9_make 24 = .ok (.invokevirtual 92, 3) := by decide +kernel
theorem dX9_make_27 : decode cX9_make 27 = .ok (.istore_n 2, 1) := by decide +kernel
theorem dX9_make_28 : decode cX9_make 28 = .ok (.iload_n 2, 1) := by decide +kernel
theorem dX9_make_29 : decode cX9_make 29 = .ok (.iconst (-1), 1) := by decide +kernel
theorem dX9_make_30 : decode cX9_make 30 = .ok (.if_icmp .ne 13, 3) := by decide +kernel
theorem dX9_make_33 : decode cX9_make 33 = .ok (.new 110, 3) := by decide +kernel
theorem dX9_make_36 : decode cX9_make 36 = .ok (.dup, 1) := by decide +kernel
theorem dX9_make_37 : decode cX9_make 37 = .ok (.ldc 133, 2) := by decide +kernel
theorem dX9_make_39 : decode cX9_make 39 = .ok (.invokespecial 114, 3) := by decide +kernel
theorem dX9_make_42 : decode cX9_make 42 = .ok (.athrow, 1) := by decide +kernel
theorem dX9_make_43 : decode cX9_make 43 = .ok (.aload_n 0, 1) := by decide +kernel
theorem dX9_make_44 : decode cX9_make 44 = .ok (.getfield 69, 3) := by decide +kernel
theorem dX9_make_47 : decode cX9_make 47 = .ok (.iconst 0, 1) := by decide +kernel
theorem dX9_make_48 : decode cX9_make 48 = .ok (.lconst 0, 1) := by decide +kernel
theorem dX9_make_49 : decode cX9_make 49 = .ok (.lastore, 1) := by decide +kernel
theorem dX9_make_50 : decode cX9_make 50 = .ok (.aload_n 0, 1) := by decide +kernel
theorem dX9_make_51 : decode cX9_make 51 = .ok (.getfield 69, 3) := by decide +kernel
theorem dX9_make_54 : decode cX9_make 54 = .ok (.iconst 1, 1) := by decide +kernel
theorem dX9_make_55 : decode cX9_make 55 = .ok (.lconst 0, 1) := by decide +kernel
theorem dX9_make_56 : decode cX9_make 56 = .ok (.lastore, 1) := by decide +kernel
theorem dX9_make_57 : decode cX9_make 57 = .ok (.aload_n 0, 1) := by decide +kernel
theorem dX9_make_58 : decode cX9_make 58 = .ok (.getfield 65, 3) := by decide +kernel
theorem dX9_make_61 : decode cX9_make 61 = .ok (.iload_n 1, 1) := by decide +kernel
theorem dX9_make_62 : decode cX9_make 62 = .ok (.aload_n 0, 1) := by decide +kernel
theorem dX9_make_63 : decode cX9_make 63 = .ok (.getfield 19, 3) := by decide +kernel
theorem dX9_make_66 : decode cX9_make 66 = .ok (.invokevirtual 115, 3) := by decide +kernel
theorem dX9_make_69 : decode cX9_make 69 = .ok (.iload_n 2, 1) := by decide +kernel
theorem dX9_make_70 : decode cX9_make 70 = .ok (.ireturn, 1) := by decide +kernel
theorem dX9_negative_0 : decode cX9_negative 0 = .ok (.aload_n 0, 1) := by decide +kernel
theorem dX9_negative_1 : decode cX9_negative 1 = .ok (.iload_n 1, 1) := by decide +kernel
theorem dX9_negative_2 : decode cX9_negative 2 = .ok (.invokevirtual 119, 3) := by decide +kernel
theorem dX9_negative_5 : decode cX9_negative 5 = .ok (.aload_n 0, 1) := by decide +kernel
theorem dX9_negative_6 : decode cX9_negative 6 = .ok (.getfield 12, 3) := by decide +kernel
theorem dX9_negative_9 : decode cX9_negative 9 = .ok (.getfield 100, 3) := by decide +kernel
theorem dX9_negative_12 : decode cX9_negative 12 = .ok (.istore_n 2, 1) := by decide +kernel
theorem dX9_negative_13 : decode cX9_negative 13 = .ok (.aload_n 0, 1) := by decide +kernel
theorem dX9_negative_14 : decode cX9_negative 14 = .ok (.getfield 51, 3) := by decide +kernel
theorem dX9_negative_17 : decode cX9_negative 17 = .ok (.iload_n 1, 1) := by decide +kernel
theorem dX9_negative_18 : decode cX9_negative 18 = .ok (.invokevirtual 135, 3) := by decide +kernel
theorem dX9_negative_21 : decode cX9_negative 21 = .ok (.istore_n 3, 1) := by decide +kernel
theorem dX9_negative_22 : decode cX9_negative 22 = .ok (.iload_n 3, 1) := by decide +kernel
theorem dX9_negative_23 : decode cX9_negative 23 = .ok (.iconst (-1), 1) := by decide +kernel
theorem dX9_negative_24 : decode cX9_negative 24 = .ok (.if_icmp .ne 21, 3) := by decide +kernel
theorem dX9_negative_27 : decode cX9_negative 27 = .ok (.aload_n 0, 1) := by decide +kernel
theorem dX9_negative_28 : decode cX9_negative 28 = .ok (.getfield 12, 3) := by decide +kernel
theorem dX9_negative_31 : decode cX9_negative 31 = .ok (.iload_n 2, 1) := by decide +kernel
theorem dX9_negative_32 : decode cX9_negative 32 = .ok (.putfield 100, 3) := by decide +kernel
theorem dX9_negative_35 : decode cX9_negative 35 = .ok (.new 110, 3) := by decide +kernel
theorem dX9_negative_38 : decode cX9_negative 38 = .ok (.dup, 1) := by decide +kernel
theorem dX9_negative_39 : decode cX9_negative 39 = .ok (.ldc 138, 2) := by decide +kernel
theorem dX9_negative_41 : decode cX9_negative 41 = .ok (.invokespecial 114, 3) := by decide +kernel
theorem dX9_negative_44 : decode cX9_negative 44 = .ok (.athrow, 1) := by decide +kernel
theorem dX9_negative_45 : decode cX9_negative 45 = .ok (.aload_n 0, 1) := by decide +kernel
theorem dX9_negative_46 : decode cX9_negative 46 = .ok (.getfield 65, 3) := by decide +kernel
theorem dX9_negative_49 : decode cX9_negative 49 = .ok (.iload_n 2, 1) := by decide +kernel
theorem dX9_negative_50 : decode cX9_negative 50 = .ok (.aload_n 0, 1) := by decide +kernel
theorem dX9_negative_51 : decode cX9_negative 51 = .ok (.getfield 19, 3) := by decide +kernel
theorem dX9_negative_54 : decode cX9_negative 54 = .ok (.invokevirtual 115, 3) := by decide +kernel
theorem dX9_negative_57 : decode cX9_negative 57 = .ok (.iload_n 3, 1) := by decide +kernel
theorem dX9_negative_58 : decode cX9_negative 58 = .ok (.ireturn, 1) := by decide +kernel
theorem dX9_options_0 : decode cX9_options 0 = .ok (.aload_n 0, 1) := by decide +kernel
theorem dX9_options_1 : decode cX9_options 1 = .ok (.iload_n 1, 1) := by decide +kernel
theorem dX9_options_2 : decode cX9_options 2 = .ok (.invokevirtual 119, 3) := by decide +kernel
theorem dX9_options_5 : decode cX9_options 5 = .ok (.iload_n 2, 1) := by decide +kernel
theorem dX9_options_6 : decode cX9_options 6 = .ok (.invokestatic 122, 3) := by decide +kernel
theorem dX9_options_9 : decode cX9_options 9 = .ok (.aload_n 0, 1) := by decide +kernel
theorem dX9_options_10 : decode cX9_options 10 = .ok (.getfield 12, 3) := by decide +kernel
theorem dX9_options_13 : decode cX9_options 13 = .ok (.getfield 140, 3) := by decide +kernel
theorem dX9_options_16 : decode cX9_options 16 = .ok (.iload_n 1, 1) := by decide +kernel
theorem dX9_options_17 : decode cX9_options 17 = .ok (.aaload, 1) := by decide +kernel
theorem dX9_options_18 : decode cX9_options 18 = .ok (.getfield 144, 3) := by decide +kernel
theorem dX9_options_21 : decode cX9_options 21 = .ok (.iload_n 2, 1) := by decide +kernel
theorem dX9_options_22 : decode cX9_options 22 = .ok (.iaload, 1) := by decide +kernel
theorem dX9_options_23 : decode cX9_options 23 = .ok (.ireturn, 1) := by decide +kernel
theorem dX9_option_0 : decode cX9_option 0 = .ok (.aload_n 0, 1) := by decide +kernel
theorem dX9_option_1 : decode cX9_option 1 = .ok (.iload_n 1, 1) := by decide +kernel
theorem dX9_option_2 : decode cX9_option 2 = .ok (.invokevirtual 119, 3) := by decide +kernel
theorem dX9_option_5 : decode cX9_option 5 = .ok (.iload_n 2, 1) := by decide +kernel
theorem dX9_option_6 : decode cX9_option 6 = .ok (.invokestatic 122, 3) := by decide +kernel
theorem dX9_option_9 : decode cX9_option 9 = .ok (.aload_n 0, 1) := by decide +kernel
theorem dX9_option_10 : decode cX9_option 10 = .ok (.getfield 12, 3) := by decide +kernel
theorem dX9_option_13 : decode cX9_option 13 = .ok (.getfield 140, 3) := by decide +kernel
theorem dX9_option_16 : decode cX9_option 16 = .ok (.iload_n 1, 1) := by decide +kernel
theorem dX9_option_17 : decode cX9_option 17 = .ok (.aaload, 1) := by decide +kernel
theorem dX9_option_18 : decode cX9_option 18 = .ok (.iload_n 2, 1) := by decide +kernel
theorem dX9_option_19 : decode cX9_option 19 = .ok (.iload_n 3, 1) := by decide +kernel
theorem dX9_option_20 : decode cX9_option 20 = .ok (.invokevirtual 149, 3) := by decide +kernel
theorem dX9_option_23 : decode cX9_option 23 = .ok (.ireturn, 1) := by decide +kernel
theorem dX9_depth_0 : decode cX9_depth 0 = .ok (.aload_n 0, 1) := by decide +kernel
theorem dX9_depth_1 : decode cX9_depth 1 = .ok (.iload_n 1, 1) := by decide +kernel
theorem dX9_depth_2 : decode cX9_depth 2 = .ok (.invokevirtual 119, 3) := by decide +kernel
theorem dX9_depth_5 : decode cX9_depth 5 = .ok (.aload_n 0, 1) := by decide +kernel
theorem dX9_depth_6 : decode cX9_depth 6 = .ok (.getfield 12, 3) := by decide +kernel
theorem dX9_depth_9 : decode cX9_depth 9 = .ok (.getfield 140, 3) := by decide +kernel
theorem dX9_depth_12 : decode cX9_depth 12 = .ok (.iload_n 1, 1) := by decide +kernel
theorem dX9_depth_13 : decode cX9_depth 13 = .ok (.aaload, 1) := by decide +kernel
theorem dX9_depth_14 : decode cX9_depth 14 = .ok (.getfield 153, 3) := by decide +kernel
theorem dX9_depth_17 : decode cX9_depth 17 = .ok (.ireturn, 1) := by decide +kernel
theorem dX9_compare_0 : decode cX9_compare 0 = .ok (.aload_n 0, 1) := by decide +kernel
theorem dX9_compare_1 : decode cX9_compare 1 = .ok (.iload_n 1, 1) := by decide +kernel
theorem dX9_compare_2 : decode cX9_compare 2 = .ok (.invokevirtual 119, 3) := by decide +kernel
theorem dX9_compare_5 : decode cX9_compare 5 = .ok (.aload_n 0, 1) := by decide +kernel
theorem dX9_compare_6 : decode cX9_compare 6 = .ok (.iload_n 2, 1) := by decide +kernel
theorem dX9_compare_7 : decode cX9_compare 7 = .ok (.invokevirtual 119, 3) := by decide +kernel
theorem dX9_compare_10 : decode cX9_compare 10 = .ok (.aload_n 0, 1) := by decide +kernel
theorem dX9_compare_11 : decode cX9_compare 11 = .ok (.getfield 12, 3) := by decide +kernel
theorem dX9_compare_14 : decode cX9_compare 14 = .ok (.iload_n 1, 1) := by decide +kernel
theorem dX9_compare_15 : decode cX9_compare 15 = .ok (.iload_n 2, 1) := by decide +kernel
theorem dX9_compare_16 : decode cX9_compare 16 = .ok (.invokevirtual 156, 3) := by decide +kernel
theorem dX9_compare_19 : decode cX9_compare 19 = .ok (.istore_n 3, 1) := by decide +kernel
theorem dX9_compare_20 : decode cX9_compare 20 = .ok (.aload_n 0, 1) := by decide +kernel
theorem dX9_compare_21 : decode cX9_compare 21 = .ok (.getfield 12, 3) := by decide +kernel
theorem dX9_compare_24 : decode cX9_compare 24 = .ok (.iload_n 2, 1) := by decide +kernel
theorem dX9_compare_25 : decode cX9_compare 25 = .ok (.iload_n 1, 1) := by decide +kernel
theorem dX9_compare_26 : decode cX9_compare 26 = .ok (.invokevirtual 156, 3) := by decide +kernel
theorem dX9_compare_29 : decode cX9_compare 29 = .ok (.istore 4, 2) := by decide +kernel
theorem dX9_compare_31 : decode cX9_compare 31 = .ok (.iload_n 3, 1) := by decide +kernel
theorem dX9_compare_32 : decode cX9_compare 32 = .ok (.ifCond .eq 14, 3) := by decide +kernel
theorem dX9_compare_35 : decode cX9_compare 35 = .ok (.iload 4, 2) := by decide +kernel
theorem dX9_compare_37 : decode cX9_compare 37 = .ok (.ifCond .eq 7, 3) := by decide +kernel
theorem dX9_compare_40 : decode cX9_compare 40 = .ok (.iconst 0, 1) := by decide +kernel
theorem dX9_compare_41 : decode cX9_compare 41 = .ok (.goto 4, 3) := by decide +kernel
theorem dX9_compare_44 : decode cX9_compare 44 = .ok (.iconst 1, 1) := by decide +kernel
theorem dX9_compare_45 : decode cX9_compare 45 = .ok (.ireturn, 1) := by decide +kernel
theorem dX9_compare_46 : decode cX9_compare 46 = .ok (.iload 4, 2) := by decide +kernel
theorem dX9_compare_48 : decode cX9_compare 48 = .ok (.ifCond .eq 7, 3) := by decide +kernel
theorem dX9_compare_51 : decode cX9_compare 51 = .ok (.iconst 2, 1) := by decide +kernel
theorem dX9_compare_52 : decode cX9_compare 52 = .ok (.goto 4, 3) := by decide +kernel
theorem dX9_compare_55 : decode cX9_compare 55 = .ok (.iconst 3, 1) := by decide +kernel
theorem dX9_compare_56 : decode cX9_compare 56 = .ok (.ireturn, 1) := by decide +kernel
theorem dX9_isCold_0 : decode cX9_isCold 0 = .ok (.aload_n 0, 1) := by decide +kernel
theorem dX9_isCold_1 : decode cX9_isCold 1 = .ok (.iload_n 1, 1) := by decide +kernel
theorem dX9_isCold_2 : decode cX9_isCold 2 = .ok (.invokevirtual 119, 3) := by decide +kernel
theorem dX9_isCold_5 : decode cX9_isCold 5 = .ok (.aload_n 0, 1) := by decide +kernel
theorem dX9_isCold_6 : decode cX9_isCold 6 = .ok (.getfield 12, 3) := by decide +kernel
theorem dX9_isCold_9 : decode cX9_isCold 9 = .ok (.getfield 140, 3) := by decide +kernel
theorem dX9_isCold_12 : decode cX9_isCold 12 = .ok (.iload_n 1, 1) := by decide +kernel
theorem dX9_isCold_13 : decode cX9_isCold 13 = .ok (.aaload, 1) := by decide +kernel
theorem dX9_isCold_14 : decode cX9_isCold 14 = .ok (.getfield 160, 3) := by decide +kernel
theorem dX9_isCold_17 : decode cX9_isCold 17 = .ok (.ireturn, 1) := by decide +kernel
theorem dX9_value_0 : decode cX9_value 0 = .ok (.aload_n 0, 1) := by decide +kernel
theorem dX9_value_1 : decode cX9_value 1 = .ok (.iload_n 1, 1) := by decide +kernel
theorem dX9_value_2 : decode cX9_value 2 = .ok (.invokevirtual 119, 3) := by decide +kernel
theorem dX9_value_5 : decode cX9_value 5 = .ok (.aload_n 0, 1) := by decide +kernel
theorem dX9_value_6 : decode cX9_value 6 = .ok (.getfield 12, 3) := by decide +kernel
theorem dX9_value_9 : decode cX9_value 9 = .ok (.getfield 140, 3) := by decide +kernel
theorem dX9_value_12 : decode cX9_value 12 = .ok (.iload_n 1, 1) := by decide +kernel
theorem dX9_value_13 : decode cX9_value 13 = .ok (.aaload, 1) := by decide +kernel
theorem dX9_value_14 : decode cX9_value 14 = .ok (.getfield 160, 3) := by decide +kernel
theorem dX9_value_17 : decode cX9_value 17 = .ok (.ifCond .ne 13, 3) := by decide +kernel
theorem dX9_value_20 : decode cX9_value 20 = .ok (.new 110, 3) := by decide +kernel
theorem dX9_value_23 : decode cX9_value 23 = .ok (.dup, 1) := by decide +kernel
theorem dX9_value_24 : decode cX9_value 24 = .ok (.ldc 164, 2) := by decide +kernel
theorem dX9_value_26 : decode cX9_value 26 = .ok (.invokespecial 114, 3) := by decide +kernel
theorem dX9_value_29 : decode cX9_value 29 = .ok (.athrow, 1) := by decide +kernel
theorem dX9_value_30 : decode cX9_value 30 = .ok (.aload_n 0, 1) := by decide +kernel
theorem dX9_value_31 : decode cX9_value 31 = .ok (.getfield 12, 3) := by decide +kernel
theorem dX9_value_34 : decode cX9_value 34 = .ok (.getfield 140, 3) := by decide +kernel
theorem dX9_value_37 : decode cX9_value 37 = .ok (.iload_n 1, 1) := by decide +kernel
theorem dX9_value_38 : decode cX9_value 38 = .ok (.aaload, 1) := by decide +kernel
theorem dX9_value_39 : decode cX9_value 39 = .ok (.getfield 166, 3) := by decide +kernel
theorem dX9_value_42 : decode cX9_value 42 = .ok (.ireturn, 1) := by decide +kernel
theorem dX9_dominated_0 : decode cX9_dominated 0 = .ok (.aload_n 0, 1) := by decide +kernel
theorem dX9_dominated_1 : decode cX9_dominated 1 = .ok (.iload_n 1, 1) := by decide +kernel
theorem dX9_dominated_2 : decode cX9_dominated 2 = .ok (.invokevirtual 119, 3) := by decide +kernel
theorem dX9_dominated_5 : decode cX9_dominated 5 = .ok (.iload_n 2, 1) := by decide +kernel
theorem dX9_dominated_6 : decode cX9_dominated 6 = .ok (.invokestatic 122, 3) := by decide +kernel
theorem dX9_dominated_9 : decode cX9_dominated 9 = .ok (.aload_n 0, 1) := by decide +kernel
theorem dX9_dominated_10 : decode cX9_dominated 10 = .ok (.getfield 12, 3) := by decide +kernel
theorem dX9_dominated_13 : decode cX9_dominated 13 = .ok (.aload_n 0, 1) := by decide +kernel
theorem dX9_dominated_14 : decode cX9_dominated 14 = .ok (.getfield 12, 3) := by decide +kernel
theorem dX9_dominated_17 : decode cX9_dominated 17 = .ok (.getfield 140, 3) := by decide +kernel
theorem dX9_dominated_20 : decode cX9_dominated 20 = .ok (.iload_n 1, 1) := by decide +kernel
theorem dX9_dominated_21 : decode cX9_dominated 21 = .ok (.aaload, 1) := by decide +kernel
theorem dX9_dominated_22 : decode cX9_dominated 22 = .ok (.iload_n 2, 1) := by decide +kernel
theorem dX9_dominated_23 : decode cX9_dominated 23 = .ok (.iload_n 3, 1) := by decide +kernel
theorem dX9_dominated_24 : decode cX9_dominated 24 = .ok (.invokevirtual 169, 3) := by decide +kernel
theorem dX9_dominated_27 : decode cX9_dominated 27 = .ok (.ireturn, 1) := by decide +kernel
theorem dX9_reversible_0 : decode cX9_reversible 0 = .ok (.aload_n 0, 1) := by decide +kernel
theorem dX9_reversible_1 : decode cX9_reversible 1 = .ok (.iload_n 1, 1) := by decide +kernel
theorem dX9_reversible_2 : decode cX9_reversible 2 = .ok (.invokevirtual 119, 3) := by decide +kernel
theorem dX9_reversible_5 : decode cX9_reversible 5 = .ok (.iload_n 2, 1) := by decide +kernel
theorem dX9_reversible_6 : decode cX9_reversible 6 = .ok (.invokestatic 122, 3) := by decide +kernel
theorem dX9_reversible_9 : decode cX9_reversible 9 = .ok (.aload_n 0, 1) := by decide +kernel
theorem dX9_reversible_10 : decode cX9_reversible 10 = .ok (.getfield 12, 3) := by decide +kernel
theorem dX9_reversible_13 : decode cX9_reversible 13 = .ok (.getfield 140, 3) := by decide +kernel
theorem dX9_reversible_16 : decode cX9_reversible 16 = .ok (.iload_n 1, 1) := by decide +kernel
theorem dX9_reversible_17 : decode cX9_reversible 17 = .ok (.aaload, 1) := by decide +kernel
theorem dX9_reversible_18 : decode cX9_reversible 18 = .ok (.iload_n 2, 1) := by decide +kernel
theorem dX9_reversible_19 : decode cX9_reversible 19 = .ok (.iload_n 3, 1) := by decide +kernel
theorem dX9_reversible_20 : decode cX9_reversible 20 = .ok (.invokevirtual 149, 3) := by decide +kernel
theorem dX9_reversible_23 : decode cX9_reversible 23 = .ok (.istore 4, 2) := by decide +kernel
theorem dX9_reversible_25 : decode cX9_reversible 25 = .ok (.iload 4, 2) := by decide +kernel
theorem dX9_reversible_27 : decode cX9_reversible 27 = .ok (.iconst (-1), 1) := by decide +kernel
theorem dX9_reversible_28 : decode cX9_reversible 28 = .ok (.if_icmp .ne 5, 3) := by decide +kernel
theorem dX9_reversible_31 : decode cX9_reversible 31 = .ok (.iconst (-1), 1) := by decide +kernel
theorem dX9_reversible_32 : decode cX9_reversible 32 = .ok (.ireturn, 1) := by decide +kernel
theorem dX9_reversible_33 : decode cX9_reversible 33 = .ok (.aload_n 0, 1) := by decide +kernel
theorem dX9_reversible_34 : decode cX9_reversible 34 = .ok (.getfield 12, 3) := by decide +kernel
theorem dX9_reversible_37 : decode cX9_reversible 37 = .ok (.iload_n 1, 1) := by decide +kernel
theorem dX9_reversible_38 : decode cX9_reversible 38 = .ok (.iload_n 2, 1) := by decide +kernel
theorem dX9_reversible_39 : decode cX9_reversible 39 = .ok (.iload 4, 2) := by decide +kernel
theorem dX9_reversible_41 : decode cX9_reversible 41 = .ok (.invokevirtual 173, 3) := by decide +kernel
theorem dX9_reversible_44 : decode cX9_reversible 44 = .ok (.ifCond .eq 7, 3) := by decide +kernel
theorem dX9_reversible_47 : decode cX9_reversible 47 = .ok (.iconst 1, 1) := by decide +kernel
theorem dX9_reversible_48 : decode cX9_reversible 48 = .ok (.goto 4, 3) := by decide +kernel
theorem dX9_reversible_51 : decode cX9_reversible 51 = .ok (.iconst 0, 1) := by decide +kernel
theorem dX9_reversible_52 : decode cX9_reversible 52 = .ok (.ireturn, 1) := by decide +kernel
theorem dX9_mean_0 : decode cX9_mean 0 = .ok (.aload_n 0, 1) := by decide +kernel
theorem dX9_mean_1 : decode cX9_mean 1 = .ok (.iload_n 1, 1) := by decide +kernel
theorem dX9_mean_2 : decode cX9_mean 2 = .ok (.invokevirtual 119, 3) := by decide +kernel
theorem dX9_mean_5 : decode cX9_mean 5 = .ok (.aload_n 0, 1) := by decide +kernel
theorem dX9_mean_6 : decode cX9_mean 6 = .ok (.getfield 12, 3) := by decide +kernel
theorem dX9_mean_9 : decode cX9_mean 9 = .ok (.getfield 140, 3) := by decide +kernel
theorem dX9_mean_12 : decode cX9_mean 12 = .ok (.iload_n 1, 1) := by decide +kernel
theorem dX9_mean_13 : decode cX9_mean 13 = .ok (.aaload, 1) := by decide +kernel
theorem dX9_mean_14 : decode cX9_mean 14 = .ok (.getfield 166, 3) := by decide +kernel
theorem dX9_mean_17 : decode cX9_mean 17 = .ok (.ireturn, 1) := by decide +kernel
theorem dX9_temperature_0 : decode cX9_temperature 0 = .ok (.aload_n 0, 1) := by decide +kernel
theorem dX9_temperature_1 : decode cX9_temperature 1 = .ok (.iload_n 1, 1) := by decide +kernel
theorem dX9_temperature_2 : decode cX9_temperature 2 = .ok (.invokevirtual 119, 3) := by decide +kernel
theorem dX9_temperature_5 : decode cX9_temperature 5 = .ok (.aload_n 0, 1) := by decide +kernel
theorem dX9_temperature_6 : decode cX9_temperature 6 = .ok (.getfield 12, 3) := by decide +kernel
theorem dX9_temperature_9 : decode cX9_temperature 9 = .ok (.getfield 140, 3) := by decide +kernel
theorem dX9_temperature_12 : decode cX9_temperature 12 = .ok (.iload_n 1, 1) := by decide +kernel
theorem dX9_temperature_13 : decode cX9_temperature 13 = .ok (.aaload, 1) := by decide +kernel
theorem dX9_temperature_14 : decode cX9_temperature 14 = .ok (.getfield 177, 3) := by decide +kernel
theorem dX9_temperature_17 : decode cX9_temperature 17 = .ok (.ireturn, 1) := by decide +kernel
theorem dX9_wall_0 : decode cX9_wall 0 = .ok (.aload_n 0, 1) := by decide +kernel
theorem dX9_wall_1 : decode cX9_wall 1 = .ok (.iload_n 1, 1) := by decide +kernel
theorem dX9_wall_2 : decode cX9_wall 2 = .ok (.invokevirtual 119, 3) := by decide +kernel
theorem dX9_wall_5 : decode cX9_wall 5 = .ok (.iload_n 2, 1) := by decide +kernel
theorem dX9_wall_6 : decode cX9_wall 6 = .ok (.invokestatic 122, 3) := by decide +kernel
theorem dX9_wall_9 : decode cX9_wall 9 = .ok (.iload_n 3, 1) := by decide +kernel
theorem dX9_wall_10 : decode cX9_wall 10 = .ok (.ifCond .lt 9, 3) := by decide +kernel
theorem dX9_wall_13 : decode cX9_wall 13 = .ok (.iload_n 3, 1) := by decide +kernel
theorem dX9_wall_14 : decode cX9_wall 14 = .ok (.ldc 180, 2) := by decide +kernel
theorem dX9_wall_16 : decode cX9_wall 16 = .ok (.if_icmp .le 13, 3) := by decide +kernel
theorem dX9_wall_19 : decode cX9_wall 19 = .ok (.new 103, 3) := by decide +kernel
theorem dX9_wall_22 : decode cX9_wall 22 = .ok (.dup, 1) := by decide +kernel
theorem dX9_wall_23 : decode cX9_wall 23 = .ok (.ldc 181, 2) := by decide +kernel
theorem dX9_wall_25 : decode cX9_wall 25 = .ok (.invokespecial 107, 3) := by decide +kernel
theorem dX9_wall_28 : decode cX9_wall 28 = .ok (.athrow, 1) := by decide +kernel
theorem dX9_wall_29 : decode cX9_wall 29 = .ok (.aload_n 0, 1) := by decide +kernel
theorem dX9_wall_30 : decode cX9_wall 30 = .ok (.getfield 12, 3) := by decide +kernel
theorem dX9_wall_33 : decode cX9_wall 33 = .ok (.iload_n 1, 1) := by decide +kernel
theorem dX9_wall_34 : decode cX9_wall 34 = .ok (.iload_n 2, 1) := by decide +kernel
theorem dX9_wall_35 : decode cX9_wall 35 = .ok (.iload_n 3, 1) := by decide +kernel
theorem dX9_wall_36 : decode cX9_wall 36 = .ok (.invokevirtual 183, 3) := by decide +kernel
theorem dX9_wall_39 : decode cX9_wall 39 = .ok (.ireturn, 1) := by decide +kernel
theorem dX9_corner_0 : decode cX9_corner 0 = .ok (.aload_n 0, 1) := by decide +kernel
theorem dX9_corner_1 : decode cX9_corner 1 = .ok (.iload_n 1, 1) := by decide +kernel
theorem dX9_corner_2 : decode cX9_corner 2 = .ok (.invokevirtual 119, 3) := by decide +kernel
theorem dX9_corner_5 : decode cX9_corner 5 = .ok (.iload_n 2, 1) := by decide +kernel
theorem dX9_corner_6 : decode cX9_corner 6 = .ok (.invokestatic 122, 3) := by decide +kernel
theorem dX9_corner_9 : decode cX9_corner 9 = .ok (.iload_n 3, 1) := by decide +kernel
theorem dX9_corner_10 : decode cX9_corner 10 = .ok (.ifCond .ge 7, 3) := by decide +kernel
theorem dX9_corner_13 : decode cX9_corner 13 = .ok (.iconst (-1), 1) := by decide +kernel
theorem dX9_corner_14 : decode cX9_corner 14 = .ok (.goto 4, 3) := by decide +kernel
theorem dX9_corner_17 : decode cX9_corner 17 = .ok (.iconst 0, 1) := by decide +kernel
theorem dX9_corner_18 : decode cX9_corner 18 = .ok (.istore 4, 2) := by decide +kernel
theorem dX9_corner_20 : decode cX9_corner 20 = .ok (.iconst 0, 1) := by decide +kernel
theorem dX9_corner_21 : decode cX9_corner 21 = .ok (.istore 5, 2) := by decide +kernel
theorem dX9_corner_23 : decode cX9_corner 23 = .ok (.iload 5, 2) := by decide +kernel
theorem dX9_corner_25 : decode cX9_corner 25 = .ok (.iload_n 3, 1) := by decide +kernel
theorem dX9_corner_26 : decode cX9_corner 26 = .ok (.if_icmp .ge 28, 3) := by decide +kernel
theorem dX9_corner_29 : decode cX9_corner 29 = .ok (.iload 4, 2) := by decide +kernel
theorem dX9_corner_31 : decode cX9_corner 31 = .ok (.iconst (-1), 1) := by decide +kernel
theorem dX9_corner_32 : decode cX9_corner 32 = .ok (.if_icmp .eq 22, 3) := by decide +kernel
theorem dX9_corner_35 : decode cX9_corner 35 = .ok (.aload_n 0, 1) := by decide +kernel
theorem dX9_corner_36 : decode cX9_corner 36 = .ok (.getfield 12, 3) := by decide +kernel
theorem dX9_corner_39 : decode cX9_corner 39 = .ok (.iload_n 1, 1) := by decide +kernel
theorem dX9_corner_40 : decode cX9_corner 40 = .ok (.iload_n 2, 1) := by decide +kernel
theorem dX9_corner_41 : decode cX9_corner 41 = .ok (.iload 4, 2) := by decide +kernel
theorem dX9_corner_43 : decode cX9_corner 43 = .ok (.invokevirtual 187, 3) := by decide +kernel
theorem dX9_corner_46 : decode cX9_corner 46 = .ok (.istore 4, 2) := by decide +kernel
theorem dX9_corner_48 : decode cX9_corner 48 = .ok (.iinc 5 1, 3) := by decide +kernel
theorem dX9_corner_51 : decode cX9_corner 51 = .ok (.goto (-28), 3) := by decide +kernel
theorem dX9_corner_54 : decode cX9_corner 54 = .ok (.iload 4, 2) := by decide +kernel
theorem dX9_corner_56 : decode cX9_corner 56 = .ok (.ireturn, 1) := by decide +kernel
theorem dX9_add_0 : decode cX9_add 0 = .ok (.aload_n 0, 1) := by decide +kernel
theorem dX9_add_1 : decode cX9_add 1 = .ok (.iload_n 1, 1) := by decide +kernel
theorem dX9_add_2 : decode cX9_add 2 = .ok (.invokevirtual 119, 3) := by decide +kernel
theorem dX9_add_5 : decode cX9_add 5 = .ok (.aload_n 0, 1) := by decide +kernel
theorem dX9_add_6 : decode cX9_add 6 = .ok (.getfield 19, 3) := by decide +kernel
theorem dX9_add_9 : decode cX9_add 9 = .ok (.getfield 190, 3) := by decide +kernel
theorem dX9_add_12 : decode cX9_add 12 = .ok (.iconst 4, 1) := by decide +kernel
theorem dX9_add_13 : decode cX9_add 13 = .ok (.if_icmp .lt 13, 3) := by decide +kernel
theorem dX9_add_16 : decode cX9_add 16 = .ok (.new 110, 3) := by decide +kernel
theorem dX9_add_19 : decode cX9_add 19 = .ok (.dup, 1) := by decide +kernel
theorem dX9_add_20 : decode cX9_add 20 = .ok (.ldc 191, 2) := by decide +kernel
theorem dX9_add_22 : decode cX9_add 22 = .ok (.invokespecial 114, 3) := by decide +kernel
theorem dX9_add_25 : decode cX9_add 25 = .ok (.athrow, 1) := by decide +kernel
theorem dX9_add_26 : decode cX9_add 26 = .ok (.aload_n 0, 1) := by decide +kernel
theorem dX9_add_27 : decode cX9_add 27 = .ok (.getfield 65, 3) := by decide +kernel
theorem dX9_add_30 : decode cX9_add 30 = .ok (.aload_n 0, 1) := by decide +kernel
theorem dX9_add_31 : decode cX9_add 31 = .ok (.getfield 12, 3) := by decide +kernel
theorem dX9_add_34 : decode cX9_add 34 = .ok (.getfield 100, 3) := by decide +kernel
theorem dX9_add_37 : decode cX9_add 37 = .ok (.aload_n 0, 1) := by decide +kernel
theorem dX9_add_38 : decode cX9_add 38 = .ok (.getfield 19, 3) := by decide +kernel
theorem dX9_add_41 : decode cX9_add 41 = .ok (.invokevirtual 115, 3) := by decide +kernel
theorem dX9_add_44 : decode cX9_add 44 = .ok (.aload_n 0, 1) := by decide +kernel
theorem dX9_add_45 : decode cX9_add 45 = .ok (.getfield 19, 3) := by decide +kernel
theorem dX9_add_48 : decode cX9_add 48 = .ok (.iload_n 1, 1) := by decide +kernel
theorem dX9_add_49 : decode cX9_add 49 = .ok (.invokevirtual 96, 3) := by decide +kernel
theorem dX9_add_52 : decode cX9_add 52 = .ok (.aload_n 0, 1) := by decide +kernel
theorem dX9_add_53 : decode cX9_add 53 = .ok (.getfield 19, 3) := by decide +kernel
theorem dX9_add_56 : decode cX9_add 56 = .ok (.getfield 190, 3) := by decide +kernel
theorem dX9_add_59 : decode cX9_add 59 = .ok (.ireturn, 1) := by decide +kernel
theorem dX9_remove_0 : decode cX9_remove 0 = .ok (.aload_n 0, 1) := by decide +kernel
theorem dX9_remove_1 : decode cX9_remove 1 = .ok (.iload_n 1, 1) := by decide +kernel
theorem dX9_remove_2 : decode cX9_remove 2 = .ok (.invokevirtual 193, 3) := by decide +kernel
theorem dX9_remove_5 : decode cX9_remove 5 = .ok (.aload_n 0, 1) := by decide +kernel
theorem dX9_remove_6 : decode cX9_remove 6 = .ok (.getfield 65, 3) := by decide +kernel
theorem dX9_remove_9 : decode cX9_remove 9 = .ok (.aload_n 0, 1) := by decide +kernel
theorem dX9_remove_10 : decode cX9_remove 10 = .ok (.getfield 12, 3) := by decide +kernel
theorem dX9_remove_13 : decode cX9_remove 13 = .ok (.getfield 100, 3) := by decide +kernel
theorem dX9_remove_16 : decode cX9_remove 16 = .ok (.aload_n 0, 1) := by decide +kernel
theorem dX9_remove_17 : decode cX9_remove 17 = .ok (.getfield 19, 3) := by decide +kernel
theorem dX9_remove_20 : decode cX9_remove 20 = .ok (.invokevirtual 115, 3) := by decide +kernel
theorem dX9_remove_23 : decode cX9_remove 23 = .ok (.aload_n 0, 1) := by decide +kernel
theorem dX9_remove_24 : decode cX9_remove 24 = .ok (.getfield 19, 3) := by decide +kernel
theorem dX9_remove_27 : decode cX9_remove 27 = .ok (.iload_n 1, 1) := by decide +kernel
theorem dX9_remove_28 : decode cX9_remove 28 = .ok (.invokevirtual 196, 3) := by decide +kernel
theorem dX9_remove_31 : decode cX9_remove 31 = .ok (.ireturn, 1) := by decide +kernel
theorem dX9_components_0 : decode cX9_components 0 = .ok (.aload_n 0, 1) := by decide +kernel
theorem dX9_components_1 : decode cX9_components 1 = .ok (.getfield 19, 3) := by decide +kernel
theorem dX9_components_4 : decode cX9_components 4 = .ok (.getfield 190, 3) := by decide +kernel
theorem dX9_components_7 : decode cX9_components 7 = .ok (.ireturn, 1) := by decide +kernel
theorem dX9_component_0 : decode cX9_component 0 = .ok (.aload_n 0, 1) := by decide +kernel
theorem dX9_component_1 : decode cX9_component 1 = .ok (.iload_n 1, 1) := by decide +kernel
theorem dX9_component_2 : decode cX9_component 2 = .ok (.invokevirtual 193, 3) := by decide +kernel
theorem dX9_component_5 : decode cX9_component 5 = .ok (.aload_n 0, 1) := by decide +kernel
theorem dX9_component_6 : decode cX9_component 6 = .ok (.getfield 19, 3) := by decide +kernel
theorem dX9_component_9 : decode cX9_component 9 = .ok (.getfield 199, 3) := by decide +kernel
theorem dX9_component_12 : decode cX9_component 12 = .ok (.iload_n 1, 1) := by decide +kernel
theorem dX9_component_13 : decode cX9_component 13 = .ok (.iaload, 1) := by decide +kernel
theorem dX9_component_14 : decode cX9_component 14 = .ok (.ireturn, 1) := by decide +kernel
theorem dX9_move_0 : decode cX9_move 0 = .ok (.aload_n 0, 1) := by decide +kernel
theorem dX9_move_1 : decode cX9_move 1 = .ok (.iload_n 1, 1) := by decide +kernel
theorem dX9_move_2 : decode cX9_move 2 = .ok (.invokevirtual 193, 3) := by decide +kernel
theorem dX9_move_5 : decode cX9_move 5 = .ok (.iload_n 2, 1) := by decide +kernel
theorem dX9_move_6 : decode cX9_move 6 = .ok (.invokestatic 122, 3) := by decide +kernel
theorem dX9_move_9 : decode cX9_move 9 = .ok (.aload_n 0, 1) := by decide +kernel
theorem dX9_move_10 : decode cX9_move 10 = .ok (.getfield 12, 3) := by decide +kernel
theorem dX9_move_13 : decode cX9_move 13 = .ok (.getfield 140, 3) := by decide +kernel
theorem dX9_move_16 : decode cX9_move 16 = .ok (.aload_n 0, 1) := by decide +kernel
theorem dX9_move_17 : decode cX9_move 17 = .ok (.getfield 19, 3) := by decide +kernel
theorem dX9_move_20 : decode cX9_move 20 = .ok (.getfield 199, 3) := by decide +kernel
theorem dX9_move_23 : decode cX9_move 23 = .ok (.iload_n 1, 1) := by decide +kernel
theorem dX9_move_24 : decode cX9_move 24 = .ok (.iaload, 1) := by decide +kernel
theorem dX9_move_25 : decode cX9_move 25 = .ok (.aaload, 1) := by decide +kernel
theorem dX9_move_26 : decode cX9_move 26 = .ok (.astore 4, 2) := by decide +kernel
theorem dX9_move_28 : decode cX9_move 28 = .ok (.aload 4, 2) := by decide +kernel
theorem dX9_move_30 : decode cX9_move 30 = .ok (.iload_n 2, 1) := by decide +kernel
theorem dX9_move_31 : decode cX9_move 31 = .ok (.iload_n 3, 1) := by decide +kernel
theorem dX9_move_32 : decode cX9_move 32 = .ok (.invokevirtual 149, 3) := by decide +kernel
theorem dX9_move_35 : decode cX9_move 35 = .ok (.istore 5, 2) := by decide +kernel
theorem dX9_move_37 : decode cX9_move 37 = .ok (.iload 5, 2) := by decide +kernel
theorem dX9_move_39 : decode cX9_move 39 = .ok (.iconst (-1), 1) := by decide +kernel
theorem dX9_move_40 : decode cX9_move 40 = .ok (.if_icmp .ne 13, 3) := by decide +kernel
theorem dX9_move_43 : decode cX9_move 43 = .ok (.new 103, 3) := by decide +kernel
theorem dX9_move_46 : decode cX9_move 46 = .ok (.dup, 1) := by decide +kernel
theorem dX9_move_47 : decode cX9_move 47 = .ok (.ldc 201, 2) := by decide +kernel
theorem dX9_move_49 : decode cX9_move 49 = .ok (.invokespecial 107, 3) := by decide +kernel
theorem dX9_move_52 : decode cX9_move 52 = .ok (.athrow, 1) := by decide +kernel
theorem dX9_move_53 : decode cX9_move 53 = .ok (.aload 4, 2) := by decide +kernel
theorem dX9_move_55 : decode cX9_move 55 = .ok (.getfield 160, 3) := by decide +kernel
theorem dX9_move_58 : decode cX9_move 58 = .ok (.ifCond .eq 13, 3) := by decide +kernel
theorem dX9_move_61 : decode cX9_move 61 = .ok (.new 110, 3) := by decide +kernel
theorem dX9_move_64 : decode cX9_move 64 = .ok (.dup, 1) := by decide +kernel
theorem dX9_move_65 : decode cX9_move 65 = .ok (.ldc 203, 2) := by decide +kernel
theorem dX9_move_67 : decode cX9_move 67 = .ok (.invokespecial 114, 3) := by decide +kernel
theorem dX9_move_70 : decode cX9_move 70 = .ok (.athrow, 1) := by decide +kernel
theorem dX9_move_71 : decode cX9_move 71 = .ok (.aload_n 0, 1) := by decide +kernel
theorem dX9_move_72 : decode cX9_move 72 = .ok (.getfield 65, 3) := by decide +kernel
theorem dX9_move_75 : decode cX9_move 75 = .ok (.aload_n 0, 1) := by decide +kernel
theorem dX9_move_76 : decode cX9_move 76 = .ok (.getfield 12, 3) := by decide +kernel
theorem dX9_move_79 : decode cX9_move 79 = .ok (.getfield 100, 3) := by decide +kernel
theorem dX9_move_82 : decode cX9_move 82 = .ok (.aload_n 0, 1) := by decide +kernel
theorem dX9_move_83 : decode cX9_move 83 = .ok (.getfield 19, 3) := by decide +kernel
theorem dX9_move_86 : decode cX9_move 86 = .ok (.invokevirtual 115, 3) := by decide +kernel
theorem dX9_move_89 : decode cX9_move 89 = .ok (.aload_n 0, 1) := by decide +kernel
theorem dX9_move_90 : decode cX9_move 90 = .ok (.getfield 19, 3) := by decide +kernel
theorem dX9_move_93 : decode cX9_move 93 = .ok (.getfield 199, 3) := by decide +kernel
theorem dX9_move_96 : decode cX9_move 96 = .ok (.iload_n 1, 1) := by decide +kernel
theorem dX9_move_97 : decode cX9_move 97 = .ok (.iload 5, 2) := by decide +kernel
theorem dX9_move_99 : decode cX9_move 99 = .ok (.iastore, 1) := by decide +kernel
theorem dX9_move_100 : decode cX9_move 100 = .ok (.iload 5, 2) := by decide +kernel
theorem dX9_move_102 : decode cX9_move 102 = .ok (.ireturn, 1) := by decide +kernel
theorem dX9_size_0 : decode cX9_size 0 = .ok (.iconst 1, 1) := by decide +kernel
theorem dX9_size_1 : decode cX9_size 1 = .ok (.istore_n 1, 1) := by decide +kernel
theorem dX9_size_2 : decode cX9_size 2 = .ok (.iconst 0, 1) := by decide +kernel
theorem dX9_size_3 : decode cX9_size 3 = .ok (.istore_n 2, 1) := by decide +kernel
theorem dX9_size_4 : decode cX9_size 4 = .ok (.iload_n 2, 1) := by decide +kernel
theorem dX9_size_5 : decode cX9_size 5 = .ok (.aload_n 0, 1) := by decide +kernel
theorem dX9_size_6 : decode cX9_size 6 = .ok (.getfield 19, 3) := by decide +kernel
theorem dX9_size_9 : decode cX9_size 9 = .ok (.getfield 190, 3) := by decide +kernel
theorem dX9_size_12 : decode cX9_size 12 = .ok (.if_icmp .ge 35, 3) := by decide +kernel
theorem dX9_size_15 : decode cX9_size 15 = .ok (.iload_n 1, 1) := by decide +kernel
theorem dX9_size_16 : decode cX9_size 16 = .ok (.aload_n 0, 1) := by decide +kernel
theorem dX9_size_17 : decode cX9_size 17 = .ok (.getfield 12, 3) := by decide +kernel
theorem dX9_size_20 : decode cX9_size 20 = .ok (.getfield 140, 3) := by decide +kernel
theorem dX9_size_23 : decode cX9_size 23 = .ok (.aload_n 0, 1) := by decide +kernel
theorem dX9_size_24 : decode cX9_size 24 = .ok (.getfield 19, 3) := by decide +kernel
theorem dX9_size_27 : decode cX9_size 27 = .ok (.getfield 199, 3) := by decide +kernel
theorem dX9_size_30 : decode cX9_size 30 = .ok (.iload_n 2, 1) := by decide +kernel
theorem dX9_size_31 : decode cX9_size 31 = .ok (.iaload, 1) := by decide +kernel
theorem dX9_size_32 : decode cX9_size 32 = .ok (.aaload, 1) := by decide +kernel
theorem dX9_size_33 : decode cX9_size 33 = .ok (.getfield 205, 3) := by decide +kernel
theorem dX9_size_36 : decode cX9_size 36 = .ok (.invokestatic 125, 3) := by decide +kernel
theorem dX9_size_39 : decode cX9_size 39 = .ok (.imul, 1) := by decide +kernel
theorem dX9_size_40 : decode cX9_size 40 = .ok (.istore_n 1, 1) := by decide +kernel
theorem dX9_size_41 : decode cX9_size 41 = .ok (.iinc 2 1, 3) := by decide +kernel
theorem dX9_size_44 : decode cX9_size 44 = .ok (.goto (-40), 3) := by decide +kernel
theorem dX9_size_47 : decode cX9_size 47 = .ok (.iload_n 1, 1) := by decide +kernel
theorem dX9_size_48 : decode cX9_size 48 = .ok (.ireturn, 1) := by decide +kernel
theorem dX9_best_0 : decode cX9_best 0 = .ok (.iload_n 1, 1) := by decide +kernel
theorem dX9_best_1 : decode cX9_best 1 = .ok (.invokestatic 122, 3) := by decide +kernel
theorem dX9_best_4 : decode cX9_best 4 = .ok (.aload_n 0, 1) := by decide +kernel
theorem dX9_best_5 : decode cX9_best 5 = .ok (.invokevirtual 209, 3) := by decide +kernel
theorem dX9_best_8 : decode cX9_best 8 = .ok (.aload_n 0, 1) := by decide +kernel
theorem dX9_best_9 : decode cX9_best 9 = .ok (.getfield 28, 3) := by decide +kernel
theorem dX9_best_12 : decode cX9_best 12 = .ok (.aload_n 0, 1) := by decide +kernel
theorem dX9_best_13 : decode cX9_best 13 = .ok (.getfield 19, 3) := by decide +kernel
theorem dX9_best_16 : decode cX9_best 16 = .ok (.getfield 199, 3) := by decide +kernel
theorem dX9_best_19 : decode cX9_best 19 = .ok (.aload_n 0, 1) := by decide +kernel
theorem dX9_best_20 : decode cX9_best 20 = .ok (.getfield 19, 3) := by decide +kernel
theorem dX9_best_23 : decode cX9_best 23 = .ok (.getfield 190, 3) := by decide +kernel
theorem dX9_best_26 : decode cX9_best 26 = .ok (.invokevirtual 212, 3) := by decide +kernel
theorem dX9_best_29 : decode cX9_best 29 = .ok (.aload_n 0, 1) := by decide +kernel
theorem dX9_best_30 : decode cX9_best 30 = .ok (.getfield 28, 3) := by decide +kernel
theorem dX9_best_33 : decode cX9_best 33 = .ok (.aload_n 0, 1) := by decide +kernel
theorem dX9_best_34 : decode cX9_best 34 = .ok (.getfield 19, 3) := by decide +kernel
theorem dX9_best_37 : decode cX9_best 37 = .ok (.getfield 199, 3) := by decide +kernel
theorem dX9_best_40 : decode cX9_best 40 = .ok (.aload_n 0, 1) := by decide +kernel
theorem dX9_best_41 : decode cX9_best 41 = .ok (.getfield 19, 3) := by decide +kernel
theorem dX9_best_44 : decode cX9_best 44 = .ok (.getfield 190, 3) := by decide +kernel
theorem dX9_best_47 : decode cX9_best 47 = .ok (.iload_n 1, 1) := by decide +kernel
theorem dX9_best_48 : decode cX9_best 48 = .ok (.invokevirtual 216, 3) := by decide +kernel
theorem dX9_best_51 : decode cX9_best 51 = .ok (.ireturn, 1) := by decide +kernel
theorem dX9_advice_0 : decode cX9_advice 0 = .ok (.iload_n 1, 1) := by decide +kernel
theorem dX9_advice_1 : decode cX9_advice 1 = .ok (.invokestatic 122, 3) := by decide +kernel
theorem dX9_advice_4 : decode cX9_advice 4 = .ok (.iload_n 2, 1) := by decide +kernel
theorem dX9_advice_5 : decode cX9_advice 5 = .ok (.invokestatic 220, 3) := by decide +kernel
theorem dX9_advice_8 : decode cX9_advice 8 = .ok (.iload_n 2, 1) := by decide +kernel
theorem dX9_advice_9 : decode cX9_advice 9 = .ok (.iconst 3, 1) := by decide +kernel
theorem dX9_advice_10 : decode cX9_advice 10 = .ok (.if_icmp .ne 28, 3) := by decide +kernel
theorem dX9_advice_13 : decode cX9_advice 13 = .ok (.aload_n 0, 1) := by decide +kernel
theorem dX9_advice_14 : decode cX9_advice 14 = .ok (.invokevirtual 209, 3) := by decide +kernel
theorem dX9_advice_17 : decode cX9_advice 17 = .ok (.aload_n 0, 1) := by decide +kernel
theorem dX9_advice_18 : decode cX9_advice 18 = .ok (.getfield 28, 3) := by decide +kernel
theorem dX9_advice_21 : decode cX9_advice 21 = .ok (.aload_n 0, 1) := by decide +kernel
theorem dX9_advice_22 : decode cX9_advice 22 = .ok (.getfield 19, 3) := by decide +kernel
theorem dX9_advice_25 : decode cX9_advice 25 = .ok (.getfield 199, 3) := by decide +kernel
theorem dX9_advice_28 : decode cX9_advice 28 = .ok (.aload_n 0, 1) := by decide +kernel
theorem dX9_advice_29 : decode cX9_advice 29 = .ok (.getfield 19, 3) := by decide +kernel
theorem dX9_advice_32 : decode cX9_advice 32 = .ok (.getfield 190, 3) := by decide +kernel
theorem dX9_advice_35 : decode cX9_advice 35 = .ok (.invokevirtual 212, 3) := by decide +kernel
theorem dX9_advice_38 : decode cX9_advice 38 = .ok (.aload_n 0, 1) := by decide +kernel
theorem dX9_advice_39 : decode cX9_advice 39 = .ok (.invokevirtual 223, 3) := by decide +kernel
theorem dX9_advice_42 : decode cX9_advice 42 = .ok (.aload_n 0, 1) := by decide +kernel
theorem dX9_advice_43 : decode cX9_advice 43 = .ok (.getfield 37, 3) := by decide +kernel
theorem dX9_advice_46 : decode cX9_advice 46 = .ok (.aload_n 0, 1) := by decide +kernel
theorem dX9_advice_47 : decode cX9_advice 47 = .ok (.getfield 73, 3) := by decide +kernel
theorem dX9_advice_50 : decode cX9_advice 50 = .ok (.aload_n 0, 1) := by decide +kernel
theorem dX9_advice_51 : decode cX9_advice 51 = .ok (.getfield 19, 3) := by decide +kernel
theorem dX9_advice_54 : decode cX9_advice 54 = .ok (.getfield 190, 3) := by decide +kernel
theorem dX9_advice_57 : decode cX9_advice 57 = .ok (.iload_n 1, 1) := by decide +kernel
theorem dX9_advice_58 : decode cX9_advice 58 = .ok (.iload_n 2, 1) := by decide +kernel
theorem dX9_advice_59 : decode cX9_advice 59 = .ok (.invokevirtual 226, 3) := by decide +kernel
theorem dX9_advice_62 : decode cX9_advice 62 = .ok (.ireturn, 1) := by decide +kernel
theorem dX9_play_0 : decode cX9_play 0 = .ok (.iload_n 1, 1) := by decide +kernel
theorem dX9_play_1 : decode cX9_play 1 = .ok (.invokestatic 122, 3) := by decide +kernel
theorem dX9_play_4 : decode cX9_play 4 = .ok (.iload_n 2, 1) := by decide +kernel
theorem dX9_play_5 : decode cX9_play 5 = .ok (.invokestatic 220, 3) := by decide +kernel
theorem dX9_play_8 : decode cX9_play 8 = .ok (.iload_n 3, 1) := by decide +kernel
theorem dX9_play_9 : decode cX9_play 9 = .ok (.invokestatic 220, 3) := by decide +kernel
theorem dX9_play_12 : decode cX9_play 12 = .ok (.iload_n 2, 1) := by decide +kernel
theorem dX9_play_13 : decode cX9_play 13 = .ok (.iconst 3, 1) := by decide +kernel
theorem dX9_play_14 : decode cX9_play 14 = .ok (.if_icmp .eq 8, 3) := by decide +kernel
theorem dX9_play_17 : decode cX9_play 17 = .ok (.iload_n 3, 1) := by decide +kernel
theorem dX9_play_18 : decode cX9_play 18 = .ok (.iconst 3, 1) := by decide +kernel
theorem dX9_play_19 : decode cX9_play 19 = .ok (.if_icmp .ne 28, 3) := by decide +kernel
theorem dX9_play_22 : decode cX9_play 22 = .ok (.aload_n 0, 1) := by decide +kernel
theorem dX9_play_23 : decode cX9_play 23 = .ok (.invokevirtual 209, 3) := by decide +kernel
theorem dX9_play_26 : decode cX9_play 26 = .ok (.aload_n 0, 1) := by decide +kernel
theorem dX9_play_27 : decode cX9_play 27 = .ok (.getfield 28, 3) := by decide +kernel
theorem dX9_play_30 : decode cX9_play 30 = .ok (.aload_n 0, 1) := by decide +kernel
theorem dX9_play_31 : decode cX9_play 31 = .ok (.getfield 19, 3) := by decide +kernel
theorem dX9_play_34 : decode cX9_play 34 = .ok (.getfield 199, 3) := by decide +kernel
theorem dX9_play_37 : decode cX9_play 37 = .ok (.aload_n 0, 1) := by decide +kernel
theorem dX9_play_38 : decode cX9_play 38 = .ok (.getfield 19, 3) := by decide +kernel
theorem dX9_play_41 : decode cX9_play 41 = .ok (.getfield 190, 3) := by decide +kernel
theorem dX9_play_44 : decode cX9_play 44 = .ok (.invokevirtual 212, 3) := by decide +kernel
theorem dX9_play_47 : decode cX9_play 47 = .ok (.aload_n 0, 1) := by decide +kernel
theorem dX9_play_48 : decode cX9_play 48 = .ok (.invokevirtual 223, 3) := by decide +kernel
theorem dX9_play_51 : decode cX9_play 51 = .ok (.aload_n 0, 1) := by decide +kernel
theorem dX9_play_52 : decode cX9_play 52 = .ok (.iload_n 1, 1) := by decide +kernel
theorem dX9_play_53 : decode cX9_play 53 = .ok (.iload_n 2, 1) := by decide +kernel
theorem dX9_play_54 : decode cX9_play 54 = .ok (.iload_n 3, 1) := by decide +kernel
theorem dX9_play_55 : decode cX9_play 55 = .ok (.invokevirtual 230, 3) := by decide +kernel
theorem dX9_play_58 : decode cX9_play 58 = .ok (.aload_n 0, 1) := by decide +kernel
theorem dX9_play_59 : decode cX9_play 59 = .ok (.getfield 12, 3) := by decide +kernel
theorem dX9_play_62 : decode cX9_play 62 = .ok (.aload_n 0, 1) := by decide +kernel
theorem dX9_play_63 : decode cX9_play 63 = .ok (.getfield 73, 3) := by decide +kernel
theorem dX9_play_66 : decode cX9_play 66 = .ok (.aload_n 0, 1) := by decide +kernel
theorem dX9_play_67 : decode cX9_play 67 = .ok (.getfield 19, 3) := by decide +kernel
theorem dX9_play_70 : decode cX9_play 70 = .ok (.getfield 190, 3) := by decide +kernel
theorem dX9_play_73 : decode cX9_play 73 = .ok (.invokevirtual 234, 3) := by decide +kernel
theorem dX9_play_76 : decode cX9_play 76 = .ok (.ireturn, 1) := by decide +kernel
theorem dX9_played_0 : decode cX9_played 0 = .ok (.iload_n 1, 1) := by decide +kernel
theorem dX9_played_1 : decode cX9_played 1 = .ok (.ifCond .lt 20, 3) := by decide +kernel
theorem dX9_played_4 : decode cX9_played 4 = .ok (.iload_n 1, 1) := by decide +kernel
theorem dX9_played_5 : decode cX9_played 5 = .ok (.aload_n 0, 1) := by decide +kernel
theorem dX9_played_6 : decode cX9_played 6 = .ok (.getfield 80, 3) := by decide +kernel
theorem dX9_played_9 : decode cX9_played 9 = .ok (.if_icmp .ge 12, 3) := by decide +kernel
theorem dX9_played_12 : decode cX9_played 12 = .ok (.aload_n 0, 1) := by decide +kernel
theorem dX9_played_13 : decode cX9_played 13 = .ok (.getfield 77, 3) := by decide +kernel
theorem dX9_played_16 : decode cX9_played 16 = .ok (.iload_n 1, 1) := by decide +kernel
theorem dX9_played_17 : decode cX9_played 17 = .ok (.iaload, 1) := by decide +kernel
theorem dX9_played_18 : decode cX9_played 18 = .ok (.goto 4, 3) := by decide +kernel
theorem dX9_played_21 : decode cX9_played 21 = .ok (.iconst (-1), 1) := by decide +kernel
theorem dX9_played_22 : decode cX9_played 22 = .ok (.ireturn, 1) := by decide +kernel
theorem dX9_type_0 : decode cX9_type 0 = .ok (.iload_n 1, 1) := by decide +kernel
theorem dX9_type_1 : decode cX9_type 1 = .ok (.bipush 32, 2) := by decide +kernel
theorem dX9_type_3 : decode cX9_type 3 = .ok (.if_icmp .lt 9, 3) := by decide +kernel
theorem dX9_type_6 : decode cX9_type 6 = .ok (.iload_n 1, 1) := by decide +kernel
theorem dX9_type_7 : decode cX9_type 7 = .ok (.bipush 126, 2) := by decide +kernel
theorem dX9_type_9 : decode cX9_type 9 = .ok (.if_icmp .le 13, 3) := by decide +kernel
theorem dX9_type_12 : decode cX9_type 12 = .ok (.new 103, 3) := by decide +kernel
theorem dX9_type_15 : decode cX9_type 15 = .ok (.dup, 1) := by decide +kernel
theorem dX9_type_16 : decode cX9_type 16 = .ok (.ldc 238, 2) := by decide +kernel
theorem dX9_type_18 : decode cX9_type 18 = .ok (.invokespecial 107, 3) := by decide +kernel
theorem dX9_type_21 : decode cX9_type 21 = .ok (.athrow, 1) := by decide +kernel
theorem dX9_type_22 : decode cX9_type 22 = .ok (.aload_n 0, 1) := by decide +kernel
theorem dX9_type_23 : decode cX9_type 23 = .ok (.getfield 44, 3) := by decide +kernel
theorem dX9_type_26 : decode cX9_type 26 = .ok (.getfield 240, 3) := by decide +kernel
theorem dX9_type_29 : decode cX9_type 29 = .ok (.bipush 80, 2) := by decide +kernel
theorem dX9_type_31 : decode cX9_type 31 = .ok (.if_icmp .lt 13, 3) := by decide +kernel
theorem dX9_type_34 : decode cX9_type 34 = .ok (.new 110, 3) := by decide +kernel
theorem dX9_type_37 : decode cX9_type 37 = .ok (.dup, 1) := by decide +kernel
theorem dX9_type_38 : decode cX9_type 38 = .ok (.ldc 243, 2) := by decide +kernel
theorem dX9_type_40 : decode cX9_type 40 = .ok (.invokespecial 114, 3) := by decide +kernel
theorem dX9_type_43 : decode cX9_type 43 = .ok (.athrow, 1) := by decide +kernel
theorem dX9_type_44 : decode cX9_type 44 = .ok (.aload_n 0, 1) := by decide +kernel
theorem dX9_type_45 : decode cX9_type 45 = .ok (.getfield 44, 3) := by decide +kernel
theorem dX9_type_48 : decode cX9_type 48 = .ok (.iload_n 1, 1) := by decide +kernel
theorem dX9_type_49 : decode cX9_type 49 = .ok (.i2c, 1) := by decide +kernel
theorem dX9_type_50 : decode cX9_type 50 = .ok (.invokevirtual 245, 3) := by decide +kernel
theorem dX9_type_53 : decode cX9_type 53 = .ok (.aload_n 0, 1) := by decide +kernel
theorem dX9_type_54 : decode cX9_type 54 = .ok (.getfield 44, 3) := by decide +kernel
theorem dX9_type_57 : decode cX9_type 57 = .ok (.getfield 240, 3) := by decide +kernel
theorem dX9_type_60 : decode cX9_type 60 = .ok (.ireturn, 1) := by decide +kernel
theorem dX9_clearText_0 : decode cX9_clearText 0 = .ok (.aload_n 0, 1) := by decide +kernel
theorem dX9_clearText_1 : decode cX9_clearText 1 = .ok (.getfield 44, 3) := by decide +kernel
theorem dX9_clearText_4 : decode cX9_clearText 4 = .ok (.getfield 240, 3) := by decide +kernel
theorem dX9_clearText_7 : decode cX9_clearText 7 = .ok (.istore_n 1, 1) := by decide +kernel
theorem dX9_clearText_8 : decode cX9_clearText 8 = .ok (.aload_n 0, 1) := by decide +kernel
theorem dX9_clearText_9 : decode cX9_clearText 9 = .ok (.getfield 44, 3) := by decide +kernel
theorem dX9_clearText_12 : decode cX9_clearText 12 = .ok (.iconst 0, 1) := by decide +kernel
theorem dX9_clearText_13 : decode cX9_clearText 13 = .ok (.putfield 240, 3) := by decide +kernel
theorem dX9_clearText_16 : decode cX9_clearText 16 = .ok (.iload_n 1, 1) := by decide +kernel
theorem dX9_clearText_17 : decode cX9_clearText 17 = .ok (.ireturn, 1) := by decide +kernel
theorem dX9_fault_0 : decode cX9_fault 0 = .ok (.aload_n 0, 1) := by decide +kernel
theorem dX9_fault_1 : decode cX9_fault 1 = .ok (.getfield 44, 3) := by decide +kernel
theorem dX9_fault_4 : decode cX9_fault 4 = .ok (.invokevirtual 248, 3) := by decide +kernel
theorem dX9_fault_7 : decode cX9_fault 7 = .ok (.ireturn, 1) := by decide +kernel
theorem dX9_read_0 : decode cX9_read 0 = .ok (.aload_n 0, 1) := by decide +kernel
theorem dX9_read_1 : decode cX9_read 1 = .ok (.getfield 44, 3) := by decide +kernel
theorem dX9_read_4 : decode cX9_read 4 = .ok (.invokevirtual 248, 3) := by decide +kernel
theorem dX9_read_7 : decode cX9_read 7 = .ok (.iconst (-1), 1) := by decide +kernel
theorem dX9_read_8 : decode cX9_read 8 = .ok (.if_icmp .eq 13, 3) := by decide +kernel
theorem dX9_read_11 : decode cX9_read 11 = .ok (.new 103, 3) := by decide +kernel
theorem dX9_read_14 : decode cX9_read 14 = .ok (.dup, 1) := by decide +kernel
theorem dX9_read_15 : decode cX9_read 15 = .ok (.ldc 252, 2) := by decide +kernel
theorem dX9_read_17 : decode cX9_read 17 = .ok (.invokespecial 107, 3) := by decide +kernel
theorem dX9_read_20 : decode cX9_read 20 = .ok (.athrow, 1) := by decide +kernel
theorem dX9_read_21 : decode cX9_read 21 = .ok (.aload_n 0, 1) := by decide +kernel
theorem dX9_read_22 : decode cX9_read 22 = .ok (.getfield 12, 3) := by decide +kernel
theorem dX9_read_25 : decode cX9_read 25 = .ok (.getfield 100, 3) := by decide +kernel
theorem dX9_read_28 : decode cX9_read 28 = .ok (.istore_n 1, 1) := by decide +kernel
theorem dX9_read_29 : decode cX9_read 29 = .ok (.aload_n 0, 1) := by decide +kernel
theorem dX9_read_30 : decode cX9_read 30 = .ok (.getfield 51, 3) := by decide +kernel
theorem dX9_read_33 : decode cX9_read 33 = .ok (.aload_n 0, 1) := by decide +kernel
theorem dX9_read_34 : decode cX9_read 34 = .ok (.getfield 44, 3) := by decide +kernel
theorem dX9_read_37 : decode cX9_read 37 = .ok (.getfield 254, 3) := by decide +kernel
theorem dX9_read_40 : decode cX9_read 40 = .ok (.aload_n 0, 1) := by decide +kernel
theorem dX9_read_41 : decode cX9_read 41 = .ok (.getfield 44, 3) := by decide +kernel
theorem dX9_read_44 : decode cX9_read 44 = .ok (.getfield 257, 3) := by decide +kernel
theorem dX9_read_47 : decode cX9_read 47 = .ok (.invokevirtual 260, 3) := by decide +kernel
theorem dX9_read_50 : decode cX9_read 50 = .ok (.istore_n 2, 1) := by decide +kernel
theorem dX9_read_51 : decode cX9_read 51 = .ok (.iload_n 2, 1) := by decide +kernel
theorem dX9_read_52 : decode cX9_read 52 = .ok (.iconst (-1), 1) := by decide +kernel
theorem dX9_read_53 : decode cX9_read 53 = .ok (.if_icmp .ne 22, 3) := by decide +kernel
theorem dX9_read_56 : decode cX9_read 56 = .ok (.aload_n 0, 1) := by decide +kernel
theorem dX9_read_57 : decode cX9_read 57 = .ok (.getfield 12, 3) := by decide +kernel
theorem dX9_read_60 : decode cX9_read 60 = .ok (.iload_n 1, 1) := by decide +kernel
theorem dX9_read_61 : decode cX9_read 61 = .ok (.putfield 100, 3) := by decide +kernel
theorem dX9_read_64 : decode cX9_read 64 = .ok (.new 110, 3) := by decide +kernel
theorem dX9_read_67 : decode cX9_read 67 = .ok (.dup, 1) := by decide +kernel
theorem dX9_read_68 : decode cX9_read 68 = .ok (.ldc_w 263, 3) := by decide +kernel
theorem dX9_read_71 : decode cX9_read 71 = .ok (.invokespecial 114, 3) := by decide +kernel
theorem dX9_read_74 : decode cX9_read 74 = .ok (.athrow, 1) := by decide +kernel
theorem dX9_read_75 : decode cX9_read 75 = .ok (.aload_n 0, 1) := by decide +kernel
theorem dX9_read_76 : decode cX9_read 76 = .ok (.getfield 65, 3) := by decide +kernel
theorem dX9_read_79 : decode cX9_read 79 = .ok (.iload_n 1, 1) := by decide +kernel
theorem dX9_read_80 : decode cX9_read 80 = .ok (.aload_n 0, 1) := by decide +kernel
theorem dX9_read_81 : decode cX9_read 81 = .ok (.getfield 19, 3) := by decide +kernel
theorem dX9_read_84 : decode cX9_read 84 = .ok (.invokevirtual 115, 3) := by decide +kernel
theorem dX9_read_87 : decode cX9_read 87 = .ok (.iload_n 2, 1) := by decide +kernel
theorem dX9_read_88 : decode cX9_read 88 = .ok (.ireturn, 1) := by decide +kernel
theorem dX9_write_0 : decode cX9_write 0 = .ok (.aload_n 0, 1) := by decide +kernel
theorem dX9_write_1 : decode cX9_write 1 = .ok (.iload_n 1, 1) := by decide +kernel
theorem dX9_write_2 : decode cX9_write 2 = .ok (.invokevirtual 119, 3) := by decide +kernel
theorem dX9_write_5 : decode cX9_write 5 = .ok (.aload_n 0, 1) := by decide +kernel
theorem dX9_write_6 : decode cX9_write 6 = .ok (.getfield 12, 3) := by decide +kernel
theorem dX9_write_9 : decode cX9_write 9 = .ok (.getfield 140, 3) := by decide +kernel
theorem dX9_write_12 : decode cX9_write 12 = .ok (.iload_n 1, 1) := by decide +kernel
theorem dX9_write_13 : decode cX9_write 13 = .ok (.aaload, 1) := by decide +kernel
theorem dX9_write_14 : decode cX9_write 14 = .ok (.getfield 265, 3) := by decide +kernel
theorem dX9_write_17 : decode cX9_write 17 = .ok (.sipush 400, 3) := by decide +kernel
theorem dX9_write_20 : decode cX9_write 20 = .ok (.if_icmp .le 14, 3) := by decide +kernel
theorem dX9_write_23 : decode cX9_write 23 = .ok (.new 110, 3) := by decide +kernel
theorem dX9_write_26 : decode cX9_write 26 = .ok (.dup, 1) := by decide +kernel
theorem dX9_write_27 : decode cX9_write 27 = .ok (.ldc_w 266, 3) := by decide +kernel
theorem dX9_write_30 : decode cX9_write 30 = .ok (.invokespecial 114, 3) := by decide +kernel
theorem dX9_write_33 : decode cX9_write 33 = .ok (.athrow, 1) := by decide +kernel
theorem dX9_write_34 : decode cX9_write 34 = .ok (.aload_n 0, 1) := by decide +kernel
theorem dX9_write_35 : decode cX9_write 35 = .ok (.getfield 58, 3) := by decide +kernel
theorem dX9_write_38 : decode cX9_write 38 = .ok (.iload_n 1, 1) := by decide +kernel
theorem dX9_write_39 : decode cX9_write 39 = .ok (.invokevirtual 268, 3) := by decide +kernel
theorem dX9_write_42 : decode cX9_write 42 = .ok (.aload_n 0, 1) := by decide +kernel
theorem dX9_write_43 : decode cX9_write 43 = .ok (.getfield 58, 3) := by decide +kernel
theorem dX9_write_46 : decode cX9_write 46 = .ok (.getfield 271, 3) := by decide +kernel
theorem dX9_write_49 : decode cX9_write 49 = .ok (.ireturn, 1) := by decide +kernel
theorem dX9_written_0 : decode cX9_written 0 = .ok (.iload_n 1, 1) := by decide +kernel
theorem dX9_written_1 : decode cX9_written 1 = .ok (.ifCond .lt 26, 3) := by decide +kernel
theorem dX9_written_4 : decode cX9_written 4 = .ok (.iload_n 1, 1) := by decide +kernel
theorem dX9_written_5 : decode cX9_written 5 = .ok (.aload_n 0, 1) := by decide +kernel
theorem dX9_written_6 : decode cX9_written 6 = .ok (.getfield 58, 3) := by decide +kernel
theorem dX9_written_9 : decode cX9_written 9 = .ok (.getfield 271, 3) := by decide +kernel
theorem dX9_written_12 : decode cX9_written 12 = .ok (.if_icmp .ge 15, 3) := by decide +kernel
theorem dX9_written_15 : decode cX9_written 15 = .ok (.aload_n 0, 1) := by decide +kernel
theorem dX9_written_16 : decode cX9_written 16 = .ok (.getfield 58, 3) := by decide +kernel
theorem dX9_written_19 : decode cX9_written 19 = .ok (.getfield 272, 3) := by decide +kernel
theorem dX9_written_22 : decode cX9_written 22 = .ok (.iload_n 1, 1) := by decide +kernel
theorem dX9_written_23 : decode cX9_written 23 = .ok (.caload, 1) := by decide +kernel
theorem dX9_written_24 : decode cX9_written 24 = .ok (.goto 4, 3) := by decide +kernel
theorem dX9_written_27 : decode cX9_written 27 = .ok (.iconst (-1), 1) := by decide +kernel
theorem dX9_written_28 : decode cX9_written 28 = .ok (.ireturn, 1) := by decide +kernel
theorem dX9_undo_0 : decode cX9_undo 0 = .ok (.aload_n 0, 1) := by decide +kernel
theorem dX9_undo_1 : decode cX9_undo 1 = .ok (.getfield 65, 3) := by decide +kernel
theorem dX9_undo_4 : decode cX9_undo 4 = .ok (.getfield 276, 3) := by decide +kernel
theorem dX9_undo_7 : decode cX9_undo 7 = .ok (.ifCond .ne 14, 3) := by decide +kernel
theorem dX9_undo_10 : decode cX9_undo 10 = .ok (.new 110, 3) := by decide +kernel
theorem dX9_undo_13 : decode cX9_undo 13 = .ok (.dup, 1) := by decide +kernel
theorem dX9_undo_14 : decode cX9_undo 14 = .ok (.ldc_w 277, 3) := by decide +kernel
theorem dX9_undo_17 : decode cX9_undo 17 = .ok (.invokespecial 114, 3) := by decide +kernel
theorem dX9_undo_20 : decode cX9_undo 20 = .ok (.athrow, 1) := by decide +kernel
theorem dX9_undo_21 : decode cX9_undo 21 = .ok (.aload_n 0, 1) := by decide +kernel
theorem dX9_undo_22 : decode cX9_undo 22 = .ok (.getfield 12, 3) := by decide +kernel
theorem dX9_undo_25 : decode cX9_undo 25 = .ok (.aload_n 0, 1) := by decide +kernel
theorem dX9_undo_26 : decode cX9_undo 26 = .ok (.getfield 65, 3) := by decide +kernel
theorem dX9_undo_29 : decode cX9_undo 29 = .ok (.aload_n 0, 1) := by decide +kernel
theorem dX9_undo_30 : decode cX9_undo 30 = .ok (.getfield 19, 3) := by decide +kernel
theorem dX9_undo_33 : decode cX9_undo 33 = .ok (.invokevirtual 279, 3) := by decide +kernel
theorem dX9_undo_36 : decode cX9_undo 36 = .ok (.putfield 100, 3) := by decide +kernel
theorem dX9_undo_39 : decode cX9_undo 39 = .ok (.aload_n 0, 1) := by decide +kernel
theorem dX9_undo_40 : decode cX9_undo 40 = .ok (.getfield 12, 3) := by decide +kernel
theorem dX9_undo_43 : decode cX9_undo 43 = .ok (.getfield 100, 3) := by decide +kernel
theorem dX9_undo_46 : decode cX9_undo 46 = .ok (.invokestatic 88, 3) := by decide +kernel
theorem dX9_undo_49 : decode cX9_undo 49 = .ok (.lconst 1, 1) := by decide +kernel
theorem dX9_undo_50 : decode cX9_undo 50 = .ok (.lsub, 1) := by decide +kernel
theorem dX9_undo_51 : decode cX9_undo 51 = .ok (.lstore_n 1, 1) := by decide +kernel
theorem dX9_undo_52 : decode cX9_undo 52 = .ok (.aload_n 0, 1) := by decide +kernel
theorem dX9_undo_53 : decode cX9_undo 53 = .ok (.getfield 69, 3) := by decide +kernel
theorem dX9_undo_56 : decode cX9_undo 56 = .ok (.iconst 0, 1) := by decide +kernel
theorem dX9_undo_57 : decode cX9_undo 57 = .ok (.dup2, 1) := by decide +kernel
theorem dX9_undo_58 : decode cX9_undo 58 = .ok (.laload, 1) := by decide +kernel
theorem dX9_undo_59 : decode cX9_undo 59 = .ok (.lload_n 1, 1) := by decide +kernel
theorem dX9_undo_60 : decode cX9_undo 60 = .ok (.land, 1) := by decide +kernel
theorem dX9_undo_61 : decode cX9_undo 61 = .ok (.lastore, 1) := by decide +kernel
theorem dX9_undo_62 : decode cX9_undo 62 = .ok (.aload_n 0, 1) := by decide +kernel
theorem dX9_undo_63 : decode cX9_undo 63 = .ok (.getfield 69, 3) := by decide +kernel
theorem dX9_undo_66 : decode cX9_undo 66 = .ok (.iconst 1, 1) := by decide +kernel
theorem dX9_undo_67 : decode cX9_undo 67 = .ok (.dup2, 1) := by decide +kernel
theorem dX9_undo_68 : decode cX9_undo 68 = .ok (.laload, 1) := by decide +kernel
theorem dX9_undo_69 : decode cX9_undo 69 = .ok (.lload_n 1, 1) := by decide +kernel
theorem dX9_undo_70 : decode cX9_undo 70 = .ok (.land, 1) := by decide +kernel
theorem dX9_undo_71 : decode cX9_undo 71 = .ok (.lastore, 1) := by decide +kernel
theorem dX9_undo_72 : decode cX9_undo 72 = .ok (.aload_n 0, 1) := by decide +kernel
theorem dX9_undo_73 : decode cX9_undo 73 = .ok (.getfield 65, 3) := by decide +kernel
theorem dX9_undo_76 : decode cX9_undo 76 = .ok (.getfield 276, 3) := by decide +kernel
theorem dX9_undo_79 : decode cX9_undo 79 = .ok (.ireturn, 1) := by decide +kernel
theorem dX9_checksum_0 : decode cX9_checksum 0 = .ok (.ldc2_w 283, 3) := by decide +kernel
theorem dX9_checksum_3 : decode cX9_checksum 3 = .ok (.aload_n 0, 1) := by decide +kernel
theorem dX9_checksum_4 : decode cX9_checksum 4 = .ok (.getfield 12, 3) := by decide +kernel
theorem dX9_checksum_7 : decode cX9_checksum 7 = .ok (.getfield 100, 3) := by decide +kernel
theorem dX9_checksum_10 : decode cX9_checksum 10 = .ok (.invokestatic 285, 3) := by decide +kernel
theorem dX9_checksum_13 : decode cX9_checksum 13 = .ok (.lstore_n 1, 1) := by decide +kernel
theorem dX9_checksum_14 : decode cX9_checksum 14 = .ok (.iconst 0, 1) := by decide +kernel
theorem dX9_checksum_15 : decode cX9_checksum 15 = .ok (.istore_n 3, 1) := by decide +kernel
theorem dX9_checksum_16 : decode cX9_checksum 16 = .ok (.iload_n 3, 1) := by decide +kernel
theorem dX9_checksum_17 : decode cX9_checksum 17 = .ok (.aload_n 0, 1) := by decide +kernel
theorem dX9_checksum_18 : decode cX9_checksum 18 = .ok (.getfield 12, 3) := by decide +kernel
theorem dX9_checksum_21 : decode cX9_checksum 21 = .ok (.getfield 100, 3) := by decide +kernel
theorem dX9_checksum_24 : decode cX9_checksum 24 = .ok (.if_icmp .ge 23, 3) := by decide +kernel
theorem dX9_checksum_27 : decode cX9_checksum 27 = .ok (.lload_n 1, 1) := by decide +kernel
theorem dX9_checksum_28 : decode cX9_checksum 28 = .ok (.aload_n 0, 1) := by decide +kernel
theorem dX9_checksum_29 : decode cX9_checksum 29 = .ok (.getfield 12, 3) := by decide +kernel
theorem dX9_checksum_32 : decode cX9_checksum 32 = .ok (.getfield 140, 3) := by decide +kernel
theorem dX9_checksum_35 : decode cX9_checksum 35 = .ok (.iload_n 3, 1) := by decide +kernel
theorem dX9_checksum_36 : decode cX9_checksum 36 = .ok (.aaload, 1) := by decide +kernel
theorem dX9_checksum_37 : decode cX9_checksum 37 = .ok (.invokestatic 289, 3) := by decide +kernel
theorem dX9_checksum_40 : decode cX9_checksum 40 = .ok (.lstore_n 1, 1) := by decide +kernel
theorem dX9_checksum_41 : decode cX9_checksum 41 = .ok (.iinc 3 1, 3) := by decide +kernel
theorem dX9_checksum_44 : decode cX9_checksum 44 = .ok (.goto (-28), 3) := by decide +kernel
theorem dX9_checksum_47 : decode cX9_checksum 47 = .ok (.lload_n 1, 1) := by decide +kernel
theorem dX9_checksum_48 : decode cX9_checksum 48 = .ok (.aload_n 0, 1) := by decide +kernel
theorem dX9_checksum_49 : decode cX9_checksum 49 = .ok (.getfield 19, 3) := by decide +kernel
theorem dX9_checksum_52 : decode cX9_checksum 52 = .ok (.getfield 190, 3) := by decide +kernel
theorem dX9_checksum_55 : decode cX9_checksum 55 = .ok (.invokestatic 285, 3) := by decide +kernel
theorem dX9_checksum_58 : decode cX9_checksum 58 = .ok (.lstore_n 1, 1) := by decide +kernel
theorem dX9_checksum_59 : decode cX9_checksum 59 = .ok (.iconst 0, 1) := by decide +kernel
theorem dX9_checksum_60 : decode cX9_checksum 60 = .ok (.istore_n 3, 1) := by decide +kernel
theorem dX9_checksum_61 : decode cX9_checksum 61 = .ok (.iload_n 3, 1) := by decide +kernel
theorem dX9_checksum_62 : decode cX9_checksum 62 = .ok (.aload_n 0, 1) := by decide +kernel
theorem dX9_checksum_63 : decode cX9_checksum 63 = .ok (.getfield 19, 3) := by decide +kernel
theorem dX9_checksum_66 : decode cX9_checksum 66 = .ok (.getfield 190, 3) := by decide +kernel
theorem dX9_checksum_69 : decode cX9_checksum 69 = .ok (.if_icmp .ge 23, 3) := by decide +kernel
theorem dX9_checksum_72 : decode cX9_checksum 72 = .ok (.lload_n 1, 1) := by decide +kernel
theorem dX9_checksum_73 : decode cX9_checksum 73 = .ok (.aload_n 0, 1) := by decide +kernel
theorem dX9_checksum_74 : decode cX9_checksum 74 = .ok (.getfield 19, 3) := by decide +kernel
theorem dX9_checksum_77 : decode cX9_checksum 77 = .ok (.getfield 199, 3) := by decide +kernel
theorem dX9_checksum_80 : decode cX9_checksum 80 = .ok (.iload_n 3, 1) := by decide +kernel
theorem dX9_checksum_81 : decode cX9_checksum 81 = .ok (.iaload, 1) := by decide +kernel
theorem dX9_checksum_82 : decode cX9_checksum 82 = .ok (.invokestatic 285, 3) := by decide +kernel
theorem dX9_checksum_85 : decode cX9_checksum 85 = .ok (.lstore_n 1, 1) := by decide +kernel
theorem dX9_checksum_86 : decode cX9_checksum 86 = .ok (.iinc 3 1, 3) := by decide +kernel
theorem dX9_checksum_89 : decode cX9_checksum 89 = .ok (.goto (-28), 3) := by decide +kernel
theorem dX9_checksum_92 : decode cX9_checksum 92 = .ok (.lload_n 1, 1) := by decide +kernel
theorem dX9_checksum_93 : decode cX9_checksum 93 = .ok (.aload_n 0, 1) := by decide +kernel
theorem dX9_checksum_94 : decode cX9_checksum 94 = .ok (.getfield 44, 3) := by decide +kernel
theorem dX9_checksum_97 : decode cX9_checksum 97 = .ok (.getfield 240, 3) := by decide +kernel
theorem dX9_checksum_100 : decode cX9_checksum 100 = .ok (.invokestatic 285, 3) := by decide +kernel
theorem dX9_checksum_103 : decode cX9_checksum 103 = .ok (.lstore_n 1, 1) := by decide +kernel
theorem dX9_checksum_104 : decode cX9_checksum 104 = .ok (.lload_n 1, 1) := by decide +kernel
theorem dX9_checksum_105 : decode cX9_checksum 105 = .ok (.aload_n 0, 1) := by decide +kernel
theorem dX9_checksum_106 : decode cX9_checksum 106 = .ok (.getfield 69, 3) := by decide +kernel
theorem dX9_checksum_109 : decode cX9_checksum 109 = .ok (.iconst 0, 1) := by decide +kernel
theorem dX9_checksum_110 : decode cX9_checksum 110 = .ok (.laload, 1) := by decide +kernel
theorem dX9_checksum_111 : decode cX9_checksum 111 = .ok (.invokestatic 125, 3) := by decide +kernel
theorem dX9_checksum_114 : decode cX9_checksum 114 = .ok (.invokestatic 285, 3) := by decide +kernel
theorem dX9_checksum_117 : decode cX9_checksum 117 = .ok (.lstore_n 1, 1) := by decide +kernel
theorem dX9_checksum_118 : decode cX9_checksum 118 = .ok (.lload_n 1, 1) := by decide +kernel
theorem dX9_checksum_119 : decode cX9_checksum 119 = .ok (.aload_n 0, 1) := by decide +kernel
theorem dX9_checksum_120 : decode cX9_checksum 120 = .ok (.getfield 69, 3) := by decide +kernel
theorem dX9_checksum_123 : decode cX9_checksum 123 = .ok (.iconst 1, 1) := by decide +kernel
theorem dX9_checksum_124 : decode cX9_checksum 124 = .ok (.laload, 1) := by decide +kernel
theorem dX9_checksum_125 : decode cX9_checksum 125 = .ok (.invokestatic 125, 3) := by decide +kernel
theorem dX9_checksum_128 : decode cX9_checksum 128 = .ok (.invokestatic 285, 3) := by decide +kernel
theorem dX9_checksum_131 : decode cX9_checksum 131 = .ok (.lstore_n 1, 1) := by decide +kernel
theorem dX9_checksum_132 : decode cX9_checksum 132 = .ok (.lload_n 1, 1) := by decide +kernel
theorem dX9_checksum_133 : decode cX9_checksum 133 = .ok (.aload_n 0, 1) := by decide +kernel
theorem dX9_checksum_134 : decode cX9_checksum 134 = .ok (.getfield 65, 3) := by decide +kernel
theorem dX9_checksum_137 : decode cX9_checksum 137 = .ok (.getfield 276, 3) := by decide +kernel
theorem dX9_checksum_140 : decode cX9_checksum 140 = .ok (.invokestatic 285, 3) := by decide +kernel
theorem dX9_checksum_143 : decode cX9_checksum 143 = .ok (.lreturn, 1) := by decide +kernel
theorem dX9_mix_0 : decode cX9_mix 0 = .ok (.ldc2_w 293, 3) := by decide +kernel
theorem dX9_mix_3 : decode cX9_mix 3 = .ok (.lload_n 0, 1) := by decide +kernel
theorem dX9_mix_4 : decode cX9_mix 4 = .ok (.lmul, 1) := by decide +kernel
theorem dX9_mix_5 : decode cX9_mix 5 = .ok (.iload_n 2, 1) := by decide +kernel
theorem dX9_mix_6 : decode cX9_mix 6 = .ok (.i2l, 1) := by decide +kernel
theorem dX9_mix_7 : decode cX9_mix 7 = .ok (.ladd, 1) := by decide +kernel
theorem dX9_mix_8 : decode cX9_mix 8 = .ok (.lreturn, 1) := by decide +kernel
theorem dX9_mixGame_0 : decode cX9_mixGame 0 = .ok (.lload_n 0, 1) := by decide +kernel
theorem dX9_mixGame_1 : decode cX9_mixGame 1 = .ok (.aload_n 2, 1) := by decide +kernel
theorem dX9_mixGame_2 : decode cX9_mixGame 2 = .ok (.getfield 153, 3) := by decide +kernel
theorem dX9_mixGame_5 : decode cX9_mixGame 5 = .ok (.invokestatic 285, 3) := by decide +kernel
theorem dX9_mixGame_8 : decode cX9_mixGame 8 = .ok (.lstore_n 3, 1) := by decide +kernel
theorem dX9_mixGame_9 : decode cX9_mixGame 9 = .ok (.lload_n 3, 1) := by decide +kernel
theorem dX9_mixGame_10 : decode cX9_mixGame 10 = .ok (.aload_n 2, 1) := by decide +kernel
theorem dX9_mixGame_11 : decode cX9_mixGame 11 = .ok (.getfield 144, 3) := by decide +kernel
theorem dX9_mixGame_14 : decode cX9_mixGame 14 = .ok (.iconst 0, 1) := by decide +kernel
theorem dX9_mixGame_15 : decode cX9_mixGame 15 = .ok (.iaload, 1) := by decide +kernel
theorem dX9_mixGame_16 : decode cX9_mixGame 16 = .ok (.invokestatic 285, 3) := by decide +kernel
theorem dX9_mixGame_19 : decode cX9_mixGame 19 = .ok (.lstore_n 3, 1) := by decide +kernel
theorem dX9_mixGame_20 : decode cX9_mixGame 20 = .ok (.lload_n 3, 1) := by decide +kernel
theorem dX9_mixGame_21 : decode cX9_mixGame 21 = .ok (.aload_n 2, 1) := by decide +kernel
theorem dX9_mixGame_22 : decode cX9_mixGame 22 = .ok (.getfield 144, 3) := by decide +kernel
theorem dX9_mixGame_25 : decode cX9_mixGame 25 = .ok (.iconst 1, 1) := by decide +kernel
theorem dX9_mixGame_26 : decode cX9_mixGame 26 = .ok (.iaload, 1) := by decide +kernel
theorem dX9_mixGame_27 : decode cX9_mixGame 27 = .ok (.invokestatic 285, 3) := by decide +kernel
theorem dX9_mixGame_30 : decode cX9_mixGame 30 = .ok (.lstore_n 3, 1) := by decide +kernel
theorem dX9_mixGame_31 : decode cX9_mixGame 31 = .ok (.iconst 0, 1) := by decide +kernel
theorem dX9_mixGame_32 : decode cX9_mixGame 32 = .ok (.istore 5, 2) := by decide +kernel
theorem dX9_mixGame_34 : decode cX9_mixGame 34 = .ok (.iload 5, 2) := by decide +kernel
theorem dX9_mixGame_36 : decode cX9_mixGame 36 = .ok (.iconst 1, 1) := by decide +kernel
theorem dX9_mixGame_37 : decode cX9_mixGame 37 = .ok (.if_icmp .gt 43, 3) := by decide +kernel
theorem dX9_mixGame_40 : decode cX9_mixGame 40 = .ok (.iconst 0, 1) := by decide +kernel
theorem dX9_mixGame_41 : decode cX9_mixGame 41 = .ok (.istore 6, 2) := by decide +kernel
theorem dX9_mixGame_43 : decode cX9_mixGame 43 = .ok (.iload 6, 2) := by decide +kernel
theorem dX9_mixGame_45 : decode cX9_mixGame 45 = .ok (.aload_n 2, 1) := by decide +kernel
theorem dX9_mixGame_46 : decode cX9_mixGame 46 = .ok (.getfield 144, 3) := by decide +kernel
theorem dX9_mixGame_49 : decode cX9_mixGame 49 = .ok (.iload 5, 2) := by decide +kernel
theorem dX9_mixGame_51 : decode cX9_mixGame 51 = .ok (.iaload, 1) := by decide +kernel
theorem dX9_mixGame_52 : decode cX9_mixGame 52 = .ok (.if_icmp .ge 22, 3) := by decide +kernel
theorem dX9_mixGame_55 : decode cX9_mixGame 55 = .ok (.lload_n 3, 1) := by decide +kernel
theorem dX9_mixGame_56 : decode cX9_mixGame 56 = .ok (.aload_n 2, 1) := by decide +kernel
theorem dX9_mixGame_57 : decode cX9_mixGame 57 = .ok (.iload 5, 2) := by decide +kernel
theorem dX9_mixGame_59 : decode cX9_mixGame 59 = .ok (.iload 6, 2) := by decide +kernel
theorem dX9_mixGame_61 : decode cX9_mixGame 61 = .ok (.invokevirtual 149, 3) := by decide +kernel
theorem dX9_mixGame_64 : decode cX9_mixGame 64 = .ok (.invokestatic 285, 3) := by decide +kernel
theorem dX9_mixGame_67 : decode cX9_mixGame 67 = .ok (.lstore_n 3, 1) := by decide +kernel
theorem dX9_mixGame_68 : decode cX9_mixGame 68 = .ok (.iinc 6 1, 3) := by decide +kernel
theorem dX9_mixGame_71 : decode cX9_mixGame 71 = .ok (.goto (-28), 3) := by decide +kernel
theorem dX9_mixGame_74 : decode cX9_mixGame 74 = .ok (.iinc 5 1, 3) := by decide +kernel
theorem dX9_mixGame_77 : decode cX9_mixGame 77 = .ok (.goto (-43), 3) := by decide +kernel
theorem dX9_mixGame_80 : decode cX9_mixGame 80 = .ok (.lload_n 3, 1) := by decide +kernel
theorem dX9_mixGame_81 : decode cX9_mixGame 81 = .ok (.aload_n 2, 1) := by decide +kernel
theorem dX9_mixGame_82 : decode cX9_mixGame 82 = .ok (.getfield 166, 3) := by decide +kernel
theorem dX9_mixGame_85 : decode cX9_mixGame 85 = .ok (.invokestatic 285, 3) := by decide +kernel
theorem dX9_mixGame_88 : decode cX9_mixGame 88 = .ok (.lstore_n 3, 1) := by decide +kernel
theorem dX9_mixGame_89 : decode cX9_mixGame 89 = .ok (.lload_n 3, 1) := by decide +kernel
theorem dX9_mixGame_90 : decode cX9_mixGame 90 = .ok (.aload_n 2, 1) := by decide +kernel
theorem dX9_mixGame_91 : decode cX9_mixGame 91 = .ok (.getfield 177, 3) := by decide +kernel
theorem dX9_mixGame_94 : decode cX9_mixGame 94 = .ok (.invokestatic 285, 3) := by decide +kernel
theorem dX9_mixGame_97 : decode cX9_mixGame 97 = .ok (.lstore_n 3, 1) := by decide +kernel
theorem dX9_mixGame_98 : decode cX9_mixGame 98 = .ok (.lload_n 3, 1) := by decide +kernel
theorem dX9_mixGame_99 : decode cX9_mixGame 99 = .ok (.aload_n 2, 1) := by decide +kernel
theorem dX9_mixGame_100 : decode cX9_mixGame 100 = .ok (.getfield 295, 3) := by decide +kernel
theorem dX9_mixGame_103 : decode cX9_mixGame 103 = .ok (.iconst 0, 1) := by decide +kernel
theorem dX9_mixGame_104 : decode cX9_mixGame 104 = .ok (.iaload, 1) := by decide +kernel
theorem dX9_mixGame_105 : decode cX9_mixGame 105 = .ok (.invokestatic 285, 3) := by decide +kernel
theorem dX9_mixGame_108 : decode cX9_mixGame 108 = .ok (.lstore_n 3, 1) := by decide +kernel
theorem dX9_mixGame_109 : decode cX9_mixGame 109 = .ok (.lload_n 3, 1) := by decide +kernel
theorem dX9_mixGame_110 : decode cX9_mixGame 110 = .ok (.aload_n 2, 1) := by decide +kernel
theorem dX9_mixGame_111 : decode cX9_mixGame 111 = .ok (.getfield 295, 3) := by decide +kernel
theorem dX9_mixGame_114 : decode cX9_mixGame 114 = .ok (.iconst 1, 1) := by decide +kernel
theorem dX9_mixGame_115 : decode cX9_mixGame 115 = .ok (.iaload, 1) := by decide +kernel
theorem dX9_mixGame_116 : decode cX9_mixGame 116 = .ok (.invokestatic 285, 3) := by decide +kernel
theorem dX9_mixGame_119 : decode cX9_mixGame 119 = .ok (.lreturn, 1) := by decide +kernel
theorem dX9_layLine_0 : decode cX9_layLine 0 = .ok (.iconst 0, 1) := by decide +kernel
theorem dX9_layLine_1 : decode cX9_layLine 1 = .ok (.istore_n 1, 1) := by decide +kernel
theorem dX9_layLine_2 : decode cX9_layLine 2 = .ok (.iload_n 1, 1) := by decide +kernel
theorem dX9_layLine_3 : decode cX9_layLine 3 = .ok (.aload_n 0, 1) := by decide +kernel
theorem dX9_layLine_4 : decode cX9_layLine 4 = .ok (.getfield 19, 3) := by decide +kernel
theorem dX9_layLine_7 : decode cX9_layLine 7 = .ok (.getfield 190, 3) := by decide +kernel
theorem dX9_layLine_10 : decode cX9_layLine 10 = .ok (.if_icmp .ge 24, 3) := by decide +kernel
theorem dX9_layLine_13 : decode cX9_layLine 13 = .ok (.aload_n 0, 1) := by decide +kernel
theorem dX9_layLine_14 : decode cX9_layLine 14 = .ok (.getfield 73, 3) := by decide +kernel
theorem dX9_layLine_17 : decode cX9_layLine 17 = .ok (.iload_n 1, 1) := by decide +kernel
theorem dX9_layLine_18 : decode cX9_layLine 18 = .ok (.aload_n 0, 1) := by decide +kernel
theorem dX9_layLine_19 : decode cX9_layLine 19 = .ok (.getfield 19, 3) := by decide +kernel
theorem dX9_layLine_22 : decode cX9_layLine 22 = .ok (.getfield 199, 3) := by decide +kernel
theorem dX9_layLine_25 : decode cX9_layLine 25 = .ok (.iload_n 1, 1) := by decide +kernel
theorem dX9_layLine_26 : decode cX9_layLine 26 = .ok (.iaload, 1) := by decide +kernel
theorem dX9_layLine_27 : decode cX9_layLine 27 = .ok (.iastore, 1) := by decide +kernel
theorem dX9_layLine_28 : decode cX9_layLine 28 = .ok (.iinc 1 1, 3) := by decide +kernel
theorem dX9_layLine_31 : decode cX9_layLine 31 = .ok (.goto (-29), 3) := by decide +kernel
theorem dX9_layLine_34 : decode cX9_layLine 34 = .ok (.return_, 1) := by decide +kernel
theorem dX9_playLine_0 : decode cX9_playLine 0 = .ok (.iload_n 1, 1) := by decide +kernel
theorem dX9_playLine_1 : decode cX9_playLine 1 = .ok (.istore 4, 2) := by decide +kernel
theorem dX9_playLine_3 : decode cX9_playLine 3 = .ok (.aload_n 0, 1) := by decide +kernel
theorem dX9_playLine_4 : decode cX9_playLine 4 = .ok (.iconst 0, 1) := by decide +kernel
theorem dX9_playLine_5 : decode cX9_playLine 5 = .ok (.putfield 80, 3) := by decide +kernel
theorem dX9_playLine_8 : decode cX9_playLine 8 = .ok (.iconst 0, 1) := by decide +kernel
theorem dX9_playLine_9 : decode cX9_playLine 9 = .ok (.istore 5, 2) := by decide +kernel
theorem dX9_playLine_11 : decode cX9_playLine 11 = .ok (.iload 5, 2) := by decide +kernel
theorem dX9_playLine_13 : decode cX9_playLine 13 = .ok (.bipush 24, 2) := by decide +kernel
theorem dX9_playLine_15 : decode cX9_playLine 15 = .ok (.if_icmp .ge 110, 3) := by decide +kernel
theorem dX9_playLine_18 : decode cX9_playLine 18 = .ok (.aload_n 0, 1) := by decide +kernel
theorem dX9_playLine_19 : decode cX9_playLine 19 = .ok (.getfield 37, 3) := by decide +kernel
theorem dX9_playLine_22 : decode cX9_playLine 22 = .ok (.aload_n 0, 1) := by decide +kernel
theorem dX9_playLine_23 : decode cX9_playLine 23 = .ok (.getfield 73, 3) := by decide +kernel
theorem dX9_playLine_26 : decode cX9_playLine 26 = .ok (.aload_n 0, 1) := by decide +kernel
theorem dX9_playLine_27 : decode cX9_playLine 27 = .ok (.getfield 19, 3) := by decide +kernel
theorem dX9_playLine_30 : decode cX9_playLine 30 = .ok (.getfield 190, 3) := by decide +kernel
theorem dX9_playLine_33 : decode cX9_playLine 33 = .ok (.iload 4, 2) := by decide +kernel
theorem dX9_playLine_35 : decode cX9_playLine 35 = .ok (.iload 4, 2) := by decide +kernel
theorem dX9_playLine_37 : decode cX9_playLine 37 = .ok (.ifCond .ne 7, 3) := by decide +kernel
theorem dX9_playLine_40 : decode cX9_playLine 40 = .ok (.iload_n 2, 1) := by decide +kernel
theorem dX9_playLine_41 : decode cX9_playLine 41 = .ok (.goto 4, 3) := by decide +kernel
theorem dX9_playLine_44 : decode cX9_playLine 44 = .ok (.iload_n 3, 1) := by decide +kernel
theorem dX9_playLine_45 : decode cX9_playLine 45 = .ok (.invokevirtual 226, 3) := by decide +kernel
theorem dX9_playLine_48 : decode cX9_playLine 48 = .ok (.istore 6, 2) := by decide +kernel
theorem dX9_playLine_50 : decode cX9_playLine 50 = .ok (.iload 6, 2) := by decide +kernel
theorem dX9_playLine_52 : decode cX9_playLine 52 = .ok (.iconst (-1), 1) := by decide +kernel
theorem dX9_playLine_53 : decode cX9_playLine 53 = .ok (.if_icmp .ne 4, 3) := by decide +kernel
theorem dX9_playLine_56 : decode cX9_playLine 56 = .ok (.return_, 1) := by decide +kernel
theorem dX9_playLine_57 : decode cX9_playLine 57 = .ok (.iload 6, 2) := by decide +kernel
theorem dX9_playLine_59 : decode cX9_playLine 59 = .ok (.bipush 100, 2) := by decide +kernel
theorem dX9_playLine_61 : decode cX9_playLine 61 = .ok (.idiv, 1) := by decide +kernel
theorem dX9_playLine_62 : decode cX9_playLine 62 = .ok (.istore 7, 2) := by decide +kernel
theorem dX9_playLine_64 : decode cX9_playLine 64 = .ok (.aload_n 0, 1) := by decide +kernel
theorem dX9_playLine_65 : decode cX9_playLine 65 = .ok (.getfield 73, 3) := by decide +kernel
theorem dX9_playLine_68 : decode cX9_playLine 68 = .ok (.iload 7, 2) := by decide +kernel
theorem dX9_playLine_70 : decode cX9_playLine 70 = .ok (.aload_n 0, 1) := by decide +kernel
theorem dX9_playLine_71 : decode cX9_playLine 71 = .ok (.getfield 12, 3) := by decide +kernel
theorem dX9_playLine_74 : decode cX9_playLine 74 = .ok (.getfield 140, 3) := by decide +kernel
theorem dX9_playLine_77 : decode cX9_playLine 77 = .ok (.aload_n 0, 1) := by decide +kernel
theorem dX9_playLine_78 : decode cX9_playLine 78 = .ok (.getfield 73, 3) := by decide +kernel
theorem dX9_playLine_81 : decode cX9_playLine 81 = .ok (.iload 7, 2) := by decide +kernel
theorem dX9_playLine_83 : decode cX9_playLine 83 = .ok (.iaload, 1) := by decide +kernel
theorem dX9_playLine_84 : decode cX9_playLine 84 = .ok (.aaload, 1) := by decide +kernel
theorem dX9_playLine_85 : decode cX9_playLine 85 = .ok (.iload 4, 2) := by decide +kernel
theorem dX9_playLine_87 : decode cX9_playLine 87 = .ok (.iload 6, 2) := by decide +kernel
theorem dX9_playLine_89 : decode cX9_playLine 89 = .ok (.bipush 100, 2) := by decide +kernel
theorem dX9_playLine_91 : decode cX9_playLine 91 = .ok (.irem, 1) := by decide +kernel
theorem dX9_playLine_92 : decode cX9_playLine 92 = .ok (.invokevirtual 149, 3) := by decide +kernel
theorem dX9_playLine_95 : decode cX9_playLine 95 = .ok (.iastore, 1) := by decide +kernel
theorem dX9_playLine_96 : decode cX9_playLine 96 = .ok (.aload_n 0, 1) := by decide +kernel
theorem dX9_playLine_97 : decode cX9_playLine 97 = .ok (.getfield 77, 3) := by decide +kernel
theorem dX9_playLine_100 : decode cX9_playLine 100 = .ok (.iload 5, 2) := by decide +kernel
theorem dX9_playLine_102 : decode cX9_playLine 102 = .ok (.iload 6, 2) := by decide +kernel
theorem dX9_playLine_104 : decode cX9_playLine 104 = .ok (.iastore, 1) := by decide +kernel
theorem dX9_playLine_105 : decode cX9_playLine 105 = .ok (.aload_n 0, 1) := by decide +kernel
theorem dX9_playLine_106 : decode cX9_playLine 106 = .ok (.iload 5, 2) := by decide +kernel
theorem dX9_playLine_108 : decode cX9_playLine 108 = .ok (.iconst 1, 1) := by decide +kernel
theorem dX9_playLine_109 : decode cX9_playLine 109 = .ok (.iadd, 1) := by decide +kernel
theorem dX9_playLine_110 : decode cX9_playLine 110 = .ok (.putfield 80, 3) := by decide +kernel
theorem dX9_playLine_113 : decode cX9_playLine 113 = .ok (.iconst 1, 1) := by decide +kernel
theorem dX9_playLine_114 : decode cX9_playLine 114 = .ok (.iload 4, 2) := by decide +kernel
theorem dX9_playLine_116 : decode cX9_playLine 116 = .ok (.isub, 1) := by decide +kernel
theorem dX9_playLine_117 : decode cX9_playLine 117 = .ok (.istore 4, 2) := by decide +kernel
theorem dX9_playLine_119 : decode cX9_playLine 119 = .ok (.iinc 5 1, 3) := by decide +kernel
theorem dX9_playLine_122 : decode cX9_playLine 122 = .ok (.goto (-111), 3) := by decide +kernel
theorem dX9_playLine_125 : decode cX9_playLine 125 = .ok (.return_, 1) := by decide +kernel
theorem dX9_requireGame_0 : decode cX9_requireGame 0 = .ok (.iload_n 1, 1) := by decide +kernel
theorem dX9_requireGame_1 : decode cX9_requireGame 1 = .ok (.ifCond .lt 14, 3) := by decide +kernel
theorem dX9_requireGame_4 : decode cX9_requireGame 4 = .ok (.iload_n 1, 1) := by decide +kernel
theorem dX9_requireGame_5 : decode cX9_requireGame 5 = .ok (.aload_n 0, 1) := by decide +kernel
theorem dX9_requireGame_6 : decode cX9_requireGame 6 = .ok (.getfield 12, 3) := by decide +kernel
theorem dX9_requireGame_9 : decode cX9_requireGame 9 = .ok (.getfield 100, 3) := by decide +kernel
theorem dX9_requireGame_12 : decode cX9_requireGame 12 = .ok (.if_icmp .lt 14, 3) := by decide +kernel
theorem dX9_requireGame_15 : decode cX9_requireGame 15 = .ok (.new 298, 3) := by decide +kernel
theorem dX9_requireGame_18 : decode cX9_requireGame 18 = .ok (.dup, 1) := by decide +kernel
theorem dX9_requireGame_19 : decode cX9_requireGame 19 = .ok (.ldc_w 300, 3) := by decide +kernel
theorem dX9_requireGame_22 : decode cX9_requireGame 22 = .ok (.invokespecial 302, 3) := by decide +kernel
theorem dX9_requireGame_25 : decode cX9_requireGame 25 = .ok (.athrow, 1) := by decide +kernel
theorem dX9_requireGame_26 : decode cX9_requireGame 26 = .ok (.return_, 1) := by decide +kernel
theorem dX9_requireComponent_0 : decode cX9_requireComponent 0 = .ok (.iload_n 1, 1) := by decide +kernel
theorem dX9_requireComponent_1 : decode cX9_requireComponent 1 = .ok (.ifCond .lt 14, 3) := by decide +kernel
theorem dX9_requireComponent_4 : decode cX9_requireComponent 4 = .ok (.iload_n 1, 1) := by decide +kernel
theorem dX9_requireComponent_5 : decode cX9_requireComponent 5 = .ok (.aload_n 0, 1) := by decide +kernel
theorem dX9_requireComponent_6 : decode cX9_requireComponent 6 = .ok (.getfield 19, 3) := by decide +kernel
theorem dX9_requireComponent_9 : decode cX9_requireComponent 9 = .ok (.getfield 190, 3) := by decide +kernel
theorem dX9_requireComponent_12 : decode cX9_requireComponent 12 = .ok (.if_icmp .lt 14, 3) := by decide +kernel
theorem dX9_requireComponent_15 : decode cX9_requireComponent 15 = .ok (.new 298, 3) := by decide +kernel
theorem dX9_requireComponent_18 : decode cX9_requireComponent 18 = .ok (.dup, 1) := by decide +kernel
theorem dX9_requireComponent_19 : decode cX9_requireComponent 19 = .ok (.ldc_w 303, 3) := by decide +kernel
theorem dX9_requireComponent_22 : decode cX9_requireComponent 22 = .ok (.invokespecial 302, 3) := by decide +kernel
theorem dX9_requireComponent_25 : decode cX9_requireComponent 25 = .ok (.athrow, 1) := by decide +kernel
theorem dX9_requireComponent_26 : decode cX9_requireComponent 26 = .ok (.return_, 1) := by decide +kernel
theorem dX9_requireSide_0 : decode cX9_requireSide 0 = .ok (.iload_n 0, 1) := by decide +kernel
theorem dX9_requireSide_1 : decode cX9_requireSide 1 = .ok (.ifCond .eq 19, 3) := by decide +kernel
theorem dX9_requireSide_4 : decode cX9_requireSide 4 = .ok (.iload_n 0, 1) := by decide +kernel
theorem dX9_requireSide_5 : decode cX9_requireSide 5 = .ok (.iconst 1, 1) := by decide +kernel
theorem dX9_requireSide_6 : decode cX9_requireSide 6 = .ok (.if_icmp .eq 14, 3) := by decide +kernel
theorem dX9_requireSide_9 : decode cX9_requireSide 9 = .ok (.new 103, 3) := by decide +kernel
theorem dX9_requireSide_12 : decode cX9_requireSide 12 = .ok (.dup, 1) := by decide +kernel
theorem dX9_requireSide_13 : decode cX9_requireSide 13 = .ok (.ldc_w 305, 3) := by decide +kernel
theorem dX9_requireSide_16 : decode cX9_requireSide 16 = .ok (.invokespecial 107, 3) := by decide +kernel
theorem dX9_requireSide_19 : decode cX9_requireSide 19 = .ok (.athrow, 1) := by decide +kernel
theorem dX9_requireSide_20 : decode cX9_requireSide 20 = .ok (.return_, 1) := by decide +kernel
theorem dX9_requireStrategy_0 : decode cX9_requireStrategy 0 = .ok (.iload_n 0, 1) := by decide +kernel
theorem dX9_requireStrategy_1 : decode cX9_requireStrategy 1 = .ok (.ifCond .lt 8, 3) := by decide +kernel
theorem dX9_requireStrategy_4 : decode cX9_requireStrategy 4 = .ok (.iload_n 0, 1) := by decide +kernel
theorem dX9_requireStrategy_5 : decode cX9_requireStrategy 5 = .ok (.iconst 3, 1) := by decide +kernel
theorem dX9_requireStrategy_6 : decode cX9_requireStrategy 6 = .ok (.if_icmp .le 14, 3) := by decide +kernel
theorem dX9_requireStrategy_9 : decode cX9_requireStrategy 9 = .ok (.new 103, 3) := by decide +kernel
theorem dX9_requireStrategy_12 : decode cX9_requireStrategy 12 = .ok (.dup, 1) := by decide +kernel
theorem dX9_requireStrategy_13 : decode cX9_requireStrategy 13 = .ok (.ldc_w 307, 3) := by decide +kernel
theorem dX9_requireStrategy_16 : decode cX9_requireStrategy 16 = .ok (.invokespecial 107, 3) := by decide +kernel
theorem dX9_requireStrategy_19 : decode cX9_requireStrategy 19 = .ok (.athrow, 1) := by decide +kernel
theorem dX9_requireStrategy_20 : decode cX9_requireStrategy 20 = .ok (.return_, 1) := by decide +kernel
theorem dX9_requireSmallTable_0 : decode cX9_requireSmallTable 0 = .ok (.aload_n 0, 1) := by decide +kernel
theorem dX9_requireSmallTable_1 : decode cX9_requireSmallTable 1 = .ok (.invokevirtual 309, 3) := by decide +kernel
theorem dX9_requireSmallTable_4 : decode cX9_requireSmallTable 4 = .ok (.sipush 4000, 3) := by decide +kernel
theorem dX9_requireSmallTable_7 : decode cX9_requireSmallTable 7 = .ok (.if_icmp .le 14, 3) := by decide +kernel
theorem dX9_requireSmallTable_10 : decode cX9_requireSmallTable 10 = .ok (.new 110, 3) := by decide +kernel
theorem dX9_requireSmallTable_13 : decode cX9_requireSmallTable 13 = .ok (.dup, 1) := by decide +kernel
theorem dX9_requireSmallTable_14 : decode cX9_requireSmallTable 14 = .ok (.ldc_w 312, 3) := by decide +kernel
theorem dX9_requireSmallTable_17 : decode cX9_requireSmallTable 17 = .ok (.invokespecial 114, 3) := by decide +kernel
theorem dX9_requireSmallTable_20 : decode cX9_requireSmallTable 20 = .ok (.athrow, 1) := by decide +kernel
theorem dX9_requireSmallTable_21 : decode cX9_requireSmallTable 21 = .ok (.return_, 1) := by decide +kernel
theorem dX9_bit_0 : decode cX9_bit 0 = .ok (.lconst 1, 1) := by decide +kernel
theorem dX9_bit_1 : decode cX9_bit 1 = .ok (.iload_n 0, 1) := by decide +kernel
theorem dX9_bit_2 : decode cX9_bit 2 = .ok (.lshl, 1) := by decide +kernel
theorem dX9_bit_3 : decode cX9_bit 3 = .ok (.lreturn, 1) := by decide +kernel
theorem dX9_contains_0 : decode cX9_contains 0 = .ok (.lload_n 0, 1) := by decide +kernel
theorem dX9_contains_1 : decode cX9_contains 1 = .ok (.iload_n 2, 1) := by decide +kernel
theorem dX9_contains_2 : decode cX9_contains 2 = .ok (.lushr, 1) := by decide +kernel
theorem dX9_contains_3 : decode cX9_contains 3 = .ok (.lconst 1, 1) := by decide +kernel
theorem dX9_contains_4 : decode cX9_contains 4 = .ok (.land, 1) := by decide +kernel
theorem dX9_contains_5 : decode cX9_contains 5 = .ok (.lconst 0, 1) := by decide +kernel
theorem dX9_contains_6 : decode cX9_contains 6 = .ok (.lcmp, 1) := by decide +kernel
theorem dX9_contains_7 : decode cX9_contains 7 = .ok (.ifCond .eq 7, 3) := by decide +kernel
theorem dX9_contains_10 : decode cX9_contains 10 = .ok (.iconst 1, 1) := by decide +kernel
theorem dX9_contains_11 : decode cX9_contains 11 = .ok (.goto 4, 3) := by decide +kernel
theorem dX9_contains_14 : decode cX9_contains 14 = .ok (.iconst 0, 1) := by decide +kernel
theorem dX9_contains_15 : decode cX9_contains 15 = .ok (.ireturn, 1) := by decide +kernel
theorem dX9_signOf_0 : decode cX9_signOf 0 = .ok (.iload_n 0, 1) := by decide +kernel
theorem dX9_signOf_1 : decode cX9_signOf 1 = .ok (.ifCond .ne 7, 3) := by decide +kernel
theorem dX9_signOf_4 : decode cX9_signOf 4 = .ok (.iconst 1, 1) := by decide +kernel
theorem dX9_signOf_5 : decode cX9_signOf 5 = .ok (.goto 4, 3) := by decide +kernel
theorem dX9_signOf_8 : decode cX9_signOf 8 = .ok (.iconst (-1), 1) := by decide +kernel
theorem dX9_signOf_9 : decode cX9_signOf 9 = .ok (.ireturn, 1) := by decide +kernel
theorem dX9_halvings_0 : decode cX9_halvings 0 = .ok (.iload_n 0, 1) := by decide +kernel
theorem dX9_halvings_1 : decode cX9_halvings 1 = .ok (.bipush 8, 2) := by decide +kernel
theorem dX9_halvings_3 : decode cX9_halvings 3 = .ok (.irem, 1) := by decide +kernel
theorem dX9_halvings_4 : decode cX9_halvings 4 = .ok (.ifCond .ne 5, 3) := by decide +kernel
theorem dX9_halvings_7 : decode cX9_halvings 7 = .ok (.iconst 3, 1) := by decide +kernel
theorem dX9_halvings_8 : decode cX9_halvings 8 = .ok (.ireturn, 1) := by decide +kernel
theorem dX9_halvings_9 : decode cX9_halvings 9 = .ok (.iload_n 0, 1) := by decide +kernel
theorem dX9_halvings_10 : decode cX9_halvings 10 = .ok (.iconst 4, 1) := by decide +kernel
theorem dX9_halvings_11 : decode cX9_halvings 11 = .ok (.irem, 1) := by decide +kernel
theorem dX9_halvings_12 : decode cX9_halvings 12 = .ok (.ifCond .ne 5, 3) := by decide +kernel
theorem dX9_halvings_15 : decode cX9_halvings 15 = .ok (.iconst 2, 1) := by decide +kernel
theorem dX9_halvings_16 : decode cX9_halvings 16 = .ok (.ireturn, 1) := by decide +kernel
theorem dX9_halvings_17 : decode cX9_halvings 17 = .ok (.iload_n 0, 1) := by decide +kernel
theorem dX9_halvings_18 : decode cX9_halvings 18 = .ok (.iconst 2, 1) := by decide +kernel
theorem dX9_halvings_19 : decode cX9_halvings 19 = .ok (.irem, 1) := by decide +kernel
theorem dX9_halvings_20 : decode cX9_halvings 20 = .ok (.ifCond .ne 7, 3) := by decide +kernel
theorem dX9_halvings_23 : decode cX9_halvings 23 = .ok (.iconst 1, 1) := by decide +kernel
theorem dX9_halvings_24 : decode cX9_halvings 24 = .ok (.goto 4, 3) := by decide +kernel
theorem dX9_halvings_27 : decode cX9_halvings 27 = .ok (.iconst 0, 1) := by decide +kernel
theorem dX9_halvings_28 : decode cX9_halvings 28 = .ok (.ireturn, 1) := by decide +kernel
