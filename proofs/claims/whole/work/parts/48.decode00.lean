theorem dJ0_length_8abf5_0 : decode cJ0_length_8abf5 0 = .ok (.aload_n 0, 1) := by decide +kernel
theorem dJ0_length_8abf5_1 : decode cJ0_length_8abf5 1 = .ok (.getfield 9, 3) := by decide +kernel
theorem dJ0_length_8abf5_4 : decode cJ0_length_8abf5 4 = .ok (.arraylength, 1) := by decide +kernel
theorem dJ0_length_8abf5_5 : decode cJ0_length_8abf5 5 = .ok (.aload_n 0, 1) := by decide +kernel
theorem dJ0_length_8abf5_6 : decode cJ0_length_8abf5 6 = .ok (.invokevirtual 335, 3) := by decide +kernel
theorem dJ0_length_8abf5_9 : decode cJ0_length_8abf5 9 = .ok (.ishr, 1) := by decide +kernel
theorem dJ0_length_8abf5_10 : decode cJ0_length_8abf5 10 = .ok (.ireturn, 1) := by decide +kernel
theorem dJ0_charAt_5068e_0 : decode cJ0_charAt_5068e 0 = .ok (.aload_n 0, 1) := by decide +kernel
theorem dJ0_charAt_5068e_1 : decode cJ0_charAt_5068e 1 = .ok (.invokevirtual 492, 3) := by decide +kernel
theorem dJ0_charAt_5068e_4 : decode cJ0_charAt_5068e 4 = .ok (.ifCond .eq 12, 3) := by decide +kernel
theorem dJ0_charAt_5068e_7 : decode cJ0_charAt_5068e 7 = .ok (.aload_n 0, 1) := by decide +kernel
theorem dJ0_charAt_5068e_8 : decode cJ0_charAt_5068e 8 = .ok (.getfield 9, 3) := by decide +kernel
theorem dJ0_charAt_5068e_11 : decode cJ0_charAt_5068e 11 = .ok (.iload_n 1, 1) := by decide +kernel
theorem dJ0_charAt_5068e_12 : decode cJ0_charAt_5068e 12 = .ok (.invokestatic 495, 3) := by decide +kernel
theorem dJ0_charAt_5068e_15 : decode cJ0_charAt_5068e 15 = .ok (.ireturn, 1) := by decide +kernel
theorem dJ0_charAt_5068e_16 : decode cJ0_charAt_5068e 16 = .ok (.aload_n 0, 1) := by decide +kernel
theorem dJ0_charAt_5068e_17 : decode cJ0_charAt_5068e 17 = .ok (.getfield 9, 3) := by decide +kernel
theorem dJ0_charAt_5068e_20 : decode cJ0_charAt_5068e 20 = .ok (.iload_n 1, 1) := by decide +kernel
theorem dJ0_charAt_5068e_21 : decode cJ0_charAt_5068e 21 = .ok (.invokestatic 498, 3) := by decide +kernel
theorem dJ0_charAt_5068e_24 : decode cJ0_charAt_5068e 24 = .ok (.ireturn, 1) := by decide +kernel
theorem dJ0_coder_7d493_0 : decode cJ0_coder_7d493 0 = .ok (.getstatic 38, 3) := by decide +kernel
theorem dJ0_coder_7d493_3 : decode cJ0_coder_7d493 3 = .ok (.ifCond .eq 10, 3) := by decide +kernel
theorem dJ0_coder_7d493_6 : decode cJ0_coder_7d493 6 = .ok (.aload_n 0, 1) := by decide +kernel
theorem dJ0_coder_7d493_7 : decode cJ0_coder_7d493 7 = .ok (.getfield 15, 3) := by decide +kernel
theorem dJ0_coder_7d493_10 : decode cJ0_coder_7d493 10 = .ok (.goto 4, 3) := by decide +kernel
theorem dJ0_coder_7d493_13 : decode cJ0_coder_7d493 13 = .ok (.iconst 1, 1) := by decide +kernel
theorem dJ0_coder_7d493_14 : decode cJ0_coder_7d493 14 = .ok (.ireturn, 1) := by decide +kernel
theorem dJ0_isLatin1_aae02_0 : decode cJ0_isLatin1_aae02 0 = .ok (.getstatic 38, 3) := by decide +kernel
theorem dJ0_isLatin1_aae02_3 : decode cJ0_isLatin1_aae02 3 = .ok (.ifCond .eq 14, 3) := by decide +kernel
theorem dJ0_isLatin1_aae02_6 : decode cJ0_isLatin1_aae02 6 = .ok (.aload_n 0, 1) := by decide +kernel
theorem dJ0_isLatin1_aae02_7 : decode cJ0_isLatin1_aae02 7 = .ok (.getfield 15, 3) := by decide +kernel
theorem dJ0_isLatin1_aae02_10 : decode cJ0_isLatin1_aae02 10 = .ok (.ifCond .ne 7, 3) := by decide +kernel
theorem dJ0_isLatin1_aae02_13 : decode cJ0_isLatin1_aae02 13 = .ok (.iconst 1, 1) := by decide +kernel
theorem dJ0_isLatin1_aae02_14 : decode cJ0_isLatin1_aae02 14 = .ok (.goto 4, 3) := by decide +kernel
theorem dJ0_isLatin1_aae02_17 : decode cJ0_isLatin1_aae02 17 = .ok (.iconst 0, 1) := by decide +kernel
theorem dJ0_isLatin1_aae02_18 : decode cJ0_isLatin1_aae02 18 = .ok (.ireturn, 1) := by decide +kernel
theorem dJ0_checkIndex_df160_0 : decode cJ0_checkIndex_df160 0 = .ok (.iload_n 0, 1) := by decide +kernel
theorem dJ0_checkIndex_df160_1 : decode cJ0_checkIndex_df160 1 = .ok (.iload_n 1, 1) := by decide +kernel
theorem dJ0_checkIndex_df160_2 : decode cJ0_checkIndex_df160 2 = .ok (.getstatic 1053, 3) := by decide +kernel
theorem dJ0_checkIndex_df160_5 : decode cJ0_checkIndex_df160 5 = .ok (.invokestatic 1059, 3) := by decide +kernel
theorem dJ0_checkIndex_df160_8 : decode cJ0_checkIndex_df160 8 = .ok (.pop, 1) := by decide +kernel
theorem dJ0_checkIndex_df160_9 : decode cJ0_checkIndex_df160 9 = .ok (.return_, 1) := by decide +kernel
theorem dJ1_charAt_3b067_0 : decode cJ1_charAt_3b067 0 = .ok (.iload_n 1, 1) := by decide +kernel
theorem dJ1_charAt_3b067_1 : decode cJ1_charAt_3b067 1 = .ok (.aload_n 0, 1) := by decide +kernel
theorem dJ1_charAt_3b067_2 : decode cJ1_charAt_3b067 2 = .ok (.arraylength, 1) := by decide +kernel
theorem dJ1_charAt_3b067_3 : decode cJ1_charAt_3b067 3 = .ok (.invokestatic 9, 3) := by decide +kernel
theorem dJ1_charAt_3b067_6 : decode cJ1_charAt_3b067 6 = .ok (.aload_n 0, 1) := by decide +kernel
theorem dJ1_charAt_3b067_7 : decode cJ1_charAt_3b067 7 = .ok (.iload_n 1, 1) := by decide +kernel
theorem dJ1_charAt_3b067_8 : decode cJ1_charAt_3b067 8 = .ok (.baload, 1) := by decide +kernel
theorem dJ1_charAt_3b067_9 : decode cJ1_charAt_3b067 9 = .ok (.sipush 255, 3) := by decide +kernel
theorem dJ1_charAt_3b067_12 : decode cJ1_charAt_3b067 12 = .ok (.iand, 1) := by decide +kernel
theorem dJ1_charAt_3b067_13 : decode cJ1_charAt_3b067 13 = .ok (.i2c, 1) := by decide +kernel
theorem dJ1_charAt_3b067_14 : decode cJ1_charAt_3b067 14 = .ok (.ireturn, 1) := by decide +kernel
theorem dJ3_checkIndex_8e157_0 : decode cJ3_checkIndex_8e157 0 = .ok (.iload_n 0, 1) := by decide +kernel
theorem dJ3_checkIndex_8e157_1 : decode cJ3_checkIndex_8e157 1 = .ok (.ifCond .lt 8, 3) := by decide +kernel
theorem dJ3_checkIndex_8e157_4 : decode cJ3_checkIndex_8e157 4 = .ok (.iload_n 0, 1) := by decide +kernel
theorem dJ3_checkIndex_8e157_5 : decode cJ3_checkIndex_8e157 5 = .ok (.iload_n 1, 1) := by decide +kernel
theorem dJ3_checkIndex_8e157_6 : decode cJ3_checkIndex_8e157 6 = .ok (.if_icmp .lt 10, 3) := by decide +kernel
theorem dJ3_checkIndex_8e157_9 : decode cJ3_checkIndex_8e157 9 = .ok (.aload_n 2, 1) := by decide +kernel
theorem dJ3_checkIndex_8e157_10 : decode cJ3_checkIndex_8e157 10 = .ok (.iload_n 0, 1) := by decide +kernel
theorem dJ3_checkIndex_8e157_11 : decode cJ3_checkIndex_8e157 11 = .ok (.iload_n 1, 1) := by decide +kernel
theorem dJ3_checkIndex_8e157_12 : decode cJ3_checkIndex_8e157 12 = .ok (.invokestatic 95, 3) := by decide +kernel
theorem dJ3_checkIndex_8e157_15 : decode cJ3_checkIndex_8e157 15 = .ok (.athrow, 1) := by decide +kernel
theorem dJ3_checkIndex_8e157_16 : decode cJ3_checkIndex_8e157 16 = .ok (.iload_n 0, 1) := by decide +kernel
theorem dJ3_checkIndex_8e157_17 : decode cJ3_checkIndex_8e157 17 = .ok (.ireturn, 1) := by decide +kernel
theorem dJ6_bitCount_0f7a4_0 : decode cJ6_bitCount_0f7a4 0 = .ok (.iload_n 0, 1) := by decide +kernel
theorem dJ6_bitCount_0f7a4_1 : decode cJ6_bitCount_0f7a4 1 = .ok (.iload_n 0, 1) := by decide +kernel
theorem dJ6_bitCount_0f7a4_2 : decode cJ6_bitCount_0f7a4 2 = .ok (.iconst 1, 1) := by decide +kernel
theorem dJ6_bitCount_0f7a4_3 : decode cJ6_bitCount_0f7a4 3 = .ok (.iushr, 1) := by decide +kernel
theorem dJ6_bitCount_0f7a4_4 : decode cJ6_bitCount_0f7a4 4 = .ok (.ldc_w 265, 3) := by decide +kernel
theorem dJ6_bitCount_0f7a4_7 : decode cJ6_bitCount_0f7a4 7 = .ok (.iand, 1) := by decide +kernel
theorem dJ6_bitCount_0f7a4_8 : decode cJ6_bitCount_0f7a4 8 = .ok (.isub, 1) := by decide +kernel
theorem dJ6_bitCount_0f7a4_9 : decode cJ6_bitCount_0f7a4 9 = .ok (.istore_n 0, 1) := by decide +kernel
theorem dJ6_bitCount_0f7a4_10 : decode cJ6_bitCount_0f7a4 10 = .ok (.iload_n 0, 1) := by decide +kernel
theorem dJ6_bitCount_0f7a4_11 : decode cJ6_bitCount_0f7a4 11 = .ok (.ldc_w 266, 3) := by decide +kernel
theorem dJ6_bitCount_0f7a4_14 : decode cJ6_bitCount_0f7a4 14 = .ok (.iand, 1) := by decide +kernel
theorem dJ6_bitCount_0f7a4_15 : decode cJ6_bitCount_0f7a4 15 = .ok (.iload_n 0, 1) := by decide +kernel
theorem dJ6_bitCount_0f7a4_16 : decode cJ6_bitCount_0f7a4 16 = .ok (.iconst 2, 1) := by decide +kernel
theorem dJ6_bitCount_0f7a4_17 : decode cJ6_bitCount_0f7a4 17 = .ok (.iushr, 1) := by decide +kernel
theorem dJ6_bitCount_0f7a4_18 : decode cJ6_bitCount_0f7a4 18 = .ok (.ldc_w 266, 3) := by decide +kernel
theorem dJ6_bitCount_0f7a4_21 : decode cJ6_bitCount_0f7a4 21 = .ok (.iand, 1) := by decide +kernel
theorem dJ6_bitCount_0f7a4_22 : decode cJ6_bitCount_0f7a4 22 = .ok (.iadd, 1) := by decide +kernel
theorem dJ6_bitCount_0f7a4_23 : decode cJ6_bitCount_0f7a4 23 = .ok (.istore_n 0, 1) := by decide +kernel
theorem dJ6_bitCount_0f7a4_24 : decode cJ6_bitCount_0f7a4 24 = .ok (.iload_n 0, 1) := by decide +kernel
theorem dJ6_bitCount_0f7a4_25 : decode cJ6_bitCount_0f7a4 25 = .ok (.iload_n 0, 1) := by decide +kernel
theorem dJ6_bitCount_0f7a4_26 : decode cJ6_bitCount_0f7a4 26 = .ok (.iconst 4, 1) := by decide +kernel
theorem dJ6_bitCount_0f7a4_27 : decode cJ6_bitCount_0f7a4 27 = .ok (.iushr, 1) := by decide +kernel
theorem dJ6_bitCount_0f7a4_28 : decode cJ6_bitCount_0f7a4 28 = .ok (.iadd, 1) := by decide +kernel
theorem dJ6_bitCount_0f7a4_29 : decode cJ6_bitCount_0f7a4 29 = .ok (.ldc_w 267, 3) := by decide +kernel
theorem dJ6_bitCount_0f7a4_32 : decode cJ6_bitCount_0f7a4 32 = .ok (.iand, 1) := by decide +kernel
theorem dJ6_bitCount_0f7a4_33 : decode cJ6_bitCount_0f7a4 33 = .ok (.istore_n 0, 1) := by decide +kernel
theorem dJ6_bitCount_0f7a4_34 : decode cJ6_bitCount_0f7a4 34 = .ok (.iload_n 0, 1) := by decide +kernel
theorem dJ6_bitCount_0f7a4_35 : decode cJ6_bitCount_0f7a4 35 = .ok (.iload_n 0, 1) := by decide +kernel
theorem dJ6_bitCount_0f7a4_36 : decode cJ6_bitCount_0f7a4 36 = .ok (.bipush 8, 2) := by decide +kernel
theorem dJ6_bitCount_0f7a4_38 : decode cJ6_bitCount_0f7a4 38 = .ok (.iushr, 1) := by decide +kernel
theorem dJ6_bitCount_0f7a4_39 : decode cJ6_bitCount_0f7a4 39 = .ok (.iadd, 1) := by decide +kernel
theorem dJ6_bitCount_0f7a4_40 : decode cJ6_bitCount_0f7a4 40 = .ok (.istore_n 0, 1) := by decide +kernel
theorem dJ6_bitCount_0f7a4_41 : decode cJ6_bitCount_0f7a4 41 = .ok (.iload_n 0, 1) := by decide +kernel
theorem dJ6_bitCount_0f7a4_42 : decode cJ6_bitCount_0f7a4 42 = .ok (.iload_n 0, 1) := by decide +kernel
theorem dJ6_bitCount_0f7a4_43 : decode cJ6_bitCount_0f7a4 43 = .ok (.bipush 16, 2) := by decide +kernel
theorem dJ6_bitCount_0f7a4_45 : decode cJ6_bitCount_0f7a4 45 = .ok (.iushr, 1) := by decide +kernel
theorem dJ6_bitCount_0f7a4_46 : decode cJ6_bitCount_0f7a4 46 = .ok (.iadd, 1) := by decide +kernel
theorem dJ6_bitCount_0f7a4_47 : decode cJ6_bitCount_0f7a4 47 = .ok (.istore_n 0, 1) := by decide +kernel
theorem dJ6_bitCount_0f7a4_48 : decode cJ6_bitCount_0f7a4 48 = .ok (.iload_n 0, 1) := by decide +kernel
theorem dJ6_bitCount_0f7a4_49 : decode cJ6_bitCount_0f7a4 49 = .ok (.bipush 63, 2) := by decide +kernel
theorem dJ6_bitCount_0f7a4_51 : decode cJ6_bitCount_0f7a4 51 = .ok (.iand, 1) := by decide +kernel
theorem dJ6_bitCount_0f7a4_52 : decode cJ6_bitCount_0f7a4 52 = .ok (.ireturn, 1) := by decide +kernel
theorem dX10_init_0 : decode cX10_init 0 = .ok (.aload_n 0, 1) := by decide +kernel
theorem dX10_init_1 : decode cX10_init 1 = .ok (.invokespecial 3, 3) := by decide +kernel
theorem dX10_init_4 : decode cX10_init 4 = .ok (.aload_n 0, 1) := by decide +kernel
theorem dX10_init_5 : decode cX10_init 5 = .ok (.sipush 1600, 3) := by decide +kernel
theorem dX10_init_8 : decode cX10_init 8 = .ok (.newarray .int, 2) := by decide +kernel
theorem dX10_init_10 : decode cX10_init 10 = .ok (.putfield 9, 3) := by decide +kernel
theorem dX10_init_13 : decode cX10_init 13 = .ok (.aload_n 0, 1) := by decide +kernel
theorem dX10_init_14 : decode cX10_init 14 = .ok (.iconst 0, 1) := by decide +kernel
theorem dX10_init_15 : decode cX10_init 15 = .ok (.putfield 15, 3) := by decide +kernel
theorem dX10_init_18 : decode cX10_init 18 = .ok (.aload_n 0, 1) := by decide +kernel
theorem dX10_init_19 : decode cX10_init 19 = .ok (.sipush 1601, 3) := by decide +kernel
theorem dX10_init_22 : decode cX10_init 22 = .ok (.newarray .int, 2) := by decide +kernel
theorem dX10_init_24 : decode cX10_init 24 = .ok (.putfield 19, 3) := by decide +kernel
theorem dX10_init_27 : decode cX10_init 27 = .ok (.aload_n 0, 1) := by decide +kernel
theorem dX10_init_28 : decode cX10_init 28 = .ok (.iconst 0, 1) := by decide +kernel
theorem dX10_init_29 : decode cX10_init 29 = .ok (.putfield 22, 3) := by decide +kernel
theorem dX10_init_32 : decode cX10_init 32 = .ok (.aload_n 0, 1) := by decide +kernel
theorem dX10_init_33 : decode cX10_init 33 = .ok (.iconst 0, 1) := by decide +kernel
theorem dX10_init_34 : decode cX10_init 34 = .ok (.putfield 25, 3) := by decide +kernel
theorem dX10_init_37 : decode cX10_init 37 = .ok (.aload_n 0, 1) := by decide +kernel
theorem dX10_init_38 : decode cX10_init 38 = .ok (.bipush 35, 2) := by decide +kernel
theorem dX10_init_40 : decode cX10_init 40 = .ok (.putfield 28, 3) := by decide +kernel
theorem dX10_init_43 : decode cX10_init 43 = .ok (.aload_n 0, 1) := by decide +kernel
theorem dX10_init_44 : decode cX10_init 44 = .ok (.iconst 0, 1) := by decide +kernel
theorem dX10_init_45 : decode cX10_init 45 = .ok (.putfield 31, 3) := by decide +kernel
theorem dX10_init_48 : decode cX10_init 48 = .ok (.aload_n 0, 1) := by decide +kernel
theorem dX10_init_49 : decode cX10_init 49 = .ok (.iconst 0, 1) := by decide +kernel
theorem dX10_init_50 : decode cX10_init 50 = .ok (.putfield 34, 3) := by decide +kernel
theorem dX10_init_53 : decode cX10_init 53 = .ok (.aload_n 0, 1) := by decide +kernel
theorem dX10_init_54 : decode cX10_init 54 = .ok (.iconst 0, 1) := by decide +kernel
theorem dX10_init_55 : decode cX10_init 55 = .ok (.putfield 37, 3) := by decide +kernel
theorem dX10_init_58 : decode cX10_init 58 = .ok (.aload_n 0, 1) := by decide +kernel
theorem dX10_init_59 : decode cX10_init 59 = .ok (.iconst (-1), 1) := by decide +kernel
theorem dX10_init_60 : decode cX10_init 60 = .ok (.putfield 40, 3) := by decide +kernel
theorem dX10_init_63 : decode cX10_init 63 = .ok (.return_, 1) := by decide +kernel
theorem dX2_init_0 : decode cX2_init 0 = .ok (.aload_n 0, 1) := by decide +kernel
theorem dX2_init_1 : decode cX2_init 1 = .ok (.invokespecial 3, 3) := by decide +kernel
theorem dX2_init_4 : decode cX2_init 4 = .ok (.aload_n 0, 1) := by decide +kernel
theorem dX2_init_5 : decode cX2_init 5 = .ok (.sipush 1616, 3) := by decide +kernel
theorem dX2_init_8 : decode cX2_init 8 = .ok (.newarray .int, 2) := by decide +kernel
theorem dX2_init_10 : decode cX2_init 10 = .ok (.putfield 9, 3) := by decide +kernel
theorem dX2_init_13 : decode cX2_init 13 = .ok (.aload_n 0, 1) := by decide +kernel
theorem dX2_init_14 : decode cX2_init 14 = .ok (.iconst 0, 1) := by decide +kernel
theorem dX2_init_15 : decode cX2_init 15 = .ok (.putfield 15, 3) := by decide +kernel
theorem dX2_init_18 : decode cX2_init 18 = .ok (.aload_n 0, 1) := by decide +kernel
theorem dX2_init_19 : decode cX2_init 19 = .ok (.bipush 8, 2) := by decide +kernel
theorem dX2_init_21 : decode cX2_init 21 = .ok (.newarray .int, 2) := by decide +kernel
theorem dX2_init_23 : decode cX2_init 23 = .ok (.putfield 19, 3) := by decide +kernel
theorem dX2_init_26 : decode cX2_init 26 = .ok (.aload_n 0, 1) := by decide +kernel
theorem dX2_init_27 : decode cX2_init 27 = .ok (.iconst 4, 1) := by decide +kernel
theorem dX2_init_28 : decode cX2_init 28 = .ok (.newarray .int, 2) := by decide +kernel
theorem dX2_init_30 : decode cX2_init 30 = .ok (.putfield 22, 3) := by decide +kernel
theorem dX2_init_33 : decode cX2_init 33 = .ok (.aload_n 0, 1) := by decide +kernel
theorem dX2_init_34 : decode cX2_init 34 = .ok (.bipush 8, 2) := by decide +kernel
theorem dX2_init_36 : decode cX2_init 36 = .ok (.newarray .int, 2) := by decide +kernel
theorem dX2_init_38 : decode cX2_init 38 = .ok (.putfield 25, 3) := by decide +kernel
theorem dX2_init_41 : decode cX2_init 41 = .ok (.aload_n 0, 1) := by decide +kernel
theorem dX2_init_42 : decode cX2_init 42 = .ok (.bipush 64, 2) := by decide +kernel
theorem dX2_init_44 : decode cX2_init 44 = .ok (.newarray .int, 2) := by decide +kernel
theorem dX2_init_46 : decode cX2_init 46 = .ok (.putfield 28, 3) := by decide +kernel
theorem dX2_init_49 : decode cX2_init 49 = .ok (.return_, 1) := by decide +kernel
theorem dX7_beginLaw_0 : decode cX7_beginLaw 0 = .ok (.iload_n 1, 1) := by decide +kernel
theorem dX7_beginLaw_1 : decode cX7_beginLaw 1 = .ok (.ifCond .lt 21, 3) := by decide +kernel
theorem dX7_beginLaw_4 : decode cX7_beginLaw 4 = .ok (.iload_n 1, 1) := by decide +kernel
theorem dX7_beginLaw_5 : decode cX7_beginLaw 5 = .ok (.iconst 3, 1) := by decide +kernel
theorem dX7_beginLaw_6 : decode cX7_beginLaw 6 = .ok (.if_icmp .ge 16, 3) := by decide +kernel
theorem dX7_beginLaw_9 : decode cX7_beginLaw 9 = .ok (.aload_n 0, 1) := by decide +kernel
theorem dX7_beginLaw_10 : decode cX7_beginLaw 10 = .ok (.getfield 64, 3) := by decide +kernel
theorem dX7_beginLaw_13 : decode cX7_beginLaw 13 = .ok (.iload_n 1, 1) := by decide +kernel
theorem dX7_beginLaw_14 : decode cX7_beginLaw 14 = .ok (.aload_n 0, 1) := by decide +kernel
theorem dX7_beginLaw_15 : decode cX7_beginLaw 15 = .ok (.getfield 60, 3) := by decide +kernel
theorem dX7_beginLaw_18 : decode cX7_beginLaw 18 = .ok (.getfield 73, 3) := by decide +kernel
theorem dX7_beginLaw_21 : decode cX7_beginLaw 21 = .ok (.iastore, 1) := by decide +kernel
theorem dX7_beginLaw_22 : decode cX7_beginLaw 22 = .ok (.return_, 1) := by decide +kernel
theorem dX2_add_0 : decode cX2_add 0 = .ok (.aload_n 0, 1) := by decide +kernel
theorem dX2_add_1 : decode cX2_add 1 = .ok (.getfield 15, 3) := by decide +kernel
theorem dX2_add_4 : decode cX2_add 4 = .ok (.aload_n 0, 1) := by decide +kernel
theorem dX2_add_5 : decode cX2_add 5 = .ok (.getfield 9, 3) := by decide +kernel
theorem dX2_add_8 : decode cX2_add 8 = .ok (.arraylength, 1) := by decide +kernel
theorem dX2_add_9 : decode cX2_add 9 = .ok (.if_icmp .lt 5, 3) := by decide +kernel
theorem dX2_add_12 : decode cX2_add 12 = .ok (.iconst 0, 1) := by decide +kernel
theorem dX2_add_13 : decode cX2_add 13 = .ok (.ireturn, 1) := by decide +kernel
theorem dX2_add_14 : decode cX2_add 14 = .ok (.aload_n 0, 1) := by decide +kernel
theorem dX2_add_15 : decode cX2_add 15 = .ok (.getfield 9, 3) := by decide +kernel
theorem dX2_add_18 : decode cX2_add 18 = .ok (.aload_n 0, 1) := by decide +kernel
theorem dX2_add_19 : decode cX2_add 19 = .ok (.getfield 15, 3) := by decide +kernel
theorem dX2_add_22 : decode cX2_add 22 = .ok (.iload_n 1, 1) := by decide +kernel
theorem dX2_add_23 : decode cX2_add 23 = .ok (.iastore, 1) := by decide +kernel
theorem dX2_add_24 : decode cX2_add 24 = .ok (.aload_n 0, 1) := by decide +kernel
theorem dX2_add_25 : decode cX2_add 25 = .ok (.dup, 1) := by decide +kernel
theorem dX2_add_26 : decode cX2_add 26 = .ok (.getfield 15, 3) := by decide +kernel
theorem dX2_add_29 : decode cX2_add 29 = .ok (.iconst 1, 1) := by decide +kernel
theorem dX2_add_30 : decode cX2_add 30 = .ok (.iadd, 1) := by decide +kernel
theorem dX2_add_31 : decode cX2_add 31 = .ok (.putfield 15, 3) := by decide +kernel
theorem dX2_add_34 : decode cX2_add 34 = .ok (.iconst 1, 1) := by decide +kernel
theorem dX2_add_35 : decode cX2_add 35 = .ok (.ireturn, 1) := by decide +kernel
theorem dX7_endLaw_0 : decode cX7_endLaw 0 = .ok (.iload_n 1, 1) := by decide +kernel
theorem dX7_endLaw_1 : decode cX7_endLaw 1 = .ok (.ifCond .lt 21, 3) := by decide +kernel
theorem dX7_endLaw_4 : decode cX7_endLaw 4 = .ok (.iload_n 1, 1) := by decide +kernel
theorem dX7_endLaw_5 : decode cX7_endLaw 5 = .ok (.iconst 3, 1) := by decide +kernel
theorem dX7_endLaw_6 : decode cX7_endLaw 6 = .ok (.if_icmp .ge 16, 3) := by decide +kernel
theorem dX7_endLaw_9 : decode cX7_endLaw 9 = .ok (.aload_n 0, 1) := by decide +kernel
theorem dX7_endLaw_10 : decode cX7_endLaw 10 = .ok (.getfield 67, 3) := by decide +kernel
theorem dX7_endLaw_13 : decode cX7_endLaw 13 = .ok (.iload_n 1, 1) := by decide +kernel
theorem dX7_endLaw_14 : decode cX7_endLaw 14 = .ok (.aload_n 0, 1) := by decide +kernel
theorem dX7_endLaw_15 : decode cX7_endLaw 15 = .ok (.getfield 60, 3) := by decide +kernel
theorem dX7_endLaw_18 : decode cX7_endLaw 18 = .ok (.getfield 73, 3) := by decide +kernel
theorem dX7_endLaw_21 : decode cX7_endLaw 21 = .ok (.iastore, 1) := by decide +kernel
theorem dX7_endLaw_22 : decode cX7_endLaw 22 = .ok (.return_, 1) := by decide +kernel
theorem dX7_clear_0 : decode cX7_clear 0 = .ok (.aload_n 0, 1) := by decide +kernel
theorem dX7_clear_1 : decode cX7_clear 1 = .ok (.iconst 0, 1) := by decide +kernel
theorem dX7_clear_2 : decode cX7_clear 2 = .ok (.putfield 9, 3) := by decide +kernel
theorem dX7_clear_5 : decode cX7_clear 5 = .ok (.aload_n 0, 1) := by decide +kernel
theorem dX7_clear_6 : decode cX7_clear 6 = .ok (.iconst 0, 1) := by decide +kernel
theorem dX7_clear_7 : decode cX7_clear 7 = .ok (.putfield 15, 3) := by decide +kernel
theorem dX7_clear_10 : decode cX7_clear 10 = .ok (.aload_n 0, 1) := by decide +kernel
theorem dX7_clear_11 : decode cX7_clear 11 = .ok (.iconst 0, 1) := by decide +kernel
theorem dX7_clear_12 : decode cX7_clear 12 = .ok (.putfield 18, 3) := by decide +kernel
theorem dX7_clear_15 : decode cX7_clear 15 = .ok (.aload_n 0, 1) := by decide +kernel
theorem dX7_clear_16 : decode cX7_clear 16 = .ok (.iconst 0, 1) := by decide +kernel
theorem dX7_clear_17 : decode cX7_clear 17 = .ok (.putfield 21, 3) := by decide +kernel
theorem dX7_clear_20 : decode cX7_clear 20 = .ok (.aload_n 0, 1) := by decide +kernel
theorem dX7_clear_21 : decode cX7_clear 21 = .ok (.iconst 0, 1) := by decide +kernel
theorem dX7_clear_22 : decode cX7_clear 22 = .ok (.putfield 24, 3) := by decide +kernel
theorem dX7_clear_25 : decode cX7_clear 25 = .ok (.aload_n 0, 1) := by decide +kernel
theorem dX7_clear_26 : decode cX7_clear 26 = .ok (.iconst 0, 1) := by decide +kernel
theorem dX7_clear_27 : decode cX7_clear 27 = .ok (.putfield 27, 3) := by decide +kernel
theorem dX7_clear_30 : decode cX7_clear 30 = .ok (.iconst 0, 1) := by decide +kernel
theorem dX7_clear_31 : decode cX7_clear 31 = .ok (.istore_n 1, 1) := by decide +kernel
theorem dX7_clear_32 : decode cX7_clear 32 = .ok (.iload_n 1, 1) := by decide +kernel
theorem dX7_clear_33 : decode cX7_clear 33 = .ok (.iconst 4, 1) := by decide +kernel
theorem dX7_clear_34 : decode cX7_clear 34 = .ok (.if_icmp .ge 16, 3) := by decide +kernel
theorem dX7_clear_37 : decode cX7_clear 37 = .ok (.aload_n 0, 1) := by decide +kernel
theorem dX7_clear_38 : decode cX7_clear 38 = .ok (.getfield 53, 3) := by decide +kernel
theorem dX7_clear_41 : decode cX7_clear 41 = .ok (.iload_n 1, 1) := by decide +kernel
theorem dX7_clear_42 : decode cX7_clear 42 = .ok (.lconst 0, 1) := by decide +kernel
theorem dX7_clear_43 : decode cX7_clear 43 = .ok (.lastore, 1) := by decide +kernel
theorem dX7_clear_44 : decode cX7_clear 44 = .ok (.iinc 1 1, 3) := by decide +kernel
theorem dX7_clear_47 : decode cX7_clear 47 = .ok (.goto (-15), 3) := by decide +kernel
theorem dX7_clear_50 : decode cX7_clear 50 = .ok (.aload_n 0, 1) := by decide +kernel
theorem dX7_clear_51 : decode cX7_clear 51 = .ok (.getfield 60, 3) := by decide +kernel
theorem dX7_clear_54 : decode cX7_clear 54 = .ok (.iconst 0, 1) := by decide +kernel
theorem dX7_clear_55 : decode cX7_clear 55 = .ok (.putfield 73, 3) := by decide +kernel
theorem dX7_clear_58 : decode cX7_clear 58 = .ok (.aload_n 0, 1) := by decide +kernel
theorem dX7_clear_59 : decode cX7_clear 59 = .ok (.iconst 0, 1) := by decide +kernel
theorem dX7_clear_60 : decode cX7_clear 60 = .ok (.invokevirtual 76, 3) := by decide +kernel
theorem dX7_clear_63 : decode cX7_clear 63 = .ok (.aload_n 0, 1) := by decide +kernel
theorem dX7_clear_64 : decode cX7_clear 64 = .ok (.getfield 60, 3) := by decide +kernel
theorem dX7_clear_67 : decode cX7_clear 67 = .ok (.bipush (-4), 2) := by decide +kernel
theorem dX7_clear_69 : decode cX7_clear 69 = .ok (.invokevirtual 80, 3) := by decide +kernel
theorem dX7_clear_72 : decode cX7_clear 72 = .ok (.pop, 1) := by decide +kernel
theorem dX7_clear_73 : decode cX7_clear 73 = .ok (.aload_n 0, 1) := by decide +kernel
theorem dX7_clear_74 : decode cX7_clear 74 = .ok (.getfield 60, 3) := by decide +kernel
theorem dX7_clear_77 : decode cX7_clear 77 = .ok (.bipush (-5), 2) := by decide +kernel
theorem dX7_clear_79 : decode cX7_clear 79 = .ok (.invokevirtual 80, 3) := by decide +kernel
theorem dX7_clear_82 : decode cX7_clear 82 = .ok (.pop, 1) := by decide +kernel
theorem dX7_clear_83 : decode cX7_clear 83 = .ok (.aload_n 0, 1) := by decide +kernel
theorem dX7_clear_84 : decode cX7_clear 84 = .ok (.getfield 60, 3) := by decide +kernel
theorem dX7_clear_87 : decode cX7_clear 87 = .ok (.bipush (-22), 2) := by decide +kernel
theorem dX7_clear_89 : decode cX7_clear 89 = .ok (.invokevirtual 80, 3) := by decide +kernel
theorem dX7_clear_92 : decode cX7_clear 92 = .ok (.pop, 1) := by decide +kernel
theorem dX7_clear_93 : decode cX7_clear 93 = .ok (.aload_n 0, 1) := by decide +kernel
theorem dX7_clear_94 : decode cX7_clear 94 = .ok (.iconst 0, 1) := by decide +kernel
theorem dX7_clear_95 : decode cX7_clear 95 = .ok (.invokevirtual 84, 3) := by decide +kernel
theorem dX7_clear_98 : decode cX7_clear 98 = .ok (.aload_n 0, 1) := by decide +kernel
theorem dX7_clear_99 : decode cX7_clear 99 = .ok (.iconst 1, 1) := by decide +kernel
theorem dX7_clear_100 : decode cX7_clear 100 = .ok (.invokevirtual 76, 3) := by decide +kernel
theorem dX7_clear_103 : decode cX7_clear 103 = .ok (.aload_n 0, 1) := by decide +kernel
theorem dX7_clear_104 : decode cX7_clear 104 = .ok (.getfield 60, 3) := by decide +kernel
theorem dX7_clear_107 : decode cX7_clear 107 = .ok (.iconst 0, 1) := by decide +kernel
theorem dX7_clear_108 : decode cX7_clear 108 = .ok (.invokevirtual 80, 3) := by decide +kernel
theorem dX7_clear_111 : decode cX7_clear 111 = .ok (.pop, 1) := by decide +kernel
theorem dX7_clear_112 : decode cX7_clear 112 = .ok (.aload_n 0, 1) := by decide +kernel
theorem dX7_clear_113 : decode cX7_clear 113 = .ok (.iconst 1, 1) := by decide +kernel
theorem dX7_clear_114 : decode cX7_clear 114 = .ok (.invokevirtual 84, 3) := by decide +kernel
theorem dX7_clear_117 : decode cX7_clear 117 = .ok (.aload_n 0, 1) := by decide +kernel
theorem dX7_clear_118 : decode cX7_clear 118 = .ok (.iconst 2, 1) := by decide +kernel
theorem dX7_clear_119 : decode cX7_clear 119 = .ok (.invokevirtual 76, 3) := by decide +kernel
theorem dX7_clear_122 : decode cX7_clear 122 = .ok (.aload_n 0, 1) := by decide +kernel
theorem dX7_clear_123 : decode cX7_clear 123 = .ok (.getfield 60, 3) := by decide +kernel
theorem dX7_clear_126 : decode cX7_clear 126 = .ok (.bipush (-6), 2) := by decide +kernel
theorem dX7_clear_128 : decode cX7_clear 128 = .ok (.invokevirtual 80, 3) := by decide +kernel
theorem dX7_clear_131 : decode cX7_clear 131 = .ok (.pop, 1) := by decide +kernel
theorem dX7_clear_132 : decode cX7_clear 132 = .ok (.aload_n 0, 1) := by decide +kernel
theorem dX7_clear_133 : decode cX7_clear 133 = .ok (.getfield 60, 3) := by decide +kernel
theorem dX7_clear_136 : decode cX7_clear 136 = .ok (.bipush 50, 2) := by decide +kernel
theorem dX7_clear_138 : decode cX7_clear 138 = .ok (.invokevirtual 80, 3) := by decide +kernel
theorem dX7_clear_141 : decode cX7_clear 141 = .ok (.pop, 1) := by decide +kernel
theorem dX7_clear_142 : decode cX7_clear 142 = .ok (.aload_n 0, 1) := by decide +kernel
theorem dX7_clear_143 : decode cX7_clear 143 = .ok (.getfield 60, 3) := by decide +kernel
theorem dX7_clear_146 : decode cX7_clear 146 = .ok (.bipush (-28), 2) := by decide +kernel
theorem dX7_clear_148 : decode cX7_clear 148 = .ok (.invokevirtual 80, 3) := by decide +kernel
theorem dX7_clear_151 : decode cX7_clear 151 = .ok (.pop, 1) := by decide +kernel
theorem dX7_clear_152 : decode cX7_clear 152 = .ok (.aload_n 0, 1) := by decide +kernel
theorem dX7_clear_153 : decode cX7_clear 153 = .ok (.iconst 2, 1) := by decide +kernel
theorem dX7_clear_154 : decode cX7_clear 154 = .ok (.invokevirtual 84, 3) := by decide +kernel
theorem dX7_clear_157 : decode cX7_clear 157 = .ok (.return_, 1) := by decide +kernel
theorem dX7_init_0 : decode cX7_init 0 = .ok (.aload_n 0, 1) := by decide +kernel
theorem dX7_init_1 : decode cX7_init 1 = .ok (.invokespecial 3, 3) := by decide +kernel
theorem dX7_init_4 : decode cX7_init 4 = .ok (.aload_n 0, 1) := by decide +kernel
theorem dX7_init_5 : decode cX7_init 5 = .ok (.iconst 0, 1) := by decide +kernel
theorem dX7_init_6 : decode cX7_init 6 = .ok (.putfield 9, 3) := by decide +kernel
theorem dX7_init_9 : decode cX7_init 9 = .ok (.aload_n 0, 1) := by decide +kernel
theorem dX7_init_10 : decode cX7_init 10 = .ok (.iconst 0, 1) := by decide +kernel
theorem dX7_init_11 : decode cX7_init 11 = .ok (.putfield 15, 3) := by decide +kernel
theorem dX7_init_14 : decode cX7_init 14 = .ok (.aload_n 0, 1) := by decide +kernel
theorem dX7_init_15 : decode cX7_init 15 = .ok (.iconst 0, 1) := by decide +kernel
theorem dX7_init_16 : decode cX7_init 16 = .ok (.putfield 18, 3) := by decide +kernel
theorem dX7_init_19 : decode cX7_init 19 = .ok (.aload_n 0, 1) := by decide +kernel
theorem dX7_init_20 : decode cX7_init 20 = .ok (.iconst 0, 1) := by decide +kernel
theorem dX7_init_21 : decode cX7_init 21 = .ok (.putfield 21, 3) := by decide +kernel
theorem dX7_init_24 : decode cX7_init 24 = .ok (.aload_n 0, 1) := by decide +kernel
theorem dX7_init_25 : decode cX7_init 25 = .ok (.iconst 0, 1) := by decide +kernel
theorem dX7_init_26 : decode cX7_init 26 = .ok (.putfield 24, 3) := by decide +kernel
theorem dX7_init_29 : decode cX7_init 29 = .ok (.aload_n 0, 1) := by decide +kernel
theorem dX7_init_30 : decode cX7_init 30 = .ok (.iconst 0, 1) := by decide +kernel
theorem dX7_init_31 : decode cX7_init 31 = .ok (.putfield 27, 3) := by decide +kernel
theorem dX7_init_34 : decode cX7_init 34 = .ok (.aload_n 0, 1) := by decide +kernel
theorem dX7_init_35 : decode cX7_init 35 = .ok (.bipush 8, 2) := by decide +kernel
theorem dX7_init_37 : decode cX7_init 37 = .ok (.newarray .int, 2) := by decide +kernel
theorem dX7_init_39 : decode cX7_init 39 = .ok (.putfield 31, 3) := by decide +kernel
theorem dX7_init_42 : decode cX7_init 42 = .ok (.aload_n 0, 1) := by decide +kernel
theorem dX7_init_43 : decode cX7_init 43 = .ok (.bipush 8, 2) := by decide +kernel
theorem dX7_init_45 : decode cX7_init 45 = .ok (.newarray .int, 2) := by decide +kernel
theorem dX7_init_47 : decode cX7_init 47 = .ok (.putfield 35, 3) := by decide +kernel
theorem dX7_init_50 : decode cX7_init 50 = .ok (.aload_n 0, 1) := by decide +kernel
theorem dX7_init_51 : decode cX7_init 51 = .ok (.bipush 8, 2) := by decide +kernel
theorem dX7_init_53 : decode cX7_init 53 = .ok (.newarray .int, 2) := by decide +kernel
theorem dX7_init_55 : decode cX7_init 55 = .ok (.putfield 38, 3) := by decide +kernel
theorem dX7_init_58 : decode cX7_init 58 = .ok (.aload_n 0, 1) := by decide +kernel
theorem dX7_init_59 : decode cX7_init 59 = .ok (.iconst 4, 1) := by decide +kernel
theorem dX7_init_60 : decode cX7_init 60 = .ok (.newarray .int, 2) := by decide +kernel
theorem dX7_init_62 : decode cX7_init 62 = .ok (.putfield 41, 3) := by decide +kernel
theorem dX7_init_65 : decode cX7_init 65 = .ok (.aload_n 0, 1) := by decide +kernel
theorem dX7_init_66 : decode cX7_init 66 = .ok (.bipush 12, 2) := by decide +kernel
theorem dX7_init_68 : decode cX7_init 68 = .ok (.newarray .int, 2) := by decide +kernel
theorem dX7_init_70 : decode cX7_init 70 = .ok (.putfield 44, 3) := by decide +kernel
theorem dX7_init_73 : decode cX7_init 73 = .ok (.aload_n 0, 1) := by decide +kernel
theorem dX7_init_74 : decode cX7_init 74 = .ok (.bipush 12, 2) := by decide +kernel
theorem dX7_init_76 : decode cX7_init 76 = .ok (.newarray .int, 2) := by decide +kernel
theorem dX7_init_78 : decode cX7_init 78 = .ok (.putfield 47, 3) := by decide +kernel
theorem dX7_init_81 : decode cX7_init 81 = .ok (.aload_n 0, 1) := by decide +kernel
theorem dX7_init_82 : decode cX7_init 82 = .ok (.bipush 12, 2) := by decide +kernel
theorem dX7_init_84 : decode cX7_init 84 = .ok (.newarray .int, 2) := by decide +kernel
theorem dX7_init_86 : decode cX7_init 86 = .ok (.putfield 50, 3) := by decide +kernel
theorem dX7_init_89 : decode cX7_init 89 = .ok (.aload_n 0, 1) := by decide +kernel
theorem dX7_init_90 : decode cX7_init 90 = .ok (.iconst 4, 1) := by decide +kernel
theorem dX7_init_91 : decode cX7_init 91 = .ok (.newarray .long, 2) := by decide +kernel
theorem dX7_init_93 : decode cX7_init 93 = .ok (.putfield 53, 3) := by decide +kernel
theorem dX7_init_96 : decode cX7_init 96 = .ok (.aload_n 0, 1) := by decide +kernel
theorem dX7_init_97 : decode cX7_init 97 = .ok (.new 57, 3) := by decide +kernel
theorem dX7_init_100 : decode cX7_init 100 = .ok (.dup, 1) := by decide +kernel
theorem dX7_init_101 : decode cX7_init 101 = .ok (.invokespecial 59, 3) := by decide +kernel
theorem dX7_init_104 : decode cX7_init 104 = .ok (.putfield 60, 3) := by decide +kernel
theorem dX7_init_107 : decode cX7_init 107 = .ok (.aload_n 0, 1) := by decide +kernel
theorem dX7_init_108 : decode cX7_init 108 = .ok (.iconst 3, 1) := by decide +kernel
theorem dX7_init_109 : decode cX7_init 109 = .ok (.newarray .int, 2) := by decide +kernel
theorem dX7_init_111 : decode cX7_init 111 = .ok (.putfield 64, 3) := by decide +kernel
theorem dX7_init_114 : decode cX7_init 114 = .ok (.aload_n 0, 1) := by decide +kernel
theorem dX7_init_115 : decode cX7_init 115 = .ok (.iconst 3, 1) := by decide +kernel
theorem dX7_init_116 : decode cX7_init 116 = .ok (.newarray .int, 2) := by decide +kernel
theorem dX7_init_118 : decode cX7_init 118 = .ok (.putfield 67, 3) := by decide +kernel
theorem dX7_init_121 : decode cX7_init 121 = .ok (.aload_n 0, 1) := by decide +kernel
theorem dX7_init_122 : decode cX7_init 122 = .ok (.invokevirtual 70, 3) := by decide +kernel
theorem dX7_init_125 : decode cX7_init 125 = .ok (.return_, 1) := by decide +kernel
theorem dX5_init_0 : decode cX5_init 0 = .ok (.aload_n 0, 1) := by decide +kernel
theorem dX5_init_1 : decode cX5_init 1 = .ok (.invokespecial 3, 3) := by decide +kernel
theorem dX5_init_4 : decode cX5_init 4 = .ok (.aload_n 0, 1) := by decide +kernel
theorem dX5_init_5 : decode cX5_init 5 = .ok (.iconst 0, 1) := by decide +kernel
theorem dX5_init_6 : decode cX5_init 6 = .ok (.putfield 9, 3) := by decide +kernel
theorem dX5_init_9 : decode cX5_init 9 = .ok (.aload_n 0, 1) := by decide +kernel
theorem dX5_init_10 : decode cX5_init 10 = .ok (.iconst 0, 1) := by decide +kernel
theorem dX5_init_11 : decode cX5_init 11 = .ok (.putfield 15, 3) := by decide +kernel
theorem dX5_init_14 : decode cX5_init 14 = .ok (.aload_n 0, 1) := by decide +kernel
theorem dX5_init_15 : decode cX5_init 15 = .ok (.aload_n 1, 1) := by decide +kernel
theorem dX5_init_16 : decode cX5_init 16 = .ok (.putfield 19, 3) := by decide +kernel
theorem dX5_init_19 : decode cX5_init 19 = .ok (.aload_n 0, 1) := by decide +kernel
theorem dX5_init_20 : decode cX5_init 20 = .ok (.aload_n 2, 1) := by decide +kernel
theorem dX5_init_21 : decode cX5_init 21 = .ok (.putfield 23, 3) := by decide +kernel
theorem dX5_init_24 : decode cX5_init 24 = .ok (.return_, 1) := by decide +kernel
theorem dX1_init_0 : decode cX1_init 0 = .ok (.aload_n 0, 1) := by decide +kernel
theorem dX1_init_1 : decode cX1_init 1 = .ok (.invokespecial 3, 3) := by decide +kernel
theorem dX1_init_4 : decode cX1_init 4 = .ok (.aload_n 0, 1) := by decide +kernel
theorem dX1_init_5 : decode cX1_init 5 = .ok (.iconst 0, 1) := by decide +kernel
theorem dX1_init_6 : decode cX1_init 6 = .ok (.putfield 9, 3) := by decide +kernel
theorem dX1_init_9 : decode cX1_init 9 = .ok (.aload_n 0, 1) := by decide +kernel
theorem dX1_init_10 : decode cX1_init 10 = .ok (.aload_n 1, 1) := by decide +kernel
theorem dX1_init_11 : decode cX1_init 11 = .ok (.putfield 15, 3) := by decide +kernel
theorem dX1_init_14 : decode cX1_init 14 = .ok (.aload_n 0, 1) := by decide +kernel
theorem dX1_init_15 : decode cX1_init 15 = .ok (.aload_n 2, 1) := by decide +kernel
theorem dX1_init_16 : decode cX1_init 16 = .ok (.putfield 19, 3) := by decide +kernel
theorem dX1_init_19 : decode cX1_init 19 = .ok (.aload_n 0, 1) := by decide +kernel
theorem dX1_init_20 : decode cX1_init 20 = .ok (.new 23, 3) := by decide +kernel
theorem dX1_init_23 : decode cX1_init 23 = .ok (.dup, 1) := by decide +kernel
theorem dX1_init_24 : decode cX1_init 24 = .ok (.aload_n 1, 1) := by decide +kernel
theorem dX1_init_25 : decode cX1_init 25 = .ok (.aload_n 2, 1) := by decide +kernel
theorem dX1_init_26 : decode cX1_init 26 = .ok (.getfield 25, 3) := by decide +kernel
theorem dX1_init_29 : decode cX1_init 29 = .ok (.invokespecial 31, 3) := by decide +kernel
theorem dX1_init_32 : decode cX1_init 32 = .ok (.putfield 34, 3) := by decide +kernel
theorem dX1_init_35 : decode cX1_init 35 = .ok (.return_, 1) := by decide +kernel
theorem dX9_init_0 : decode cX9_init 0 = .ok (.aload_n 0, 1) := by decide +kernel
theorem dX9_init_1 : decode cX9_init 1 = .ok (.invokespecial 3, 3) := by decide +kernel
theorem dX9_init_4 : decode cX9_init 4 = .ok (.aload_n 0, 1) := by decide +kernel
theorem dX9_init_5 : decode cX9_init 5 = .ok (.iconst 0, 1) := by decide +kernel
theorem dX9_init_6 : decode cX9_init 6 = .ok (.putfield 9, 3) := by decide +kernel
theorem dX9_init_9 : decode cX9_init 9 = .ok (.aload_n 0, 1) := by decide +kernel
theorem dX9_init_10 : decode cX9_init 10 = .ok (.iconst 0, 1) := by decide +kernel
theorem dX9_init_11 : decode cX9_init 11 = .ok (.putfield 15, 3) := by decide +kernel
theorem dX9_init_14 : decode cX9_init 14 = .ok (.aload_n 0, 1) := by decide +kernel
theorem dX9_init_15 : decode cX9_init 15 = .ok (.iconst 0, 1) := by decide +kernel
theorem dX9_init_16 : decode cX9_init 16 = .ok (.putfield 18, 3) := by decide +kernel
theorem dX9_init_19 : decode cX9_init 19 = .ok (.aload_n 0, 1) := by decide +kernel
theorem dX9_init_20 : decode cX9_init 20 = .ok (.iconst 4, 1) := by decide +kernel
theorem dX9_init_21 : decode cX9_init 21 = .ok (.newarray .long, 2) := by decide +kernel
theorem dX9_init_23 : decode cX9_init 23 = .ok (.putfield 21, 3) := by decide +kernel
theorem dX9_init_26 : decode cX9_init 26 = .ok (.aload_n 0, 1) := by decide +kernel
theorem dX9_init_27 : decode cX9_init 27 = .ok (.bipush 40, 2) := by decide +kernel
theorem dX9_init_29 : decode cX9_init 29 = .ok (.newarray .int, 2) := by decide +kernel
theorem dX9_init_31 : decode cX9_init 31 = .ok (.putfield 25, 3) := by decide +kernel
theorem dX9_init_34 : decode cX9_init 34 = .ok (.aload_n 0, 1) := by decide +kernel
theorem dX9_init_35 : decode cX9_init 35 = .ok (.iconst 0, 1) := by decide +kernel
theorem dX9_init_36 : decode cX9_init 36 = .ok (.putfield 29, 3) := by decide +kernel
theorem dX9_init_39 : decode cX9_init 39 = .ok (.return_, 1) := by decide +kernel
theorem dX3_init_0 : decode cX3_init 0 = .ok (.aload_n 0, 1) := by decide +kernel
theorem dX3_init_1 : decode cX3_init 1 = .ok (.invokespecial 3, 3) := by decide +kernel
theorem dX3_init_4 : decode cX3_init 4 = .ok (.aload_n 0, 1) := by decide +kernel
theorem dX3_init_5 : decode cX3_init 5 = .ok (.sipush 2400, 3) := by decide +kernel
theorem dX3_init_8 : decode cX3_init 8 = .ok (.newarray .int, 2) := by decide +kernel
theorem dX3_init_10 : decode cX3_init 10 = .ok (.putfield 9, 3) := by decide +kernel
theorem dX3_init_13 : decode cX3_init 13 = .ok (.aload_n 0, 1) := by decide +kernel
theorem dX3_init_14 : decode cX3_init 14 = .ok (.sipush 800, 3) := by decide +kernel
theorem dX3_init_17 : decode cX3_init 17 = .ok (.newarray .int, 2) := by decide +kernel
theorem dX3_init_19 : decode cX3_init 19 = .ok (.putfield 15, 3) := by decide +kernel
theorem dX3_init_22 : decode cX3_init 22 = .ok (.aload_n 0, 1) := by decide +kernel
theorem dX3_init_23 : decode cX3_init 23 = .ok (.iconst 1, 1) := by decide +kernel
theorem dX3_init_24 : decode cX3_init 24 = .ok (.putfield 18, 3) := by decide +kernel
theorem dX3_init_27 : decode cX3_init 27 = .ok (.aload_n 0, 1) := by decide +kernel
theorem dX3_init_28 : decode cX3_init 28 = .ok (.iconst 0, 1) := by decide +kernel
theorem dX3_init_29 : decode cX3_init 29 = .ok (.putfield 22, 3) := by decide +kernel
theorem dX3_init_32 : decode cX3_init 32 = .ok (.aload_n 0, 1) := by decide +kernel
theorem dX3_init_33 : decode cX3_init 33 = .ok (.bipush 8, 2) := by decide +kernel
theorem dX3_init_35 : decode cX3_init 35 = .ok (.newarray .int, 2) := by decide +kernel
theorem dX3_init_37 : decode cX3_init 37 = .ok (.putfield 25, 3) := by decide +kernel
theorem dX3_init_40 : decode cX3_init 40 = .ok (.aload_n 0, 1) := by decide +kernel
theorem dX3_init_41 : decode cX3_init 41 = .ok (.aload_n 1, 1) := by decide +kernel
theorem dX3_init_42 : decode cX3_init 42 = .ok (.putfield 28, 3) := by decide +kernel
theorem dX3_init_45 : decode cX3_init 45 = .ok (.return_, 1) := by decide +kernel
theorem dX6_init_0 : decode cX6_init 0 = .ok (.aload_n 0, 1) := by decide +kernel
theorem dX6_init_1 : decode cX6_init 1 = .ok (.invokespecial 3, 3) := by decide +kernel
theorem dX6_init_4 : decode cX6_init 4 = .ok (.aload_n 0, 1) := by decide +kernel
theorem dX6_init_5 : decode cX6_init 5 = .ok (.bipush 20, 2) := by decide +kernel
theorem dX6_init_7 : decode cX6_init 7 = .ok (.anewarray 9, 3) := by decide +kernel
theorem dX6_init_10 : decode cX6_init 10 = .ok (.putfield 11, 3) := by decide +kernel
theorem dX6_init_13 : decode cX6_init 13 = .ok (.aload_n 0, 1) := by decide +kernel
theorem dX6_init_14 : decode cX6_init 14 = .ok (.iconst 0, 1) := by decide +kernel
theorem dX6_init_15 : decode cX6_init 15 = .ok (.putfield 17, 3) := by decide +kernel
theorem dX6_init_18 : decode cX6_init 18 = .ok (.aload_n 0, 1) := by decide +kernel
theorem dX6_init_19 : decode cX6_init 19 = .ok (.iconst 0, 1) := by decide +kernel
theorem dX6_init_20 : decode cX6_init 20 = .ok (.putfield 21, 3) := by decide +kernel
theorem dX6_init_23 : decode cX6_init 23 = .ok (.iconst 0, 1) := by decide +kernel
theorem dX6_init_24 : decode cX6_init 24 = .ok (.istore_n 1, 1) := by decide +kernel
theorem dX6_init_25 : decode cX6_init 25 = .ok (.iload_n 1, 1) := by decide +kernel
theorem dX6_init_26 : decode cX6_init 26 = .ok (.bipush 20, 2) := by decide +kernel
theorem dX6_init_28 : decode cX6_init 28 = .ok (.if_icmp .ge 22, 3) := by decide +kernel
theorem dX6_init_31 : decode cX6_init 31 = .ok (.aload_n 0, 1) := by decide +kernel
theorem dX6_init_32 : decode cX6_init 32 = .ok (.getfield 11, 3) := by decide +kernel
theorem dX6_init_35 : decode cX6_init 35 = .ok (.iload_n 1, 1) := by decide +kernel
theorem dX6_init_36 : decode cX6_init 36 = .ok (.new 9, 3) := by decide +kernel
theorem dX6_init_39 : decode cX6_init 39 = .ok (.dup, 1) := by decide +kernel
theorem dX6_init_40 : decode cX6_init 40 = .ok (.invokespecial 24, 3) := by decide +kernel
theorem dX6_init_43 : decode cX6_init 43 = .ok (.aastore, 1) := by decide +kernel
theorem dX6_init_44 : decode cX6_init 44 = .ok (.iinc 1 1, 3) := by decide +kernel
theorem dX6_init_47 : decode cX6_init 47 = .ok (.goto (-22), 3) := by decide +kernel
theorem dX6_init_50 : decode cX6_init 50 = .ok (.return_, 1) := by decide +kernel
theorem dX8_init_0 : decode cX8_init 0 = .ok (.aload_n 0, 1) := by decide +kernel
theorem dX8_init_1 : decode cX8_init 1 = .ok (.invokespecial 3, 3) := by decide +kernel
theorem dX8_init_4 : decode cX8_init 4 = .ok (.aload_n 0, 1) := by decide +kernel
theorem dX8_init_5 : decode cX8_init 5 = .ok (.bipush 8, 2) := by decide +kernel
theorem dX8_init_7 : decode cX8_init 7 = .ok (.newarray .int, 2) := by decide +kernel
theorem dX8_init_9 : decode cX8_init 9 = .ok (.putfield 9, 3) := by decide +kernel
theorem dX8_init_12 : decode cX8_init 12 = .ok (.aload_n 0, 1) := by decide +kernel
theorem dX8_init_13 : decode cX8_init 13 = .ok (.bipush 8, 2) := by decide +kernel
theorem dX8_init_15 : decode cX8_init 15 = .ok (.newarray .int, 2) := by decide +kernel
theorem dX8_init_17 : decode cX8_init 17 = .ok (.putfield 15, 3) := by decide +kernel
theorem dX8_init_20 : decode cX8_init 20 = .ok (.aload_n 0, 1) := by decide +kernel
theorem dX8_init_21 : decode cX8_init 21 = .ok (.iconst 0, 1) := by decide +kernel
theorem dX8_init_22 : decode cX8_init 22 = .ok (.putfield 18, 3) := by decide +kernel
theorem dX8_init_25 : decode cX8_init 25 = .ok (.aload_n 0, 1) := by decide +kernel
theorem dX8_init_26 : decode cX8_init 26 = .ok (.sipush 924, 3) := by decide +kernel
theorem dX8_init_29 : decode cX8_init 29 = .ok (.newarray .int, 2) := by decide +kernel
theorem dX8_init_31 : decode cX8_init 31 = .ok (.putfield 22, 3) := by decide +kernel
theorem dX8_init_34 : decode cX8_init 34 = .ok (.aload_n 0, 1) := by decide +kernel
theorem dX8_init_35 : decode cX8_init 35 = .ok (.sipush 924, 3) := by decide +kernel
theorem dX8_init_38 : decode cX8_init 38 = .ok (.newarray .long, 2) := by decide +kernel
theorem dX8_init_40 : decode cX8_init 40 = .ok (.putfield 25, 3) := by decide +kernel
theorem dX8_init_43 : decode cX8_init 43 = .ok (.aload_n 0, 1) := by decide +kernel
theorem dX8_init_44 : decode cX8_init 44 = .ok (.iconst 0, 1) := by decide +kernel
theorem dX8_init_45 : decode cX8_init 45 = .ok (.putfield 29, 3) := by decide +kernel
theorem dX8_init_48 : decode cX8_init 48 = .ok (.aload_n 0, 1) := by decide +kernel
theorem dX8_init_49 : decode cX8_init 49 = .ok (.aload_n 1, 1) := by decide +kernel
theorem dX8_init_50 : decode cX8_init 50 = .ok (.putfield 32, 3) := by decide +kernel
theorem dX8_init_53 : decode cX8_init 53 = .ok (.aload_n 0, 1) := by decide +kernel
theorem dX8_init_54 : decode cX8_init 54 = .ok (.aload_n 2, 1) := by decide +kernel
theorem dX8_init_55 : decode cX8_init 55 = .ok (.putfield 36, 3) := by decide +kernel
theorem dX8_init_58 : decode cX8_init 58 = .ok (.return_, 1) := by decide +kernel
theorem dX4_init_0 : decode cX4_init 0 = .ok (.aload_n 0, 1) := by decide +kernel
theorem dX4_init_1 : decode cX4_init 1 = .ok (.invokespecial 3, 3) := by decide +kernel
theorem dX4_init_4 : decode cX4_init 4 = .ok (.aload_n 0, 1) := by decide +kernel
theorem dX4_init_5 : decode cX4_init 5 = .ok (.bipush 16, 2) := by decide +kernel
theorem dX4_init_7 : decode cX4_init 7 = .ok (.newarray .int, 2) := by decide +kernel
theorem dX4_init_9 : decode cX4_init 9 = .ok (.putfield 9, 3) := by decide +kernel
theorem dX4_init_12 : decode cX4_init 12 = .ok (.aload_n 0, 1) := by decide +kernel
theorem dX4_init_13 : decode cX4_init 13 = .ok (.bipush 16, 2) := by decide +kernel
theorem dX4_init_15 : decode cX4_init 15 = .ok (.newarray .int, 2) := by decide +kernel
theorem dX4_init_17 : decode cX4_init 17 = .ok (.putfield 15, 3) := by decide +kernel
theorem dX4_init_20 : decode cX4_init 20 = .ok (.aload_n 0, 1) := by decide +kernel
theorem dX4_init_21 : decode cX4_init 21 = .ok (.bipush 16, 2) := by decide +kernel
theorem dX4_init_23 : decode cX4_init 23 = .ok (.newarray .int, 2) := by decide +kernel
theorem dX4_init_25 : decode cX4_init 25 = .ok (.putfield 18, 3) := by decide +kernel
theorem dX4_init_28 : decode cX4_init 28 = .ok (.aload_n 0, 1) := by decide +kernel
theorem dX4_init_29 : decode cX4_init 29 = .ok (.iconst 0, 1) := by decide +kernel
theorem dX4_init_30 : decode cX4_init 30 = .ok (.putfield 21, 3) := by decide +kernel
theorem dX4_init_33 : decode cX4_init 33 = .ok (.aload_n 0, 1) := by decide +kernel
theorem dX4_init_34 : decode cX4_init 34 = .ok (.sipush 792, 3) := by decide +kernel
theorem dX4_init_37 : decode cX4_init 37 = .ok (.newarray .int, 2) := by decide +kernel
theorem dX4_init_39 : decode cX4_init 39 = .ok (.putfield 25, 3) := by decide +kernel
theorem dX4_init_42 : decode cX4_init 42 = .ok (.aload_n 0, 1) := by decide +kernel
theorem dX4_init_43 : decode cX4_init 43 = .ok (.sipush 792, 3) := by decide +kernel
theorem dX4_init_46 : decode cX4_init 46 = .ok (.newarray .long, 2) := by decide +kernel
theorem dX4_init_48 : decode cX4_init 48 = .ok (.putfield 28, 3) := by decide +kernel
theorem dX4_init_51 : decode cX4_init 51 = .ok (.aload_n 0, 1) := by decide +kernel
theorem dX4_init_52 : decode cX4_init 52 = .ok (.iconst 0, 1) := by decide +kernel
theorem dX4_init_53 : decode cX4_init 53 = .ok (.putfield 32, 3) := by decide +kernel
theorem dX4_init_56 : decode cX4_init 56 = .ok (.aload_n 0, 1) := by decide +kernel
theorem dX4_init_57 : decode cX4_init 57 = .ok (.bipush 100, 2) := by decide +kernel
theorem dX4_init_59 : decode cX4_init 59 = .ok (.newarray .int, 2) := by decide +kernel
theorem dX4_init_61 : decode cX4_init 61 = .ok (.putfield 35, 3) := by decide +kernel
theorem dX4_init_64 : decode cX4_init 64 = .ok (.aload_n 0, 1) := by decide +kernel
theorem dX4_init_65 : decode cX4_init 65 = .ok (.iconst 0, 1) := by decide +kernel
theorem dX4_init_66 : decode cX4_init 66 = .ok (.putfield 38, 3) := by decide +kernel
theorem dX4_init_69 : decode cX4_init 69 = .ok (.aload_n 0, 1) := by decide +kernel
theorem dX4_init_70 : decode cX4_init 70 = .ok (.iconst 0, 1) := by decide +kernel
theorem dX4_init_71 : decode cX4_init 71 = .ok (.putfield 41, 3) := by decide +kernel
theorem dX4_init_74 : decode cX4_init 74 = .ok (.aload_n 0, 1) := by decide +kernel
theorem dX4_init_75 : decode cX4_init 75 = .ok (.iconst 0, 1) := by decide +kernel
theorem dX4_init_76 : decode cX4_init 76 = .ok (.putfield 44, 3) := by decide +kernel
theorem dX4_init_79 : decode cX4_init 79 = .ok (.aload_n 0, 1) := by decide +kernel
theorem dX4_init_80 : decode cX4_init 80 = .ok (.iconst 0, 1) := by decide +kernel
theorem dX4_init_81 : decode cX4_init 81 = .ok (.putfield 47, 3) := by decide +kernel
theorem dX4_init_84 : decode cX4_init 84 = .ok (.aload_n 0, 1) := by decide +kernel
theorem dX4_init_85 : decode cX4_init 85 = .ok (.iconst 0, 1) := by decide +kernel
theorem dX4_init_86 : decode cX4_init 86 = .ok (.putfield 51, 3) := by decide +kernel
theorem dX4_init_89 : decode cX4_init 89 = .ok (.aload_n 0, 1) := by decide +kernel
theorem dX4_init_90 : decode cX4_init 90 = .ok (.aload_n 1, 1) := by decide +kernel
theorem dX4_init_91 : decode cX4_init 91 = .ok (.putfield 54, 3) := by decide +kernel
theorem dX4_init_94 : decode cX4_init 94 = .ok (.aload_n 0, 1) := by decide +kernel
theorem dX4_init_95 : decode cX4_init 95 = .ok (.aload_n 2, 1) := by decide +kernel
theorem dX4_init_96 : decode cX4_init 96 = .ok (.putfield 58, 3) := by decide +kernel
theorem dX4_init_99 : decode cX4_init 99 = .ok (.return_, 1) := by decide +kernel
theorem dX0_init_0 : decode cX0_init 0 = .ok (.aload_n 0, 1) := by decide +kernel
theorem dX0_init_1 : decode cX0_init 1 = .ok (.invokespecial 3, 3) := by decide +kernel
theorem dX0_init_4 : decode cX0_init 4 = .ok (.aload_n 0, 1) := by decide +kernel
theorem dX0_init_5 : decode cX0_init 5 = .ok (.new 9, 3) := by decide +kernel
theorem dX0_init_8 : decode cX0_init 8 = .ok (.dup, 1) := by decide +kernel
theorem dX0_init_9 : decode cX0_init 9 = .ok (.invokespecial 11, 3) := by decide +kernel
theorem dX0_init_12 : decode cX0_init 12 = .ok (.putfield 12, 3) := by decide +kernel
theorem dX0_init_15 : decode cX0_init 15 = .ok (.aload_n 0, 1) := by decide +kernel
theorem dX0_init_16 : decode cX0_init 16 = .ok (.aload_n 1, 1) := by decide +kernel
theorem dX0_init_17 : decode cX0_init 17 = .ok (.putfield 18, 3) := by decide +kernel
theorem dX0_init_20 : decode cX0_init 20 = .ok (.aload_n 0, 1) := by decide +kernel
theorem dX0_init_21 : decode cX0_init 21 = .ok (.aload_n 2, 1) := by decide +kernel
theorem dX0_init_22 : decode cX0_init 22 = .ok (.putfield 22, 3) := by decide +kernel
theorem dX0_init_25 : decode cX0_init 25 = .ok (.aload_n 0, 1) := by decide +kernel
theorem dX0_init_26 : decode cX0_init 26 = .ok (.aload_n 3, 1) := by decide +kernel
theorem dX0_init_27 : decode cX0_init 27 = .ok (.putfield 26, 3) := by decide +kernel
theorem dX0_init_30 : decode cX0_init 30 = .ok (.aload_n 0, 1) := by decide +kernel
theorem dX0_init_31 : decode cX0_init 31 = .ok (.aload 4, 2) := by decide +kernel
theorem dX0_init_33 : decode cX0_init 33 = .ok (.putfield 30, 3) := by decide +kernel
theorem dX0_init_36 : decode cX0_init 36 = .ok (.aload_n 0, 1) := by decide +kernel
theorem dX0_init_37 : decode cX0_init 37 = .ok (.new 34, 3) := by decide +kernel
theorem dX0_init_40 : decode cX0_init 40 = .ok (.dup, 1) := by decide +kernel
theorem dX0_init_41 : decode cX0_init 41 = .ok (.aload_n 1, 1) := by decide +kernel
theorem dX0_init_42 : decode cX0_init 42 = .ok (.aload_n 0, 1) := by decide +kernel
theorem dX0_init_43 : decode cX0_init 43 = .ok (.getfield 12, 3) := by decide +kernel
theorem dX0_init_46 : decode cX0_init 46 = .ok (.invokespecial 36, 3) := by decide +kernel
theorem dX0_init_49 : decode cX0_init 49 = .ok (.putfield 39, 3) := by decide +kernel
theorem dX0_init_52 : decode cX0_init 52 = .ok (.return_, 1) := by decide +kernel
theorem dX11_init_0 : decode cX11_init 0 = .ok (.aload_n 0, 1) := by decide +kernel
theorem dX11_init_1 : decode cX11_init 1 = .ok (.invokespecial 1, 3) := by decide +kernel
theorem dX11_init_4 : decode cX11_init 4 = .ok (.aload_n 0, 1) := by decide +kernel
theorem dX11_init_5 : decode cX11_init 5 = .ok (.new 7, 3) := by decide +kernel
theorem dX11_init_8 : decode cX11_init 8 = .ok (.dup, 1) := by decide +kernel
theorem dX11_init_9 : decode cX11_init 9 = .ok (.invokespecial 9, 3) := by decide +kernel
theorem dX11_init_12 : decode cX11_init 12 = .ok (.putfield 10, 3) := by decide +kernel
theorem dX11_init_15 : decode cX11_init 15 = .ok (.aload_n 0, 1) := by decide +kernel
theorem dX11_init_16 : decode cX11_init 16 = .ok (.new 16, 3) := by decide +kernel
theorem dX11_init_19 : decode cX11_init 19 = .ok (.dup, 1) := by decide +kernel
theorem dX11_init_20 : decode cX11_init 20 = .ok (.invokespecial 18, 3) := by decide +kernel
theorem dX11_init_23 : decode cX11_init 23 = .ok (.putfield 19, 3) := by decide +kernel
theorem dX11_init_26 : decode cX11_init 26 = .ok (.aload_n 0, 1) := by decide +kernel
theorem dX11_init_27 : decode cX11_init 27 = .ok (.new 23, 3) := by decide +kernel
theorem dX11_init_30 : decode cX11_init 30 = .ok (.dup, 1) := by decide +kernel
theorem dX11_init_31 : decode cX11_init 31 = .ok (.aload_n 0, 1) := by decide +kernel
theorem dX11_init_32 : decode cX11_init 32 = .ok (.getfield 10, 3) := by decide +kernel
theorem dX11_init_35 : decode cX11_init 35 = .ok (.aload_n 0, 1) := by decide +kernel
theorem dX11_init_36 : decode cX11_init 36 = .ok (.getfield 19, 3) := by decide +kernel
theorem dX11_init_39 : decode cX11_init 39 = .ok (.invokespecial 25, 3) := by decide +kernel
theorem dX11_init_42 : decode cX11_init 42 = .ok (.putfield 28, 3) := by decide +kernel
theorem dX11_init_45 : decode cX11_init 45 = .ok (.aload_n 0, 1) := by decide +kernel
theorem dX11_init_46 : decode cX11_init 46 = .ok (.new 32, 3) := by decide +kernel
theorem dX11_init_49 : decode cX11_init 49 = .ok (.dup, 1) := by decide +kernel
theorem dX11_init_50 : decode cX11_init 50 = .ok (.invokespecial 34, 3) := by decide +kernel
theorem dX11_init_53 : decode cX11_init 53 = .ok (.putfield 35, 3) := by decide +kernel
theorem dX11_init_56 : decode cX11_init 56 = .ok (.aload_n 0, 1) := by decide +kernel
theorem dX11_init_57 : decode cX11_init 57 = .ok (.new 32, 3) := by decide +kernel
theorem dX11_init_60 : decode cX11_init 60 = .ok (.dup, 1) := by decide +kernel
theorem dX11_init_61 : decode cX11_init 61 = .ok (.invokespecial 34, 3) := by decide +kernel
theorem dX11_init_64 : decode cX11_init 64 = .ok (.putfield 39, 3) := by decide +kernel
theorem dX11_init_67 : decode cX11_init 67 = .ok (.aload_n 0, 1) := by decide +kernel
theorem dX11_init_68 : decode cX11_init 68 = .ok (.new 42, 3) := by decide +kernel
theorem dX11_init_71 : decode cX11_init 71 = .ok (.dup, 1) := by decide +kernel
theorem dX11_init_72 : decode cX11_init 72 = .ok (.new 16, 3) := by decide +kernel
theorem dX11_init_75 : decode cX11_init 75 = .ok (.dup, 1) := by decide +kernel
theorem dX11_init_76 : decode cX11_init 76 = .ok (.invokespecial 18, 3) := by decide +kernel
theorem dX11_init_79 : decode cX11_init 79 = .ok (.invokespecial 44, 3) := by decide +kernel
theorem dX11_init_82 : decode cX11_init 82 = .ok (.putfield 47, 3) := by decide +kernel
theorem dX11_init_85 : decode cX11_init 85 = .ok (.aload_n 0, 1) := by decide +kernel
theorem dX11_init_86 : decode cX11_init 86 = .ok (.new 51, 3) := by decide +kernel
theorem dX11_init_89 : decode cX11_init 89 = .ok (.dup, 1) := by decide +kernel
theorem dX11_init_90 : decode cX11_init 90 = .ok (.invokespecial 53, 3) := by decide +kernel
theorem dX11_init_93 : decode cX11_init 93 = .ok (.putfield 54, 3) := by decide +kernel
theorem dX11_init_96 : decode cX11_init 96 = .ok (.aload_n 0, 1) := by decide +kernel
theorem dX11_init_97 : decode cX11_init 97 = .ok (.new 58, 3) := by decide +kernel
theorem dX11_init_100 : decode cX11_init 100 = .ok (.dup, 1) := by decide +kernel
theorem dX11_init_101 : decode cX11_init 101 = .ok (.aload_n 0, 1) := by decide +kernel
theorem dX11_init_102 : decode cX11_init 102 = .ok (.getfield 47, 3) := by decide +kernel
theorem dX11_init_105 : decode cX11_init 105 = .ok (.aload_n 0, 1) := by decide +kernel
theorem dX11_init_106 : decode cX11_init 106 = .ok (.getfield 35, 3) := by decide +kernel
theorem dX11_init_109 : decode cX11_init 109 = .ok (.invokespecial 60, 3) := by decide +kernel
theorem dX11_init_112 : decode cX11_init 112 = .ok (.putfield 63, 3) := by decide +kernel
theorem dX11_init_115 : decode cX11_init 115 = .ok (.aload_n 0, 1) := by decide +kernel
theorem dX11_init_116 : decode cX11_init 116 = .ok (.new 67, 3) := by decide +kernel
theorem dX11_init_119 : decode cX11_init 119 = .ok (.dup, 1) := by decide +kernel
theorem dX11_init_120 : decode cX11_init 120 = .ok (.aload_n 0, 1) := by decide +kernel
theorem dX11_init_121 : decode cX11_init 121 = .ok (.getfield 47, 3) := by decide +kernel
theorem dX11_init_124 : decode cX11_init 124 = .ok (.aload_n 0, 1) := by decide +kernel
theorem dX11_init_125 : decode cX11_init 125 = .ok (.getfield 35, 3) := by decide +kernel
theorem dX11_init_128 : decode cX11_init 128 = .ok (.invokespecial 69, 3) := by decide +kernel
theorem dX11_init_131 : decode cX11_init 131 = .ok (.putfield 70, 3) := by decide +kernel
theorem dX11_init_134 : decode cX11_init 134 = .ok (.aload_n 0, 1) := by decide +kernel
theorem dX11_init_135 : decode cX11_init 135 = .ok (.new 74, 3) := by decide +kernel
theorem dX11_init_138 : decode cX11_init 138 = .ok (.dup, 1) := by decide +kernel
theorem dX11_init_139 : decode cX11_init 139 = .ok (.aload_n 0, 1) := by decide +kernel
theorem dX11_init_140 : decode cX11_init 140 = .ok (.getfield 10, 3) := by decide +kernel
theorem dX11_init_143 : decode cX11_init 143 = .ok (.aload_n 0, 1) := by decide +kernel
theorem dX11_init_144 : decode cX11_init 144 = .ok (.getfield 47, 3) := by decide +kernel
theorem dX11_init_147 : decode cX11_init 147 = .ok (.aload_n 0, 1) := by decide +kernel
theorem dX11_init_148 : decode cX11_init 148 = .ok (.getfield 35, 3) := by decide +kernel
theorem dX11_init_151 : decode cX11_init 151 = .ok (.aload_n 0, 1) := by decide +kernel
theorem dX11_init_152 : decode cX11_init 152 = .ok (.getfield 63, 3) := by decide +kernel
theorem dX11_init_155 : decode cX11_init 155 = .ok (.invokespecial 76, 3) := by decide +kernel
theorem dX11_init_158 : decode cX11_init 158 = .ok (.putfield 79, 3) := by decide +kernel
theorem dX11_init_161 : decode cX11_init 161 = .ok (.aload_n 0, 1) := by decide +kernel
theorem dX11_init_162 : decode cX11_init 162 = .ok (.bipush 59, 2) := by decide +kernel
theorem dX11_init_164 : decode cX11_init 164 = .ok (.newarray .int, 2) := by decide +kernel
theorem dX11_init_166 : decode cX11_init 166 = .ok (.putfield 83, 3) := by decide +kernel
theorem dX11_init_169 : decode cX11_init 169 = .ok (.aload_n 0, 1) := by decide +kernel
theorem dX11_init_170 : decode cX11_init 170 = .ok (.iconst 0, 1) := by decide +kernel
theorem dX11_init_171 : decode cX11_init 171 = .ok (.putfield 87, 3) := by decide +kernel
theorem dX11_init_174 : decode cX11_init 174 = .ok (.aload_n 0, 1) := by decide +kernel
theorem dX11_init_175 : decode cX11_init 175 = .ok (.bipush 6, 2) := by decide +kernel
theorem dX11_init_177 : decode cX11_init 177 = .ok (.newarray .int, 2) := by decide +kernel
theorem dX11_init_179 : decode cX11_init 179 = .ok (.putfield 91, 3) := by decide +kernel
theorem dX11_init_182 : decode cX11_init 182 = .ok (.aload_n 0, 1) := by decide +kernel
theorem dX11_init_183 : decode cX11_init 183 = .ok (.iconst 1, 1) := by decide +kernel
theorem dX11_init_184 : decode cX11_init 184 = .ok (.putfield 94, 3) := by decide +kernel
theorem dX11_init_187 : decode cX11_init 187 = .ok (.return_, 1) := by decide +kernel
theorem dX11_refuse_0 : decode cX11_refuse 0 = .ok (.iload_n 1, 1) := by decide +kernel
theorem dX11_refuse_1 : decode cX11_refuse 1 = .ok (.ifCond .lt 19, 3) := by decide +kernel
theorem dX11_refuse_4 : decode cX11_refuse 4 = .ok (.iload_n 1, 1) := by decide +kernel
theorem dX11_refuse_5 : decode cX11_refuse 5 = .ok (.bipush 6, 2) := by decide +kernel
theorem dX11_refuse_7 : decode cX11_refuse 7 = .ok (.if_icmp .ge 13, 3) := by decide +kernel
theorem dX11_refuse_10 : decode cX11_refuse 10 = .ok (.aload_n 0, 1) := by decide +kernel
theorem dX11_refuse_11 : decode cX11_refuse 11 = .ok (.getfield 91, 3) := by decide +kernel
theorem dX11_refuse_14 : decode cX11_refuse 14 = .ok (.iload_n 1, 1) := by decide +kernel
theorem dX11_refuse_15 : decode cX11_refuse 15 = .ok (.dup2, 1) := by decide +kernel
theorem dX11_refuse_16 : decode cX11_refuse 16 = .ok (.iaload, 1) := by decide +kernel
theorem dX11_refuse_17 : decode cX11_refuse 17 = .ok (.iconst 1, 1) := by decide +kernel
theorem dX11_refuse_18 : decode cX11_refuse 18 = .ok (.iadd, 1) := by decide +kernel
theorem dX11_refuse_19 : decode cX11_refuse 19 = .ok (.iastore, 1) := by decide +kernel
theorem dX11_refuse_20 : decode cX11_refuse 20 = .ok (.iconst (-1), 1) := by decide +kernel
theorem dX11_refuse_21 : decode cX11_refuse 21 = .ok (.ireturn, 1) := by decide +kernel
theorem dX10_append_0 : decode cX10_append 0 = .ok (.bipush 24, 2) := by decide +kernel
theorem dX10_append_2 : decode cX10_append 2 = .ok (.istore_n 2, 1) := by decide +kernel
theorem dX10_append_3 : decode cX10_append 3 = .ok (.iload_n 2, 1) := by decide +kernel
theorem dX10_append_4 : decode cX10_append 4 = .ok (.ifCond .lt 45, 3) := by decide +kernel
theorem dX10_append_7 : decode cX10_append 7 = .ok (.aload_n 0, 1) := by decide +kernel
theorem dX10_append_8 : decode cX10_append 8 = .ok (.getfield 15, 3) := by decide +kernel
theorem dX10_append_11 : decode cX10_append 11 = .ok (.sipush 1600, 3) := by decide +kernel
theorem dX10_append_14 : decode cX10_append 14 = .ok (.if_icmp .ge 29, 3) := by decide +kernel
theorem dX10_append_17 : decode cX10_append 17 = .ok (.aload_n 0, 1) := by decide +kernel
theorem dX10_append_18 : decode cX10_append 18 = .ok (.getfield 9, 3) := by decide +kernel
theorem dX10_append_21 : decode cX10_append 21 = .ok (.aload_n 0, 1) := by decide +kernel
theorem dX10_append_22 : decode cX10_append 22 = .ok (.getfield 15, 3) := by decide +kernel
theorem dX10_append_25 : decode cX10_append 25 = .ok (.iload_n 1, 1) := by decide +kernel
theorem dX10_append_26 : decode cX10_append 26 = .ok (.iload_n 2, 1) := by decide +kernel
theorem dX10_append_27 : decode cX10_append 27 = .ok (.ishr, 1) := by decide +kernel
theorem dX10_append_28 : decode cX10_append 28 = .ok (.sipush 255, 3) := by decide +kernel
theorem dX10_append_31 : decode cX10_append 31 = .ok (.iand, 1) := by decide +kernel
theorem dX10_append_32 : decode cX10_append 32 = .ok (.iastore, 1) := by decide +kernel
theorem dX10_append_33 : decode cX10_append 33 = .ok (.aload_n 0, 1) := by decide +kernel
theorem dX10_append_34 : decode cX10_append 34 = .ok (.dup, 1) := by decide +kernel
theorem dX10_append_35 : decode cX10_append 35 = .ok (.getfield 15, 3) := by decide +kernel
theorem dX10_append_38 : decode cX10_append 38 = .ok (.iconst 1, 1) := by decide +kernel
theorem dX10_append_39 : decode cX10_append 39 = .ok (.iadd, 1) := by decide +kernel
theorem dX10_append_40 : decode cX10_append 40 = .ok (.putfield 15, 3) := by decide +kernel
theorem dX10_append_43 : decode cX10_append 43 = .ok (.iinc 2 (-8), 3) := by decide +kernel
theorem dX10_append_46 : decode cX10_append 46 = .ok (.goto (-43), 3) := by decide +kernel
theorem dX10_append_49 : decode cX10_append 49 = .ok (.return_, 1) := by decide +kernel
theorem dX11_feed_0 : decode cX11_feed 0 = .ok (.aload_n 0, 1) := by decide +kernel
theorem dX11_feed_1 : decode cX11_feed 1 = .ok (.getfield 10, 3) := by decide +kernel
theorem dX11_feed_4 : decode cX11_feed 4 = .ok (.getfield 97, 3) := by decide +kernel
theorem dX11_feed_7 : decode cX11_feed 7 = .ok (.bipush 20, 2) := by decide +kernel
theorem dX11_feed_9 : decode cX11_feed 9 = .ok (.iadd, 1) := by decide +kernel
theorem dX11_feed_10 : decode cX11_feed 10 = .ok (.sipush 1600, 3) := by decide +kernel
theorem dX11_feed_13 : decode cX11_feed 13 = .ok (.if_icmp .le 9, 3) := by decide +kernel
theorem dX11_feed_16 : decode cX11_feed 16 = .ok (.aload_n 0, 1) := by decide +kernel
theorem dX11_feed_17 : decode cX11_feed 17 = .ok (.iconst 0, 1) := by decide +kernel
theorem dX11_feed_18 : decode cX11_feed 18 = .ok (.invokevirtual 100, 3) := by decide +kernel
theorem dX11_feed_21 : decode cX11_feed 21 = .ok (.ireturn, 1) := by decide +kernel
theorem dX11_feed_22 : decode cX11_feed 22 = .ok (.aload_n 0, 1) := by decide +kernel
theorem dX11_feed_23 : decode cX11_feed 23 = .ok (.getfield 10, 3) := by decide +kernel
theorem dX11_feed_26 : decode cX11_feed 26 = .ok (.iload_n 1, 1) := by decide +kernel
theorem dX11_feed_27 : decode cX11_feed 27 = .ok (.invokevirtual 104, 3) := by decide +kernel
theorem dX11_feed_30 : decode cX11_feed 30 = .ok (.aload_n 0, 1) := by decide +kernel
theorem dX11_feed_31 : decode cX11_feed 31 = .ok (.getfield 10, 3) := by decide +kernel
theorem dX11_feed_34 : decode cX11_feed 34 = .ok (.iload_n 2, 1) := by decide +kernel
theorem dX11_feed_35 : decode cX11_feed 35 = .ok (.invokevirtual 104, 3) := by decide +kernel
theorem dX11_feed_38 : decode cX11_feed 38 = .ok (.aload_n 0, 1) := by decide +kernel
theorem dX11_feed_39 : decode cX11_feed 39 = .ok (.getfield 10, 3) := by decide +kernel
theorem dX11_feed_42 : decode cX11_feed 42 = .ok (.iload_n 3, 1) := by decide +kernel
theorem dX11_feed_43 : decode cX11_feed 43 = .ok (.invokevirtual 104, 3) := by decide +kernel
theorem dX11_feed_46 : decode cX11_feed 46 = .ok (.aload_n 0, 1) := by decide +kernel
theorem dX11_feed_47 : decode cX11_feed 47 = .ok (.getfield 10, 3) := by decide +kernel
theorem dX11_feed_50 : decode cX11_feed 50 = .ok (.iload 4, 2) := by decide +kernel
theorem dX11_feed_52 : decode cX11_feed 52 = .ok (.invokevirtual 104, 3) := by decide +kernel
theorem dX11_feed_55 : decode cX11_feed 55 = .ok (.aload_n 0, 1) := by decide +kernel
theorem dX11_feed_56 : decode cX11_feed 56 = .ok (.getfield 10, 3) := by decide +kernel
theorem dX11_feed_59 : decode cX11_feed 59 = .ok (.iload 5, 2) := by decide +kernel
theorem dX11_feed_61 : decode cX11_feed 61 = .ok (.invokevirtual 104, 3) := by decide +kernel
theorem dX11_feed_64 : decode cX11_feed 64 = .ok (.aload_n 0, 1) := by decide +kernel
theorem dX11_feed_65 : decode cX11_feed 65 = .ok (.getfield 10, 3) := by decide +kernel
theorem dX11_feed_68 : decode cX11_feed 68 = .ok (.getfield 97, 3) := by decide +kernel
theorem dX11_feed_71 : decode cX11_feed 71 = .ok (.ireturn, 1) := by decide +kernel
theorem dX11_refused_0 : decode cX11_refused 0 = .ok (.aload_n 0, 1) := by decide +kernel
theorem dX11_refused_1 : decode cX11_refused 1 = .ok (.iload_n 1, 1) := by decide +kernel
theorem dX11_refused_2 : decode cX11_refused 2 = .ok (.invokevirtual 100, 3) := by decide +kernel
theorem dX11_refused_5 : decode cX11_refused 5 = .ok (.pop, 1) := by decide +kernel
theorem dX11_refused_6 : decode cX11_refused 6 = .ok (.iconst 0, 1) := by decide +kernel
theorem dX11_refused_7 : decode cX11_refused 7 = .ok (.ireturn, 1) := by decide +kernel
theorem dX11_end_0 : decode cX11_end 0 = .ok (.iload_n 1, 1) := by decide +kernel
theorem dX11_end_1 : decode cX11_end 1 = .ok (.ifCond .lt 14, 3) := by decide +kernel
theorem dX11_end_4 : decode cX11_end 4 = .ok (.iload_n 1, 1) := by decide +kernel
theorem dX11_end_5 : decode cX11_end 5 = .ok (.aload_n 0, 1) := by decide +kernel
theorem dX11_end_6 : decode cX11_end 6 = .ok (.getfield 10, 3) := by decide +kernel
theorem dX11_end_9 : decode cX11_end 9 = .ok (.getfield 97, 3) := by decide +kernel
theorem dX11_end_12 : decode cX11_end 12 = .ok (.if_icmp .le 9, 3) := by decide +kernel
theorem dX11_end_15 : decode cX11_end 15 = .ok (.aload_n 0, 1) := by decide +kernel
theorem dX11_end_16 : decode cX11_end 16 = .ok (.iconst 0, 1) := by decide +kernel
theorem dX11_end_17 : decode cX11_end 17 = .ok (.invokevirtual 108, 3) := by decide +kernel
theorem dX11_end_20 : decode cX11_end 20 = .ok (.ireturn, 1) := by decide +kernel
theorem dX11_end_21 : decode cX11_end 21 = .ok (.aload_n 0, 1) := by decide +kernel
theorem dX11_end_22 : decode cX11_end 22 = .ok (.getfield 10, 3) := by decide +kernel
theorem dX11_end_25 : decode cX11_end 25 = .ok (.iload_n 1, 1) := by decide +kernel
theorem dX11_end_26 : decode cX11_end 26 = .ok (.putfield 97, 3) := by decide +kernel
theorem dX11_end_29 : decode cX11_end 29 = .ok (.iconst 1, 1) := by decide +kernel
theorem dX11_end_30 : decode cX11_end 30 = .ok (.ireturn, 1) := by decide +kernel
theorem dX10_octetAt_0 : decode cX10_octetAt 0 = .ok (.iload_n 1, 1) := by decide +kernel
theorem dX10_octetAt_1 : decode cX10_octetAt 1 = .ok (.ifCond .lt 20, 3) := by decide +kernel
theorem dX10_octetAt_4 : decode cX10_octetAt 4 = .ok (.iload_n 1, 1) := by decide +kernel
theorem dX10_octetAt_5 : decode cX10_octetAt 5 = .ok (.aload_n 0, 1) := by decide +kernel
theorem dX10_octetAt_6 : decode cX10_octetAt 6 = .ok (.getfield 15, 3) := by decide +kernel
theorem dX10_octetAt_9 : decode cX10_octetAt 9 = .ok (.if_icmp .ge 12, 3) := by decide +kernel
theorem dX10_octetAt_12 : decode cX10_octetAt 12 = .ok (.aload_n 0, 1) := by decide +kernel
theorem dX10_octetAt_13 : decode cX10_octetAt 13 = .ok (.getfield 9, 3) := by decide +kernel
theorem dX10_octetAt_16 : decode cX10_octetAt 16 = .ok (.iload_n 1, 1) := by decide +kernel
theorem dX10_octetAt_17 : decode cX10_octetAt 17 = .ok (.iaload, 1) := by decide +kernel
theorem dX10_octetAt_18 : decode cX10_octetAt 18 = .ok (.goto 4, 3) := by decide +kernel
theorem dX10_octetAt_21 : decode cX10_octetAt 21 = .ok (.iconst (-1), 1) := by decide +kernel
theorem dX10_octetAt_22 : decode cX10_octetAt 22 = .ok (.ireturn, 1) := by decide +kernel
theorem dX10_isLetter_0 : decode cX10_isLetter 0 = .ok (.iload_n 0, 1) := by decide +kernel
theorem dX10_isLetter_1 : decode cX10_isLetter 1 = .ok (.bipush 97, 2) := by decide +kernel
theorem dX10_isLetter_3 : decode cX10_isLetter 3 = .ok (.if_icmp .lt 13, 3) := by decide +kernel
theorem dX10_isLetter_6 : decode cX10_isLetter 6 = .ok (.iload_n 0, 1) := by decide +kernel
theorem dX10_isLetter_7 : decode cX10_isLetter 7 = .ok (.bipush 122, 2) := by decide +kernel
theorem dX10_isLetter_9 : decode cX10_isLetter 9 = .ok (.if_icmp .gt 7, 3) := by decide +kernel
theorem dX10_isLetter_12 : decode cX10_isLetter 12 = .ok (.iconst 1, 1) := by decide +kernel
theorem dX10_isLetter_13 : decode cX10_isLetter 13 = .ok (.goto 4, 3) := by decide +kernel
theorem dX10_isLetter_16 : decode cX10_isLetter 16 = .ok (.iconst 0, 1) := by decide +kernel
theorem dX10_isLetter_17 : decode cX10_isLetter 17 = .ok (.ireturn, 1) := by decide +kernel
theorem dX10_endOfWord_0 : decode cX10_endOfWord 0 = .ok (.iload_n 1, 1) := by decide +kernel
theorem dX10_endOfWord_1 : decode cX10_endOfWord 1 = .ok (.istore_n 2, 1) := by decide +kernel
theorem dX10_endOfWord_2 : decode cX10_endOfWord 2 = .ok (.iload_n 2, 1) := by decide +kernel
theorem dX10_endOfWord_3 : decode cX10_endOfWord 3 = .ok (.aload_n 0, 1) := by decide +kernel
theorem dX10_endOfWord_4 : decode cX10_endOfWord 4 = .ok (.getfield 15, 3) := by decide +kernel
theorem dX10_endOfWord_7 : decode cX10_endOfWord 7 = .ok (.if_icmp .ge 20, 3) := by decide +kernel
theorem dX10_endOfWord_10 : decode cX10_endOfWord 10 = .ok (.aload_n 0, 1) := by decide +kernel
theorem dX10_endOfWord_11 : decode cX10_endOfWord 11 = .ok (.iload_n 2, 1) := by decide +kernel
theorem dX10_endOfWord_12 : decode cX10_endOfWord 12 = .ok (.invokevirtual 43, 3) := by decide +kernel
theorem dX10_endOfWord_15 : decode cX10_endOfWord 15 = .ok (.invokestatic 47, 3) := by decide +kernel
theorem dX10_endOfWord_18 : decode cX10_endOfWord 18 = .ok (.ifCond .eq 9, 3) := by decide +kernel
theorem dX10_endOfWord_21 : decode cX10_endOfWord 21 = .ok (.iinc 2 1, 3) := by decide +kernel
theorem dX10_endOfWord_24 : decode cX10_endOfWord 24 = .ok (.goto (-22), 3) := by decide +kernel
theorem dX10_endOfWord_27 : decode cX10_endOfWord 27 = .ok (.iload_n 2, 1) := by decide +kernel
theorem dX10_endOfWord_28 : decode cX10_endOfWord 28 = .ok (.ireturn, 1) := by decide +kernel
theorem dX10_wordOf_0 : decode cX10_wordOf 0 = .ok (.iconst 0, 1) := by decide +kernel
theorem dX10_wordOf_1 : decode cX10_wordOf 1 = .ok (.istore_n 3, 1) := by decide +kernel
theorem dX10_wordOf_2 : decode cX10_wordOf 2 = .ok (.iload_n 1, 1) := by decide +kernel
theorem dX10_wordOf_3 : decode cX10_wordOf 3 = .ok (.istore 4, 2) := by decide +kernel
theorem dX10_wordOf_5 : decode cX10_wordOf 5 = .ok (.iconst 1, 1) := by decide +kernel
theorem dX10_wordOf_6 : decode cX10_wordOf 6 = .ok (.istore 5, 2) := by decide +kernel
theorem dX10_wordOf_8 : decode cX10_wordOf 8 = .ok (.iconst 0, 1) := by decide +kernel
theorem dX10_wordOf_9 : decode cX10_wordOf 9 = .ok (.istore 6, 2) := by decide +kernel
theorem dX10_wordOf_11 : decode cX10_wordOf 11 = .ok (.iload 6, 2) := by decide +kernel
theorem dX10_wordOf_13 : decode cX10_wordOf 13 = .ok (.ldc 74, 2) := by decide +kernel
theorem dX10_wordOf_15 : decode cX10_wordOf 15 = .ok (.invokevirtual 76, 3) := by decide +kernel
theorem dX10_wordOf_18 : decode cX10_wordOf 18 = .ok (.if_icmp .ge 82, 3) := by decide +kernel
theorem dX10_wordOf_21 : decode cX10_wordOf 21 = .ok (.ldc 74, 2) := by decide +kernel
theorem dX10_wordOf_23 : decode cX10_wordOf 23 = .ok (.iload 6, 2) := by decide +kernel
theorem dX10_wordOf_25 : decode cX10_wordOf 25 = .ok (.invokevirtual 82, 3) := by decide +kernel
theorem dX10_wordOf_28 : decode cX10_wordOf 28 = .ok (.istore 7, 2) := by decide +kernel
theorem dX10_wordOf_30 : decode cX10_wordOf 30 = .ok (.iload 7, 2) := by decide +kernel
theorem dX10_wordOf_32 : decode cX10_wordOf 32 = .ok (.bipush 32, 2) := by decide +kernel
theorem dX10_wordOf_34 : decode cX10_wordOf 34 = .ok (.if_icmp .ne 28, 3) := by decide +kernel
theorem dX10_wordOf_37 : decode cX10_wordOf 37 = .ok (.iload 5, 2) := by decide +kernel
theorem dX10_wordOf_39 : decode cX10_wordOf 39 = .ok (.ifCond .eq 11, 3) := by decide +kernel
theorem dX10_wordOf_42 : decode cX10_wordOf 42 = .ok (.iload 4, 2) := by decide +kernel
theorem dX10_wordOf_44 : decode cX10_wordOf 44 = .ok (.iload_n 2, 1) := by decide +kernel
theorem dX10_wordOf_45 : decode cX10_wordOf 45 = .ok (.if_icmp .ne 5, 3) := by decide +kernel
theorem dX10_wordOf_48 : decode cX10_wordOf 48 = .ok (.iload_n 3, 1) := by decide +kernel
theorem dX10_wordOf_49 : decode cX10_wordOf 49 = .ok (.ireturn, 1) := by decide +kernel
theorem dX10_wordOf_50 : decode cX10_wordOf 50 = .ok (.iinc 3 1, 3) := by decide +kernel
theorem dX10_wordOf_53 : decode cX10_wordOf 53 = .ok (.iload_n 1, 1) := by decide +kernel
theorem dX10_wordOf_54 : decode cX10_wordOf 54 = .ok (.istore 4, 2) := by decide +kernel
theorem dX10_wordOf_56 : decode cX10_wordOf 56 = .ok (.iconst 1, 1) := by decide +kernel
theorem dX10_wordOf_57 : decode cX10_wordOf 57 = .ok (.istore 5, 2) := by decide +kernel
theorem dX10_wordOf_59 : decode cX10_wordOf 59 = .ok (.goto 35, 3) := by decide +kernel
theorem dX10_wordOf_62 : decode cX10_wordOf 62 = .ok (.iload 5, 2) := by decide +kernel
theorem dX10_wordOf_64 : decode cX10_wordOf 64 = .ok (.ifCond .eq 30, 3) := by decide +kernel
theorem dX10_wordOf_67 : decode cX10_wordOf 67 = .ok (.iload 4, 2) := by decide +kernel
theorem dX10_wordOf_69 : decode cX10_wordOf 69 = .ok (.iload_n 2, 1) := by decide +kernel
theorem dX10_wordOf_70 : decode cX10_wordOf 70 = .ok (.if_icmp .ge 18, 3) := by decide +kernel
theorem dX10_wordOf_73 : decode cX10_wordOf 73 = .ok (.aload_n 0, 1) := by decide +kernel
theorem dX10_wordOf_74 : decode cX10_wordOf 74 = .ok (.iload 4, 2) := by decide +kernel
theorem dX10_wordOf_76 : decode cX10_wordOf 76 = .ok (.invokevirtual 43, 3) := by decide +kernel
theorem dX10_wordOf_79 : decode cX10_wordOf 79 = .ok (.iload 7, 2) := by decide +kernel
theorem dX10_wordOf_81 : decode cX10_wordOf 81 = .ok (.if_icmp .ne 7, 3) := by decide +kernel
theorem dX10_wordOf_84 : decode cX10_wordOf 84 = .ok (.iconst 1, 1) := by decide +kernel
theorem dX10_wordOf_85 : decode cX10_wordOf 85 = .ok (.goto 4, 3) := by decide +kernel
theorem dX10_wordOf_88 : decode cX10_wordOf 88 = .ok (.iconst 0, 1) := by decide +kernel
theorem dX10_wordOf_89 : decode cX10_wordOf 89 = .ok (.istore 5, 2) := by decide +kernel
theorem dX10_wordOf_91 : decode cX10_wordOf 91 = .ok (.iinc 4 1, 3) := by decide +kernel
theorem dX10_wordOf_94 : decode cX10_wordOf 94 = .ok (.iinc 6 1, 3) := by decide +kernel
theorem dX10_wordOf_97 : decode cX10_wordOf 97 = .ok (.goto (-86), 3) := by decide +kernel
theorem dX10_wordOf_100 : decode cX10_wordOf 100 = .ok (.bipush 32, 2) := by decide +kernel
theorem dX10_wordOf_102 : decode cX10_wordOf 102 = .ok (.ireturn, 1) := by decide +kernel
theorem dX10_addItem_0 : decode cX10_addItem 0 = .ok (.aload_n 0, 1) := by decide +kernel
theorem dX10_addItem_1 : decode cX10_addItem 1 = .ok (.getfield 22, 3) := by decide +kernel
theorem dX10_addItem_4 : decode cX10_addItem 4 = .ok (.aload_n 0, 1) := by decide +kernel
theorem dX10_addItem_5 : decode cX10_addItem 5 = .ok (.getfield 19, 3) := by decide +kernel
theorem dX10_addItem_8 : decode cX10_addItem 8 = .ok (.arraylength, 1) := by decide +kernel
theorem dX10_addItem_9 : decode cX10_addItem 9 = .ok (.if_icmp .ge 33, 3) := by decide +kernel
theorem dX10_addItem_12 : decode cX10_addItem 12 = .ok (.aload_n 0, 1) := by decide +kernel
theorem dX10_addItem_13 : decode cX10_addItem 13 = .ok (.getfield 19, 3) := by decide +kernel
theorem dX10_addItem_16 : decode cX10_addItem 16 = .ok (.aload_n 0, 1) := by decide +kernel
theorem dX10_addItem_17 : decode cX10_addItem 17 = .ok (.getfield 22, 3) := by decide +kernel
theorem dX10_addItem_20 : decode cX10_addItem 20 = .ok (.iload_n 1, 1) := by decide +kernel
theorem dX10_addItem_21 : decode cX10_addItem 21 = .ok (.iload_n 2, 1) := by decide +kernel
theorem dX10_addItem_22 : decode cX10_addItem 22 = .ok (.bipush 10, 2) := by decide +kernel
theorem dX10_addItem_24 : decode cX10_addItem 24 = .ok (.ishl, 1) := by decide +kernel
theorem dX10_addItem_25 : decode cX10_addItem 25 = .ok (.ior, 1) := by decide +kernel
theorem dX10_addItem_26 : decode cX10_addItem 26 = .ok (.iload_n 3, 1) := by decide +kernel
theorem dX10_addItem_27 : decode cX10_addItem 27 = .ok (.bipush 21, 2) := by decide +kernel
theorem dX10_addItem_29 : decode cX10_addItem 29 = .ok (.ishl, 1) := by decide +kernel
theorem dX10_addItem_30 : decode cX10_addItem 30 = .ok (.ior, 1) := by decide +kernel
theorem dX10_addItem_31 : decode cX10_addItem 31 = .ok (.iastore, 1) := by decide +kernel
theorem dX10_addItem_32 : decode cX10_addItem 32 = .ok (.aload_n 0, 1) := by decide +kernel
theorem dX10_addItem_33 : decode cX10_addItem 33 = .ok (.dup, 1) := by decide +kernel
theorem dX10_addItem_34 : decode cX10_addItem 34 = .ok (.getfield 22, 3) := by decide +kernel
theorem dX10_addItem_37 : decode cX10_addItem 37 = .ok (.iconst 1, 1) := by decide +kernel
theorem dX10_addItem_38 : decode cX10_addItem 38 = .ok (.iadd, 1) := by decide +kernel
theorem dX10_addItem_39 : decode cX10_addItem 39 = .ok (.putfield 22, 3) := by decide +kernel
theorem dX10_addItem_42 : decode cX10_addItem 42 = .ok (.return_, 1) := by decide +kernel
theorem dX10_isDigit_0 : decode cX10_isDigit 0 = .ok (.iload_n 0, 1) := by decide +kernel
theorem dX10_isDigit_1 : decode cX10_isDigit 1 = .ok (.bipush 48, 2) := by decide +kernel
theorem dX10_isDigit_3 : decode cX10_isDigit 3 = .ok (.if_icmp .lt 13, 3) := by decide +kernel
theorem dX10_isDigit_6 : decode cX10_isDigit 6 = .ok (.iload_n 0, 1) := by decide +kernel
theorem dX10_isDigit_7 : decode cX10_isDigit 7 = .ok (.bipush 57, 2) := by decide +kernel
theorem dX10_isDigit_9 : decode cX10_isDigit 9 = .ok (.if_icmp .gt 7, 3) := by decide +kernel
theorem dX10_isDigit_12 : decode cX10_isDigit 12 = .ok (.iconst 1, 1) := by decide +kernel
theorem dX10_isDigit_13 : decode cX10_isDigit 13 = .ok (.goto 4, 3) := by decide +kernel
theorem dX10_isDigit_16 : decode cX10_isDigit 16 = .ok (.iconst 0, 1) := by decide +kernel
theorem dX10_isDigit_17 : decode cX10_isDigit 17 = .ok (.ireturn, 1) := by decide +kernel
theorem dX10_endOfNumber_0 : decode cX10_endOfNumber 0 = .ok (.iload_n 1, 1) := by decide +kernel
theorem dX10_endOfNumber_1 : decode cX10_endOfNumber 1 = .ok (.istore_n 2, 1) := by decide +kernel
theorem dX10_endOfNumber_2 : decode cX10_endOfNumber 2 = .ok (.iload_n 2, 1) := by decide +kernel
theorem dX10_endOfNumber_3 : decode cX10_endOfNumber 3 = .ok (.aload_n 0, 1) := by decide +kernel
theorem dX10_endOfNumber_4 : decode cX10_endOfNumber 4 = .ok (.getfield 15, 3) := by decide +kernel
theorem dX10_endOfNumber_7 : decode cX10_endOfNumber 7 = .ok (.if_icmp .ge 20, 3) := by decide +kernel
theorem dX10_endOfNumber_10 : decode cX10_endOfNumber 10 = .ok (.aload_n 0, 1) := by decide +kernel
theorem dX10_endOfNumber_11 : decode cX10_endOfNumber 11 = .ok (.iload_n 2, 1) := by decide +kernel
theorem dX10_endOfNumber_12 : decode cX10_endOfNumber 12 = .ok (.invokevirtual 43, 3) := by decide +kernel
theorem dX10_endOfNumber_15 : decode cX10_endOfNumber 15 = .ok (.invokestatic 62, 3) := by decide +kernel
theorem dX10_endOfNumber_18 : decode cX10_endOfNumber 18 = .ok (.ifCond .eq 9, 3) := by decide +kernel
theorem dX10_endOfNumber_21 : decode cX10_endOfNumber 21 = .ok (.iinc 2 1, 3) := by decide +kernel
theorem dX10_endOfNumber_24 : decode cX10_endOfNumber 24 = .ok (.goto (-22), 3) := by decide +kernel
theorem dX10_endOfNumber_27 : decode cX10_endOfNumber 27 = .ok (.iload_n 2, 1) := by decide +kernel
theorem dX10_endOfNumber_28 : decode cX10_endOfNumber 28 = .ok (.ireturn, 1) := by decide +kernel
theorem dX10_isBlank_0 : decode cX10_isBlank 0 = .ok (.iload_n 0, 1) := by decide +kernel
theorem dX10_isBlank_1 : decode cX10_isBlank 1 = .ok (.bipush 10, 2) := by decide +kernel
theorem dX10_isBlank_3 : decode cX10_isBlank 3 = .ok (.if_icmp .eq 9, 3) := by decide +kernel
theorem dX10_isBlank_6 : decode cX10_isBlank 6 = .ok (.iload_n 0, 1) := by decide +kernel
theorem dX10_isBlank_7 : decode cX10_isBlank 7 = .ok (.bipush 32, 2) := by decide +kernel
theorem dX10_isBlank_9 : decode cX10_isBlank 9 = .ok (.if_icmp .ne 7, 3) := by decide +kernel
theorem dX10_isBlank_12 : decode cX10_isBlank 12 = .ok (.iconst 1, 1) := by decide +kernel
theorem dX10_isBlank_13 : decode cX10_isBlank 13 = .ok (.goto 4, 3) := by decide +kernel
theorem dX10_isBlank_16 : decode cX10_isBlank 16 = .ok (.iconst 0, 1) := by decide +kernel
theorem dX10_isBlank_17 : decode cX10_isBlank 17 = .ok (.ireturn, 1) := by decide +kernel
theorem dX10_advance_0 : decode cX10_advance 0 = .ok (.aload_n 0, 1) := by decide +kernel
theorem dX10_advance_1 : decode cX10_advance 1 = .ok (.getfield 25, 3) := by decide +kernel
theorem dX10_advance_4 : decode cX10_advance 4 = .ok (.iconst 1, 1) := by decide +kernel
theorem dX10_advance_5 : decode cX10_advance 5 = .ok (.iadd, 1) := by decide +kernel
theorem dX10_advance_6 : decode cX10_advance 6 = .ok (.aload_n 0, 1) := by decide +kernel
theorem dX10_advance_7 : decode cX10_advance 7 = .ok (.getfield 22, 3) := by decide +kernel
theorem dX10_advance_10 : decode cX10_advance 10 = .ok (.if_icmp .ge 66, 3) := by decide +kernel
theorem dX10_advance_13 : decode cX10_advance 13 = .ok (.aload_n 0, 1) := by decide +kernel
theorem dX10_advance_14 : decode cX10_advance 14 = .ok (.dup, 1) := by decide +kernel
theorem dX10_advance_15 : decode cX10_advance 15 = .ok (.getfield 25, 3) := by decide +kernel
theorem dX10_advance_18 : decode cX10_advance 18 = .ok (.iconst 1, 1) := by decide +kernel
theorem dX10_advance_19 : decode cX10_advance 19 = .ok (.iadd, 1) := by decide +kernel
theorem dX10_advance_20 : decode cX10_advance 20 = .ok (.putfield 25, 3) := by decide +kernel
theorem dX10_advance_23 : decode cX10_advance 23 = .ok (.aload_n 0, 1) := by decide +kernel
theorem dX10_advance_24 : decode cX10_advance 24 = .ok (.aload_n 0, 1) := by decide +kernel
theorem dX10_advance_25 : decode cX10_advance 25 = .ok (.getfield 19, 3) := by decide +kernel
theorem dX10_advance_28 : decode cX10_advance 28 = .ok (.aload_n 0, 1) := by decide +kernel
theorem dX10_advance_29 : decode cX10_advance 29 = .ok (.getfield 25, 3) := by decide +kernel
theorem dX10_advance_32 : decode cX10_advance 32 = .ok (.iaload, 1) := by decide +kernel
theorem dX10_advance_33 : decode cX10_advance 33 = .ok (.sipush 1023, 3) := by decide +kernel
theorem dX10_advance_36 : decode cX10_advance 36 = .ok (.iand, 1) := by decide +kernel
theorem dX10_advance_37 : decode cX10_advance 37 = .ok (.putfield 28, 3) := by decide +kernel
theorem dX10_advance_40 : decode cX10_advance 40 = .ok (.aload_n 0, 1) := by decide +kernel
theorem dX10_advance_41 : decode cX10_advance 41 = .ok (.aload_n 0, 1) := by decide +kernel
theorem dX10_advance_42 : decode cX10_advance 42 = .ok (.getfield 19, 3) := by decide +kernel
theorem dX10_advance_45 : decode cX10_advance 45 = .ok (.aload_n 0, 1) := by decide +kernel
theorem dX10_advance_46 : decode cX10_advance 46 = .ok (.getfield 25, 3) := by decide +kernel
theorem dX10_advance_49 : decode cX10_advance 49 = .ok (.iaload, 1) := by decide +kernel
theorem dX10_advance_50 : decode cX10_advance 50 = .ok (.bipush 10, 2) := by decide +kernel
theorem dX10_advance_52 : decode cX10_advance 52 = .ok (.ishr, 1) := by decide +kernel
theorem dX10_advance_53 : decode cX10_advance 53 = .ok (.sipush 2047, 3) := by decide +kernel
theorem dX10_advance_56 : decode cX10_advance 56 = .ok (.iand, 1) := by decide +kernel
theorem dX10_advance_57 : decode cX10_advance 57 = .ok (.putfield 31, 3) := by decide +kernel
theorem dX10_advance_60 : decode cX10_advance 60 = .ok (.aload_n 0, 1) := by decide +kernel
theorem dX10_advance_61 : decode cX10_advance 61 = .ok (.aload_n 0, 1) := by decide +kernel
theorem dX10_advance_62 : decode cX10_advance 62 = .ok (.getfield 19, 3) := by decide +kernel
theorem dX10_advance_65 : decode cX10_advance 65 = .ok (.aload_n 0, 1) := by decide +kernel
theorem dX10_advance_66 : decode cX10_advance 66 = .ok (.getfield 25, 3) := by decide +kernel
theorem dX10_advance_69 : decode cX10_advance 69 = .ok (.iaload, 1) := by decide +kernel
theorem dX10_advance_70 : decode cX10_advance 70 = .ok (.bipush 21, 2) := by decide +kernel
theorem dX10_advance_72 : decode cX10_advance 72 = .ok (.iushr, 1) := by decide +kernel
theorem dX10_advance_73 : decode cX10_advance 73 = .ok (.putfield 34, 3) := by decide +kernel
theorem dX10_advance_76 : decode cX10_advance 76 = .ok (.return_, 1) := by decide +kernel
theorem dX10_beginReading_0 : decode cX10_beginReading 0 = .ok (.aload_n 0, 1) := by decide +kernel
theorem dX10_beginReading_1 : decode cX10_beginReading 1 = .ok (.iconst 0, 1) := by decide +kernel
theorem dX10_beginReading_2 : decode cX10_beginReading 2 = .ok (.putfield 37, 3) := by decide +kernel
theorem dX10_beginReading_5 : decode cX10_beginReading 5 = .ok (.aload_n 0, 1) := by decide +kernel
theorem dX10_beginReading_6 : decode cX10_beginReading 6 = .ok (.iconst (-1), 1) := by decide +kernel
theorem dX10_beginReading_7 : decode cX10_beginReading 7 = .ok (.putfield 40, 3) := by decide +kernel
theorem dX10_beginReading_10 : decode cX10_beginReading 10 = .ok (.aload_n 0, 1) := by decide +kernel
theorem dX10_beginReading_11 : decode cX10_beginReading 11 = .ok (.iconst 0, 1) := by decide +kernel
theorem dX10_beginReading_12 : decode cX10_beginReading 12 = .ok (.putfield 22, 3) := by decide +kernel
theorem dX10_beginReading_15 : decode cX10_beginReading 15 = .ok (.iconst 0, 1) := by decide +kernel
theorem dX10_beginReading_16 : decode cX10_beginReading 16 = .ok (.istore_n 1, 1) := by decide +kernel
theorem dX10_beginReading_17 : decode cX10_beginReading 17 = .ok (.iconst 0, 1) := by decide +kernel
theorem dX10_beginReading_18 : decode cX10_beginReading 18 = .ok (.istore_n 2, 1) := by decide +kernel
theorem dX10_beginReading_19 : decode cX10_beginReading 19 = .ok (.iconst 0, 1) := by decide +kernel
theorem dX10_beginReading_20 : decode cX10_beginReading 20 = .ok (.istore_n 3, 1) := by decide +kernel
theorem dX10_beginReading_21 : decode cX10_beginReading 21 = .ok (.iload_n 3, 1) := by decide +kernel
theorem dX10_beginReading_22 : decode cX10_beginReading 22 = .ok (.sipush 1600, 3) := by decide +kernel
theorem dX10_beginReading_25 : decode cX10_beginReading 25 = .ok (.if_icmp .ge 152, 3) := by decide +kernel
theorem dX10_beginReading_28 : decode cX10_beginReading 28 = .ok (.iload_n 2, 1) := by decide +kernel
theorem dX10_beginReading_29 : decode cX10_beginReading 29 = .ok (.aload_n 0, 1) := by decide +kernel
theorem dX10_beginReading_30 : decode cX10_beginReading 30 = .ok (.getfield 15, 3) := by decide +kernel
theorem dX10_beginReading_33 : decode cX10_beginReading 33 = .ok (.if_icmp .ge 144, 3) := by decide +kernel
theorem dX10_beginReading_36 : decode cX10_beginReading 36 = .ok (.aload_n 0, 1) := by decide +kernel
theorem dX10_beginReading_37 : decode cX10_beginReading 37 = .ok (.iload_n 2, 1) := by decide +kernel
theorem dX10_beginReading_38 : decode cX10_beginReading 38 = .ok (.invokevirtual 43, 3) := by decide +kernel
theorem dX10_beginReading_41 : decode cX10_beginReading 41 = .ok (.istore 4, 2) := by decide +kernel
theorem dX10_beginReading_43 : decode cX10_beginReading 43 = .ok (.iload_n 2, 1) := by decide +kernel
theorem dX10_beginReading_44 : decode cX10_beginReading 44 = .ok (.iconst 1, 1) := by decide +kernel
theorem dX10_beginReading_45 : decode cX10_beginReading 45 = .ok (.iadd, 1) := by decide +kernel
theorem dX10_beginReading_46 : decode cX10_beginReading 46 = .ok (.istore 5, 2) := by decide +kernel
theorem dX10_beginReading_48 : decode cX10_beginReading 48 = .ok (.iload 4, 2) := by decide +kernel
theorem dX10_beginReading_50 : decode cX10_beginReading 50 = .ok (.invokestatic 47, 3) := by decide +kernel
theorem dX10_beginReading_53 : decode cX10_beginReading 53 = .ok (.ifCond .eq 36, 3) := by decide +kernel
theorem dX10_beginReading_56 : decode cX10_beginReading 56 = .ok (.aload_n 0, 1) := by decide +kernel
theorem dX10_beginReading_57 : decode cX10_beginReading 57 = .ok (.iload_n 2, 1) := by decide +kernel
theorem dX10_beginReading_58 : decode cX10_beginReading 58 = .ok (.invokevirtual 51, 3) := by decide +kernel
theorem dX10_beginReading_61 : decode cX10_beginReading 61 = .ok (.istore 5, 2) := by decide +kernel
theorem dX10_beginReading_63 : decode cX10_beginReading 63 = .ok (.aload_n 0, 1) := by decide +kernel
theorem dX10_beginReading_64 : decode cX10_beginReading 64 = .ok (.iload_n 1, 1) := by decide +kernel
theorem dX10_beginReading_65 : decode cX10_beginReading 65 = .ok (.ifCond .eq 8, 3) := by decide +kernel
theorem dX10_beginReading_68 : decode cX10_beginReading 68 = .ok (.bipush 34, 2) := by decide +kernel
theorem dX10_beginReading_70 : decode cX10_beginReading 70 = .ok (.goto 10, 3) := by decide +kernel
theorem dX10_beginReading_73 : decode cX10_beginReading 73 = .ok (.aload_n 0, 1) := by decide +kernel
theorem dX10_beginReading_74 : decode cX10_beginReading 74 = .ok (.iload_n 2, 1) := by decide +kernel
theorem dX10_beginReading_75 : decode cX10_beginReading 75 = .ok (.iload 5, 2) := by decide +kernel
theorem dX10_beginReading_77 : decode cX10_beginReading 77 = .ok (.invokevirtual 54, 3) := by decide +kernel
theorem dX10_beginReading_80 : decode cX10_beginReading 80 = .ok (.iload_n 2, 1) := by decide +kernel
theorem dX10_beginReading_81 : decode cX10_beginReading 81 = .ok (.iload 5, 2) := by decide +kernel
theorem dX10_beginReading_83 : decode cX10_beginReading 83 = .ok (.invokevirtual 58, 3) := by decide +kernel
theorem dX10_beginReading_86 : decode cX10_beginReading 86 = .ok (.goto 60, 3) := by decide +kernel
theorem dX10_beginReading_89 : decode cX10_beginReading 89 = .ok (.iload 4, 2) := by decide +kernel
theorem dX10_beginReading_91 : decode cX10_beginReading 91 = .ok (.invokestatic 62, 3) := by decide +kernel
theorem dX10_beginReading_94 : decode cX10_beginReading 94 = .ok (.ifCond .eq 31, 3) := by decide +kernel
theorem dX10_beginReading_97 : decode cX10_beginReading 97 = .ok (.aload_n 0, 1) := by decide +kernel
theorem dX10_beginReading_98 : decode cX10_beginReading 98 = .ok (.iload_n 2, 1) := by decide +kernel
theorem dX10_beginReading_99 : decode cX10_beginReading 99 = .ok (.invokevirtual 65, 3) := by decide +kernel
theorem dX10_beginReading_102 : decode cX10_beginReading 102 = .ok (.istore 5, 2) := by decide +kernel
theorem dX10_beginReading_104 : decode cX10_beginReading 104 = .ok (.aload_n 0, 1) := by decide +kernel
theorem dX10_beginReading_105 : decode cX10_beginReading 105 = .ok (.iload_n 1, 1) := by decide +kernel
theorem dX10_beginReading_106 : decode cX10_beginReading 106 = .ok (.ifCond .eq 8, 3) := by decide +kernel
theorem dX10_beginReading_109 : decode cX10_beginReading 109 = .ok (.bipush 34, 2) := by decide +kernel
theorem dX10_beginReading_111 : decode cX10_beginReading 111 = .ok (.goto 5, 3) := by decide +kernel
theorem dX10_beginReading_114 : decode cX10_beginReading 114 = .ok (.bipush 33, 2) := by decide +kernel
theorem dX10_beginReading_116 : decode cX10_beginReading 116 = .ok (.iload_n 2, 1) := by decide +kernel
theorem dX10_beginReading_117 : decode cX10_beginReading 117 = .ok (.iload 5, 2) := by decide +kernel
theorem dX10_beginReading_119 : decode cX10_beginReading 119 = .ok (.invokevirtual 58, 3) := by decide +kernel
theorem dX10_beginReading_122 : decode cX10_beginReading 122 = .ok (.goto 24, 3) := by decide +kernel
theorem dX10_beginReading_125 : decode cX10_beginReading 125 = .ok (.iload 4, 2) := by decide +kernel
theorem dX10_beginReading_127 : decode cX10_beginReading 127 = .ok (.invokestatic 68, 3) := by decide +kernel
theorem dX10_beginReading_130 : decode cX10_beginReading 130 = .ok (.ifCond .ne 16, 3) := by decide +kernel
theorem dX10_beginReading_133 : decode cX10_beginReading 133 = .ok (.aload_n 0, 1) := by decide +kernel
theorem dX10_beginReading_134 : decode cX10_beginReading 134 = .ok (.sipush 256, 3) := by decide +kernel
theorem dX10_beginReading_137 : decode cX10_beginReading 137 = .ok (.iload 4, 2) := by decide +kernel
theorem dX10_beginReading_139 : decode cX10_beginReading 139 = .ok (.iadd, 1) := by decide +kernel
theorem dX10_beginReading_140 : decode cX10_beginReading 140 = .ok (.iload_n 2, 1) := by decide +kernel
theorem dX10_beginReading_141 : decode cX10_beginReading 141 = .ok (.iload 5, 2) := by decide +kernel
theorem dX10_beginReading_143 : decode cX10_beginReading 143 = .ok (.invokevirtual 58, 3) := by decide +kernel
theorem dX10_beginReading_146 : decode cX10_beginReading 146 = .ok (.iload 4, 2) := by decide +kernel
theorem dX10_beginReading_148 : decode cX10_beginReading 148 = .ok (.invokestatic 47, 3) := by decide +kernel
theorem dX10_beginReading_151 : decode cX10_beginReading 151 = .ok (.ifCond .ne 11, 3) := by decide +kernel
theorem dX10_beginReading_154 : decode cX10_beginReading 154 = .ok (.iload 4, 2) := by decide +kernel
theorem dX10_beginReading_156 : decode cX10_beginReading 156 = .ok (.invokestatic 62, 3) := by decide +kernel
theorem dX10_beginReading_159 : decode cX10_beginReading 159 = .ok (.ifCond .eq 7, 3) := by decide +kernel
theorem dX10_beginReading_162 : decode cX10_beginReading 162 = .ok (.iconst 1, 1) := by decide +kernel
theorem dX10_beginReading_163 : decode cX10_beginReading 163 = .ok (.goto 4, 3) := by decide +kernel
theorem dX10_beginReading_166 : decode cX10_beginReading 166 = .ok (.iconst 0, 1) := by decide +kernel
theorem dX10_beginReading_167 : decode cX10_beginReading 167 = .ok (.istore_n 1, 1) := by decide +kernel
theorem dX10_beginReading_168 : decode cX10_beginReading 168 = .ok (.iload 5, 2) := by decide +kernel
theorem dX10_beginReading_170 : decode cX10_beginReading 170 = .ok (.istore_n 2, 1) := by decide +kernel
theorem dX10_beginReading_171 : decode cX10_beginReading 171 = .ok (.iinc 3 1, 3) := by decide +kernel
theorem dX10_beginReading_174 : decode cX10_beginReading 174 = .ok (.goto (-153), 3) := by decide +kernel
theorem dX10_beginReading_177 : decode cX10_beginReading 177 = .ok (.aload_n 0, 1) := by decide +kernel
theorem dX10_beginReading_178 : decode cX10_beginReading 178 = .ok (.bipush 35, 2) := by decide +kernel
theorem dX10_beginReading_180 : decode cX10_beginReading 180 = .ok (.aload_n 0, 1) := by decide +kernel
theorem dX10_beginReading_181 : decode cX10_beginReading 181 = .ok (.getfield 15, 3) := by decide +kernel
theorem dX10_beginReading_184 : decode cX10_beginReading 184 = .ok (.aload_n 0, 1) := by decide +kernel
theorem dX10_beginReading_185 : decode cX10_beginReading 185 = .ok (.getfield 15, 3) := by decide +kernel
theorem dX10_beginReading_188 : decode cX10_beginReading 188 = .ok (.invokevirtual 58, 3) := by decide +kernel
theorem dX10_beginReading_191 : decode cX10_beginReading 191 = .ok (.aload_n 0, 1) := by decide +kernel
theorem dX10_beginReading_192 : decode cX10_beginReading 192 = .ok (.iconst (-1), 1) := by decide +kernel
theorem dX10_beginReading_193 : decode cX10_beginReading 193 = .ok (.putfield 25, 3) := by decide +kernel
theorem dX10_beginReading_196 : decode cX10_beginReading 196 = .ok (.aload_n 0, 1) := by decide +kernel
theorem dX10_beginReading_197 : decode cX10_beginReading 197 = .ok (.invokevirtual 71, 3) := by decide +kernel
theorem dX10_beginReading_200 : decode cX10_beginReading 200 = .ok (.return_, 1) := by decide +kernel
theorem dX10_refuseAt_0 : decode cX10_refuseAt 0 = .ok (.aload_n 0, 1) := by decide +kernel
theorem dX10_refuseAt_1 : decode cX10_refuseAt 1 = .ok (.iload_n 1, 1) := by decide +kernel
theorem dX10_refuseAt_2 : decode cX10_refuseAt 2 = .ok (.putfield 37, 3) := by decide +kernel
theorem dX10_refuseAt_5 : decode cX10_refuseAt 5 = .ok (.aload_n 0, 1) := by decide +kernel
theorem dX10_refuseAt_6 : decode cX10_refuseAt 6 = .ok (.iload_n 2, 1) := by decide +kernel
theorem dX10_refuseAt_7 : decode cX10_refuseAt 7 = .ok (.putfield 40, 3) := by decide +kernel
theorem dX10_refuseAt_10 : decode cX10_refuseAt 10 = .ok (.iconst 0, 1) := by decide +kernel
theorem dX10_refuseAt_11 : decode cX10_refuseAt 11 = .ok (.ireturn, 1) := by decide +kernel
theorem dX1_takeKind_0 : decode cX1_takeKind 0 = .ok (.iload_n 1, 1) := by decide +kernel
theorem dX1_takeKind_1 : decode cX1_takeKind 1 = .ok (.iload_n 2, 1) := by decide +kernel
theorem dX1_takeKind_2 : decode cX1_takeKind 2 = .ok (.if_icmp .lt 19, 3) := by decide +kernel
theorem dX1_takeKind_5 : decode cX1_takeKind 5 = .ok (.aload_n 0, 1) := by decide +kernel
theorem dX1_takeKind_6 : decode cX1_takeKind 6 = .ok (.getfield 15, 3) := by decide +kernel
theorem dX1_takeKind_9 : decode cX1_takeKind 9 = .ok (.iconst 5, 1) := by decide +kernel
theorem dX1_takeKind_10 : decode cX1_takeKind 10 = .ok (.aload_n 0, 1) := by decide +kernel
theorem dX1_takeKind_11 : decode cX1_takeKind 11 = .ok (.getfield 15, 3) := by decide +kernel
theorem dX1_takeKind_14 : decode cX1_takeKind 14 = .ok (.getfield 60, 3) := by decide +kernel
theorem dX1_takeKind_17 : decode cX1_takeKind 17 = .ok (.invokevirtual 63, 3) := by decide +kernel
theorem dX1_takeKind_20 : decode cX1_takeKind 20 = .ok (.ireturn, 1) := by decide +kernel
theorem dX1_takeKind_21 : decode cX1_takeKind 21 = .ok (.aload_n 0, 1) := by decide +kernel
theorem dX1_takeKind_22 : decode cX1_takeKind 22 = .ok (.getfield 15, 3) := by decide +kernel
theorem dX1_takeKind_25 : decode cX1_takeKind 25 = .ok (.invokevirtual 89, 3) := by decide +kernel
theorem dX1_takeKind_28 : decode cX1_takeKind 28 = .ok (.iconst 1, 1) := by decide +kernel
theorem dX1_takeKind_29 : decode cX1_takeKind 29 = .ok (.ireturn, 1) := by decide +kernel
theorem dX10_unfit_0 : decode cX10_unfit 0 = .ok (.aload_n 0, 1) := by decide +kernel
theorem dX10_unfit_1 : decode cX10_unfit 1 = .ok (.iconst 1, 1) := by decide +kernel
theorem dX10_unfit_2 : decode cX10_unfit 2 = .ok (.putfield 37, 3) := by decide +kernel
theorem dX10_unfit_5 : decode cX10_unfit 5 = .ok (.aload_n 0, 1) := by decide +kernel
theorem dX10_unfit_6 : decode cX10_unfit 6 = .ok (.aload_n 0, 1) := by decide +kernel
theorem dX10_unfit_7 : decode cX10_unfit 7 = .ok (.getfield 31, 3) := by decide +kernel
theorem dX10_unfit_10 : decode cX10_unfit 10 = .ok (.putfield 40, 3) := by decide +kernel
theorem dX10_unfit_13 : decode cX10_unfit 13 = .ok (.iconst 0, 1) := by decide +kernel
theorem dX10_unfit_14 : decode cX10_unfit 14 = .ok (.ireturn, 1) := by decide +kernel
theorem dX10_nameHere_0 : decode cX10_nameHere 0 = .ok (.aload_n 0, 1) := by decide +kernel
theorem dX10_nameHere_1 : decode cX10_nameHere 1 = .ok (.getfield 28, 3) := by decide +kernel
theorem dX10_nameHere_4 : decode cX10_nameHere 4 = .ok (.bipush 26, 2) := by decide +kernel
theorem dX10_nameHere_6 : decode cX10_nameHere 6 = .ok (.if_icmp .lt 12, 3) := by decide +kernel
theorem dX10_nameHere_9 : decode cX10_nameHere 9 = .ok (.aload_n 0, 1) := by decide +kernel
theorem dX10_nameHere_10 : decode cX10_nameHere 10 = .ok (.getfield 28, 3) := by decide +kernel
theorem dX10_nameHere_13 : decode cX10_nameHere 13 = .ok (.bipush 32, 2) := by decide +kernel
theorem dX10_nameHere_15 : decode cX10_nameHere 15 = .ok (.if_icmp .le 10, 3) := by decide +kernel
theorem dX10_nameHere_18 : decode cX10_nameHere 18 = .ok (.aload_n 0, 1) := by decide +kernel
theorem dX10_nameHere_19 : decode cX10_nameHere 19 = .ok (.invokevirtual 86, 3) := by decide +kernel
theorem dX10_nameHere_22 : decode cX10_nameHere 22 = .ok (.pop, 1) := by decide +kernel
theorem dX10_nameHere_23 : decode cX10_nameHere 23 = .ok (.iconst (-1), 1) := by decide +kernel
theorem dX10_nameHere_24 : decode cX10_nameHere 24 = .ok (.ireturn, 1) := by decide +kernel
theorem dX10_nameHere_25 : decode cX10_nameHere 25 = .ok (.aload_n 0, 1) := by decide +kernel
theorem dX10_nameHere_26 : decode cX10_nameHere 26 = .ok (.getfield 34, 3) := by decide +kernel
theorem dX10_nameHere_29 : decode cX10_nameHere 29 = .ok (.aload_n 0, 1) := by decide +kernel
theorem dX10_nameHere_30 : decode cX10_nameHere 30 = .ok (.getfield 31, 3) := by decide +kernel
theorem dX10_nameHere_33 : decode cX10_nameHere 33 = .ok (.isub, 1) := by decide +kernel
theorem dX10_nameHere_34 : decode cX10_nameHere 34 = .ok (.bipush 6, 2) := by decide +kernel
theorem dX10_nameHere_36 : decode cX10_nameHere 36 = .ok (.if_icmp .le 18, 3) := by decide +kernel
theorem dX10_nameHere_39 : decode cX10_nameHere 39 = .ok (.aload_n 0, 1) := by decide +kernel
theorem dX10_nameHere_40 : decode cX10_nameHere 40 = .ok (.iconst 1, 1) := by decide +kernel
theorem dX10_nameHere_41 : decode cX10_nameHere 41 = .ok (.aload_n 0, 1) := by decide +kernel
theorem dX10_nameHere_42 : decode cX10_nameHere 42 = .ok (.getfield 31, 3) := by decide +kernel
theorem dX10_nameHere_45 : decode cX10_nameHere 45 = .ok (.bipush 6, 2) := by decide +kernel
theorem dX10_nameHere_47 : decode cX10_nameHere 47 = .ok (.iadd, 1) := by decide +kernel
theorem dX10_nameHere_48 : decode cX10_nameHere 48 = .ok (.invokevirtual 90, 3) := by decide +kernel
theorem dX10_nameHere_51 : decode cX10_nameHere 51 = .ok (.pop, 1) := by decide +kernel
theorem dX10_nameHere_52 : decode cX10_nameHere 52 = .ok (.iconst (-1), 1) := by decide +kernel
theorem dX10_nameHere_53 : decode cX10_nameHere 53 = .ok (.ireturn, 1) := by decide +kernel
theorem dX10_nameHere_54 : decode cX10_nameHere 54 = .ok (.iconst 0, 1) := by decide +kernel
theorem dX10_nameHere_55 : decode cX10_nameHere 55 = .ok (.istore_n 1, 1) := by decide +kernel
theorem dX10_nameHere_56 : decode cX10_nameHere 56 = .ok (.iconst 0, 1) := by decide +kernel
theorem dX10_nameHere_57 : decode cX10_nameHere 57 = .ok (.istore_n 2, 1) := by decide +kernel
theorem dX10_nameHere_58 : decode cX10_nameHere 58 = .ok (.iload_n 2, 1) := by decide +kernel
theorem dX10_nameHere_59 : decode cX10_nameHere 59 = .ok (.bipush 6, 2) := by decide +kernel
theorem dX10_nameHere_61 : decode cX10_nameHere 61 = .ok (.if_icmp .ge 48, 3) := by decide +kernel
theorem dX10_nameHere_64 : decode cX10_nameHere 64 = .ok (.aload_n 0, 1) := by decide +kernel
theorem dX10_nameHere_65 : decode cX10_nameHere 65 = .ok (.getfield 31, 3) := by decide +kernel
theorem dX10_nameHere_68 : decode cX10_nameHere 68 = .ok (.iload_n 2, 1) := by decide +kernel
theorem dX10_nameHere_69 : decode cX10_nameHere 69 = .ok (.iadd, 1) := by decide +kernel
theorem dX10_nameHere_70 : decode cX10_nameHere 70 = .ok (.aload_n 0, 1) := by decide +kernel
theorem dX10_nameHere_71 : decode cX10_nameHere 71 = .ok (.getfield 34, 3) := by decide +kernel
theorem dX10_nameHere_74 : decode cX10_nameHere 74 = .ok (.if_icmp .ge 21, 3) := by decide +kernel
theorem dX10_nameHere_77 : decode cX10_nameHere 77 = .ok (.aload_n 0, 1) := by decide +kernel
theorem dX10_nameHere_78 : decode cX10_nameHere 78 = .ok (.aload_n 0, 1) := by decide +kernel
theorem dX10_nameHere_79 : decode cX10_nameHere 79 = .ok (.getfield 31, 3) := by decide +kernel
theorem dX10_nameHere_82 : decode cX10_nameHere 82 = .ok (.iload_n 2, 1) := by decide +kernel
theorem dX10_nameHere_83 : decode cX10_nameHere 83 = .ok (.iadd, 1) := by decide +kernel
theorem dX10_nameHere_84 : decode cX10_nameHere 84 = .ok (.invokevirtual 43, 3) := by decide +kernel
theorem dX10_nameHere_87 : decode cX10_nameHere 87 = .ok (.bipush 97, 2) := by decide +kernel
theorem dX10_nameHere_89 : decode cX10_nameHere 89 = .ok (.isub, 1) := by decide +kernel
theorem dX10_nameHere_90 : decode cX10_nameHere 90 = .ok (.iconst 1, 1) := by decide +kernel
theorem dX10_nameHere_91 : decode cX10_nameHere 91 = .ok (.iadd, 1) := by decide +kernel
theorem dX10_nameHere_92 : decode cX10_nameHere 92 = .ok (.goto 4, 3) := by decide +kernel
theorem dX10_nameHere_95 : decode cX10_nameHere 95 = .ok (.iconst 0, 1) := by decide +kernel
theorem dX10_nameHere_96 : decode cX10_nameHere 96 = .ok (.istore_n 3, 1) := by decide +kernel
theorem dX10_nameHere_97 : decode cX10_nameHere 97 = .ok (.iload_n 1, 1) := by decide +kernel
theorem dX10_nameHere_98 : decode cX10_nameHere 98 = .ok (.iconst 5, 1) := by decide +kernel
theorem dX10_nameHere_99 : decode cX10_nameHere 99 = .ok (.ishl, 1) := by decide +kernel
theorem dX10_nameHere_100 : decode cX10_nameHere 100 = .ok (.iload_n 3, 1) := by decide +kernel
theorem dX10_nameHere_101 : decode cX10_nameHere 101 = .ok (.ior, 1) := by decide +kernel
theorem dX10_nameHere_102 : decode cX10_nameHere 102 = .ok (.istore_n 1, 1) := by decide +kernel
theorem dX10_nameHere_103 : decode cX10_nameHere 103 = .ok (.iinc 2 1, 3) := by decide +kernel
theorem dX10_nameHere_106 : decode cX10_nameHere 106 = .ok (.goto (-48), 3) := by decide +kernel
theorem dX10_nameHere_109 : decode cX10_nameHere 109 = .ok (.iload_n 1, 1) := by decide +kernel
theorem dX10_nameHere_110 : decode cX10_nameHere 110 = .ok (.ireturn, 1) := by decide +kernel
theorem dX1_indexOf_0 : decode cX1_indexOf 0 = .ok (.iconst 0, 1) := by decide +kernel
theorem dX1_indexOf_1 : decode cX1_indexOf 1 = .ok (.istore_n 3, 1) := by decide +kernel
theorem dX1_indexOf_2 : decode cX1_indexOf 2 = .ok (.iload_n 3, 1) := by decide +kernel
theorem dX1_indexOf_3 : decode cX1_indexOf 3 = .ok (.iload_n 2, 1) := by decide +kernel
theorem dX1_indexOf_4 : decode cX1_indexOf 4 = .ok (.if_icmp .ge 24, 3) := by decide +kernel
theorem dX1_indexOf_7 : decode cX1_indexOf 7 = .ok (.iload_n 3, 1) := by decide +kernel
theorem dX1_indexOf_8 : decode cX1_indexOf 8 = .ok (.aload_n 1, 1) := by decide +kernel
theorem dX1_indexOf_9 : decode cX1_indexOf 9 = .ok (.arraylength, 1) := by decide +kernel
theorem dX1_indexOf_10 : decode cX1_indexOf 10 = .ok (.if_icmp .ge 18, 3) := by decide +kernel
theorem dX1_indexOf_13 : decode cX1_indexOf 13 = .ok (.aload_n 1, 1) := by decide +kernel
theorem dX1_indexOf_14 : decode cX1_indexOf 14 = .ok (.iload_n 3, 1) := by decide +kernel
theorem dX1_indexOf_15 : decode cX1_indexOf 15 = .ok (.iaload, 1) := by decide +kernel
theorem dX1_indexOf_16 : decode cX1_indexOf 16 = .ok (.iload_n 0, 1) := by decide +kernel
theorem dX1_indexOf_17 : decode cX1_indexOf 17 = .ok (.if_icmp .ne 5, 3) := by decide +kernel
theorem dX1_indexOf_20 : decode cX1_indexOf 20 = .ok (.iload_n 3, 1) := by decide +kernel
theorem dX1_indexOf_21 : decode cX1_indexOf 21 = .ok (.ireturn, 1) := by decide +kernel
theorem dX1_indexOf_22 : decode cX1_indexOf 22 = .ok (.iinc 3 1, 3) := by decide +kernel
theorem dX1_indexOf_25 : decode cX1_indexOf 25 = .ok (.goto (-23), 3) := by decide +kernel
theorem dX1_indexOf_28 : decode cX1_indexOf 28 = .ok (.iconst (-1), 1) := by decide +kernel
theorem dX1_indexOf_29 : decode cX1_indexOf 29 = .ok (.ireturn, 1) := by decide +kernel
theorem dX1_takeNewName_0 : decode cX1_takeNewName 0 = .ok (.aload_n 0, 1) := by decide +kernel
theorem dX1_takeNewName_1 : decode cX1_takeNewName 1 = .ok (.getfield 15, 3) := by decide +kernel
theorem dX1_takeNewName_4 : decode cX1_takeNewName 4 = .ok (.invokevirtual 180, 3) := by decide +kernel
theorem dX1_takeNewName_7 : decode cX1_takeNewName 7 = .ok (.istore_n 1, 1) := by decide +kernel
theorem dX1_takeNewName_8 : decode cX1_takeNewName 8 = .ok (.iload_n 1, 1) := by decide +kernel
theorem dX1_takeNewName_9 : decode cX1_takeNewName 9 = .ok (.iconst (-1), 1) := by decide +kernel
theorem dX1_takeNewName_10 : decode cX1_takeNewName 10 = .ok (.if_icmp .ne 5, 3) := by decide +kernel
theorem dX1_takeNewName_13 : decode cX1_takeNewName 13 = .ok (.iconst (-1), 1) := by decide +kernel
theorem dX1_takeNewName_14 : decode cX1_takeNewName 14 = .ok (.ireturn, 1) := by decide +kernel
theorem dX1_takeNewName_15 : decode cX1_takeNewName 15 = .ok (.iload_n 1, 1) := by decide +kernel
theorem dX1_takeNewName_16 : decode cX1_takeNewName 16 = .ok (.aload_n 0, 1) := by decide +kernel
theorem dX1_takeNewName_17 : decode cX1_takeNewName 17 = .ok (.getfield 19, 3) := by decide +kernel
theorem dX1_takeNewName_20 : decode cX1_takeNewName 20 = .ok (.getfield 109, 3) := by decide +kernel
theorem dX1_takeNewName_23 : decode cX1_takeNewName 23 = .ok (.aload_n 0, 1) := by decide +kernel
theorem dX1_takeNewName_24 : decode cX1_takeNewName 24 = .ok (.getfield 19, 3) := by decide +kernel
theorem dX1_takeNewName_27 : decode cX1_takeNewName 27 = .ok (.getfield 92, 3) := by decide +kernel
theorem dX1_takeNewName_30 : decode cX1_takeNewName 30 = .ok (.invokestatic 183, 3) := by decide +kernel
theorem dX1_takeNewName_33 : decode cX1_takeNewName 33 = .ok (.iconst (-1), 1) := by decide +kernel
theorem dX1_takeNewName_34 : decode cX1_takeNewName 34 = .ok (.if_icmp .ne 25, 3) := by decide +kernel
theorem dX1_takeNewName_37 : decode cX1_takeNewName 37 = .ok (.iload_n 1, 1) := by decide +kernel
theorem dX1_takeNewName_38 : decode cX1_takeNewName 38 = .ok (.aload_n 0, 1) := by decide +kernel
theorem dX1_takeNewName_39 : decode cX1_takeNewName 39 = .ok (.getfield 19, 3) := by decide +kernel
theorem dX1_takeNewName_42 : decode cX1_takeNewName 42 = .ok (.getfield 122, 3) := by decide +kernel
theorem dX1_takeNewName_45 : decode cX1_takeNewName 45 = .ok (.aload_n 0, 1) := by decide +kernel
theorem dX1_takeNewName_46 : decode cX1_takeNewName 46 = .ok (.getfield 19, 3) := by decide +kernel
theorem dX1_takeNewName_49 : decode cX1_takeNewName 49 = .ok (.getfield 119, 3) := by decide +kernel
theorem dX1_takeNewName_52 : decode cX1_takeNewName 52 = .ok (.invokestatic 183, 3) := by decide +kernel
theorem dX1_takeNewName_55 : decode cX1_takeNewName 55 = .ok (.iconst (-1), 1) := by decide +kernel
theorem dX1_takeNewName_56 : decode cX1_takeNewName 56 = .ok (.if_icmp .eq 21, 3) := by decide +kernel
theorem dX1_takeNewName_59 : decode cX1_takeNewName 59 = .ok (.aload_n 0, 1) := by decide +kernel
theorem dX1_takeNewName_60 : decode cX1_takeNewName 60 = .ok (.getfield 15, 3) := by decide +kernel
theorem dX1_takeNewName_63 : decode cX1_takeNewName 63 = .ok (.iconst 3, 1) := by decide +kernel
theorem dX1_takeNewName_64 : decode cX1_takeNewName 64 = .ok (.aload_n 0, 1) := by decide +kernel
theorem dX1_takeNewName_65 : decode cX1_takeNewName 65 = .ok (.getfield 15, 3) := by decide +kernel
theorem dX1_takeNewName_68 : decode cX1_takeNewName 68 = .ok (.getfield 60, 3) := by decide +kernel
theorem dX1_takeNewName_71 : decode cX1_takeNewName 71 = .ok (.invokevirtual 63, 3) := by decide +kernel
theorem dX1_takeNewName_74 : decode cX1_takeNewName 74 = .ok (.pop, 1) := by decide +kernel
theorem dX1_takeNewName_75 : decode cX1_takeNewName 75 = .ok (.iconst (-1), 1) := by decide +kernel
theorem dX1_takeNewName_76 : decode cX1_takeNewName 76 = .ok (.ireturn, 1) := by decide +kernel
theorem dX1_takeNewName_77 : decode cX1_takeNewName 77 = .ok (.aload_n 0, 1) := by decide +kernel
theorem dX1_takeNewName_78 : decode cX1_takeNewName 78 = .ok (.getfield 15, 3) := by decide +kernel
theorem dX1_takeNewName_81 : decode cX1_takeNewName 81 = .ok (.invokevirtual 89, 3) := by decide +kernel
theorem dX1_takeNewName_84 : decode cX1_takeNewName 84 = .ok (.iload_n 1, 1) := by decide +kernel
theorem dX1_takeNewName_85 : decode cX1_takeNewName 85 = .ok (.ireturn, 1) := by decide +kernel
theorem dX10_takeWord_0 : decode cX10_takeWord 0 = .ok (.aload_n 0, 1) := by decide +kernel
theorem dX10_takeWord_1 : decode cX10_takeWord 1 = .ok (.getfield 28, 3) := by decide +kernel
theorem dX10_takeWord_4 : decode cX10_takeWord 4 = .ok (.iload_n 1, 1) := by decide +kernel
theorem dX10_takeWord_5 : decode cX10_takeWord 5 = .ok (.if_icmp .eq 8, 3) := by decide +kernel
theorem dX10_takeWord_8 : decode cX10_takeWord 8 = .ok (.aload_n 0, 1) := by decide +kernel
theorem dX10_takeWord_9 : decode cX10_takeWord 9 = .ok (.invokevirtual 86, 3) := by decide +kernel
theorem dX10_takeWord_12 : decode cX10_takeWord 12 = .ok (.ireturn, 1) := by decide +kernel
theorem dX10_takeWord_13 : decode cX10_takeWord 13 = .ok (.aload_n 0, 1) := by decide +kernel
theorem dX10_takeWord_14 : decode cX10_takeWord 14 = .ok (.invokevirtual 71, 3) := by decide +kernel
theorem dX10_takeWord_17 : decode cX10_takeWord 17 = .ok (.iconst 1, 1) := by decide +kernel
theorem dX10_takeWord_18 : decode cX10_takeWord 18 = .ok (.ireturn, 1) := by decide +kernel
theorem dX10_takeNumber_0 : decode cX10_takeNumber 0 = .ok (.aload_n 0, 1) := by decide +kernel
theorem dX10_takeNumber_1 : decode cX10_takeNumber 1 = .ok (.getfield 28, 3) := by decide +kernel
theorem dX10_takeNumber_4 : decode cX10_takeNumber 4 = .ok (.bipush 33, 2) := by decide +kernel
theorem dX10_takeNumber_6 : decode cX10_takeNumber 6 = .ok (.if_icmp .eq 10, 3) := by decide +kernel
theorem dX10_takeNumber_9 : decode cX10_takeNumber 9 = .ok (.aload_n 0, 1) := by decide +kernel
theorem dX10_takeNumber_10 : decode cX10_takeNumber 10 = .ok (.invokevirtual 86, 3) := by decide +kernel
theorem dX10_takeNumber_13 : decode cX10_takeNumber 13 = .ok (.pop, 1) := by decide +kernel
theorem dX10_takeNumber_14 : decode cX10_takeNumber 14 = .ok (.iconst (-1), 1) := by decide +kernel
theorem dX10_takeNumber_15 : decode cX10_takeNumber 15 = .ok (.ireturn, 1) := by decide +kernel
theorem dX10_takeNumber_16 : decode cX10_takeNumber 16 = .ok (.aload_n 0, 1) := by decide +kernel
theorem dX10_takeNumber_17 : decode cX10_takeNumber 17 = .ok (.getfield 34, 3) := by decide +kernel
theorem dX10_takeNumber_20 : decode cX10_takeNumber 20 = .ok (.aload_n 0, 1) := by decide +kernel
theorem dX10_takeNumber_21 : decode cX10_takeNumber 21 = .ok (.getfield 31, 3) := by decide +kernel
theorem dX10_takeNumber_24 : decode cX10_takeNumber 24 = .ok (.isub, 1) := by decide +kernel
theorem dX10_takeNumber_25 : decode cX10_takeNumber 25 = .ok (.iconst 4, 1) := by decide +kernel
theorem dX10_takeNumber_26 : decode cX10_takeNumber 26 = .ok (.if_icmp .le 17, 3) := by decide +kernel
theorem dX10_takeNumber_29 : decode cX10_takeNumber 29 = .ok (.aload_n 0, 1) := by decide +kernel
theorem dX10_takeNumber_30 : decode cX10_takeNumber 30 = .ok (.iconst 1, 1) := by decide +kernel
theorem dX10_takeNumber_31 : decode cX10_takeNumber 31 = .ok (.aload_n 0, 1) := by decide +kernel
theorem dX10_takeNumber_32 : decode cX10_takeNumber 32 = .ok (.getfield 31, 3) := by decide +kernel
theorem dX10_takeNumber_35 : decode cX10_takeNumber 35 = .ok (.iconst 4, 1) := by decide +kernel
theorem dX10_takeNumber_36 : decode cX10_takeNumber 36 = .ok (.iadd, 1) := by decide +kernel
theorem dX10_takeNumber_37 : decode cX10_takeNumber 37 = .ok (.invokevirtual 90, 3) := by decide +kernel
theorem dX10_takeNumber_40 : decode cX10_takeNumber 40 = .ok (.pop, 1) := by decide +kernel
theorem dX10_takeNumber_41 : decode cX10_takeNumber 41 = .ok (.iconst (-1), 1) := by decide +kernel
theorem dX10_takeNumber_42 : decode cX10_takeNumber 42 = .ok (.ireturn, 1) := by decide +kernel
theorem dX10_takeNumber_43 : decode cX10_takeNumber 43 = .ok (.iconst 0, 1) := by decide +kernel
theorem dX10_takeNumber_44 : decode cX10_takeNumber 44 = .ok (.istore_n 3, 1) := by decide +kernel
theorem dX10_takeNumber_45 : decode cX10_takeNumber 45 = .ok (.aload_n 0, 1) := by decide +kernel
theorem dX10_takeNumber_46 : decode cX10_takeNumber 46 = .ok (.getfield 31, 3) := by decide +kernel
theorem dX10_takeNumber_49 : decode cX10_takeNumber 49 = .ok (.istore 4, 2) := by decide +kernel
theorem dX10_takeNumber_51 : decode cX10_takeNumber 51 = .ok (.iload 4, 2) := by decide +kernel
theorem dX10_takeNumber_53 : decode cX10_takeNumber 53 = .ok (.aload_n 0, 1) := by decide +kernel
theorem dX10_takeNumber_54 : decode cX10_takeNumber 54 = .ok (.getfield 34, 3) := by decide +kernel
theorem dX10_takeNumber_57 : decode cX10_takeNumber 57 = .ok (.if_icmp .ge 24, 3) := by decide +kernel
theorem dX10_takeNumber_60 : decode cX10_takeNumber 60 = .ok (.bipush 10, 2) := by decide +kernel
theorem dX10_takeNumber_62 : decode cX10_takeNumber 62 = .ok (.iload_n 3, 1) := by decide +kernel
theorem dX10_takeNumber_63 : decode cX10_takeNumber 63 = .ok (.imul, 1) := by decide +kernel
theorem dX10_takeNumber_64 : decode cX10_takeNumber 64 = .ok (.aload_n 0, 1) := by decide +kernel
theorem dX10_takeNumber_65 : decode cX10_takeNumber 65 = .ok (.iload 4, 2) := by decide +kernel
theorem dX10_takeNumber_67 : decode cX10_takeNumber 67 = .ok (.invokevirtual 43, 3) := by decide +kernel
theorem dX10_takeNumber_70 : decode cX10_takeNumber 70 = .ok (.iadd, 1) := by decide +kernel
theorem dX10_takeNumber_71 : decode cX10_takeNumber 71 = .ok (.bipush 48, 2) := by decide +kernel
theorem dX10_takeNumber_73 : decode cX10_takeNumber 73 = .ok (.isub, 1) := by decide +kernel
theorem dX10_takeNumber_74 : decode cX10_takeNumber 74 = .ok (.istore_n 3, 1) := by decide +kernel
theorem dX10_takeNumber_75 : decode cX10_takeNumber 75 = .ok (.iinc 4 1, 3) := by decide +kernel
theorem dX10_takeNumber_78 : decode cX10_takeNumber 78 = .ok (.goto (-27), 3) := by decide +kernel
theorem dX10_takeNumber_81 : decode cX10_takeNumber 81 = .ok (.iload_n 3, 1) := by decide +kernel
theorem dX10_takeNumber_82 : decode cX10_takeNumber 82 = .ok (.iload_n 1, 1) := by decide +kernel
theorem dX10_takeNumber_83 : decode cX10_takeNumber 83 = .ok (.if_icmp .lt 8, 3) := by decide +kernel
theorem dX10_takeNumber_86 : decode cX10_takeNumber 86 = .ok (.iload_n 3, 1) := by decide +kernel
theorem dX10_takeNumber_87 : decode cX10_takeNumber 87 = .ok (.iload_n 2, 1) := by decide +kernel
theorem dX10_takeNumber_88 : decode cX10_takeNumber 88 = .ok (.if_icmp .le 15, 3) := by decide +kernel
theorem dX10_takeNumber_91 : decode cX10_takeNumber 91 = .ok (.aload_n 0, 1) := by decide +kernel
theorem dX10_takeNumber_92 : decode cX10_takeNumber 92 = .ok (.iconst 2, 1) := by decide +kernel
theorem dX10_takeNumber_93 : decode cX10_takeNumber 93 = .ok (.aload_n 0, 1) := by decide +kernel
theorem dX10_takeNumber_94 : decode cX10_takeNumber 94 = .ok (.getfield 31, 3) := by decide +kernel
theorem dX10_takeNumber_97 : decode cX10_takeNumber 97 = .ok (.invokevirtual 90, 3) := by decide +kernel
theorem dX10_takeNumber_100 : decode cX10_takeNumber 100 = .ok (.pop, 1) := by decide +kernel
theorem dX10_takeNumber_101 : decode cX10_takeNumber 101 = .ok (.iconst (-1), 1) := by decide +kernel
theorem dX10_takeNumber_102 : decode cX10_takeNumber 102 = .ok (.ireturn, 1) := by decide +kernel
theorem dX10_takeNumber_103 : decode cX10_takeNumber 103 = .ok (.aload_n 0, 1) := by decide +kernel
theorem dX10_takeNumber_104 : decode cX10_takeNumber 104 = .ok (.invokevirtual 71, 3) := by decide +kernel
theorem dX10_takeNumber_107 : decode cX10_takeNumber 107 = .ok (.iload_n 3, 1) := by decide +kernel
theorem dX10_takeNumber_108 : decode cX10_takeNumber 108 = .ok (.ireturn, 1) := by decide +kernel
theorem dX1_readOfficer_0 : decode cX1_readOfficer 0 = .ok (.aload_n 0, 1) := by decide +kernel
theorem dX1_readOfficer_1 : decode cX1_readOfficer 1 = .ok (.getfield 19, 3) := by decide +kernel
theorem dX1_readOfficer_4 : decode cX1_readOfficer 4 = .ok (.getfield 92, 3) := by decide +kernel
theorem dX1_readOfficer_7 : decode cX1_readOfficer 7 = .ok (.istore_n 1, 1) := by decide +kernel
theorem dX1_readOfficer_8 : decode cX1_readOfficer 8 = .ok (.aload_n 0, 1) := by decide +kernel
theorem dX1_readOfficer_9 : decode cX1_readOfficer 9 = .ok (.iload_n 1, 1) := by decide +kernel
theorem dX1_readOfficer_10 : decode cX1_readOfficer 10 = .ok (.bipush 8, 2) := by decide +kernel
theorem dX1_readOfficer_12 : decode cX1_readOfficer 12 = .ok (.invokevirtual 95, 3) := by decide +kernel
theorem dX1_readOfficer_15 : decode cX1_readOfficer 15 = .ok (.ifCond .ne 5, 3) := by decide +kernel
theorem dX1_readOfficer_18 : decode cX1_readOfficer 18 = .ok (.iconst 0, 1) := by decide +kernel
theorem dX1_readOfficer_19 : decode cX1_readOfficer 19 = .ok (.ireturn, 1) := by decide +kernel
theorem dX1_readOfficer_20 : decode cX1_readOfficer 20 = .ok (.aload_n 0, 1) := by decide +kernel
theorem dX1_readOfficer_21 : decode cX1_readOfficer 21 = .ok (.invokevirtual 98, 3) := by decide +kernel
theorem dX1_readOfficer_24 : decode cX1_readOfficer 24 = .ok (.istore_n 2, 1) := by decide +kernel
theorem dX1_readOfficer_25 : decode cX1_readOfficer 25 = .ok (.iload_n 2, 1) := by decide +kernel
theorem dX1_readOfficer_26 : decode cX1_readOfficer 26 = .ok (.iconst (-1), 1) := by decide +kernel
theorem dX1_readOfficer_27 : decode cX1_readOfficer 27 = .ok (.if_icmp .eq 14, 3) := by decide +kernel
theorem dX1_readOfficer_30 : decode cX1_readOfficer 30 = .ok (.aload_n 0, 1) := by decide +kernel
theorem dX1_readOfficer_31 : decode cX1_readOfficer 31 = .ok (.getfield 15, 3) := by decide +kernel
theorem dX1_readOfficer_34 : decode cX1_readOfficer 34 = .ok (.iconst 1, 1) := by decide +kernel
theorem dX1_readOfficer_35 : decode cX1_readOfficer 35 = .ok (.invokevirtual 102, 3) := by decide +kernel
theorem dX1_readOfficer_38 : decode cX1_readOfficer 38 = .ok (.ifCond .ne 5, 3) := by decide +kernel
theorem dX1_readOfficer_41 : decode cX1_readOfficer 41 = .ok (.iconst 0, 1) := by decide +kernel
theorem dX1_readOfficer_42 : decode cX1_readOfficer 42 = .ok (.ireturn, 1) := by decide +kernel
theorem dX1_readOfficer_43 : decode cX1_readOfficer 43 = .ok (.aload_n 0, 1) := by decide +kernel
theorem dX1_readOfficer_44 : decode cX1_readOfficer 44 = .ok (.getfield 15, 3) := by decide +kernel
theorem dX1_readOfficer_47 : decode cX1_readOfficer 47 = .ok (.iconst 0, 1) := by decide +kernel
theorem dX1_readOfficer_48 : decode cX1_readOfficer 48 = .ok (.bipush 9, 2) := by decide +kernel
theorem dX1_readOfficer_50 : decode cX1_readOfficer 50 = .ok (.invokevirtual 105, 3) := by decide +kernel
theorem dX1_readOfficer_53 : decode cX1_readOfficer 53 = .ok (.istore_n 3, 1) := by decide +kernel
theorem dX1_readOfficer_54 : decode cX1_readOfficer 54 = .ok (.iload_n 3, 1) := by decide +kernel
theorem dX1_readOfficer_55 : decode cX1_readOfficer 55 = .ok (.iconst (-1), 1) := by decide +kernel
theorem dX1_readOfficer_56 : decode cX1_readOfficer 56 = .ok (.if_icmp .eq 14, 3) := by decide +kernel
theorem dX1_readOfficer_59 : decode cX1_readOfficer 59 = .ok (.aload_n 0, 1) := by decide +kernel
theorem dX1_readOfficer_60 : decode cX1_readOfficer 60 = .ok (.getfield 15, 3) := by decide +kernel
theorem dX1_readOfficer_63 : decode cX1_readOfficer 63 = .ok (.iconst 2, 1) := by decide +kernel
theorem dX1_readOfficer_64 : decode cX1_readOfficer 64 = .ok (.invokevirtual 102, 3) := by decide +kernel
theorem dX1_readOfficer_67 : decode cX1_readOfficer 67 = .ok (.ifCond .ne 5, 3) := by decide +kernel
theorem dX1_readOfficer_70 : decode cX1_readOfficer 70 = .ok (.iconst 0, 1) := by decide +kernel
theorem dX1_readOfficer_71 : decode cX1_readOfficer 71 = .ok (.ireturn, 1) := by decide +kernel
theorem dX1_readOfficer_72 : decode cX1_readOfficer 72 = .ok (.aload_n 0, 1) := by decide +kernel
theorem dX1_readOfficer_73 : decode cX1_readOfficer 73 = .ok (.getfield 15, 3) := by decide +kernel
theorem dX1_readOfficer_76 : decode cX1_readOfficer 76 = .ok (.iconst 0, 1) := by decide +kernel
theorem dX1_readOfficer_77 : decode cX1_readOfficer 77 = .ok (.bipush 9, 2) := by decide +kernel
theorem dX1_readOfficer_79 : decode cX1_readOfficer 79 = .ok (.invokevirtual 105, 3) := by decide +kernel
theorem dX1_readOfficer_82 : decode cX1_readOfficer 82 = .ok (.istore 4, 2) := by decide +kernel
theorem dX1_readOfficer_84 : decode cX1_readOfficer 84 = .ok (.iload 4, 2) := by decide +kernel
theorem dX1_readOfficer_86 : decode cX1_readOfficer 86 = .ok (.iconst (-1), 1) := by decide +kernel
theorem dX1_readOfficer_87 : decode cX1_readOfficer 87 = .ok (.if_icmp .ne 5, 3) := by decide +kernel
theorem dX1_readOfficer_90 : decode cX1_readOfficer 90 = .ok (.iconst 0, 1) := by decide +kernel
theorem dX1_readOfficer_91 : decode cX1_readOfficer 91 = .ok (.ireturn, 1) := by decide +kernel
theorem dX1_readOfficer_92 : decode cX1_readOfficer 92 = .ok (.aload_n 0, 1) := by decide +kernel
theorem dX1_readOfficer_93 : decode cX1_readOfficer 93 = .ok (.getfield 19, 3) := by decide +kernel
theorem dX1_readOfficer_96 : decode cX1_readOfficer 96 = .ok (.getfield 109, 3) := by decide +kernel
theorem dX1_readOfficer_99 : decode cX1_readOfficer 99 = .ok (.iload_n 1, 1) := by decide +kernel
theorem dX1_readOfficer_100 : decode cX1_readOfficer 100 = .ok (.iload_n 2, 1) := by decide +kernel
theorem dX1_readOfficer_101 : decode cX1_readOfficer 101 = .ok (.iastore, 1) := by decide +kernel
theorem dX1_readOfficer_102 : decode cX1_readOfficer 102 = .ok (.aload_n 0, 1) := by decide +kernel
theorem dX1_readOfficer_103 : decode cX1_readOfficer 103 = .ok (.getfield 19, 3) := by decide +kernel
theorem dX1_readOfficer_106 : decode cX1_readOfficer 106 = .ok (.getfield 113, 3) := by decide +kernel
theorem dX1_readOfficer_109 : decode cX1_readOfficer 109 = .ok (.iload_n 1, 1) := by decide +kernel
theorem dX1_readOfficer_110 : decode cX1_readOfficer 110 = .ok (.iload_n 3, 1) := by decide +kernel
theorem dX1_readOfficer_111 : decode cX1_readOfficer 111 = .ok (.iastore, 1) := by decide +kernel
theorem dX1_readOfficer_112 : decode cX1_readOfficer 112 = .ok (.aload_n 0, 1) := by decide +kernel
theorem dX1_readOfficer_113 : decode cX1_readOfficer 113 = .ok (.getfield 19, 3) := by decide +kernel
theorem dX1_readOfficer_116 : decode cX1_readOfficer 116 = .ok (.getfield 116, 3) := by decide +kernel
theorem dX1_readOfficer_119 : decode cX1_readOfficer 119 = .ok (.iload_n 1, 1) := by decide +kernel
theorem dX1_readOfficer_120 : decode cX1_readOfficer 120 = .ok (.iload 4, 2) := by decide +kernel
theorem dX1_readOfficer_122 : decode cX1_readOfficer 122 = .ok (.iastore, 1) := by decide +kernel
theorem dX1_readOfficer_123 : decode cX1_readOfficer 123 = .ok (.aload_n 0, 1) := by decide +kernel
theorem dX1_readOfficer_124 : decode cX1_readOfficer 124 = .ok (.getfield 19, 3) := by decide +kernel
theorem dX1_readOfficer_127 : decode cX1_readOfficer 127 = .ok (.iload_n 1, 1) := by decide +kernel
theorem dX1_readOfficer_128 : decode cX1_readOfficer 128 = .ok (.iconst 1, 1) := by decide +kernel
theorem dX1_readOfficer_129 : decode cX1_readOfficer 129 = .ok (.iadd, 1) := by decide +kernel
theorem dX1_readOfficer_130 : decode cX1_readOfficer 130 = .ok (.putfield 92, 3) := by decide +kernel
theorem dX1_readOfficer_133 : decode cX1_readOfficer 133 = .ok (.iconst 1, 1) := by decide +kernel
theorem dX1_readOfficer_134 : decode cX1_readOfficer 134 = .ok (.ireturn, 1) := by decide +kernel
theorem dX1_readFeeling_0 : decode cX1_readFeeling 0 = .ok (.aload_n 0, 1) := by decide +kernel
theorem dX1_readFeeling_1 : decode cX1_readFeeling 1 = .ok (.getfield 19, 3) := by decide +kernel
theorem dX1_readFeeling_4 : decode cX1_readFeeling 4 = .ok (.getfield 119, 3) := by decide +kernel
theorem dX1_readFeeling_7 : decode cX1_readFeeling 7 = .ok (.istore_n 1, 1) := by decide +kernel
theorem dX1_readFeeling_8 : decode cX1_readFeeling 8 = .ok (.aload_n 0, 1) := by decide +kernel
theorem dX1_readFeeling_9 : decode cX1_readFeeling 9 = .ok (.iload_n 1, 1) := by decide +kernel
theorem dX1_readFeeling_10 : decode cX1_readFeeling 10 = .ok (.iconst 4, 1) := by decide +kernel
theorem dX1_readFeeling_11 : decode cX1_readFeeling 11 = .ok (.invokevirtual 95, 3) := by decide +kernel
theorem dX1_readFeeling_14 : decode cX1_readFeeling 14 = .ok (.ifCond .ne 5, 3) := by decide +kernel
theorem dX1_readFeeling_17 : decode cX1_readFeeling 17 = .ok (.iconst 0, 1) := by decide +kernel
theorem dX1_readFeeling_18 : decode cX1_readFeeling 18 = .ok (.ireturn, 1) := by decide +kernel
theorem dX1_readFeeling_19 : decode cX1_readFeeling 19 = .ok (.aload_n 0, 1) := by decide +kernel
theorem dX1_readFeeling_20 : decode cX1_readFeeling 20 = .ok (.invokevirtual 98, 3) := by decide +kernel
theorem dX1_readFeeling_23 : decode cX1_readFeeling 23 = .ok (.istore_n 2, 1) := by decide +kernel
theorem dX1_readFeeling_24 : decode cX1_readFeeling 24 = .ok (.iload_n 2, 1) := by decide +kernel
theorem dX1_readFeeling_25 : decode cX1_readFeeling 25 = .ok (.iconst (-1), 1) := by decide +kernel
