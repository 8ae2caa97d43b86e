theorem dX11_isCarbon_1 : decode cX11_isCarbon 1 = .ok (.ifCond .lt 21, 3) := by decide +kernel
theorem dX11_isCarbon_4 : decode cX11_isCarbon 4 = .ok (.iload_n 1, 1) := by decide +kernel
theorem dX11_isCarbon_5 : decode cX11_isCarbon 5 = .ok (.aload_n 0, 1) := by decide +kernel
theorem dX11_isCarbon_6 : decode cX11_isCarbon 6 = .ok (.getfield 47, 3) := by decide +kernel
theorem dX11_isCarbon_9 : decode cX11_isCarbon 9 = .ok (.getfield 115, 3) := by decide +kernel
theorem dX11_isCarbon_12 : decode cX11_isCarbon 12 = .ok (.getfield 148, 3) := by decide +kernel
theorem dX11_isCarbon_15 : decode cX11_isCarbon 15 = .ok (.if_icmp .ge 7, 3) := by decide +kernel
theorem dX11_isCarbon_18 : decode cX11_isCarbon 18 = .ok (.iconst 1, 1) := by decide +kernel
theorem dX11_isCarbon_19 : decode cX11_isCarbon 19 = .ok (.goto 4, 3) := by decide +kernel
theorem dX11_isCarbon_22 : decode cX11_isCarbon 22 = .ok (.iconst 0, 1) := by decide +kernel
theorem dX11_isCarbon_23 : decode cX11_isCarbon 23 = .ok (.ireturn, 1) := by decide +kernel
theorem dX11_carbon_0 : decode cX11_carbon 0 = .ok (.aload_n 0, 1) := by decide +kernel
theorem dX11_carbon_1 : decode cX11_carbon 1 = .ok (.iload_n 1, 1) := by decide +kernel
theorem dX11_carbon_2 : decode cX11_carbon 2 = .ok (.invokevirtual 203, 3) := by decide +kernel
theorem dX11_carbon_5 : decode cX11_carbon 5 = .ok (.ifCond .ne 5, 3) := by decide +kernel
theorem dX11_carbon_8 : decode cX11_carbon 8 = .ok (.iconst (-1), 1) := by decide +kernel
theorem dX11_carbon_9 : decode cX11_carbon 9 = .ok (.ireturn, 1) := by decide +kernel
theorem dX11_carbon_10 : decode cX11_carbon 10 = .ok (.iload_n 2, 1) := by decide +kernel
theorem dX11_carbon_11 : decode cX11_carbon 11 = .ok (.tableswitch 96 0 4 #[33, 46, 59, 72, 84], 33) := by decide +kernel
theorem dX11_carbon_44 : decode cX11_carbon 44 = .ok (.aload_n 0, 1) := by decide +kernel
theorem dX11_carbon_45 : decode cX11_carbon 45 = .ok (.getfield 47, 3) := by decide +kernel
theorem dX11_carbon_48 : decode cX11_carbon 48 = .ok (.getfield 115, 3) := by decide +kernel
theorem dX11_carbon_51 : decode cX11_carbon 51 = .ok (.getfield 206, 3) := by decide +kernel
theorem dX11_carbon_54 : decode cX11_carbon 54 = .ok (.iload_n 1, 1) := by decide +kernel
theorem dX11_carbon_55 : decode cX11_carbon 55 = .ok (.iaload, 1) := by decide +kernel
theorem dX11_carbon_56 : decode cX11_carbon 56 = .ok (.ireturn, 1) := by decide +kernel
theorem dX11_carbon_57 : decode cX11_carbon 57 = .ok (.aload_n 0, 1) := by decide +kernel
theorem dX11_carbon_58 : decode cX11_carbon 58 = .ok (.getfield 47, 3) := by decide +kernel
theorem dX11_carbon_61 : decode cX11_carbon 61 = .ok (.getfield 115, 3) := by decide +kernel
theorem dX11_carbon_64 : decode cX11_carbon 64 = .ok (.getfield 209, 3) := by decide +kernel
theorem dX11_carbon_67 : decode cX11_carbon 67 = .ok (.iload_n 1, 1) := by decide +kernel
theorem dX11_carbon_68 : decode cX11_carbon 68 = .ok (.iaload, 1) := by decide +kernel
theorem dX11_carbon_69 : decode cX11_carbon 69 = .ok (.ireturn, 1) := by decide +kernel
theorem dX11_carbon_70 : decode cX11_carbon 70 = .ok (.aload_n 0, 1) := by decide +kernel
theorem dX11_carbon_71 : decode cX11_carbon 71 = .ok (.getfield 47, 3) := by decide +kernel
theorem dX11_carbon_74 : decode cX11_carbon 74 = .ok (.getfield 115, 3) := by decide +kernel
theorem dX11_carbon_77 : decode cX11_carbon 77 = .ok (.getfield 212, 3) := by decide +kernel
theorem dX11_carbon_80 : decode cX11_carbon 80 = .ok (.iload_n 1, 1) := by decide +kernel
theorem dX11_carbon_81 : decode cX11_carbon 81 = .ok (.iaload, 1) := by decide +kernel
theorem dX11_carbon_82 : decode cX11_carbon 82 = .ok (.ireturn, 1) := by decide +kernel
theorem dX11_carbon_83 : decode cX11_carbon 83 = .ok (.aload_n 0, 1) := by decide +kernel
theorem dX11_carbon_84 : decode cX11_carbon 84 = .ok (.getfield 35, 3) := by decide +kernel
theorem dX11_carbon_87 : decode cX11_carbon 87 = .ok (.getfield 154, 3) := by decide +kernel
theorem dX11_carbon_90 : decode cX11_carbon 90 = .ok (.iload_n 1, 1) := by decide +kernel
theorem dX11_carbon_91 : decode cX11_carbon 91 = .ok (.ishr, 1) := by decide +kernel
theorem dX11_carbon_92 : decode cX11_carbon 92 = .ok (.iconst 1, 1) := by decide +kernel
theorem dX11_carbon_93 : decode cX11_carbon 93 = .ok (.iand, 1) := by decide +kernel
theorem dX11_carbon_94 : decode cX11_carbon 94 = .ok (.ireturn, 1) := by decide +kernel
theorem dX11_carbon_95 : decode cX11_carbon 95 = .ok (.aload_n 0, 1) := by decide +kernel
theorem dX11_carbon_96 : decode cX11_carbon 96 = .ok (.getfield 35, 3) := by decide +kernel
theorem dX11_carbon_99 : decode cX11_carbon 99 = .ok (.getfield 162, 3) := by decide +kernel
theorem dX11_carbon_102 : decode cX11_carbon 102 = .ok (.iload_n 1, 1) := by decide +kernel
theorem dX11_carbon_103 : decode cX11_carbon 103 = .ok (.ishr, 1) := by decide +kernel
theorem dX11_carbon_104 : decode cX11_carbon 104 = .ok (.iconst 1, 1) := by decide +kernel
theorem dX11_carbon_105 : decode cX11_carbon 105 = .ok (.iand, 1) := by decide +kernel
theorem dX11_carbon_106 : decode cX11_carbon 106 = .ok (.ireturn, 1) := by decide +kernel
theorem dX11_carbon_107 : decode cX11_carbon 107 = .ok (.iconst (-1), 1) := by decide +kernel
theorem dX11_carbon_108 : decode cX11_carbon 108 = .ok (.ireturn, 1) := by decide +kernel
theorem dX11_feels_0 : decode cX11_feels 0 = .ok (.aload_n 0, 1) := by decide +kernel
theorem dX11_feels_1 : decode cX11_feels 1 = .ok (.iload_n 1, 1) := by decide +kernel
theorem dX11_feels_2 : decode cX11_feels 2 = .ok (.invokevirtual 179, 3) := by decide +kernel
theorem dX11_feels_5 : decode cX11_feels 5 = .ok (.ifCond .eq 11, 3) := by decide +kernel
theorem dX11_feels_8 : decode cX11_feels 8 = .ok (.aload_n 0, 1) := by decide +kernel
theorem dX11_feels_9 : decode cX11_feels 9 = .ok (.iload_n 2, 1) := by decide +kernel
theorem dX11_feels_10 : decode cX11_feels 10 = .ok (.invokevirtual 185, 3) := by decide +kernel
theorem dX11_feels_13 : decode cX11_feels 13 = .ok (.ifCond .ne 5, 3) := by decide +kernel
theorem dX11_feels_16 : decode cX11_feels 16 = .ok (.iconst (-1), 1) := by decide +kernel
theorem dX11_feels_17 : decode cX11_feels 17 = .ok (.ireturn, 1) := by decide +kernel
theorem dX11_feels_18 : decode cX11_feels 18 = .ok (.aload_n 0, 1) := by decide +kernel
theorem dX11_feels_19 : decode cX11_feels 19 = .ok (.getfield 35, 3) := by decide +kernel
theorem dX11_feels_22 : decode cX11_feels 22 = .ok (.iload_n 1, 1) := by decide +kernel
theorem dX11_feels_23 : decode cX11_feels 23 = .ok (.iload_n 2, 1) := by decide +kernel
theorem dX11_feels_24 : decode cX11_feels 24 = .ok (.invokevirtual 175, 3) := by decide +kernel
theorem dX11_feels_27 : decode cX11_feels 27 = .ok (.ireturn, 1) := by decide +kernel
theorem dX3_openDay_0 : decode cX3_openDay 0 = .ok (.aload_n 0, 1) := by decide +kernel
theorem dX3_openDay_1 : decode cX3_openDay 1 = .ok (.getfield 28, 3) := by decide +kernel
theorem dX3_openDay_4 : decode cX3_openDay 4 = .ok (.getfield 32, 3) := by decide +kernel
theorem dX3_openDay_7 : decode cX3_openDay 7 = .ok (.ifCond .eq 21, 3) := by decide +kernel
theorem dX3_openDay_10 : decode cX3_openDay 10 = .ok (.iload_n 1, 1) := by decide +kernel
theorem dX3_openDay_11 : decode cX3_openDay 11 = .ok (.aload_n 0, 1) := by decide +kernel
theorem dX3_openDay_12 : decode cX3_openDay 12 = .ok (.getfield 22, 3) := by decide +kernel
theorem dX3_openDay_15 : decode cX3_openDay 15 = .ok (.if_icmp .eq 13, 3) := by decide +kernel
theorem dX3_openDay_18 : decode cX3_openDay 18 = .ok (.aload_n 0, 1) := by decide +kernel
theorem dX3_openDay_19 : decode cX3_openDay 19 = .ok (.dup, 1) := by decide +kernel
theorem dX3_openDay_20 : decode cX3_openDay 20 = .ok (.getfield 18, 3) := by decide +kernel
theorem dX3_openDay_23 : decode cX3_openDay 23 = .ok (.iconst 1, 1) := by decide +kernel
theorem dX3_openDay_24 : decode cX3_openDay 24 = .ok (.iadd, 1) := by decide +kernel
theorem dX3_openDay_25 : decode cX3_openDay 25 = .ok (.putfield 18, 3) := by decide +kernel
theorem dX3_openDay_28 : decode cX3_openDay 28 = .ok (.aload_n 0, 1) := by decide +kernel
theorem dX3_openDay_29 : decode cX3_openDay 29 = .ok (.iload_n 1, 1) := by decide +kernel
theorem dX3_openDay_30 : decode cX3_openDay 30 = .ok (.putfield 22, 3) := by decide +kernel
theorem dX3_openDay_33 : decode cX3_openDay 33 = .ok (.return_, 1) := by decide +kernel
theorem dX3_taker_0 : decode cX3_taker 0 = .ok (.aload_n 0, 1) := by decide +kernel
theorem dX3_taker_1 : decode cX3_taker 1 = .ok (.iload_n 1, 1) := by decide +kernel
theorem dX3_taker_2 : decode cX3_taker 2 = .ok (.iload_n 2, 1) := by decide +kernel
theorem dX3_taker_3 : decode cX3_taker 3 = .ok (.iconst (-1), 1) := by decide +kernel
theorem dX3_taker_4 : decode cX3_taker 4 = .ok (.ixor, 1) := by decide +kernel
theorem dX3_taker_5 : decode cX3_taker 5 = .ok (.invokevirtual 44, 3) := by decide +kernel
theorem dX3_taker_8 : decode cX3_taker 8 = .ok (.ireturn, 1) := by decide +kernel
theorem dX2_set_0 : decode cX2_set 0 = .ok (.iconst (-1), 1) := by decide +kernel
theorem dX2_set_1 : decode cX2_set 1 = .ok (.iload_n 1, 1) := by decide +kernel
theorem dX2_set_2 : decode cX2_set 2 = .ok (.isub, 1) := by decide +kernel
theorem dX2_set_3 : decode cX2_set 3 = .ok (.istore_n 3, 1) := by decide +kernel
theorem dX2_set_4 : decode cX2_set 4 = .ok (.iload_n 3, 1) := by decide +kernel
theorem dX2_set_5 : decode cX2_set 5 = .ok (.ifCond .lt 16, 3) := by decide +kernel
theorem dX2_set_8 : decode cX2_set 8 = .ok (.iload_n 3, 1) := by decide +kernel
theorem dX2_set_9 : decode cX2_set 9 = .ok (.bipush 8, 2) := by decide +kernel
theorem dX2_set_11 : decode cX2_set 11 = .ok (.if_icmp .ge 10, 3) := by decide +kernel
theorem dX2_set_14 : decode cX2_set 14 = .ok (.aload_n 0, 1) := by decide +kernel
theorem dX2_set_15 : decode cX2_set 15 = .ok (.getfield 19, 3) := by decide +kernel
theorem dX2_set_18 : decode cX2_set 18 = .ok (.iload_n 3, 1) := by decide +kernel
theorem dX2_set_19 : decode cX2_set 19 = .ok (.iload_n 2, 1) := by decide +kernel
theorem dX2_set_20 : decode cX2_set 20 = .ok (.iastore, 1) := by decide +kernel
theorem dX2_set_21 : decode cX2_set 21 = .ok (.return_, 1) := by decide +kernel
theorem dX2_ofOne_0 : decode cX2_ofOne 0 = .ok (.iload_n 1, 1) := by decide +kernel
theorem dX2_ofOne_1 : decode cX2_ofOne 1 = .ok (.tableswitch 72 (-13) (-11) #[51, 31, 27], 27) := by decide +kernel
theorem dX2_ofOne_28 : decode cX2_ofOne 28 = .ok (.iconst 1, 1) := by decide +kernel
theorem dX2_ofOne_29 : decode cX2_ofOne 29 = .ok (.iload_n 2, 1) := by decide +kernel
theorem dX2_ofOne_30 : decode cX2_ofOne 30 = .ok (.isub, 1) := by decide +kernel
theorem dX2_ofOne_31 : decode cX2_ofOne 31 = .ok (.ireturn, 1) := by decide +kernel
theorem dX2_ofOne_32 : decode cX2_ofOne 32 = .ok (.iload_n 2, 1) := by decide +kernel
theorem dX2_ofOne_33 : decode cX2_ofOne 33 = .ok (.ifCond .lt 17, 3) := by decide +kernel
theorem dX2_ofOne_36 : decode cX2_ofOne 36 = .ok (.iload_n 2, 1) := by decide +kernel
theorem dX2_ofOne_37 : decode cX2_ofOne 37 = .ok (.iconst 4, 1) := by decide +kernel
theorem dX2_ofOne_38 : decode cX2_ofOne 38 = .ok (.if_icmp .ge 12, 3) := by decide +kernel
theorem dX2_ofOne_41 : decode cX2_ofOne 41 = .ok (.aload_n 0, 1) := by decide +kernel
theorem dX2_ofOne_42 : decode cX2_ofOne 42 = .ok (.getfield 22, 3) := by decide +kernel
theorem dX2_ofOne_45 : decode cX2_ofOne 45 = .ok (.iload_n 2, 1) := by decide +kernel
theorem dX2_ofOne_46 : decode cX2_ofOne 46 = .ok (.iaload, 1) := by decide +kernel
theorem dX2_ofOne_47 : decode cX2_ofOne 47 = .ok (.goto 4, 3) := by decide +kernel
theorem dX2_ofOne_50 : decode cX2_ofOne 50 = .ok (.iconst 0, 1) := by decide +kernel
theorem dX2_ofOne_51 : decode cX2_ofOne 51 = .ok (.ireturn, 1) := by decide +kernel
theorem dX2_ofOne_52 : decode cX2_ofOne 52 = .ok (.iload_n 2, 1) := by decide +kernel
theorem dX2_ofOne_53 : decode cX2_ofOne 53 = .ok (.ifCond .lt 18, 3) := by decide +kernel
theorem dX2_ofOne_56 : decode cX2_ofOne 56 = .ok (.iload_n 2, 1) := by decide +kernel
theorem dX2_ofOne_57 : decode cX2_ofOne 57 = .ok (.bipush 8, 2) := by decide +kernel
theorem dX2_ofOne_59 : decode cX2_ofOne 59 = .ok (.if_icmp .ge 12, 3) := by decide +kernel
theorem dX2_ofOne_62 : decode cX2_ofOne 62 = .ok (.aload_n 0, 1) := by decide +kernel
theorem dX2_ofOne_63 : decode cX2_ofOne 63 = .ok (.getfield 25, 3) := by decide +kernel
theorem dX2_ofOne_66 : decode cX2_ofOne 66 = .ok (.iload_n 2, 1) := by decide +kernel
theorem dX2_ofOne_67 : decode cX2_ofOne 67 = .ok (.iaload, 1) := by decide +kernel
theorem dX2_ofOne_68 : decode cX2_ofOne 68 = .ok (.goto 4, 3) := by decide +kernel
theorem dX2_ofOne_71 : decode cX2_ofOne 71 = .ok (.iconst (-1), 1) := by decide +kernel
theorem dX2_ofOne_72 : decode cX2_ofOne 72 = .ok (.ireturn, 1) := by decide +kernel
theorem dX2_ofOne_73 : decode cX2_ofOne 73 = .ok (.iconst 0, 1) := by decide +kernel
theorem dX2_ofOne_74 : decode cX2_ofOne 74 = .ok (.ireturn, 1) := by decide +kernel
theorem dX2_held_0 : decode cX2_held 0 = .ok (.lload_n 0, 1) := by decide +kernel
theorem dX2_held_1 : decode cX2_held 1 = .ok (.ldc2_w 54, 3) := by decide +kernel
theorem dX2_held_4 : decode cX2_held 4 = .ok (.lcmp, 1) := by decide +kernel
theorem dX2_held_5 : decode cX2_held 5 = .ok (.ifCond .le 8, 3) := by decide +kernel
theorem dX2_held_8 : decode cX2_held 8 = .ok (.ldc 56, 2) := by decide +kernel
theorem dX2_held_10 : decode cX2_held 10 = .ok (.goto 18, 3) := by decide +kernel
theorem dX2_held_13 : decode cX2_held 13 = .ok (.lload_n 0, 1) := by decide +kernel
theorem dX2_held_14 : decode cX2_held 14 = .ok (.ldc2_w 57, 3) := by decide +kernel
theorem dX2_held_17 : decode cX2_held 17 = .ok (.lcmp, 1) := by decide +kernel
theorem dX2_held_18 : decode cX2_held 18 = .ok (.ifCond .ge 8, 3) := by decide +kernel
theorem dX2_held_21 : decode cX2_held 21 = .ok (.ldc 59, 2) := by decide +kernel
theorem dX2_held_23 : decode cX2_held 23 = .ok (.goto 5, 3) := by decide +kernel
theorem dX2_held_26 : decode cX2_held 26 = .ok (.lload_n 0, 1) := by decide +kernel
theorem dX2_held_27 : decode cX2_held 27 = .ok (.l2i, 1) := by decide +kernel
theorem dX2_held_28 : decode cX2_held 28 = .ok (.ireturn, 1) := by decide +kernel
theorem dJ9_floorDiv_7cf53_0 : decode cJ9_floorDiv_7cf53 0 = .ok (.iload_n 0, 1) := by decide +kernel
theorem dJ9_floorDiv_7cf53_1 : decode cJ9_floorDiv_7cf53 1 = .ok (.iload_n 1, 1) := by decide +kernel
theorem dJ9_floorDiv_7cf53_2 : decode cJ9_floorDiv_7cf53 2 = .ok (.idiv, 1) := by decide +kernel
theorem dJ9_floorDiv_7cf53_3 : decode cJ9_floorDiv_7cf53 3 = .ok (.istore_n 2, 1) := by decide +kernel
theorem dJ9_floorDiv_7cf53_4 : decode cJ9_floorDiv_7cf53 4 = .ok (.iload_n 0, 1) := by decide +kernel
theorem dJ9_floorDiv_7cf53_5 : decode cJ9_floorDiv_7cf53 5 = .ok (.iload_n 1, 1) := by decide +kernel
theorem dJ9_floorDiv_7cf53_6 : decode cJ9_floorDiv_7cf53 6 = .ok (.ixor, 1) := by decide +kernel
theorem dJ9_floorDiv_7cf53_7 : decode cJ9_floorDiv_7cf53 7 = .ok (.ifCond .ge 14, 3) := by decide +kernel
theorem dJ9_floorDiv_7cf53_10 : decode cJ9_floorDiv_7cf53 10 = .ok (.iload_n 2, 1) := by decide +kernel
theorem dJ9_floorDiv_7cf53_11 : decode cJ9_floorDiv_7cf53 11 = .ok (.iload_n 1, 1) := by decide +kernel
theorem dJ9_floorDiv_7cf53_12 : decode cJ9_floorDiv_7cf53 12 = .ok (.imul, 1) := by decide +kernel
theorem dJ9_floorDiv_7cf53_13 : decode cJ9_floorDiv_7cf53 13 = .ok (.iload_n 0, 1) := by decide +kernel
theorem dJ9_floorDiv_7cf53_14 : decode cJ9_floorDiv_7cf53 14 = .ok (.if_icmp .eq 7, 3) := by decide +kernel
theorem dJ9_floorDiv_7cf53_17 : decode cJ9_floorDiv_7cf53 17 = .ok (.iload_n 2, 1) := by decide +kernel
theorem dJ9_floorDiv_7cf53_18 : decode cJ9_floorDiv_7cf53 18 = .ok (.iconst 1, 1) := by decide +kernel
theorem dJ9_floorDiv_7cf53_19 : decode cJ9_floorDiv_7cf53 19 = .ok (.isub, 1) := by decide +kernel
theorem dJ9_floorDiv_7cf53_20 : decode cJ9_floorDiv_7cf53 20 = .ok (.ireturn, 1) := by decide +kernel
theorem dJ9_floorDiv_7cf53_21 : decode cJ9_floorDiv_7cf53 21 = .ok (.iload_n 2, 1) := by decide +kernel
theorem dJ9_floorDiv_7cf53_22 : decode cJ9_floorDiv_7cf53 22 = .ok (.ireturn, 1) := by decide +kernel
theorem dX2_ofTwo_0 : decode cX2_ofTwo 0 = .ok (.iload_n 0, 1) := by decide +kernel
theorem dX2_ofTwo_1 : decode cX2_ofTwo 1 = .ok (.tableswitch 163 (-31) (-21) #[159, 155, 144, 133, 122, 111, 100, 86, 77, 68, 59], 59) := by decide +kernel
theorem dX2_ofTwo_60 : decode cX2_ofTwo 60 = .ok (.iload_n 1, 1) := by decide +kernel
theorem dX2_ofTwo_61 : decode cX2_ofTwo 61 = .ok (.i2l, 1) := by decide +kernel
theorem dX2_ofTwo_62 : decode cX2_ofTwo 62 = .ok (.iload_n 2, 1) := by decide +kernel
theorem dX2_ofTwo_63 : decode cX2_ofTwo 63 = .ok (.i2l, 1) := by decide +kernel
theorem dX2_ofTwo_64 : decode cX2_ofTwo 64 = .ok (.ladd, 1) := by decide +kernel
theorem dX2_ofTwo_65 : decode cX2_ofTwo 65 = .ok (.invokestatic 47, 3) := by decide +kernel
theorem dX2_ofTwo_68 : decode cX2_ofTwo 68 = .ok (.ireturn, 1) := by decide +kernel
theorem dX2_ofTwo_69 : decode cX2_ofTwo 69 = .ok (.iload_n 1, 1) := by decide +kernel
theorem dX2_ofTwo_70 : decode cX2_ofTwo 70 = .ok (.i2l, 1) := by decide +kernel
theorem dX2_ofTwo_71 : decode cX2_ofTwo 71 = .ok (.iload_n 2, 1) := by decide +kernel
theorem dX2_ofTwo_72 : decode cX2_ofTwo 72 = .ok (.i2l, 1) := by decide +kernel
theorem dX2_ofTwo_73 : decode cX2_ofTwo 73 = .ok (.lsub, 1) := by decide +kernel
theorem dX2_ofTwo_74 : decode cX2_ofTwo 74 = .ok (.invokestatic 47, 3) := by decide +kernel
theorem dX2_ofTwo_77 : decode cX2_ofTwo 77 = .ok (.ireturn, 1) := by decide +kernel
theorem dX2_ofTwo_78 : decode cX2_ofTwo 78 = .ok (.iload_n 1, 1) := by decide +kernel
theorem dX2_ofTwo_79 : decode cX2_ofTwo 79 = .ok (.i2l, 1) := by decide +kernel
theorem dX2_ofTwo_80 : decode cX2_ofTwo 80 = .ok (.iload_n 2, 1) := by decide +kernel
theorem dX2_ofTwo_81 : decode cX2_ofTwo 81 = .ok (.i2l, 1) := by decide +kernel
theorem dX2_ofTwo_82 : decode cX2_ofTwo 82 = .ok (.lmul, 1) := by decide +kernel
theorem dX2_ofTwo_83 : decode cX2_ofTwo 83 = .ok (.invokestatic 47, 3) := by decide +kernel
theorem dX2_ofTwo_86 : decode cX2_ofTwo 86 = .ok (.ireturn, 1) := by decide +kernel
theorem dX2_ofTwo_87 : decode cX2_ofTwo 87 = .ok (.iload_n 2, 1) := by decide +kernel
theorem dX2_ofTwo_88 : decode cX2_ofTwo 88 = .ok (.ifCond .ne 7, 3) := by decide +kernel
theorem dX2_ofTwo_91 : decode cX2_ofTwo 91 = .ok (.iconst 0, 1) := by decide +kernel
theorem dX2_ofTwo_92 : decode cX2_ofTwo 92 = .ok (.goto 8, 3) := by decide +kernel
theorem dX2_ofTwo_95 : decode cX2_ofTwo 95 = .ok (.iload_n 1, 1) := by decide +kernel
theorem dX2_ofTwo_96 : decode cX2_ofTwo 96 = .ok (.iload_n 2, 1) := by decide +kernel
theorem dX2_ofTwo_97 : decode cX2_ofTwo 97 = .ok (.invokestatic 51, 3) := by decide +kernel
theorem dX2_ofTwo_100 : decode cX2_ofTwo 100 = .ok (.ireturn, 1) := by decide +kernel
theorem dX2_ofTwo_101 : decode cX2_ofTwo 101 = .ok (.iload_n 1, 1) := by decide +kernel
theorem dX2_ofTwo_102 : decode cX2_ofTwo 102 = .ok (.iload_n 2, 1) := by decide +kernel
theorem dX2_ofTwo_103 : decode cX2_ofTwo 103 = .ok (.if_icmp .ge 7, 3) := by decide +kernel
theorem dX2_ofTwo_106 : decode cX2_ofTwo 106 = .ok (.iload_n 1, 1) := by decide +kernel
theorem dX2_ofTwo_107 : decode cX2_ofTwo 107 = .ok (.goto 4, 3) := by decide +kernel
theorem dX2_ofTwo_110 : decode cX2_ofTwo 110 = .ok (.iload_n 2, 1) := by decide +kernel
theorem dX2_ofTwo_111 : decode cX2_ofTwo 111 = .ok (.ireturn, 1) := by decide +kernel
theorem dX2_ofTwo_112 : decode cX2_ofTwo 112 = .ok (.iload_n 1, 1) := by decide +kernel
theorem dX2_ofTwo_113 : decode cX2_ofTwo 113 = .ok (.iload_n 2, 1) := by decide +kernel
theorem dX2_ofTwo_114 : decode cX2_ofTwo 114 = .ok (.if_icmp .le 7, 3) := by decide +kernel
theorem dX2_ofTwo_117 : decode cX2_ofTwo 117 = .ok (.iload_n 1, 1) := by decide +kernel
theorem dX2_ofTwo_118 : decode cX2_ofTwo 118 = .ok (.goto 4, 3) := by decide +kernel
theorem dX2_ofTwo_121 : decode cX2_ofTwo 121 = .ok (.iload_n 2, 1) := by decide +kernel
theorem dX2_ofTwo_122 : decode cX2_ofTwo 122 = .ok (.ireturn, 1) := by decide +kernel
theorem dX2_ofTwo_123 : decode cX2_ofTwo 123 = .ok (.iload_n 1, 1) := by decide +kernel
theorem dX2_ofTwo_124 : decode cX2_ofTwo 124 = .ok (.iload_n 2, 1) := by decide +kernel
theorem dX2_ofTwo_125 : decode cX2_ofTwo 125 = .ok (.if_icmp .ge 7, 3) := by decide +kernel
theorem dX2_ofTwo_128 : decode cX2_ofTwo 128 = .ok (.iconst 1, 1) := by decide +kernel
theorem dX2_ofTwo_129 : decode cX2_ofTwo 129 = .ok (.goto 4, 3) := by decide +kernel
theorem dX2_ofTwo_132 : decode cX2_ofTwo 132 = .ok (.iconst 0, 1) := by decide +kernel
theorem dX2_ofTwo_133 : decode cX2_ofTwo 133 = .ok (.ireturn, 1) := by decide +kernel
theorem dX2_ofTwo_134 : decode cX2_ofTwo 134 = .ok (.iload_n 1, 1) := by decide +kernel
theorem dX2_ofTwo_135 : decode cX2_ofTwo 135 = .ok (.iload_n 2, 1) := by decide +kernel
theorem dX2_ofTwo_136 : decode cX2_ofTwo 136 = .ok (.if_icmp .le 7, 3) := by decide +kernel
theorem dX2_ofTwo_139 : decode cX2_ofTwo 139 = .ok (.iconst 1, 1) := by decide +kernel
theorem dX2_ofTwo_140 : decode cX2_ofTwo 140 = .ok (.goto 4, 3) := by decide +kernel
theorem dX2_ofTwo_143 : decode cX2_ofTwo 143 = .ok (.iconst 0, 1) := by decide +kernel
theorem dX2_ofTwo_144 : decode cX2_ofTwo 144 = .ok (.ireturn, 1) := by decide +kernel
theorem dX2_ofTwo_145 : decode cX2_ofTwo 145 = .ok (.iload_n 1, 1) := by decide +kernel
theorem dX2_ofTwo_146 : decode cX2_ofTwo 146 = .ok (.iload_n 2, 1) := by decide +kernel
theorem dX2_ofTwo_147 : decode cX2_ofTwo 147 = .ok (.if_icmp .ne 7, 3) := by decide +kernel
theorem dX2_ofTwo_150 : decode cX2_ofTwo 150 = .ok (.iconst 1, 1) := by decide +kernel
theorem dX2_ofTwo_151 : decode cX2_ofTwo 151 = .ok (.goto 4, 3) := by decide +kernel
theorem dX2_ofTwo_154 : decode cX2_ofTwo 154 = .ok (.iconst 0, 1) := by decide +kernel
theorem dX2_ofTwo_155 : decode cX2_ofTwo 155 = .ok (.ireturn, 1) := by decide +kernel
theorem dX2_ofTwo_156 : decode cX2_ofTwo 156 = .ok (.iload_n 1, 1) := by decide +kernel
theorem dX2_ofTwo_157 : decode cX2_ofTwo 157 = .ok (.iload_n 2, 1) := by decide +kernel
theorem dX2_ofTwo_158 : decode cX2_ofTwo 158 = .ok (.iand, 1) := by decide +kernel
theorem dX2_ofTwo_159 : decode cX2_ofTwo 159 = .ok (.ireturn, 1) := by decide +kernel
theorem dX2_ofTwo_160 : decode cX2_ofTwo 160 = .ok (.iload_n 1, 1) := by decide +kernel
theorem dX2_ofTwo_161 : decode cX2_ofTwo 161 = .ok (.iload_n 2, 1) := by decide +kernel
theorem dX2_ofTwo_162 : decode cX2_ofTwo 162 = .ok (.ior, 1) := by decide +kernel
theorem dX2_ofTwo_163 : decode cX2_ofTwo 163 = .ok (.ireturn, 1) := by decide +kernel
theorem dX2_ofTwo_164 : decode cX2_ofTwo 164 = .ok (.iconst 0, 1) := by decide +kernel
theorem dX2_ofTwo_165 : decode cX2_ofTwo 165 = .ok (.ireturn, 1) := by decide +kernel
theorem dX2_run_0 : decode cX2_run 0 = .ok (.iconst 0, 1) := by decide +kernel
theorem dX2_run_1 : decode cX2_run 1 = .ok (.istore_n 3, 1) := by decide +kernel
theorem dX2_run_2 : decode cX2_run 2 = .ok (.iload_n 2, 1) := by decide +kernel
theorem dX2_run_3 : decode cX2_run 3 = .ok (.aload_n 0, 1) := by decide +kernel
theorem dX2_run_4 : decode cX2_run 4 = .ok (.getfield 15, 3) := by decide +kernel
theorem dX2_run_7 : decode cX2_run 7 = .ok (.invokestatic 31, 3) := by decide +kernel
theorem dX2_run_10 : decode cX2_run 10 = .ok (.istore 4, 2) := by decide +kernel
theorem dX2_run_12 : decode cX2_run 12 = .ok (.iload_n 1, 1) := by decide +kernel
theorem dX2_run_13 : decode cX2_run 13 = .ok (.iconst 0, 1) := by decide +kernel
theorem dX2_run_14 : decode cX2_run 14 = .ok (.invokestatic 37, 3) := by decide +kernel
theorem dX2_run_17 : decode cX2_run 17 = .ok (.istore 5, 2) := by decide +kernel
theorem dX2_run_19 : decode cX2_run 19 = .ok (.iload 5, 2) := by decide +kernel
theorem dX2_run_21 : decode cX2_run 21 = .ok (.iload 4, 2) := by decide +kernel
theorem dX2_run_23 : decode cX2_run 23 = .ok (.if_icmp .ge 134, 3) := by decide +kernel
theorem dX2_run_26 : decode cX2_run 26 = .ok (.aload_n 0, 1) := by decide +kernel
theorem dX2_run_27 : decode cX2_run 27 = .ok (.getfield 9, 3) := by decide +kernel
theorem dX2_run_30 : decode cX2_run 30 = .ok (.iload 5, 2) := by decide +kernel
theorem dX2_run_32 : decode cX2_run 32 = .ok (.iaload, 1) := by decide +kernel
theorem dX2_run_33 : decode cX2_run 33 = .ok (.istore 6, 2) := by decide +kernel
theorem dX2_run_35 : decode cX2_run 35 = .ok (.iload 6, 2) := by decide +kernel
theorem dX2_run_37 : decode cX2_run 37 = .ok (.bipush (-8), 2) := by decide +kernel
theorem dX2_run_39 : decode cX2_run 39 = .ok (.if_icmp .lt 40, 3) := by decide +kernel
theorem dX2_run_42 : decode cX2_run 42 = .ok (.iload_n 3, 1) := by decide +kernel
theorem dX2_run_43 : decode cX2_run 43 = .ok (.bipush 64, 2) := by decide +kernel
theorem dX2_run_45 : decode cX2_run 45 = .ok (.if_icmp .ge 106, 3) := by decide +kernel
theorem dX2_run_48 : decode cX2_run 48 = .ok (.aload_n 0, 1) := by decide +kernel
theorem dX2_run_49 : decode cX2_run 49 = .ok (.getfield 28, 3) := by decide +kernel
theorem dX2_run_52 : decode cX2_run 52 = .ok (.iload_n 3, 1) := by decide +kernel
theorem dX2_run_53 : decode cX2_run 53 = .ok (.iload 6, 2) := by decide +kernel
theorem dX2_run_55 : decode cX2_run 55 = .ok (.ifCond .lt 8, 3) := by decide +kernel
theorem dX2_run_58 : decode cX2_run 58 = .ok (.iload 6, 2) := by decide +kernel
theorem dX2_run_60 : decode cX2_run 60 = .ok (.goto 12, 3) := by decide +kernel
theorem dX2_run_63 : decode cX2_run 63 = .ok (.aload_n 0, 1) := by decide +kernel
theorem dX2_run_64 : decode cX2_run 64 = .ok (.getfield 19, 3) := by decide +kernel
theorem dX2_run_67 : decode cX2_run 67 = .ok (.iconst (-1), 1) := by decide +kernel
theorem dX2_run_68 : decode cX2_run 68 = .ok (.iload 6, 2) := by decide +kernel
theorem dX2_run_70 : decode cX2_run 70 = .ok (.isub, 1) := by decide +kernel
theorem dX2_run_71 : decode cX2_run 71 = .ok (.iaload, 1) := by decide +kernel
theorem dX2_run_72 : decode cX2_run 72 = .ok (.iastore, 1) := by decide +kernel
theorem dX2_run_73 : decode cX2_run 73 = .ok (.iinc 3 1, 3) := by decide +kernel
theorem dX2_run_76 : decode cX2_run 76 = .ok (.goto 75, 3) := by decide +kernel
theorem dX2_run_79 : decode cX2_run 79 = .ok (.iload 6, 2) := by decide +kernel
theorem dX2_run_81 : decode cX2_run 81 = .ok (.bipush (-21), 2) := by decide +kernel
theorem dX2_run_83 : decode cX2_run 83 = .ok (.if_icmp .le 33, 3) := by decide +kernel
theorem dX2_run_86 : decode cX2_run 86 = .ok (.iload_n 3, 1) := by decide +kernel
theorem dX2_run_87 : decode cX2_run 87 = .ok (.iconst 1, 1) := by decide +kernel
theorem dX2_run_88 : decode cX2_run 88 = .ok (.if_icmp .lt 63, 3) := by decide +kernel
theorem dX2_run_91 : decode cX2_run 91 = .ok (.aload_n 0, 1) := by decide +kernel
theorem dX2_run_92 : decode cX2_run 92 = .ok (.getfield 28, 3) := by decide +kernel
theorem dX2_run_95 : decode cX2_run 95 = .ok (.iload_n 3, 1) := by decide +kernel
theorem dX2_run_96 : decode cX2_run 96 = .ok (.iconst 1, 1) := by decide +kernel
theorem dX2_run_97 : decode cX2_run 97 = .ok (.isub, 1) := by decide +kernel
theorem dX2_run_98 : decode cX2_run 98 = .ok (.aload_n 0, 1) := by decide +kernel
theorem dX2_run_99 : decode cX2_run 99 = .ok (.iload 6, 2) := by decide +kernel
theorem dX2_run_101 : decode cX2_run 101 = .ok (.aload_n 0, 1) := by decide +kernel
theorem dX2_run_102 : decode cX2_run 102 = .ok (.getfield 28, 3) := by decide +kernel
theorem dX2_run_105 : decode cX2_run 105 = .ok (.iload_n 3, 1) := by decide +kernel
theorem dX2_run_106 : decode cX2_run 106 = .ok (.iconst 1, 1) := by decide +kernel
theorem dX2_run_107 : decode cX2_run 107 = .ok (.isub, 1) := by decide +kernel
theorem dX2_run_108 : decode cX2_run 108 = .ok (.iaload, 1) := by decide +kernel
theorem dX2_run_109 : decode cX2_run 109 = .ok (.invokevirtual 40, 3) := by decide +kernel
theorem dX2_run_112 : decode cX2_run 112 = .ok (.iastore, 1) := by decide +kernel
theorem dX2_run_113 : decode cX2_run 113 = .ok (.goto 38, 3) := by decide +kernel
theorem dX2_run_116 : decode cX2_run 116 = .ok (.iload_n 3, 1) := by decide +kernel
theorem dX2_run_117 : decode cX2_run 117 = .ok (.iconst 2, 1) := by decide +kernel
theorem dX2_run_118 : decode cX2_run 118 = .ok (.if_icmp .lt 33, 3) := by decide +kernel
theorem dX2_run_121 : decode cX2_run 121 = .ok (.iinc 3 (-1), 3) := by decide +kernel
theorem dX2_run_124 : decode cX2_run 124 = .ok (.aload_n 0, 1) := by decide +kernel
theorem dX2_run_125 : decode cX2_run 125 = .ok (.getfield 28, 3) := by decide +kernel
theorem dX2_run_128 : decode cX2_run 128 = .ok (.iload_n 3, 1) := by decide +kernel
theorem dX2_run_129 : decode cX2_run 129 = .ok (.iconst 1, 1) := by decide +kernel
theorem dX2_run_130 : decode cX2_run 130 = .ok (.isub, 1) := by decide +kernel
theorem dX2_run_131 : decode cX2_run 131 = .ok (.iload 6, 2) := by decide +kernel
theorem dX2_run_133 : decode cX2_run 133 = .ok (.aload_n 0, 1) := by decide +kernel
theorem dX2_run_134 : decode cX2_run 134 = .ok (.getfield 28, 3) := by decide +kernel
theorem dX2_run_137 : decode cX2_run 137 = .ok (.iload_n 3, 1) := by decide +kernel
theorem dX2_run_138 : decode cX2_run 138 = .ok (.iconst 1, 1) := by decide +kernel
theorem dX2_run_139 : decode cX2_run 139 = .ok (.isub, 1) := by decide +kernel
theorem dX2_run_140 : decode cX2_run 140 = .ok (.iaload, 1) := by decide +kernel
theorem dX2_run_141 : decode cX2_run 141 = .ok (.aload_n 0, 1) := by decide +kernel
theorem dX2_run_142 : decode cX2_run 142 = .ok (.getfield 28, 3) := by decide +kernel
theorem dX2_run_145 : decode cX2_run 145 = .ok (.iload_n 3, 1) := by decide +kernel
theorem dX2_run_146 : decode cX2_run 146 = .ok (.iaload, 1) := by decide +kernel
theorem dX2_run_147 : decode cX2_run 147 = .ok (.invokestatic 43, 3) := by decide +kernel
theorem dX2_run_150 : decode cX2_run 150 = .ok (.iastore, 1) := by decide +kernel
theorem dX2_run_151 : decode cX2_run 151 = .ok (.iinc 5 1, 3) := by decide +kernel
theorem dX2_run_154 : decode cX2_run 154 = .ok (.goto (-135), 3) := by decide +kernel
theorem dX2_run_157 : decode cX2_run 157 = .ok (.iload_n 3, 1) := by decide +kernel
theorem dX2_run_158 : decode cX2_run 158 = .ok (.ifCond .le 12, 3) := by decide +kernel
theorem dX2_run_161 : decode cX2_run 161 = .ok (.aload_n 0, 1) := by decide +kernel
theorem dX2_run_162 : decode cX2_run 162 = .ok (.getfield 28, 3) := by decide +kernel
theorem dX2_run_165 : decode cX2_run 165 = .ok (.iconst 0, 1) := by decide +kernel
theorem dX2_run_166 : decode cX2_run 166 = .ok (.iaload, 1) := by decide +kernel
theorem dX2_run_167 : decode cX2_run 167 = .ok (.goto 4, 3) := by decide +kernel
theorem dX2_run_170 : decode cX2_run 170 = .ok (.iconst 0, 1) := by decide +kernel
theorem dX2_run_171 : decode cX2_run 171 = .ok (.ireturn, 1) := by decide +kernel
theorem dX3_cut_0 : decode cX3_cut 0 = .ok (.iconst 0, 1) := by decide +kernel
theorem dX3_cut_1 : decode cX3_cut 1 = .ok (.bipush 99, 2) := by decide +kernel
theorem dX3_cut_3 : decode cX3_cut 3 = .ok (.iload_n 0, 1) := by decide +kernel
theorem dX3_cut_4 : decode cX3_cut 4 = .ok (.invokestatic 87, 3) := by decide +kernel
theorem dX3_cut_7 : decode cX3_cut 7 = .ok (.invokestatic 92, 3) := by decide +kernel
theorem dX3_cut_10 : decode cX3_cut 10 = .ok (.ireturn, 1) := by decide +kernel
theorem dX3_passed_0 : decode cX3_passed 0 = .ok (.iconst 2, 1) := by decide +kernel
theorem dX3_passed_1 : decode cX3_passed 1 = .ok (.iload_n 1, 1) := by decide +kernel
theorem dX3_passed_2 : decode cX3_passed 2 = .ok (.imul, 1) := by decide +kernel
theorem dX3_passed_3 : decode cX3_passed 3 = .ok (.iload_n 2, 1) := by decide +kernel
theorem dX3_passed_4 : decode cX3_passed 4 = .ok (.iadd, 1) := by decide +kernel
theorem dX3_passed_5 : decode cX3_passed 5 = .ok (.bipush 100, 2) := by decide +kernel
theorem dX3_passed_7 : decode cX3_passed 7 = .ok (.imul, 1) := by decide +kernel
theorem dX3_passed_8 : decode cX3_passed 8 = .ok (.iload_n 3, 1) := by decide +kernel
theorem dX3_passed_9 : decode cX3_passed 9 = .ok (.iadd, 1) := by decide +kernel
theorem dX3_passed_10 : decode cX3_passed 10 = .ok (.istore 4, 2) := by decide +kernel
theorem dX3_passed_12 : decode cX3_passed 12 = .ok (.iload 4, 2) := by decide +kernel
theorem dX3_passed_14 : decode cX3_passed 14 = .ok (.ifCond .lt 13, 3) := by decide +kernel
theorem dX3_passed_17 : decode cX3_passed 17 = .ok (.iload 4, 2) := by decide +kernel
theorem dX3_passed_19 : decode cX3_passed 19 = .ok (.aload_n 0, 1) := by decide +kernel
theorem dX3_passed_20 : decode cX3_passed 20 = .ok (.getfield 9, 3) := by decide +kernel
theorem dX3_passed_23 : decode cX3_passed 23 = .ok (.arraylength, 1) := by decide +kernel
theorem dX3_passed_24 : decode cX3_passed 24 = .ok (.if_icmp .lt 5, 3) := by decide +kernel
theorem dX3_passed_27 : decode cX3_passed 27 = .ok (.iconst 0, 1) := by decide +kernel
theorem dX3_passed_28 : decode cX3_passed 28 = .ok (.ireturn, 1) := by decide +kernel
theorem dX3_passed_29 : decode cX3_passed 29 = .ok (.aload_n 0, 1) := by decide +kernel
theorem dX3_passed_30 : decode cX3_passed 30 = .ok (.getfield 9, 3) := by decide +kernel
theorem dX3_passed_33 : decode cX3_passed 33 = .ok (.iload 4, 2) := by decide +kernel
theorem dX3_passed_35 : decode cX3_passed 35 = .ok (.iaload, 1) := by decide +kernel
theorem dX3_passed_36 : decode cX3_passed 36 = .ok (.bipush 7, 2) := by decide +kernel
theorem dX3_passed_38 : decode cX3_passed 38 = .ok (.ishr, 1) := by decide +kernel
theorem dX3_passed_39 : decode cX3_passed 39 = .ok (.aload_n 0, 1) := by decide +kernel
theorem dX3_passed_40 : decode cX3_passed 40 = .ok (.getfield 18, 3) := by decide +kernel
theorem dX3_passed_43 : decode cX3_passed 43 = .ok (.if_icmp .eq 131, 3) := by decide +kernel
theorem dX3_passed_46 : decode cX3_passed 46 = .ok (.aload_n 0, 1) := by decide +kernel
theorem dX3_passed_47 : decode cX3_passed 47 = .ok (.iload_n 1, 1) := by decide +kernel
theorem dX3_passed_48 : decode cX3_passed 48 = .ok (.iload_n 2, 1) := by decide +kernel
theorem dX3_passed_49 : decode cX3_passed 49 = .ok (.iload_n 1, 1) := by decide +kernel
theorem dX3_passed_50 : decode cX3_passed 50 = .ok (.ishl, 1) := by decide +kernel
theorem dX3_passed_51 : decode cX3_passed 51 = .ok (.invokevirtual 48, 3) := by decide +kernel
theorem dX3_passed_54 : decode cX3_passed 54 = .ok (.istore 5, 2) := by decide +kernel
theorem dX3_passed_56 : decode cX3_passed 56 = .ok (.aload_n 0, 1) := by decide +kernel
theorem dX3_passed_57 : decode cX3_passed 57 = .ok (.getfield 28, 3) := by decide +kernel
theorem dX3_passed_60 : decode cX3_passed 60 = .ok (.getfield 51, 3) := by decide +kernel
theorem dX3_passed_63 : decode cX3_passed 63 = .ok (.astore 6, 2) := by decide +kernel
theorem dX3_passed_65 : decode cX3_passed 65 = .ok (.aload 6, 2) := by decide +kernel
theorem dX3_passed_67 : decode cX3_passed 67 = .ok (.iconst (-1), 1) := by decide +kernel
theorem dX3_passed_68 : decode cX3_passed 68 = .ok (.aload_n 0, 1) := by decide +kernel
theorem dX3_passed_69 : decode cX3_passed 69 = .ok (.getfield 28, 3) := by decide +kernel
theorem dX3_passed_72 : decode cX3_passed 72 = .ok (.getfield 57, 3) := by decide +kernel
theorem dX3_passed_75 : decode cX3_passed 75 = .ok (.iload 5, 2) := by decide +kernel
theorem dX3_passed_77 : decode cX3_passed 77 = .ok (.iaload, 1) := by decide +kernel
theorem dX3_passed_78 : decode cX3_passed 78 = .ok (.invokevirtual 60, 3) := by decide +kernel
theorem dX3_passed_81 : decode cX3_passed 81 = .ok (.aload 6, 2) := by decide +kernel
theorem dX3_passed_83 : decode cX3_passed 83 = .ok (.bipush (-2), 2) := by decide +kernel
theorem dX3_passed_85 : decode cX3_passed 85 = .ok (.aload_n 0, 1) := by decide +kernel
theorem dX3_passed_86 : decode cX3_passed 86 = .ok (.getfield 28, 3) := by decide +kernel
theorem dX3_passed_89 : decode cX3_passed 89 = .ok (.getfield 64, 3) := by decide +kernel
theorem dX3_passed_92 : decode cX3_passed 92 = .ok (.iload 5, 2) := by decide +kernel
theorem dX3_passed_94 : decode cX3_passed 94 = .ok (.iaload, 1) := by decide +kernel
theorem dX3_passed_95 : decode cX3_passed 95 = .ok (.invokevirtual 60, 3) := by decide +kernel
theorem dX3_passed_98 : decode cX3_passed 98 = .ok (.aload 6, 2) := by decide +kernel
theorem dX3_passed_100 : decode cX3_passed 100 = .ok (.bipush (-3), 2) := by decide +kernel
theorem dX3_passed_102 : decode cX3_passed 102 = .ok (.aload_n 0, 1) := by decide +kernel
theorem dX3_passed_103 : decode cX3_passed 103 = .ok (.getfield 22, 3) := by decide +kernel
theorem dX3_passed_106 : decode cX3_passed 106 = .ok (.invokevirtual 60, 3) := by decide +kernel
theorem dX3_passed_109 : decode cX3_passed 109 = .ok (.aload 6, 2) := by decide +kernel
theorem dX3_passed_111 : decode cX3_passed 111 = .ok (.bipush (-4), 2) := by decide +kernel
theorem dX3_passed_113 : decode cX3_passed 113 = .ok (.iload_n 3, 1) := by decide +kernel
theorem dX3_passed_114 : decode cX3_passed 114 = .ok (.invokevirtual 60, 3) := by decide +kernel
theorem dX3_passed_117 : decode cX3_passed 117 = .ok (.aload 6, 2) := by decide +kernel
theorem dX3_passed_119 : decode cX3_passed 119 = .ok (.bipush (-5), 2) := by decide +kernel
theorem dX3_passed_121 : decode cX3_passed 121 = .ok (.aload_n 0, 1) := by decide +kernel
theorem dX3_passed_122 : decode cX3_passed 122 = .ok (.getfield 28, 3) := by decide +kernel
theorem dX3_passed_125 : decode cX3_passed 125 = .ok (.getfield 67, 3) := by decide +kernel
theorem dX3_passed_128 : decode cX3_passed 128 = .ok (.iload_n 1, 1) := by decide +kernel
theorem dX3_passed_129 : decode cX3_passed 129 = .ok (.iaload, 1) := by decide +kernel
theorem dX3_passed_130 : decode cX3_passed 130 = .ok (.invokevirtual 60, 3) := by decide +kernel
theorem dX3_passed_133 : decode cX3_passed 133 = .ok (.aload_n 0, 1) := by decide +kernel
theorem dX3_passed_134 : decode cX3_passed 134 = .ok (.getfield 9, 3) := by decide +kernel
theorem dX3_passed_137 : decode cX3_passed 137 = .ok (.iload 4, 2) := by decide +kernel
theorem dX3_passed_139 : decode cX3_passed 139 = .ok (.aload_n 0, 1) := by decide +kernel
theorem dX3_passed_140 : decode cX3_passed 140 = .ok (.getfield 18, 3) := by decide +kernel
theorem dX3_passed_143 : decode cX3_passed 143 = .ok (.bipush 7, 2) := by decide +kernel
theorem dX3_passed_145 : decode cX3_passed 145 = .ok (.ishl, 1) := by decide +kernel
theorem dX3_passed_146 : decode cX3_passed 146 = .ok (.aload 6, 2) := by decide +kernel
theorem dX3_passed_148 : decode cX3_passed 148 = .ok (.aload_n 0, 1) := by decide +kernel
theorem dX3_passed_149 : decode cX3_passed 149 = .ok (.getfield 28, 3) := by decide +kernel
theorem dX3_passed_152 : decode cX3_passed 152 = .ok (.getfield 70, 3) := by decide +kernel
theorem dX3_passed_155 : decode cX3_passed 155 = .ok (.iconst 0, 1) := by decide +kernel
theorem dX3_passed_156 : decode cX3_passed 156 = .ok (.iaload, 1) := by decide +kernel
theorem dX3_passed_157 : decode cX3_passed 157 = .ok (.aload_n 0, 1) := by decide +kernel
theorem dX3_passed_158 : decode cX3_passed 158 = .ok (.getfield 28, 3) := by decide +kernel
theorem dX3_passed_161 : decode cX3_passed 161 = .ok (.getfield 73, 3) := by decide +kernel
theorem dX3_passed_164 : decode cX3_passed 164 = .ok (.iconst 0, 1) := by decide +kernel
theorem dX3_passed_165 : decode cX3_passed 165 = .ok (.iaload, 1) := by decide +kernel
theorem dX3_passed_166 : decode cX3_passed 166 = .ok (.invokevirtual 76, 3) := by decide +kernel
theorem dX3_passed_169 : decode cX3_passed 169 = .ok (.invokestatic 79, 3) := by decide +kernel
theorem dX3_passed_172 : decode cX3_passed 172 = .ok (.ior, 1) := by decide +kernel
theorem dX3_passed_173 : decode cX3_passed 173 = .ok (.iastore, 1) := by decide +kernel
theorem dX3_passed_174 : decode cX3_passed 174 = .ok (.aload_n 0, 1) := by decide +kernel
theorem dX3_passed_175 : decode cX3_passed 175 = .ok (.getfield 9, 3) := by decide +kernel
theorem dX3_passed_178 : decode cX3_passed 178 = .ok (.iload 4, 2) := by decide +kernel
theorem dX3_passed_180 : decode cX3_passed 180 = .ok (.iaload, 1) := by decide +kernel
theorem dX3_passed_181 : decode cX3_passed 181 = .ok (.bipush 127, 2) := by decide +kernel
theorem dX3_passed_183 : decode cX3_passed 183 = .ok (.iand, 1) := by decide +kernel
theorem dX3_passed_184 : decode cX3_passed 184 = .ok (.ireturn, 1) := by decide +kernel
theorem dX11_passes_0 : decode cX11_passes 0 = .ok (.aload_n 0, 1) := by decide +kernel
theorem dX11_passes_1 : decode cX11_passes 1 = .ok (.iload_n 1, 1) := by decide +kernel
theorem dX11_passes_2 : decode cX11_passes 2 = .ok (.invokevirtual 203, 3) := by decide +kernel
theorem dX11_passes_5 : decode cX11_passes 5 = .ok (.ifCond .eq 11, 3) := by decide +kernel
theorem dX11_passes_8 : decode cX11_passes 8 = .ok (.aload_n 0, 1) := by decide +kernel
theorem dX11_passes_9 : decode cX11_passes 9 = .ok (.iload_n 2, 1) := by decide +kernel
theorem dX11_passes_10 : decode cX11_passes 10 = .ok (.invokevirtual 185, 3) := by decide +kernel
theorem dX11_passes_13 : decode cX11_passes 13 = .ok (.ifCond .ne 5, 3) := by decide +kernel
theorem dX11_passes_16 : decode cX11_passes 16 = .ok (.iconst (-1), 1) := by decide +kernel
theorem dX11_passes_17 : decode cX11_passes 17 = .ok (.ireturn, 1) := by decide +kernel
theorem dX11_passes_18 : decode cX11_passes 18 = .ok (.aload_n 0, 1) := by decide +kernel
theorem dX11_passes_19 : decode cX11_passes 19 = .ok (.getfield 35, 3) := by decide +kernel
theorem dX11_passes_22 : decode cX11_passes 22 = .ok (.getfield 154, 3) := by decide +kernel
theorem dX11_passes_25 : decode cX11_passes 25 = .ok (.iload_n 1, 1) := by decide +kernel
theorem dX11_passes_26 : decode cX11_passes 26 = .ok (.ishr, 1) := by decide +kernel
theorem dX11_passes_27 : decode cX11_passes 27 = .ok (.iconst 1, 1) := by decide +kernel
theorem dX11_passes_28 : decode cX11_passes 28 = .ok (.iand, 1) := by decide +kernel
theorem dX11_passes_29 : decode cX11_passes 29 = .ok (.ifCond .ne 5, 3) := by decide +kernel
theorem dX11_passes_32 : decode cX11_passes 32 = .ok (.iconst 0, 1) := by decide +kernel
theorem dX11_passes_33 : decode cX11_passes 33 = .ok (.ireturn, 1) := by decide +kernel
theorem dX11_passes_34 : decode cX11_passes 34 = .ok (.aload_n 0, 1) := by decide +kernel
theorem dX11_passes_35 : decode cX11_passes 35 = .ok (.getfield 35, 3) := by decide +kernel
theorem dX11_passes_38 : decode cX11_passes 38 = .ok (.aload_n 0, 1) := by decide +kernel
theorem dX11_passes_39 : decode cX11_passes 39 = .ok (.getfield 47, 3) := by decide +kernel
theorem dX11_passes_42 : decode cX11_passes 42 = .ok (.iload_n 1, 1) := by decide +kernel
theorem dX11_passes_43 : decode cX11_passes 43 = .ok (.aload_n 0, 1) := by decide +kernel
theorem dX11_passes_44 : decode cX11_passes 44 = .ok (.getfield 35, 3) := by decide +kernel
theorem dX11_passes_47 : decode cX11_passes 47 = .ok (.getfield 162, 3) := by decide +kernel
theorem dX11_passes_50 : decode cX11_passes 50 = .ok (.invokevirtual 215, 3) := by decide +kernel
theorem dX11_passes_53 : decode cX11_passes 53 = .ok (.iload_n 2, 1) := by decide +kernel
theorem dX11_passes_54 : decode cX11_passes 54 = .ok (.invokevirtual 175, 3) := by decide +kernel
theorem dX11_passes_57 : decode cX11_passes 57 = .ok (.istore_n 3, 1) := by decide +kernel
theorem dX11_passes_58 : decode cX11_passes 58 = .ok (.aload_n 0, 1) := by decide +kernel
theorem dX11_passes_59 : decode cX11_passes 59 = .ok (.getfield 47, 3) := by decide +kernel
theorem dX11_passes_62 : decode cX11_passes 62 = .ok (.aload_n 0, 1) := by decide +kernel
theorem dX11_passes_63 : decode cX11_passes 63 = .ok (.getfield 35, 3) := by decide +kernel
theorem dX11_passes_66 : decode cX11_passes 66 = .ok (.getfield 151, 3) := by decide +kernel
theorem dX11_passes_69 : decode cX11_passes 69 = .ok (.invokevirtual 218, 3) := by decide +kernel
theorem dX11_passes_72 : decode cX11_passes 72 = .ok (.iload_n 3, 1) := by decide +kernel
theorem dX11_passes_73 : decode cX11_passes 73 = .ok (.ifCond .ne 7, 3) := by decide +kernel
theorem dX11_passes_76 : decode cX11_passes 76 = .ok (.iconst 0, 1) := by decide +kernel
theorem dX11_passes_77 : decode cX11_passes 77 = .ok (.goto 23, 3) := by decide +kernel
theorem dX11_passes_80 : decode cX11_passes 80 = .ok (.aload_n 0, 1) := by decide +kernel
theorem dX11_passes_81 : decode cX11_passes 81 = .ok (.getfield 47, 3) := by decide +kernel
theorem dX11_passes_84 : decode cX11_passes 84 = .ok (.iload_n 1, 1) := by decide +kernel
theorem dX11_passes_85 : decode cX11_passes 85 = .ok (.aload_n 0, 1) := by decide +kernel
theorem dX11_passes_86 : decode cX11_passes 86 = .ok (.getfield 35, 3) := by decide +kernel
theorem dX11_passes_89 : decode cX11_passes 89 = .ok (.getfield 162, 3) := by decide +kernel
theorem dX11_passes_92 : decode cX11_passes 92 = .ok (.iload_n 1, 1) := by decide +kernel
theorem dX11_passes_93 : decode cX11_passes 93 = .ok (.ishr, 1) := by decide +kernel
theorem dX11_passes_94 : decode cX11_passes 94 = .ok (.iconst 1, 1) := by decide +kernel
theorem dX11_passes_95 : decode cX11_passes 95 = .ok (.iand, 1) := by decide +kernel
theorem dX11_passes_96 : decode cX11_passes 96 = .ok (.iload_n 3, 1) := by decide +kernel
theorem dX11_passes_97 : decode cX11_passes 97 = .ok (.invokevirtual 221, 3) := by decide +kernel
theorem dX11_passes_100 : decode cX11_passes 100 = .ok (.ireturn, 1) := by decide +kernel
theorem dX9_keptPart_0 : decode cX9_keptPart 0 = .ok (.aload_n 0, 1) := by decide +kernel
theorem dX9_keptPart_1 : decode cX9_keptPart 1 = .ok (.getfield 29, 3) := by decide +kernel
theorem dX9_keptPart_4 : decode cX9_keptPart 4 = .ok (.aload_n 0, 1) := by decide +kernel
theorem dX9_keptPart_5 : decode cX9_keptPart 5 = .ok (.invokevirtual 67, 3) := by decide +kernel
theorem dX9_keptPart_8 : decode cX9_keptPart 8 = .ok (.isub, 1) := by decide +kernel
theorem dX9_keptPart_9 : decode cX9_keptPart 9 = .ok (.iload_n 1, 1) := by decide +kernel
theorem dX9_keptPart_10 : decode cX9_keptPart 10 = .ok (.iadd, 1) := by decide +kernel
theorem dX9_keptPart_11 : decode cX9_keptPart 11 = .ok (.bipush 40, 2) := by decide +kernel
theorem dX9_keptPart_13 : decode cX9_keptPart 13 = .ok (.irem, 1) := by decide +kernel
theorem dX9_keptPart_14 : decode cX9_keptPart 14 = .ok (.istore_n 3, 1) := by decide +kernel
theorem dX9_keptPart_15 : decode cX9_keptPart 15 = .ok (.iload_n 3, 1) := by decide +kernel
theorem dX9_keptPart_16 : decode cX9_keptPart 16 = .ok (.ifCond .ge 5, 3) := by decide +kernel
theorem dX9_keptPart_19 : decode cX9_keptPart 19 = .ok (.iconst (-1), 1) := by decide +kernel
theorem dX9_keptPart_20 : decode cX9_keptPart 20 = .ok (.ireturn, 1) := by decide +kernel
theorem dX9_keptPart_21 : decode cX9_keptPart 21 = .ok (.aload_n 0, 1) := by decide +kernel
theorem dX9_keptPart_22 : decode cX9_keptPart 22 = .ok (.getfield 25, 3) := by decide +kernel
theorem dX9_keptPart_25 : decode cX9_keptPart 25 = .ok (.iload_n 3, 1) := by decide +kernel
theorem dX9_keptPart_26 : decode cX9_keptPart 26 = .ok (.iaload, 1) := by decide +kernel
theorem dX9_keptPart_27 : decode cX9_keptPart 27 = .ok (.istore 4, 2) := by decide +kernel
theorem dX9_keptPart_29 : decode cX9_keptPart 29 = .ok (.iload_n 2, 1) := by decide +kernel
theorem dX9_keptPart_30 : decode cX9_keptPart 30 = .ok (.tableswitch 66 0 3 #[30, 41, 52, 60], 30) := by decide +kernel
theorem dX9_keptPart_60 : decode cX9_keptPart 60 = .ok (.iload 4, 2) := by decide +kernel
theorem dX9_keptPart_62 : decode cX9_keptPart 62 = .ok (.bipush 100, 2) := by decide +kernel
theorem dX9_keptPart_64 : decode cX9_keptPart 64 = .ok (.idiv, 1) := by decide +kernel
theorem dX9_keptPart_65 : decode cX9_keptPart 65 = .ok (.iconst 4, 1) := by decide +kernel
theorem dX9_keptPart_66 : decode cX9_keptPart 66 = .ok (.idiv, 1) := by decide +kernel
theorem dX9_keptPart_67 : decode cX9_keptPart 67 = .ok (.bipush 8, 2) := by decide +kernel
theorem dX9_keptPart_69 : decode cX9_keptPart 69 = .ok (.idiv, 1) := by decide +kernel
theorem dX9_keptPart_70 : decode cX9_keptPart 70 = .ok (.ireturn, 1) := by decide +kernel
theorem dX9_keptPart_71 : decode cX9_keptPart 71 = .ok (.iload 4, 2) := by decide +kernel
theorem dX9_keptPart_73 : decode cX9_keptPart 73 = .ok (.bipush 100, 2) := by decide +kernel
theorem dX9_keptPart_75 : decode cX9_keptPart 75 = .ok (.idiv, 1) := by decide +kernel
theorem dX9_keptPart_76 : decode cX9_keptPart 76 = .ok (.iconst 4, 1) := by decide +kernel
theorem dX9_keptPart_77 : decode cX9_keptPart 77 = .ok (.idiv, 1) := by decide +kernel
theorem dX9_keptPart_78 : decode cX9_keptPart 78 = .ok (.bipush 8, 2) := by decide +kernel
theorem dX9_keptPart_80 : decode cX9_keptPart 80 = .ok (.irem, 1) := by decide +kernel
theorem dX9_keptPart_81 : decode cX9_keptPart 81 = .ok (.ireturn, 1) := by decide +kernel
theorem dX9_keptPart_82 : decode cX9_keptPart 82 = .ok (.iload 4, 2) := by decide +kernel
theorem dX9_keptPart_84 : decode cX9_keptPart 84 = .ok (.bipush 100, 2) := by decide +kernel
theorem dX9_keptPart_86 : decode cX9_keptPart 86 = .ok (.idiv, 1) := by decide +kernel
theorem dX9_keptPart_87 : decode cX9_keptPart 87 = .ok (.iconst 4, 1) := by decide +kernel
theorem dX9_keptPart_88 : decode cX9_keptPart 88 = .ok (.irem, 1) := by decide +kernel
theorem dX9_keptPart_89 : decode cX9_keptPart 89 = .ok (.ireturn, 1) := by decide +kernel
theorem dX9_keptPart_90 : decode cX9_keptPart 90 = .ok (.iload 4, 2) := by decide +kernel
theorem dX9_keptPart_92 : decode cX9_keptPart 92 = .ok (.bipush 100, 2) := by decide +kernel
theorem dX9_keptPart_94 : decode cX9_keptPart 94 = .ok (.irem, 1) := by decide +kernel
theorem dX9_keptPart_95 : decode cX9_keptPart 95 = .ok (.ireturn, 1) := by decide +kernel
theorem dX9_keptPart_96 : decode cX9_keptPart 96 = .ok (.iconst (-1), 1) := by decide +kernel
theorem dX9_keptPart_97 : decode cX9_keptPart 97 = .ok (.ireturn, 1) := by decide +kernel
theorem dX11_kept_0 : decode cX11_kept 0 = .ok (.iload_n 1, 1) := by decide +kernel
theorem dX11_kept_1 : decode cX11_kept 1 = .ok (.ifCond .lt 14, 3) := by decide +kernel
theorem dX11_kept_4 : decode cX11_kept 4 = .ok (.iload_n 1, 1) := by decide +kernel
theorem dX11_kept_5 : decode cX11_kept 5 = .ok (.aload_n 0, 1) := by decide +kernel
theorem dX11_kept_6 : decode cX11_kept 6 = .ok (.getfield 35, 3) := by decide +kernel
theorem dX11_kept_9 : decode cX11_kept 9 = .ok (.invokevirtual 169, 3) := by decide +kernel
theorem dX11_kept_12 : decode cX11_kept 12 = .ok (.if_icmp .lt 5, 3) := by decide +kernel
theorem dX11_kept_15 : decode cX11_kept 15 = .ok (.iconst (-1), 1) := by decide +kernel
theorem dX11_kept_16 : decode cX11_kept 16 = .ok (.ireturn, 1) := by decide +kernel
theorem dX11_kept_17 : decode cX11_kept 17 = .ok (.aload_n 0, 1) := by decide +kernel
theorem dX11_kept_18 : decode cX11_kept 18 = .ok (.getfield 35, 3) := by decide +kernel
theorem dX11_kept_21 : decode cX11_kept 21 = .ok (.iload_n 1, 1) := by decide +kernel
theorem dX11_kept_22 : decode cX11_kept 22 = .ok (.iload_n 2, 1) := by decide +kernel
theorem dX11_kept_23 : decode cX11_kept 23 = .ok (.invokevirtual 225, 3) := by decide +kernel
theorem dX11_kept_26 : decode cX11_kept 26 = .ok (.ireturn, 1) := by decide +kernel
theorem dX11_comes_0 : decode cX11_comes 0 = .ok (.iload_n 1, 1) := by decide +kernel
theorem dX11_comes_1 : decode cX11_comes 1 = .ok (.ifCond .lt 27, 3) := by decide +kernel
theorem dX11_comes_4 : decode cX11_comes 4 = .ok (.iload_n 1, 1) := by decide +kernel
theorem dX11_comes_5 : decode cX11_comes 5 = .ok (.iload_n 2, 1) := by decide +kernel
theorem dX11_comes_6 : decode cX11_comes 6 = .ok (.if_icmp .gt 22, 3) := by decide +kernel
theorem dX11_comes_9 : decode cX11_comes 9 = .ok (.aload_n 0, 1) := by decide +kernel
theorem dX11_comes_10 : decode cX11_comes 10 = .ok (.getfield 35, 3) := by decide +kernel
theorem dX11_comes_13 : decode cX11_comes 13 = .ok (.getfield 151, 3) := by decide +kernel
theorem dX11_comes_16 : decode cX11_comes 16 = .ok (.iload_n 1, 1) := by decide +kernel
theorem dX11_comes_17 : decode cX11_comes 17 = .ok (.iadd, 1) := by decide +kernel
theorem dX11_comes_18 : decode cX11_comes 18 = .ok (.sipush 999, 3) := by decide +kernel
theorem dX11_comes_21 : decode cX11_comes 21 = .ok (.if_icmp .gt 7, 3) := by decide +kernel
theorem dX11_comes_24 : decode cX11_comes 24 = .ok (.iconst 1, 1) := by decide +kernel
theorem dX11_comes_25 : decode cX11_comes 25 = .ok (.goto 4, 3) := by decide +kernel
theorem dX11_comes_28 : decode cX11_comes 28 = .ok (.iconst 0, 1) := by decide +kernel
theorem dX11_comes_29 : decode cX11_comes 29 = .ok (.ireturn, 1) := by decide +kernel
theorem dX9_copyWorld_0 : decode cX9_copyWorld 0 = .ok (.aload_n 0, 1) := by decide +kernel
theorem dX9_copyWorld_1 : decode cX9_copyWorld 1 = .ok (.aload_n 1, 1) := by decide +kernel
theorem dX9_copyWorld_2 : decode cX9_copyWorld 2 = .ok (.getfield 9, 3) := by decide +kernel
theorem dX9_copyWorld_5 : decode cX9_copyWorld 5 = .ok (.putfield 9, 3) := by decide +kernel
theorem dX9_copyWorld_8 : decode cX9_copyWorld 8 = .ok (.aload_n 0, 1) := by decide +kernel
theorem dX9_copyWorld_9 : decode cX9_copyWorld 9 = .ok (.aload_n 1, 1) := by decide +kernel
theorem dX9_copyWorld_10 : decode cX9_copyWorld 10 = .ok (.getfield 15, 3) := by decide +kernel
theorem dX9_copyWorld_13 : decode cX9_copyWorld 13 = .ok (.putfield 15, 3) := by decide +kernel
theorem dX9_copyWorld_16 : decode cX9_copyWorld 16 = .ok (.aload_n 0, 1) := by decide +kernel
theorem dX9_copyWorld_17 : decode cX9_copyWorld 17 = .ok (.aload_n 1, 1) := by decide +kernel
theorem dX9_copyWorld_18 : decode cX9_copyWorld 18 = .ok (.getfield 18, 3) := by decide +kernel
theorem dX9_copyWorld_21 : decode cX9_copyWorld 21 = .ok (.putfield 18, 3) := by decide +kernel
theorem dX9_copyWorld_24 : decode cX9_copyWorld 24 = .ok (.aload_n 1, 1) := by decide +kernel
theorem dX9_copyWorld_25 : decode cX9_copyWorld 25 = .ok (.getfield 21, 3) := by decide +kernel
theorem dX9_copyWorld_28 : decode cX9_copyWorld 28 = .ok (.iconst 0, 1) := by decide +kernel
theorem dX9_copyWorld_29 : decode cX9_copyWorld 29 = .ok (.aload_n 0, 1) := by decide +kernel
theorem dX9_copyWorld_30 : decode cX9_copyWorld 30 = .ok (.getfield 21, 3) := by decide +kernel
theorem dX9_copyWorld_33 : decode cX9_copyWorld 33 = .ok (.iconst 0, 1) := by decide +kernel
theorem dX9_copyWorld_34 : decode cX9_copyWorld 34 = .ok (.iconst 4, 1) := by decide +kernel
theorem dX9_copyWorld_35 : decode cX9_copyWorld 35 = .ok (.invokestatic 41, 3) := by decide +kernel
theorem dX9_copyWorld_38 : decode cX9_copyWorld 38 = .ok (.return_, 1) := by decide +kernel
theorem dX3_setOfficer_0 : decode cX3_setOfficer 0 = .ok (.aload_n 0, 1) := by decide +kernel
theorem dX3_setOfficer_1 : decode cX3_setOfficer 1 = .ok (.getfield 28, 3) := by decide +kernel
theorem dX3_setOfficer_4 : decode cX3_setOfficer 4 = .ok (.getfield 51, 3) := by decide +kernel
theorem dX3_setOfficer_7 : decode cX3_setOfficer 7 = .ok (.astore 4, 2) := by decide +kernel
theorem dX3_setOfficer_9 : decode cX3_setOfficer 9 = .ok (.aload 4, 2) := by decide +kernel
theorem dX3_setOfficer_11 : decode cX3_setOfficer 11 = .ok (.iconst (-1), 1) := by decide +kernel
theorem dX3_setOfficer_12 : decode cX3_setOfficer 12 = .ok (.aload_n 0, 1) := by decide +kernel
theorem dX3_setOfficer_13 : decode cX3_setOfficer 13 = .ok (.getfield 28, 3) := by decide +kernel
theorem dX3_setOfficer_16 : decode cX3_setOfficer 16 = .ok (.getfield 57, 3) := by decide +kernel
theorem dX3_setOfficer_19 : decode cX3_setOfficer 19 = .ok (.iload_n 1, 1) := by decide +kernel
theorem dX3_setOfficer_20 : decode cX3_setOfficer 20 = .ok (.iaload, 1) := by decide +kernel
theorem dX3_setOfficer_21 : decode cX3_setOfficer 21 = .ok (.invokevirtual 60, 3) := by decide +kernel
theorem dX3_setOfficer_24 : decode cX3_setOfficer 24 = .ok (.aload 4, 2) := by decide +kernel
theorem dX3_setOfficer_26 : decode cX3_setOfficer 26 = .ok (.bipush (-2), 2) := by decide +kernel
theorem dX3_setOfficer_28 : decode cX3_setOfficer 28 = .ok (.aload_n 0, 1) := by decide +kernel
theorem dX3_setOfficer_29 : decode cX3_setOfficer 29 = .ok (.getfield 28, 3) := by decide +kernel
theorem dX3_setOfficer_32 : decode cX3_setOfficer 32 = .ok (.getfield 64, 3) := by decide +kernel
theorem dX3_setOfficer_35 : decode cX3_setOfficer 35 = .ok (.iload_n 1, 1) := by decide +kernel
theorem dX3_setOfficer_36 : decode cX3_setOfficer 36 = .ok (.iaload, 1) := by decide +kernel
theorem dX3_setOfficer_37 : decode cX3_setOfficer 37 = .ok (.invokevirtual 60, 3) := by decide +kernel
theorem dX3_setOfficer_40 : decode cX3_setOfficer 40 = .ok (.aload 4, 2) := by decide +kernel
theorem dX3_setOfficer_42 : decode cX3_setOfficer 42 = .ok (.bipush (-3), 2) := by decide +kernel
theorem dX3_setOfficer_44 : decode cX3_setOfficer 44 = .ok (.iload_n 2, 1) := by decide +kernel
theorem dX3_setOfficer_45 : decode cX3_setOfficer 45 = .ok (.invokevirtual 60, 3) := by decide +kernel
theorem dX3_setOfficer_48 : decode cX3_setOfficer 48 = .ok (.aload 4, 2) := by decide +kernel
theorem dX3_setOfficer_50 : decode cX3_setOfficer 50 = .ok (.bipush (-6), 2) := by decide +kernel
theorem dX3_setOfficer_52 : decode cX3_setOfficer 52 = .ok (.iload_n 3, 1) := by decide +kernel
theorem dX3_setOfficer_53 : decode cX3_setOfficer 53 = .ok (.invokevirtual 60, 3) := by decide +kernel
theorem dX3_setOfficer_56 : decode cX3_setOfficer 56 = .ok (.return_, 1) := by decide +kernel
theorem dX3_faded_0 : decode cX3_faded 0 = .ok (.iload_n 1, 1) := by decide +kernel
theorem dX3_faded_1 : decode cX3_faded 1 = .ok (.bipush 100, 2) := by decide +kernel
theorem dX3_faded_3 : decode cX3_faded 3 = .ok (.imul, 1) := by decide +kernel
theorem dX3_faded_4 : decode cX3_faded 4 = .ok (.iload_n 2, 1) := by decide +kernel
theorem dX3_faded_5 : decode cX3_faded 5 = .ok (.iadd, 1) := by decide +kernel
theorem dX3_faded_6 : decode cX3_faded 6 = .ok (.istore_n 3, 1) := by decide +kernel
theorem dX3_faded_7 : decode cX3_faded 7 = .ok (.iload_n 3, 1) := by decide +kernel
theorem dX3_faded_8 : decode cX3_faded 8 = .ok (.ifCond .lt 12, 3) := by decide +kernel
theorem dX3_faded_11 : decode cX3_faded 11 = .ok (.iload_n 3, 1) := by decide +kernel
theorem dX3_faded_12 : decode cX3_faded 12 = .ok (.aload_n 0, 1) := by decide +kernel
theorem dX3_faded_13 : decode cX3_faded 13 = .ok (.getfield 15, 3) := by decide +kernel
theorem dX3_faded_16 : decode cX3_faded 16 = .ok (.arraylength, 1) := by decide +kernel
theorem dX3_faded_17 : decode cX3_faded 17 = .ok (.if_icmp .lt 5, 3) := by decide +kernel
theorem dX3_faded_20 : decode cX3_faded 20 = .ok (.iconst 0, 1) := by decide +kernel
theorem dX3_faded_21 : decode cX3_faded 21 = .ok (.ireturn, 1) := by decide +kernel
theorem dX3_faded_22 : decode cX3_faded 22 = .ok (.aload_n 0, 1) := by decide +kernel
theorem dX3_faded_23 : decode cX3_faded 23 = .ok (.getfield 15, 3) := by decide +kernel
theorem dX3_faded_26 : decode cX3_faded 26 = .ok (.iload_n 3, 1) := by decide +kernel
theorem dX3_faded_27 : decode cX3_faded 27 = .ok (.iaload, 1) := by decide +kernel
theorem dX3_faded_28 : decode cX3_faded 28 = .ok (.bipush 7, 2) := by decide +kernel
theorem dX3_faded_30 : decode cX3_faded 30 = .ok (.ishr, 1) := by decide +kernel
theorem dX3_faded_31 : decode cX3_faded 31 = .ok (.aload_n 0, 1) := by decide +kernel
theorem dX3_faded_32 : decode cX3_faded 32 = .ok (.getfield 18, 3) := by decide +kernel
theorem dX3_faded_35 : decode cX3_faded 35 = .ok (.if_icmp .eq 58, 3) := by decide +kernel
theorem dX3_faded_38 : decode cX3_faded 38 = .ok (.aload_n 0, 1) := by decide +kernel
theorem dX3_faded_39 : decode cX3_faded 39 = .ok (.iload_n 1, 1) := by decide +kernel
theorem dX3_faded_40 : decode cX3_faded 40 = .ok (.aload_n 0, 1) := by decide +kernel
theorem dX3_faded_41 : decode cX3_faded 41 = .ok (.getfield 22, 3) := by decide +kernel
theorem dX3_faded_44 : decode cX3_faded 44 = .ok (.iload_n 2, 1) := by decide +kernel
theorem dX3_faded_45 : decode cX3_faded 45 = .ok (.invokevirtual 83, 3) := by decide +kernel
theorem dX3_faded_48 : decode cX3_faded 48 = .ok (.aload_n 0, 1) := by decide +kernel
theorem dX3_faded_49 : decode cX3_faded 49 = .ok (.getfield 15, 3) := by decide +kernel
theorem dX3_faded_52 : decode cX3_faded 52 = .ok (.iload_n 3, 1) := by decide +kernel
theorem dX3_faded_53 : decode cX3_faded 53 = .ok (.aload_n 0, 1) := by decide +kernel
theorem dX3_faded_54 : decode cX3_faded 54 = .ok (.getfield 18, 3) := by decide +kernel
theorem dX3_faded_57 : decode cX3_faded 57 = .ok (.bipush 7, 2) := by decide +kernel
theorem dX3_faded_59 : decode cX3_faded 59 = .ok (.ishl, 1) := by decide +kernel
theorem dX3_faded_60 : decode cX3_faded 60 = .ok (.aload_n 0, 1) := by decide +kernel
theorem dX3_faded_61 : decode cX3_faded 61 = .ok (.getfield 28, 3) := by decide +kernel
theorem dX3_faded_64 : decode cX3_faded 64 = .ok (.getfield 51, 3) := by decide +kernel
theorem dX3_faded_67 : decode cX3_faded 67 = .ok (.aload_n 0, 1) := by decide +kernel
theorem dX3_faded_68 : decode cX3_faded 68 = .ok (.getfield 28, 3) := by decide +kernel
theorem dX3_faded_71 : decode cX3_faded 71 = .ok (.getfield 70, 3) := by decide +kernel
theorem dX3_faded_74 : decode cX3_faded 74 = .ok (.iconst 1, 1) := by decide +kernel
theorem dX3_faded_75 : decode cX3_faded 75 = .ok (.iaload, 1) := by decide +kernel
theorem dX3_faded_76 : decode cX3_faded 76 = .ok (.aload_n 0, 1) := by decide +kernel
theorem dX3_faded_77 : decode cX3_faded 77 = .ok (.getfield 28, 3) := by decide +kernel
theorem dX3_faded_80 : decode cX3_faded 80 = .ok (.getfield 73, 3) := by decide +kernel
theorem dX3_faded_83 : decode cX3_faded 83 = .ok (.iconst 1, 1) := by decide +kernel
theorem dX3_faded_84 : decode cX3_faded 84 = .ok (.iaload, 1) := by decide +kernel
theorem dX3_faded_85 : decode cX3_faded 85 = .ok (.invokevirtual 76, 3) := by decide +kernel
theorem dX3_faded_88 : decode cX3_faded 88 = .ok (.invokestatic 79, 3) := by decide +kernel
theorem dX3_faded_91 : decode cX3_faded 91 = .ok (.ior, 1) := by decide +kernel
theorem dX3_faded_92 : decode cX3_faded 92 = .ok (.iastore, 1) := by decide +kernel
theorem dX3_faded_93 : decode cX3_faded 93 = .ok (.aload_n 0, 1) := by decide +kernel
theorem dX3_faded_94 : decode cX3_faded 94 = .ok (.getfield 15, 3) := by decide +kernel
theorem dX3_faded_97 : decode cX3_faded 97 = .ok (.iload_n 3, 1) := by decide +kernel
theorem dX3_faded_98 : decode cX3_faded 98 = .ok (.iaload, 1) := by decide +kernel
theorem dX3_faded_99 : decode cX3_faded 99 = .ok (.bipush 127, 2) := by decide +kernel
theorem dX3_faded_101 : decode cX3_faded 101 = .ok (.iand, 1) := by decide +kernel
theorem dX3_faded_102 : decode cX3_faded 102 = .ok (.ireturn, 1) := by decide +kernel
theorem dX3_next_0 : decode cX3_next 0 = .ok (.lload_n 1, 1) := by decide +kernel
theorem dX3_next_1 : decode cX3_next 1 = .ok (.lconst 0, 1) := by decide +kernel
theorem dX3_next_2 : decode cX3_next 2 = .ok (.lcmp, 1) := by decide +kernel
theorem dX3_next_3 : decode cX3_next 3 = .ok (.ifCond .ne 5, 3) := by decide +kernel
theorem dX3_next_6 : decode cX3_next 6 = .ok (.lconst 0, 1) := by decide +kernel
theorem dX3_next_7 : decode cX3_next 7 = .ok (.lreturn, 1) := by decide +kernel
theorem dX3_next_8 : decode cX3_next 8 = .ok (.iconst 0, 1) := by decide +kernel
theorem dX3_next_9 : decode cX3_next 9 = .ok (.istore 5, 2) := by decide +kernel
theorem dX3_next_11 : decode cX3_next 11 = .ok (.iload 5, 2) := by decide +kernel
theorem dX3_next_13 : decode cX3_next 13 = .ok (.bipush 8, 2) := by decide +kernel
theorem dX3_next_15 : decode cX3_next 15 = .ok (.if_icmp .ge 41, 3) := by decide +kernel
theorem dX3_next_18 : decode cX3_next 18 = .ok (.lload_n 1, 1) := by decide +kernel
theorem dX3_next_19 : decode cX3_next 19 = .ok (.iload 5, 2) := by decide +kernel
theorem dX3_next_21 : decode cX3_next 21 = .ok (.invokestatic 95, 3) := by decide +kernel
theorem dX3_next_24 : decode cX3_next 24 = .ok (.istore 6, 2) := by decide +kernel
theorem dX3_next_26 : decode cX3_next 26 = .ok (.aload_n 0, 1) := by decide +kernel
theorem dX3_next_27 : decode cX3_next 27 = .ok (.getfield 25, 3) := by decide +kernel
theorem dX3_next_30 : decode cX3_next 30 = .ok (.iload 5, 2) := by decide +kernel
theorem dX3_next_32 : decode cX3_next 32 = .ok (.iload 6, 2) := by decide +kernel
theorem dX3_next_34 : decode cX3_next 34 = .ok (.ifCond .le 14, 3) := by decide +kernel
theorem dX3_next_37 : decode cX3_next 37 = .ok (.aload_n 0, 1) := by decide +kernel
theorem dX3_next_38 : decode cX3_next 38 = .ok (.iload 5, 2) := by decide +kernel
theorem dX3_next_40 : decode cX3_next 40 = .ok (.iload 6, 2) := by decide +kernel
theorem dX3_next_42 : decode cX3_next 42 = .ok (.invokevirtual 99, 3) := by decide +kernel
theorem dX3_next_45 : decode cX3_next 45 = .ok (.goto 4, 3) := by decide +kernel
theorem dX3_next_48 : decode cX3_next 48 = .ok (.iconst 0, 1) := by decide +kernel
theorem dX3_next_49 : decode cX3_next 49 = .ok (.iastore, 1) := by decide +kernel
theorem dX3_next_50 : decode cX3_next 50 = .ok (.iinc 5 1, 3) := by decide +kernel
theorem dX3_next_53 : decode cX3_next 53 = .ok (.goto (-42), 3) := by decide +kernel
theorem dX3_next_56 : decode cX3_next 56 = .ok (.iconst 0, 1) := by decide +kernel
theorem dX3_next_57 : decode cX3_next 57 = .ok (.istore 5, 2) := by decide +kernel
theorem dX3_next_59 : decode cX3_next 59 = .ok (.iload 5, 2) := by decide +kernel
theorem dX3_next_61 : decode cX3_next 61 = .ok (.aload_n 0, 1) := by decide +kernel
theorem dX3_next_62 : decode cX3_next 62 = .ok (.getfield 28, 3) := by decide +kernel
theorem dX3_next_65 : decode cX3_next 65 = .ok (.getfield 102, 3) := by decide +kernel
theorem dX3_next_68 : decode cX3_next 68 = .ok (.if_icmp .ge 69, 3) := by decide +kernel
theorem dX3_next_71 : decode cX3_next 71 = .ok (.lload_n 1, 1) := by decide +kernel
theorem dX3_next_72 : decode cX3_next 72 = .ok (.aload_n 0, 1) := by decide +kernel
theorem dX3_next_73 : decode cX3_next 73 = .ok (.iload 5, 2) := by decide +kernel
theorem dX3_next_75 : decode cX3_next 75 = .ok (.iload 4, 2) := by decide +kernel
theorem dX3_next_77 : decode cX3_next 77 = .ok (.invokevirtual 44, 3) := by decide +kernel
theorem dX3_next_80 : decode cX3_next 80 = .ok (.invokestatic 95, 3) := by decide +kernel
theorem dX3_next_83 : decode cX3_next 83 = .ok (.istore 6, 2) := by decide +kernel
theorem dX3_next_85 : decode cX3_next 85 = .ok (.iload_n 3, 1) := by decide +kernel
theorem dX3_next_86 : decode cX3_next 86 = .ok (.iload 5, 2) := by decide +kernel
theorem dX3_next_88 : decode cX3_next 88 = .ok (.ishr, 1) := by decide +kernel
theorem dX3_next_89 : decode cX3_next 89 = .ok (.iconst 1, 1) := by decide +kernel
theorem dX3_next_90 : decode cX3_next 90 = .ok (.iand, 1) := by decide +kernel
theorem dX3_next_91 : decode cX3_next 91 = .ok (.iconst 1, 1) := by decide +kernel
theorem dX3_next_92 : decode cX3_next 92 = .ok (.if_icmp .ne 39, 3) := by decide +kernel
theorem dX3_next_95 : decode cX3_next 95 = .ok (.iload 6, 2) := by decide +kernel
theorem dX3_next_97 : decode cX3_next 97 = .ok (.ifCond .le 34, 3) := by decide +kernel
theorem dX3_next_100 : decode cX3_next 100 = .ok (.aload_n 0, 1) := by decide +kernel
theorem dX3_next_101 : decode cX3_next 101 = .ok (.getfield 25, 3) := by decide +kernel
theorem dX3_next_104 : decode cX3_next 104 = .ok (.aload_n 0, 1) := by decide +kernel
theorem dX3_next_105 : decode cX3_next 105 = .ok (.iload 5, 2) := by decide +kernel
theorem dX3_next_107 : decode cX3_next 107 = .ok (.iload 4, 2) := by decide +kernel
theorem dX3_next_109 : decode cX3_next 109 = .ok (.invokevirtual 48, 3) := by decide +kernel
theorem dX3_next_112 : decode cX3_next 112 = .ok (.dup2, 1) := by decide +kernel
theorem dX3_next_113 : decode cX3_next 113 = .ok (.iaload, 1) := by decide +kernel
theorem dX3_next_114 : decode cX3_next 114 = .ok (.aload_n 0, 1) := by decide +kernel
theorem dX3_next_115 : decode cX3_next 115 = .ok (.iload 5, 2) := by decide +kernel
theorem dX3_next_117 : decode cX3_next 117 = .ok (.iload 4, 2) := by decide +kernel
theorem dX3_next_119 : decode cX3_next 119 = .ok (.iload 5, 2) := by decide +kernel
theorem dX3_next_121 : decode cX3_next 121 = .ok (.ishr, 1) := by decide +kernel
theorem dX3_next_122 : decode cX3_next 122 = .ok (.iconst 1, 1) := by decide +kernel
theorem dX3_next_123 : decode cX3_next 123 = .ok (.iand, 1) := by decide +kernel
theorem dX3_next_124 : decode cX3_next 124 = .ok (.iload 6, 2) := by decide +kernel
theorem dX3_next_126 : decode cX3_next 126 = .ok (.invokevirtual 105, 3) := by decide +kernel
theorem dX3_next_129 : decode cX3_next 129 = .ok (.iadd, 1) := by decide +kernel
theorem dX3_next_130 : decode cX3_next 130 = .ok (.iastore, 1) := by decide +kernel
theorem dX3_next_131 : decode cX3_next 131 = .ok (.iinc 5 1, 3) := by decide +kernel
theorem dX3_next_134 : decode cX3_next 134 = .ok (.goto (-75), 3) := by decide +kernel
theorem dX3_next_137 : decode cX3_next 137 = .ok (.lconst 0, 1) := by decide +kernel
theorem dX3_next_138 : decode cX3_next 138 = .ok (.lstore 5, 2) := by decide +kernel
theorem dX3_next_140 : decode cX3_next 140 = .ok (.iconst 0, 1) := by decide +kernel
theorem dX3_next_141 : decode cX3_next 141 = .ok (.istore 7, 2) := by decide +kernel
theorem dX3_next_143 : decode cX3_next 143 = .ok (.iload 7, 2) := by decide +kernel
theorem dX3_next_145 : decode cX3_next 145 = .ok (.bipush 8, 2) := by decide +kernel
theorem dX3_next_147 : decode cX3_next 147 = .ok (.if_icmp .ge 29, 3) := by decide +kernel
theorem dX3_next_150 : decode cX3_next 150 = .ok (.lload 5, 2) := by decide +kernel
theorem dX3_next_152 : decode cX3_next 152 = .ok (.iload 7, 2) := by decide +kernel
theorem dX3_next_154 : decode cX3_next 154 = .ok (.aload_n 0, 1) := by decide +kernel
theorem dX3_next_155 : decode cX3_next 155 = .ok (.getfield 25, 3) := by decide +kernel
theorem dX3_next_158 : decode cX3_next 158 = .ok (.iload 7, 2) := by decide +kernel
theorem dX3_next_160 : decode cX3_next 160 = .ok (.iaload, 1) := by decide +kernel
theorem dX3_next_161 : decode cX3_next 161 = .ok (.invokestatic 79, 3) := by decide +kernel
theorem dX3_next_164 : decode cX3_next 164 = .ok (.invokestatic 109, 3) := by decide +kernel
theorem dX3_next_167 : decode cX3_next 167 = .ok (.lor, 1) := by decide +kernel
theorem dX3_next_168 : decode cX3_next 168 = .ok (.lstore 5, 2) := by decide +kernel
theorem dX3_next_170 : decode cX3_next 170 = .ok (.iinc 7 1, 3) := by decide +kernel
theorem dX3_next_173 : decode cX3_next 173 = .ok (.goto (-30), 3) := by decide +kernel
theorem dX3_next_176 : decode cX3_next 176 = .ok (.lload 5, 2) := by decide +kernel
theorem dX3_next_178 : decode cX3_next 178 = .ok (.lreturn, 1) := by decide +kernel
theorem dX3_flow_0 : decode cX3_flow 0 = .ok (.aload_n 0, 1) := by decide +kernel
theorem dX3_flow_1 : decode cX3_flow 1 = .ok (.aload_n 1, 1) := by decide +kernel
theorem dX3_flow_2 : decode cX3_flow 2 = .ok (.getfield 113, 3) := by decide +kernel
theorem dX3_flow_5 : decode cX3_flow 5 = .ok (.invokevirtual 116, 3) := by decide +kernel
theorem dX3_flow_8 : decode cX3_flow 8 = .ok (.iconst 0, 1) := by decide +kernel
theorem dX3_flow_9 : decode cX3_flow 9 = .ok (.istore_n 2, 1) := by decide +kernel
theorem dX3_flow_10 : decode cX3_flow 10 = .ok (.iconst 0, 1) := by decide +kernel
theorem dX3_flow_11 : decode cX3_flow 11 = .ok (.istore_n 3, 1) := by decide +kernel
theorem dX3_flow_12 : decode cX3_flow 12 = .ok (.iload_n 3, 1) := by decide +kernel
theorem dX3_flow_13 : decode cX3_flow 13 = .ok (.iconst 4, 1) := by decide +kernel
theorem dX3_flow_14 : decode cX3_flow 14 = .ok (.if_icmp .ge 57, 3) := by decide +kernel
theorem dX3_flow_17 : decode cX3_flow 17 = .ok (.aload_n 0, 1) := by decide +kernel
theorem dX3_flow_18 : decode cX3_flow 18 = .ok (.aload_n 1, 1) := by decide +kernel
theorem dX3_flow_19 : decode cX3_flow 19 = .ok (.getfield 120, 3) := by decide +kernel
theorem dX3_flow_22 : decode cX3_flow 22 = .ok (.iload_n 3, 1) := by decide +kernel
theorem dX3_flow_23 : decode cX3_flow 23 = .ok (.laload, 1) := by decide +kernel
theorem dX3_flow_24 : decode cX3_flow 24 = .ok (.aload_n 1, 1) := by decide +kernel
theorem dX3_flow_25 : decode cX3_flow 25 = .ok (.getfield 124, 3) := by decide +kernel
theorem dX3_flow_28 : decode cX3_flow 28 = .ok (.aload_n 1, 1) := by decide +kernel
theorem dX3_flow_29 : decode cX3_flow 29 = .ok (.getfield 127, 3) := by decide +kernel
theorem dX3_flow_32 : decode cX3_flow 32 = .ok (.invokevirtual 130, 3) := by decide +kernel
theorem dX3_flow_35 : decode cX3_flow 35 = .ok (.lstore 4, 2) := by decide +kernel
theorem dX3_flow_37 : decode cX3_flow 37 = .ok (.iload_n 2, 1) := by decide +kernel
theorem dX3_flow_38 : decode cX3_flow 38 = .ok (.lload 4, 2) := by decide +kernel
theorem dX3_flow_40 : decode cX3_flow 40 = .ok (.aload_n 1, 1) := by decide +kernel
theorem dX3_flow_41 : decode cX3_flow 41 = .ok (.getfield 120, 3) := by decide +kernel
theorem dX3_flow_44 : decode cX3_flow 44 = .ok (.iload_n 3, 1) := by decide +kernel
theorem dX3_flow_45 : decode cX3_flow 45 = .ok (.laload, 1) := by decide +kernel
theorem dX3_flow_46 : decode cX3_flow 46 = .ok (.lcmp, 1) := by decide +kernel
theorem dX3_flow_47 : decode cX3_flow 47 = .ok (.ifCond .eq 7, 3) := by decide +kernel
theorem dX3_flow_50 : decode cX3_flow 50 = .ok (.iconst 1, 1) := by decide +kernel
theorem dX3_flow_51 : decode cX3_flow 51 = .ok (.goto 4, 3) := by decide +kernel
theorem dX3_flow_54 : decode cX3_flow 54 = .ok (.iconst 0, 1) := by decide +kernel
theorem dX3_flow_55 : decode cX3_flow 55 = .ok (.ior, 1) := by decide +kernel
theorem dX3_flow_56 : decode cX3_flow 56 = .ok (.istore_n 2, 1) := by decide +kernel
theorem dX3_flow_57 : decode cX3_flow 57 = .ok (.aload_n 1, 1) := by decide +kernel
theorem dX3_flow_58 : decode cX3_flow 58 = .ok (.getfield 120, 3) := by decide +kernel
theorem dX3_flow_61 : decode cX3_flow 61 = .ok (.iload_n 3, 1) := by decide +kernel
theorem dX3_flow_62 : decode cX3_flow 62 = .ok (.lload 4, 2) := by decide +kernel
theorem dX3_flow_64 : decode cX3_flow 64 = .ok (.lastore, 1) := by decide +kernel
theorem dX3_flow_65 : decode cX3_flow 65 = .ok (.iinc 3 1, 3) := by decide +kernel
theorem dX3_flow_68 : decode cX3_flow 68 = .ok (.goto (-56), 3) := by decide +kernel
theorem dX3_flow_71 : decode cX3_flow 71 = .ok (.aload_n 1, 1) := by decide +kernel
theorem dX3_flow_72 : decode cX3_flow 72 = .ok (.dup, 1) := by decide +kernel
theorem dX3_flow_73 : decode cX3_flow 73 = .ok (.getfield 113, 3) := by decide +kernel
theorem dX3_flow_76 : decode cX3_flow 76 = .ok (.iconst 1, 1) := by decide +kernel
theorem dX3_flow_77 : decode cX3_flow 77 = .ok (.iadd, 1) := by decide +kernel
theorem dX3_flow_78 : decode cX3_flow 78 = .ok (.putfield 113, 3) := by decide +kernel
theorem dX3_flow_81 : decode cX3_flow 81 = .ok (.iload_n 2, 1) := by decide +kernel
theorem dX3_flow_82 : decode cX3_flow 82 = .ok (.ireturn, 1) := by decide +kernel
theorem dX11_flowAhead_0 : decode cX11_flowAhead 0 = .ok (.aload_n 0, 1) := by decide +kernel
theorem dX11_flowAhead_1 : decode cX11_flowAhead 1 = .ok (.getfield 39, 3) := by decide +kernel
theorem dX11_flowAhead_4 : decode cX11_flowAhead 4 = .ok (.aload_n 0, 1) := by decide +kernel
theorem dX11_flowAhead_5 : decode cX11_flowAhead 5 = .ok (.getfield 35, 3) := by decide +kernel
theorem dX11_flowAhead_8 : decode cX11_flowAhead 8 = .ok (.invokevirtual 239, 3) := by decide +kernel
theorem dX11_flowAhead_11 : decode cX11_flowAhead 11 = .ok (.iconst 0, 1) := by decide +kernel
theorem dX11_flowAhead_12 : decode cX11_flowAhead 12 = .ok (.istore_n 2, 1) := by decide +kernel
theorem dX11_flowAhead_13 : decode cX11_flowAhead 13 = .ok (.iload_n 2, 1) := by decide +kernel
theorem dX11_flowAhead_14 : decode cX11_flowAhead 14 = .ok (.iload_n 1, 1) := by decide +kernel
theorem dX11_flowAhead_15 : decode cX11_flowAhead 15 = .ok (.if_icmp .ge 21, 3) := by decide +kernel
theorem dX11_flowAhead_18 : decode cX11_flowAhead 18 = .ok (.aload_n 0, 1) := by decide +kernel
theorem dX11_flowAhead_19 : decode cX11_flowAhead 19 = .ok (.getfield 47, 3) := by decide +kernel
theorem dX11_flowAhead_22 : decode cX11_flowAhead 22 = .ok (.aload_n 0, 1) := by decide +kernel
theorem dX11_flowAhead_23 : decode cX11_flowAhead 23 = .ok (.getfield 39, 3) := by decide +kernel
theorem dX11_flowAhead_26 : decode cX11_flowAhead 26 = .ok (.invokevirtual 235, 3) := by decide +kernel
theorem dX11_flowAhead_29 : decode cX11_flowAhead 29 = .ok (.pop, 1) := by decide +kernel
theorem dX11_flowAhead_30 : decode cX11_flowAhead 30 = .ok (.iinc 2 1, 3) := by decide +kernel
theorem dX11_flowAhead_33 : decode cX11_flowAhead 33 = .ok (.goto (-20), 3) := by decide +kernel
theorem dX11_flowAhead_36 : decode cX11_flowAhead 36 = .ok (.return_, 1) := by decide +kernel
theorem dX11_later_0 : decode cX11_later 0 = .ok (.aload_n 0, 1) := by decide +kernel
theorem dX11_later_1 : decode cX11_later 1 = .ok (.iload_n 1, 1) := by decide +kernel
theorem dX11_later_2 : decode cX11_later 2 = .ok (.invokevirtual 179, 3) := by decide +kernel
theorem dX11_later_5 : decode cX11_later 5 = .ok (.ifCond .eq 21, 3) := by decide +kernel
theorem dX11_later_8 : decode cX11_later 8 = .ok (.aload_n 0, 1) := by decide +kernel
theorem dX11_later_9 : decode cX11_later 9 = .ok (.iload_n 2, 1) := by decide +kernel
theorem dX11_later_10 : decode cX11_later 10 = .ok (.invokevirtual 185, 3) := by decide +kernel
theorem dX11_later_13 : decode cX11_later 13 = .ok (.ifCond .eq 13, 3) := by decide +kernel
theorem dX11_later_16 : decode cX11_later 16 = .ok (.aload_n 0, 1) := by decide +kernel
theorem dX11_later_17 : decode cX11_later 17 = .ok (.iload_n 3, 1) := by decide +kernel
theorem dX11_later_18 : decode cX11_later 18 = .ok (.bipush 60, 2) := by decide +kernel
theorem dX11_later_20 : decode cX11_later 20 = .ok (.invokevirtual 228, 3) := by decide +kernel
theorem dX11_later_23 : decode cX11_later 23 = .ok (.ifCond .ne 5, 3) := by decide +kernel
theorem dX11_later_26 : decode cX11_later 26 = .ok (.iconst (-1), 1) := by decide +kernel
theorem dX11_later_27 : decode cX11_later 27 = .ok (.ireturn, 1) := by decide +kernel
theorem dX11_later_28 : decode cX11_later 28 = .ok (.aload_n 0, 1) := by decide +kernel
theorem dX11_later_29 : decode cX11_later 29 = .ok (.iload_n 3, 1) := by decide +kernel
theorem dX11_later_30 : decode cX11_later 30 = .ok (.invokevirtual 232, 3) := by decide +kernel
theorem dX11_later_33 : decode cX11_later 33 = .ok (.aload_n 0, 1) := by decide +kernel
theorem dX11_later_34 : decode cX11_later 34 = .ok (.getfield 39, 3) := by decide +kernel
theorem dX11_later_37 : decode cX11_later 37 = .ok (.iload_n 1, 1) := by decide +kernel
theorem dX11_later_38 : decode cX11_later 38 = .ok (.iload_n 2, 1) := by decide +kernel
theorem dX11_later_39 : decode cX11_later 39 = .ok (.invokevirtual 175, 3) := by decide +kernel
theorem dX11_later_42 : decode cX11_later 42 = .ok (.ireturn, 1) := by decide +kernel
theorem dX11_settles_0 : decode cX11_settles 0 = .ok (.aload_n 0, 1) := by decide +kernel
theorem dX11_settles_1 : decode cX11_settles 1 = .ok (.iconst 0, 1) := by decide +kernel
theorem dX11_settles_2 : decode cX11_settles 2 = .ok (.invokevirtual 232, 3) := by decide +kernel
theorem dX11_settles_5 : decode cX11_settles 5 = .ok (.iconst 0, 1) := by decide +kernel
theorem dX11_settles_6 : decode cX11_settles 6 = .ok (.istore_n 1, 1) := by decide +kernel
theorem dX11_settles_7 : decode cX11_settles 7 = .ok (.iload_n 1, 1) := by decide +kernel
theorem dX11_settles_8 : decode cX11_settles 8 = .ok (.bipush 60, 2) := by decide +kernel
theorem dX11_settles_10 : decode cX11_settles 10 = .ok (.if_icmp .ge 37, 3) := by decide +kernel
theorem dX11_settles_13 : decode cX11_settles 13 = .ok (.aload_n 0, 1) := by decide +kernel
theorem dX11_settles_14 : decode cX11_settles 14 = .ok (.iload_n 1, 1) := by decide +kernel
theorem dX11_settles_15 : decode cX11_settles 15 = .ok (.iconst 1, 1) := by decide +kernel
theorem dX11_settles_16 : decode cX11_settles 16 = .ok (.iadd, 1) := by decide +kernel
theorem dX11_settles_17 : decode cX11_settles 17 = .ok (.bipush 60, 2) := by decide +kernel
theorem dX11_settles_19 : decode cX11_settles 19 = .ok (.invokevirtual 228, 3) := by decide +kernel
theorem dX11_settles_22 : decode cX11_settles 22 = .ok (.ifCond .eq 25, 3) := by decide +kernel
theorem dX11_settles_25 : decode cX11_settles 25 = .ok (.aload_n 0, 1) := by decide +kernel
theorem dX11_settles_26 : decode cX11_settles 26 = .ok (.getfield 47, 3) := by decide +kernel
theorem dX11_settles_29 : decode cX11_settles 29 = .ok (.aload_n 0, 1) := by decide +kernel
theorem dX11_settles_30 : decode cX11_settles 30 = .ok (.getfield 39, 3) := by decide +kernel
theorem dX11_settles_33 : decode cX11_settles 33 = .ok (.invokevirtual 235, 3) := by decide +kernel
theorem dX11_settles_36 : decode cX11_settles 36 = .ok (.ifCond .ne 5, 3) := by decide +kernel
theorem dX11_settles_39 : decode cX11_settles 39 = .ok (.iload_n 1, 1) := by decide +kernel
theorem dX11_settles_40 : decode cX11_settles 40 = .ok (.ireturn, 1) := by decide +kernel
theorem dX11_settles_41 : decode cX11_settles 41 = .ok (.iinc 1 1, 3) := by decide +kernel
theorem dX11_settles_44 : decode cX11_settles 44 = .ok (.goto (-37), 3) := by decide +kernel
theorem dX11_settles_47 : decode cX11_settles 47 = .ok (.iconst (-1), 1) := by decide +kernel
theorem dX11_settles_48 : decode cX11_settles 48 = .ok (.ireturn, 1) := by decide +kernel
theorem dX11_strongest_0 : decode cX11_strongest 0 = .ok (.aload_n 0, 1) := by decide +kernel
theorem dX11_strongest_1 : decode cX11_strongest 1 = .ok (.iload_n 1, 1) := by decide +kernel
theorem dX11_strongest_2 : decode cX11_strongest 2 = .ok (.invokevirtual 185, 3) := by decide +kernel
theorem dX11_strongest_5 : decode cX11_strongest 5 = .ok (.ifCond .eq 13, 3) := by decide +kernel
theorem dX11_strongest_8 : decode cX11_strongest 8 = .ok (.aload_n 0, 1) := by decide +kernel
theorem dX11_strongest_9 : decode cX11_strongest 9 = .ok (.iload_n 2, 1) := by decide +kernel
theorem dX11_strongest_10 : decode cX11_strongest 10 = .ok (.bipush 60, 2) := by decide +kernel
theorem dX11_strongest_12 : decode cX11_strongest 12 = .ok (.invokevirtual 228, 3) := by decide +kernel
theorem dX11_strongest_15 : decode cX11_strongest 15 = .ok (.ifCond .ne 5, 3) := by decide +kernel
theorem dX11_strongest_18 : decode cX11_strongest 18 = .ok (.iconst (-1), 1) := by decide +kernel
theorem dX11_strongest_19 : decode cX11_strongest 19 = .ok (.ireturn, 1) := by decide +kernel
theorem dX11_strongest_20 : decode cX11_strongest 20 = .ok (.aload_n 0, 1) := by decide +kernel
theorem dX11_strongest_21 : decode cX11_strongest 21 = .ok (.iload_n 2, 1) := by decide +kernel
theorem dX11_strongest_22 : decode cX11_strongest 22 = .ok (.invokevirtual 232, 3) := by decide +kernel
theorem dX11_strongest_25 : decode cX11_strongest 25 = .ok (.iconst (-1), 1) := by decide +kernel
theorem dX11_strongest_26 : decode cX11_strongest 26 = .ok (.istore_n 3, 1) := by decide +kernel
theorem dX11_strongest_27 : decode cX11_strongest 27 = .ok (.iconst 0, 1) := by decide +kernel
theorem dX11_strongest_28 : decode cX11_strongest 28 = .ok (.istore 4, 2) := by decide +kernel
theorem dX11_strongest_30 : decode cX11_strongest 30 = .ok (.iconst 0, 1) := by decide +kernel
theorem dX11_strongest_31 : decode cX11_strongest 31 = .ok (.istore 5, 2) := by decide +kernel
theorem dX11_strongest_33 : decode cX11_strongest 33 = .ok (.iload 5, 2) := by decide +kernel
theorem dX11_strongest_35 : decode cX11_strongest 35 = .ok (.aload_n 0, 1) := by decide +kernel
theorem dX11_strongest_36 : decode cX11_strongest 36 = .ok (.getfield 47, 3) := by decide +kernel
theorem dX11_strongest_39 : decode cX11_strongest 39 = .ok (.getfield 115, 3) := by decide +kernel
theorem dX11_strongest_42 : decode cX11_strongest 42 = .ok (.getfield 142, 3) := by decide +kernel
theorem dX11_strongest_45 : decode cX11_strongest 45 = .ok (.if_icmp .ge 35, 3) := by decide +kernel
theorem dX11_strongest_48 : decode cX11_strongest 48 = .ok (.aload_n 0, 1) := by decide +kernel
theorem dX11_strongest_49 : decode cX11_strongest 49 = .ok (.getfield 39, 3) := by decide +kernel
theorem dX11_strongest_52 : decode cX11_strongest 52 = .ok (.iload 5, 2) := by decide +kernel
theorem dX11_strongest_54 : decode cX11_strongest 54 = .ok (.iload_n 1, 1) := by decide +kernel
theorem dX11_strongest_55 : decode cX11_strongest 55 = .ok (.invokevirtual 175, 3) := by decide +kernel
theorem dX11_strongest_58 : decode cX11_strongest 58 = .ok (.istore 6, 2) := by decide +kernel
theorem dX11_strongest_60 : decode cX11_strongest 60 = .ok (.iload 6, 2) := by decide +kernel
theorem dX11_strongest_62 : decode cX11_strongest 62 = .ok (.iload 4, 2) := by decide +kernel
theorem dX11_strongest_64 : decode cX11_strongest 64 = .ok (.if_icmp .le 10, 3) := by decide +kernel
theorem dX11_strongest_67 : decode cX11_strongest 67 = .ok (.iload 6, 2) := by decide +kernel
theorem dX11_strongest_69 : decode cX11_strongest 69 = .ok (.istore 4, 2) := by decide +kernel
theorem dX11_strongest_71 : decode cX11_strongest 71 = .ok (.iload 5, 2) := by decide +kernel
theorem dX11_strongest_73 : decode cX11_strongest 73 = .ok (.istore_n 3, 1) := by decide +kernel
theorem dX11_strongest_74 : decode cX11_strongest 74 = .ok (.iinc 5 1, 3) := by decide +kernel
theorem dX11_strongest_77 : decode cX11_strongest 77 = .ok (.goto (-44), 3) := by decide +kernel
theorem dX11_strongest_80 : decode cX11_strongest 80 = .ok (.iload_n 3, 1) := by decide +kernel
theorem dX11_strongest_81 : decode cX11_strongest 81 = .ok (.ireturn, 1) := by decide +kernel
theorem dX3_actsOn_0 : decode cX3_actsOn 0 = .ok (.aload_n 0, 1) := by decide +kernel
theorem dX3_actsOn_1 : decode cX3_actsOn 1 = .ok (.iload_n 1, 1) := by decide +kernel
theorem dX3_actsOn_2 : decode cX3_actsOn 2 = .ok (.iload 4, 2) := by decide +kernel
theorem dX3_actsOn_4 : decode cX3_actsOn 4 = .ok (.iload_n 3, 1) := by decide +kernel
theorem dX3_actsOn_5 : decode cX3_actsOn 5 = .ok (.invokevirtual 83, 3) := by decide +kernel
theorem dX3_actsOn_8 : decode cX3_actsOn 8 = .ok (.aload_n 0, 1) := by decide +kernel
theorem dX3_actsOn_9 : decode cX3_actsOn 9 = .ok (.getfield 28, 3) := by decide +kernel
theorem dX3_actsOn_12 : decode cX3_actsOn 12 = .ok (.getfield 51, 3) := by decide +kernel
theorem dX3_actsOn_15 : decode cX3_actsOn 15 = .ok (.bipush (-7), 2) := by decide +kernel
theorem dX3_actsOn_17 : decode cX3_actsOn 17 = .ok (.iload_n 2, 1) := by decide +kernel
theorem dX3_actsOn_18 : decode cX3_actsOn 18 = .ok (.invokevirtual 60, 3) := by decide +kernel
theorem dX3_actsOn_21 : decode cX3_actsOn 21 = .ok (.aload_n 0, 1) := by decide +kernel
theorem dX3_actsOn_22 : decode cX3_actsOn 22 = .ok (.getfield 28, 3) := by decide +kernel
theorem dX3_actsOn_25 : decode cX3_actsOn 25 = .ok (.getfield 51, 3) := by decide +kernel
theorem dX3_actsOn_28 : decode cX3_actsOn 28 = .ok (.aload_n 0, 1) := by decide +kernel
theorem dX3_actsOn_29 : decode cX3_actsOn 29 = .ok (.getfield 28, 3) := by decide +kernel
theorem dX3_actsOn_32 : decode cX3_actsOn 32 = .ok (.getfield 70, 3) := by decide +kernel
theorem dX3_actsOn_35 : decode cX3_actsOn 35 = .ok (.iconst 2, 1) := by decide +kernel
theorem dX3_actsOn_36 : decode cX3_actsOn 36 = .ok (.iaload, 1) := by decide +kernel
theorem dX3_actsOn_37 : decode cX3_actsOn 37 = .ok (.aload_n 0, 1) := by decide +kernel
theorem dX3_actsOn_38 : decode cX3_actsOn 38 = .ok (.getfield 28, 3) := by decide +kernel
theorem dX3_actsOn_41 : decode cX3_actsOn 41 = .ok (.getfield 73, 3) := by decide +kernel
theorem dX3_actsOn_44 : decode cX3_actsOn 44 = .ok (.iconst 2, 1) := by decide +kernel
theorem dX3_actsOn_45 : decode cX3_actsOn 45 = .ok (.iaload, 1) := by decide +kernel
theorem dX3_actsOn_46 : decode cX3_actsOn 46 = .ok (.invokevirtual 76, 3) := by decide +kernel
theorem dX3_actsOn_49 : decode cX3_actsOn 49 = .ok (.ifCond .eq 7, 3) := by decide +kernel
theorem dX3_actsOn_52 : decode cX3_actsOn 52 = .ok (.iconst 1, 1) := by decide +kernel
theorem dX3_actsOn_53 : decode cX3_actsOn 53 = .ok (.goto 4, 3) := by decide +kernel
theorem dX3_actsOn_56 : decode cX3_actsOn 56 = .ok (.iconst 0, 1) := by decide +kernel
theorem dX3_actsOn_57 : decode cX3_actsOn 57 = .ok (.ireturn, 1) := by decide +kernel
theorem dX9_keep_0 : decode cX9_keep 0 = .ok (.aload_n 0, 1) := by decide +kernel
theorem dX9_keep_1 : decode cX9_keep 1 = .ok (.getfield 29, 3) := by decide +kernel
theorem dX9_keep_4 : decode cX9_keep 4 = .ok (.bipush 40, 2) := by decide +kernel
theorem dX9_keep_6 : decode cX9_keep 6 = .ok (.irem, 1) := by decide +kernel
theorem dX9_keep_7 : decode cX9_keep 7 = .ok (.istore 4, 2) := by decide +kernel
theorem dX9_keep_9 : decode cX9_keep 9 = .ok (.iload 4, 2) := by decide +kernel
theorem dX9_keep_11 : decode cX9_keep 11 = .ok (.ifCond .lt 38, 3) := by decide +kernel
theorem dX9_keep_14 : decode cX9_keep 14 = .ok (.aload_n 0, 1) := by decide +kernel
theorem dX9_keep_15 : decode cX9_keep 15 = .ok (.getfield 25, 3) := by decide +kernel
theorem dX9_keep_18 : decode cX9_keep 18 = .ok (.iload 4, 2) := by decide +kernel
theorem dX9_keep_20 : decode cX9_keep 20 = .ok (.aload_n 0, 1) := by decide +kernel
theorem dX9_keep_21 : decode cX9_keep 21 = .ok (.getfield 9, 3) := by decide +kernel
theorem dX9_keep_24 : decode cX9_keep 24 = .ok (.bipush 8, 2) := by decide +kernel
theorem dX9_keep_26 : decode cX9_keep 26 = .ok (.imul, 1) := by decide +kernel
theorem dX9_keep_27 : decode cX9_keep 27 = .ok (.iload_n 1, 1) := by decide +kernel
theorem dX9_keep_28 : decode cX9_keep 28 = .ok (.iadd, 1) := by decide +kernel
theorem dX9_keep_29 : decode cX9_keep 29 = .ok (.iconst 4, 1) := by decide +kernel
theorem dX9_keep_30 : decode cX9_keep 30 = .ok (.imul, 1) := by decide +kernel
theorem dX9_keep_31 : decode cX9_keep 31 = .ok (.iload_n 2, 1) := by decide +kernel
theorem dX9_keep_32 : decode cX9_keep 32 = .ok (.iadd, 1) := by decide +kernel
theorem dX9_keep_33 : decode cX9_keep 33 = .ok (.bipush 100, 2) := by decide +kernel
theorem dX9_keep_35 : decode cX9_keep 35 = .ok (.imul, 1) := by decide +kernel
theorem dX9_keep_36 : decode cX9_keep 36 = .ok (.iload_n 3, 1) := by decide +kernel
theorem dX9_keep_37 : decode cX9_keep 37 = .ok (.iadd, 1) := by decide +kernel
theorem dX9_keep_38 : decode cX9_keep 38 = .ok (.iastore, 1) := by decide +kernel
theorem dX9_keep_39 : decode cX9_keep 39 = .ok (.aload_n 0, 1) := by decide +kernel
theorem dX9_keep_40 : decode cX9_keep 40 = .ok (.dup, 1) := by decide +kernel
theorem dX9_keep_41 : decode cX9_keep 41 = .ok (.getfield 29, 3) := by decide +kernel
theorem dX9_keep_44 : decode cX9_keep 44 = .ok (.iconst 1, 1) := by decide +kernel
theorem dX9_keep_45 : decode cX9_keep 45 = .ok (.iadd, 1) := by decide +kernel
theorem dX9_keep_46 : decode cX9_keep 46 = .ok (.putfield 29, 3) := by decide +kernel
theorem dX9_keep_49 : decode cX9_keep 49 = .ok (.return_, 1) := by decide +kernel
theorem dX3_wholeDay_0 : decode cX3_wholeDay 0 = .ok (.aload_n 0, 1) := by decide +kernel
theorem dX3_wholeDay_1 : decode cX3_wholeDay 1 = .ok (.aload_n 1, 1) := by decide +kernel
theorem dX3_wholeDay_2 : decode cX3_wholeDay 2 = .ok (.invokevirtual 134, 3) := by decide +kernel
theorem dX3_wholeDay_5 : decode cX3_wholeDay 5 = .ok (.pop, 1) := by decide +kernel
theorem dX3_wholeDay_6 : decode cX3_wholeDay 6 = .ok (.aload_n 1, 1) := by decide +kernel
theorem dX3_wholeDay_7 : decode cX3_wholeDay 7 = .ok (.dup, 1) := by decide +kernel
theorem dX3_wholeDay_8 : decode cX3_wholeDay 8 = .ok (.getfield 113, 3) := by decide +kernel
theorem dX3_wholeDay_11 : decode cX3_wholeDay 11 = .ok (.iconst 1, 1) := by decide +kernel
theorem dX3_wholeDay_12 : decode cX3_wholeDay 12 = .ok (.isub, 1) := by decide +kernel
theorem dX3_wholeDay_13 : decode cX3_wholeDay 13 = .ok (.putfield 113, 3) := by decide +kernel
theorem dX3_wholeDay_16 : decode cX3_wholeDay 16 = .ok (.iconst 0, 1) := by decide +kernel
theorem dX3_wholeDay_17 : decode cX3_wholeDay 17 = .ok (.istore_n 2, 1) := by decide +kernel
theorem dX3_wholeDay_18 : decode cX3_wholeDay 18 = .ok (.iconst 0, 1) := by decide +kernel
theorem dX3_wholeDay_19 : decode cX3_wholeDay 19 = .ok (.istore_n 3, 1) := by decide +kernel
theorem dX3_wholeDay_20 : decode cX3_wholeDay 20 = .ok (.iload_n 3, 1) := by decide +kernel
theorem dX3_wholeDay_21 : decode cX3_wholeDay 21 = .ok (.aload_n 0, 1) := by decide +kernel
theorem dX3_wholeDay_22 : decode cX3_wholeDay 22 = .ok (.getfield 28, 3) := by decide +kernel
theorem dX3_wholeDay_25 : decode cX3_wholeDay 25 = .ok (.getfield 138, 3) := by decide +kernel
theorem dX3_wholeDay_28 : decode cX3_wholeDay 28 = .ok (.if_icmp .ge 72, 3) := by decide +kernel
theorem dX3_wholeDay_31 : decode cX3_wholeDay 31 = .ok (.iconst 0, 1) := by decide +kernel
theorem dX3_wholeDay_32 : decode cX3_wholeDay 32 = .ok (.istore 4, 2) := by decide +kernel
theorem dX3_wholeDay_34 : decode cX3_wholeDay 34 = .ok (.iload 4, 2) := by decide +kernel
theorem dX3_wholeDay_36 : decode cX3_wholeDay 36 = .ok (.aload_n 0, 1) := by decide +kernel
theorem dX3_wholeDay_37 : decode cX3_wholeDay 37 = .ok (.getfield 28, 3) := by decide +kernel
theorem dX3_wholeDay_40 : decode cX3_wholeDay 40 = .ok (.getfield 141, 3) := by decide +kernel
theorem dX3_wholeDay_43 : decode cX3_wholeDay 43 = .ok (.if_icmp .ge 51, 3) := by decide +kernel
theorem dX3_wholeDay_46 : decode cX3_wholeDay 46 = .ok (.aload_n 1, 1) := by decide +kernel
theorem dX3_wholeDay_47 : decode cX3_wholeDay 47 = .ok (.iload_n 3, 1) := by decide +kernel
theorem dX3_wholeDay_48 : decode cX3_wholeDay 48 = .ok (.iload 4, 2) := by decide +kernel
theorem dX3_wholeDay_50 : decode cX3_wholeDay 50 = .ok (.invokevirtual 144, 3) := by decide +kernel
theorem dX3_wholeDay_53 : decode cX3_wholeDay 53 = .ok (.istore 5, 2) := by decide +kernel
theorem dX3_wholeDay_55 : decode cX3_wholeDay 55 = .ok (.iload 5, 2) := by decide +kernel
theorem dX3_wholeDay_57 : decode cX3_wholeDay 57 = .ok (.ifCond .le 31, 3) := by decide +kernel
theorem dX3_wholeDay_60 : decode cX3_wholeDay 60 = .ok (.aload_n 0, 1) := by decide +kernel
theorem dX3_wholeDay_61 : decode cX3_wholeDay 61 = .ok (.iload_n 3, 1) := by decide +kernel
theorem dX3_wholeDay_62 : decode cX3_wholeDay 62 = .ok (.iload 4, 2) := by decide +kernel
theorem dX3_wholeDay_64 : decode cX3_wholeDay 64 = .ok (.iload 5, 2) := by decide +kernel
theorem dX3_wholeDay_66 : decode cX3_wholeDay 66 = .ok (.aload_n 1, 1) := by decide +kernel
theorem dX3_wholeDay_67 : decode cX3_wholeDay 67 = .ok (.getfield 113, 3) := by decide +kernel
theorem dX3_wholeDay_70 : decode cX3_wholeDay 70 = .ok (.invokevirtual 147, 3) := by decide +kernel
theorem dX3_wholeDay_73 : decode cX3_wholeDay 73 = .ok (.ifCond .eq 15, 3) := by decide +kernel
theorem dX3_wholeDay_76 : decode cX3_wholeDay 76 = .ok (.aload_n 1, 1) := by decide +kernel
theorem dX3_wholeDay_77 : decode cX3_wholeDay 77 = .ok (.iload_n 3, 1) := by decide +kernel
theorem dX3_wholeDay_78 : decode cX3_wholeDay 78 = .ok (.iload 4, 2) := by decide +kernel
theorem dX3_wholeDay_80 : decode cX3_wholeDay 80 = .ok (.iload 5, 2) := by decide +kernel
theorem dX3_wholeDay_82 : decode cX3_wholeDay 82 = .ok (.invokevirtual 151, 3) := by decide +kernel
theorem dX3_wholeDay_85 : decode cX3_wholeDay 85 = .ok (.iinc 2 1, 3) := by decide +kernel
theorem dX3_wholeDay_88 : decode cX3_wholeDay 88 = .ok (.iinc 4 1, 3) := by decide +kernel
theorem dX3_wholeDay_91 : decode cX3_wholeDay 91 = .ok (.goto (-57), 3) := by decide +kernel
theorem dX3_wholeDay_94 : decode cX3_wholeDay 94 = .ok (.iinc 3 1, 3) := by decide +kernel
theorem dX3_wholeDay_97 : decode cX3_wholeDay 97 = .ok (.goto (-77), 3) := by decide +kernel
theorem dX3_wholeDay_100 : decode cX3_wholeDay 100 = .ok (.aload_n 1, 1) := by decide +kernel
theorem dX3_wholeDay_101 : decode cX3_wholeDay 101 = .ok (.dup, 1) := by decide +kernel
theorem dX3_wholeDay_102 : decode cX3_wholeDay 102 = .ok (.getfield 113, 3) := by decide +kernel
theorem dX3_wholeDay_105 : decode cX3_wholeDay 105 = .ok (.iconst 1, 1) := by decide +kernel
theorem dX3_wholeDay_106 : decode cX3_wholeDay 106 = .ok (.iadd, 1) := by decide +kernel
theorem dX3_wholeDay_107 : decode cX3_wholeDay 107 = .ok (.putfield 113, 3) := by decide +kernel
theorem dX3_wholeDay_110 : decode cX3_wholeDay 110 = .ok (.iload_n 2, 1) := by decide +kernel
theorem dX3_wholeDay_111 : decode cX3_wholeDay 111 = .ok (.ireturn, 1) := by decide +kernel
theorem dX11_acted_0 : decode cX11_acted 0 = .ok (.aload_n 0, 1) := by decide +kernel
theorem dX11_acted_1 : decode cX11_acted 1 = .ok (.iload_n 1, 1) := by decide +kernel
theorem dX11_acted_2 : decode cX11_acted 2 = .ok (.bipush 60, 2) := by decide +kernel
theorem dX11_acted_4 : decode cX11_acted 4 = .ok (.invokevirtual 228, 3) := by decide +kernel
theorem dX11_acted_7 : decode cX11_acted 7 = .ok (.ifCond .ne 5, 3) := by decide +kernel
theorem dX11_acted_10 : decode cX11_acted 10 = .ok (.iconst (-1), 1) := by decide +kernel
theorem dX11_acted_11 : decode cX11_acted 11 = .ok (.ireturn, 1) := by decide +kernel
theorem dX11_acted_12 : decode cX11_acted 12 = .ok (.aload_n 0, 1) := by decide +kernel
theorem dX11_acted_13 : decode cX11_acted 13 = .ok (.getfield 39, 3) := by decide +kernel
theorem dX11_acted_16 : decode cX11_acted 16 = .ok (.aload_n 0, 1) := by decide +kernel
theorem dX11_acted_17 : decode cX11_acted 17 = .ok (.getfield 35, 3) := by decide +kernel
theorem dX11_acted_20 : decode cX11_acted 20 = .ok (.invokevirtual 239, 3) := by decide +kernel
theorem dX11_acted_23 : decode cX11_acted 23 = .ok (.iconst 0, 1) := by decide +kernel
theorem dX11_acted_24 : decode cX11_acted 24 = .ok (.istore_n 2, 1) := by decide +kernel
theorem dX11_acted_25 : decode cX11_acted 25 = .ok (.iconst 0, 1) := by decide +kernel
theorem dX11_acted_26 : decode cX11_acted 26 = .ok (.istore_n 3, 1) := by decide +kernel
theorem dX11_acted_27 : decode cX11_acted 27 = .ok (.iload_n 3, 1) := by decide +kernel
theorem dX11_acted_28 : decode cX11_acted 28 = .ok (.iload_n 1, 1) := by decide +kernel
theorem dX11_acted_29 : decode cX11_acted 29 = .ok (.if_icmp .ge 23, 3) := by decide +kernel
theorem dX11_acted_32 : decode cX11_acted 32 = .ok (.iload_n 2, 1) := by decide +kernel
theorem dX11_acted_33 : decode cX11_acted 33 = .ok (.aload_n 0, 1) := by decide +kernel
theorem dX11_acted_34 : decode cX11_acted 34 = .ok (.getfield 47, 3) := by decide +kernel
theorem dX11_acted_37 : decode cX11_acted 37 = .ok (.aload_n 0, 1) := by decide +kernel
theorem dX11_acted_38 : decode cX11_acted 38 = .ok (.getfield 39, 3) := by decide +kernel
theorem dX11_acted_41 : decode cX11_acted 41 = .ok (.invokevirtual 243, 3) := by decide +kernel
theorem dX11_acted_44 : decode cX11_acted 44 = .ok (.iadd, 1) := by decide +kernel
theorem dX11_acted_45 : decode cX11_acted 45 = .ok (.istore_n 2, 1) := by decide +kernel
theorem dX11_acted_46 : decode cX11_acted 46 = .ok (.iinc 3 1, 3) := by decide +kernel
theorem dX11_acted_49 : decode cX11_acted 49 = .ok (.goto (-22), 3) := by decide +kernel
theorem dX11_acted_52 : decode cX11_acted 52 = .ok (.iload_n 2, 1) := by decide +kernel
theorem dX11_acted_53 : decode cX11_acted 53 = .ok (.ireturn, 1) := by decide +kernel
theorem dX8_carbonsNear_0 : decode cX8_carbonsNear 0 = .ok (.iconst 1, 1) := by decide +kernel
theorem dX8_carbonsNear_1 : decode cX8_carbonsNear 1 = .ok (.iload_n 1, 1) := by decide +kernel
theorem dX8_carbonsNear_2 : decode cX8_carbonsNear 2 = .ok (.ishl, 1) := by decide +kernel
theorem dX8_carbonsNear_3 : decode cX8_carbonsNear 3 = .ok (.istore_n 3, 1) := by decide +kernel
theorem dX8_carbonsNear_4 : decode cX8_carbonsNear 4 = .ok (.iconst 0, 1) := by decide +kernel
theorem dX8_carbonsNear_5 : decode cX8_carbonsNear 5 = .ok (.istore 4, 2) := by decide +kernel
theorem dX8_carbonsNear_7 : decode cX8_carbonsNear 7 = .ok (.iconst 0, 1) := by decide +kernel
theorem dX8_carbonsNear_8 : decode cX8_carbonsNear 8 = .ok (.istore 5, 2) := by decide +kernel
theorem dX8_carbonsNear_10 : decode cX8_carbonsNear 10 = .ok (.iload 5, 2) := by decide +kernel
theorem dX8_carbonsNear_12 : decode cX8_carbonsNear 12 = .ok (.iload_n 2, 1) := by decide +kernel
theorem dX8_carbonsNear_13 : decode cX8_carbonsNear 13 = .ok (.if_icmp .ge 104, 3) := by decide +kernel
theorem dX8_carbonsNear_16 : decode cX8_carbonsNear 16 = .ok (.iload_n 3, 1) := by decide +kernel
theorem dX8_carbonsNear_17 : decode cX8_carbonsNear 17 = .ok (.istore 6, 2) := by decide +kernel
theorem dX8_carbonsNear_19 : decode cX8_carbonsNear 19 = .ok (.iconst 0, 1) := by decide +kernel
theorem dX8_carbonsNear_20 : decode cX8_carbonsNear 20 = .ok (.istore 7, 2) := by decide +kernel
theorem dX8_carbonsNear_22 : decode cX8_carbonsNear 22 = .ok (.iload 7, 2) := by decide +kernel
theorem dX8_carbonsNear_24 : decode cX8_carbonsNear 24 = .ok (.aload_n 0, 1) := by decide +kernel
theorem dX8_carbonsNear_25 : decode cX8_carbonsNear 25 = .ok (.getfield 32, 3) := by decide +kernel
theorem dX8_carbonsNear_28 : decode cX8_carbonsNear 28 = .ok (.getfield 52, 3) := by decide +kernel
theorem dX8_carbonsNear_31 : decode cX8_carbonsNear 31 = .ok (.getfield 58, 3) := by decide +kernel
theorem dX8_carbonsNear_34 : decode cX8_carbonsNear 34 = .ok (.if_icmp .ge 74, 3) := by decide +kernel
theorem dX8_carbonsNear_37 : decode cX8_carbonsNear 37 = .ok (.iconst 1, 1) := by decide +kernel
theorem dX8_carbonsNear_38 : decode cX8_carbonsNear 38 = .ok (.aload_n 0, 1) := by decide +kernel
theorem dX8_carbonsNear_39 : decode cX8_carbonsNear 39 = .ok (.getfield 32, 3) := by decide +kernel
theorem dX8_carbonsNear_42 : decode cX8_carbonsNear 42 = .ok (.getfield 52, 3) := by decide +kernel
theorem dX8_carbonsNear_45 : decode cX8_carbonsNear 45 = .ok (.getfield 103, 3) := by decide +kernel
theorem dX8_carbonsNear_48 : decode cX8_carbonsNear 48 = .ok (.iload 7, 2) := by decide +kernel
theorem dX8_carbonsNear_50 : decode cX8_carbonsNear 50 = .ok (.iaload, 1) := by decide +kernel
theorem dX8_carbonsNear_51 : decode cX8_carbonsNear 51 = .ok (.ishl, 1) := by decide +kernel
theorem dX8_carbonsNear_52 : decode cX8_carbonsNear 52 = .ok (.iconst 1, 1) := by decide +kernel
theorem dX8_carbonsNear_53 : decode cX8_carbonsNear 53 = .ok (.aload_n 0, 1) := by decide +kernel
theorem dX8_carbonsNear_54 : decode cX8_carbonsNear 54 = .ok (.getfield 32, 3) := by decide +kernel
theorem dX8_carbonsNear_57 : decode cX8_carbonsNear 57 = .ok (.getfield 52, 3) := by decide +kernel
theorem dX8_carbonsNear_60 : decode cX8_carbonsNear 60 = .ok (.getfield 106, 3) := by decide +kernel
theorem dX8_carbonsNear_63 : decode cX8_carbonsNear 63 = .ok (.iload 7, 2) := by decide +kernel
theorem dX8_carbonsNear_65 : decode cX8_carbonsNear 65 = .ok (.iaload, 1) := by decide +kernel
theorem dX8_carbonsNear_66 : decode cX8_carbonsNear 66 = .ok (.ishl, 1) := by decide +kernel
theorem dX8_carbonsNear_67 : decode cX8_carbonsNear 67 = .ok (.ior, 1) := by decide +kernel
theorem dX8_carbonsNear_68 : decode cX8_carbonsNear 68 = .ok (.istore 8, 2) := by decide +kernel
theorem dX8_carbonsNear_70 : decode cX8_carbonsNear 70 = .ok (.aload_n 0, 1) := by decide +kernel
theorem dX8_carbonsNear_71 : decode cX8_carbonsNear 71 = .ok (.iload 7, 2) := by decide +kernel
theorem dX8_carbonsNear_73 : decode cX8_carbonsNear 73 = .ok (.invokevirtual 63, 3) := by decide +kernel
theorem dX8_carbonsNear_76 : decode cX8_carbonsNear 76 = .ok (.ifCond .eq 26, 3) := by decide +kernel
theorem dX8_carbonsNear_79 : decode cX8_carbonsNear 79 = .ok (.iload 8, 2) := by decide +kernel
theorem dX8_carbonsNear_81 : decode cX8_carbonsNear 81 = .ok (.iload_n 3, 1) := by decide +kernel
theorem dX8_carbonsNear_82 : decode cX8_carbonsNear 82 = .ok (.iand, 1) := by decide +kernel
theorem dX8_carbonsNear_83 : decode cX8_carbonsNear 83 = .ok (.ifCond .eq 19, 3) := by decide +kernel
theorem dX8_carbonsNear_86 : decode cX8_carbonsNear 86 = .ok (.iload 4, 2) := by decide +kernel
theorem dX8_carbonsNear_88 : decode cX8_carbonsNear 88 = .ok (.iconst 1, 1) := by decide +kernel
theorem dX8_carbonsNear_89 : decode cX8_carbonsNear 89 = .ok (.iload 7, 2) := by decide +kernel
theorem dX8_carbonsNear_91 : decode cX8_carbonsNear 91 = .ok (.ishl, 1) := by decide +kernel
theorem dX8_carbonsNear_92 : decode cX8_carbonsNear 92 = .ok (.ior, 1) := by decide +kernel
theorem dX8_carbonsNear_93 : decode cX8_carbonsNear 93 = .ok (.istore 4, 2) := by decide +kernel
theorem dX8_carbonsNear_95 : decode cX8_carbonsNear 95 = .ok (.iload 6, 2) := by decide +kernel
theorem dX8_carbonsNear_97 : decode cX8_carbonsNear 97 = .ok (.iload 8, 2) := by decide +kernel
theorem dX8_carbonsNear_99 : decode cX8_carbonsNear 99 = .ok (.ior, 1) := by decide +kernel
theorem dX8_carbonsNear_100 : decode cX8_carbonsNear 100 = .ok (.istore 6, 2) := by decide +kernel
theorem dX8_carbonsNear_102 : decode cX8_carbonsNear 102 = .ok (.iinc 7 1, 3) := by decide +kernel
theorem dX8_carbonsNear_105 : decode cX8_carbonsNear 105 = .ok (.goto (-83), 3) := by decide +kernel
theorem dX8_carbonsNear_108 : decode cX8_carbonsNear 108 = .ok (.iload 6, 2) := by decide +kernel
theorem dX8_carbonsNear_110 : decode cX8_carbonsNear 110 = .ok (.istore_n 3, 1) := by decide +kernel
theorem dX8_carbonsNear_111 : decode cX8_carbonsNear 111 = .ok (.iinc 5 1, 3) := by decide +kernel
theorem dX8_carbonsNear_114 : decode cX8_carbonsNear 114 = .ok (.goto (-104), 3) := by decide +kernel
theorem dX8_carbonsNear_117 : decode cX8_carbonsNear 117 = .ok (.iload 4, 2) := by decide +kernel
theorem dX8_carbonsNear_119 : decode cX8_carbonsNear 119 = .ok (.ireturn, 1) := by decide +kernel
theorem dX8_spread_0 : decode cX8_spread 0 = .ok (.iconst 0, 1) := by decide +kernel
theorem dX8_spread_1 : decode cX8_spread 1 = .ok (.istore_n 2, 1) := by decide +kernel
theorem dX8_spread_2 : decode cX8_spread 2 = .ok (.iconst 0, 1) := by decide +kernel
theorem dX8_spread_3 : decode cX8_spread 3 = .ok (.istore_n 3, 1) := by decide +kernel
theorem dX8_spread_4 : decode cX8_spread 4 = .ok (.iconst 0, 1) := by decide +kernel
theorem dX8_spread_5 : decode cX8_spread 5 = .ok (.istore 4, 2) := by decide +kernel
theorem dX8_spread_7 : decode cX8_spread 7 = .ok (.iload 4, 2) := by decide +kernel
theorem dX8_spread_9 : decode cX8_spread 9 = .ok (.bipush 12, 2) := by decide +kernel
theorem dX8_spread_11 : decode cX8_spread 11 = .ok (.if_icmp .ge 33, 3) := by decide +kernel
theorem dX8_spread_14 : decode cX8_spread 14 = .ok (.iload_n 1, 1) := by decide +kernel
theorem dX8_spread_15 : decode cX8_spread 15 = .ok (.iload 4, 2) := by decide +kernel
theorem dX8_spread_17 : decode cX8_spread 17 = .ok (.ishr, 1) := by decide +kernel
theorem dX8_spread_18 : decode cX8_spread 18 = .ok (.iconst 1, 1) := by decide +kernel
theorem dX8_spread_19 : decode cX8_spread 19 = .ok (.iand, 1) := by decide +kernel
theorem dX8_spread_20 : decode cX8_spread 20 = .ok (.iconst 1, 1) := by decide +kernel
theorem dX8_spread_21 : decode cX8_spread 21 = .ok (.if_icmp .ne 17, 3) := by decide +kernel
theorem dX8_spread_24 : decode cX8_spread 24 = .ok (.iload_n 2, 1) := by decide +kernel
theorem dX8_spread_25 : decode cX8_spread 25 = .ok (.iload_n 0, 1) := by decide +kernel
theorem dX8_spread_26 : decode cX8_spread 26 = .ok (.iload_n 3, 1) := by decide +kernel
theorem dX8_spread_27 : decode cX8_spread 27 = .ok (.ishr, 1) := by decide +kernel
theorem dX8_spread_28 : decode cX8_spread 28 = .ok (.iconst 1, 1) := by decide +kernel
theorem dX8_spread_29 : decode cX8_spread 29 = .ok (.iand, 1) := by decide +kernel
theorem dX8_spread_30 : decode cX8_spread 30 = .ok (.iload 4, 2) := by decide +kernel
theorem dX8_spread_32 : decode cX8_spread 32 = .ok (.ishl, 1) := by decide +kernel
theorem dX8_spread_33 : decode cX8_spread 33 = .ok (.ior, 1) := by decide +kernel
theorem dX8_spread_34 : decode cX8_spread 34 = .ok (.istore_n 2, 1) := by decide +kernel
theorem dX8_spread_35 : decode cX8_spread 35 = .ok (.iinc 3 1, 3) := by decide +kernel
theorem dX8_spread_38 : decode cX8_spread 38 = .ok (.iinc 4 1, 3) := by decide +kernel
theorem dX8_spread_41 : decode cX8_spread 41 = .ok (.goto (-34), 3) := by decide +kernel
theorem dX8_spread_44 : decode cX8_spread 44 = .ok (.iload_n 2, 1) := by decide +kernel
theorem dX8_spread_45 : decode cX8_spread 45 = .ok (.ireturn, 1) := by decide +kernel
theorem dX8_gather_0 : decode cX8_gather 0 = .ok (.aload_n 0, 1) := by decide +kernel
theorem dX8_gather_1 : decode cX8_gather 1 = .ok (.iconst 0, 1) := by decide +kernel
theorem dX8_gather_2 : decode cX8_gather 2 = .ok (.putfield 29, 3) := by decide +kernel
theorem dX8_gather_5 : decode cX8_gather 5 = .ok (.iconst 1, 1) := by decide +kernel
theorem dX8_gather_6 : decode cX8_gather 6 = .ok (.iload_n 1, 1) := by decide +kernel
theorem dX8_gather_7 : decode cX8_gather 7 = .ok (.invokestatic 85, 3) := by decide +kernel
theorem dX8_gather_10 : decode cX8_gather 10 = .ok (.ishl, 1) := by decide +kernel
theorem dX8_gather_11 : decode cX8_gather 11 = .ok (.istore 5, 2) := by decide +kernel
theorem dX8_gather_13 : decode cX8_gather 13 = .ok (.iconst 0, 1) := by decide +kernel
theorem dX8_gather_14 : decode cX8_gather 14 = .ok (.istore 6, 2) := by decide +kernel
theorem dX8_gather_16 : decode cX8_gather 16 = .ok (.iload 6, 2) := by decide +kernel
theorem dX8_gather_18 : decode cX8_gather 18 = .ok (.iload 5, 2) := by decide +kernel
theorem dX8_gather_20 : decode cX8_gather 20 = .ok (.if_icmp .ge 63, 3) := by decide +kernel
theorem dX8_gather_23 : decode cX8_gather 23 = .ok (.iload 6, 2) := by decide +kernel
theorem dX8_gather_25 : decode cX8_gather 25 = .ok (.invokestatic 85, 3) := by decide +kernel
theorem dX8_gather_28 : decode cX8_gather 28 = .ok (.iload_n 2, 1) := by decide +kernel
theorem dX8_gather_29 : decode cX8_gather 29 = .ok (.if_icmp .ne 48, 3) := by decide +kernel
theorem dX8_gather_32 : decode cX8_gather 32 = .ok (.aload_n 0, 1) := by decide +kernel
theorem dX8_gather_33 : decode cX8_gather 33 = .ok (.getfield 29, 3) := by decide +kernel
theorem dX8_gather_36 : decode cX8_gather 36 = .ok (.sipush 924, 3) := by decide +kernel
theorem dX8_gather_39 : decode cX8_gather 39 = .ok (.if_icmp .ge 38, 3) := by decide +kernel
theorem dX8_gather_42 : decode cX8_gather 42 = .ok (.aload_n 0, 1) := by decide +kernel
theorem dX8_gather_43 : decode cX8_gather 43 = .ok (.getfield 22, 3) := by decide +kernel
theorem dX8_gather_46 : decode cX8_gather 46 = .ok (.aload_n 0, 1) := by decide +kernel
theorem dX8_gather_47 : decode cX8_gather 47 = .ok (.getfield 29, 3) := by decide +kernel
theorem dX8_gather_50 : decode cX8_gather 50 = .ok (.iload 6, 2) := by decide +kernel
theorem dX8_gather_52 : decode cX8_gather 52 = .ok (.iload_n 1, 1) := by decide +kernel
theorem dX8_gather_53 : decode cX8_gather 53 = .ok (.invokestatic 109, 3) := by decide +kernel
theorem dX8_gather_56 : decode cX8_gather 56 = .ok (.iastore, 1) := by decide +kernel
theorem dX8_gather_57 : decode cX8_gather 57 = .ok (.aload_n 0, 1) := by decide +kernel
theorem dX8_gather_58 : decode cX8_gather 58 = .ok (.getfield 25, 3) := by decide +kernel
theorem dX8_gather_61 : decode cX8_gather 61 = .ok (.aload_n 0, 1) := by decide +kernel
theorem dX8_gather_62 : decode cX8_gather 62 = .ok (.getfield 29, 3) := by decide +kernel
theorem dX8_gather_65 : decode cX8_gather 65 = .ok (.lload_n 3, 1) := by decide +kernel
theorem dX8_gather_66 : decode cX8_gather 66 = .ok (.lastore, 1) := by decide +kernel
theorem dX8_gather_67 : decode cX8_gather 67 = .ok (.aload_n 0, 1) := by decide +kernel
theorem dX8_gather_68 : decode cX8_gather 68 = .ok (.dup, 1) := by decide +kernel
theorem dX8_gather_69 : decode cX8_gather 69 = .ok (.getfield 29, 3) := by decide +kernel
theorem dX8_gather_72 : decode cX8_gather 72 = .ok (.iconst 1, 1) := by decide +kernel
theorem dX8_gather_73 : decode cX8_gather 73 = .ok (.iadd, 1) := by decide +kernel
theorem dX8_gather_74 : decode cX8_gather 74 = .ok (.putfield 29, 3) := by decide +kernel
theorem dX8_gather_77 : decode cX8_gather 77 = .ok (.iinc 6 1, 3) := by decide +kernel
theorem dX8_gather_80 : decode cX8_gather 80 = .ok (.goto (-64), 3) := by decide +kernel
theorem dX8_gather_83 : decode cX8_gather 83 = .ok (.return_, 1) := by decide +kernel
theorem dX8_pass_0 : decode cX8_pass 0 = .ok (.iconst 0, 1) := by decide +kernel
theorem dX8_pass_1 : decode cX8_pass 1 = .ok (.istore_n 2, 1) := by decide +kernel
theorem dX8_pass_2 : decode cX8_pass 2 = .ok (.iload_n 2, 1) := by decide +kernel
theorem dX8_pass_3 : decode cX8_pass 3 = .ok (.iload_n 1, 1) := by decide +kernel
theorem dX8_pass_4 : decode cX8_pass 4 = .ok (.if_icmp .ge 81, 3) := by decide +kernel
theorem dX8_pass_7 : decode cX8_pass 7 = .ok (.aload_n 0, 1) := by decide +kernel
theorem dX8_pass_8 : decode cX8_pass 8 = .ok (.getfield 32, 3) := by decide +kernel
theorem dX8_pass_11 : decode cX8_pass 11 = .ok (.aload_n 0, 1) := by decide +kernel
theorem dX8_pass_12 : decode cX8_pass 12 = .ok (.getfield 36, 3) := by decide +kernel
theorem dX8_pass_15 : decode cX8_pass 15 = .ok (.getfield 112, 3) := by decide +kernel
theorem dX8_pass_18 : decode cX8_pass 18 = .ok (.iload_n 2, 1) := by decide +kernel
theorem dX8_pass_19 : decode cX8_pass 19 = .ok (.iadd, 1) := by decide +kernel
theorem dX8_pass_20 : decode cX8_pass 20 = .ok (.invokevirtual 115, 3) := by decide +kernel
theorem dX8_pass_23 : decode cX8_pass 23 = .ok (.iconst 0, 1) := by decide +kernel
theorem dX8_pass_24 : decode cX8_pass 24 = .ok (.istore_n 3, 1) := by decide +kernel
theorem dX8_pass_25 : decode cX8_pass 25 = .ok (.iload_n 3, 1) := by decide +kernel
theorem dX8_pass_26 : decode cX8_pass 26 = .ok (.aload_n 0, 1) := by decide +kernel
theorem dX8_pass_27 : decode cX8_pass 27 = .ok (.getfield 29, 3) := by decide +kernel
theorem dX8_pass_30 : decode cX8_pass 30 = .ok (.if_icmp .ge 49, 3) := by decide +kernel
theorem dX8_pass_33 : decode cX8_pass 33 = .ok (.aload_n 0, 1) := by decide +kernel
theorem dX8_pass_34 : decode cX8_pass 34 = .ok (.getfield 25, 3) := by decide +kernel
theorem dX8_pass_37 : decode cX8_pass 37 = .ok (.iload_n 3, 1) := by decide +kernel
theorem dX8_pass_38 : decode cX8_pass 38 = .ok (.aload_n 0, 1) := by decide +kernel
theorem dX8_pass_39 : decode cX8_pass 39 = .ok (.getfield 32, 3) := by decide +kernel
theorem dX8_pass_42 : decode cX8_pass 42 = .ok (.aload_n 0, 1) := by decide +kernel
theorem dX8_pass_43 : decode cX8_pass 43 = .ok (.getfield 25, 3) := by decide +kernel
theorem dX8_pass_46 : decode cX8_pass 46 = .ok (.iload_n 3, 1) := by decide +kernel
theorem dX8_pass_47 : decode cX8_pass 47 = .ok (.laload, 1) := by decide +kernel
theorem dX8_pass_48 : decode cX8_pass 48 = .ok (.aload_n 0, 1) := by decide +kernel
theorem dX8_pass_49 : decode cX8_pass 49 = .ok (.getfield 36, 3) := by decide +kernel
theorem dX8_pass_52 : decode cX8_pass 52 = .ok (.getfield 40, 3) := by decide +kernel
theorem dX8_pass_55 : decode cX8_pass 55 = .ok (.aload_n 0, 1) := by decide +kernel
theorem dX8_pass_56 : decode cX8_pass 56 = .ok (.getfield 36, 3) := by decide +kernel
theorem dX8_pass_59 : decode cX8_pass 59 = .ok (.getfield 45, 3) := by decide +kernel
theorem dX8_pass_62 : decode cX8_pass 62 = .ok (.aload_n 0, 1) := by decide +kernel
theorem dX8_pass_63 : decode cX8_pass 63 = .ok (.getfield 22, 3) := by decide +kernel
theorem dX8_pass_66 : decode cX8_pass 66 = .ok (.iload_n 3, 1) := by decide +kernel
theorem dX8_pass_67 : decode cX8_pass 67 = .ok (.iaload, 1) := by decide +kernel
theorem dX8_pass_68 : decode cX8_pass 68 = .ok (.ixor, 1) := by decide +kernel
theorem dX8_pass_69 : decode cX8_pass 69 = .ok (.invokevirtual 118, 3) := by decide +kernel
theorem dX8_pass_72 : decode cX8_pass 72 = .ok (.lastore, 1) := by decide +kernel
theorem dX8_pass_73 : decode cX8_pass 73 = .ok (.iinc 3 1, 3) := by decide +kernel
theorem dX8_pass_76 : decode cX8_pass 76 = .ok (.goto (-51), 3) := by decide +kernel
theorem dX8_pass_79 : decode cX8_pass 79 = .ok (.iinc 2 1, 3) := by decide +kernel
theorem dX8_pass_82 : decode cX8_pass 82 = .ok (.goto (-80), 3) := by decide +kernel
theorem dX8_pass_85 : decode cX8_pass 85 = .ok (.return_, 1) := by decide +kernel
theorem dX8_fewestTurns_0 : decode cX8_fewestTurns 0 = .ok (.iload_n 2, 1) := by decide +kernel
theorem dX8_fewestTurns_1 : decode cX8_fewestTurns 1 = .ok (.ifCond .lt 22, 3) := by decide +kernel
theorem dX8_fewestTurns_4 : decode cX8_fewestTurns 4 = .ok (.iload_n 2, 1) := by decide +kernel
theorem dX8_fewestTurns_5 : decode cX8_fewestTurns 5 = .ok (.iconst 4, 1) := by decide +kernel
theorem dX8_fewestTurns_6 : decode cX8_fewestTurns 6 = .ok (.if_icmp .ge 17, 3) := by decide +kernel
theorem dX8_fewestTurns_9 : decode cX8_fewestTurns 9 = .ok (.aload_n 0, 1) := by decide +kernel
theorem dX8_fewestTurns_10 : decode cX8_fewestTurns 10 = .ok (.getfield 36, 3) := by decide +kernel
theorem dX8_fewestTurns_13 : decode cX8_fewestTurns 13 = .ok (.getfield 81, 3) := by decide +kernel
theorem dX8_fewestTurns_16 : decode cX8_fewestTurns 16 = .ok (.iload_n 2, 1) := by decide +kernel
theorem dX8_fewestTurns_17 : decode cX8_fewestTurns 17 = .ok (.laload, 1) := by decide +kernel
theorem dX8_fewestTurns_18 : decode cX8_fewestTurns 18 = .ok (.lconst 0, 1) := by decide +kernel
theorem dX8_fewestTurns_19 : decode cX8_fewestTurns 19 = .ok (.lcmp, 1) := by decide +kernel
theorem dX8_fewestTurns_20 : decode cX8_fewestTurns 20 = .ok (.ifCond .ne 5, 3) := by decide +kernel
theorem dX8_fewestTurns_23 : decode cX8_fewestTurns 23 = .ok (.iconst (-1), 1) := by decide +kernel
theorem dX8_fewestTurns_24 : decode cX8_fewestTurns 24 = .ok (.ireturn, 1) := by decide +kernel
theorem dX8_fewestTurns_25 : decode cX8_fewestTurns 25 = .ok (.aload_n 0, 1) := by decide +kernel
theorem dX8_fewestTurns_26 : decode cX8_fewestTurns 26 = .ok (.iload_n 1, 1) := by decide +kernel
theorem dX8_fewestTurns_27 : decode cX8_fewestTurns 27 = .ok (.iload 4, 2) := by decide +kernel
theorem dX8_fewestTurns_29 : decode cX8_fewestTurns 29 = .ok (.invokevirtual 82, 3) := by decide +kernel
theorem dX8_fewestTurns_32 : decode cX8_fewestTurns 32 = .ok (.istore 5, 2) := by decide +kernel
theorem dX8_fewestTurns_34 : decode cX8_fewestTurns 34 = .ok (.iload 5, 2) := by decide +kernel
theorem dX8_fewestTurns_36 : decode cX8_fewestTurns 36 = .ok (.invokestatic 85, 3) := by decide +kernel
theorem dX8_fewestTurns_39 : decode cX8_fewestTurns 39 = .ok (.istore 6, 2) := by decide +kernel
theorem dX8_fewestTurns_41 : decode cX8_fewestTurns 41 = .ok (.iconst 0, 1) := by decide +kernel
theorem dX8_fewestTurns_42 : decode cX8_fewestTurns 42 = .ok (.istore 7, 2) := by decide +kernel
theorem dX8_fewestTurns_44 : decode cX8_fewestTurns 44 = .ok (.iload 7, 2) := by decide +kernel
theorem dX8_fewestTurns_46 : decode cX8_fewestTurns 46 = .ok (.iload 6, 2) := by decide +kernel
theorem dX8_fewestTurns_48 : decode cX8_fewestTurns 48 = .ok (.if_icmp .gt 73, 3) := by decide +kernel
theorem dX8_fewestTurns_51 : decode cX8_fewestTurns 51 = .ok (.aload_n 0, 1) := by decide +kernel
theorem dX8_fewestTurns_52 : decode cX8_fewestTurns 52 = .ok (.iload 5, 2) := by decide +kernel
theorem dX8_fewestTurns_54 : decode cX8_fewestTurns 54 = .ok (.iload 7, 2) := by decide +kernel
theorem dX8_fewestTurns_56 : decode cX8_fewestTurns 56 = .ok (.aload_n 0, 1) := by decide +kernel
theorem dX8_fewestTurns_57 : decode cX8_fewestTurns 57 = .ok (.getfield 36, 3) := by decide +kernel
theorem dX8_fewestTurns_60 : decode cX8_fewestTurns 60 = .ok (.getfield 81, 3) := by decide +kernel
theorem dX8_fewestTurns_63 : decode cX8_fewestTurns 63 = .ok (.iload_n 2, 1) := by decide +kernel
theorem dX8_fewestTurns_64 : decode cX8_fewestTurns 64 = .ok (.laload, 1) := by decide +kernel
theorem dX8_fewestTurns_65 : decode cX8_fewestTurns 65 = .ok (.invokevirtual 91, 3) := by decide +kernel
theorem dX8_fewestTurns_68 : decode cX8_fewestTurns 68 = .ok (.aload_n 0, 1) := by decide +kernel
theorem dX8_fewestTurns_69 : decode cX8_fewestTurns 69 = .ok (.iload 4, 2) := by decide +kernel
theorem dX8_fewestTurns_71 : decode cX8_fewestTurns 71 = .ok (.invokevirtual 95, 3) := by decide +kernel
theorem dX8_fewestTurns_74 : decode cX8_fewestTurns 74 = .ok (.iconst 0, 1) := by decide +kernel
theorem dX8_fewestTurns_75 : decode cX8_fewestTurns 75 = .ok (.istore 8, 2) := by decide +kernel
theorem dX8_fewestTurns_77 : decode cX8_fewestTurns 77 = .ok (.iload 8, 2) := by decide +kernel
theorem dX8_fewestTurns_79 : decode cX8_fewestTurns 79 = .ok (.aload_n 0, 1) := by decide +kernel
theorem dX8_fewestTurns_80 : decode cX8_fewestTurns 80 = .ok (.getfield 29, 3) := by decide +kernel
theorem dX8_fewestTurns_83 : decode cX8_fewestTurns 83 = .ok (.if_icmp .ge 32, 3) := by decide +kernel
theorem dX8_fewestTurns_86 : decode cX8_fewestTurns 86 = .ok (.aload_n 0, 1) := by decide +kernel
theorem dX8_fewestTurns_87 : decode cX8_fewestTurns 87 = .ok (.getfield 25, 3) := by decide +kernel
theorem dX8_fewestTurns_90 : decode cX8_fewestTurns 90 = .ok (.iload 8, 2) := by decide +kernel
theorem dX8_fewestTurns_92 : decode cX8_fewestTurns 92 = .ok (.laload, 1) := by decide +kernel
theorem dX8_fewestTurns_93 : decode cX8_fewestTurns 93 = .ok (.iload_n 1, 1) := by decide +kernel
theorem dX8_fewestTurns_94 : decode cX8_fewestTurns 94 = .ok (.invokestatic 99, 3) := by decide +kernel
theorem dX8_fewestTurns_97 : decode cX8_fewestTurns 97 = .ok (.iload_n 3, 1) := by decide +kernel
theorem dX8_fewestTurns_98 : decode cX8_fewestTurns 98 = .ok (.if_icmp .lt 11, 3) := by decide +kernel
theorem dX8_fewestTurns_101 : decode cX8_fewestTurns 101 = .ok (.aload_n 0, 1) := by decide +kernel
theorem dX8_fewestTurns_102 : decode cX8_fewestTurns 102 = .ok (.getfield 22, 3) := by decide +kernel
theorem dX8_fewestTurns_105 : decode cX8_fewestTurns 105 = .ok (.iload 8, 2) := by decide +kernel
theorem dX8_fewestTurns_107 : decode cX8_fewestTurns 107 = .ok (.iaload, 1) := by decide +kernel
theorem dX8_fewestTurns_108 : decode cX8_fewestTurns 108 = .ok (.ireturn, 1) := by decide +kernel
theorem dX8_fewestTurns_109 : decode cX8_fewestTurns 109 = .ok (.iinc 8 1, 3) := by decide +kernel
theorem dX8_fewestTurns_112 : decode cX8_fewestTurns 112 = .ok (.goto (-35), 3) := by decide +kernel
theorem dX8_fewestTurns_115 : decode cX8_fewestTurns 115 = .ok (.iinc 7 1, 3) := by decide +kernel
theorem dX8_fewestTurns_118 : decode cX8_fewestTurns 118 = .ok (.goto (-74), 3) := by decide +kernel
theorem dX8_fewestTurns_121 : decode cX8_fewestTurns 121 = .ok (.iconst (-1), 1) := by decide +kernel
theorem dX8_fewestTurns_122 : decode cX8_fewestTurns 122 = .ok (.ireturn, 1) := by decide +kernel
theorem dX11_turning_0 : decode cX11_turning 0 = .ok (.aload_n 0, 1) := by decide +kernel
theorem dX11_turning_1 : decode cX11_turning 1 = .ok (.iload_n 1, 1) := by decide +kernel
theorem dX11_turning_2 : decode cX11_turning 2 = .ok (.invokevirtual 179, 3) := by decide +kernel
theorem dX11_turning_5 : decode cX11_turning 5 = .ok (.ifCond .eq 22, 3) := by decide +kernel
theorem dX11_turning_8 : decode cX11_turning 8 = .ok (.aload_n 0, 1) := by decide +kernel
theorem dX11_turning_9 : decode cX11_turning 9 = .ok (.iload_n 2, 1) := by decide +kernel
theorem dX11_turning_10 : decode cX11_turning 10 = .ok (.invokevirtual 185, 3) := by decide +kernel
theorem dX11_turning_13 : decode cX11_turning 13 = .ok (.ifCond .eq 14, 3) := by decide +kernel
theorem dX11_turning_16 : decode cX11_turning 16 = .ok (.aload_n 0, 1) := by decide +kernel
theorem dX11_turning_17 : decode cX11_turning 17 = .ok (.iload 4, 2) := by decide +kernel
theorem dX11_turning_19 : decode cX11_turning 19 = .ok (.bipush 20, 2) := by decide +kernel
theorem dX11_turning_21 : decode cX11_turning 21 = .ok (.invokevirtual 228, 3) := by decide +kernel
theorem dX11_turning_24 : decode cX11_turning 24 = .ok (.ifCond .ne 5, 3) := by decide +kernel
theorem dX11_turning_27 : decode cX11_turning 27 = .ok (.iconst (-1), 1) := by decide +kernel
theorem dX11_turning_28 : decode cX11_turning 28 = .ok (.ireturn, 1) := by decide +kernel
theorem dX11_turning_29 : decode cX11_turning 29 = .ok (.iload_n 3, 1) := by decide +kernel
theorem dX11_turning_30 : decode cX11_turning 30 = .ok (.iconst 1, 1) := by decide +kernel
theorem dX11_turning_31 : decode cX11_turning 31 = .ok (.if_icmp .lt 9, 3) := by decide +kernel
theorem dX11_turning_34 : decode cX11_turning 34 = .ok (.iload_n 3, 1) := by decide +kernel
theorem dX11_turning_35 : decode cX11_turning 35 = .ok (.bipush 99, 2) := by decide +kernel
theorem dX11_turning_37 : decode cX11_turning 37 = .ok (.if_icmp .le 5, 3) := by decide +kernel
theorem dX11_turning_40 : decode cX11_turning 40 = .ok (.iconst (-1), 1) := by decide +kernel
theorem dX11_turning_41 : decode cX11_turning 41 = .ok (.ireturn, 1) := by decide +kernel
theorem dX11_turning_42 : decode cX11_turning 42 = .ok (.aload_n 0, 1) := by decide +kernel
theorem dX11_turning_43 : decode cX11_turning 43 = .ok (.getfield 63, 3) := by decide +kernel
theorem dX11_turning_46 : decode cX11_turning 46 = .ok (.iload_n 1, 1) := by decide +kernel
theorem dX11_turning_47 : decode cX11_turning 47 = .ok (.iload_n 2, 1) := by decide +kernel
theorem dX11_turning_48 : decode cX11_turning 48 = .ok (.iload_n 3, 1) := by decide +kernel
theorem dX11_turning_49 : decode cX11_turning 49 = .ok (.iload 4, 2) := by decide +kernel
theorem dX11_turning_51 : decode cX11_turning 51 = .ok (.invokevirtual 247, 3) := by decide +kernel
theorem dX11_turning_54 : decode cX11_turning 54 = .ok (.ireturn, 1) := by decide +kernel
theorem dX8_measure_0 : decode cX8_measure 0 = .ok (.iconst 0, 1) := by decide +kernel
theorem dX8_measure_1 : decode cX8_measure 1 = .ok (.istore_n 2, 1) := by decide +kernel
theorem dX8_measure_2 : decode cX8_measure 2 = .ok (.iload_n 2, 1) := by decide +kernel
theorem dX8_measure_3 : decode cX8_measure 3 = .ok (.bipush 8, 2) := by decide +kernel
theorem dX8_measure_5 : decode cX8_measure 5 = .ok (.if_icmp .ge 25, 3) := by decide +kernel
theorem dX8_measure_8 : decode cX8_measure 8 = .ok (.aload_n 0, 1) := by decide +kernel
theorem dX8_measure_9 : decode cX8_measure 9 = .ok (.getfield 9, 3) := by decide +kernel
theorem dX8_measure_12 : decode cX8_measure 12 = .ok (.iload_n 2, 1) := by decide +kernel
theorem dX8_measure_13 : decode cX8_measure 13 = .ok (.iload_n 2, 1) := by decide +kernel
theorem dX8_measure_14 : decode cX8_measure 14 = .ok (.iload_n 1, 1) := by decide +kernel
theorem dX8_measure_15 : decode cX8_measure 15 = .ok (.if_icmp .ne 7, 3) := by decide +kernel
theorem dX8_measure_18 : decode cX8_measure 18 = .ok (.iconst 0, 1) := by decide +kernel
theorem dX8_measure_19 : decode cX8_measure 19 = .ok (.goto 4, 3) := by decide +kernel
theorem dX8_measure_22 : decode cX8_measure 22 = .ok (.iconst (-1), 1) := by decide +kernel
theorem dX8_measure_23 : decode cX8_measure 23 = .ok (.iastore, 1) := by decide +kernel
theorem dX8_measure_24 : decode cX8_measure 24 = .ok (.iinc 2 1, 3) := by decide +kernel
theorem dX8_measure_27 : decode cX8_measure 27 = .ok (.goto (-25), 3) := by decide +kernel
theorem dX8_measure_30 : decode cX8_measure 30 = .ok (.iconst 0, 1) := by decide +kernel
theorem dX8_measure_31 : decode cX8_measure 31 = .ok (.istore_n 2, 1) := by decide +kernel
theorem dX8_measure_32 : decode cX8_measure 32 = .ok (.iload_n 2, 1) := by decide +kernel
theorem dX8_measure_33 : decode cX8_measure 33 = .ok (.bipush 8, 2) := by decide +kernel
theorem dX8_measure_35 : decode cX8_measure 35 = .ok (.if_icmp .ge 101, 3) := by decide +kernel
theorem dX8_measure_38 : decode cX8_measure 38 = .ok (.iconst 0, 1) := by decide +kernel
theorem dX8_measure_39 : decode cX8_measure 39 = .ok (.istore_n 3, 1) := by decide +kernel
theorem dX8_measure_40 : decode cX8_measure 40 = .ok (.iload_n 3, 1) := by decide +kernel
theorem dX8_measure_41 : decode cX8_measure 41 = .ok (.aload_n 0, 1) := by decide +kernel
theorem dX8_measure_42 : decode cX8_measure 42 = .ok (.getfield 32, 3) := by decide +kernel
theorem dX8_measure_45 : decode cX8_measure 45 = .ok (.getfield 52, 3) := by decide +kernel
theorem dX8_measure_48 : decode cX8_measure 48 = .ok (.getfield 58, 3) := by decide +kernel
theorem dX8_measure_51 : decode cX8_measure 51 = .ok (.if_icmp .ge 79, 3) := by decide +kernel
theorem dX8_measure_54 : decode cX8_measure 54 = .ok (.aload_n 0, 1) := by decide +kernel
theorem dX8_measure_55 : decode cX8_measure 55 = .ok (.getfield 32, 3) := by decide +kernel
theorem dX8_measure_58 : decode cX8_measure 58 = .ok (.iload_n 3, 1) := by decide +kernel
theorem dX8_measure_59 : decode cX8_measure 59 = .ok (.aload_n 0, 1) := by decide +kernel
theorem dX8_measure_60 : decode cX8_measure 60 = .ok (.getfield 36, 3) := by decide +kernel
theorem dX8_measure_63 : decode cX8_measure 63 = .ok (.getfield 45, 3) := by decide +kernel
theorem dX8_measure_66 : decode cX8_measure 66 = .ok (.invokevirtual 70, 3) := by decide +kernel
theorem dX8_measure_69 : decode cX8_measure 69 = .ok (.istore 4, 2) := by decide +kernel
theorem dX8_measure_71 : decode cX8_measure 71 = .ok (.aload_n 0, 1) := by decide +kernel
theorem dX8_measure_72 : decode cX8_measure 72 = .ok (.iload_n 3, 1) := by decide +kernel
theorem dX8_measure_73 : decode cX8_measure 73 = .ok (.invokevirtual 63, 3) := by decide +kernel
theorem dX8_measure_76 : decode cX8_measure 76 = .ok (.ifCond .eq 48, 3) := by decide +kernel
theorem dX8_measure_79 : decode cX8_measure 79 = .ok (.aload_n 0, 1) := by decide +kernel
theorem dX8_measure_80 : decode cX8_measure 80 = .ok (.getfield 9, 3) := by decide +kernel
theorem dX8_measure_83 : decode cX8_measure 83 = .ok (.iload 4, 2) := by decide +kernel
theorem dX8_measure_85 : decode cX8_measure 85 = .ok (.iaload, 1) := by decide +kernel
theorem dX8_measure_86 : decode cX8_measure 86 = .ok (.iconst (-1), 1) := by decide +kernel
theorem dX8_measure_87 : decode cX8_measure 87 = .ok (.if_icmp .ne 37, 3) := by decide +kernel
theorem dX8_measure_90 : decode cX8_measure 90 = .ok (.aload_n 0, 1) := by decide +kernel
theorem dX8_measure_91 : decode cX8_measure 91 = .ok (.getfield 9, 3) := by decide +kernel
theorem dX8_measure_94 : decode cX8_measure 94 = .ok (.aload_n 0, 1) := by decide +kernel
theorem dX8_measure_95 : decode cX8_measure 95 = .ok (.getfield 32, 3) := by decide +kernel
theorem dX8_measure_98 : decode cX8_measure 98 = .ok (.iload_n 3, 1) := by decide +kernel
theorem dX8_measure_99 : decode cX8_measure 99 = .ok (.aload_n 0, 1) := by decide +kernel
theorem dX8_measure_100 : decode cX8_measure 100 = .ok (.getfield 36, 3) := by decide +kernel
theorem dX8_measure_103 : decode cX8_measure 103 = .ok (.getfield 45, 3) := by decide +kernel
theorem dX8_measure_106 : decode cX8_measure 106 = .ok (.invokevirtual 67, 3) := by decide +kernel
theorem dX8_measure_109 : decode cX8_measure 109 = .ok (.iaload, 1) := by decide +kernel
