theorem dX1_readFeeling_26 : decode cX1_readFeeling 26 = .ok (.if_icmp .ne 5, 3) := by decide +kernel
theorem dX1_readFeeling_29 : decode cX1_readFeeling 29 = .ok (.iconst 0, 1) := by decide +kernel
theorem dX1_readFeeling_30 : decode cX1_readFeeling 30 = .ok (.ireturn, 1) := by decide +kernel
theorem dX1_readFeeling_31 : decode cX1_readFeeling 31 = .ok (.aload_n 0, 1) := by decide +kernel
theorem dX1_readFeeling_32 : decode cX1_readFeeling 32 = .ok (.getfield 19, 3) := by decide +kernel
theorem dX1_readFeeling_35 : decode cX1_readFeeling 35 = .ok (.getfield 122, 3) := by decide +kernel
theorem dX1_readFeeling_38 : decode cX1_readFeeling 38 = .ok (.iload_n 1, 1) := by decide +kernel
theorem dX1_readFeeling_39 : decode cX1_readFeeling 39 = .ok (.iload_n 2, 1) := by decide +kernel
theorem dX1_readFeeling_40 : decode cX1_readFeeling 40 = .ok (.iastore, 1) := by decide +kernel
theorem dX1_readFeeling_41 : decode cX1_readFeeling 41 = .ok (.aload_n 0, 1) := by decide +kernel
theorem dX1_readFeeling_42 : decode cX1_readFeeling 42 = .ok (.getfield 19, 3) := by decide +kernel
theorem dX1_readFeeling_45 : decode cX1_readFeeling 45 = .ok (.iload_n 1, 1) := by decide +kernel
theorem dX1_readFeeling_46 : decode cX1_readFeeling 46 = .ok (.iconst 1, 1) := by decide +kernel
theorem dX1_readFeeling_47 : decode cX1_readFeeling 47 = .ok (.iadd, 1) := by decide +kernel
theorem dX1_readFeeling_48 : decode cX1_readFeeling 48 = .ok (.putfield 119, 3) := by decide +kernel
theorem dX1_readFeeling_51 : decode cX1_readFeeling 51 = .ok (.iconst 1, 1) := by decide +kernel
theorem dX1_readFeeling_52 : decode cX1_readFeeling 52 = .ok (.ireturn, 1) := by decide +kernel
theorem dX1_nameAmong_0 : decode cX1_nameAmong 0 = .ok (.aload_n 0, 1) := by decide +kernel
theorem dX1_nameAmong_1 : decode cX1_nameAmong 1 = .ok (.getfield 15, 3) := by decide +kernel
theorem dX1_nameAmong_4 : decode cX1_nameAmong 4 = .ok (.invokevirtual 180, 3) := by decide +kernel
theorem dX1_nameAmong_7 : decode cX1_nameAmong 7 = .ok (.istore_n 3, 1) := by decide +kernel
theorem dX1_nameAmong_8 : decode cX1_nameAmong 8 = .ok (.iload_n 3, 1) := by decide +kernel
theorem dX1_nameAmong_9 : decode cX1_nameAmong 9 = .ok (.iconst (-1), 1) := by decide +kernel
theorem dX1_nameAmong_10 : decode cX1_nameAmong 10 = .ok (.if_icmp .ne 5, 3) := by decide +kernel
theorem dX1_nameAmong_13 : decode cX1_nameAmong 13 = .ok (.iconst (-1), 1) := by decide +kernel
theorem dX1_nameAmong_14 : decode cX1_nameAmong 14 = .ok (.ireturn, 1) := by decide +kernel
theorem dX1_nameAmong_15 : decode cX1_nameAmong 15 = .ok (.iload_n 3, 1) := by decide +kernel
theorem dX1_nameAmong_16 : decode cX1_nameAmong 16 = .ok (.aload_n 1, 1) := by decide +kernel
theorem dX1_nameAmong_17 : decode cX1_nameAmong 17 = .ok (.iload_n 2, 1) := by decide +kernel
theorem dX1_nameAmong_18 : decode cX1_nameAmong 18 = .ok (.invokestatic 183, 3) := by decide +kernel
theorem dX1_nameAmong_21 : decode cX1_nameAmong 21 = .ok (.istore 4, 2) := by decide +kernel
theorem dX1_nameAmong_23 : decode cX1_nameAmong 23 = .ok (.iload 4, 2) := by decide +kernel
theorem dX1_nameAmong_25 : decode cX1_nameAmong 25 = .ok (.iconst (-1), 1) := by decide +kernel
theorem dX1_nameAmong_26 : decode cX1_nameAmong 26 = .ok (.if_icmp .ne 19, 3) := by decide +kernel
theorem dX1_nameAmong_29 : decode cX1_nameAmong 29 = .ok (.aload_n 0, 1) := by decide +kernel
theorem dX1_nameAmong_30 : decode cX1_nameAmong 30 = .ok (.getfield 15, 3) := by decide +kernel
theorem dX1_nameAmong_33 : decode cX1_nameAmong 33 = .ok (.iconst 3, 1) := by decide +kernel
theorem dX1_nameAmong_34 : decode cX1_nameAmong 34 = .ok (.aload_n 0, 1) := by decide +kernel
theorem dX1_nameAmong_35 : decode cX1_nameAmong 35 = .ok (.getfield 15, 3) := by decide +kernel
theorem dX1_nameAmong_38 : decode cX1_nameAmong 38 = .ok (.getfield 60, 3) := by decide +kernel
theorem dX1_nameAmong_41 : decode cX1_nameAmong 41 = .ok (.invokevirtual 63, 3) := by decide +kernel
theorem dX1_nameAmong_44 : decode cX1_nameAmong 44 = .ok (.pop, 1) := by decide +kernel
theorem dX1_nameAmong_45 : decode cX1_nameAmong 45 = .ok (.iload 4, 2) := by decide +kernel
theorem dX1_nameAmong_47 : decode cX1_nameAmong 47 = .ok (.ireturn, 1) := by decide +kernel
theorem dX1_readCarbon_0 : decode cX1_readCarbon 0 = .ok (.aload_n 0, 1) := by decide +kernel
theorem dX1_readCarbon_1 : decode cX1_readCarbon 1 = .ok (.getfield 19, 3) := by decide +kernel
theorem dX1_readCarbon_4 : decode cX1_readCarbon 4 = .ok (.getfield 125, 3) := by decide +kernel
theorem dX1_readCarbon_7 : decode cX1_readCarbon 7 = .ok (.istore_n 1, 1) := by decide +kernel
theorem dX1_readCarbon_8 : decode cX1_readCarbon 8 = .ok (.aload_n 0, 1) := by decide +kernel
theorem dX1_readCarbon_9 : decode cX1_readCarbon 9 = .ok (.iload_n 1, 1) := by decide +kernel
theorem dX1_readCarbon_10 : decode cX1_readCarbon 10 = .ok (.bipush 12, 2) := by decide +kernel
theorem dX1_readCarbon_12 : decode cX1_readCarbon 12 = .ok (.invokevirtual 95, 3) := by decide +kernel
theorem dX1_readCarbon_15 : decode cX1_readCarbon 15 = .ok (.ifCond .ne 5, 3) := by decide +kernel
theorem dX1_readCarbon_18 : decode cX1_readCarbon 18 = .ok (.iconst 0, 1) := by decide +kernel
theorem dX1_readCarbon_19 : decode cX1_readCarbon 19 = .ok (.ireturn, 1) := by decide +kernel
theorem dX1_readCarbon_20 : decode cX1_readCarbon 20 = .ok (.aload_n 0, 1) := by decide +kernel
theorem dX1_readCarbon_21 : decode cX1_readCarbon 21 = .ok (.aload_n 0, 1) := by decide +kernel
theorem dX1_readCarbon_22 : decode cX1_readCarbon 22 = .ok (.getfield 19, 3) := by decide +kernel
theorem dX1_readCarbon_25 : decode cX1_readCarbon 25 = .ok (.getfield 109, 3) := by decide +kernel
theorem dX1_readCarbon_28 : decode cX1_readCarbon 28 = .ok (.aload_n 0, 1) := by decide +kernel
theorem dX1_readCarbon_29 : decode cX1_readCarbon 29 = .ok (.getfield 19, 3) := by decide +kernel
theorem dX1_readCarbon_32 : decode cX1_readCarbon 32 = .ok (.getfield 92, 3) := by decide +kernel
theorem dX1_readCarbon_35 : decode cX1_readCarbon 35 = .ok (.invokevirtual 128, 3) := by decide +kernel
theorem dX1_readCarbon_38 : decode cX1_readCarbon 38 = .ok (.istore_n 2, 1) := by decide +kernel
theorem dX1_readCarbon_39 : decode cX1_readCarbon 39 = .ok (.iload_n 2, 1) := by decide +kernel
theorem dX1_readCarbon_40 : decode cX1_readCarbon 40 = .ok (.iconst (-1), 1) := by decide +kernel
theorem dX1_readCarbon_41 : decode cX1_readCarbon 41 = .ok (.if_icmp .ne 5, 3) := by decide +kernel
theorem dX1_readCarbon_44 : decode cX1_readCarbon 44 = .ok (.iconst 0, 1) := by decide +kernel
theorem dX1_readCarbon_45 : decode cX1_readCarbon 45 = .ok (.ireturn, 1) := by decide +kernel
theorem dX1_readCarbon_46 : decode cX1_readCarbon 46 = .ok (.aload_n 0, 1) := by decide +kernel
theorem dX1_readCarbon_47 : decode cX1_readCarbon 47 = .ok (.getfield 15, 3) := by decide +kernel
theorem dX1_readCarbon_50 : decode cX1_readCarbon 50 = .ok (.invokevirtual 89, 3) := by decide +kernel
theorem dX1_readCarbon_53 : decode cX1_readCarbon 53 = .ok (.aload_n 0, 1) := by decide +kernel
theorem dX1_readCarbon_54 : decode cX1_readCarbon 54 = .ok (.getfield 15, 3) := by decide +kernel
theorem dX1_readCarbon_57 : decode cX1_readCarbon 57 = .ok (.iconst 5, 1) := by decide +kernel
theorem dX1_readCarbon_58 : decode cX1_readCarbon 58 = .ok (.invokevirtual 102, 3) := by decide +kernel
theorem dX1_readCarbon_61 : decode cX1_readCarbon 61 = .ok (.ifCond .eq 24, 3) := by decide +kernel
theorem dX1_readCarbon_64 : decode cX1_readCarbon 64 = .ok (.aload_n 0, 1) := by decide +kernel
theorem dX1_readCarbon_65 : decode cX1_readCarbon 65 = .ok (.aload_n 0, 1) := by decide +kernel
theorem dX1_readCarbon_66 : decode cX1_readCarbon 66 = .ok (.getfield 19, 3) := by decide +kernel
theorem dX1_readCarbon_69 : decode cX1_readCarbon 69 = .ok (.getfield 109, 3) := by decide +kernel
theorem dX1_readCarbon_72 : decode cX1_readCarbon 72 = .ok (.aload_n 0, 1) := by decide +kernel
theorem dX1_readCarbon_73 : decode cX1_readCarbon 73 = .ok (.getfield 19, 3) := by decide +kernel
theorem dX1_readCarbon_76 : decode cX1_readCarbon 76 = .ok (.getfield 92, 3) := by decide +kernel
theorem dX1_readCarbon_79 : decode cX1_readCarbon 79 = .ok (.invokevirtual 128, 3) := by decide +kernel
theorem dX1_readCarbon_82 : decode cX1_readCarbon 82 = .ok (.goto 4, 3) := by decide +kernel
theorem dX1_readCarbon_85 : decode cX1_readCarbon 85 = .ok (.iconst (-1), 1) := by decide +kernel
theorem dX1_readCarbon_86 : decode cX1_readCarbon 86 = .ok (.istore_n 3, 1) := by decide +kernel
theorem dX1_readCarbon_87 : decode cX1_readCarbon 87 = .ok (.iload_n 3, 1) := by decide +kernel
theorem dX1_readCarbon_88 : decode cX1_readCarbon 88 = .ok (.iconst (-1), 1) := by decide +kernel
theorem dX1_readCarbon_89 : decode cX1_readCarbon 89 = .ok (.if_icmp .ne 5, 3) := by decide +kernel
theorem dX1_readCarbon_92 : decode cX1_readCarbon 92 = .ok (.iconst 0, 1) := by decide +kernel
theorem dX1_readCarbon_93 : decode cX1_readCarbon 93 = .ok (.ireturn, 1) := by decide +kernel
theorem dX1_readCarbon_94 : decode cX1_readCarbon 94 = .ok (.iload_n 3, 1) := by decide +kernel
theorem dX1_readCarbon_95 : decode cX1_readCarbon 95 = .ok (.iload_n 2, 1) := by decide +kernel
theorem dX1_readCarbon_96 : decode cX1_readCarbon 96 = .ok (.if_icmp .ne 19, 3) := by decide +kernel
theorem dX1_readCarbon_99 : decode cX1_readCarbon 99 = .ok (.aload_n 0, 1) := by decide +kernel
theorem dX1_readCarbon_100 : decode cX1_readCarbon 100 = .ok (.getfield 15, 3) := by decide +kernel
theorem dX1_readCarbon_103 : decode cX1_readCarbon 103 = .ok (.iconst 3, 1) := by decide +kernel
theorem dX1_readCarbon_104 : decode cX1_readCarbon 104 = .ok (.aload_n 0, 1) := by decide +kernel
theorem dX1_readCarbon_105 : decode cX1_readCarbon 105 = .ok (.getfield 15, 3) := by decide +kernel
theorem dX1_readCarbon_108 : decode cX1_readCarbon 108 = .ok (.getfield 60, 3) := by decide +kernel
theorem dX1_readCarbon_111 : decode cX1_readCarbon 111 = .ok (.invokevirtual 63, 3) := by decide +kernel
theorem dX1_readCarbon_114 : decode cX1_readCarbon 114 = .ok (.ireturn, 1) := by decide +kernel
theorem dX1_readCarbon_115 : decode cX1_readCarbon 115 = .ok (.aload_n 0, 1) := by decide +kernel
theorem dX1_readCarbon_116 : decode cX1_readCarbon 116 = .ok (.getfield 15, 3) := by decide +kernel
theorem dX1_readCarbon_119 : decode cX1_readCarbon 119 = .ok (.invokevirtual 89, 3) := by decide +kernel
theorem dX1_readCarbon_122 : decode cX1_readCarbon 122 = .ok (.aload_n 0, 1) := by decide +kernel
theorem dX1_readCarbon_123 : decode cX1_readCarbon 123 = .ok (.getfield 15, 3) := by decide +kernel
theorem dX1_readCarbon_126 : decode cX1_readCarbon 126 = .ok (.bipush 6, 2) := by decide +kernel
theorem dX1_readCarbon_128 : decode cX1_readCarbon 128 = .ok (.invokevirtual 102, 3) := by decide +kernel
theorem dX1_readCarbon_131 : decode cX1_readCarbon 131 = .ok (.ifCond .eq 16, 3) := by decide +kernel
theorem dX1_readCarbon_134 : decode cX1_readCarbon 134 = .ok (.aload_n 0, 1) := by decide +kernel
theorem dX1_readCarbon_135 : decode cX1_readCarbon 135 = .ok (.getfield 15, 3) := by decide +kernel
theorem dX1_readCarbon_138 : decode cX1_readCarbon 138 = .ok (.iconst 1, 1) := by decide +kernel
theorem dX1_readCarbon_139 : decode cX1_readCarbon 139 = .ok (.bipush 9, 2) := by decide +kernel
theorem dX1_readCarbon_141 : decode cX1_readCarbon 141 = .ok (.invokevirtual 105, 3) := by decide +kernel
theorem dX1_readCarbon_144 : decode cX1_readCarbon 144 = .ok (.goto 4, 3) := by decide +kernel
theorem dX1_readCarbon_147 : decode cX1_readCarbon 147 = .ok (.iconst (-1), 1) := by decide +kernel
theorem dX1_readCarbon_148 : decode cX1_readCarbon 148 = .ok (.istore 4, 2) := by decide +kernel
theorem dX1_readCarbon_150 : decode cX1_readCarbon 150 = .ok (.iload 4, 2) := by decide +kernel
theorem dX1_readCarbon_152 : decode cX1_readCarbon 152 = .ok (.iconst (-1), 1) := by decide +kernel
theorem dX1_readCarbon_153 : decode cX1_readCarbon 153 = .ok (.if_icmp .ne 5, 3) := by decide +kernel
theorem dX1_readCarbon_156 : decode cX1_readCarbon 156 = .ok (.iconst 0, 1) := by decide +kernel
theorem dX1_readCarbon_157 : decode cX1_readCarbon 157 = .ok (.ireturn, 1) := by decide +kernel
theorem dX1_readCarbon_158 : decode cX1_readCarbon 158 = .ok (.aload_n 0, 1) := by decide +kernel
theorem dX1_readCarbon_159 : decode cX1_readCarbon 159 = .ok (.getfield 19, 3) := by decide +kernel
theorem dX1_readCarbon_162 : decode cX1_readCarbon 162 = .ok (.getfield 132, 3) := by decide +kernel
theorem dX1_readCarbon_165 : decode cX1_readCarbon 165 = .ok (.iload_n 1, 1) := by decide +kernel
theorem dX1_readCarbon_166 : decode cX1_readCarbon 166 = .ok (.iload_n 2, 1) := by decide +kernel
theorem dX1_readCarbon_167 : decode cX1_readCarbon 167 = .ok (.iastore, 1) := by decide +kernel
theorem dX1_readCarbon_168 : decode cX1_readCarbon 168 = .ok (.aload_n 0, 1) := by decide +kernel
theorem dX1_readCarbon_169 : decode cX1_readCarbon 169 = .ok (.getfield 19, 3) := by decide +kernel
theorem dX1_readCarbon_172 : decode cX1_readCarbon 172 = .ok (.getfield 135, 3) := by decide +kernel
theorem dX1_readCarbon_175 : decode cX1_readCarbon 175 = .ok (.iload_n 1, 1) := by decide +kernel
theorem dX1_readCarbon_176 : decode cX1_readCarbon 176 = .ok (.iload_n 3, 1) := by decide +kernel
theorem dX1_readCarbon_177 : decode cX1_readCarbon 177 = .ok (.iastore, 1) := by decide +kernel
theorem dX1_readCarbon_178 : decode cX1_readCarbon 178 = .ok (.aload_n 0, 1) := by decide +kernel
theorem dX1_readCarbon_179 : decode cX1_readCarbon 179 = .ok (.getfield 19, 3) := by decide +kernel
theorem dX1_readCarbon_182 : decode cX1_readCarbon 182 = .ok (.getfield 138, 3) := by decide +kernel
theorem dX1_readCarbon_185 : decode cX1_readCarbon 185 = .ok (.iload_n 1, 1) := by decide +kernel
theorem dX1_readCarbon_186 : decode cX1_readCarbon 186 = .ok (.iload 4, 2) := by decide +kernel
theorem dX1_readCarbon_188 : decode cX1_readCarbon 188 = .ok (.iastore, 1) := by decide +kernel
theorem dX1_readCarbon_189 : decode cX1_readCarbon 189 = .ok (.aload_n 0, 1) := by decide +kernel
theorem dX1_readCarbon_190 : decode cX1_readCarbon 190 = .ok (.getfield 19, 3) := by decide +kernel
theorem dX1_readCarbon_193 : decode cX1_readCarbon 193 = .ok (.iload_n 1, 1) := by decide +kernel
theorem dX1_readCarbon_194 : decode cX1_readCarbon 194 = .ok (.iconst 1, 1) := by decide +kernel
theorem dX1_readCarbon_195 : decode cX1_readCarbon 195 = .ok (.iadd, 1) := by decide +kernel
theorem dX1_readCarbon_196 : decode cX1_readCarbon 196 = .ok (.putfield 125, 3) := by decide +kernel
theorem dX1_readCarbon_199 : decode cX1_readCarbon 199 = .ok (.iconst 1, 1) := by decide +kernel
theorem dX1_readCarbon_200 : decode cX1_readCarbon 200 = .ok (.ireturn, 1) := by decide +kernel
theorem dX11_strengthIn_0 : decode cX11_strengthIn 0 = .ok (.lload_n 0, 1) := by decide +kernel
theorem dX11_strengthIn_1 : decode cX11_strengthIn 1 = .ok (.bipush 7, 2) := by decide +kernel
theorem dX11_strengthIn_3 : decode cX11_strengthIn 3 = .ok (.iload_n 2, 1) := by decide +kernel
theorem dX11_strengthIn_4 : decode cX11_strengthIn 4 = .ok (.imul, 1) := by decide +kernel
theorem dX11_strengthIn_5 : decode cX11_strengthIn 5 = .ok (.lushr, 1) := by decide +kernel
theorem dX11_strengthIn_6 : decode cX11_strengthIn 6 = .ok (.l2i, 1) := by decide +kernel
theorem dX11_strengthIn_7 : decode cX11_strengthIn 7 = .ok (.bipush 127, 2) := by decide +kernel
theorem dX11_strengthIn_9 : decode cX11_strengthIn 9 = .ok (.iand, 1) := by decide +kernel
theorem dX11_strengthIn_10 : decode cX11_strengthIn 10 = .ok (.ireturn, 1) := by decide +kernel
theorem dX11_packed_0 : decode cX11_packed 0 = .ok (.iload_n 1, 1) := by decide +kernel
theorem dX11_packed_1 : decode cX11_packed 1 = .ok (.i2l, 1) := by decide +kernel
theorem dX11_packed_2 : decode cX11_packed 2 = .ok (.bipush 7, 2) := by decide +kernel
theorem dX11_packed_4 : decode cX11_packed 4 = .ok (.iload_n 0, 1) := by decide +kernel
theorem dX11_packed_5 : decode cX11_packed 5 = .ok (.imul, 1) := by decide +kernel
theorem dX11_packed_6 : decode cX11_packed 6 = .ok (.lshl, 1) := by decide +kernel
theorem dX11_packed_7 : decode cX11_packed 7 = .ok (.lreturn, 1) := by decide +kernel
theorem dX1_readFelt_0 : decode cX1_readFelt 0 = .ok (.aload_n 0, 1) := by decide +kernel
theorem dX1_readFelt_1 : decode cX1_readFelt 1 = .ok (.getfield 15, 3) := by decide +kernel
theorem dX1_readFelt_4 : decode cX1_readFelt 4 = .ok (.invokevirtual 89, 3) := by decide +kernel
theorem dX1_readFelt_7 : decode cX1_readFelt 7 = .ok (.aload_n 0, 1) := by decide +kernel
theorem dX1_readFelt_8 : decode cX1_readFelt 8 = .ok (.aload_n 0, 1) := by decide +kernel
theorem dX1_readFelt_9 : decode cX1_readFelt 9 = .ok (.getfield 19, 3) := by decide +kernel
theorem dX1_readFelt_12 : decode cX1_readFelt 12 = .ok (.getfield 122, 3) := by decide +kernel
theorem dX1_readFelt_15 : decode cX1_readFelt 15 = .ok (.aload_n 0, 1) := by decide +kernel
theorem dX1_readFelt_16 : decode cX1_readFelt 16 = .ok (.getfield 19, 3) := by decide +kernel
theorem dX1_readFelt_19 : decode cX1_readFelt 19 = .ok (.getfield 119, 3) := by decide +kernel
theorem dX1_readFelt_22 : decode cX1_readFelt 22 = .ok (.invokevirtual 128, 3) := by decide +kernel
theorem dX1_readFelt_25 : decode cX1_readFelt 25 = .ok (.istore_n 1, 1) := by decide +kernel
theorem dX1_readFelt_26 : decode cX1_readFelt 26 = .ok (.iload_n 1, 1) := by decide +kernel
theorem dX1_readFelt_27 : decode cX1_readFelt 27 = .ok (.iconst (-1), 1) := by decide +kernel
theorem dX1_readFelt_28 : decode cX1_readFelt 28 = .ok (.if_icmp .ne 5, 3) := by decide +kernel
theorem dX1_readFelt_31 : decode cX1_readFelt 31 = .ok (.iconst 0, 1) := by decide +kernel
theorem dX1_readFelt_32 : decode cX1_readFelt 32 = .ok (.ireturn, 1) := by decide +kernel
theorem dX1_readFelt_33 : decode cX1_readFelt 33 = .ok (.aload_n 0, 1) := by decide +kernel
theorem dX1_readFelt_34 : decode cX1_readFelt 34 = .ok (.getfield 15, 3) := by decide +kernel
theorem dX1_readFelt_37 : decode cX1_readFelt 37 = .ok (.invokevirtual 89, 3) := by decide +kernel
theorem dX1_readFelt_40 : decode cX1_readFelt 40 = .ok (.aload_n 0, 1) := by decide +kernel
theorem dX1_readFelt_41 : decode cX1_readFelt 41 = .ok (.getfield 15, 3) := by decide +kernel
theorem dX1_readFelt_44 : decode cX1_readFelt 44 = .ok (.bipush 8, 2) := by decide +kernel
theorem dX1_readFelt_46 : decode cX1_readFelt 46 = .ok (.invokevirtual 102, 3) := by decide +kernel
theorem dX1_readFelt_49 : decode cX1_readFelt 49 = .ok (.ifCond .eq 24, 3) := by decide +kernel
theorem dX1_readFelt_52 : decode cX1_readFelt 52 = .ok (.aload_n 0, 1) := by decide +kernel
theorem dX1_readFelt_53 : decode cX1_readFelt 53 = .ok (.aload_n 0, 1) := by decide +kernel
theorem dX1_readFelt_54 : decode cX1_readFelt 54 = .ok (.getfield 19, 3) := by decide +kernel
theorem dX1_readFelt_57 : decode cX1_readFelt 57 = .ok (.getfield 109, 3) := by decide +kernel
theorem dX1_readFelt_60 : decode cX1_readFelt 60 = .ok (.aload_n 0, 1) := by decide +kernel
theorem dX1_readFelt_61 : decode cX1_readFelt 61 = .ok (.getfield 19, 3) := by decide +kernel
theorem dX1_readFelt_64 : decode cX1_readFelt 64 = .ok (.getfield 92, 3) := by decide +kernel
theorem dX1_readFelt_67 : decode cX1_readFelt 67 = .ok (.invokevirtual 128, 3) := by decide +kernel
theorem dX1_readFelt_70 : decode cX1_readFelt 70 = .ok (.goto 4, 3) := by decide +kernel
theorem dX1_readFelt_73 : decode cX1_readFelt 73 = .ok (.iconst (-1), 1) := by decide +kernel
theorem dX1_readFelt_74 : decode cX1_readFelt 74 = .ok (.istore_n 2, 1) := by decide +kernel
theorem dX1_readFelt_75 : decode cX1_readFelt 75 = .ok (.iload_n 2, 1) := by decide +kernel
theorem dX1_readFelt_76 : decode cX1_readFelt 76 = .ok (.iconst (-1), 1) := by decide +kernel
theorem dX1_readFelt_77 : decode cX1_readFelt 77 = .ok (.if_icmp .ne 5, 3) := by decide +kernel
theorem dX1_readFelt_80 : decode cX1_readFelt 80 = .ok (.iconst 0, 1) := by decide +kernel
theorem dX1_readFelt_81 : decode cX1_readFelt 81 = .ok (.ireturn, 1) := by decide +kernel
theorem dX1_readFelt_82 : decode cX1_readFelt 82 = .ok (.aload_n 0, 1) := by decide +kernel
theorem dX1_readFelt_83 : decode cX1_readFelt 83 = .ok (.getfield 19, 3) := by decide +kernel
theorem dX1_readFelt_86 : decode cX1_readFelt 86 = .ok (.getfield 141, 3) := by decide +kernel
theorem dX1_readFelt_89 : decode cX1_readFelt 89 = .ok (.iload_n 1, 1) := by decide +kernel
theorem dX1_readFelt_90 : decode cX1_readFelt 90 = .ok (.laload, 1) := by decide +kernel
theorem dX1_readFelt_91 : decode cX1_readFelt 91 = .ok (.iload_n 2, 1) := by decide +kernel
theorem dX1_readFelt_92 : decode cX1_readFelt 92 = .ok (.invokestatic 145, 3) := by decide +kernel
theorem dX1_readFelt_95 : decode cX1_readFelt 95 = .ok (.ifCond .le 19, 3) := by decide +kernel
theorem dX1_readFelt_98 : decode cX1_readFelt 98 = .ok (.aload_n 0, 1) := by decide +kernel
theorem dX1_readFelt_99 : decode cX1_readFelt 99 = .ok (.getfield 15, 3) := by decide +kernel
theorem dX1_readFelt_102 : decode cX1_readFelt 102 = .ok (.iconst 3, 1) := by decide +kernel
theorem dX1_readFelt_103 : decode cX1_readFelt 103 = .ok (.aload_n 0, 1) := by decide +kernel
theorem dX1_readFelt_104 : decode cX1_readFelt 104 = .ok (.getfield 15, 3) := by decide +kernel
theorem dX1_readFelt_107 : decode cX1_readFelt 107 = .ok (.getfield 60, 3) := by decide +kernel
theorem dX1_readFelt_110 : decode cX1_readFelt 110 = .ok (.invokevirtual 63, 3) := by decide +kernel
theorem dX1_readFelt_113 : decode cX1_readFelt 113 = .ok (.ireturn, 1) := by decide +kernel
theorem dX1_readFelt_114 : decode cX1_readFelt 114 = .ok (.aload_n 0, 1) := by decide +kernel
theorem dX1_readFelt_115 : decode cX1_readFelt 115 = .ok (.getfield 15, 3) := by decide +kernel
theorem dX1_readFelt_118 : decode cX1_readFelt 118 = .ok (.invokevirtual 89, 3) := by decide +kernel
theorem dX1_readFelt_121 : decode cX1_readFelt 121 = .ok (.aload_n 0, 1) := by decide +kernel
theorem dX1_readFelt_122 : decode cX1_readFelt 122 = .ok (.getfield 15, 3) := by decide +kernel
theorem dX1_readFelt_125 : decode cX1_readFelt 125 = .ok (.bipush 9, 2) := by decide +kernel
theorem dX1_readFelt_127 : decode cX1_readFelt 127 = .ok (.invokevirtual 102, 3) := by decide +kernel
theorem dX1_readFelt_130 : decode cX1_readFelt 130 = .ok (.ifCond .eq 16, 3) := by decide +kernel
theorem dX1_readFelt_133 : decode cX1_readFelt 133 = .ok (.aload_n 0, 1) := by decide +kernel
theorem dX1_readFelt_134 : decode cX1_readFelt 134 = .ok (.getfield 15, 3) := by decide +kernel
theorem dX1_readFelt_137 : decode cX1_readFelt 137 = .ok (.iconst 1, 1) := by decide +kernel
theorem dX1_readFelt_138 : decode cX1_readFelt 138 = .ok (.bipush 99, 2) := by decide +kernel
theorem dX1_readFelt_140 : decode cX1_readFelt 140 = .ok (.invokevirtual 105, 3) := by decide +kernel
theorem dX1_readFelt_143 : decode cX1_readFelt 143 = .ok (.goto 4, 3) := by decide +kernel
theorem dX1_readFelt_146 : decode cX1_readFelt 146 = .ok (.iconst (-1), 1) := by decide +kernel
theorem dX1_readFelt_147 : decode cX1_readFelt 147 = .ok (.istore_n 3, 1) := by decide +kernel
theorem dX1_readFelt_148 : decode cX1_readFelt 148 = .ok (.iload_n 3, 1) := by decide +kernel
theorem dX1_readFelt_149 : decode cX1_readFelt 149 = .ok (.iconst (-1), 1) := by decide +kernel
theorem dX1_readFelt_150 : decode cX1_readFelt 150 = .ok (.if_icmp .ne 5, 3) := by decide +kernel
theorem dX1_readFelt_153 : decode cX1_readFelt 153 = .ok (.iconst 0, 1) := by decide +kernel
theorem dX1_readFelt_154 : decode cX1_readFelt 154 = .ok (.ireturn, 1) := by decide +kernel
theorem dX1_readFelt_155 : decode cX1_readFelt 155 = .ok (.aload_n 0, 1) := by decide +kernel
theorem dX1_readFelt_156 : decode cX1_readFelt 156 = .ok (.getfield 19, 3) := by decide +kernel
theorem dX1_readFelt_159 : decode cX1_readFelt 159 = .ok (.getfield 141, 3) := by decide +kernel
theorem dX1_readFelt_162 : decode cX1_readFelt 162 = .ok (.iload_n 1, 1) := by decide +kernel
theorem dX1_readFelt_163 : decode cX1_readFelt 163 = .ok (.dup2, 1) := by decide +kernel
theorem dX1_readFelt_164 : decode cX1_readFelt 164 = .ok (.laload, 1) := by decide +kernel
theorem dX1_readFelt_165 : decode cX1_readFelt 165 = .ok (.iload_n 2, 1) := by decide +kernel
theorem dX1_readFelt_166 : decode cX1_readFelt 166 = .ok (.iload_n 3, 1) := by decide +kernel
theorem dX1_readFelt_167 : decode cX1_readFelt 167 = .ok (.invokestatic 149, 3) := by decide +kernel
theorem dX1_readFelt_170 : decode cX1_readFelt 170 = .ok (.lor, 1) := by decide +kernel
theorem dX1_readFelt_171 : decode cX1_readFelt 171 = .ok (.lastore, 1) := by decide +kernel
theorem dX1_readFelt_172 : decode cX1_readFelt 172 = .ok (.iconst 1, 1) := by decide +kernel
theorem dX1_readFelt_173 : decode cX1_readFelt 173 = .ok (.ireturn, 1) := by decide +kernel
theorem dX5_begin_0 : decode cX5_begin 0 = .ok (.aload_n 0, 1) := by decide +kernel
theorem dX5_begin_1 : decode cX5_begin 1 = .ok (.aload_n 1, 1) := by decide +kernel
theorem dX5_begin_2 : decode cX5_begin 2 = .ok (.putfield 23, 3) := by decide +kernel
theorem dX5_begin_5 : decode cX5_begin 5 = .ok (.aload_n 0, 1) := by decide +kernel
theorem dX5_begin_6 : decode cX5_begin 6 = .ok (.iload_n 2, 1) := by decide +kernel
theorem dX5_begin_7 : decode cX5_begin 7 = .ok (.putfield 9, 3) := by decide +kernel
theorem dX5_begin_10 : decode cX5_begin 10 = .ok (.aload_n 0, 1) := by decide +kernel
theorem dX5_begin_11 : decode cX5_begin 11 = .ok (.iconst 0, 1) := by decide +kernel
theorem dX5_begin_12 : decode cX5_begin 12 = .ok (.putfield 15, 3) := by decide +kernel
theorem dX5_begin_15 : decode cX5_begin 15 = .ok (.return_, 1) := by decide +kernel
theorem dX10_takeOpening_0 : decode cX10_takeOpening 0 = .ok (.iload_n 1, 1) := by decide +kernel
theorem dX10_takeOpening_1 : decode cX10_takeOpening 1 = .ok (.bipush 6, 2) := by decide +kernel
theorem dX10_takeOpening_3 : decode cX10_takeOpening 3 = .ok (.if_icmp .lt 13, 3) := by decide +kernel
theorem dX10_takeOpening_6 : decode cX10_takeOpening 6 = .ok (.aload_n 0, 1) := by decide +kernel
theorem dX10_takeOpening_7 : decode cX10_takeOpening 7 = .ok (.iconst 4, 1) := by decide +kernel
theorem dX10_takeOpening_8 : decode cX10_takeOpening 8 = .ok (.aload_n 0, 1) := by decide +kernel
theorem dX10_takeOpening_9 : decode cX10_takeOpening 9 = .ok (.getfield 31, 3) := by decide +kernel
theorem dX10_takeOpening_12 : decode cX10_takeOpening 12 = .ok (.invokevirtual 90, 3) := by decide +kernel
theorem dX10_takeOpening_15 : decode cX10_takeOpening 15 = .ok (.ireturn, 1) := by decide +kernel
theorem dX10_takeOpening_16 : decode cX10_takeOpening 16 = .ok (.aload_n 0, 1) := by decide +kernel
theorem dX10_takeOpening_17 : decode cX10_takeOpening 17 = .ok (.invokevirtual 71, 3) := by decide +kernel
theorem dX10_takeOpening_20 : decode cX10_takeOpening 20 = .ok (.iconst 1, 1) := by decide +kernel
theorem dX10_takeOpening_21 : decode cX10_takeOpening 21 = .ok (.ireturn, 1) := by decide +kernel
theorem dX10_isSign_0 : decode cX10_isSign 0 = .ok (.aload_n 0, 1) := by decide +kernel
theorem dX10_isSign_1 : decode cX10_isSign 1 = .ok (.getfield 28, 3) := by decide +kernel
theorem dX10_isSign_4 : decode cX10_isSign 4 = .ok (.sipush 256, 3) := by decide +kernel
theorem dX10_isSign_7 : decode cX10_isSign 7 = .ok (.iload_n 1, 1) := by decide +kernel
theorem dX10_isSign_8 : decode cX10_isSign 8 = .ok (.iadd, 1) := by decide +kernel
theorem dX10_isSign_9 : decode cX10_isSign 9 = .ok (.if_icmp .ne 7, 3) := by decide +kernel
theorem dX10_isSign_12 : decode cX10_isSign 12 = .ok (.iconst 1, 1) := by decide +kernel
theorem dX10_isSign_13 : decode cX10_isSign 13 = .ok (.goto 4, 3) := by decide +kernel
theorem dX10_isSign_16 : decode cX10_isSign 16 = .ok (.iconst 0, 1) := by decide +kernel
theorem dX10_isSign_17 : decode cX10_isSign 17 = .ok (.ireturn, 1) := by decide +kernel
theorem dX10_takeSign_0 : decode cX10_takeSign 0 = .ok (.aload_n 0, 1) := by decide +kernel
theorem dX10_takeSign_1 : decode cX10_takeSign 1 = .ok (.getfield 28, 3) := by decide +kernel
theorem dX10_takeSign_4 : decode cX10_takeSign 4 = .ok (.sipush 256, 3) := by decide +kernel
theorem dX10_takeSign_7 : decode cX10_takeSign 7 = .ok (.iload_n 1, 1) := by decide +kernel
theorem dX10_takeSign_8 : decode cX10_takeSign 8 = .ok (.iadd, 1) := by decide +kernel
theorem dX10_takeSign_9 : decode cX10_takeSign 9 = .ok (.if_icmp .eq 8, 3) := by decide +kernel
theorem dX10_takeSign_12 : decode cX10_takeSign 12 = .ok (.aload_n 0, 1) := by decide +kernel
theorem dX10_takeSign_13 : decode cX10_takeSign 13 = .ok (.invokevirtual 86, 3) := by decide +kernel
theorem dX10_takeSign_16 : decode cX10_takeSign 16 = .ok (.ireturn, 1) := by decide +kernel
theorem dX10_takeSign_17 : decode cX10_takeSign 17 = .ok (.aload_n 0, 1) := by decide +kernel
theorem dX10_takeSign_18 : decode cX10_takeSign 18 = .ok (.invokevirtual 71, 3) := by decide +kernel
theorem dX10_takeSign_21 : decode cX10_takeSign 21 = .ok (.iconst 1, 1) := by decide +kernel
theorem dX10_takeSign_22 : decode cX10_takeSign 22 = .ok (.ireturn, 1) := by decide +kernel
theorem dX5_valueHere_0 : decode cX5_valueHere 0 = .ok (.aload_n 0, 1) := by decide +kernel
theorem dX5_valueHere_1 : decode cX5_valueHere 1 = .ok (.getfield 19, 3) := by decide +kernel
theorem dX5_valueHere_4 : decode cX5_valueHere 4 = .ok (.getfield 31, 3) := by decide +kernel
theorem dX5_valueHere_7 : decode cX5_valueHere 7 = .ok (.tableswitch 170 1 17 #[83, 81, 140, 170, 170, 103, 170, 170, 170, 170, 170, 170, 170, 89, 86, 117, 155], 81) := by decide +kernel
theorem dX5_valueHere_88 : decode cX5_valueHere 88 = .ok (.iconst (-1), 1) := by decide +kernel
theorem dX5_valueHere_89 : decode cX5_valueHere 89 = .ok (.ireturn, 1) := by decide +kernel
theorem dX5_valueHere_90 : decode cX5_valueHere 90 = .ok (.bipush (-2), 2) := by decide +kernel
theorem dX5_valueHere_92 : decode cX5_valueHere 92 = .ok (.ireturn, 1) := by decide +kernel
theorem dX5_valueHere_93 : decode cX5_valueHere 93 = .ok (.bipush (-3), 2) := by decide +kernel
theorem dX5_valueHere_95 : decode cX5_valueHere 95 = .ok (.ireturn, 1) := by decide +kernel
theorem dX5_valueHere_96 : decode cX5_valueHere 96 = .ok (.aload_n 0, 1) := by decide +kernel
theorem dX5_valueHere_97 : decode cX5_valueHere 97 = .ok (.getfield 9, 3) := by decide +kernel
theorem dX5_valueHere_100 : decode cX5_valueHere 100 = .ok (.ifCond .ne 8, 3) := by decide +kernel
theorem dX5_valueHere_103 : decode cX5_valueHere 103 = .ok (.bipush (-4), 2) := by decide +kernel
theorem dX5_valueHere_105 : decode cX5_valueHere 105 = .ok (.goto 4, 3) := by decide +kernel
theorem dX5_valueHere_108 : decode cX5_valueHere 108 = .ok (.iconst 0, 1) := by decide +kernel
theorem dX5_valueHere_109 : decode cX5_valueHere 109 = .ok (.ireturn, 1) := by decide +kernel
theorem dX5_valueHere_110 : decode cX5_valueHere 110 = .ok (.aload_n 0, 1) := by decide +kernel
theorem dX5_valueHere_111 : decode cX5_valueHere 111 = .ok (.getfield 9, 3) := by decide +kernel
theorem dX5_valueHere_114 : decode cX5_valueHere 114 = .ok (.ifCond .ne 8, 3) := by decide +kernel
theorem dX5_valueHere_117 : decode cX5_valueHere 117 = .ok (.bipush (-5), 2) := by decide +kernel
theorem dX5_valueHere_119 : decode cX5_valueHere 119 = .ok (.goto 4, 3) := by decide +kernel
theorem dX5_valueHere_122 : decode cX5_valueHere 122 = .ok (.iconst 0, 1) := by decide +kernel
theorem dX5_valueHere_123 : decode cX5_valueHere 123 = .ok (.ireturn, 1) := by decide +kernel
theorem dX5_valueHere_124 : decode cX5_valueHere 124 = .ok (.aload_n 0, 1) := by decide +kernel
theorem dX5_valueHere_125 : decode cX5_valueHere 125 = .ok (.getfield 9, 3) := by decide +kernel
theorem dX5_valueHere_128 : decode cX5_valueHere 128 = .ok (.iconst 1, 1) := by decide +kernel
theorem dX5_valueHere_129 : decode cX5_valueHere 129 = .ok (.if_icmp .eq 11, 3) := by decide +kernel
theorem dX5_valueHere_132 : decode cX5_valueHere 132 = .ok (.aload_n 0, 1) := by decide +kernel
theorem dX5_valueHere_133 : decode cX5_valueHere 133 = .ok (.getfield 9, 3) := by decide +kernel
theorem dX5_valueHere_136 : decode cX5_valueHere 136 = .ok (.iconst 2, 1) := by decide +kernel
theorem dX5_valueHere_137 : decode cX5_valueHere 137 = .ok (.if_icmp .ne 8, 3) := by decide +kernel
theorem dX5_valueHere_140 : decode cX5_valueHere 140 = .ok (.bipush (-6), 2) := by decide +kernel
theorem dX5_valueHere_142 : decode cX5_valueHere 142 = .ok (.goto 4, 3) := by decide +kernel
theorem dX5_valueHere_145 : decode cX5_valueHere 145 = .ok (.iconst 0, 1) := by decide +kernel
theorem dX5_valueHere_146 : decode cX5_valueHere 146 = .ok (.ireturn, 1) := by decide +kernel
theorem dX5_valueHere_147 : decode cX5_valueHere 147 = .ok (.aload_n 0, 1) := by decide +kernel
theorem dX5_valueHere_148 : decode cX5_valueHere 148 = .ok (.getfield 9, 3) := by decide +kernel
theorem dX5_valueHere_151 : decode cX5_valueHere 151 = .ok (.iconst 2, 1) := by decide +kernel
theorem dX5_valueHere_152 : decode cX5_valueHere 152 = .ok (.if_icmp .ne 8, 3) := by decide +kernel
theorem dX5_valueHere_155 : decode cX5_valueHere 155 = .ok (.bipush (-7), 2) := by decide +kernel
theorem dX5_valueHere_157 : decode cX5_valueHere 157 = .ok (.goto 4, 3) := by decide +kernel
theorem dX5_valueHere_160 : decode cX5_valueHere 160 = .ok (.iconst 0, 1) := by decide +kernel
theorem dX5_valueHere_161 : decode cX5_valueHere 161 = .ok (.ireturn, 1) := by decide +kernel
theorem dX5_valueHere_162 : decode cX5_valueHere 162 = .ok (.aload_n 0, 1) := by decide +kernel
theorem dX5_valueHere_163 : decode cX5_valueHere 163 = .ok (.getfield 9, 3) := by decide +kernel
theorem dX5_valueHere_166 : decode cX5_valueHere 166 = .ok (.iconst 3, 1) := by decide +kernel
theorem dX5_valueHere_167 : decode cX5_valueHere 167 = .ok (.if_icmp .ne 8, 3) := by decide +kernel
theorem dX5_valueHere_170 : decode cX5_valueHere 170 = .ok (.bipush (-8), 2) := by decide +kernel
theorem dX5_valueHere_172 : decode cX5_valueHere 172 = .ok (.goto 4, 3) := by decide +kernel
theorem dX5_valueHere_175 : decode cX5_valueHere 175 = .ok (.iconst 0, 1) := by decide +kernel
theorem dX5_valueHere_176 : decode cX5_valueHere 176 = .ok (.ireturn, 1) := by decide +kernel
theorem dX5_valueHere_177 : decode cX5_valueHere 177 = .ok (.iconst 0, 1) := by decide +kernel
theorem dX5_valueHere_178 : decode cX5_valueHere 178 = .ok (.ireturn, 1) := by decide +kernel
theorem dX5_readOf_0 : decode cX5_readOf 0 = .ok (.aload_n 0, 1) := by decide +kernel
theorem dX5_readOf_1 : decode cX5_readOf 1 = .ok (.getfield 9, 3) := by decide +kernel
theorem dX5_readOf_4 : decode cX5_readOf 4 = .ok (.iconst 3, 1) := by decide +kernel
theorem dX5_readOf_5 : decode cX5_readOf 5 = .ok (.if_icmp .eq 11, 3) := by decide +kernel
theorem dX5_readOf_8 : decode cX5_readOf 8 = .ok (.aload_n 0, 1) := by decide +kernel
theorem dX5_readOf_9 : decode cX5_readOf 9 = .ok (.getfield 19, 3) := by decide +kernel
theorem dX5_readOf_12 : decode cX5_readOf 12 = .ok (.invokevirtual 63, 3) := by decide +kernel
theorem dX5_readOf_15 : decode cX5_readOf 15 = .ok (.ireturn, 1) := by decide +kernel
theorem dX5_readOf_16 : decode cX5_readOf 16 = .ok (.aload_n 0, 1) := by decide +kernel
theorem dX5_readOf_17 : decode cX5_readOf 17 = .ok (.getfield 19, 3) := by decide +kernel
theorem dX5_readOf_20 : decode cX5_readOf 20 = .ok (.iload_n 1, 1) := by decide +kernel
theorem dX5_readOf_21 : decode cX5_readOf 21 = .ok (.invokevirtual 47, 3) := by decide +kernel
theorem dX5_readOf_24 : decode cX5_readOf 24 = .ok (.ifCond .eq 28, 3) := by decide +kernel
theorem dX5_readOf_27 : decode cX5_readOf 27 = .ok (.aload_n 0, 1) := by decide +kernel
theorem dX5_readOf_28 : decode cX5_readOf 28 = .ok (.iload_n 1, 1) := by decide +kernel
theorem dX5_readOf_29 : decode cX5_readOf 29 = .ok (.iconst 1, 1) := by decide +kernel
theorem dX5_readOf_30 : decode cX5_readOf 30 = .ok (.iadd, 1) := by decide +kernel
theorem dX5_readOf_31 : decode cX5_readOf 31 = .ok (.invokevirtual 70, 3) := by decide +kernel
theorem dX5_readOf_34 : decode cX5_readOf 34 = .ok (.ifCond .eq 18, 3) := by decide +kernel
theorem dX5_readOf_37 : decode cX5_readOf 37 = .ok (.aload_n 0, 1) := by decide +kernel
theorem dX5_readOf_38 : decode cX5_readOf 38 = .ok (.getfield 23, 3) := by decide +kernel
theorem dX5_readOf_41 : decode cX5_readOf 41 = .ok (.iload_n 2, 1) := by decide +kernel
theorem dX5_readOf_42 : decode cX5_readOf 42 = .ok (.invokevirtual 41, 3) := by decide +kernel
theorem dX5_readOf_45 : decode cX5_readOf 45 = .ok (.ifCond .eq 7, 3) := by decide +kernel
theorem dX5_readOf_48 : decode cX5_readOf 48 = .ok (.iconst 1, 1) := by decide +kernel
theorem dX5_readOf_49 : decode cX5_readOf 49 = .ok (.goto 4, 3) := by decide +kernel
theorem dX5_readOf_52 : decode cX5_readOf 52 = .ok (.iconst 0, 1) := by decide +kernel
theorem dX5_readOf_53 : decode cX5_readOf 53 = .ok (.ireturn, 1) := by decide +kernel
theorem dX5_readPair_0 : decode cX5_readPair 0 = .ok (.aload_n 0, 1) := by decide +kernel
theorem dX5_readPair_1 : decode cX5_readPair 1 = .ok (.getfield 19, 3) := by decide +kernel
theorem dX5_readPair_4 : decode cX5_readPair 4 = .ok (.invokevirtual 36, 3) := by decide +kernel
theorem dX5_readPair_7 : decode cX5_readPair 7 = .ok (.aload_n 0, 1) := by decide +kernel
theorem dX5_readPair_8 : decode cX5_readPair 8 = .ok (.getfield 19, 3) := by decide +kernel
theorem dX5_readPair_11 : decode cX5_readPair 11 = .ok (.bipush 40, 2) := by decide +kernel
theorem dX5_readPair_13 : decode cX5_readPair 13 = .ok (.invokevirtual 50, 3) := by decide +kernel
theorem dX5_readPair_16 : decode cX5_readPair 16 = .ok (.ifCond .ne 11, 3) := by decide +kernel
theorem dX5_readPair_19 : decode cX5_readPair 19 = .ok (.aload_n 0, 1) := by decide +kernel
theorem dX5_readPair_20 : decode cX5_readPair 20 = .ok (.getfield 19, 3) := by decide +kernel
theorem dX5_readPair_23 : decode cX5_readPair 23 = .ok (.invokevirtual 63, 3) := by decide +kernel
theorem dX5_readPair_26 : decode cX5_readPair 26 = .ok (.ireturn, 1) := by decide +kernel
theorem dX5_readPair_27 : decode cX5_readPair 27 = .ok (.aload_n 0, 1) := by decide +kernel
theorem dX5_readPair_28 : decode cX5_readPair 28 = .ok (.getfield 19, 3) := by decide +kernel
theorem dX5_readPair_31 : decode cX5_readPair 31 = .ok (.iload_n 1, 1) := by decide +kernel
theorem dX5_readPair_32 : decode cX5_readPair 32 = .ok (.invokevirtual 47, 3) := by decide +kernel
theorem dX5_readPair_35 : decode cX5_readPair 35 = .ok (.ifCond .eq 62, 3) := by decide +kernel
theorem dX5_readPair_38 : decode cX5_readPair 38 = .ok (.aload_n 0, 1) := by decide +kernel
theorem dX5_readPair_39 : decode cX5_readPair 39 = .ok (.iload_n 1, 1) := by decide +kernel
theorem dX5_readPair_40 : decode cX5_readPair 40 = .ok (.iconst 1, 1) := by decide +kernel
theorem dX5_readPair_41 : decode cX5_readPair 41 = .ok (.iadd, 1) := by decide +kernel
theorem dX5_readPair_42 : decode cX5_readPair 42 = .ok (.invokevirtual 60, 3) := by decide +kernel
theorem dX5_readPair_45 : decode cX5_readPair 45 = .ok (.ifCond .eq 52, 3) := by decide +kernel
theorem dX5_readPair_48 : decode cX5_readPair 48 = .ok (.aload_n 0, 1) := by decide +kernel
theorem dX5_readPair_49 : decode cX5_readPair 49 = .ok (.getfield 19, 3) := by decide +kernel
theorem dX5_readPair_52 : decode cX5_readPair 52 = .ok (.bipush 44, 2) := by decide +kernel
theorem dX5_readPair_54 : decode cX5_readPair 54 = .ok (.invokevirtual 57, 3) := by decide +kernel
theorem dX5_readPair_57 : decode cX5_readPair 57 = .ok (.ifCond .eq 40, 3) := by decide +kernel
theorem dX5_readPair_60 : decode cX5_readPair 60 = .ok (.aload_n 0, 1) := by decide +kernel
theorem dX5_readPair_61 : decode cX5_readPair 61 = .ok (.iload_n 1, 1) := by decide +kernel
theorem dX5_readPair_62 : decode cX5_readPair 62 = .ok (.iconst 1, 1) := by decide +kernel
theorem dX5_readPair_63 : decode cX5_readPair 63 = .ok (.iadd, 1) := by decide +kernel
theorem dX5_readPair_64 : decode cX5_readPair 64 = .ok (.invokevirtual 60, 3) := by decide +kernel
theorem dX5_readPair_67 : decode cX5_readPair 67 = .ok (.ifCond .eq 30, 3) := by decide +kernel
theorem dX5_readPair_70 : decode cX5_readPair 70 = .ok (.aload_n 0, 1) := by decide +kernel
theorem dX5_readPair_71 : decode cX5_readPair 71 = .ok (.getfield 19, 3) := by decide +kernel
theorem dX5_readPair_74 : decode cX5_readPair 74 = .ok (.bipush 41, 2) := by decide +kernel
theorem dX5_readPair_76 : decode cX5_readPair 76 = .ok (.invokevirtual 57, 3) := by decide +kernel
theorem dX5_readPair_79 : decode cX5_readPair 79 = .ok (.ifCond .eq 18, 3) := by decide +kernel
theorem dX5_readPair_82 : decode cX5_readPair 82 = .ok (.aload_n 0, 1) := by decide +kernel
theorem dX5_readPair_83 : decode cX5_readPair 83 = .ok (.getfield 23, 3) := by decide +kernel
theorem dX5_readPair_86 : decode cX5_readPair 86 = .ok (.iload_n 2, 1) := by decide +kernel
theorem dX5_readPair_87 : decode cX5_readPair 87 = .ok (.invokevirtual 41, 3) := by decide +kernel
theorem dX5_readPair_90 : decode cX5_readPair 90 = .ok (.ifCond .eq 7, 3) := by decide +kernel
theorem dX5_readPair_93 : decode cX5_readPair 93 = .ok (.iconst 1, 1) := by decide +kernel
theorem dX5_readPair_94 : decode cX5_readPair 94 = .ok (.goto 4, 3) := by decide +kernel
theorem dX5_readPair_97 : decode cX5_readPair 97 = .ok (.iconst 0, 1) := by decide +kernel
theorem dX5_readPair_98 : decode cX5_readPair 98 = .ok (.ireturn, 1) := by decide +kernel
theorem dX5_readPart_0 : decode cX5_readPart 0 = .ok (.aload_n 0, 1) := by decide +kernel
theorem dX5_readPart_1 : decode cX5_readPart 1 = .ok (.getfield 19, 3) := by decide +kernel
theorem dX5_readPart_4 : decode cX5_readPart 4 = .ok (.getfield 31, 3) := by decide +kernel
theorem dX5_readPart_7 : decode cX5_readPart 7 = .ok (.lookupswitch 162 #[(18, 146), (19, 154), (24, 130), (25, 138), (33, 57), (296, 91)], 57) := by decide +kernel
theorem dX5_readPart_64 : decode cX5_readPart 64 = .ok (.aload_n 0, 1) := by decide +kernel
theorem dX5_readPart_65 : decode cX5_readPart 65 = .ok (.getfield 19, 3) := by decide +kernel
theorem dX5_readPart_68 : decode cX5_readPart 68 = .ok (.iconst 0, 1) := by decide +kernel
theorem dX5_readPart_69 : decode cX5_readPart 69 = .ok (.sipush 9999, 3) := by decide +kernel
theorem dX5_readPart_72 : decode cX5_readPart 72 = .ok (.invokevirtual 73, 3) := by decide +kernel
theorem dX5_readPart_75 : decode cX5_readPart 75 = .ok (.istore_n 2, 1) := by decide +kernel
theorem dX5_readPart_76 : decode cX5_readPart 76 = .ok (.iload_n 2, 1) := by decide +kernel
theorem dX5_readPart_77 : decode cX5_readPart 77 = .ok (.iconst (-1), 1) := by decide +kernel
theorem dX5_readPart_78 : decode cX5_readPart 78 = .ok (.if_icmp .eq 18, 3) := by decide +kernel
theorem dX5_readPart_81 : decode cX5_readPart 81 = .ok (.aload_n 0, 1) := by decide +kernel
theorem dX5_readPart_82 : decode cX5_readPart 82 = .ok (.getfield 23, 3) := by decide +kernel
theorem dX5_readPart_85 : decode cX5_readPart 85 = .ok (.iload_n 2, 1) := by decide +kernel
theorem dX5_readPart_86 : decode cX5_readPart 86 = .ok (.invokevirtual 41, 3) := by decide +kernel
theorem dX5_readPart_89 : decode cX5_readPart 89 = .ok (.ifCond .eq 7, 3) := by decide +kernel
theorem dX5_readPart_92 : decode cX5_readPart 92 = .ok (.iconst 1, 1) := by decide +kernel
theorem dX5_readPart_93 : decode cX5_readPart 93 = .ok (.goto 4, 3) := by decide +kernel
theorem dX5_readPart_96 : decode cX5_readPart 96 = .ok (.iconst 0, 1) := by decide +kernel
theorem dX5_readPart_97 : decode cX5_readPart 97 = .ok (.ireturn, 1) := by decide +kernel
theorem dX5_readPart_98 : decode cX5_readPart 98 = .ok (.aload_n 0, 1) := by decide +kernel
theorem dX5_readPart_99 : decode cX5_readPart 99 = .ok (.getfield 19, 3) := by decide +kernel
theorem dX5_readPart_102 : decode cX5_readPart 102 = .ok (.iload_n 1, 1) := by decide +kernel
theorem dX5_readPart_103 : decode cX5_readPart 103 = .ok (.invokevirtual 47, 3) := by decide +kernel
theorem dX5_readPart_106 : decode cX5_readPart 106 = .ok (.ifCond .eq 29, 3) := by decide +kernel
theorem dX5_readPart_109 : decode cX5_readPart 109 = .ok (.aload_n 0, 1) := by decide +kernel
theorem dX5_readPart_110 : decode cX5_readPart 110 = .ok (.iload_n 1, 1) := by decide +kernel
theorem dX5_readPart_111 : decode cX5_readPart 111 = .ok (.iconst 1, 1) := by decide +kernel
theorem dX5_readPart_112 : decode cX5_readPart 112 = .ok (.iadd, 1) := by decide +kernel
theorem dX5_readPart_113 : decode cX5_readPart 113 = .ok (.invokevirtual 60, 3) := by decide +kernel
theorem dX5_readPart_116 : decode cX5_readPart 116 = .ok (.ifCond .eq 19, 3) := by decide +kernel
theorem dX5_readPart_119 : decode cX5_readPart 119 = .ok (.aload_n 0, 1) := by decide +kernel
theorem dX5_readPart_120 : decode cX5_readPart 120 = .ok (.getfield 19, 3) := by decide +kernel
theorem dX5_readPart_123 : decode cX5_readPart 123 = .ok (.bipush 41, 2) := by decide +kernel
theorem dX5_readPart_125 : decode cX5_readPart 125 = .ok (.invokevirtual 57, 3) := by decide +kernel
theorem dX5_readPart_128 : decode cX5_readPart 128 = .ok (.ifCond .eq 7, 3) := by decide +kernel
theorem dX5_readPart_131 : decode cX5_readPart 131 = .ok (.iconst 1, 1) := by decide +kernel
theorem dX5_readPart_132 : decode cX5_readPart 132 = .ok (.goto 4, 3) := by decide +kernel
theorem dX5_readPart_135 : decode cX5_readPart 135 = .ok (.iconst 0, 1) := by decide +kernel
theorem dX5_readPart_136 : decode cX5_readPart 136 = .ok (.ireturn, 1) := by decide +kernel
theorem dX5_readPart_137 : decode cX5_readPart 137 = .ok (.aload_n 0, 1) := by decide +kernel
theorem dX5_readPart_138 : decode cX5_readPart 138 = .ok (.iload_n 1, 1) := by decide +kernel
theorem dX5_readPart_139 : decode cX5_readPart 139 = .ok (.bipush (-25), 2) := by decide +kernel
theorem dX5_readPart_141 : decode cX5_readPart 141 = .ok (.invokevirtual 77, 3) := by decide +kernel
theorem dX5_readPart_144 : decode cX5_readPart 144 = .ok (.ireturn, 1) := by decide +kernel
theorem dX5_readPart_145 : decode cX5_readPart 145 = .ok (.aload_n 0, 1) := by decide +kernel
theorem dX5_readPart_146 : decode cX5_readPart 146 = .ok (.iload_n 1, 1) := by decide +kernel
theorem dX5_readPart_147 : decode cX5_readPart 147 = .ok (.bipush (-26), 2) := by decide +kernel
theorem dX5_readPart_149 : decode cX5_readPart 149 = .ok (.invokevirtual 77, 3) := by decide +kernel
theorem dX5_readPart_152 : decode cX5_readPart 152 = .ok (.ireturn, 1) := by decide +kernel
theorem dX5_readPart_153 : decode cX5_readPart 153 = .ok (.aload_n 0, 1) := by decide +kernel
theorem dX5_readPart_154 : decode cX5_readPart 154 = .ok (.iload_n 1, 1) := by decide +kernel
theorem dX5_readPart_155 : decode cX5_readPart 155 = .ok (.bipush (-12), 2) := by decide +kernel
theorem dX5_readPart_157 : decode cX5_readPart 157 = .ok (.invokevirtual 81, 3) := by decide +kernel
theorem dX5_readPart_160 : decode cX5_readPart 160 = .ok (.ireturn, 1) := by decide +kernel
theorem dX5_readPart_161 : decode cX5_readPart 161 = .ok (.aload_n 0, 1) := by decide +kernel
theorem dX5_readPart_162 : decode cX5_readPart 162 = .ok (.iload_n 1, 1) := by decide +kernel
theorem dX5_readPart_163 : decode cX5_readPart 163 = .ok (.bipush (-13), 2) := by decide +kernel
theorem dX5_readPart_165 : decode cX5_readPart 165 = .ok (.invokevirtual 81, 3) := by decide +kernel
theorem dX5_readPart_168 : decode cX5_readPart 168 = .ok (.ireturn, 1) := by decide +kernel
theorem dX5_readPart_169 : decode cX5_readPart 169 = .ok (.aload_n 0, 1) := by decide +kernel
theorem dX5_readPart_170 : decode cX5_readPart 170 = .ok (.invokevirtual 84, 3) := by decide +kernel
theorem dX5_readPart_173 : decode cX5_readPart 173 = .ok (.istore_n 2, 1) := by decide +kernel
theorem dX5_readPart_174 : decode cX5_readPart 174 = .ok (.iload_n 2, 1) := by decide +kernel
theorem dX5_readPart_175 : decode cX5_readPart 175 = .ok (.ifCond .ne 11, 3) := by decide +kernel
theorem dX5_readPart_178 : decode cX5_readPart 178 = .ok (.aload_n 0, 1) := by decide +kernel
theorem dX5_readPart_179 : decode cX5_readPart 179 = .ok (.getfield 19, 3) := by decide +kernel
theorem dX5_readPart_182 : decode cX5_readPart 182 = .ok (.invokevirtual 63, 3) := by decide +kernel
theorem dX5_readPart_185 : decode cX5_readPart 185 = .ok (.ireturn, 1) := by decide +kernel
theorem dX5_readPart_186 : decode cX5_readPart 186 = .ok (.aload_n 0, 1) := by decide +kernel
theorem dX5_readPart_187 : decode cX5_readPart 187 = .ok (.dup, 1) := by decide +kernel
theorem dX5_readPart_188 : decode cX5_readPart 188 = .ok (.getfield 15, 3) := by decide +kernel
theorem dX5_readPart_191 : decode cX5_readPart 191 = .ok (.iload_n 2, 1) := by decide +kernel
theorem dX5_readPart_192 : decode cX5_readPart 192 = .ok (.bipush (-3), 2) := by decide +kernel
theorem dX5_readPart_194 : decode cX5_readPart 194 = .ok (.if_icmp .ne 7, 3) := by decide +kernel
theorem dX5_readPart_197 : decode cX5_readPart 197 = .ok (.iconst 1, 1) := by decide +kernel
theorem dX5_readPart_198 : decode cX5_readPart 198 = .ok (.goto 4, 3) := by decide +kernel
theorem dX5_readPart_201 : decode cX5_readPart 201 = .ok (.iconst 0, 1) := by decide +kernel
theorem dX5_readPart_202 : decode cX5_readPart 202 = .ok (.ior, 1) := by decide +kernel
theorem dX5_readPart_203 : decode cX5_readPart 203 = .ok (.putfield 15, 3) := by decide +kernel
theorem dX5_readPart_206 : decode cX5_readPart 206 = .ok (.aload_n 0, 1) := by decide +kernel
theorem dX5_readPart_207 : decode cX5_readPart 207 = .ok (.getfield 19, 3) := by decide +kernel
theorem dX5_readPart_210 : decode cX5_readPart 210 = .ok (.invokevirtual 36, 3) := by decide +kernel
theorem dX5_readPart_213 : decode cX5_readPart 213 = .ok (.aload_n 0, 1) := by decide +kernel
theorem dX5_readPart_214 : decode cX5_readPart 214 = .ok (.getfield 23, 3) := by decide +kernel
theorem dX5_readPart_217 : decode cX5_readPart 217 = .ok (.iload_n 2, 1) := by decide +kernel
theorem dX5_readPart_218 : decode cX5_readPart 218 = .ok (.invokevirtual 41, 3) := by decide +kernel
theorem dX5_readPart_221 : decode cX5_readPart 221 = .ok (.ireturn, 1) := by decide +kernel
theorem dX5_readProduct_0 : decode cX5_readProduct 0 = .ok (.aload_n 0, 1) := by decide +kernel
theorem dX5_readProduct_1 : decode cX5_readProduct 1 = .ok (.iload_n 1, 1) := by decide +kernel
theorem dX5_readProduct_2 : decode cX5_readProduct 2 = .ok (.invokevirtual 70, 3) := by decide +kernel
theorem dX5_readProduct_5 : decode cX5_readProduct 5 = .ok (.ifCond .ne 5, 3) := by decide +kernel
theorem dX5_readProduct_8 : decode cX5_readProduct 8 = .ok (.iconst 0, 1) := by decide +kernel
theorem dX5_readProduct_9 : decode cX5_readProduct 9 = .ok (.ireturn, 1) := by decide +kernel
theorem dX5_readProduct_10 : decode cX5_readProduct 10 = .ok (.iconst 0, 1) := by decide +kernel
theorem dX5_readProduct_11 : decode cX5_readProduct 11 = .ok (.istore_n 2, 1) := by decide +kernel
theorem dX5_readProduct_12 : decode cX5_readProduct 12 = .ok (.iload_n 2, 1) := by decide +kernel
theorem dX5_readProduct_13 : decode cX5_readProduct 13 = .ok (.sipush 1600, 3) := by decide +kernel
theorem dX5_readProduct_16 : decode cX5_readProduct 16 = .ok (.if_icmp .ge 81, 3) := by decide +kernel
theorem dX5_readProduct_19 : decode cX5_readProduct 19 = .ok (.aload_n 0, 1) := by decide +kernel
theorem dX5_readProduct_20 : decode cX5_readProduct 20 = .ok (.getfield 19, 3) := by decide +kernel
theorem dX5_readProduct_23 : decode cX5_readProduct 23 = .ok (.bipush 42, 2) := by decide +kernel
theorem dX5_readProduct_25 : decode cX5_readProduct 25 = .ok (.invokevirtual 50, 3) := by decide +kernel
theorem dX5_readProduct_28 : decode cX5_readProduct 28 = .ok (.ifCond .ne 15, 3) := by decide +kernel
theorem dX5_readProduct_31 : decode cX5_readProduct 31 = .ok (.aload_n 0, 1) := by decide +kernel
theorem dX5_readProduct_32 : decode cX5_readProduct 32 = .ok (.getfield 19, 3) := by decide +kernel
theorem dX5_readProduct_35 : decode cX5_readProduct 35 = .ok (.bipush 47, 2) := by decide +kernel
theorem dX5_readProduct_37 : decode cX5_readProduct 37 = .ok (.invokevirtual 50, 3) := by decide +kernel
theorem dX5_readProduct_40 : decode cX5_readProduct 40 = .ok (.ifCond .eq 57, 3) := by decide +kernel
theorem dX5_readProduct_43 : decode cX5_readProduct 43 = .ok (.aload_n 0, 1) := by decide +kernel
theorem dX5_readProduct_44 : decode cX5_readProduct 44 = .ok (.getfield 19, 3) := by decide +kernel
theorem dX5_readProduct_47 : decode cX5_readProduct 47 = .ok (.bipush 42, 2) := by decide +kernel
theorem dX5_readProduct_49 : decode cX5_readProduct 49 = .ok (.invokevirtual 50, 3) := by decide +kernel
theorem dX5_readProduct_52 : decode cX5_readProduct 52 = .ok (.ifCond .eq 8, 3) := by decide +kernel
theorem dX5_readProduct_55 : decode cX5_readProduct 55 = .ok (.bipush (-23), 2) := by decide +kernel
theorem dX5_readProduct_57 : decode cX5_readProduct 57 = .ok (.goto 5, 3) := by decide +kernel
theorem dX5_readProduct_60 : decode cX5_readProduct 60 = .ok (.bipush (-24), 2) := by decide +kernel
theorem dX5_readProduct_62 : decode cX5_readProduct 62 = .ok (.istore_n 3, 1) := by decide +kernel
theorem dX5_readProduct_63 : decode cX5_readProduct 63 = .ok (.aload_n 0, 1) := by decide +kernel
theorem dX5_readProduct_64 : decode cX5_readProduct 64 = .ok (.getfield 19, 3) := by decide +kernel
theorem dX5_readProduct_67 : decode cX5_readProduct 67 = .ok (.invokevirtual 36, 3) := by decide +kernel
theorem dX5_readProduct_70 : decode cX5_readProduct 70 = .ok (.aload_n 0, 1) := by decide +kernel
theorem dX5_readProduct_71 : decode cX5_readProduct 71 = .ok (.iload_n 1, 1) := by decide +kernel
theorem dX5_readProduct_72 : decode cX5_readProduct 72 = .ok (.invokevirtual 70, 3) := by decide +kernel
theorem dX5_readProduct_75 : decode cX5_readProduct 75 = .ok (.ifCond .eq 14, 3) := by decide +kernel
theorem dX5_readProduct_78 : decode cX5_readProduct 78 = .ok (.aload_n 0, 1) := by decide +kernel
theorem dX5_readProduct_79 : decode cX5_readProduct 79 = .ok (.getfield 23, 3) := by decide +kernel
theorem dX5_readProduct_82 : decode cX5_readProduct 82 = .ok (.iload_n 3, 1) := by decide +kernel
theorem dX5_readProduct_83 : decode cX5_readProduct 83 = .ok (.invokevirtual 41, 3) := by decide +kernel
theorem dX5_readProduct_86 : decode cX5_readProduct 86 = .ok (.ifCond .ne 5, 3) := by decide +kernel
theorem dX5_readProduct_89 : decode cX5_readProduct 89 = .ok (.iconst 0, 1) := by decide +kernel
theorem dX5_readProduct_90 : decode cX5_readProduct 90 = .ok (.ireturn, 1) := by decide +kernel
theorem dX5_readProduct_91 : decode cX5_readProduct 91 = .ok (.iinc 2 1, 3) := by decide +kernel
theorem dX5_readProduct_94 : decode cX5_readProduct 94 = .ok (.goto (-82), 3) := by decide +kernel
theorem dX5_readProduct_97 : decode cX5_readProduct 97 = .ok (.iconst 1, 1) := by decide +kernel
theorem dX5_readProduct_98 : decode cX5_readProduct 98 = .ok (.ireturn, 1) := by decide +kernel
theorem dX5_readSum_0 : decode cX5_readSum 0 = .ok (.aload_n 0, 1) := by decide +kernel
theorem dX5_readSum_1 : decode cX5_readSum 1 = .ok (.iload_n 1, 1) := by decide +kernel
theorem dX5_readSum_2 : decode cX5_readSum 2 = .ok (.invokevirtual 67, 3) := by decide +kernel
theorem dX5_readSum_5 : decode cX5_readSum 5 = .ok (.ifCond .ne 5, 3) := by decide +kernel
theorem dX5_readSum_8 : decode cX5_readSum 8 = .ok (.iconst 0, 1) := by decide +kernel
theorem dX5_readSum_9 : decode cX5_readSum 9 = .ok (.ireturn, 1) := by decide +kernel
theorem dX5_readSum_10 : decode cX5_readSum 10 = .ok (.iconst 0, 1) := by decide +kernel
theorem dX5_readSum_11 : decode cX5_readSum 11 = .ok (.istore_n 2, 1) := by decide +kernel
theorem dX5_readSum_12 : decode cX5_readSum 12 = .ok (.iload_n 2, 1) := by decide +kernel
theorem dX5_readSum_13 : decode cX5_readSum 13 = .ok (.sipush 1600, 3) := by decide +kernel
theorem dX5_readSum_16 : decode cX5_readSum 16 = .ok (.if_icmp .ge 81, 3) := by decide +kernel
theorem dX5_readSum_19 : decode cX5_readSum 19 = .ok (.aload_n 0, 1) := by decide +kernel
theorem dX5_readSum_20 : decode cX5_readSum 20 = .ok (.getfield 19, 3) := by decide +kernel
theorem dX5_readSum_23 : decode cX5_readSum 23 = .ok (.bipush 43, 2) := by decide +kernel
theorem dX5_readSum_25 : decode cX5_readSum 25 = .ok (.invokevirtual 50, 3) := by decide +kernel
theorem dX5_readSum_28 : decode cX5_readSum 28 = .ok (.ifCond .ne 15, 3) := by decide +kernel
theorem dX5_readSum_31 : decode cX5_readSum 31 = .ok (.aload_n 0, 1) := by decide +kernel
theorem dX5_readSum_32 : decode cX5_readSum 32 = .ok (.getfield 19, 3) := by decide +kernel
theorem dX5_readSum_35 : decode cX5_readSum 35 = .ok (.bipush 45, 2) := by decide +kernel
theorem dX5_readSum_37 : decode cX5_readSum 37 = .ok (.invokevirtual 50, 3) := by decide +kernel
theorem dX5_readSum_40 : decode cX5_readSum 40 = .ok (.ifCond .eq 57, 3) := by decide +kernel
theorem dX5_readSum_43 : decode cX5_readSum 43 = .ok (.aload_n 0, 1) := by decide +kernel
theorem dX5_readSum_44 : decode cX5_readSum 44 = .ok (.getfield 19, 3) := by decide +kernel
theorem dX5_readSum_47 : decode cX5_readSum 47 = .ok (.bipush 43, 2) := by decide +kernel
theorem dX5_readSum_49 : decode cX5_readSum 49 = .ok (.invokevirtual 50, 3) := by decide +kernel
theorem dX5_readSum_52 : decode cX5_readSum 52 = .ok (.ifCond .eq 8, 3) := by decide +kernel
theorem dX5_readSum_55 : decode cX5_readSum 55 = .ok (.bipush (-21), 2) := by decide +kernel
theorem dX5_readSum_57 : decode cX5_readSum 57 = .ok (.goto 5, 3) := by decide +kernel
theorem dX5_readSum_60 : decode cX5_readSum 60 = .ok (.bipush (-22), 2) := by decide +kernel
theorem dX5_readSum_62 : decode cX5_readSum 62 = .ok (.istore_n 3, 1) := by decide +kernel
theorem dX5_readSum_63 : decode cX5_readSum 63 = .ok (.aload_n 0, 1) := by decide +kernel
theorem dX5_readSum_64 : decode cX5_readSum 64 = .ok (.getfield 19, 3) := by decide +kernel
theorem dX5_readSum_67 : decode cX5_readSum 67 = .ok (.invokevirtual 36, 3) := by decide +kernel
theorem dX5_readSum_70 : decode cX5_readSum 70 = .ok (.aload_n 0, 1) := by decide +kernel
theorem dX5_readSum_71 : decode cX5_readSum 71 = .ok (.iload_n 1, 1) := by decide +kernel
theorem dX5_readSum_72 : decode cX5_readSum 72 = .ok (.invokevirtual 67, 3) := by decide +kernel
theorem dX5_readSum_75 : decode cX5_readSum 75 = .ok (.ifCond .eq 14, 3) := by decide +kernel
theorem dX5_readSum_78 : decode cX5_readSum 78 = .ok (.aload_n 0, 1) := by decide +kernel
theorem dX5_readSum_79 : decode cX5_readSum 79 = .ok (.getfield 23, 3) := by decide +kernel
theorem dX5_readSum_82 : decode cX5_readSum 82 = .ok (.iload_n 3, 1) := by decide +kernel
theorem dX5_readSum_83 : decode cX5_readSum 83 = .ok (.invokevirtual 41, 3) := by decide +kernel
theorem dX5_readSum_86 : decode cX5_readSum 86 = .ok (.ifCond .ne 5, 3) := by decide +kernel
theorem dX5_readSum_89 : decode cX5_readSum 89 = .ok (.iconst 0, 1) := by decide +kernel
theorem dX5_readSum_90 : decode cX5_readSum 90 = .ok (.ireturn, 1) := by decide +kernel
theorem dX5_readSum_91 : decode cX5_readSum 91 = .ok (.iinc 2 1, 3) := by decide +kernel
theorem dX5_readSum_94 : decode cX5_readSum 94 = .ok (.goto (-82), 3) := by decide +kernel
theorem dX5_readSum_97 : decode cX5_readSum 97 = .ok (.iconst 1, 1) := by decide +kernel
theorem dX5_readSum_98 : decode cX5_readSum 98 = .ok (.ireturn, 1) := by decide +kernel
theorem dX5_readFact_0 : decode cX5_readFact 0 = .ok (.aload_n 0, 1) := by decide +kernel
theorem dX5_readFact_1 : decode cX5_readFact 1 = .ok (.getfield 19, 3) := by decide +kernel
theorem dX5_readFact_4 : decode cX5_readFact 4 = .ok (.getfield 31, 3) := by decide +kernel
theorem dX5_readFact_7 : decode cX5_readFact 7 = .ok (.bipush 22, 2) := by decide +kernel
theorem dX5_readFact_9 : decode cX5_readFact 9 = .ok (.if_icmp .ne 42, 3) := by decide +kernel
theorem dX5_readFact_12 : decode cX5_readFact 12 = .ok (.aload_n 0, 1) := by decide +kernel
theorem dX5_readFact_13 : decode cX5_readFact 13 = .ok (.getfield 19, 3) := by decide +kernel
theorem dX5_readFact_16 : decode cX5_readFact 16 = .ok (.iload_n 1, 1) := by decide +kernel
theorem dX5_readFact_17 : decode cX5_readFact 17 = .ok (.invokevirtual 47, 3) := by decide +kernel
theorem dX5_readFact_20 : decode cX5_readFact 20 = .ok (.ifCond .eq 29, 3) := by decide +kernel
theorem dX5_readFact_23 : decode cX5_readFact 23 = .ok (.aload_n 0, 1) := by decide +kernel
theorem dX5_readFact_24 : decode cX5_readFact 24 = .ok (.iload_n 1, 1) := by decide +kernel
theorem dX5_readFact_25 : decode cX5_readFact 25 = .ok (.iconst 1, 1) := by decide +kernel
theorem dX5_readFact_26 : decode cX5_readFact 26 = .ok (.iadd, 1) := by decide +kernel
theorem dX5_readFact_27 : decode cX5_readFact 27 = .ok (.invokevirtual 44, 3) := by decide +kernel
theorem dX5_readFact_30 : decode cX5_readFact 30 = .ok (.ifCond .eq 19, 3) := by decide +kernel
theorem dX5_readFact_33 : decode cX5_readFact 33 = .ok (.aload_n 0, 1) := by decide +kernel
theorem dX5_readFact_34 : decode cX5_readFact 34 = .ok (.getfield 23, 3) := by decide +kernel
theorem dX5_readFact_37 : decode cX5_readFact 37 = .ok (.bipush (-11), 2) := by decide +kernel
theorem dX5_readFact_39 : decode cX5_readFact 39 = .ok (.invokevirtual 41, 3) := by decide +kernel
theorem dX5_readFact_42 : decode cX5_readFact 42 = .ok (.ifCond .eq 7, 3) := by decide +kernel
theorem dX5_readFact_45 : decode cX5_readFact 45 = .ok (.iconst 1, 1) := by decide +kernel
theorem dX5_readFact_46 : decode cX5_readFact 46 = .ok (.goto 4, 3) := by decide +kernel
theorem dX5_readFact_49 : decode cX5_readFact 49 = .ok (.iconst 0, 1) := by decide +kernel
theorem dX5_readFact_50 : decode cX5_readFact 50 = .ok (.ireturn, 1) := by decide +kernel
theorem dX5_readFact_51 : decode cX5_readFact 51 = .ok (.aload_n 0, 1) := by decide +kernel
theorem dX5_readFact_52 : decode cX5_readFact 52 = .ok (.getfield 19, 3) := by decide +kernel
theorem dX5_readFact_55 : decode cX5_readFact 55 = .ok (.bipush 91, 2) := by decide +kernel
theorem dX5_readFact_57 : decode cX5_readFact 57 = .ok (.invokevirtual 50, 3) := by decide +kernel
theorem dX5_readFact_60 : decode cX5_readFact 60 = .ok (.ifCond .eq 42, 3) := by decide +kernel
theorem dX5_readFact_63 : decode cX5_readFact 63 = .ok (.aload_n 0, 1) := by decide +kernel
theorem dX5_readFact_64 : decode cX5_readFact 64 = .ok (.getfield 19, 3) := by decide +kernel
theorem dX5_readFact_67 : decode cX5_readFact 67 = .ok (.iload_n 1, 1) := by decide +kernel
theorem dX5_readFact_68 : decode cX5_readFact 68 = .ok (.invokevirtual 47, 3) := by decide +kernel
theorem dX5_readFact_71 : decode cX5_readFact 71 = .ok (.ifCond .eq 29, 3) := by decide +kernel
theorem dX5_readFact_74 : decode cX5_readFact 74 = .ok (.aload_n 0, 1) := by decide +kernel
theorem dX5_readFact_75 : decode cX5_readFact 75 = .ok (.iload_n 1, 1) := by decide +kernel
theorem dX5_readFact_76 : decode cX5_readFact 76 = .ok (.iconst 1, 1) := by decide +kernel
theorem dX5_readFact_77 : decode cX5_readFact 77 = .ok (.iadd, 1) := by decide +kernel
theorem dX5_readFact_78 : decode cX5_readFact 78 = .ok (.invokevirtual 54, 3) := by decide +kernel
theorem dX5_readFact_81 : decode cX5_readFact 81 = .ok (.ifCond .eq 19, 3) := by decide +kernel
theorem dX5_readFact_84 : decode cX5_readFact 84 = .ok (.aload_n 0, 1) := by decide +kernel
theorem dX5_readFact_85 : decode cX5_readFact 85 = .ok (.getfield 19, 3) := by decide +kernel
theorem dX5_readFact_88 : decode cX5_readFact 88 = .ok (.bipush 93, 2) := by decide +kernel
theorem dX5_readFact_90 : decode cX5_readFact 90 = .ok (.invokevirtual 57, 3) := by decide +kernel
theorem dX5_readFact_93 : decode cX5_readFact 93 = .ok (.ifCond .eq 7, 3) := by decide +kernel
theorem dX5_readFact_96 : decode cX5_readFact 96 = .ok (.iconst 1, 1) := by decide +kernel
theorem dX5_readFact_97 : decode cX5_readFact 97 = .ok (.goto 4, 3) := by decide +kernel
theorem dX5_readFact_100 : decode cX5_readFact 100 = .ok (.iconst 0, 1) := by decide +kernel
theorem dX5_readFact_101 : decode cX5_readFact 101 = .ok (.ireturn, 1) := by decide +kernel
theorem dX5_readFact_102 : decode cX5_readFact 102 = .ok (.aload_n 0, 1) := by decide +kernel
theorem dX5_readFact_103 : decode cX5_readFact 103 = .ok (.getfield 19, 3) := by decide +kernel
theorem dX5_readFact_106 : decode cX5_readFact 106 = .ok (.getfield 31, 3) := by decide +kernel
theorem dX5_readFact_109 : decode cX5_readFact 109 = .ok (.bipush 23, 2) := by decide +kernel
theorem dX5_readFact_111 : decode cX5_readFact 111 = .ok (.if_icmp .ne 19, 3) := by decide +kernel
theorem dX5_readFact_114 : decode cX5_readFact 114 = .ok (.aload_n 0, 1) := by decide +kernel
theorem dX5_readFact_115 : decode cX5_readFact 115 = .ok (.getfield 19, 3) := by decide +kernel
theorem dX5_readFact_118 : decode cX5_readFact 118 = .ok (.invokevirtual 36, 3) := by decide +kernel
theorem dX5_readFact_121 : decode cX5_readFact 121 = .ok (.aload_n 0, 1) := by decide +kernel
theorem dX5_readFact_122 : decode cX5_readFact 122 = .ok (.getfield 23, 3) := by decide +kernel
theorem dX5_readFact_125 : decode cX5_readFact 125 = .ok (.iconst 1, 1) := by decide +kernel
theorem dX5_readFact_126 : decode cX5_readFact 126 = .ok (.invokevirtual 41, 3) := by decide +kernel
theorem dX5_readFact_129 : decode cX5_readFact 129 = .ok (.ireturn, 1) := by decide +kernel
theorem dX5_readFact_130 : decode cX5_readFact 130 = .ok (.aload_n 0, 1) := by decide +kernel
theorem dX5_readFact_131 : decode cX5_readFact 131 = .ok (.iload_n 1, 1) := by decide +kernel
theorem dX5_readFact_132 : decode cX5_readFact 132 = .ok (.invokevirtual 60, 3) := by decide +kernel
theorem dX5_readFact_135 : decode cX5_readFact 135 = .ok (.ifCond .ne 5, 3) := by decide +kernel
theorem dX5_readFact_138 : decode cX5_readFact 138 = .ok (.iconst 0, 1) := by decide +kernel
theorem dX5_readFact_139 : decode cX5_readFact 139 = .ok (.ireturn, 1) := by decide +kernel
theorem dX5_readFact_140 : decode cX5_readFact 140 = .ok (.aload_n 0, 1) := by decide +kernel
theorem dX5_readFact_141 : decode cX5_readFact 141 = .ok (.getfield 19, 3) := by decide +kernel
theorem dX5_readFact_144 : decode cX5_readFact 144 = .ok (.bipush 60, 2) := by decide +kernel
theorem dX5_readFact_146 : decode cX5_readFact 146 = .ok (.invokevirtual 50, 3) := by decide +kernel
theorem dX5_readFact_149 : decode cX5_readFact 149 = .ok (.ifCond .eq 8, 3) := by decide +kernel
theorem dX5_readFact_152 : decode cX5_readFact 152 = .ok (.bipush (-27), 2) := by decide +kernel
theorem dX5_readFact_154 : decode cX5_readFact 154 = .ok (.goto 22, 3) := by decide +kernel
theorem dX5_readFact_157 : decode cX5_readFact 157 = .ok (.aload_n 0, 1) := by decide +kernel
theorem dX5_readFact_158 : decode cX5_readFact 158 = .ok (.getfield 19, 3) := by decide +kernel
theorem dX5_readFact_161 : decode cX5_readFact 161 = .ok (.bipush 62, 2) := by decide +kernel
theorem dX5_readFact_163 : decode cX5_readFact 163 = .ok (.invokevirtual 50, 3) := by decide +kernel
theorem dX5_readFact_166 : decode cX5_readFact 166 = .ok (.ifCond .eq 8, 3) := by decide +kernel
theorem dX5_readFact_169 : decode cX5_readFact 169 = .ok (.bipush (-28), 2) := by decide +kernel
theorem dX5_readFact_171 : decode cX5_readFact 171 = .ok (.goto 5, 3) := by decide +kernel
theorem dX5_readFact_174 : decode cX5_readFact 174 = .ok (.bipush (-29), 2) := by decide +kernel
theorem dX5_readFact_176 : decode cX5_readFact 176 = .ok (.istore_n 2, 1) := by decide +kernel
theorem dX5_readFact_177 : decode cX5_readFact 177 = .ok (.iload_n 2, 1) := by decide +kernel
theorem dX5_readFact_178 : decode cX5_readFact 178 = .ok (.bipush (-29), 2) := by decide +kernel
theorem dX5_readFact_180 : decode cX5_readFact 180 = .ok (.if_icmp .ne 23, 3) := by decide +kernel
theorem dX5_readFact_183 : decode cX5_readFact 183 = .ok (.aload_n 0, 1) := by decide +kernel
theorem dX5_readFact_184 : decode cX5_readFact 184 = .ok (.getfield 19, 3) := by decide +kernel
theorem dX5_readFact_187 : decode cX5_readFact 187 = .ok (.bipush 61, 2) := by decide +kernel
theorem dX5_readFact_189 : decode cX5_readFact 189 = .ok (.invokevirtual 50, 3) := by decide +kernel
theorem dX5_readFact_192 : decode cX5_readFact 192 = .ok (.ifCond .ne 11, 3) := by decide +kernel
theorem dX5_readFact_195 : decode cX5_readFact 195 = .ok (.aload_n 0, 1) := by decide +kernel
theorem dX5_readFact_196 : decode cX5_readFact 196 = .ok (.getfield 19, 3) := by decide +kernel
theorem dX5_readFact_199 : decode cX5_readFact 199 = .ok (.invokevirtual 63, 3) := by decide +kernel
theorem dX5_readFact_202 : decode cX5_readFact 202 = .ok (.ireturn, 1) := by decide +kernel
theorem dX5_readFact_203 : decode cX5_readFact 203 = .ok (.aload_n 0, 1) := by decide +kernel
theorem dX5_readFact_204 : decode cX5_readFact 204 = .ok (.getfield 19, 3) := by decide +kernel
theorem dX5_readFact_207 : decode cX5_readFact 207 = .ok (.invokevirtual 36, 3) := by decide +kernel
theorem dX5_readFact_210 : decode cX5_readFact 210 = .ok (.aload_n 0, 1) := by decide +kernel
theorem dX5_readFact_211 : decode cX5_readFact 211 = .ok (.iload_n 1, 1) := by decide +kernel
theorem dX5_readFact_212 : decode cX5_readFact 212 = .ok (.invokevirtual 60, 3) := by decide +kernel
theorem dX5_readFact_215 : decode cX5_readFact 215 = .ok (.ifCond .eq 18, 3) := by decide +kernel
theorem dX5_readFact_218 : decode cX5_readFact 218 = .ok (.aload_n 0, 1) := by decide +kernel
theorem dX5_readFact_219 : decode cX5_readFact 219 = .ok (.getfield 23, 3) := by decide +kernel
theorem dX5_readFact_222 : decode cX5_readFact 222 = .ok (.iload_n 2, 1) := by decide +kernel
theorem dX5_readFact_223 : decode cX5_readFact 223 = .ok (.invokevirtual 41, 3) := by decide +kernel
theorem dX5_readFact_226 : decode cX5_readFact 226 = .ok (.ifCond .eq 7, 3) := by decide +kernel
theorem dX5_readFact_229 : decode cX5_readFact 229 = .ok (.iconst 1, 1) := by decide +kernel
theorem dX5_readFact_230 : decode cX5_readFact 230 = .ok (.goto 4, 3) := by decide +kernel
theorem dX5_readFact_233 : decode cX5_readFact 233 = .ok (.iconst 0, 1) := by decide +kernel
theorem dX5_readFact_234 : decode cX5_readFact 234 = .ok (.ireturn, 1) := by decide +kernel
theorem dX5_readBoth_0 : decode cX5_readBoth 0 = .ok (.aload_n 0, 1) := by decide +kernel
theorem dX5_readBoth_1 : decode cX5_readBoth 1 = .ok (.iload_n 1, 1) := by decide +kernel
theorem dX5_readBoth_2 : decode cX5_readBoth 2 = .ok (.invokevirtual 44, 3) := by decide +kernel
theorem dX5_readBoth_5 : decode cX5_readBoth 5 = .ok (.ifCond .ne 5, 3) := by decide +kernel
theorem dX5_readBoth_8 : decode cX5_readBoth 8 = .ok (.iconst 0, 1) := by decide +kernel
theorem dX5_readBoth_9 : decode cX5_readBoth 9 = .ok (.ireturn, 1) := by decide +kernel
theorem dX5_readBoth_10 : decode cX5_readBoth 10 = .ok (.iconst 0, 1) := by decide +kernel
theorem dX5_readBoth_11 : decode cX5_readBoth 11 = .ok (.istore_n 2, 1) := by decide +kernel
theorem dX5_readBoth_12 : decode cX5_readBoth 12 = .ok (.iload_n 2, 1) := by decide +kernel
theorem dX5_readBoth_13 : decode cX5_readBoth 13 = .ok (.sipush 1600, 3) := by decide +kernel
theorem dX5_readBoth_16 : decode cX5_readBoth 16 = .ok (.if_icmp .ge 50, 3) := by decide +kernel
theorem dX5_readBoth_19 : decode cX5_readBoth 19 = .ok (.aload_n 0, 1) := by decide +kernel
theorem dX5_readBoth_20 : decode cX5_readBoth 20 = .ok (.getfield 19, 3) := by decide +kernel
theorem dX5_readBoth_23 : decode cX5_readBoth 23 = .ok (.getfield 31, 3) := by decide +kernel
theorem dX5_readBoth_26 : decode cX5_readBoth 26 = .ok (.bipush 21, 2) := by decide +kernel
theorem dX5_readBoth_28 : decode cX5_readBoth 28 = .ok (.if_icmp .ne 38, 3) := by decide +kernel
theorem dX5_readBoth_31 : decode cX5_readBoth 31 = .ok (.aload_n 0, 1) := by decide +kernel
theorem dX5_readBoth_32 : decode cX5_readBoth 32 = .ok (.getfield 19, 3) := by decide +kernel
theorem dX5_readBoth_35 : decode cX5_readBoth 35 = .ok (.invokevirtual 36, 3) := by decide +kernel
theorem dX5_readBoth_38 : decode cX5_readBoth 38 = .ok (.aload_n 0, 1) := by decide +kernel
theorem dX5_readBoth_39 : decode cX5_readBoth 39 = .ok (.iload_n 1, 1) := by decide +kernel
theorem dX5_readBoth_40 : decode cX5_readBoth 40 = .ok (.invokevirtual 44, 3) := by decide +kernel
theorem dX5_readBoth_43 : decode cX5_readBoth 43 = .ok (.ifCond .eq 15, 3) := by decide +kernel
theorem dX5_readBoth_46 : decode cX5_readBoth 46 = .ok (.aload_n 0, 1) := by decide +kernel
theorem dX5_readBoth_47 : decode cX5_readBoth 47 = .ok (.getfield 23, 3) := by decide +kernel
theorem dX5_readBoth_50 : decode cX5_readBoth 50 = .ok (.bipush (-30), 2) := by decide +kernel
theorem dX5_readBoth_52 : decode cX5_readBoth 52 = .ok (.invokevirtual 41, 3) := by decide +kernel
theorem dX5_readBoth_55 : decode cX5_readBoth 55 = .ok (.ifCond .ne 5, 3) := by decide +kernel
theorem dX5_readBoth_58 : decode cX5_readBoth 58 = .ok (.iconst 0, 1) := by decide +kernel
theorem dX5_readBoth_59 : decode cX5_readBoth 59 = .ok (.ireturn, 1) := by decide +kernel
theorem dX5_readBoth_60 : decode cX5_readBoth 60 = .ok (.iinc 2 1, 3) := by decide +kernel
theorem dX5_readBoth_63 : decode cX5_readBoth 63 = .ok (.goto (-51), 3) := by decide +kernel
theorem dX5_readBoth_66 : decode cX5_readBoth 66 = .ok (.iconst 1, 1) := by decide +kernel
theorem dX5_readBoth_67 : decode cX5_readBoth 67 = .ok (.ireturn, 1) := by decide +kernel
theorem dX5_readTest_0 : decode cX5_readTest 0 = .ok (.aload_n 0, 1) := by decide +kernel
theorem dX5_readTest_1 : decode cX5_readTest 1 = .ok (.iload_n 1, 1) := by decide +kernel
theorem dX5_readTest_2 : decode cX5_readTest 2 = .ok (.invokevirtual 27, 3) := by decide +kernel
theorem dX5_readTest_5 : decode cX5_readTest 5 = .ok (.ifCond .ne 5, 3) := by decide +kernel
theorem dX5_readTest_8 : decode cX5_readTest 8 = .ok (.iconst 0, 1) := by decide +kernel
theorem dX5_readTest_9 : decode cX5_readTest 9 = .ok (.ireturn, 1) := by decide +kernel
theorem dX5_readTest_10 : decode cX5_readTest 10 = .ok (.iconst 0, 1) := by decide +kernel
theorem dX5_readTest_11 : decode cX5_readTest 11 = .ok (.istore_n 2, 1) := by decide +kernel
theorem dX5_readTest_12 : decode cX5_readTest 12 = .ok (.iload_n 2, 1) := by decide +kernel
theorem dX5_readTest_13 : decode cX5_readTest 13 = .ok (.sipush 1600, 3) := by decide +kernel
theorem dX5_readTest_16 : decode cX5_readTest 16 = .ok (.if_icmp .ge 50, 3) := by decide +kernel
theorem dX5_readTest_19 : decode cX5_readTest 19 = .ok (.aload_n 0, 1) := by decide +kernel
theorem dX5_readTest_20 : decode cX5_readTest 20 = .ok (.getfield 19, 3) := by decide +kernel
theorem dX5_readTest_23 : decode cX5_readTest 23 = .ok (.getfield 31, 3) := by decide +kernel
theorem dX5_readTest_26 : decode cX5_readTest 26 = .ok (.bipush 20, 2) := by decide +kernel
theorem dX5_readTest_28 : decode cX5_readTest 28 = .ok (.if_icmp .ne 38, 3) := by decide +kernel
theorem dX5_readTest_31 : decode cX5_readTest 31 = .ok (.aload_n 0, 1) := by decide +kernel
theorem dX5_readTest_32 : decode cX5_readTest 32 = .ok (.getfield 19, 3) := by decide +kernel
theorem dX5_readTest_35 : decode cX5_readTest 35 = .ok (.invokevirtual 36, 3) := by decide +kernel
theorem dX5_readTest_38 : decode cX5_readTest 38 = .ok (.aload_n 0, 1) := by decide +kernel
theorem dX5_readTest_39 : decode cX5_readTest 39 = .ok (.iload_n 1, 1) := by decide +kernel
theorem dX5_readTest_40 : decode cX5_readTest 40 = .ok (.invokevirtual 27, 3) := by decide +kernel
theorem dX5_readTest_43 : decode cX5_readTest 43 = .ok (.ifCond .eq 15, 3) := by decide +kernel
theorem dX5_readTest_46 : decode cX5_readTest 46 = .ok (.aload_n 0, 1) := by decide +kernel
theorem dX5_readTest_47 : decode cX5_readTest 47 = .ok (.getfield 23, 3) := by decide +kernel
theorem dX5_readTest_50 : decode cX5_readTest 50 = .ok (.bipush (-31), 2) := by decide +kernel
theorem dX5_readTest_52 : decode cX5_readTest 52 = .ok (.invokevirtual 41, 3) := by decide +kernel
theorem dX5_readTest_55 : decode cX5_readTest 55 = .ok (.ifCond .ne 5, 3) := by decide +kernel
theorem dX5_readTest_58 : decode cX5_readTest 58 = .ok (.iconst 0, 1) := by decide +kernel
theorem dX5_readTest_59 : decode cX5_readTest 59 = .ok (.ireturn, 1) := by decide +kernel
theorem dX5_readTest_60 : decode cX5_readTest 60 = .ok (.iinc 2 1, 3) := by decide +kernel
theorem dX5_readTest_63 : decode cX5_readTest 63 = .ok (.goto (-51), 3) := by decide +kernel
theorem dX5_readTest_66 : decode cX5_readTest 66 = .ok (.iconst 1, 1) := by decide +kernel
theorem dX5_readTest_67 : decode cX5_readTest 67 = .ok (.ireturn, 1) := by decide +kernel
theorem dX1_readLaw_0 : decode cX1_readLaw 0 = .ok (.aload_n 0, 1) := by decide +kernel
theorem dX1_readLaw_1 : decode cX1_readLaw 1 = .ok (.aload_n 0, 1) := by decide +kernel
theorem dX1_readLaw_2 : decode cX1_readLaw 2 = .ok (.getfield 9, 3) := by decide +kernel
theorem dX1_readLaw_5 : decode cX1_readLaw 5 = .ok (.iload_n 1, 1) := by decide +kernel
theorem dX1_readLaw_6 : decode cX1_readLaw 6 = .ok (.ishr, 1) := by decide +kernel
theorem dX1_readLaw_7 : decode cX1_readLaw 7 = .ok (.iconst 1, 1) := by decide +kernel
theorem dX1_readLaw_8 : decode cX1_readLaw 8 = .ok (.iand, 1) := by decide +kernel
theorem dX1_readLaw_9 : decode cX1_readLaw 9 = .ok (.iconst 1, 1) := by decide +kernel
theorem dX1_readLaw_10 : decode cX1_readLaw 10 = .ok (.invokevirtual 95, 3) := by decide +kernel
theorem dX1_readLaw_13 : decode cX1_readLaw 13 = .ok (.ifCond .ne 5, 3) := by decide +kernel
theorem dX1_readLaw_16 : decode cX1_readLaw 16 = .ok (.iconst 0, 1) := by decide +kernel
theorem dX1_readLaw_17 : decode cX1_readLaw 17 = .ok (.ireturn, 1) := by decide +kernel
theorem dX1_readLaw_18 : decode cX1_readLaw 18 = .ok (.aload_n 0, 1) := by decide +kernel
theorem dX1_readLaw_19 : decode cX1_readLaw 19 = .ok (.dup, 1) := by decide +kernel
theorem dX1_readLaw_20 : decode cX1_readLaw 20 = .ok (.getfield 9, 3) := by decide +kernel
theorem dX1_readLaw_23 : decode cX1_readLaw 23 = .ok (.iconst 1, 1) := by decide +kernel
theorem dX1_readLaw_24 : decode cX1_readLaw 24 = .ok (.iload_n 1, 1) := by decide +kernel
theorem dX1_readLaw_25 : decode cX1_readLaw 25 = .ok (.ishl, 1) := by decide +kernel
theorem dX1_readLaw_26 : decode cX1_readLaw 26 = .ok (.ior, 1) := by decide +kernel
theorem dX1_readLaw_27 : decode cX1_readLaw 27 = .ok (.putfield 9, 3) := by decide +kernel
theorem dX1_readLaw_30 : decode cX1_readLaw 30 = .ok (.aload_n 0, 1) := by decide +kernel
theorem dX1_readLaw_31 : decode cX1_readLaw 31 = .ok (.getfield 34, 3) := by decide +kernel
theorem dX1_readLaw_34 : decode cX1_readLaw 34 = .ok (.aload_n 0, 1) := by decide +kernel
theorem dX1_readLaw_35 : decode cX1_readLaw 35 = .ok (.getfield 19, 3) := by decide +kernel
theorem dX1_readLaw_38 : decode cX1_readLaw 38 = .ok (.getfield 25, 3) := by decide +kernel
theorem dX1_readLaw_41 : decode cX1_readLaw 41 = .ok (.iload_n 1, 1) := by decide +kernel
theorem dX1_readLaw_42 : decode cX1_readLaw 42 = .ok (.invokevirtual 153, 3) := by decide +kernel
theorem dX1_readLaw_45 : decode cX1_readLaw 45 = .ok (.aload_n 0, 1) := by decide +kernel
theorem dX1_readLaw_46 : decode cX1_readLaw 46 = .ok (.getfield 19, 3) := by decide +kernel
theorem dX1_readLaw_49 : decode cX1_readLaw 49 = .ok (.iload_n 1, 1) := by decide +kernel
theorem dX1_readLaw_50 : decode cX1_readLaw 50 = .ok (.invokevirtual 157, 3) := by decide +kernel
theorem dX1_readLaw_53 : decode cX1_readLaw 53 = .ok (.iload_n 1, 1) := by decide +kernel
theorem dX1_readLaw_54 : decode cX1_readLaw 54 = .ok (.iconst 2, 1) := by decide +kernel
theorem dX1_readLaw_55 : decode cX1_readLaw 55 = .ok (.if_icmp .ne 14, 3) := by decide +kernel
theorem dX1_readLaw_58 : decode cX1_readLaw 58 = .ok (.aload_n 0, 1) := by decide +kernel
theorem dX1_readLaw_59 : decode cX1_readLaw 59 = .ok (.getfield 34, 3) := by decide +kernel
theorem dX1_readLaw_62 : decode cX1_readLaw 62 = .ok (.iconst 0, 1) := by decide +kernel
theorem dX1_readLaw_63 : decode cX1_readLaw 63 = .ok (.invokevirtual 161, 3) := by decide +kernel
theorem dX1_readLaw_66 : decode cX1_readLaw 66 = .ok (.goto 11, 3) := by decide +kernel
theorem dX1_readLaw_69 : decode cX1_readLaw 69 = .ok (.aload_n 0, 1) := by decide +kernel
theorem dX1_readLaw_70 : decode cX1_readLaw 70 = .ok (.getfield 34, 3) := by decide +kernel
theorem dX1_readLaw_73 : decode cX1_readLaw 73 = .ok (.iconst 0, 1) := by decide +kernel
theorem dX1_readLaw_74 : decode cX1_readLaw 74 = .ok (.invokevirtual 164, 3) := by decide +kernel
theorem dX1_readLaw_77 : decode cX1_readLaw 77 = .ok (.istore_n 2, 1) := by decide +kernel
theorem dX1_readLaw_78 : decode cX1_readLaw 78 = .ok (.aload_n 0, 1) := by decide +kernel
theorem dX1_readLaw_79 : decode cX1_readLaw 79 = .ok (.getfield 19, 3) := by decide +kernel
theorem dX1_readLaw_82 : decode cX1_readLaw 82 = .ok (.iload_n 1, 1) := by decide +kernel
theorem dX1_readLaw_83 : decode cX1_readLaw 83 = .ok (.invokevirtual 167, 3) := by decide +kernel
theorem dX1_readLaw_86 : decode cX1_readLaw 86 = .ok (.aload_n 0, 1) := by decide +kernel
theorem dX1_readLaw_87 : decode cX1_readLaw 87 = .ok (.getfield 19, 3) := by decide +kernel
theorem dX1_readLaw_90 : decode cX1_readLaw 90 = .ok (.dup, 1) := by decide +kernel
theorem dX1_readLaw_91 : decode cX1_readLaw 91 = .ok (.getfield 170, 3) := by decide +kernel
theorem dX1_readLaw_94 : decode cX1_readLaw 94 = .ok (.iload_n 1, 1) := by decide +kernel
theorem dX1_readLaw_95 : decode cX1_readLaw 95 = .ok (.iconst 2, 1) := by decide +kernel
theorem dX1_readLaw_96 : decode cX1_readLaw 96 = .ok (.if_icmp .eq 17, 3) := by decide +kernel
theorem dX1_readLaw_99 : decode cX1_readLaw 99 = .ok (.aload_n 0, 1) := by decide +kernel
theorem dX1_readLaw_100 : decode cX1_readLaw 100 = .ok (.getfield 34, 3) := by decide +kernel
theorem dX1_readLaw_103 : decode cX1_readLaw 103 = .ok (.getfield 174, 3) := by decide +kernel
theorem dX1_readLaw_106 : decode cX1_readLaw 106 = .ok (.ifCond .eq 7, 3) := by decide +kernel
theorem dX1_readLaw_109 : decode cX1_readLaw 109 = .ok (.iconst 1, 1) := by decide +kernel
theorem dX1_readLaw_110 : decode cX1_readLaw 110 = .ok (.goto 4, 3) := by decide +kernel
theorem dX1_readLaw_113 : decode cX1_readLaw 113 = .ok (.iconst 0, 1) := by decide +kernel
theorem dX1_readLaw_114 : decode cX1_readLaw 114 = .ok (.ior, 1) := by decide +kernel
theorem dX1_readLaw_115 : decode cX1_readLaw 115 = .ok (.putfield 170, 3) := by decide +kernel
theorem dX1_readLaw_118 : decode cX1_readLaw 118 = .ok (.iload_n 2, 1) := by decide +kernel
theorem dX1_readLaw_119 : decode cX1_readLaw 119 = .ok (.ireturn, 1) := by decide +kernel
theorem dX1_readSlip_0 : decode cX1_readSlip 0 = .ok (.aload_n 0, 1) := by decide +kernel
theorem dX1_readSlip_1 : decode cX1_readSlip 1 = .ok (.getfield 15, 3) := by decide +kernel
theorem dX1_readSlip_4 : decode cX1_readSlip 4 = .ok (.invokevirtual 89, 3) := by decide +kernel
theorem dX1_readSlip_7 : decode cX1_readSlip 7 = .ok (.aload_n 0, 1) := by decide +kernel
theorem dX1_readSlip_8 : decode cX1_readSlip 8 = .ok (.getfield 15, 3) := by decide +kernel
theorem dX1_readSlip_11 : decode cX1_readSlip 11 = .ok (.iconst 0, 1) := by decide +kernel
theorem dX1_readSlip_12 : decode cX1_readSlip 12 = .ok (.bipush 100, 2) := by decide +kernel
theorem dX1_readSlip_14 : decode cX1_readSlip 14 = .ok (.invokevirtual 105, 3) := by decide +kernel
theorem dX1_readSlip_17 : decode cX1_readSlip 17 = .ok (.istore_n 1, 1) := by decide +kernel
theorem dX1_readSlip_18 : decode cX1_readSlip 18 = .ok (.aload_n 0, 1) := by decide +kernel
theorem dX1_readSlip_19 : decode cX1_readSlip 19 = .ok (.getfield 19, 3) := by decide +kernel
theorem dX1_readSlip_22 : decode cX1_readSlip 22 = .ok (.iload_n 1, 1) := by decide +kernel
theorem dX1_readSlip_23 : decode cX1_readSlip 23 = .ok (.putfield 177, 3) := by decide +kernel
theorem dX1_readSlip_26 : decode cX1_readSlip 26 = .ok (.iload_n 1, 1) := by decide +kernel
theorem dX1_readSlip_27 : decode cX1_readSlip 27 = .ok (.iconst (-1), 1) := by decide +kernel
theorem dX1_readSlip_28 : decode cX1_readSlip 28 = .ok (.if_icmp .eq 7, 3) := by decide +kernel
theorem dX1_readSlip_31 : decode cX1_readSlip 31 = .ok (.iconst 1, 1) := by decide +kernel
theorem dX1_readSlip_32 : decode cX1_readSlip 32 = .ok (.goto 4, 3) := by decide +kernel
theorem dX1_readSlip_35 : decode cX1_readSlip 35 = .ok (.iconst 0, 1) := by decide +kernel
theorem dX1_readSlip_36 : decode cX1_readSlip 36 = .ok (.ireturn, 1) := by decide +kernel
theorem dX1_readStatement_0 : decode cX1_readStatement 0 = .ok (.aload_n 0, 1) := by decide +kernel
theorem dX1_readStatement_1 : decode cX1_readStatement 1 = .ok (.getfield 15, 3) := by decide +kernel
theorem dX1_readStatement_4 : decode cX1_readStatement 4 = .ok (.getfield 46, 3) := by decide +kernel
theorem dX1_readStatement_7 : decode cX1_readStatement 7 = .ok (.tableswitch 112 0 13 #[69, 112, 112, 74, 79, 112, 112, 84, 112, 112, 89, 95, 101, 107], 69) := by decide +kernel
theorem dX1_readStatement_76 : decode cX1_readStatement 76 = .ok (.aload_n 0, 1) := by decide +kernel
theorem dX1_readStatement_77 : decode cX1_readStatement 77 = .ok (.invokevirtual 67, 3) := by decide +kernel
theorem dX1_readStatement_80 : decode cX1_readStatement 80 = .ok (.ireturn, 1) := by decide +kernel
theorem dX1_readStatement_81 : decode cX1_readStatement 81 = .ok (.aload_n 0, 1) := by decide +kernel
theorem dX1_readStatement_82 : decode cX1_readStatement 82 = .ok (.invokevirtual 70, 3) := by decide +kernel
theorem dX1_readStatement_85 : decode cX1_readStatement 85 = .ok (.ireturn, 1) := by decide +kernel
theorem dX1_readStatement_86 : decode cX1_readStatement 86 = .ok (.aload_n 0, 1) := by decide +kernel
theorem dX1_readStatement_87 : decode cX1_readStatement 87 = .ok (.invokevirtual 73, 3) := by decide +kernel
theorem dX1_readStatement_90 : decode cX1_readStatement 90 = .ok (.ireturn, 1) := by decide +kernel
theorem dX1_readStatement_91 : decode cX1_readStatement 91 = .ok (.aload_n 0, 1) := by decide +kernel
theorem dX1_readStatement_92 : decode cX1_readStatement 92 = .ok (.invokevirtual 76, 3) := by decide +kernel
theorem dX1_readStatement_95 : decode cX1_readStatement 95 = .ok (.ireturn, 1) := by decide +kernel
theorem dX1_readStatement_96 : decode cX1_readStatement 96 = .ok (.aload_n 0, 1) := by decide +kernel
theorem dX1_readStatement_97 : decode cX1_readStatement 97 = .ok (.iconst 0, 1) := by decide +kernel
theorem dX1_readStatement_98 : decode cX1_readStatement 98 = .ok (.invokevirtual 79, 3) := by decide +kernel
theorem dX1_readStatement_101 : decode cX1_readStatement 101 = .ok (.ireturn, 1) := by decide +kernel
theorem dX1_readStatement_102 : decode cX1_readStatement 102 = .ok (.aload_n 0, 1) := by decide +kernel
theorem dX1_readStatement_103 : decode cX1_readStatement 103 = .ok (.iconst 1, 1) := by decide +kernel
theorem dX1_readStatement_104 : decode cX1_readStatement 104 = .ok (.invokevirtual 79, 3) := by decide +kernel
theorem dX1_readStatement_107 : decode cX1_readStatement 107 = .ok (.ireturn, 1) := by decide +kernel
theorem dX1_readStatement_108 : decode cX1_readStatement 108 = .ok (.aload_n 0, 1) := by decide +kernel
theorem dX1_readStatement_109 : decode cX1_readStatement 109 = .ok (.iconst 2, 1) := by decide +kernel
theorem dX1_readStatement_110 : decode cX1_readStatement 110 = .ok (.invokevirtual 79, 3) := by decide +kernel
theorem dX1_readStatement_113 : decode cX1_readStatement 113 = .ok (.ireturn, 1) := by decide +kernel
theorem dX1_readStatement_114 : decode cX1_readStatement 114 = .ok (.aload_n 0, 1) := by decide +kernel
theorem dX1_readStatement_115 : decode cX1_readStatement 115 = .ok (.invokevirtual 83, 3) := by decide +kernel
theorem dX1_readStatement_118 : decode cX1_readStatement 118 = .ok (.ireturn, 1) := by decide +kernel
theorem dX1_readStatement_119 : decode cX1_readStatement 119 = .ok (.aload_n 0, 1) := by decide +kernel
theorem dX1_readStatement_120 : decode cX1_readStatement 120 = .ok (.getfield 15, 3) := by decide +kernel
theorem dX1_readStatement_123 : decode cX1_readStatement 123 = .ok (.invokevirtual 86, 3) := by decide +kernel
theorem dX1_readStatement_126 : decode cX1_readStatement 126 = .ok (.ireturn, 1) := by decide +kernel
theorem dX1_readAll_0 : decode cX1_readAll 0 = .ok (.aload_n 0, 1) := by decide +kernel
theorem dX1_readAll_1 : decode cX1_readAll 1 = .ok (.aload_n 1, 1) := by decide +kernel
theorem dX1_readAll_2 : decode cX1_readAll 2 = .ok (.putfield 19, 3) := by decide +kernel
theorem dX1_readAll_5 : decode cX1_readAll 5 = .ok (.aload_n 1, 1) := by decide +kernel
theorem dX1_readAll_6 : decode cX1_readAll 6 = .ok (.invokevirtual 38, 3) := by decide +kernel
theorem dX1_readAll_9 : decode cX1_readAll 9 = .ok (.aload_n 0, 1) := by decide +kernel
theorem dX1_readAll_10 : decode cX1_readAll 10 = .ok (.iconst 0, 1) := by decide +kernel
theorem dX1_readAll_11 : decode cX1_readAll 11 = .ok (.putfield 9, 3) := by decide +kernel
theorem dX1_readAll_14 : decode cX1_readAll 14 = .ok (.aload_n 0, 1) := by decide +kernel
theorem dX1_readAll_15 : decode cX1_readAll 15 = .ok (.getfield 15, 3) := by decide +kernel
theorem dX1_readAll_18 : decode cX1_readAll 18 = .ok (.invokevirtual 41, 3) := by decide +kernel
theorem dX1_readAll_21 : decode cX1_readAll 21 = .ok (.iconst 0, 1) := by decide +kernel
theorem dX1_readAll_22 : decode cX1_readAll 22 = .ok (.istore_n 2, 1) := by decide +kernel
theorem dX1_readAll_23 : decode cX1_readAll 23 = .ok (.iload_n 2, 1) := by decide +kernel
theorem dX1_readAll_24 : decode cX1_readAll 24 = .ok (.bipush 60, 2) := by decide +kernel
theorem dX1_readAll_26 : decode cX1_readAll 26 = .ok (.if_icmp .ge 52, 3) := by decide +kernel
theorem dX1_readAll_29 : decode cX1_readAll 29 = .ok (.aload_n 0, 1) := by decide +kernel
theorem dX1_readAll_30 : decode cX1_readAll 30 = .ok (.getfield 15, 3) := by decide +kernel
theorem dX1_readAll_33 : decode cX1_readAll 33 = .ok (.getfield 46, 3) := by decide +kernel
theorem dX1_readAll_36 : decode cX1_readAll 36 = .ok (.bipush 35, 2) := by decide +kernel
theorem dX1_readAll_38 : decode cX1_readAll 38 = .ok (.if_icmp .eq 40, 3) := by decide +kernel
theorem dX1_readAll_41 : decode cX1_readAll 41 = .ok (.aload_n 0, 1) := by decide +kernel
theorem dX1_readAll_42 : decode cX1_readAll 42 = .ok (.invokevirtual 49, 3) := by decide +kernel
theorem dX1_readAll_45 : decode cX1_readAll 45 = .ok (.ifCond .eq 15, 3) := by decide +kernel
theorem dX1_readAll_48 : decode cX1_readAll 48 = .ok (.aload_n 0, 1) := by decide +kernel
theorem dX1_readAll_49 : decode cX1_readAll 49 = .ok (.getfield 15, 3) := by decide +kernel
theorem dX1_readAll_52 : decode cX1_readAll 52 = .ok (.bipush 59, 2) := by decide +kernel
theorem dX1_readAll_54 : decode cX1_readAll 54 = .ok (.invokevirtual 53, 3) := by decide +kernel
theorem dX1_readAll_57 : decode cX1_readAll 57 = .ok (.ifCond .ne 5, 3) := by decide +kernel
theorem dX1_readAll_60 : decode cX1_readAll 60 = .ok (.iconst 0, 1) := by decide +kernel
theorem dX1_readAll_61 : decode cX1_readAll 61 = .ok (.ireturn, 1) := by decide +kernel
theorem dX1_readAll_62 : decode cX1_readAll 62 = .ok (.aload_n 1, 1) := by decide +kernel
theorem dX1_readAll_63 : decode cX1_readAll 63 = .ok (.dup, 1) := by decide +kernel
theorem dX1_readAll_64 : decode cX1_readAll 64 = .ok (.getfield 57, 3) := by decide +kernel
theorem dX1_readAll_67 : decode cX1_readAll 67 = .ok (.iconst 1, 1) := by decide +kernel
theorem dX1_readAll_68 : decode cX1_readAll 68 = .ok (.iadd, 1) := by decide +kernel
theorem dX1_readAll_69 : decode cX1_readAll 69 = .ok (.putfield 57, 3) := by decide +kernel
theorem dX1_readAll_72 : decode cX1_readAll 72 = .ok (.iinc 2 1, 3) := by decide +kernel
theorem dX1_readAll_75 : decode cX1_readAll 75 = .ok (.goto (-52), 3) := by decide +kernel
theorem dX1_readAll_78 : decode cX1_readAll 78 = .ok (.aload_n 0, 1) := by decide +kernel
theorem dX1_readAll_79 : decode cX1_readAll 79 = .ok (.getfield 15, 3) := by decide +kernel
theorem dX1_readAll_82 : decode cX1_readAll 82 = .ok (.getfield 46, 3) := by decide +kernel
theorem dX1_readAll_85 : decode cX1_readAll 85 = .ok (.bipush 35, 2) := by decide +kernel
theorem dX1_readAll_87 : decode cX1_readAll 87 = .ok (.if_icmp .eq 21, 3) := by decide +kernel
theorem dX1_readAll_90 : decode cX1_readAll 90 = .ok (.aload_n 0, 1) := by decide +kernel
theorem dX1_readAll_91 : decode cX1_readAll 91 = .ok (.getfield 15, 3) := by decide +kernel
theorem dX1_readAll_94 : decode cX1_readAll 94 = .ok (.iconst 5, 1) := by decide +kernel
theorem dX1_readAll_95 : decode cX1_readAll 95 = .ok (.aload_n 0, 1) := by decide +kernel
theorem dX1_readAll_96 : decode cX1_readAll 96 = .ok (.getfield 15, 3) := by decide +kernel
theorem dX1_readAll_99 : decode cX1_readAll 99 = .ok (.getfield 60, 3) := by decide +kernel
theorem dX1_readAll_102 : decode cX1_readAll 102 = .ok (.invokevirtual 63, 3) := by decide +kernel
theorem dX1_readAll_105 : decode cX1_readAll 105 = .ok (.ifCond .eq 7, 3) := by decide +kernel
theorem dX1_readAll_108 : decode cX1_readAll 108 = .ok (.iconst 1, 1) := by decide +kernel
theorem dX1_readAll_109 : decode cX1_readAll 109 = .ok (.goto 4, 3) := by decide +kernel
theorem dX1_readAll_112 : decode cX1_readAll 112 = .ok (.iconst 0, 1) := by decide +kernel
theorem dX1_readAll_113 : decode cX1_readAll 113 = .ok (.ireturn, 1) := by decide +kernel
theorem dX3_use_0 : decode cX3_use 0 = .ok (.aload_n 0, 1) := by decide +kernel
theorem dX3_use_1 : decode cX3_use 1 = .ok (.aload_n 1, 1) := by decide +kernel
theorem dX3_use_2 : decode cX3_use 2 = .ok (.putfield 28, 3) := by decide +kernel
theorem dX3_use_5 : decode cX3_use 5 = .ok (.aload_n 0, 1) := by decide +kernel
theorem dX3_use_6 : decode cX3_use 6 = .ok (.dup, 1) := by decide +kernel
theorem dX3_use_7 : decode cX3_use 7 = .ok (.getfield 18, 3) := by decide +kernel
theorem dX3_use_10 : decode cX3_use 10 = .ok (.iconst 1, 1) := by decide +kernel
theorem dX3_use_11 : decode cX3_use 11 = .ok (.iadd, 1) := by decide +kernel
theorem dX3_use_12 : decode cX3_use 12 = .ok (.putfield 18, 3) := by decide +kernel
theorem dX3_use_15 : decode cX3_use 15 = .ok (.return_, 1) := by decide +kernel
theorem dX9_clear_0 : decode cX9_clear 0 = .ok (.aload_n 0, 1) := by decide +kernel
theorem dX9_clear_1 : decode cX9_clear 1 = .ok (.iconst 0, 1) := by decide +kernel
theorem dX9_clear_2 : decode cX9_clear 2 = .ok (.putfield 9, 3) := by decide +kernel
theorem dX9_clear_5 : decode cX9_clear 5 = .ok (.aload_n 0, 1) := by decide +kernel
theorem dX9_clear_6 : decode cX9_clear 6 = .ok (.iconst 0, 1) := by decide +kernel
theorem dX9_clear_7 : decode cX9_clear 7 = .ok (.putfield 15, 3) := by decide +kernel
theorem dX9_clear_10 : decode cX9_clear 10 = .ok (.aload_n 0, 1) := by decide +kernel
theorem dX9_clear_11 : decode cX9_clear 11 = .ok (.iconst 0, 1) := by decide +kernel
theorem dX9_clear_12 : decode cX9_clear 12 = .ok (.putfield 18, 3) := by decide +kernel
theorem dX9_clear_15 : decode cX9_clear 15 = .ok (.aload_n 0, 1) := by decide +kernel
theorem dX9_clear_16 : decode cX9_clear 16 = .ok (.iconst 0, 1) := by decide +kernel
theorem dX9_clear_17 : decode cX9_clear 17 = .ok (.putfield 29, 3) := by decide +kernel
theorem dX9_clear_20 : decode cX9_clear 20 = .ok (.iconst 0, 1) := by decide +kernel
theorem dX9_clear_21 : decode cX9_clear 21 = .ok (.istore_n 1, 1) := by decide +kernel
theorem dX9_clear_22 : decode cX9_clear 22 = .ok (.iload_n 1, 1) := by decide +kernel
theorem dX9_clear_23 : decode cX9_clear 23 = .ok (.iconst 4, 1) := by decide +kernel
theorem dX9_clear_24 : decode cX9_clear 24 = .ok (.if_icmp .ge 16, 3) := by decide +kernel
theorem dX9_clear_27 : decode cX9_clear 27 = .ok (.aload_n 0, 1) := by decide +kernel
theorem dX9_clear_28 : decode cX9_clear 28 = .ok (.getfield 21, 3) := by decide +kernel
theorem dX9_clear_31 : decode cX9_clear 31 = .ok (.iload_n 1, 1) := by decide +kernel
theorem dX9_clear_32 : decode cX9_clear 32 = .ok (.lconst 0, 1) := by decide +kernel
theorem dX9_clear_33 : decode cX9_clear 33 = .ok (.lastore, 1) := by decide +kernel
theorem dX9_clear_34 : decode cX9_clear 34 = .ok (.iinc 1 1, 3) := by decide +kernel
theorem dX9_clear_37 : decode cX9_clear 37 = .ok (.goto (-15), 3) := by decide +kernel
theorem dX9_clear_40 : decode cX9_clear 40 = .ok (.return_, 1) := by decide +kernel
theorem dX9_begin_0 : decode cX9_begin 0 = .ok (.aload_n 0, 1) := by decide +kernel
theorem dX9_begin_1 : decode cX9_begin 1 = .ok (.invokevirtual 32, 3) := by decide +kernel
theorem dX9_begin_4 : decode cX9_begin 4 = .ok (.aload_n 0, 1) := by decide +kernel
theorem dX9_begin_5 : decode cX9_begin 5 = .ok (.iconst 1, 1) := by decide +kernel
theorem dX9_begin_6 : decode cX9_begin 6 = .ok (.aload_n 1, 1) := by decide +kernel
theorem dX9_begin_7 : decode cX9_begin 7 = .ok (.getfield 35, 3) := by decide +kernel
theorem dX9_begin_10 : decode cX9_begin 10 = .ok (.ishl, 1) := by decide +kernel
theorem dX9_begin_11 : decode cX9_begin 11 = .ok (.iconst 1, 1) := by decide +kernel
theorem dX9_begin_12 : decode cX9_begin 12 = .ok (.isub, 1) := by decide +kernel
theorem dX9_begin_13 : decode cX9_begin 13 = .ok (.putfield 15, 3) := by decide +kernel
theorem dX9_begin_16 : decode cX9_begin 16 = .ok (.aload_n 1, 1) := by decide +kernel
theorem dX9_begin_17 : decode cX9_begin 17 = .ok (.getfield 40, 3) := by decide +kernel
theorem dX9_begin_20 : decode cX9_begin 20 = .ok (.iconst 0, 1) := by decide +kernel
theorem dX9_begin_21 : decode cX9_begin 21 = .ok (.aload_n 0, 1) := by decide +kernel
theorem dX9_begin_22 : decode cX9_begin 22 = .ok (.getfield 21, 3) := by decide +kernel
theorem dX9_begin_25 : decode cX9_begin 25 = .ok (.iconst 0, 1) := by decide +kernel
theorem dX9_begin_26 : decode cX9_begin 26 = .ok (.iconst 4, 1) := by decide +kernel
theorem dX9_begin_27 : decode cX9_begin 27 = .ok (.invokestatic 41, 3) := by decide +kernel
theorem dX9_begin_30 : decode cX9_begin 30 = .ok (.return_, 1) := by decide +kernel
theorem dX6_clear_0 : decode cX6_clear 0 = .ok (.aload_n 0, 1) := by decide +kernel
theorem dX6_clear_1 : decode cX6_clear 1 = .ok (.iconst 0, 1) := by decide +kernel
theorem dX6_clear_2 : decode cX6_clear 2 = .ok (.putfield 21, 3) := by decide +kernel
theorem dX6_clear_5 : decode cX6_clear 5 = .ok (.aload_n 0, 1) := by decide +kernel
theorem dX6_clear_6 : decode cX6_clear 6 = .ok (.iconst 0, 1) := by decide +kernel
theorem dX6_clear_7 : decode cX6_clear 7 = .ok (.putfield 17, 3) := by decide +kernel
theorem dX6_clear_10 : decode cX6_clear 10 = .ok (.return_, 1) := by decide +kernel
theorem dX4_forget_0 : decode cX4_forget 0 = .ok (.aload_n 0, 1) := by decide +kernel
theorem dX4_forget_1 : decode cX4_forget 1 = .ok (.iconst 0, 1) := by decide +kernel
theorem dX4_forget_2 : decode cX4_forget 2 = .ok (.putfield 47, 3) := by decide +kernel
theorem dX4_forget_5 : decode cX4_forget 5 = .ok (.aload_n 0, 1) := by decide +kernel
theorem dX4_forget_6 : decode cX4_forget 6 = .ok (.iconst 0, 1) := by decide +kernel
theorem dX4_forget_7 : decode cX4_forget 7 = .ok (.putfield 51, 3) := by decide +kernel
theorem dX4_forget_10 : decode cX4_forget 10 = .ok (.return_, 1) := by decide +kernel
theorem dX11_ministry_0 : decode cX11_ministry 0 = .ok (.aload_n 0, 1) := by decide +kernel
theorem dX11_ministry_1 : decode cX11_ministry 1 = .ok (.getfield 28, 3) := by decide +kernel
theorem dX11_ministry_4 : decode cX11_ministry 4 = .ok (.aload_n 0, 1) := by decide +kernel
theorem dX11_ministry_5 : decode cX11_ministry 5 = .ok (.getfield 19, 3) := by decide +kernel
theorem dX11_ministry_8 : decode cX11_ministry 8 = .ok (.invokevirtual 111, 3) := by decide +kernel
theorem dX11_ministry_11 : decode cX11_ministry 11 = .ok (.istore_n 1, 1) := by decide +kernel
theorem dX11_ministry_12 : decode cX11_ministry 12 = .ok (.aload_n 0, 1) := by decide +kernel
theorem dX11_ministry_13 : decode cX11_ministry 13 = .ok (.getfield 10, 3) := by decide +kernel
theorem dX11_ministry_16 : decode cX11_ministry 16 = .ok (.iconst 0, 1) := by decide +kernel
theorem dX11_ministry_17 : decode cX11_ministry 17 = .ok (.putfield 97, 3) := by decide +kernel
theorem dX11_ministry_20 : decode cX11_ministry 20 = .ok (.iload_n 1, 1) := by decide +kernel
theorem dX11_ministry_21 : decode cX11_ministry 21 = .ok (.ifCond .ne 9, 3) := by decide +kernel
theorem dX11_ministry_24 : decode cX11_ministry 24 = .ok (.aload_n 0, 1) := by decide +kernel
theorem dX11_ministry_25 : decode cX11_ministry 25 = .ok (.iconst 1, 1) := by decide +kernel
theorem dX11_ministry_26 : decode cX11_ministry 26 = .ok (.invokevirtual 100, 3) := by decide +kernel
theorem dX11_ministry_29 : decode cX11_ministry 29 = .ok (.ireturn, 1) := by decide +kernel
theorem dX11_ministry_30 : decode cX11_ministry 30 = .ok (.aload_n 0, 1) := by decide +kernel
theorem dX11_ministry_31 : decode cX11_ministry 31 = .ok (.getfield 47, 3) := by decide +kernel
theorem dX11_ministry_34 : decode cX11_ministry 34 = .ok (.getfield 115, 3) := by decide +kernel
theorem dX11_ministry_37 : decode cX11_ministry 37 = .ok (.astore_n 2, 1) := by decide +kernel
theorem dX11_ministry_38 : decode cX11_ministry 38 = .ok (.aload_n 0, 1) := by decide +kernel
theorem dX11_ministry_39 : decode cX11_ministry 39 = .ok (.getfield 47, 3) := by decide +kernel
theorem dX11_ministry_42 : decode cX11_ministry 42 = .ok (.aload_n 0, 1) := by decide +kernel
theorem dX11_ministry_43 : decode cX11_ministry 43 = .ok (.getfield 19, 3) := by decide +kernel
theorem dX11_ministry_46 : decode cX11_ministry 46 = .ok (.invokevirtual 118, 3) := by decide +kernel
theorem dX11_ministry_49 : decode cX11_ministry 49 = .ok (.aload_n 0, 1) := by decide +kernel
theorem dX11_ministry_50 : decode cX11_ministry 50 = .ok (.aload_n 2, 1) := by decide +kernel
theorem dX11_ministry_51 : decode cX11_ministry 51 = .ok (.putfield 19, 3) := by decide +kernel
theorem dX11_ministry_54 : decode cX11_ministry 54 = .ok (.aload_n 0, 1) := by decide +kernel
theorem dX11_ministry_55 : decode cX11_ministry 55 = .ok (.getfield 35, 3) := by decide +kernel
theorem dX11_ministry_58 : decode cX11_ministry 58 = .ok (.aload_n 0, 1) := by decide +kernel
theorem dX11_ministry_59 : decode cX11_ministry 59 = .ok (.getfield 47, 3) := by decide +kernel
theorem dX11_ministry_62 : decode cX11_ministry 62 = .ok (.getfield 115, 3) := by decide +kernel
theorem dX11_ministry_65 : decode cX11_ministry 65 = .ok (.invokevirtual 121, 3) := by decide +kernel
theorem dX11_ministry_68 : decode cX11_ministry 68 = .ok (.aload_n 0, 1) := by decide +kernel
theorem dX11_ministry_69 : decode cX11_ministry 69 = .ok (.getfield 54, 3) := by decide +kernel
theorem dX11_ministry_72 : decode cX11_ministry 72 = .ok (.invokevirtual 124, 3) := by decide +kernel
theorem dX11_ministry_75 : decode cX11_ministry 75 = .ok (.aload_n 0, 1) := by decide +kernel
theorem dX11_ministry_76 : decode cX11_ministry 76 = .ok (.getfield 70, 3) := by decide +kernel
theorem dX11_ministry_79 : decode cX11_ministry 79 = .ok (.iconst 0, 1) := by decide +kernel
theorem dX11_ministry_80 : decode cX11_ministry 80 = .ok (.putfield 127, 3) := by decide +kernel
theorem dX11_ministry_83 : decode cX11_ministry 83 = .ok (.aload_n 0, 1) := by decide +kernel
theorem dX11_ministry_84 : decode cX11_ministry 84 = .ok (.getfield 70, 3) := by decide +kernel
theorem dX11_ministry_87 : decode cX11_ministry 87 = .ok (.invokevirtual 130, 3) := by decide +kernel
theorem dX11_ministry_90 : decode cX11_ministry 90 = .ok (.aload_n 0, 1) := by decide +kernel
theorem dX11_ministry_91 : decode cX11_ministry 91 = .ok (.getfield 47, 3) := by decide +kernel
theorem dX11_ministry_94 : decode cX11_ministry 94 = .ok (.getfield 115, 3) := by decide +kernel
theorem dX11_ministry_97 : decode cX11_ministry 97 = .ok (.getfield 133, 3) := by decide +kernel
theorem dX11_ministry_100 : decode cX11_ministry 100 = .ok (.ireturn, 1) := by decide +kernel
theorem dX11_fault_0 : decode cX11_fault 0 = .ok (.iload_n 1, 1) := by decide +kernel
theorem dX11_fault_1 : decode cX11_fault 1 = .ok (.lookupswitch 43 #[(0, 27), (1, 35)], 27) := by decide +kernel
theorem dX11_fault_28 : decode cX11_fault 28 = .ok (.aload_n 0, 1) := by decide +kernel
theorem dX11_fault_29 : decode cX11_fault 29 = .ok (.getfield 10, 3) := by decide +kernel
theorem dX11_fault_32 : decode cX11_fault 32 = .ok (.getfield 136, 3) := by decide +kernel
theorem dX11_fault_35 : decode cX11_fault 35 = .ok (.ireturn, 1) := by decide +kernel
theorem dX11_fault_36 : decode cX11_fault 36 = .ok (.aload_n 0, 1) := by decide +kernel
theorem dX11_fault_37 : decode cX11_fault 37 = .ok (.getfield 10, 3) := by decide +kernel
theorem dX11_fault_40 : decode cX11_fault 40 = .ok (.getfield 139, 3) := by decide +kernel
theorem dX11_fault_43 : decode cX11_fault 43 = .ok (.ireturn, 1) := by decide +kernel
theorem dX11_fault_44 : decode cX11_fault 44 = .ok (.iconst (-1), 1) := by decide +kernel
theorem dX11_fault_45 : decode cX11_fault 45 = .ok (.ireturn, 1) := by decide +kernel
theorem dX9_strength_0 : decode cX9_strength 0 = .ok (.iload_n 2, 1) := by decide +kernel
theorem dX9_strength_1 : decode cX9_strength 1 = .ok (.ifCond .lt 8, 3) := by decide +kernel
theorem dX9_strength_4 : decode cX9_strength 4 = .ok (.iload_n 2, 1) := by decide +kernel
theorem dX9_strength_5 : decode cX9_strength 5 = .ok (.iconst 4, 1) := by decide +kernel
theorem dX9_strength_6 : decode cX9_strength 6 = .ok (.if_icmp .lt 5, 3) := by decide +kernel
theorem dX9_strength_9 : decode cX9_strength 9 = .ok (.iconst 0, 1) := by decide +kernel
theorem dX9_strength_10 : decode cX9_strength 10 = .ok (.ireturn, 1) := by decide +kernel
theorem dX9_strength_11 : decode cX9_strength 11 = .ok (.aload_n 0, 1) := by decide +kernel
theorem dX9_strength_12 : decode cX9_strength 12 = .ok (.getfield 21, 3) := by decide +kernel
theorem dX9_strength_15 : decode cX9_strength 15 = .ok (.iload_n 2, 1) := by decide +kernel
theorem dX9_strength_16 : decode cX9_strength 16 = .ok (.laload, 1) := by decide +kernel
theorem dX9_strength_17 : decode cX9_strength 17 = .ok (.iload_n 1, 1) := by decide +kernel
theorem dX9_strength_18 : decode cX9_strength 18 = .ok (.invokestatic 51, 3) := by decide +kernel
theorem dX9_strength_21 : decode cX9_strength 21 = .ok (.ireturn, 1) := by decide +kernel
theorem dX11_allStrengths_0 : decode cX11_allStrengths 0 = .ok (.iconst 0, 1) := by decide +kernel
theorem dX11_allStrengths_1 : decode cX11_allStrengths 1 = .ok (.istore_n 1, 1) := by decide +kernel
theorem dX11_allStrengths_2 : decode cX11_allStrengths 2 = .ok (.iconst 0, 1) := by decide +kernel
theorem dX11_allStrengths_3 : decode cX11_allStrengths 3 = .ok (.istore_n 2, 1) := by decide +kernel
theorem dX11_allStrengths_4 : decode cX11_allStrengths 4 = .ok (.iload_n 2, 1) := by decide +kernel
theorem dX11_allStrengths_5 : decode cX11_allStrengths 5 = .ok (.iconst 4, 1) := by decide +kernel
theorem dX11_allStrengths_6 : decode cX11_allStrengths 6 = .ok (.if_icmp .ge 35, 3) := by decide +kernel
theorem dX11_allStrengths_9 : decode cX11_allStrengths 9 = .ok (.iconst 0, 1) := by decide +kernel
theorem dX11_allStrengths_10 : decode cX11_allStrengths 10 = .ok (.istore_n 3, 1) := by decide +kernel
theorem dX11_allStrengths_11 : decode cX11_allStrengths 11 = .ok (.iload_n 3, 1) := by decide +kernel
theorem dX11_allStrengths_12 : decode cX11_allStrengths 12 = .ok (.bipush 8, 2) := by decide +kernel
theorem dX11_allStrengths_14 : decode cX11_allStrengths 14 = .ok (.if_icmp .ge 21, 3) := by decide +kernel
theorem dX11_allStrengths_17 : decode cX11_allStrengths 17 = .ok (.iload_n 1, 1) := by decide +kernel
theorem dX11_allStrengths_18 : decode cX11_allStrengths 18 = .ok (.aload_n 0, 1) := by decide +kernel
theorem dX11_allStrengths_19 : decode cX11_allStrengths 19 = .ok (.getfield 35, 3) := by decide +kernel
theorem dX11_allStrengths_22 : decode cX11_allStrengths 22 = .ok (.iload_n 3, 1) := by decide +kernel
theorem dX11_allStrengths_23 : decode cX11_allStrengths 23 = .ok (.iload_n 2, 1) := by decide +kernel
theorem dX11_allStrengths_24 : decode cX11_allStrengths 24 = .ok (.invokevirtual 175, 3) := by decide +kernel
theorem dX11_allStrengths_27 : decode cX11_allStrengths 27 = .ok (.iadd, 1) := by decide +kernel
theorem dX11_allStrengths_28 : decode cX11_allStrengths 28 = .ok (.istore_n 1, 1) := by decide +kernel
theorem dX11_allStrengths_29 : decode cX11_allStrengths 29 = .ok (.iinc 3 1, 3) := by decide +kernel
theorem dX11_allStrengths_32 : decode cX11_allStrengths 32 = .ok (.goto (-21), 3) := by decide +kernel
theorem dX11_allStrengths_35 : decode cX11_allStrengths 35 = .ok (.iinc 2 1, 3) := by decide +kernel
theorem dX11_allStrengths_38 : decode cX11_allStrengths 38 = .ok (.goto (-34), 3) := by decide +kernel
theorem dX11_allStrengths_41 : decode cX11_allStrengths 41 = .ok (.iload_n 1, 1) := by decide +kernel
theorem dX11_allStrengths_42 : decode cX11_allStrengths 42 = .ok (.ireturn, 1) := by decide +kernel
theorem dX9_told_0 : decode cX9_told 0 = .ok (.aload_n 0, 1) := by decide +kernel
theorem dX9_told_1 : decode cX9_told 1 = .ok (.getfield 29, 3) := by decide +kernel
theorem dX9_told_4 : decode cX9_told 4 = .ok (.bipush 40, 2) := by decide +kernel
theorem dX9_told_6 : decode cX9_told 6 = .ok (.invokestatic 61, 3) := by decide +kernel
theorem dX9_told_9 : decode cX9_told 9 = .ok (.ireturn, 1) := by decide +kernel
theorem dX11_has_0 : decode cX11_has 0 = .ok (.iload_n 1, 1) := by decide +kernel
theorem dX11_has_1 : decode cX11_has 1 = .ok (.tableswitch 147 0 9 #[55, 66, 77, 88, 96, 107, 118, 123, 131, 139], 55) := by decide +kernel
theorem dX11_has_56 : decode cX11_has 56 = .ok (.aload_n 0, 1) := by decide +kernel
theorem dX11_has_57 : decode cX11_has 57 = .ok (.getfield 47, 3) := by decide +kernel
theorem dX11_has_60 : decode cX11_has 60 = .ok (.getfield 115, 3) := by decide +kernel
theorem dX11_has_63 : decode cX11_has 63 = .ok (.getfield 142, 3) := by decide +kernel
theorem dX11_has_66 : decode cX11_has 66 = .ok (.ireturn, 1) := by decide +kernel
theorem dX11_has_67 : decode cX11_has 67 = .ok (.aload_n 0, 1) := by decide +kernel
theorem dX11_has_68 : decode cX11_has 68 = .ok (.getfield 47, 3) := by decide +kernel
theorem dX11_has_71 : decode cX11_has 71 = .ok (.getfield 115, 3) := by decide +kernel
theorem dX11_has_74 : decode cX11_has 74 = .ok (.getfield 145, 3) := by decide +kernel
theorem dX11_has_77 : decode cX11_has 77 = .ok (.ireturn, 1) := by decide +kernel
theorem dX11_has_78 : decode cX11_has 78 = .ok (.aload_n 0, 1) := by decide +kernel
theorem dX11_has_79 : decode cX11_has 79 = .ok (.getfield 47, 3) := by decide +kernel
theorem dX11_has_82 : decode cX11_has 82 = .ok (.getfield 115, 3) := by decide +kernel
theorem dX11_has_85 : decode cX11_has 85 = .ok (.getfield 148, 3) := by decide +kernel
theorem dX11_has_88 : decode cX11_has 88 = .ok (.ireturn, 1) := by decide +kernel
theorem dX11_has_89 : decode cX11_has 89 = .ok (.aload_n 0, 1) := by decide +kernel
theorem dX11_has_90 : decode cX11_has 90 = .ok (.getfield 35, 3) := by decide +kernel
theorem dX11_has_93 : decode cX11_has 93 = .ok (.getfield 151, 3) := by decide +kernel
theorem dX11_has_96 : decode cX11_has 96 = .ok (.ireturn, 1) := by decide +kernel
theorem dX11_has_97 : decode cX11_has 97 = .ok (.aload_n 0, 1) := by decide +kernel
theorem dX11_has_98 : decode cX11_has 98 = .ok (.getfield 35, 3) := by decide +kernel
theorem dX11_has_101 : decode cX11_has 101 = .ok (.getfield 154, 3) := by decide +kernel
theorem dX11_has_104 : decode cX11_has 104 = .ok (.invokestatic 157, 3) := by decide +kernel
theorem dX11_has_107 : decode cX11_has 107 = .ok (.ireturn, 1) := by decide +kernel
theorem dX11_has_108 : decode cX11_has 108 = .ok (.aload_n 0, 1) := by decide +kernel
theorem dX11_has_109 : decode cX11_has 109 = .ok (.getfield 35, 3) := by decide +kernel
theorem dX11_has_112 : decode cX11_has 112 = .ok (.getfield 162, 3) := by decide +kernel
theorem dX11_has_115 : decode cX11_has 115 = .ok (.invokestatic 157, 3) := by decide +kernel
theorem dX11_has_118 : decode cX11_has 118 = .ok (.ireturn, 1) := by decide +kernel
theorem dX11_has_119 : decode cX11_has 119 = .ok (.aload_n 0, 1) := by decide +kernel
theorem dX11_has_120 : decode cX11_has 120 = .ok (.invokevirtual 165, 3) := by decide +kernel
theorem dX11_has_123 : decode cX11_has 123 = .ok (.ireturn, 1) := by decide +kernel
theorem dX11_has_124 : decode cX11_has 124 = .ok (.aload_n 0, 1) := by decide +kernel
theorem dX11_has_125 : decode cX11_has 125 = .ok (.getfield 35, 3) := by decide +kernel
theorem dX11_has_128 : decode cX11_has 128 = .ok (.invokevirtual 169, 3) := by decide +kernel
theorem dX11_has_131 : decode cX11_has 131 = .ok (.ireturn, 1) := by decide +kernel
theorem dX11_has_132 : decode cX11_has 132 = .ok (.aload_n 0, 1) := by decide +kernel
theorem dX11_has_133 : decode cX11_has 133 = .ok (.getfield 70, 3) := by decide +kernel
theorem dX11_has_136 : decode cX11_has 136 = .ok (.getfield 127, 3) := by decide +kernel
theorem dX11_has_139 : decode cX11_has 139 = .ok (.ireturn, 1) := by decide +kernel
theorem dX11_has_140 : decode cX11_has 140 = .ok (.aload_n 0, 1) := by decide +kernel
theorem dX11_has_141 : decode cX11_has 141 = .ok (.getfield 54, 3) := by decide +kernel
theorem dX11_has_144 : decode cX11_has 144 = .ok (.getfield 172, 3) := by decide +kernel
theorem dX11_has_147 : decode cX11_has 147 = .ok (.ireturn, 1) := by decide +kernel
theorem dX11_has_148 : decode cX11_has 148 = .ok (.iconst (-1), 1) := by decide +kernel
theorem dX11_has_149 : decode cX11_has 149 = .ok (.ireturn, 1) := by decide +kernel
theorem dX11_isOfficer_0 : decode cX11_isOfficer 0 = .ok (.iload_n 1, 1) := by decide +kernel
theorem dX11_isOfficer_1 : decode cX11_isOfficer 1 = .ok (.ifCond .lt 21, 3) := by decide +kernel
theorem dX11_isOfficer_4 : decode cX11_isOfficer 4 = .ok (.iload_n 1, 1) := by decide +kernel
theorem dX11_isOfficer_5 : decode cX11_isOfficer 5 = .ok (.aload_n 0, 1) := by decide +kernel
theorem dX11_isOfficer_6 : decode cX11_isOfficer 6 = .ok (.getfield 47, 3) := by decide +kernel
theorem dX11_isOfficer_9 : decode cX11_isOfficer 9 = .ok (.getfield 115, 3) := by decide +kernel
theorem dX11_isOfficer_12 : decode cX11_isOfficer 12 = .ok (.getfield 142, 3) := by decide +kernel
theorem dX11_isOfficer_15 : decode cX11_isOfficer 15 = .ok (.if_icmp .ge 7, 3) := by decide +kernel
theorem dX11_isOfficer_18 : decode cX11_isOfficer 18 = .ok (.iconst 1, 1) := by decide +kernel
theorem dX11_isOfficer_19 : decode cX11_isOfficer 19 = .ok (.goto 4, 3) := by decide +kernel
theorem dX11_isOfficer_22 : decode cX11_isOfficer 22 = .ok (.iconst 0, 1) := by decide +kernel
theorem dX11_isOfficer_23 : decode cX11_isOfficer 23 = .ok (.ireturn, 1) := by decide +kernel
theorem dX11_isFeeling_0 : decode cX11_isFeeling 0 = .ok (.iload_n 1, 1) := by decide +kernel
theorem dX11_isFeeling_1 : decode cX11_isFeeling 1 = .ok (.ifCond .lt 21, 3) := by decide +kernel
theorem dX11_isFeeling_4 : decode cX11_isFeeling 4 = .ok (.iload_n 1, 1) := by decide +kernel
theorem dX11_isFeeling_5 : decode cX11_isFeeling 5 = .ok (.aload_n 0, 1) := by decide +kernel
theorem dX11_isFeeling_6 : decode cX11_isFeeling 6 = .ok (.getfield 47, 3) := by decide +kernel
theorem dX11_isFeeling_9 : decode cX11_isFeeling 9 = .ok (.getfield 115, 3) := by decide +kernel
theorem dX11_isFeeling_12 : decode cX11_isFeeling 12 = .ok (.getfield 145, 3) := by decide +kernel
theorem dX11_isFeeling_15 : decode cX11_isFeeling 15 = .ok (.if_icmp .ge 7, 3) := by decide +kernel
theorem dX11_isFeeling_18 : decode cX11_isFeeling 18 = .ok (.iconst 1, 1) := by decide +kernel
theorem dX11_isFeeling_19 : decode cX11_isFeeling 19 = .ok (.goto 4, 3) := by decide +kernel
theorem dX11_isFeeling_22 : decode cX11_isFeeling 22 = .ok (.iconst 0, 1) := by decide +kernel
theorem dX11_isFeeling_23 : decode cX11_isFeeling 23 = .ok (.ireturn, 1) := by decide +kernel
theorem dX11_letter_0 : decode cX11_letter 0 = .ok (.iload_n 3, 1) := by decide +kernel
theorem dX11_letter_1 : decode cX11_letter 1 = .ok (.ifCond .lt 9, 3) := by decide +kernel
theorem dX11_letter_4 : decode cX11_letter 4 = .ok (.iload_n 3, 1) := by decide +kernel
theorem dX11_letter_5 : decode cX11_letter 5 = .ok (.bipush 6, 2) := by decide +kernel
theorem dX11_letter_7 : decode cX11_letter 7 = .ok (.if_icmp .lt 5, 3) := by decide +kernel
theorem dX11_letter_10 : decode cX11_letter 10 = .ok (.iconst (-1), 1) := by decide +kernel
theorem dX11_letter_11 : decode cX11_letter 11 = .ok (.ireturn, 1) := by decide +kernel
theorem dX11_letter_12 : decode cX11_letter 12 = .ok (.iconst 5, 1) := by decide +kernel
theorem dX11_letter_13 : decode cX11_letter 13 = .ok (.iconst 5, 1) := by decide +kernel
theorem dX11_letter_14 : decode cX11_letter 14 = .ok (.iload_n 3, 1) := by decide +kernel
theorem dX11_letter_15 : decode cX11_letter 15 = .ok (.isub, 1) := by decide +kernel
theorem dX11_letter_16 : decode cX11_letter 16 = .ok (.imul, 1) := by decide +kernel
theorem dX11_letter_17 : decode cX11_letter 17 = .ok (.istore 4, 2) := by decide +kernel
theorem dX11_letter_19 : decode cX11_letter 19 = .ok (.iload_n 1, 1) := by decide +kernel
theorem dX11_letter_20 : decode cX11_letter 20 = .ok (.ifCond .ne 30, 3) := by decide +kernel
theorem dX11_letter_23 : decode cX11_letter 23 = .ok (.aload_n 0, 1) := by decide +kernel
theorem dX11_letter_24 : decode cX11_letter 24 = .ok (.iload_n 2, 1) := by decide +kernel
theorem dX11_letter_25 : decode cX11_letter 25 = .ok (.invokevirtual 179, 3) := by decide +kernel
theorem dX11_letter_28 : decode cX11_letter 28 = .ok (.ifCond .eq 22, 3) := by decide +kernel
theorem dX11_letter_31 : decode cX11_letter 31 = .ok (.aload_n 0, 1) := by decide +kernel
theorem dX11_letter_32 : decode cX11_letter 32 = .ok (.getfield 47, 3) := by decide +kernel
theorem dX11_letter_35 : decode cX11_letter 35 = .ok (.getfield 115, 3) := by decide +kernel
theorem dX11_letter_38 : decode cX11_letter 38 = .ok (.getfield 182, 3) := by decide +kernel
theorem dX11_letter_41 : decode cX11_letter 41 = .ok (.iload_n 2, 1) := by decide +kernel
theorem dX11_letter_42 : decode cX11_letter 42 = .ok (.iaload, 1) := by decide +kernel
theorem dX11_letter_43 : decode cX11_letter 43 = .ok (.iload 4, 2) := by decide +kernel
theorem dX11_letter_45 : decode cX11_letter 45 = .ok (.ishr, 1) := by decide +kernel
theorem dX11_letter_46 : decode cX11_letter 46 = .ok (.bipush 31, 2) := by decide +kernel
theorem dX11_letter_48 : decode cX11_letter 48 = .ok (.iand, 1) := by decide +kernel
theorem dX11_letter_49 : decode cX11_letter 49 = .ok (.ireturn, 1) := by decide +kernel
theorem dX11_letter_50 : decode cX11_letter 50 = .ok (.iload_n 1, 1) := by decide +kernel
theorem dX11_letter_51 : decode cX11_letter 51 = .ok (.iconst 1, 1) := by decide +kernel
theorem dX11_letter_52 : decode cX11_letter 52 = .ok (.if_icmp .ne 30, 3) := by decide +kernel
theorem dX11_letter_55 : decode cX11_letter 55 = .ok (.aload_n 0, 1) := by decide +kernel
theorem dX11_letter_56 : decode cX11_letter 56 = .ok (.iload_n 2, 1) := by decide +kernel
theorem dX11_letter_57 : decode cX11_letter 57 = .ok (.invokevirtual 185, 3) := by decide +kernel
theorem dX11_letter_60 : decode cX11_letter 60 = .ok (.ifCond .eq 22, 3) := by decide +kernel
theorem dX11_letter_63 : decode cX11_letter 63 = .ok (.aload_n 0, 1) := by decide +kernel
theorem dX11_letter_64 : decode cX11_letter 64 = .ok (.getfield 47, 3) := by decide +kernel
theorem dX11_letter_67 : decode cX11_letter 67 = .ok (.getfield 115, 3) := by decide +kernel
theorem dX11_letter_70 : decode cX11_letter 70 = .ok (.getfield 188, 3) := by decide +kernel
theorem dX11_letter_73 : decode cX11_letter 73 = .ok (.iload_n 2, 1) := by decide +kernel
theorem dX11_letter_74 : decode cX11_letter 74 = .ok (.iaload, 1) := by decide +kernel
theorem dX11_letter_75 : decode cX11_letter 75 = .ok (.iload 4, 2) := by decide +kernel
theorem dX11_letter_77 : decode cX11_letter 77 = .ok (.ishr, 1) := by decide +kernel
theorem dX11_letter_78 : decode cX11_letter 78 = .ok (.bipush 31, 2) := by decide +kernel
theorem dX11_letter_80 : decode cX11_letter 80 = .ok (.iand, 1) := by decide +kernel
theorem dX11_letter_81 : decode cX11_letter 81 = .ok (.ireturn, 1) := by decide +kernel
theorem dX11_letter_82 : decode cX11_letter 82 = .ok (.iconst (-1), 1) := by decide +kernel
theorem dX11_letter_83 : decode cX11_letter 83 = .ok (.ireturn, 1) := by decide +kernel
theorem dX8_isIn_0 : decode cX8_isIn 0 = .ok (.aload_n 0, 1) := by decide +kernel
theorem dX8_isIn_1 : decode cX8_isIn 1 = .ok (.getfield 36, 3) := by decide +kernel
theorem dX8_isIn_4 : decode cX8_isIn 4 = .ok (.getfield 40, 3) := by decide +kernel
theorem dX8_isIn_7 : decode cX8_isIn 7 = .ok (.iload_n 1, 1) := by decide +kernel
theorem dX8_isIn_8 : decode cX8_isIn 8 = .ok (.ishr, 1) := by decide +kernel
theorem dX8_isIn_9 : decode cX8_isIn 9 = .ok (.iconst 1, 1) := by decide +kernel
theorem dX8_isIn_10 : decode cX8_isIn 10 = .ok (.iand, 1) := by decide +kernel
theorem dX8_isIn_11 : decode cX8_isIn 11 = .ok (.iconst 1, 1) := by decide +kernel
theorem dX8_isIn_12 : decode cX8_isIn 12 = .ok (.if_icmp .ne 7, 3) := by decide +kernel
theorem dX8_isIn_15 : decode cX8_isIn 15 = .ok (.iconst 1, 1) := by decide +kernel
theorem dX8_isIn_16 : decode cX8_isIn 16 = .ok (.goto 4, 3) := by decide +kernel
theorem dX8_isIn_19 : decode cX8_isIn 19 = .ok (.iconst 0, 1) := by decide +kernel
theorem dX8_isIn_20 : decode cX8_isIn 20 = .ok (.ireturn, 1) := by decide +kernel
theorem dX3_giver_0 : decode cX3_giver 0 = .ok (.iload_n 1, 1) := by decide +kernel
theorem dX3_giver_1 : decode cX3_giver 1 = .ok (.ifCond .lt 9, 3) := by decide +kernel
theorem dX3_giver_4 : decode cX3_giver 4 = .ok (.iload_n 1, 1) := by decide +kernel
theorem dX3_giver_5 : decode cX3_giver 5 = .ok (.bipush 12, 2) := by decide +kernel
theorem dX3_giver_7 : decode cX3_giver 7 = .ok (.if_icmp .lt 5, 3) := by decide +kernel
theorem dX3_giver_10 : decode cX3_giver 10 = .ok (.iconst 0, 1) := by decide +kernel
theorem dX3_giver_11 : decode cX3_giver 11 = .ok (.ireturn, 1) := by decide +kernel
theorem dX3_giver_12 : decode cX3_giver 12 = .ok (.iload_n 2, 1) := by decide +kernel
theorem dX3_giver_13 : decode cX3_giver 13 = .ok (.iload_n 1, 1) := by decide +kernel
theorem dX3_giver_14 : decode cX3_giver 14 = .ok (.ishr, 1) := by decide +kernel
theorem dX3_giver_15 : decode cX3_giver 15 = .ok (.iconst 1, 1) := by decide +kernel
theorem dX3_giver_16 : decode cX3_giver 16 = .ok (.iand, 1) := by decide +kernel
theorem dX3_giver_17 : decode cX3_giver 17 = .ok (.ifCond .ne 15, 3) := by decide +kernel
theorem dX3_giver_20 : decode cX3_giver 20 = .ok (.aload_n 0, 1) := by decide +kernel
theorem dX3_giver_21 : decode cX3_giver 21 = .ok (.getfield 28, 3) := by decide +kernel
theorem dX3_giver_24 : decode cX3_giver 24 = .ok (.getfield 38, 3) := by decide +kernel
theorem dX3_giver_27 : decode cX3_giver 27 = .ok (.iload_n 1, 1) := by decide +kernel
theorem dX3_giver_28 : decode cX3_giver 28 = .ok (.iaload, 1) := by decide +kernel
theorem dX3_giver_29 : decode cX3_giver 29 = .ok (.goto 12, 3) := by decide +kernel
theorem dX3_giver_32 : decode cX3_giver 32 = .ok (.aload_n 0, 1) := by decide +kernel
theorem dX3_giver_33 : decode cX3_giver 33 = .ok (.getfield 28, 3) := by decide +kernel
theorem dX3_giver_36 : decode cX3_giver 36 = .ok (.getfield 41, 3) := by decide +kernel
theorem dX3_giver_39 : decode cX3_giver 39 = .ok (.iload_n 1, 1) := by decide +kernel
theorem dX3_giver_40 : decode cX3_giver 40 = .ok (.iaload, 1) := by decide +kernel
theorem dX3_giver_41 : decode cX3_giver 41 = .ok (.ireturn, 1) := by decide +kernel
theorem dX8_countFrom__0 : decode cX8_countFrom_ 0 = .ok (.iconst 0, 1) := by decide +kernel
theorem dX8_countFrom__1 : decode cX8_countFrom_ 1 = .ok (.istore_n 3, 1) := by decide +kernel
theorem dX8_countFrom__2 : decode cX8_countFrom_ 2 = .ok (.iconst 0, 1) := by decide +kernel
theorem dX8_countFrom__3 : decode cX8_countFrom_ 3 = .ok (.istore 4, 2) := by decide +kernel
theorem dX8_countFrom__5 : decode cX8_countFrom_ 5 = .ok (.iload 4, 2) := by decide +kernel
theorem dX8_countFrom__7 : decode cX8_countFrom_ 7 = .ok (.aload_n 0, 1) := by decide +kernel
theorem dX8_countFrom__8 : decode cX8_countFrom_ 8 = .ok (.getfield 32, 3) := by decide +kernel
theorem dX8_countFrom__11 : decode cX8_countFrom_ 11 = .ok (.getfield 52, 3) := by decide +kernel
theorem dX8_countFrom__14 : decode cX8_countFrom_ 14 = .ok (.getfield 58, 3) := by decide +kernel
theorem dX8_countFrom__17 : decode cX8_countFrom_ 17 = .ok (.if_icmp .ge 35, 3) := by decide +kernel
theorem dX8_countFrom__20 : decode cX8_countFrom_ 20 = .ok (.aload_n 0, 1) := by decide +kernel
theorem dX8_countFrom__21 : decode cX8_countFrom_ 21 = .ok (.iload 4, 2) := by decide +kernel
theorem dX8_countFrom__23 : decode cX8_countFrom_ 23 = .ok (.invokevirtual 63, 3) := by decide +kernel
theorem dX8_countFrom__26 : decode cX8_countFrom_ 26 = .ok (.ifCond .eq 20, 3) := by decide +kernel
theorem dX8_countFrom__29 : decode cX8_countFrom_ 29 = .ok (.aload_n 0, 1) := by decide +kernel
theorem dX8_countFrom__30 : decode cX8_countFrom_ 30 = .ok (.getfield 32, 3) := by decide +kernel
theorem dX8_countFrom__33 : decode cX8_countFrom_ 33 = .ok (.iload 4, 2) := by decide +kernel
theorem dX8_countFrom__35 : decode cX8_countFrom_ 35 = .ok (.iload_n 2, 1) := by decide +kernel
theorem dX8_countFrom__36 : decode cX8_countFrom_ 36 = .ok (.invokevirtual 67, 3) := by decide +kernel
theorem dX8_countFrom__39 : decode cX8_countFrom_ 39 = .ok (.iload_n 1, 1) := by decide +kernel
theorem dX8_countFrom__40 : decode cX8_countFrom_ 40 = .ok (.if_icmp .ne 6, 3) := by decide +kernel
theorem dX8_countFrom__43 : decode cX8_countFrom_ 43 = .ok (.iinc 3 1, 3) := by decide +kernel
theorem dX8_countFrom__46 : decode cX8_countFrom_ 46 = .ok (.iinc 4 1, 3) := by decide +kernel
theorem dX8_countFrom__49 : decode cX8_countFrom_ 49 = .ok (.goto (-44), 3) := by decide +kernel
theorem dX8_countFrom__52 : decode cX8_countFrom_ 52 = .ok (.iload_n 3, 1) := by decide +kernel
theorem dX8_countFrom__53 : decode cX8_countFrom_ 53 = .ok (.ireturn, 1) := by decide +kernel
theorem dX8_countTo_0 : decode cX8_countTo 0 = .ok (.aload_n 0, 1) := by decide +kernel
theorem dX8_countTo_1 : decode cX8_countTo 1 = .ok (.iload_n 1, 1) := by decide +kernel
theorem dX8_countTo_2 : decode cX8_countTo 2 = .ok (.aload_n 0, 1) := by decide +kernel
theorem dX8_countTo_3 : decode cX8_countTo 3 = .ok (.getfield 36, 3) := by decide +kernel
theorem dX8_countTo_6 : decode cX8_countTo 6 = .ok (.getfield 45, 3) := by decide +kernel
theorem dX8_countTo_9 : decode cX8_countTo 9 = .ok (.iconst (-1), 1) := by decide +kernel
theorem dX8_countTo_10 : decode cX8_countTo 10 = .ok (.ixor, 1) := by decide +kernel
theorem dX8_countTo_11 : decode cX8_countTo 11 = .ok (.invokevirtual 48, 3) := by decide +kernel
theorem dX8_countTo_14 : decode cX8_countTo 14 = .ok (.ireturn, 1) := by decide +kernel
theorem dX8_countFrom_0 : decode cX8_countFrom 0 = .ok (.aload_n 0, 1) := by decide +kernel
theorem dX8_countFrom_1 : decode cX8_countFrom 1 = .ok (.iload_n 1, 1) := by decide +kernel
theorem dX8_countFrom_2 : decode cX8_countFrom 2 = .ok (.aload_n 0, 1) := by decide +kernel
theorem dX8_countFrom_3 : decode cX8_countFrom 3 = .ok (.getfield 36, 3) := by decide +kernel
theorem dX8_countFrom_6 : decode cX8_countFrom 6 = .ok (.getfield 45, 3) := by decide +kernel
theorem dX8_countFrom_9 : decode cX8_countFrom 9 = .ok (.invokevirtual 48, 3) := by decide +kernel
theorem dX8_countFrom_12 : decode cX8_countFrom 12 = .ok (.ireturn, 1) := by decide +kernel
theorem dX11_officer_0 : decode cX11_officer 0 = .ok (.aload_n 0, 1) := by decide +kernel
theorem dX11_officer_1 : decode cX11_officer 1 = .ok (.iload_n 1, 1) := by decide +kernel
theorem dX11_officer_2 : decode cX11_officer 2 = .ok (.invokevirtual 179, 3) := by decide +kernel
theorem dX11_officer_5 : decode cX11_officer 5 = .ok (.ifCond .ne 5, 3) := by decide +kernel
theorem dX11_officer_8 : decode cX11_officer 8 = .ok (.iconst (-1), 1) := by decide +kernel
theorem dX11_officer_9 : decode cX11_officer 9 = .ok (.ireturn, 1) := by decide +kernel
theorem dX11_officer_10 : decode cX11_officer 10 = .ok (.iload_n 2, 1) := by decide +kernel
theorem dX11_officer_11 : decode cX11_officer 11 = .ok (.tableswitch 73 0 3 #[29, 42, 55, 64], 29) := by decide +kernel
theorem dX11_officer_40 : decode cX11_officer 40 = .ok (.aload_n 0, 1) := by decide +kernel
theorem dX11_officer_41 : decode cX11_officer 41 = .ok (.getfield 47, 3) := by decide +kernel
theorem dX11_officer_44 : decode cX11_officer 44 = .ok (.getfield 115, 3) := by decide +kernel
theorem dX11_officer_47 : decode cX11_officer 47 = .ok (.getfield 191, 3) := by decide +kernel
theorem dX11_officer_50 : decode cX11_officer 50 = .ok (.iload_n 1, 1) := by decide +kernel
theorem dX11_officer_51 : decode cX11_officer 51 = .ok (.iaload, 1) := by decide +kernel
theorem dX11_officer_52 : decode cX11_officer 52 = .ok (.ireturn, 1) := by decide +kernel
theorem dX11_officer_53 : decode cX11_officer 53 = .ok (.aload_n 0, 1) := by decide +kernel
theorem dX11_officer_54 : decode cX11_officer 54 = .ok (.getfield 47, 3) := by decide +kernel
theorem dX11_officer_57 : decode cX11_officer 57 = .ok (.getfield 115, 3) := by decide +kernel
theorem dX11_officer_60 : decode cX11_officer 60 = .ok (.getfield 194, 3) := by decide +kernel
theorem dX11_officer_63 : decode cX11_officer 63 = .ok (.iload_n 1, 1) := by decide +kernel
theorem dX11_officer_64 : decode cX11_officer 64 = .ok (.iaload, 1) := by decide +kernel
theorem dX11_officer_65 : decode cX11_officer 65 = .ok (.ireturn, 1) := by decide +kernel
theorem dX11_officer_66 : decode cX11_officer 66 = .ok (.aload_n 0, 1) := by decide +kernel
theorem dX11_officer_67 : decode cX11_officer 67 = .ok (.getfield 63, 3) := by decide +kernel
theorem dX11_officer_70 : decode cX11_officer 70 = .ok (.iload_n 1, 1) := by decide +kernel
theorem dX11_officer_71 : decode cX11_officer 71 = .ok (.invokevirtual 197, 3) := by decide +kernel
theorem dX11_officer_74 : decode cX11_officer 74 = .ok (.ireturn, 1) := by decide +kernel
theorem dX11_officer_75 : decode cX11_officer 75 = .ok (.aload_n 0, 1) := by decide +kernel
theorem dX11_officer_76 : decode cX11_officer 76 = .ok (.getfield 63, 3) := by decide +kernel
theorem dX11_officer_79 : decode cX11_officer 79 = .ok (.iload_n 1, 1) := by decide +kernel
theorem dX11_officer_80 : decode cX11_officer 80 = .ok (.invokevirtual 200, 3) := by decide +kernel
theorem dX11_officer_83 : decode cX11_officer 83 = .ok (.ireturn, 1) := by decide +kernel
theorem dX11_officer_84 : decode cX11_officer 84 = .ok (.iconst (-1), 1) := by decide +kernel
theorem dX11_officer_85 : decode cX11_officer 85 = .ok (.ireturn, 1) := by decide +kernel
theorem dX11_isCarbon_0 : decode cX11_isCarbon 0 = .ok (.iload_n 1, 1) := by decide +kernel
