theorem dX11_image_141 : decode cX11_image 141 = .ok (.getfield 87, 3) := by decide +kernel
theorem dX11_image_144 : decode cX11_image 144 = .ok (.if_icmp .ge 24, 3) := by decide +kernel
theorem dX11_image_147 : decode cX11_image 147 = .ok (.iconst 3, 1) := by decide +kernel
theorem dX11_image_148 : decode cX11_image 148 = .ok (.iload_n 2, 1) := by decide +kernel
theorem dX11_image_149 : decode cX11_image 149 = .ok (.imul, 1) := by decide +kernel
theorem dX11_image_150 : decode cX11_image 150 = .ok (.aload_n 0, 1) := by decide +kernel
theorem dX11_image_151 : decode cX11_image 151 = .ok (.getfield 83, 3) := by decide +kernel
theorem dX11_image_154 : decode cX11_image 154 = .ok (.iload_n 3, 1) := by decide +kernel
theorem dX11_image_155 : decode cX11_image 155 = .ok (.iaload, 1) := by decide +kernel
theorem dX11_image_156 : decode cX11_image 156 = .ok (.iadd, 1) := by decide +kernel
theorem dX11_image_157 : decode cX11_image 157 = .ok (.sipush 251, 3) := by decide +kernel
theorem dX11_image_160 : decode cX11_image 160 = .ok (.irem, 1) := by decide +kernel
theorem dX11_image_161 : decode cX11_image 161 = .ok (.istore_n 2, 1) := by decide +kernel
theorem dX11_image_162 : decode cX11_image 162 = .ok (.iinc 3 1, 3) := by decide +kernel
theorem dX11_image_165 : decode cX11_image 165 = .ok (.goto (-26), 3) := by decide +kernel
theorem dX11_image_168 : decode cX11_image 168 = .ok (.aload_n 0, 1) := by decide +kernel
theorem dX11_image_169 : decode cX11_image 169 = .ok (.iload_n 2, 1) := by decide +kernel
theorem dX11_image_170 : decode cX11_image 170 = .ok (.invokevirtual 316, 3) := by decide +kernel
theorem dX11_image_173 : decode cX11_image 173 = .ok (.aload_n 0, 1) := by decide +kernel
theorem dX11_image_174 : decode cX11_image 174 = .ok (.getfield 87, 3) := by decide +kernel
theorem dX11_image_177 : decode cX11_image 177 = .ok (.ireturn, 1) := by decide +kernel
theorem dX11_octet_0 : decode cX11_octet 0 = .ok (.iload_n 1, 1) := by decide +kernel
theorem dX11_octet_1 : decode cX11_octet 1 = .ok (.ifCond .lt 20, 3) := by decide +kernel
theorem dX11_octet_4 : decode cX11_octet 4 = .ok (.iload_n 1, 1) := by decide +kernel
theorem dX11_octet_5 : decode cX11_octet 5 = .ok (.aload_n 0, 1) := by decide +kernel
theorem dX11_octet_6 : decode cX11_octet 6 = .ok (.getfield 87, 3) := by decide +kernel
theorem dX11_octet_9 : decode cX11_octet 9 = .ok (.if_icmp .ge 12, 3) := by decide +kernel
theorem dX11_octet_12 : decode cX11_octet 12 = .ok (.aload_n 0, 1) := by decide +kernel
theorem dX11_octet_13 : decode cX11_octet 13 = .ok (.getfield 83, 3) := by decide +kernel
theorem dX11_octet_16 : decode cX11_octet 16 = .ok (.iload_n 1, 1) := by decide +kernel
theorem dX11_octet_17 : decode cX11_octet 17 = .ok (.iaload, 1) := by decide +kernel
theorem dX11_octet_18 : decode cX11_octet 18 = .ok (.goto 4, 3) := by decide +kernel
theorem dX11_octet_21 : decode cX11_octet 21 = .ok (.iconst (-1), 1) := by decide +kernel
theorem dX11_octet_22 : decode cX11_octet 22 = .ok (.ireturn, 1) := by decide +kernel
theorem dX11_isImage_0 : decode cX11_isImage 0 = .ok (.aload_n 0, 1) := by decide +kernel
theorem dX11_isImage_1 : decode cX11_isImage 1 = .ok (.getfield 47, 3) := by decide +kernel
theorem dX11_isImage_4 : decode cX11_isImage 4 = .ok (.getfield 115, 3) := by decide +kernel
theorem dX11_isImage_7 : decode cX11_isImage 7 = .ok (.astore_n 1, 1) := by decide +kernel
theorem dX11_isImage_8 : decode cX11_isImage 8 = .ok (.iconst 2, 1) := by decide +kernel
theorem dX11_isImage_9 : decode cX11_isImage 9 = .ok (.iconst 2, 1) := by decide +kernel
theorem dX11_isImage_10 : decode cX11_isImage 10 = .ok (.aload_n 1, 1) := by decide +kernel
theorem dX11_isImage_11 : decode cX11_isImage 11 = .ok (.getfield 148, 3) := by decide +kernel
theorem dX11_isImage_14 : decode cX11_isImage 14 = .ok (.imul, 1) := by decide +kernel
theorem dX11_isImage_15 : decode cX11_isImage 15 = .ok (.iadd, 1) := by decide +kernel
theorem dX11_isImage_16 : decode cX11_isImage 16 = .ok (.istore_n 2, 1) := by decide +kernel
theorem dX11_isImage_17 : decode cX11_isImage 17 = .ok (.iload_n 2, 1) := by decide +kernel
theorem dX11_isImage_18 : decode cX11_isImage 18 = .ok (.aload_n 1, 1) := by decide +kernel
theorem dX11_isImage_19 : decode cX11_isImage 19 = .ok (.getfield 142, 3) := by decide +kernel
theorem dX11_isImage_22 : decode cX11_isImage 22 = .ok (.aload_n 1, 1) := by decide +kernel
theorem dX11_isImage_23 : decode cX11_isImage 23 = .ok (.getfield 145, 3) := by decide +kernel
theorem dX11_isImage_26 : decode cX11_isImage 26 = .ok (.imul, 1) := by decide +kernel
theorem dX11_isImage_27 : decode cX11_isImage 27 = .ok (.iadd, 1) := by decide +kernel
theorem dX11_isImage_28 : decode cX11_isImage 28 = .ok (.istore_n 3, 1) := by decide +kernel
theorem dX11_isImage_29 : decode cX11_isImage 29 = .ok (.aload_n 0, 1) := by decide +kernel
theorem dX11_isImage_30 : decode cX11_isImage 30 = .ok (.getfield 10, 3) := by decide +kernel
theorem dX11_isImage_33 : decode cX11_isImage 33 = .ok (.getfield 97, 3) := by decide +kernel
theorem dX11_isImage_36 : decode cX11_isImage 36 = .ok (.iload_n 3, 1) := by decide +kernel
theorem dX11_isImage_37 : decode cX11_isImage 37 = .ok (.iconst 1, 1) := by decide +kernel
theorem dX11_isImage_38 : decode cX11_isImage 38 = .ok (.iadd, 1) := by decide +kernel
theorem dX11_isImage_39 : decode cX11_isImage 39 = .ok (.if_icmp .ne 30, 3) := by decide +kernel
theorem dX11_isImage_42 : decode cX11_isImage 42 = .ok (.sipush 256, 3) := by decide +kernel
theorem dX11_isImage_45 : decode cX11_isImage 45 = .ok (.aload_n 0, 1) := by decide +kernel
theorem dX11_isImage_46 : decode cX11_isImage 46 = .ok (.getfield 10, 3) := by decide +kernel
theorem dX11_isImage_49 : decode cX11_isImage 49 = .ok (.iconst 0, 1) := by decide +kernel
theorem dX11_isImage_50 : decode cX11_isImage 50 = .ok (.invokevirtual 325, 3) := by decide +kernel
theorem dX11_isImage_53 : decode cX11_isImage 53 = .ok (.imul, 1) := by decide +kernel
theorem dX11_isImage_54 : decode cX11_isImage 54 = .ok (.aload_n 0, 1) := by decide +kernel
theorem dX11_isImage_55 : decode cX11_isImage 55 = .ok (.getfield 10, 3) := by decide +kernel
theorem dX11_isImage_58 : decode cX11_isImage 58 = .ok (.iconst 1, 1) := by decide +kernel
theorem dX11_isImage_59 : decode cX11_isImage 59 = .ok (.invokevirtual 325, 3) := by decide +kernel
theorem dX11_isImage_62 : decode cX11_isImage 62 = .ok (.iadd, 1) := by decide +kernel
theorem dX11_isImage_63 : decode cX11_isImage 63 = .ok (.sipush 999, 3) := by decide +kernel
theorem dX11_isImage_66 : decode cX11_isImage 66 = .ok (.if_icmp .le 5, 3) := by decide +kernel
theorem dX11_isImage_69 : decode cX11_isImage 69 = .ok (.iconst 0, 1) := by decide +kernel
theorem dX11_isImage_70 : decode cX11_isImage 70 = .ok (.ireturn, 1) := by decide +kernel
theorem dX11_isImage_71 : decode cX11_isImage 71 = .ok (.sipush 241, 3) := by decide +kernel
theorem dX11_isImage_74 : decode cX11_isImage 74 = .ok (.istore 4, 2) := by decide +kernel
theorem dX11_isImage_76 : decode cX11_isImage 76 = .ok (.iconst 0, 1) := by decide +kernel
theorem dX11_isImage_77 : decode cX11_isImage 77 = .ok (.istore 5, 2) := by decide +kernel
theorem dX11_isImage_79 : decode cX11_isImage 79 = .ok (.iload 5, 2) := by decide +kernel
theorem dX11_isImage_81 : decode cX11_isImage 81 = .ok (.iload_n 3, 1) := by decide +kernel
theorem dX11_isImage_82 : decode cX11_isImage 82 = .ok (.if_icmp .ge 58, 3) := by decide +kernel
theorem dX11_isImage_85 : decode cX11_isImage 85 = .ok (.aload_n 0, 1) := by decide +kernel
theorem dX11_isImage_86 : decode cX11_isImage 86 = .ok (.getfield 10, 3) := by decide +kernel
theorem dX11_isImage_89 : decode cX11_isImage 89 = .ok (.iload 5, 2) := by decide +kernel
theorem dX11_isImage_91 : decode cX11_isImage 91 = .ok (.invokevirtual 325, 3) := by decide +kernel
theorem dX11_isImage_94 : decode cX11_isImage 94 = .ok (.istore 6, 2) := by decide +kernel
theorem dX11_isImage_96 : decode cX11_isImage 96 = .ok (.iload 5, 2) := by decide +kernel
theorem dX11_isImage_98 : decode cX11_isImage 98 = .ok (.iconst 2, 1) := by decide +kernel
theorem dX11_isImage_99 : decode cX11_isImage 99 = .ok (.if_icmp .lt 22, 3) := by decide +kernel
theorem dX11_isImage_102 : decode cX11_isImage 102 = .ok (.iload 6, 2) := by decide +kernel
theorem dX11_isImage_104 : decode cX11_isImage 104 = .ok (.iload 5, 2) := by decide +kernel
theorem dX11_isImage_106 : decode cX11_isImage 106 = .ok (.iload_n 2, 1) := by decide +kernel
theorem dX11_isImage_107 : decode cX11_isImage 107 = .ok (.if_icmp .ge 7, 3) := by decide +kernel
theorem dX11_isImage_110 : decode cX11_isImage 110 = .ok (.iconst 1, 1) := by decide +kernel
theorem dX11_isImage_111 : decode cX11_isImage 111 = .ok (.goto 5, 3) := by decide +kernel
theorem dX11_isImage_114 : decode cX11_isImage 114 = .ok (.bipush 99, 2) := by decide +kernel
theorem dX11_isImage_116 : decode cX11_isImage 116 = .ok (.if_icmp .le 5, 3) := by decide +kernel
theorem dX11_isImage_119 : decode cX11_isImage 119 = .ok (.iconst 0, 1) := by decide +kernel
theorem dX11_isImage_120 : decode cX11_isImage 120 = .ok (.ireturn, 1) := by decide +kernel
theorem dX11_isImage_121 : decode cX11_isImage 121 = .ok (.iconst 3, 1) := by decide +kernel
theorem dX11_isImage_122 : decode cX11_isImage 122 = .ok (.iload 4, 2) := by decide +kernel
theorem dX11_isImage_124 : decode cX11_isImage 124 = .ok (.imul, 1) := by decide +kernel
theorem dX11_isImage_125 : decode cX11_isImage 125 = .ok (.iload 6, 2) := by decide +kernel
theorem dX11_isImage_127 : decode cX11_isImage 127 = .ok (.iadd, 1) := by decide +kernel
theorem dX11_isImage_128 : decode cX11_isImage 128 = .ok (.sipush 251, 3) := by decide +kernel
theorem dX11_isImage_131 : decode cX11_isImage 131 = .ok (.irem, 1) := by decide +kernel
theorem dX11_isImage_132 : decode cX11_isImage 132 = .ok (.istore 4, 2) := by decide +kernel
theorem dX11_isImage_134 : decode cX11_isImage 134 = .ok (.iinc 5 1, 3) := by decide +kernel
theorem dX11_isImage_137 : decode cX11_isImage 137 = .ok (.goto (-58), 3) := by decide +kernel
theorem dX11_isImage_140 : decode cX11_isImage 140 = .ok (.iload 4, 2) := by decide +kernel
theorem dX11_isImage_142 : decode cX11_isImage 142 = .ok (.aload_n 0, 1) := by decide +kernel
theorem dX11_isImage_143 : decode cX11_isImage 143 = .ok (.getfield 10, 3) := by decide +kernel
theorem dX11_isImage_146 : decode cX11_isImage 146 = .ok (.iload_n 3, 1) := by decide +kernel
theorem dX11_isImage_147 : decode cX11_isImage 147 = .ok (.invokevirtual 325, 3) := by decide +kernel
theorem dX11_isImage_150 : decode cX11_isImage 150 = .ok (.if_icmp .ne 7, 3) := by decide +kernel
theorem dX11_isImage_153 : decode cX11_isImage 153 = .ok (.iconst 1, 1) := by decide +kernel
theorem dX11_isImage_154 : decode cX11_isImage 154 = .ok (.goto 4, 3) := by decide +kernel
theorem dX11_isImage_157 : decode cX11_isImage 157 = .ok (.iconst 0, 1) := by decide +kernel
theorem dX11_isImage_158 : decode cX11_isImage 158 = .ok (.ireturn, 1) := by decide +kernel
theorem dX11_takeImage_0 : decode cX11_takeImage 0 = .ok (.aload_n 0, 1) := by decide +kernel
theorem dX11_takeImage_1 : decode cX11_takeImage 1 = .ok (.getfield 47, 3) := by decide +kernel
theorem dX11_takeImage_4 : decode cX11_takeImage 4 = .ok (.getfield 115, 3) := by decide +kernel
theorem dX11_takeImage_7 : decode cX11_takeImage 7 = .ok (.astore_n 1, 1) := by decide +kernel
theorem dX11_takeImage_8 : decode cX11_takeImage 8 = .ok (.aload_n 0, 1) := by decide +kernel
theorem dX11_takeImage_9 : decode cX11_takeImage 9 = .ok (.getfield 35, 3) := by decide +kernel
theorem dX11_takeImage_12 : decode cX11_takeImage 12 = .ok (.invokevirtual 328, 3) := by decide +kernel
theorem dX11_takeImage_15 : decode cX11_takeImage 15 = .ok (.aload_n 0, 1) := by decide +kernel
theorem dX11_takeImage_16 : decode cX11_takeImage 16 = .ok (.getfield 35, 3) := by decide +kernel
theorem dX11_takeImage_19 : decode cX11_takeImage 19 = .ok (.sipush 256, 3) := by decide +kernel
theorem dX11_takeImage_22 : decode cX11_takeImage 22 = .ok (.aload_n 0, 1) := by decide +kernel
theorem dX11_takeImage_23 : decode cX11_takeImage 23 = .ok (.getfield 10, 3) := by decide +kernel
theorem dX11_takeImage_26 : decode cX11_takeImage 26 = .ok (.iconst 0, 1) := by decide +kernel
theorem dX11_takeImage_27 : decode cX11_takeImage 27 = .ok (.invokevirtual 325, 3) := by decide +kernel
theorem dX11_takeImage_30 : decode cX11_takeImage 30 = .ok (.imul, 1) := by decide +kernel
theorem dX11_takeImage_31 : decode cX11_takeImage 31 = .ok (.aload_n 0, 1) := by decide +kernel
theorem dX11_takeImage_32 : decode cX11_takeImage 32 = .ok (.getfield 10, 3) := by decide +kernel
theorem dX11_takeImage_35 : decode cX11_takeImage 35 = .ok (.iconst 1, 1) := by decide +kernel
theorem dX11_takeImage_36 : decode cX11_takeImage 36 = .ok (.invokevirtual 325, 3) := by decide +kernel
theorem dX11_takeImage_39 : decode cX11_takeImage 39 = .ok (.iadd, 1) := by decide +kernel
theorem dX11_takeImage_40 : decode cX11_takeImage 40 = .ok (.putfield 151, 3) := by decide +kernel
theorem dX11_takeImage_43 : decode cX11_takeImage 43 = .ok (.iconst 2, 1) := by decide +kernel
theorem dX11_takeImage_44 : decode cX11_takeImage 44 = .ok (.istore_n 2, 1) := by decide +kernel
theorem dX11_takeImage_45 : decode cX11_takeImage 45 = .ok (.iconst 0, 1) := by decide +kernel
theorem dX11_takeImage_46 : decode cX11_takeImage 46 = .ok (.istore_n 3, 1) := by decide +kernel
theorem dX11_takeImage_47 : decode cX11_takeImage 47 = .ok (.iload_n 3, 1) := by decide +kernel
theorem dX11_takeImage_48 : decode cX11_takeImage 48 = .ok (.aload_n 1, 1) := by decide +kernel
theorem dX11_takeImage_49 : decode cX11_takeImage 49 = .ok (.getfield 148, 3) := by decide +kernel
theorem dX11_takeImage_52 : decode cX11_takeImage 52 = .ok (.if_icmp .ge 58, 3) := by decide +kernel
theorem dX11_takeImage_55 : decode cX11_takeImage 55 = .ok (.aload_n 0, 1) := by decide +kernel
theorem dX11_takeImage_56 : decode cX11_takeImage 56 = .ok (.getfield 35, 3) := by decide +kernel
theorem dX11_takeImage_59 : decode cX11_takeImage 59 = .ok (.dup, 1) := by decide +kernel
theorem dX11_takeImage_60 : decode cX11_takeImage 60 = .ok (.getfield 154, 3) := by decide +kernel
theorem dX11_takeImage_63 : decode cX11_takeImage 63 = .ok (.aload_n 0, 1) := by decide +kernel
theorem dX11_takeImage_64 : decode cX11_takeImage 64 = .ok (.getfield 10, 3) := by decide +kernel
theorem dX11_takeImage_67 : decode cX11_takeImage 67 = .ok (.iload_n 2, 1) := by decide +kernel
theorem dX11_takeImage_68 : decode cX11_takeImage 68 = .ok (.invokevirtual 325, 3) := by decide +kernel
theorem dX11_takeImage_71 : decode cX11_takeImage 71 = .ok (.iload_n 3, 1) := by decide +kernel
theorem dX11_takeImage_72 : decode cX11_takeImage 72 = .ok (.ishl, 1) := by decide +kernel
theorem dX11_takeImage_73 : decode cX11_takeImage 73 = .ok (.ior, 1) := by decide +kernel
theorem dX11_takeImage_74 : decode cX11_takeImage 74 = .ok (.putfield 154, 3) := by decide +kernel
theorem dX11_takeImage_77 : decode cX11_takeImage 77 = .ok (.aload_n 0, 1) := by decide +kernel
theorem dX11_takeImage_78 : decode cX11_takeImage 78 = .ok (.getfield 35, 3) := by decide +kernel
theorem dX11_takeImage_81 : decode cX11_takeImage 81 = .ok (.dup, 1) := by decide +kernel
theorem dX11_takeImage_82 : decode cX11_takeImage 82 = .ok (.getfield 162, 3) := by decide +kernel
theorem dX11_takeImage_85 : decode cX11_takeImage 85 = .ok (.aload_n 0, 1) := by decide +kernel
theorem dX11_takeImage_86 : decode cX11_takeImage 86 = .ok (.getfield 10, 3) := by decide +kernel
theorem dX11_takeImage_89 : decode cX11_takeImage 89 = .ok (.iload_n 2, 1) := by decide +kernel
theorem dX11_takeImage_90 : decode cX11_takeImage 90 = .ok (.iconst 1, 1) := by decide +kernel
theorem dX11_takeImage_91 : decode cX11_takeImage 91 = .ok (.iadd, 1) := by decide +kernel
theorem dX11_takeImage_92 : decode cX11_takeImage 92 = .ok (.invokevirtual 325, 3) := by decide +kernel
theorem dX11_takeImage_95 : decode cX11_takeImage 95 = .ok (.iload_n 3, 1) := by decide +kernel
theorem dX11_takeImage_96 : decode cX11_takeImage 96 = .ok (.ishl, 1) := by decide +kernel
theorem dX11_takeImage_97 : decode cX11_takeImage 97 = .ok (.ior, 1) := by decide +kernel
theorem dX11_takeImage_98 : decode cX11_takeImage 98 = .ok (.putfield 162, 3) := by decide +kernel
theorem dX11_takeImage_101 : decode cX11_takeImage 101 = .ok (.iinc 2 2, 3) := by decide +kernel
theorem dX11_takeImage_104 : decode cX11_takeImage 104 = .ok (.iinc 3 1, 3) := by decide +kernel
theorem dX11_takeImage_107 : decode cX11_takeImage 107 = .ok (.goto (-60), 3) := by decide +kernel
theorem dX11_takeImage_110 : decode cX11_takeImage 110 = .ok (.iconst 0, 1) := by decide +kernel
theorem dX11_takeImage_111 : decode cX11_takeImage 111 = .ok (.istore_n 3, 1) := by decide +kernel
theorem dX11_takeImage_112 : decode cX11_takeImage 112 = .ok (.iload_n 3, 1) := by decide +kernel
theorem dX11_takeImage_113 : decode cX11_takeImage 113 = .ok (.aload_n 1, 1) := by decide +kernel
theorem dX11_takeImage_114 : decode cX11_takeImage 114 = .ok (.getfield 142, 3) := by decide +kernel
theorem dX11_takeImage_117 : decode cX11_takeImage 117 = .ok (.if_icmp .ge 48, 3) := by decide +kernel
theorem dX11_takeImage_120 : decode cX11_takeImage 120 = .ok (.iconst 0, 1) := by decide +kernel
theorem dX11_takeImage_121 : decode cX11_takeImage 121 = .ok (.istore 4, 2) := by decide +kernel
theorem dX11_takeImage_123 : decode cX11_takeImage 123 = .ok (.iload 4, 2) := by decide +kernel
theorem dX11_takeImage_125 : decode cX11_takeImage 125 = .ok (.aload_n 1, 1) := by decide +kernel
theorem dX11_takeImage_126 : decode cX11_takeImage 126 = .ok (.getfield 145, 3) := by decide +kernel
theorem dX11_takeImage_129 : decode cX11_takeImage 129 = .ok (.if_icmp .ge 30, 3) := by decide +kernel
theorem dX11_takeImage_132 : decode cX11_takeImage 132 = .ok (.aload_n 0, 1) := by decide +kernel
theorem dX11_takeImage_133 : decode cX11_takeImage 133 = .ok (.getfield 35, 3) := by decide +kernel
theorem dX11_takeImage_136 : decode cX11_takeImage 136 = .ok (.iload_n 3, 1) := by decide +kernel
theorem dX11_takeImage_137 : decode cX11_takeImage 137 = .ok (.iload 4, 2) := by decide +kernel
theorem dX11_takeImage_139 : decode cX11_takeImage 139 = .ok (.aload_n 0, 1) := by decide +kernel
theorem dX11_takeImage_140 : decode cX11_takeImage 140 = .ok (.getfield 10, 3) := by decide +kernel
theorem dX11_takeImage_143 : decode cX11_takeImage 143 = .ok (.iload_n 2, 1) := by decide +kernel
theorem dX11_takeImage_144 : decode cX11_takeImage 144 = .ok (.invokevirtual 325, 3) := by decide +kernel
theorem dX11_takeImage_147 : decode cX11_takeImage 147 = .ok (.invokevirtual 287, 3) := by decide +kernel
theorem dX11_takeImage_150 : decode cX11_takeImage 150 = .ok (.iinc 2 1, 3) := by decide +kernel
theorem dX11_takeImage_153 : decode cX11_takeImage 153 = .ok (.iinc 4 1, 3) := by decide +kernel
theorem dX11_takeImage_156 : decode cX11_takeImage 156 = .ok (.goto (-33), 3) := by decide +kernel
theorem dX11_takeImage_159 : decode cX11_takeImage 159 = .ok (.iinc 3 1, 3) := by decide +kernel
theorem dX11_takeImage_162 : decode cX11_takeImage 162 = .ok (.goto (-50), 3) := by decide +kernel
theorem dX11_takeImage_165 : decode cX11_takeImage 165 = .ok (.aload_n 0, 1) := by decide +kernel
theorem dX11_takeImage_166 : decode cX11_takeImage 166 = .ok (.getfield 54, 3) := by decide +kernel
theorem dX11_takeImage_169 : decode cX11_takeImage 169 = .ok (.invokevirtual 124, 3) := by decide +kernel
theorem dX11_takeImage_172 : decode cX11_takeImage 172 = .ok (.aload_n 0, 1) := by decide +kernel
theorem dX11_takeImage_173 : decode cX11_takeImage 173 = .ok (.getfield 70, 3) := by decide +kernel
theorem dX11_takeImage_176 : decode cX11_takeImage 176 = .ok (.invokevirtual 130, 3) := by decide +kernel
theorem dX11_takeImage_179 : decode cX11_takeImage 179 = .ok (.return_, 1) := by decide +kernel
theorem dX11_on_0 : decode cX11_on 0 = .ok (.aload_n 0, 1) := by decide +kernel
theorem dX11_on_1 : decode cX11_on 1 = .ok (.invokevirtual 319, 3) := by decide +kernel
theorem dX11_on_4 : decode cX11_on 4 = .ok (.istore_n 1, 1) := by decide +kernel
theorem dX11_on_5 : decode cX11_on 5 = .ok (.iload_n 1, 1) := by decide +kernel
theorem dX11_on_6 : decode cX11_on 6 = .ok (.ifCond .eq 7, 3) := by decide +kernel
theorem dX11_on_9 : decode cX11_on 9 = .ok (.aload_n 0, 1) := by decide +kernel
theorem dX11_on_10 : decode cX11_on 10 = .ok (.invokevirtual 322, 3) := by decide +kernel
theorem dX11_on_13 : decode cX11_on 13 = .ok (.aload_n 0, 1) := by decide +kernel
theorem dX11_on_14 : decode cX11_on 14 = .ok (.getfield 10, 3) := by decide +kernel
theorem dX11_on_17 : decode cX11_on 17 = .ok (.iconst 0, 1) := by decide +kernel
theorem dX11_on_18 : decode cX11_on 18 = .ok (.putfield 97, 3) := by decide +kernel
theorem dX11_on_21 : decode cX11_on 21 = .ok (.iload_n 1, 1) := by decide +kernel
theorem dX11_on_22 : decode cX11_on 22 = .ok (.ifCond .ne 11, 3) := by decide +kernel
theorem dX11_on_25 : decode cX11_on 25 = .ok (.aload_n 0, 1) := by decide +kernel
theorem dX11_on_26 : decode cX11_on 26 = .ok (.iconst 5, 1) := by decide +kernel
theorem dX11_on_27 : decode cX11_on 27 = .ok (.invokevirtual 108, 3) := by decide +kernel
theorem dX11_on_30 : decode cX11_on 30 = .ok (.ifCond .eq 7, 3) := by decide +kernel
theorem dX11_on_33 : decode cX11_on 33 = .ok (.iconst 1, 1) := by decide +kernel
theorem dX11_on_34 : decode cX11_on 34 = .ok (.goto 4, 3) := by decide +kernel
theorem dX11_on_37 : decode cX11_on 37 = .ok (.iconst 0, 1) := by decide +kernel
theorem dX11_on_38 : decode cX11_on 38 = .ok (.ireturn, 1) := by decide +kernel
theorem dX11_status_0 : decode cX11_status 0 = .ok (.iload_n 1, 1) := by decide +kernel
theorem dX11_status_1 : decode cX11_status 1 = .ok (.ifCond .lt 18, 3) := by decide +kernel
theorem dX11_status_4 : decode cX11_status 4 = .ok (.iload_n 1, 1) := by decide +kernel
theorem dX11_status_5 : decode cX11_status 5 = .ok (.bipush 6, 2) := by decide +kernel
theorem dX11_status_7 : decode cX11_status 7 = .ok (.if_icmp .ge 12, 3) := by decide +kernel
theorem dX11_status_10 : decode cX11_status 10 = .ok (.aload_n 0, 1) := by decide +kernel
theorem dX11_status_11 : decode cX11_status 11 = .ok (.getfield 91, 3) := by decide +kernel
theorem dX11_status_14 : decode cX11_status 14 = .ok (.iload_n 1, 1) := by decide +kernel
theorem dX11_status_15 : decode cX11_status 15 = .ok (.iaload, 1) := by decide +kernel
theorem dX11_status_16 : decode cX11_status 16 = .ok (.goto 4, 3) := by decide +kernel
theorem dX11_status_19 : decode cX11_status 19 = .ok (.iconst (-1), 1) := by decide +kernel
theorem dX11_status_20 : decode cX11_status 20 = .ok (.ireturn, 1) := by decide +kernel
theorem dX12_init_0 : decode cX12_init 0 = .ok (.aload_n 0, 1) := by decide +kernel
theorem dX12_init_1 : decode cX12_init 1 = .ok (.invokespecial 1, 3) := by decide +kernel
theorem dX12_init_4 : decode cX12_init 4 = .ok (.aload_n 0, 1) := by decide +kernel
theorem dX12_init_5 : decode cX12_init 5 = .ok (.sipush 1600, 3) := by decide +kernel
theorem dX12_init_8 : decode cX12_init 8 = .ok (.newarray .int, 2) := by decide +kernel
theorem dX12_init_10 : decode cX12_init 10 = .ok (.putfield 7, 3) := by decide +kernel
theorem dX12_init_13 : decode cX12_init 13 = .ok (.aload_n 0, 1) := by decide +kernel
theorem dX12_init_14 : decode cX12_init 14 = .ok (.iconst (-1), 1) := by decide +kernel
theorem dX12_init_15 : decode cX12_init 15 = .ok (.putfield 13, 3) := by decide +kernel
theorem dX12_init_18 : decode cX12_init 18 = .ok (.aload_n 0, 1) := by decide +kernel
theorem dX12_init_19 : decode cX12_init 19 = .ok (.bipush 6, 2) := by decide +kernel
theorem dX12_init_21 : decode cX12_init 21 = .ok (.newarray .int, 2) := by decide +kernel
theorem dX12_init_23 : decode cX12_init 23 = .ok (.putfield 17, 3) := by decide +kernel
theorem dX12_init_26 : decode cX12_init 26 = .ok (.aload_n 0, 1) := by decide +kernel
theorem dX12_init_27 : decode cX12_init 27 = .ok (.bipush 7, 2) := by decide +kernel
theorem dX12_init_29 : decode cX12_init 29 = .ok (.newarray .char, 2) := by decide +kernel
theorem dX12_init_31 : decode cX12_init 31 = .ok (.dup, 1) := by decide +kernel
theorem dX12_init_32 : decode cX12_init 32 = .ok (.iconst 0, 1) := by decide +kernel
theorem dX12_init_33 : decode cX12_init 33 = .ok (.bipush 111, 2) := by decide +kernel
theorem dX12_init_35 : decode cX12_init 35 = .ok (.castore, 1) := by decide +kernel
theorem dX12_init_36 : decode cX12_init 36 = .ok (.dup, 1) := by decide +kernel
theorem dX12_init_37 : decode cX12_init 37 = .ok (.iconst 1, 1) := by decide +kernel
theorem dX12_init_38 : decode cX12_init 38 = .ok (.bipush 102, 2) := by decide +kernel
theorem dX12_init_40 : decode cX12_init 40 = .ok (.castore, 1) := by decide +kernel
theorem dX12_init_41 : decode cX12_init 41 = .ok (.dup, 1) := by decide +kernel
theorem dX12_init_42 : decode cX12_init 42 = .ok (.iconst 2, 1) := by decide +kernel
theorem dX12_init_43 : decode cX12_init 43 = .ok (.bipush 102, 2) := by decide +kernel
theorem dX12_init_45 : decode cX12_init 45 = .ok (.castore, 1) := by decide +kernel
theorem dX12_init_46 : decode cX12_init 46 = .ok (.dup, 1) := by decide +kernel
theorem dX12_init_47 : decode cX12_init 47 = .ok (.iconst 3, 1) := by decide +kernel
theorem dX12_init_48 : decode cX12_init 48 = .ok (.bipush 105, 2) := by decide +kernel
theorem dX12_init_50 : decode cX12_init 50 = .ok (.castore, 1) := by decide +kernel
theorem dX12_init_51 : decode cX12_init 51 = .ok (.dup, 1) := by decide +kernel
theorem dX12_init_52 : decode cX12_init 52 = .ok (.iconst 4, 1) := by decide +kernel
theorem dX12_init_53 : decode cX12_init 53 = .ok (.bipush 99, 2) := by decide +kernel
theorem dX12_init_55 : decode cX12_init 55 = .ok (.castore, 1) := by decide +kernel
theorem dX12_init_56 : decode cX12_init 56 = .ok (.dup, 1) := by decide +kernel
theorem dX12_init_57 : decode cX12_init 57 = .ok (.iconst 5, 1) := by decide +kernel
theorem dX12_init_58 : decode cX12_init 58 = .ok (.bipush 101, 2) := by decide +kernel
theorem dX12_init_60 : decode cX12_init 60 = .ok (.castore, 1) := by decide +kernel
theorem dX12_init_61 : decode cX12_init 61 = .ok (.dup, 1) := by decide +kernel
theorem dX12_init_62 : decode cX12_init 62 = .ok (.bipush 6, 2) := by decide +kernel
theorem dX12_init_64 : decode cX12_init 64 = .ok (.bipush 114, 2) := by decide +kernel
theorem dX12_init_66 : decode cX12_init 66 = .ok (.castore, 1) := by decide +kernel
theorem dX12_init_67 : decode cX12_init 67 = .ok (.putfield 20, 3) := by decide +kernel
theorem dX12_init_70 : decode cX12_init 70 = .ok (.aload_n 0, 1) := by decide +kernel
theorem dX12_init_71 : decode cX12_init 71 = .ok (.iconst 5, 1) := by decide +kernel
theorem dX12_init_72 : decode cX12_init 72 = .ok (.newarray .char, 2) := by decide +kernel
theorem dX12_init_74 : decode cX12_init 74 = .ok (.dup, 1) := by decide +kernel
theorem dX12_init_75 : decode cX12_init 75 = .ok (.iconst 0, 1) := by decide +kernel
theorem dX12_init_76 : decode cX12_init 76 = .ok (.bipush 115, 2) := by decide +kernel
theorem dX12_init_78 : decode cX12_init 78 = .ok (.castore, 1) := by decide +kernel
theorem dX12_init_79 : decode cX12_init 79 = .ok (.dup, 1) := by decide +kernel
theorem dX12_init_80 : decode cX12_init 80 = .ok (.iconst 1, 1) := by decide +kernel
theorem dX12_init_81 : decode cX12_init 81 = .ok (.bipush 104, 2) := by decide +kernel
theorem dX12_init_83 : decode cX12_init 83 = .ok (.castore, 1) := by decide +kernel
theorem dX12_init_84 : decode cX12_init 84 = .ok (.dup, 1) := by decide +kernel
theorem dX12_init_85 : decode cX12_init 85 = .ok (.iconst 2, 1) := by decide +kernel
theorem dX12_init_86 : decode cX12_init 86 = .ok (.bipush 97, 2) := by decide +kernel
theorem dX12_init_88 : decode cX12_init 88 = .ok (.castore, 1) := by decide +kernel
theorem dX12_init_89 : decode cX12_init 89 = .ok (.dup, 1) := by decide +kernel
theorem dX12_init_90 : decode cX12_init 90 = .ok (.iconst 3, 1) := by decide +kernel
theorem dX12_init_91 : decode cX12_init 91 = .ok (.bipush 112, 2) := by decide +kernel
theorem dX12_init_93 : decode cX12_init 93 = .ok (.castore, 1) := by decide +kernel
theorem dX12_init_94 : decode cX12_init 94 = .ok (.dup, 1) := by decide +kernel
theorem dX12_init_95 : decode cX12_init 95 = .ok (.iconst 4, 1) := by decide +kernel
theorem dX12_init_96 : decode cX12_init 96 = .ok (.bipush 101, 2) := by decide +kernel
theorem dX12_init_98 : decode cX12_init 98 = .ok (.castore, 1) := by decide +kernel
theorem dX12_init_99 : decode cX12_init 99 = .ok (.putfield 24, 3) := by decide +kernel
theorem dX12_init_102 : decode cX12_init 102 = .ok (.aload_n 0, 1) := by decide +kernel
theorem dX12_init_103 : decode cX12_init 103 = .ok (.iconst 5, 1) := by decide +kernel
theorem dX12_init_104 : decode cX12_init 104 = .ok (.newarray .char, 2) := by decide +kernel
theorem dX12_init_106 : decode cX12_init 106 = .ok (.dup, 1) := by decide +kernel
theorem dX12_init_107 : decode cX12_init 107 = .ok (.iconst 0, 1) := by decide +kernel
theorem dX12_init_108 : decode cX12_init 108 = .ok (.bipush 112, 2) := by decide +kernel
theorem dX12_init_110 : decode cX12_init 110 = .ok (.castore, 1) := by decide +kernel
theorem dX12_init_111 : decode cX12_init 111 = .ok (.dup, 1) := by decide +kernel
theorem dX12_init_112 : decode cX12_init 112 = .ok (.iconst 1, 1) := by decide +kernel
theorem dX12_init_113 : decode cX12_init 113 = .ok (.bipush 114, 2) := by decide +kernel
theorem dX12_init_115 : decode cX12_init 115 = .ok (.castore, 1) := by decide +kernel
theorem dX12_init_116 : decode cX12_init 116 = .ok (.dup, 1) := by decide +kernel
theorem dX12_init_117 : decode cX12_init 117 = .ok (.iconst 2, 1) := by decide +kernel
theorem dX12_init_118 : decode cX12_init 118 = .ok (.bipush 101, 2) := by decide +kernel
theorem dX12_init_120 : decode cX12_init 120 = .ok (.castore, 1) := by decide +kernel
theorem dX12_init_121 : decode cX12_init 121 = .ok (.dup, 1) := by decide +kernel
theorem dX12_init_122 : decode cX12_init 122 = .ok (.iconst 3, 1) := by decide +kernel
theorem dX12_init_123 : decode cX12_init 123 = .ok (.bipush 115, 2) := by decide +kernel
theorem dX12_init_125 : decode cX12_init 125 = .ok (.castore, 1) := by decide +kernel
theorem dX12_init_126 : decode cX12_init 126 = .ok (.dup, 1) := by decide +kernel
theorem dX12_init_127 : decode cX12_init 127 = .ok (.iconst 4, 1) := by decide +kernel
theorem dX12_init_128 : decode cX12_init 128 = .ok (.bipush 115, 2) := by decide +kernel
theorem dX12_init_130 : decode cX12_init 130 = .ok (.castore, 1) := by decide +kernel
theorem dX12_init_131 : decode cX12_init 131 = .ok (.putfield 27, 3) := by decide +kernel
theorem dX12_init_134 : decode cX12_init 134 = .ok (.aload_n 0, 1) := by decide +kernel
theorem dX12_init_135 : decode cX12_init 135 = .ok (.bipush 7, 2) := by decide +kernel
theorem dX12_init_137 : decode cX12_init 137 = .ok (.newarray .char, 2) := by decide +kernel
theorem dX12_init_139 : decode cX12_init 139 = .ok (.dup, 1) := by decide +kernel
theorem dX12_init_140 : decode cX12_init 140 = .ok (.iconst 0, 1) := by decide +kernel
theorem dX12_init_141 : decode cX12_init 141 = .ok (.bipush 102, 2) := by decide +kernel
theorem dX12_init_143 : decode cX12_init 143 = .ok (.castore, 1) := by decide +kernel
theorem dX12_init_144 : decode cX12_init 144 = .ok (.dup, 1) := by decide +kernel
theorem dX12_init_145 : decode cX12_init 145 = .ok (.iconst 1, 1) := by decide +kernel
theorem dX12_init_146 : decode cX12_init 146 = .ok (.bipush 101, 2) := by decide +kernel
theorem dX12_init_148 : decode cX12_init 148 = .ok (.castore, 1) := by decide +kernel
theorem dX12_init_149 : decode cX12_init 149 = .ok (.dup, 1) := by decide +kernel
theorem dX12_init_150 : decode cX12_init 150 = .ok (.iconst 2, 1) := by decide +kernel
theorem dX12_init_151 : decode cX12_init 151 = .ok (.bipush 101, 2) := by decide +kernel
theorem dX12_init_153 : decode cX12_init 153 = .ok (.castore, 1) := by decide +kernel
theorem dX12_init_154 : decode cX12_init 154 = .ok (.dup, 1) := by decide +kernel
theorem dX12_init_155 : decode cX12_init 155 = .ok (.iconst 3, 1) := by decide +kernel
theorem dX12_init_156 : decode cX12_init 156 = .ok (.bipush 108, 2) := by decide +kernel
theorem dX12_init_158 : decode cX12_init 158 = .ok (.castore, 1) := by decide +kernel
theorem dX12_init_159 : decode cX12_init 159 = .ok (.dup, 1) := by decide +kernel
theorem dX12_init_160 : decode cX12_init 160 = .ok (.iconst 4, 1) := by decide +kernel
theorem dX12_init_161 : decode cX12_init 161 = .ok (.bipush 105, 2) := by decide +kernel
theorem dX12_init_163 : decode cX12_init 163 = .ok (.castore, 1) := by decide +kernel
theorem dX12_init_164 : decode cX12_init 164 = .ok (.dup, 1) := by decide +kernel
theorem dX12_init_165 : decode cX12_init 165 = .ok (.iconst 5, 1) := by decide +kernel
theorem dX12_init_166 : decode cX12_init 166 = .ok (.bipush 110, 2) := by decide +kernel
theorem dX12_init_168 : decode cX12_init 168 = .ok (.castore, 1) := by decide +kernel
theorem dX12_init_169 : decode cX12_init 169 = .ok (.dup, 1) := by decide +kernel
theorem dX12_init_170 : decode cX12_init 170 = .ok (.bipush 6, 2) := by decide +kernel
theorem dX12_init_172 : decode cX12_init 172 = .ok (.bipush 103, 2) := by decide +kernel
theorem dX12_init_174 : decode cX12_init 174 = .ok (.castore, 1) := by decide +kernel
theorem dX12_init_175 : decode cX12_init 175 = .ok (.putfield 30, 3) := by decide +kernel
theorem dX12_init_178 : decode cX12_init 178 = .ok (.aload_n 0, 1) := by decide +kernel
theorem dX12_init_179 : decode cX12_init 179 = .ok (.bipush 6, 2) := by decide +kernel
theorem dX12_init_181 : decode cX12_init 181 = .ok (.newarray .char, 2) := by decide +kernel
theorem dX12_init_183 : decode cX12_init 183 = .ok (.dup, 1) := by decide +kernel
theorem dX12_init_184 : decode cX12_init 184 = .ok (.iconst 0, 1) := by decide +kernel
theorem dX12_init_185 : decode cX12_init 185 = .ok (.bipush 99, 2) := by decide +kernel
theorem dX12_init_187 : decode cX12_init 187 = .ok (.castore, 1) := by decide +kernel
theorem dX12_init_188 : decode cX12_init 188 = .ok (.dup, 1) := by decide +kernel
theorem dX12_init_189 : decode cX12_init 189 = .ok (.iconst 1, 1) := by decide +kernel
theorem dX12_init_190 : decode cX12_init 190 = .ok (.bipush 97, 2) := by decide +kernel
theorem dX12_init_192 : decode cX12_init 192 = .ok (.castore, 1) := by decide +kernel
theorem dX12_init_193 : decode cX12_init 193 = .ok (.dup, 1) := by decide +kernel
theorem dX12_init_194 : decode cX12_init 194 = .ok (.iconst 2, 1) := by decide +kernel
theorem dX12_init_195 : decode cX12_init 195 = .ok (.bipush 114, 2) := by decide +kernel
theorem dX12_init_197 : decode cX12_init 197 = .ok (.castore, 1) := by decide +kernel
theorem dX12_init_198 : decode cX12_init 198 = .ok (.dup, 1) := by decide +kernel
theorem dX12_init_199 : decode cX12_init 199 = .ok (.iconst 3, 1) := by decide +kernel
theorem dX12_init_200 : decode cX12_init 200 = .ok (.bipush 98, 2) := by decide +kernel
theorem dX12_init_202 : decode cX12_init 202 = .ok (.castore, 1) := by decide +kernel
theorem dX12_init_203 : decode cX12_init 203 = .ok (.dup, 1) := by decide +kernel
theorem dX12_init_204 : decode cX12_init 204 = .ok (.iconst 4, 1) := by decide +kernel
theorem dX12_init_205 : decode cX12_init 205 = .ok (.bipush 111, 2) := by decide +kernel
theorem dX12_init_207 : decode cX12_init 207 = .ok (.castore, 1) := by decide +kernel
theorem dX12_init_208 : decode cX12_init 208 = .ok (.dup, 1) := by decide +kernel
theorem dX12_init_209 : decode cX12_init 209 = .ok (.iconst 5, 1) := by decide +kernel
theorem dX12_init_210 : decode cX12_init 210 = .ok (.bipush 110, 2) := by decide +kernel
theorem dX12_init_212 : decode cX12_init 212 = .ok (.castore, 1) := by decide +kernel
theorem dX12_init_213 : decode cX12_init 213 = .ok (.putfield 33, 3) := by decide +kernel
theorem dX12_init_216 : decode cX12_init 216 = .ok (.aload_n 0, 1) := by decide +kernel
theorem dX12_init_217 : decode cX12_init 217 = .ok (.iconst 2, 1) := by decide +kernel
theorem dX12_init_218 : decode cX12_init 218 = .ok (.newarray .char, 2) := by decide +kernel
theorem dX12_init_220 : decode cX12_init 220 = .ok (.dup, 1) := by decide +kernel
theorem dX12_init_221 : decode cX12_init 221 = .ok (.iconst 0, 1) := by decide +kernel
theorem dX12_init_222 : decode cX12_init 222 = .ok (.bipush 116, 2) := by decide +kernel
theorem dX12_init_224 : decode cX12_init 224 = .ok (.castore, 1) := by decide +kernel
theorem dX12_init_225 : decode cX12_init 225 = .ok (.dup, 1) := by decide +kernel
theorem dX12_init_226 : decode cX12_init 226 = .ok (.iconst 1, 1) := by decide +kernel
theorem dX12_init_227 : decode cX12_init 227 = .ok (.bipush 111, 2) := by decide +kernel
theorem dX12_init_229 : decode cX12_init 229 = .ok (.castore, 1) := by decide +kernel
theorem dX12_init_230 : decode cX12_init 230 = .ok (.putfield 36, 3) := by decide +kernel
theorem dX12_init_233 : decode cX12_init 233 = .ok (.aload_n 0, 1) := by decide +kernel
theorem dX12_init_234 : decode cX12_init 234 = .ok (.bipush 6, 2) := by decide +kernel
theorem dX12_init_236 : decode cX12_init 236 = .ok (.newarray .char, 2) := by decide +kernel
theorem dX12_init_238 : decode cX12_init 238 = .ok (.dup, 1) := by decide +kernel
theorem dX12_init_239 : decode cX12_init 239 = .ok (.iconst 0, 1) := by decide +kernel
theorem dX12_init_240 : decode cX12_init 240 = .ok (.bipush 115, 2) := by decide +kernel
theorem dX12_init_242 : decode cX12_init 242 = .ok (.castore, 1) := by decide +kernel
theorem dX12_init_243 : decode cX12_init 243 = .ok (.dup, 1) := by decide +kernel
theorem dX12_init_244 : decode cX12_init 244 = .ok (.iconst 1, 1) := by decide +kernel
theorem dX12_init_245 : decode cX12_init 245 = .ok (.bipush 104, 2) := by decide +kernel
theorem dX12_init_247 : decode cX12_init 247 = .ok (.castore, 1) := by decide +kernel
theorem dX12_init_248 : decode cX12_init 248 = .ok (.dup, 1) := by decide +kernel
theorem dX12_init_249 : decode cX12_init 249 = .ok (.iconst 2, 1) := by decide +kernel
theorem dX12_init_250 : decode cX12_init 250 = .ok (.bipush 101, 2) := by decide +kernel
theorem dX12_init_252 : decode cX12_init 252 = .ok (.castore, 1) := by decide +kernel
theorem dX12_init_253 : decode cX12_init 253 = .ok (.dup, 1) := by decide +kernel
theorem dX12_init_254 : decode cX12_init 254 = .ok (.iconst 3, 1) := by decide +kernel
theorem dX12_init_255 : decode cX12_init 255 = .ok (.bipush 101, 2) := by decide +kernel
theorem dX12_init_257 : decode cX12_init 257 = .ok (.castore, 1) := by decide +kernel
theorem dX12_init_258 : decode cX12_init 258 = .ok (.dup, 1) := by decide +kernel
theorem dX12_init_259 : decode cX12_init 259 = .ok (.iconst 4, 1) := by decide +kernel
theorem dX12_init_260 : decode cX12_init 260 = .ok (.bipush 116, 2) := by decide +kernel
theorem dX12_init_262 : decode cX12_init 262 = .ok (.castore, 1) := by decide +kernel
theorem dX12_init_263 : decode cX12_init 263 = .ok (.dup, 1) := by decide +kernel
theorem dX12_init_264 : decode cX12_init 264 = .ok (.iconst 5, 1) := by decide +kernel
theorem dX12_init_265 : decode cX12_init 265 = .ok (.bipush 115, 2) := by decide +kernel
theorem dX12_init_267 : decode cX12_init 267 = .ok (.castore, 1) := by decide +kernel
theorem dX12_init_268 : decode cX12_init 268 = .ok (.putfield 39, 3) := by decide +kernel
theorem dX12_init_271 : decode cX12_init 271 = .ok (.aload_n 0, 1) := by decide +kernel
theorem dX12_init_272 : decode cX12_init 272 = .ok (.iconst 4, 1) := by decide +kernel
theorem dX12_init_273 : decode cX12_init 273 = .ok (.newarray .char, 2) := by decide +kernel
theorem dX12_init_275 : decode cX12_init 275 = .ok (.dup, 1) := by decide +kernel
theorem dX12_init_276 : decode cX12_init 276 = .ok (.iconst 0, 1) := by decide +kernel
theorem dX12_init_277 : decode cX12_init 277 = .ok (.bipush 102, 2) := by decide +kernel
theorem dX12_init_279 : decode cX12_init 279 = .ok (.castore, 1) := by decide +kernel
theorem dX12_init_280 : decode cX12_init 280 = .ok (.dup, 1) := by decide +kernel
theorem dX12_init_281 : decode cX12_init 281 = .ok (.iconst 1, 1) := by decide +kernel
theorem dX12_init_282 : decode cX12_init 282 = .ok (.bipush 101, 2) := by decide +kernel
theorem dX12_init_284 : decode cX12_init 284 = .ok (.castore, 1) := by decide +kernel
theorem dX12_init_285 : decode cX12_init 285 = .ok (.dup, 1) := by decide +kernel
theorem dX12_init_286 : decode cX12_init 286 = .ok (.iconst 2, 1) := by decide +kernel
theorem dX12_init_287 : decode cX12_init 287 = .ok (.bipush 108, 2) := by decide +kernel
theorem dX12_init_289 : decode cX12_init 289 = .ok (.castore, 1) := by decide +kernel
theorem dX12_init_290 : decode cX12_init 290 = .ok (.dup, 1) := by decide +kernel
theorem dX12_init_291 : decode cX12_init 291 = .ok (.iconst 3, 1) := by decide +kernel
theorem dX12_init_292 : decode cX12_init 292 = .ok (.bipush 116, 2) := by decide +kernel
theorem dX12_init_294 : decode cX12_init 294 = .ok (.castore, 1) := by decide +kernel
theorem dX12_init_295 : decode cX12_init 295 = .ok (.putfield 42, 3) := by decide +kernel
theorem dX12_init_298 : decode cX12_init 298 = .ok (.aload_n 0, 1) := by decide +kernel
theorem dX12_init_299 : decode cX12_init 299 = .ok (.iconst 2, 1) := by decide +kernel
theorem dX12_init_300 : decode cX12_init 300 = .ok (.newarray .char, 2) := by decide +kernel
theorem dX12_init_302 : decode cX12_init 302 = .ok (.dup, 1) := by decide +kernel
theorem dX12_init_303 : decode cX12_init 303 = .ok (.iconst 0, 1) := by decide +kernel
theorem dX12_init_304 : decode cX12_init 304 = .ok (.bipush 111, 2) := by decide +kernel
theorem dX12_init_306 : decode cX12_init 306 = .ok (.castore, 1) := by decide +kernel
theorem dX12_init_307 : decode cX12_init 307 = .ok (.dup, 1) := by decide +kernel
theorem dX12_init_308 : decode cX12_init 308 = .ok (.iconst 1, 1) := by decide +kernel
theorem dX12_init_309 : decode cX12_init 309 = .ok (.bipush 102, 2) := by decide +kernel
theorem dX12_init_311 : decode cX12_init 311 = .ok (.castore, 1) := by decide +kernel
theorem dX12_init_312 : decode cX12_init 312 = .ok (.putfield 45, 3) := by decide +kernel
theorem dX12_init_315 : decode cX12_init 315 = .ok (.aload_n 0, 1) := by decide +kernel
theorem dX12_init_316 : decode cX12_init 316 = .ok (.iconst 2, 1) := by decide +kernel
theorem dX12_init_317 : decode cX12_init 317 = .ok (.newarray .char, 2) := by decide +kernel
theorem dX12_init_319 : decode cX12_init 319 = .ok (.dup, 1) := by decide +kernel
theorem dX12_init_320 : decode cX12_init 320 = .ok (.iconst 0, 1) := by decide +kernel
theorem dX12_init_321 : decode cX12_init 321 = .ok (.bipush 105, 2) := by decide +kernel
theorem dX12_init_323 : decode cX12_init 323 = .ok (.castore, 1) := by decide +kernel
theorem dX12_init_324 : decode cX12_init 324 = .ok (.dup, 1) := by decide +kernel
theorem dX12_init_325 : decode cX12_init 325 = .ok (.iconst 1, 1) := by decide +kernel
theorem dX12_init_326 : decode cX12_init 326 = .ok (.bipush 115, 2) := by decide +kernel
theorem dX12_init_328 : decode cX12_init 328 = .ok (.castore, 1) := by decide +kernel
theorem dX12_init_329 : decode cX12_init 329 = .ok (.putfield 48, 3) := by decide +kernel
theorem dX12_init_332 : decode cX12_init 332 = .ok (.aload_n 0, 1) := by decide +kernel
theorem dX12_init_333 : decode cX12_init 333 = .ok (.bipush 6, 2) := by decide +kernel
theorem dX12_init_335 : decode cX12_init 335 = .ok (.newarray .char, 2) := by decide +kernel
theorem dX12_init_337 : decode cX12_init 337 = .ok (.dup, 1) := by decide +kernel
theorem dX12_init_338 : decode cX12_init 338 = .ok (.iconst 0, 1) := by decide +kernel
theorem dX12_init_339 : decode cX12_init 339 = .ok (.bipush 112, 2) := by decide +kernel
theorem dX12_init_341 : decode cX12_init 341 = .ok (.castore, 1) := by decide +kernel
theorem dX12_init_342 : decode cX12_init 342 = .ok (.dup, 1) := by decide +kernel
theorem dX12_init_343 : decode cX12_init 343 = .ok (.iconst 1, 1) := by decide +kernel
theorem dX12_init_344 : decode cX12_init 344 = .ok (.bipush 97, 2) := by decide +kernel
theorem dX12_init_346 : decode cX12_init 346 = .ok (.castore, 1) := by decide +kernel
theorem dX12_init_347 : decode cX12_init 347 = .ok (.dup, 1) := by decide +kernel
theorem dX12_init_348 : decode cX12_init 348 = .ok (.iconst 2, 1) := by decide +kernel
theorem dX12_init_349 : decode cX12_init 349 = .ok (.bipush 115, 2) := by decide +kernel
theorem dX12_init_351 : decode cX12_init 351 = .ok (.castore, 1) := by decide +kernel
theorem dX12_init_352 : decode cX12_init 352 = .ok (.dup, 1) := by decide +kernel
theorem dX12_init_353 : decode cX12_init 353 = .ok (.iconst 3, 1) := by decide +kernel
theorem dX12_init_354 : decode cX12_init 354 = .ok (.bipush 115, 2) := by decide +kernel
theorem dX12_init_356 : decode cX12_init 356 = .ok (.castore, 1) := by decide +kernel
theorem dX12_init_357 : decode cX12_init 357 = .ok (.dup, 1) := by decide +kernel
theorem dX12_init_358 : decode cX12_init 358 = .ok (.iconst 4, 1) := by decide +kernel
theorem dX12_init_359 : decode cX12_init 359 = .ok (.bipush 101, 2) := by decide +kernel
theorem dX12_init_361 : decode cX12_init 361 = .ok (.castore, 1) := by decide +kernel
theorem dX12_init_362 : decode cX12_init 362 = .ok (.dup, 1) := by decide +kernel
theorem dX12_init_363 : decode cX12_init 363 = .ok (.iconst 5, 1) := by decide +kernel
theorem dX12_init_364 : decode cX12_init 364 = .ok (.bipush 115, 2) := by decide +kernel
theorem dX12_init_366 : decode cX12_init 366 = .ok (.castore, 1) := by decide +kernel
theorem dX12_init_367 : decode cX12_init 367 = .ok (.putfield 51, 3) := by decide +kernel
theorem dX12_init_370 : decode cX12_init 370 = .ok (.aload_n 0, 1) := by decide +kernel
theorem dX12_init_371 : decode cX12_init 371 = .ok (.iconst 5, 1) := by decide +kernel
theorem dX12_init_372 : decode cX12_init 372 = .ok (.newarray .char, 2) := by decide +kernel
theorem dX12_init_374 : decode cX12_init 374 = .ok (.dup, 1) := by decide +kernel
theorem dX12_init_375 : decode cX12_init 375 = .ok (.iconst 0, 1) := by decide +kernel
theorem dX12_init_376 : decode cX12_init 376 = .ok (.bipush 102, 2) := by decide +kernel
theorem dX12_init_378 : decode cX12_init 378 = .ok (.castore, 1) := by decide +kernel
theorem dX12_init_379 : decode cX12_init 379 = .ok (.dup, 1) := by decide +kernel
theorem dX12_init_380 : decode cX12_init 380 = .ok (.iconst 1, 1) := by decide +kernel
theorem dX12_init_381 : decode cX12_init 381 = .ok (.bipush 97, 2) := by decide +kernel
theorem dX12_init_383 : decode cX12_init 383 = .ok (.castore, 1) := by decide +kernel
theorem dX12_init_384 : decode cX12_init 384 = .ok (.dup, 1) := by decide +kernel
theorem dX12_init_385 : decode cX12_init 385 = .ok (.iconst 2, 1) := by decide +kernel
theorem dX12_init_386 : decode cX12_init 386 = .ok (.bipush 100, 2) := by decide +kernel
theorem dX12_init_388 : decode cX12_init 388 = .ok (.castore, 1) := by decide +kernel
theorem dX12_init_389 : decode cX12_init 389 = .ok (.dup, 1) := by decide +kernel
theorem dX12_init_390 : decode cX12_init 390 = .ok (.iconst 3, 1) := by decide +kernel
theorem dX12_init_391 : decode cX12_init 391 = .ok (.bipush 101, 2) := by decide +kernel
theorem dX12_init_393 : decode cX12_init 393 = .ok (.castore, 1) := by decide +kernel
theorem dX12_init_394 : decode cX12_init 394 = .ok (.dup, 1) := by decide +kernel
theorem dX12_init_395 : decode cX12_init 395 = .ok (.iconst 4, 1) := by decide +kernel
theorem dX12_init_396 : decode cX12_init 396 = .ok (.bipush 115, 2) := by decide +kernel
theorem dX12_init_398 : decode cX12_init 398 = .ok (.castore, 1) := by decide +kernel
theorem dX12_init_399 : decode cX12_init 399 = .ok (.putfield 54, 3) := by decide +kernel
theorem dX12_init_402 : decode cX12_init 402 = .ok (.aload_n 0, 1) := by decide +kernel
theorem dX12_init_403 : decode cX12_init 403 = .ok (.iconst 4, 1) := by decide +kernel
theorem dX12_init_404 : decode cX12_init 404 = .ok (.newarray .char, 2) := by decide +kernel
theorem dX12_init_406 : decode cX12_init 406 = .ok (.dup, 1) := by decide +kernel
theorem dX12_init_407 : decode cX12_init 407 = .ok (.iconst 0, 1) := by decide +kernel
theorem dX12_init_408 : decode cX12_init 408 = .ok (.bipush 97, 2) := by decide +kernel
theorem dX12_init_410 : decode cX12_init 410 = .ok (.castore, 1) := by decide +kernel
theorem dX12_init_411 : decode cX12_init 411 = .ok (.dup, 1) := by decide +kernel
theorem dX12_init_412 : decode cX12_init 412 = .ok (.iconst 1, 1) := by decide +kernel
theorem dX12_init_413 : decode cX12_init 413 = .ok (.bipush 99, 2) := by decide +kernel
theorem dX12_init_415 : decode cX12_init 415 = .ok (.castore, 1) := by decide +kernel
theorem dX12_init_416 : decode cX12_init 416 = .ok (.dup, 1) := by decide +kernel
theorem dX12_init_417 : decode cX12_init 417 = .ok (.iconst 2, 1) := by decide +kernel
theorem dX12_init_418 : decode cX12_init 418 = .ok (.bipush 116, 2) := by decide +kernel
theorem dX12_init_420 : decode cX12_init 420 = .ok (.castore, 1) := by decide +kernel
theorem dX12_init_421 : decode cX12_init 421 = .ok (.dup, 1) := by decide +kernel
theorem dX12_init_422 : decode cX12_init 422 = .ok (.iconst 3, 1) := by decide +kernel
theorem dX12_init_423 : decode cX12_init 423 = .ok (.bipush 115, 2) := by decide +kernel
theorem dX12_init_425 : decode cX12_init 425 = .ok (.castore, 1) := by decide +kernel
theorem dX12_init_426 : decode cX12_init 426 = .ok (.putfield 57, 3) := by decide +kernel
theorem dX12_init_429 : decode cX12_init 429 = .ok (.aload_n 0, 1) := by decide +kernel
theorem dX12_init_430 : decode cX12_init 430 = .ok (.iconst 4, 1) := by decide +kernel
theorem dX12_init_431 : decode cX12_init 431 = .ok (.newarray .char, 2) := by decide +kernel
theorem dX12_init_433 : decode cX12_init 433 = .ok (.dup, 1) := by decide +kernel
theorem dX12_init_434 : decode cX12_init 434 = .ok (.iconst 0, 1) := by decide +kernel
theorem dX12_init_435 : decode cX12_init 435 = .ok (.bipush 115, 2) := by decide +kernel
theorem dX12_init_437 : decode cX12_init 437 = .ok (.castore, 1) := by decide +kernel
theorem dX12_init_438 : decode cX12_init 438 = .ok (.dup, 1) := by decide +kernel
theorem dX12_init_439 : decode cX12_init 439 = .ok (.iconst 1, 1) := by decide +kernel
theorem dX12_init_440 : decode cX12_init 440 = .ok (.bipush 108, 2) := by decide +kernel
theorem dX12_init_442 : decode cX12_init 442 = .ok (.castore, 1) := by decide +kernel
theorem dX12_init_443 : decode cX12_init 443 = .ok (.dup, 1) := by decide +kernel
theorem dX12_init_444 : decode cX12_init 444 = .ok (.iconst 2, 1) := by decide +kernel
theorem dX12_init_445 : decode cX12_init 445 = .ok (.bipush 105, 2) := by decide +kernel
theorem dX12_init_447 : decode cX12_init 447 = .ok (.castore, 1) := by decide +kernel
theorem dX12_init_448 : decode cX12_init 448 = .ok (.dup, 1) := by decide +kernel
theorem dX12_init_449 : decode cX12_init 449 = .ok (.iconst 3, 1) := by decide +kernel
theorem dX12_init_450 : decode cX12_init 450 = .ok (.bipush 112, 2) := by decide +kernel
theorem dX12_init_452 : decode cX12_init 452 = .ok (.castore, 1) := by decide +kernel
theorem dX12_init_453 : decode cX12_init 453 = .ok (.putfield 60, 3) := by decide +kernel
theorem dX12_init_456 : decode cX12_init 456 = .ok (.aload_n 0, 1) := by decide +kernel
theorem dX12_init_457 : decode cX12_init 457 = .ok (.bipush 8, 2) := by decide +kernel
theorem dX12_init_459 : decode cX12_init 459 = .ok (.newarray .char, 2) := by decide +kernel
theorem dX12_init_461 : decode cX12_init 461 = .ok (.dup, 1) := by decide +kernel
theorem dX12_init_462 : decode cX12_init 462 = .ok (.iconst 0, 1) := by decide +kernel
theorem dX12_init_463 : decode cX12_init 463 = .ok (.bipush 115, 2) := by decide +kernel
theorem dX12_init_465 : decode cX12_init 465 = .ok (.castore, 1) := by decide +kernel
theorem dX12_init_466 : decode cX12_init 466 = .ok (.dup, 1) := by decide +kernel
theorem dX12_init_467 : decode cX12_init 467 = .ok (.iconst 1, 1) := by decide +kernel
theorem dX12_init_468 : decode cX12_init 468 = .ok (.bipush 116, 2) := by decide +kernel
theorem dX12_init_470 : decode cX12_init 470 = .ok (.castore, 1) := by decide +kernel
theorem dX12_init_471 : decode cX12_init 471 = .ok (.dup, 1) := by decide +kernel
theorem dX12_init_472 : decode cX12_init 472 = .ok (.iconst 2, 1) := by decide +kernel
theorem dX12_init_473 : decode cX12_init 473 = .ok (.bipush 114, 2) := by decide +kernel
theorem dX12_init_475 : decode cX12_init 475 = .ok (.castore, 1) := by decide +kernel
theorem dX12_init_476 : decode cX12_init 476 = .ok (.dup, 1) := by decide +kernel
theorem dX12_init_477 : decode cX12_init 477 = .ok (.iconst 3, 1) := by decide +kernel
theorem dX12_init_478 : decode cX12_init 478 = .ok (.bipush 101, 2) := by decide +kernel
theorem dX12_init_480 : decode cX12_init 480 = .ok (.castore, 1) := by decide +kernel
theorem dX12_init_481 : decode cX12_init 481 = .ok (.dup, 1) := by decide +kernel
theorem dX12_init_482 : decode cX12_init 482 = .ok (.iconst 4, 1) := by decide +kernel
theorem dX12_init_483 : decode cX12_init 483 = .ok (.bipush 110, 2) := by decide +kernel
theorem dX12_init_485 : decode cX12_init 485 = .ok (.castore, 1) := by decide +kernel
theorem dX12_init_486 : decode cX12_init 486 = .ok (.dup, 1) := by decide +kernel
theorem dX12_init_487 : decode cX12_init 487 = .ok (.iconst 5, 1) := by decide +kernel
theorem dX12_init_488 : decode cX12_init 488 = .ok (.bipush 103, 2) := by decide +kernel
theorem dX12_init_490 : decode cX12_init 490 = .ok (.castore, 1) := by decide +kernel
theorem dX12_init_491 : decode cX12_init 491 = .ok (.dup, 1) := by decide +kernel
theorem dX12_init_492 : decode cX12_init 492 = .ok (.bipush 6, 2) := by decide +kernel
theorem dX12_init_494 : decode cX12_init 494 = .ok (.bipush 116, 2) := by decide +kernel
theorem dX12_init_496 : decode cX12_init 496 = .ok (.castore, 1) := by decide +kernel
theorem dX12_init_497 : decode cX12_init 497 = .ok (.dup, 1) := by decide +kernel
theorem dX12_init_498 : decode cX12_init 498 = .ok (.bipush 7, 2) := by decide +kernel
theorem dX12_init_500 : decode cX12_init 500 = .ok (.bipush 104, 2) := by decide +kernel
theorem dX12_init_502 : decode cX12_init 502 = .ok (.castore, 1) := by decide +kernel
theorem dX12_init_503 : decode cX12_init 503 = .ok (.putfield 63, 3) := by decide +kernel
theorem dX12_init_506 : decode cX12_init 506 = .ok (.aload_n 0, 1) := by decide +kernel
theorem dX12_init_507 : decode cX12_init 507 = .ok (.iconst 3, 1) := by decide +kernel
theorem dX12_init_508 : decode cX12_init 508 = .ok (.newarray .char, 2) := by decide +kernel
theorem dX12_init_510 : decode cX12_init 510 = .ok (.dup, 1) := by decide +kernel
theorem dX12_init_511 : decode cX12_init 511 = .ok (.iconst 0, 1) := by decide +kernel
theorem dX12_init_512 : decode cX12_init 512 = .ok (.bipush 100, 2) := by decide +kernel
theorem dX12_init_514 : decode cX12_init 514 = .ok (.castore, 1) := by decide +kernel
theorem dX12_init_515 : decode cX12_init 515 = .ok (.dup, 1) := by decide +kernel
theorem dX12_init_516 : decode cX12_init 516 = .ok (.iconst 1, 1) := by decide +kernel
theorem dX12_init_517 : decode cX12_init 517 = .ok (.bipush 97, 2) := by decide +kernel
theorem dX12_init_519 : decode cX12_init 519 = .ok (.castore, 1) := by decide +kernel
theorem dX12_init_520 : decode cX12_init 520 = .ok (.dup, 1) := by decide +kernel
theorem dX12_init_521 : decode cX12_init 521 = .ok (.iconst 2, 1) := by decide +kernel
theorem dX12_init_522 : decode cX12_init 522 = .ok (.bipush 121, 2) := by decide +kernel
theorem dX12_init_524 : decode cX12_init 524 = .ok (.castore, 1) := by decide +kernel
theorem dX12_init_525 : decode cX12_init 525 = .ok (.putfield 66, 3) := by decide +kernel
theorem dX12_init_528 : decode cX12_init 528 = .ok (.aload_n 0, 1) := by decide +kernel
theorem dX12_init_529 : decode cX12_init 529 = .ok (.iconst 4, 1) := by decide +kernel
theorem dX12_init_530 : decode cX12_init 530 = .ok (.newarray .char, 2) := by decide +kernel
theorem dX12_init_532 : decode cX12_init 532 = .ok (.dup, 1) := by decide +kernel
theorem dX12_init_533 : decode cX12_init 533 = .ok (.iconst 0, 1) := by decide +kernel
theorem dX12_init_534 : decode cX12_init 534 = .ok (.bipush 102, 2) := by decide +kernel
theorem dX12_init_536 : decode cX12_init 536 = .ok (.castore, 1) := by decide +kernel
theorem dX12_init_537 : decode cX12_init 537 = .ok (.dup, 1) := by decide +kernel
theorem dX12_init_538 : decode cX12_init 538 = .ok (.iconst 1, 1) := by decide +kernel
theorem dX12_init_539 : decode cX12_init 539 = .ok (.bipush 101, 2) := by decide +kernel
theorem dX12_init_541 : decode cX12_init 541 = .ok (.castore, 1) := by decide +kernel
theorem dX12_init_542 : decode cX12_init 542 = .ok (.dup, 1) := by decide +kernel
theorem dX12_init_543 : decode cX12_init 543 = .ok (.iconst 2, 1) := by decide +kernel
theorem dX12_init_544 : decode cX12_init 544 = .ok (.bipush 101, 2) := by decide +kernel
theorem dX12_init_546 : decode cX12_init 546 = .ok (.castore, 1) := by decide +kernel
theorem dX12_init_547 : decode cX12_init 547 = .ok (.dup, 1) := by decide +kernel
theorem dX12_init_548 : decode cX12_init 548 = .ok (.iconst 3, 1) := by decide +kernel
theorem dX12_init_549 : decode cX12_init 549 = .ok (.bipush 108, 2) := by decide +kernel
theorem dX12_init_551 : decode cX12_init 551 = .ok (.castore, 1) := by decide +kernel
theorem dX12_init_552 : decode cX12_init 552 = .ok (.putfield 69, 3) := by decide +kernel
theorem dX12_init_555 : decode cX12_init 555 = .ok (.aload_n 0, 1) := by decide +kernel
theorem dX12_init_556 : decode cX12_init 556 = .ok (.bipush 6, 2) := by decide +kernel
theorem dX12_init_558 : decode cX12_init 558 = .ok (.newarray .char, 2) := by decide +kernel
theorem dX12_init_560 : decode cX12_init 560 = .ok (.dup, 1) := by decide +kernel
theorem dX12_init_561 : decode cX12_init 561 = .ok (.iconst 0, 1) := by decide +kernel
theorem dX12_init_562 : decode cX12_init 562 = .ok (.bipush 110, 2) := by decide +kernel
theorem dX12_init_564 : decode cX12_init 564 = .ok (.castore, 1) := by decide +kernel
theorem dX12_init_565 : decode cX12_init 565 = .ok (.dup, 1) := by decide +kernel
theorem dX12_init_566 : decode cX12_init 566 = .ok (.iconst 1, 1) := by decide +kernel
theorem dX12_init_567 : decode cX12_init 567 = .ok (.bipush 117, 2) := by decide +kernel
theorem dX12_init_569 : decode cX12_init 569 = .ok (.castore, 1) := by decide +kernel
theorem dX12_init_570 : decode cX12_init 570 = .ok (.dup, 1) := by decide +kernel
theorem dX12_init_571 : decode cX12_init 571 = .ok (.iconst 2, 1) := by decide +kernel
theorem dX12_init_572 : decode cX12_init 572 = .ok (.bipush 109, 2) := by decide +kernel
theorem dX12_init_574 : decode cX12_init 574 = .ok (.castore, 1) := by decide +kernel
theorem dX12_init_575 : decode cX12_init 575 = .ok (.dup, 1) := by decide +kernel
theorem dX12_init_576 : decode cX12_init 576 = .ok (.iconst 3, 1) := by decide +kernel
theorem dX12_init_577 : decode cX12_init 577 = .ok (.bipush 98, 2) := by decide +kernel
theorem dX12_init_579 : decode cX12_init 579 = .ok (.castore, 1) := by decide +kernel
theorem dX12_init_580 : decode cX12_init 580 = .ok (.dup, 1) := by decide +kernel
theorem dX12_init_581 : decode cX12_init 581 = .ok (.iconst 4, 1) := by decide +kernel
theorem dX12_init_582 : decode cX12_init 582 = .ok (.bipush 101, 2) := by decide +kernel
theorem dX12_init_584 : decode cX12_init 584 = .ok (.castore, 1) := by decide +kernel
theorem dX12_init_585 : decode cX12_init 585 = .ok (.dup, 1) := by decide +kernel
theorem dX12_init_586 : decode cX12_init 586 = .ok (.iconst 5, 1) := by decide +kernel
theorem dX12_init_587 : decode cX12_init 587 = .ok (.bipush 114, 2) := by decide +kernel
theorem dX12_init_589 : decode cX12_init 589 = .ok (.castore, 1) := by decide +kernel
theorem dX12_init_590 : decode cX12_init 590 = .ok (.putfield 72, 3) := by decide +kernel
theorem dX12_init_593 : decode cX12_init 593 = .ok (.aload_n 0, 1) := by decide +kernel
theorem dX12_init_594 : decode cX12_init 594 = .ok (.iconst 5, 1) := by decide +kernel
theorem dX12_init_595 : decode cX12_init 595 = .ok (.newarray .char, 2) := by decide +kernel
theorem dX12_init_597 : decode cX12_init 597 = .ok (.dup, 1) := by decide +kernel
theorem dX12_init_598 : decode cX12_init 598 = .ok (.iconst 0, 1) := by decide +kernel
theorem dX12_init_599 : decode cX12_init 599 = .ok (.bipush 102, 2) := by decide +kernel
theorem dX12_init_601 : decode cX12_init 601 = .ok (.castore, 1) := by decide +kernel
theorem dX12_init_602 : decode cX12_init 602 = .ok (.dup, 1) := by decide +kernel
theorem dX12_init_603 : decode cX12_init 603 = .ok (.iconst 1, 1) := by decide +kernel
theorem dX12_init_604 : decode cX12_init 604 = .ok (.bipush 101, 2) := by decide +kernel
theorem dX12_init_606 : decode cX12_init 606 = .ok (.castore, 1) := by decide +kernel
theorem dX12_init_607 : decode cX12_init 607 = .ok (.dup, 1) := by decide +kernel
theorem dX12_init_608 : decode cX12_init 608 = .ok (.iconst 2, 1) := by decide +kernel
theorem dX12_init_609 : decode cX12_init 609 = .ok (.bipush 101, 2) := by decide +kernel
theorem dX12_init_611 : decode cX12_init 611 = .ok (.castore, 1) := by decide +kernel
theorem dX12_init_612 : decode cX12_init 612 = .ok (.dup, 1) := by decide +kernel
theorem dX12_init_613 : decode cX12_init 613 = .ok (.iconst 3, 1) := by decide +kernel
theorem dX12_init_614 : decode cX12_init 614 = .ok (.bipush 108, 2) := by decide +kernel
theorem dX12_init_616 : decode cX12_init 616 = .ok (.castore, 1) := by decide +kernel
theorem dX12_init_617 : decode cX12_init 617 = .ok (.dup, 1) := by decide +kernel
theorem dX12_init_618 : decode cX12_init 618 = .ok (.iconst 4, 1) := by decide +kernel
theorem dX12_init_619 : decode cX12_init 619 = .ok (.bipush 115, 2) := by decide +kernel
theorem dX12_init_621 : decode cX12_init 621 = .ok (.castore, 1) := by decide +kernel
theorem dX12_init_622 : decode cX12_init 622 = .ok (.putfield 75, 3) := by decide +kernel
theorem dX12_init_625 : decode cX12_init 625 = .ok (.aload_n 0, 1) := by decide +kernel
theorem dX12_init_626 : decode cX12_init 626 = .ok (.iconst 5, 1) := by decide +kernel
theorem dX12_init_627 : decode cX12_init 627 = .ok (.newarray .char, 2) := by decide +kernel
theorem dX12_init_629 : decode cX12_init 629 = .ok (.dup, 1) := by decide +kernel
theorem dX12_init_630 : decode cX12_init 630 = .ok (.iconst 0, 1) := by decide +kernel
theorem dX12_init_631 : decode cX12_init 631 = .ok (.bipush 115, 2) := by decide +kernel
theorem dX12_init_633 : decode cX12_init 633 = .ok (.castore, 1) := by decide +kernel
theorem dX12_init_634 : decode cX12_init 634 = .ok (.dup, 1) := by decide +kernel
theorem dX12_init_635 : decode cX12_init 635 = .ok (.iconst 1, 1) := by decide +kernel
theorem dX12_init_636 : decode cX12_init 636 = .ok (.bipush 116, 2) := by decide +kernel
theorem dX12_init_638 : decode cX12_init 638 = .ok (.castore, 1) := by decide +kernel
theorem dX12_init_639 : decode cX12_init 639 = .ok (.dup, 1) := by decide +kernel
theorem dX12_init_640 : decode cX12_init 640 = .ok (.iconst 2, 1) := by decide +kernel
theorem dX12_init_641 : decode cX12_init 641 = .ok (.bipush 101, 2) := by decide +kernel
theorem dX12_init_643 : decode cX12_init 643 = .ok (.castore, 1) := by decide +kernel
theorem dX12_init_644 : decode cX12_init 644 = .ok (.dup, 1) := by decide +kernel
theorem dX12_init_645 : decode cX12_init 645 = .ok (.iconst 3, 1) := by decide +kernel
theorem dX12_init_646 : decode cX12_init 646 = .ok (.bipush 112, 2) := by decide +kernel
theorem dX12_init_648 : decode cX12_init 648 = .ok (.castore, 1) := by decide +kernel
theorem dX12_init_649 : decode cX12_init 649 = .ok (.dup, 1) := by decide +kernel
theorem dX12_init_650 : decode cX12_init 650 = .ok (.iconst 4, 1) := by decide +kernel
theorem dX12_init_651 : decode cX12_init 651 = .ok (.bipush 115, 2) := by decide +kernel
theorem dX12_init_653 : decode cX12_init 653 = .ok (.castore, 1) := by decide +kernel
theorem dX12_init_654 : decode cX12_init 654 = .ok (.putfield 78, 3) := by decide +kernel
theorem dX12_init_657 : decode cX12_init 657 = .ok (.aload_n 0, 1) := by decide +kernel
theorem dX12_init_658 : decode cX12_init 658 = .ok (.iconst 2, 1) := by decide +kernel
theorem dX12_init_659 : decode cX12_init 659 = .ok (.newarray .char, 2) := by decide +kernel
theorem dX12_init_661 : decode cX12_init 661 = .ok (.dup, 1) := by decide +kernel
theorem dX12_init_662 : decode cX12_init 662 = .ok (.iconst 0, 1) := by decide +kernel
theorem dX12_init_663 : decode cX12_init 663 = .ok (.bipush 111, 2) := by decide +kernel
theorem dX12_init_665 : decode cX12_init 665 = .ok (.castore, 1) := by decide +kernel
theorem dX12_init_666 : decode cX12_init 666 = .ok (.dup, 1) := by decide +kernel
theorem dX12_init_667 : decode cX12_init 667 = .ok (.iconst 1, 1) := by decide +kernel
theorem dX12_init_668 : decode cX12_init 668 = .ok (.bipush 114, 2) := by decide +kernel
theorem dX12_init_670 : decode cX12_init 670 = .ok (.castore, 1) := by decide +kernel
theorem dX12_init_671 : decode cX12_init 671 = .ok (.putfield 81, 3) := by decide +kernel
theorem dX12_init_674 : decode cX12_init 674 = .ok (.aload_n 0, 1) := by decide +kernel
theorem dX12_init_675 : decode cX12_init 675 = .ok (.iconst 3, 1) := by decide +kernel
theorem dX12_init_676 : decode cX12_init 676 = .ok (.newarray .char, 2) := by decide +kernel
theorem dX12_init_678 : decode cX12_init 678 = .ok (.dup, 1) := by decide +kernel
theorem dX12_init_679 : decode cX12_init 679 = .ok (.iconst 0, 1) := by decide +kernel
theorem dX12_init_680 : decode cX12_init 680 = .ok (.bipush 97, 2) := by decide +kernel
theorem dX12_init_682 : decode cX12_init 682 = .ok (.castore, 1) := by decide +kernel
theorem dX12_init_683 : decode cX12_init 683 = .ok (.dup, 1) := by decide +kernel
theorem dX12_init_684 : decode cX12_init 684 = .ok (.iconst 1, 1) := by decide +kernel
theorem dX12_init_685 : decode cX12_init 685 = .ok (.bipush 110, 2) := by decide +kernel
theorem dX12_init_687 : decode cX12_init 687 = .ok (.castore, 1) := by decide +kernel
theorem dX12_init_688 : decode cX12_init 688 = .ok (.dup, 1) := by decide +kernel
theorem dX12_init_689 : decode cX12_init 689 = .ok (.iconst 2, 1) := by decide +kernel
theorem dX12_init_690 : decode cX12_init 690 = .ok (.bipush 100, 2) := by decide +kernel
theorem dX12_init_692 : decode cX12_init 692 = .ok (.castore, 1) := by decide +kernel
theorem dX12_init_693 : decode cX12_init 693 = .ok (.putfield 84, 3) := by decide +kernel
theorem dX12_init_696 : decode cX12_init 696 = .ok (.aload_n 0, 1) := by decide +kernel
theorem dX12_init_697 : decode cX12_init 697 = .ok (.iconst 3, 1) := by decide +kernel
theorem dX12_init_698 : decode cX12_init 698 = .ok (.newarray .char, 2) := by decide +kernel
theorem dX12_init_700 : decode cX12_init 700 = .ok (.dup, 1) := by decide +kernel
theorem dX12_init_701 : decode cX12_init 701 = .ok (.iconst 0, 1) := by decide +kernel
theorem dX12_init_702 : decode cX12_init 702 = .ok (.bipush 110, 2) := by decide +kernel
theorem dX12_init_704 : decode cX12_init 704 = .ok (.castore, 1) := by decide +kernel
theorem dX12_init_705 : decode cX12_init 705 = .ok (.dup, 1) := by decide +kernel
theorem dX12_init_706 : decode cX12_init 706 = .ok (.iconst 1, 1) := by decide +kernel
theorem dX12_init_707 : decode cX12_init 707 = .ok (.bipush 111, 2) := by decide +kernel
theorem dX12_init_709 : decode cX12_init 709 = .ok (.castore, 1) := by decide +kernel
theorem dX12_init_710 : decode cX12_init 710 = .ok (.dup, 1) := by decide +kernel
theorem dX12_init_711 : decode cX12_init 711 = .ok (.iconst 2, 1) := by decide +kernel
theorem dX12_init_712 : decode cX12_init 712 = .ok (.bipush 116, 2) := by decide +kernel
theorem dX12_init_714 : decode cX12_init 714 = .ok (.castore, 1) := by decide +kernel
theorem dX12_init_715 : decode cX12_init 715 = .ok (.putfield 87, 3) := by decide +kernel
theorem dX12_init_718 : decode cX12_init 718 = .ok (.aload_n 0, 1) := by decide +kernel
theorem dX12_init_719 : decode cX12_init 719 = .ok (.iconst 3, 1) := by decide +kernel
theorem dX12_init_720 : decode cX12_init 720 = .ok (.newarray .char, 2) := by decide +kernel
theorem dX12_init_722 : decode cX12_init 722 = .ok (.dup, 1) := by decide +kernel
theorem dX12_init_723 : decode cX12_init 723 = .ok (.iconst 0, 1) := by decide +kernel
theorem dX12_init_724 : decode cX12_init 724 = .ok (.bipush 97, 2) := by decide +kernel
theorem dX12_init_726 : decode cX12_init 726 = .ok (.castore, 1) := by decide +kernel
theorem dX12_init_727 : decode cX12_init 727 = .ok (.dup, 1) := by decide +kernel
theorem dX12_init_728 : decode cX12_init 728 = .ok (.iconst 1, 1) := by decide +kernel
theorem dX12_init_729 : decode cX12_init 729 = .ok (.bipush 108, 2) := by decide +kernel
theorem dX12_init_731 : decode cX12_init 731 = .ok (.castore, 1) := by decide +kernel
theorem dX12_init_732 : decode cX12_init 732 = .ok (.dup, 1) := by decide +kernel
theorem dX12_init_733 : decode cX12_init 733 = .ok (.iconst 2, 1) := by decide +kernel
theorem dX12_init_734 : decode cX12_init 734 = .ok (.bipush 108, 2) := by decide +kernel
theorem dX12_init_736 : decode cX12_init 736 = .ok (.castore, 1) := by decide +kernel
theorem dX12_init_737 : decode cX12_init 737 = .ok (.putfield 90, 3) := by decide +kernel
theorem dX12_init_740 : decode cX12_init 740 = .ok (.aload_n 0, 1) := by decide +kernel
theorem dX12_init_741 : decode cX12_init 741 = .ok (.iconst 3, 1) := by decide +kernel
theorem dX12_init_742 : decode cX12_init 742 = .ok (.newarray .char, 2) := by decide +kernel
theorem dX12_init_744 : decode cX12_init 744 = .ok (.dup, 1) := by decide +kernel
theorem dX12_init_745 : decode cX12_init 745 = .ok (.iconst 0, 1) := by decide +kernel
theorem dX12_init_746 : decode cX12_init 746 = .ok (.bipush 109, 2) := by decide +kernel
theorem dX12_init_748 : decode cX12_init 748 = .ok (.castore, 1) := by decide +kernel
theorem dX12_init_749 : decode cX12_init 749 = .ok (.dup, 1) := by decide +kernel
theorem dX12_init_750 : decode cX12_init 750 = .ok (.iconst 1, 1) := by decide +kernel
theorem dX12_init_751 : decode cX12_init 751 = .ok (.bipush 105, 2) := by decide +kernel
theorem dX12_init_753 : decode cX12_init 753 = .ok (.castore, 1) := by decide +kernel
theorem dX12_init_754 : decode cX12_init 754 = .ok (.dup, 1) := by decide +kernel
theorem dX12_init_755 : decode cX12_init 755 = .ok (.iconst 2, 1) := by decide +kernel
theorem dX12_init_756 : decode cX12_init 756 = .ok (.bipush 110, 2) := by decide +kernel
theorem dX12_init_758 : decode cX12_init 758 = .ok (.castore, 1) := by decide +kernel
theorem dX12_init_759 : decode cX12_init 759 = .ok (.putfield 93, 3) := by decide +kernel
theorem dX12_init_762 : decode cX12_init 762 = .ok (.aload_n 0, 1) := by decide +kernel
theorem dX12_init_763 : decode cX12_init 763 = .ok (.iconst 3, 1) := by decide +kernel
theorem dX12_init_764 : decode cX12_init 764 = .ok (.newarray .char, 2) := by decide +kernel
theorem dX12_init_766 : decode cX12_init 766 = .ok (.dup, 1) := by decide +kernel
theorem dX12_init_767 : decode cX12_init 767 = .ok (.iconst 0, 1) := by decide +kernel
theorem dX12_init_768 : decode cX12_init 768 = .ok (.bipush 109, 2) := by decide +kernel
theorem dX12_init_770 : decode cX12_init 770 = .ok (.castore, 1) := by decide +kernel
theorem dX12_init_771 : decode cX12_init 771 = .ok (.dup, 1) := by decide +kernel
theorem dX12_init_772 : decode cX12_init 772 = .ok (.iconst 1, 1) := by decide +kernel
theorem dX12_init_773 : decode cX12_init 773 = .ok (.bipush 97, 2) := by decide +kernel
theorem dX12_init_775 : decode cX12_init 775 = .ok (.castore, 1) := by decide +kernel
theorem dX12_init_776 : decode cX12_init 776 = .ok (.dup, 1) := by decide +kernel
theorem dX12_init_777 : decode cX12_init 777 = .ok (.iconst 2, 1) := by decide +kernel
theorem dX12_init_778 : decode cX12_init 778 = .ok (.bipush 120, 2) := by decide +kernel
theorem dX12_init_780 : decode cX12_init 780 = .ok (.castore, 1) := by decide +kernel
theorem dX12_init_781 : decode cX12_init 781 = .ok (.putfield 96, 3) := by decide +kernel
theorem dX12_init_784 : decode cX12_init 784 = .ok (.aload_n 0, 1) := by decide +kernel
theorem dX12_init_785 : decode cX12_init 785 = .ok (.bipush 8, 2) := by decide +kernel
theorem dX12_init_787 : decode cX12_init 787 = .ok (.newarray .int, 2) := by decide +kernel
theorem dX12_init_789 : decode cX12_init 789 = .ok (.putfield 99, 3) := by decide +kernel
theorem dX12_init_792 : decode cX12_init 792 = .ok (.aload_n 0, 1) := by decide +kernel
theorem dX12_init_793 : decode cX12_init 793 = .ok (.bipush 32, 2) := by decide +kernel
theorem dX12_init_795 : decode cX12_init 795 = .ok (.newarray .long, 2) := by decide +kernel
theorem dX12_init_797 : decode cX12_init 797 = .ok (.putfield 102, 3) := by decide +kernel
theorem dX12_init_800 : decode cX12_init 800 = .ok (.aload_n 0, 1) := by decide +kernel
theorem dX12_init_801 : decode cX12_init 801 = .ok (.bipush 32, 2) := by decide +kernel
theorem dX12_init_803 : decode cX12_init 803 = .ok (.newarray .int, 2) := by decide +kernel
theorem dX12_init_805 : decode cX12_init 805 = .ok (.putfield 106, 3) := by decide +kernel
theorem dX12_init_808 : decode cX12_init 808 = .ok (.aload_n 0, 1) := by decide +kernel
theorem dX12_init_809 : decode cX12_init 809 = .ok (.bipush 72, 2) := by decide +kernel
theorem dX12_init_811 : decode cX12_init 811 = .ok (.newarray .int, 2) := by decide +kernel
theorem dX12_init_813 : decode cX12_init 813 = .ok (.putfield 109, 3) := by decide +kernel
theorem dX12_init_816 : decode cX12_init 816 = .ok (.aload_n 0, 1) := by decide +kernel
theorem dX12_init_817 : decode cX12_init 817 = .ok (.bipush 32, 2) := by decide +kernel
theorem dX12_init_819 : decode cX12_init 819 = .ok (.newarray .int, 2) := by decide +kernel
theorem dX12_init_821 : decode cX12_init 821 = .ok (.putfield 112, 3) := by decide +kernel
theorem dX12_init_824 : decode cX12_init 824 = .ok (.aload_n 0, 1) := by decide +kernel
theorem dX12_init_825 : decode cX12_init 825 = .ok (.bipush 6, 2) := by decide +kernel
theorem dX12_init_827 : decode cX12_init 827 = .ok (.newarray .int, 2) := by decide +kernel
theorem dX12_init_829 : decode cX12_init 829 = .ok (.dup, 1) := by decide +kernel
theorem dX12_init_830 : decode cX12_init 830 = .ok (.iconst 0, 1) := by decide +kernel
theorem dX12_init_831 : decode cX12_init 831 = .ok (.iconst (-1), 1) := by decide +kernel
theorem dX12_init_832 : decode cX12_init 832 = .ok (.iastore, 1) := by decide +kernel
theorem dX12_init_833 : decode cX12_init 833 = .ok (.dup, 1) := by decide +kernel
theorem dX12_init_834 : decode cX12_init 834 = .ok (.iconst 1, 1) := by decide +kernel
theorem dX12_init_835 : decode cX12_init 835 = .ok (.iconst (-1), 1) := by decide +kernel
theorem dX12_init_836 : decode cX12_init 836 = .ok (.iastore, 1) := by decide +kernel
theorem dX12_init_837 : decode cX12_init 837 = .ok (.dup, 1) := by decide +kernel
theorem dX12_init_838 : decode cX12_init 838 = .ok (.iconst 2, 1) := by decide +kernel
theorem dX12_init_839 : decode cX12_init 839 = .ok (.iconst (-1), 1) := by decide +kernel
theorem dX12_init_840 : decode cX12_init 840 = .ok (.iastore, 1) := by decide +kernel
theorem dX12_init_841 : decode cX12_init 841 = .ok (.dup, 1) := by decide +kernel
theorem dX12_init_842 : decode cX12_init 842 = .ok (.iconst 3, 1) := by decide +kernel
theorem dX12_init_843 : decode cX12_init 843 = .ok (.iconst (-1), 1) := by decide +kernel
theorem dX12_init_844 : decode cX12_init 844 = .ok (.iastore, 1) := by decide +kernel
theorem dX12_init_845 : decode cX12_init 845 = .ok (.dup, 1) := by decide +kernel
theorem dX12_init_846 : decode cX12_init 846 = .ok (.iconst 4, 1) := by decide +kernel
theorem dX12_init_847 : decode cX12_init 847 = .ok (.iconst (-1), 1) := by decide +kernel
theorem dX12_init_848 : decode cX12_init 848 = .ok (.iastore, 1) := by decide +kernel
theorem dX12_init_849 : decode cX12_init 849 = .ok (.dup, 1) := by decide +kernel
theorem dX12_init_850 : decode cX12_init 850 = .ok (.iconst 5, 1) := by decide +kernel
theorem dX12_init_851 : decode cX12_init 851 = .ok (.iconst (-1), 1) := by decide +kernel
theorem dX12_init_852 : decode cX12_init 852 = .ok (.iastore, 1) := by decide +kernel
theorem dX12_init_853 : decode cX12_init 853 = .ok (.putfield 115, 3) := by decide +kernel
theorem dX12_init_856 : decode cX12_init 856 = .ok (.aload_n 0, 1) := by decide +kernel
theorem dX12_init_857 : decode cX12_init 857 = .ok (.bipush 6, 2) := by decide +kernel
theorem dX12_init_859 : decode cX12_init 859 = .ok (.newarray .int, 2) := by decide +kernel
theorem dX12_init_861 : decode cX12_init 861 = .ok (.putfield 118, 3) := by decide +kernel
theorem dX12_init_864 : decode cX12_init 864 = .ok (.aload_n 0, 1) := by decide +kernel
theorem dX12_init_865 : decode cX12_init 865 = .ok (.sipush 3200, 3) := by decide +kernel
theorem dX12_init_868 : decode cX12_init 868 = .ok (.newarray .int, 2) := by decide +kernel
theorem dX12_init_870 : decode cX12_init 870 = .ok (.putfield 121, 3) := by decide +kernel
theorem dX12_init_873 : decode cX12_init 873 = .ok (.aload_n 0, 1) := by decide +kernel
theorem dX12_init_874 : decode cX12_init 874 = .ok (.sipush 218, 3) := by decide +kernel
theorem dX12_init_877 : decode cX12_init 877 = .ok (.newarray .int, 2) := by decide +kernel
theorem dX12_init_879 : decode cX12_init 879 = .ok (.putfield 124, 3) := by decide +kernel
theorem dX12_init_882 : decode cX12_init 882 = .ok (.aload_n 0, 1) := by decide +kernel
theorem dX12_init_883 : decode cX12_init 883 = .ok (.bipush 57, 2) := by decide +kernel
theorem dX12_init_885 : decode cX12_init 885 = .ok (.newarray .int, 2) := by decide +kernel
theorem dX12_init_887 : decode cX12_init 887 = .ok (.putfield 127, 3) := by decide +kernel
theorem dX12_init_890 : decode cX12_init 890 = .ok (.aload_n 0, 1) := by decide +kernel
theorem dX12_init_891 : decode cX12_init 891 = .ok (.bipush 8, 2) := by decide +kernel
theorem dX12_init_893 : decode cX12_init 893 = .ok (.newarray .int, 2) := by decide +kernel
theorem dX12_init_895 : decode cX12_init 895 = .ok (.putfield 130, 3) := by decide +kernel
theorem dX12_init_898 : decode cX12_init 898 = .ok (.aload_n 0, 1) := by decide +kernel
theorem dX12_init_899 : decode cX12_init 899 = .ok (.bipush 32, 2) := by decide +kernel
theorem dX12_init_901 : decode cX12_init 901 = .ok (.newarray .int, 2) := by decide +kernel
theorem dX12_init_903 : decode cX12_init 903 = .ok (.putfield 133, 3) := by decide +kernel
theorem dX12_init_906 : decode cX12_init 906 = .ok (.aload_n 0, 1) := by decide +kernel
theorem dX12_init_907 : decode cX12_init 907 = .ok (.bipush 64, 2) := by decide +kernel
theorem dX12_init_909 : decode cX12_init 909 = .ok (.newarray .int, 2) := by decide +kernel
theorem dX12_init_911 : decode cX12_init 911 = .ok (.putfield 136, 3) := by decide +kernel
theorem dX12_init_914 : decode cX12_init 914 = .ok (.aload_n 0, 1) := by decide +kernel
theorem dX12_init_915 : decode cX12_init 915 = .ok (.bipush 8, 2) := by decide +kernel
theorem dX12_init_917 : decode cX12_init 917 = .ok (.newarray .int, 2) := by decide +kernel
theorem dX12_init_919 : decode cX12_init 919 = .ok (.putfield 139, 3) := by decide +kernel
theorem dX12_init_922 : decode cX12_init 922 = .ok (.aload_n 0, 1) := by decide +kernel
theorem dX12_init_923 : decode cX12_init 923 = .ok (.bipush 12, 2) := by decide +kernel
theorem dX12_init_925 : decode cX12_init 925 = .ok (.newarray .boolean, 2) := by decide +kernel
theorem dX12_init_927 : decode cX12_init 927 = .ok (.putfield 142, 3) := by decide +kernel
theorem dX12_init_930 : decode cX12_init 930 = .ok (.aload_n 0, 1) := by decide +kernel
theorem dX12_init_931 : decode cX12_init 931 = .ok (.bipush 8, 2) := by decide +kernel
theorem dX12_init_933 : decode cX12_init 933 = .ok (.newarray .int, 2) := by decide +kernel
theorem dX12_init_935 : decode cX12_init 935 = .ok (.putfield 146, 3) := by decide +kernel
theorem dX12_init_938 : decode cX12_init 938 = .ok (.aload_n 0, 1) := by decide +kernel
theorem dX12_init_939 : decode cX12_init 939 = .ok (.bipush 48, 2) := by decide +kernel
theorem dX12_init_941 : decode cX12_init 941 = .ok (.newarray .int, 2) := by decide +kernel
theorem dX12_init_943 : decode cX12_init 943 = .ok (.putfield 149, 3) := by decide +kernel
theorem dX12_init_946 : decode cX12_init 946 = .ok (.aload_n 0, 1) := by decide +kernel
theorem dX12_init_947 : decode cX12_init 947 = .ok (.sipush 792, 3) := by decide +kernel
theorem dX12_init_950 : decode cX12_init 950 = .ok (.newarray .boolean, 2) := by decide +kernel
theorem dX12_init_952 : decode cX12_init 952 = .ok (.putfield 152, 3) := by decide +kernel
theorem dX12_init_955 : decode cX12_init 955 = .ok (.aload_n 0, 1) := by decide +kernel
theorem dX12_init_956 : decode cX12_init 956 = .ok (.ldc 155, 2) := by decide +kernel
theorem dX12_init_958 : decode cX12_init 958 = .ok (.newarray .int, 2) := by decide +kernel
theorem dX12_init_960 : decode cX12_init 960 = .ok (.putfield 156, 3) := by decide +kernel
theorem dX12_init_963 : decode cX12_init 963 = .ok (.aload_n 0, 1) := by decide +kernel
theorem dX12_init_964 : decode cX12_init 964 = .ok (.bipush 100, 2) := by decide +kernel
theorem dX12_init_966 : decode cX12_init 966 = .ok (.newarray .int, 2) := by decide +kernel
theorem dX12_init_968 : decode cX12_init 968 = .ok (.putfield 159, 3) := by decide +kernel
theorem dX12_init_971 : decode cX12_init 971 = .ok (.aload_n 0, 1) := by decide +kernel
theorem dX12_init_972 : decode cX12_init 972 = .ok (.sipush 4360, 3) := by decide +kernel
theorem dX12_init_975 : decode cX12_init 975 = .ok (.newarray .int, 2) := by decide +kernel
theorem dX12_init_977 : decode cX12_init 977 = .ok (.putfield 162, 3) := by decide +kernel
theorem dX12_init_980 : decode cX12_init 980 = .ok (.aload_n 0, 1) := by decide +kernel
theorem dX12_init_981 : decode cX12_init 981 = .ok (.lconst 1, 1) := by decide +kernel
theorem dX12_init_982 : decode cX12_init 982 = .ok (.putfield 165, 3) := by decide +kernel
theorem dX12_init_985 : decode cX12_init 985 = .ok (.aload_n 0, 1) := by decide +kernel
theorem dX12_init_986 : decode cX12_init 986 = .ok (.iconst 5, 1) := by decide +kernel
theorem dX12_init_987 : decode cX12_init 987 = .ok (.newarray .char, 2) := by decide +kernel
theorem dX12_init_989 : decode cX12_init 989 = .ok (.dup, 1) := by decide +kernel
theorem dX12_init_990 : decode cX12_init 990 = .ok (.iconst 0, 1) := by decide +kernel
theorem dX12_init_991 : decode cX12_init 991 = .ok (.bipush 102, 2) := by decide +kernel
theorem dX12_init_993 : decode cX12_init 993 = .ok (.castore, 1) := by decide +kernel
theorem dX12_init_994 : decode cX12_init 994 = .ok (.dup, 1) := by decide +kernel
theorem dX12_init_995 : decode cX12_init 995 = .ok (.iconst 1, 1) := by decide +kernel
theorem dX12_init_996 : decode cX12_init 996 = .ok (.bipush 105, 2) := by decide +kernel
theorem dX12_init_998 : decode cX12_init 998 = .ok (.castore, 1) := by decide +kernel
theorem dX12_init_999 : decode cX12_init 999 = .ok (.dup, 1) := by decide +kernel
theorem dX12_init_1000 : decode cX12_init 1000 = .ok (.iconst 2, 1) := by decide +kernel
theorem dX12_init_1001 : decode cX12_init 1001 = .ok (.bipush 114, 2) := by decide +kernel
theorem dX12_init_1003 : decode cX12_init 1003 = .ok (.castore, 1) := by decide +kernel
theorem dX12_init_1004 : decode cX12_init 1004 = .ok (.dup, 1) := by decide +kernel
theorem dX12_init_1005 : decode cX12_init 1005 = .ok (.iconst 3, 1) := by decide +kernel
theorem dX12_init_1006 : decode cX12_init 1006 = .ok (.bipush 115, 2) := by decide +kernel
theorem dX12_init_1008 : decode cX12_init 1008 = .ok (.castore, 1) := by decide +kernel
theorem dX12_init_1009 : decode cX12_init 1009 = .ok (.dup, 1) := by decide +kernel
theorem dX12_init_1010 : decode cX12_init 1010 = .ok (.iconst 4, 1) := by decide +kernel
theorem dX12_init_1011 : decode cX12_init 1011 = .ok (.bipush 116, 2) := by decide +kernel
theorem dX12_init_1013 : decode cX12_init 1013 = .ok (.castore, 1) := by decide +kernel
theorem dX12_init_1014 : decode cX12_init 1014 = .ok (.putfield 169, 3) := by decide +kernel
theorem dX12_init_1017 : decode cX12_init 1017 = .ok (.aload_n 0, 1) := by decide +kernel
theorem dX12_init_1018 : decode cX12_init 1018 = .ok (.iconst 4, 1) := by decide +kernel
theorem dX12_init_1019 : decode cX12_init 1019 = .ok (.newarray .char, 2) := by decide +kernel
theorem dX12_init_1021 : decode cX12_init 1021 = .ok (.dup, 1) := by decide +kernel
theorem dX12_init_1022 : decode cX12_init 1022 = .ok (.iconst 0, 1) := by decide +kernel
theorem dX12_init_1023 : decode cX12_init 1023 = .ok (.bipush 108, 2) := by decide +kernel
theorem dX12_init_1025 : decode cX12_init 1025 = .ok (.castore, 1) := by decide +kernel
theorem dX12_init_1026 : decode cX12_init 1026 = .ok (.dup, 1) := by decide +kernel
theorem dX12_init_1027 : decode cX12_init 1027 = .ok (.iconst 1, 1) := by decide +kernel
theorem dX12_init_1028 : decode cX12_init 1028 = .ok (.bipush 97, 2) := by decide +kernel
theorem dX12_init_1030 : decode cX12_init 1030 = .ok (.castore, 1) := by decide +kernel
theorem dX12_init_1031 : decode cX12_init 1031 = .ok (.dup, 1) := by decide +kernel
theorem dX12_init_1032 : decode cX12_init 1032 = .ok (.iconst 2, 1) := by decide +kernel
theorem dX12_init_1033 : decode cX12_init 1033 = .ok (.bipush 115, 2) := by decide +kernel
theorem dX12_init_1035 : decode cX12_init 1035 = .ok (.castore, 1) := by decide +kernel
theorem dX12_init_1036 : decode cX12_init 1036 = .ok (.dup, 1) := by decide +kernel
theorem dX12_init_1037 : decode cX12_init 1037 = .ok (.iconst 3, 1) := by decide +kernel
theorem dX12_init_1038 : decode cX12_init 1038 = .ok (.bipush 116, 2) := by decide +kernel
theorem dX12_init_1040 : decode cX12_init 1040 = .ok (.castore, 1) := by decide +kernel
theorem dX12_init_1041 : decode cX12_init 1041 = .ok (.putfield 172, 3) := by decide +kernel
theorem dX12_init_1044 : decode cX12_init 1044 = .ok (.aload_n 0, 1) := by decide +kernel
theorem dX12_init_1045 : decode cX12_init 1045 = .ok (.iconst 5, 1) := by decide +kernel
theorem dX12_init_1046 : decode cX12_init 1046 = .ok (.newarray .char, 2) := by decide +kernel
theorem dX12_init_1048 : decode cX12_init 1048 = .ok (.dup, 1) := by decide +kernel
theorem dX12_init_1049 : decode cX12_init 1049 = .ok (.iconst 0, 1) := by decide +kernel
theorem dX12_init_1050 : decode cX12_init 1050 = .ok (.bipush 111, 2) := by decide +kernel
theorem dX12_init_1052 : decode cX12_init 1052 = .ok (.castore, 1) := by decide +kernel
theorem dX12_init_1053 : decode cX12_init 1053 = .ok (.dup, 1) := by decide +kernel
theorem dX12_init_1054 : decode cX12_init 1054 = .ok (.iconst 1, 1) := by decide +kernel
theorem dX12_init_1055 : decode cX12_init 1055 = .ok (.bipush 102, 2) := by decide +kernel
theorem dX12_init_1057 : decode cX12_init 1057 = .ok (.castore, 1) := by decide +kernel
theorem dX12_init_1058 : decode cX12_init 1058 = .ok (.dup, 1) := by decide +kernel
theorem dX12_init_1059 : decode cX12_init 1059 = .ok (.iconst 2, 1) := by decide +kernel
theorem dX12_init_1060 : decode cX12_init 1060 = .ok (.bipush 116, 2) := by decide +kernel
theorem dX12_init_1062 : decode cX12_init 1062 = .ok (.castore, 1) := by decide +kernel
theorem dX12_init_1063 : decode cX12_init 1063 = .ok (.dup, 1) := by decide +kernel
theorem dX12_init_1064 : decode cX12_init 1064 = .ok (.iconst 3, 1) := by decide +kernel
theorem dX12_init_1065 : decode cX12_init 1065 = .ok (.bipush 101, 2) := by decide +kernel
theorem dX12_init_1067 : decode cX12_init 1067 = .ok (.castore, 1) := by decide +kernel
theorem dX12_init_1068 : decode cX12_init 1068 = .ok (.dup, 1) := by decide +kernel
theorem dX12_init_1069 : decode cX12_init 1069 = .ok (.iconst 4, 1) := by decide +kernel
theorem dX12_init_1070 : decode cX12_init 1070 = .ok (.bipush 110, 2) := by decide +kernel
theorem dX12_init_1072 : decode cX12_init 1072 = .ok (.castore, 1) := by decide +kernel
theorem dX12_init_1073 : decode cX12_init 1073 = .ok (.putfield 175, 3) := by decide +kernel
theorem dX12_init_1076 : decode cX12_init 1076 = .ok (.aload_n 0, 1) := by decide +kernel
theorem dX12_init_1077 : decode cX12_init 1077 = .ok (.iconst 5, 1) := by decide +kernel
theorem dX12_init_1078 : decode cX12_init 1078 = .ok (.newarray .char, 2) := by decide +kernel
theorem dX12_init_1080 : decode cX12_init 1080 = .ok (.dup, 1) := by decide +kernel
theorem dX12_init_1081 : decode cX12_init 1081 = .ok (.iconst 0, 1) := by decide +kernel
theorem dX12_init_1082 : decode cX12_init 1082 = .ok (.bipush 116, 2) := by decide +kernel
theorem dX12_init_1084 : decode cX12_init 1084 = .ok (.castore, 1) := by decide +kernel
theorem dX12_init_1085 : decode cX12_init 1085 = .ok (.dup, 1) := by decide +kernel
theorem dX12_init_1086 : decode cX12_init 1086 = .ok (.iconst 1, 1) := by decide +kernel
theorem dX12_init_1087 : decode cX12_init 1087 = .ok (.bipush 111, 2) := by decide +kernel
theorem dX12_init_1089 : decode cX12_init 1089 = .ok (.castore, 1) := by decide +kernel
theorem dX12_init_1090 : decode cX12_init 1090 = .ok (.dup, 1) := by decide +kernel
theorem dX12_init_1091 : decode cX12_init 1091 = .ok (.iconst 2, 1) := by decide +kernel
theorem dX12_init_1092 : decode cX12_init 1092 = .ok (.bipush 116, 2) := by decide +kernel
theorem dX12_init_1094 : decode cX12_init 1094 = .ok (.castore, 1) := by decide +kernel
theorem dX12_init_1095 : decode cX12_init 1095 = .ok (.dup, 1) := by decide +kernel
theorem dX12_init_1096 : decode cX12_init 1096 = .ok (.iconst 3, 1) := by decide +kernel
theorem dX12_init_1097 : decode cX12_init 1097 = .ok (.bipush 97, 2) := by decide +kernel
theorem dX12_init_1099 : decode cX12_init 1099 = .ok (.castore, 1) := by decide +kernel
theorem dX12_init_1100 : decode cX12_init 1100 = .ok (.dup, 1) := by decide +kernel
theorem dX12_init_1101 : decode cX12_init 1101 = .ok (.iconst 4, 1) := by decide +kernel
theorem dX12_init_1102 : decode cX12_init 1102 = .ok (.bipush 108, 2) := by decide +kernel
theorem dX12_init_1104 : decode cX12_init 1104 = .ok (.castore, 1) := by decide +kernel
theorem dX12_init_1105 : decode cX12_init 1105 = .ok (.putfield 178, 3) := by decide +kernel
theorem dX12_init_1108 : decode cX12_init 1108 = .ok (.aload_n 0, 1) := by decide +kernel
theorem dX12_init_1109 : decode cX12_init 1109 = .ok (.iconst 4, 1) := by decide +kernel
theorem dX12_init_1110 : decode cX12_init 1110 = .ok (.newarray .char, 2) := by decide +kernel
theorem dX12_init_1112 : decode cX12_init 1112 = .ok (.dup, 1) := by decide +kernel
theorem dX12_init_1113 : decode cX12_init 1113 = .ok (.iconst 0, 1) := by decide +kernel
theorem dX12_init_1114 : decode cX12_init 1114 = .ok (.bipush 109, 2) := by decide +kernel
theorem dX12_init_1116 : decode cX12_init 1116 = .ok (.castore, 1) := by decide +kernel
theorem dX12_init_1117 : decode cX12_init 1117 = .ok (.dup, 1) := by decide +kernel
theorem dX12_init_1118 : decode cX12_init 1118 = .ok (.iconst 1, 1) := by decide +kernel
theorem dX12_init_1119 : decode cX12_init 1119 = .ok (.bipush 111, 2) := by decide +kernel
theorem dX12_init_1121 : decode cX12_init 1121 = .ok (.castore, 1) := by decide +kernel
theorem dX12_init_1122 : decode cX12_init 1122 = .ok (.dup, 1) := by decide +kernel
theorem dX12_init_1123 : decode cX12_init 1123 = .ok (.iconst 2, 1) := by decide +kernel
theorem dX12_init_1124 : decode cX12_init 1124 = .ok (.bipush 115, 2) := by decide +kernel
theorem dX12_init_1126 : decode cX12_init 1126 = .ok (.castore, 1) := by decide +kernel
theorem dX12_init_1127 : decode cX12_init 1127 = .ok (.dup, 1) := by decide +kernel
theorem dX12_init_1128 : decode cX12_init 1128 = .ok (.iconst 3, 1) := by decide +kernel
theorem dX12_init_1129 : decode cX12_init 1129 = .ok (.bipush 116, 2) := by decide +kernel
theorem dX12_init_1131 : decode cX12_init 1131 = .ok (.castore, 1) := by decide +kernel
theorem dX12_init_1132 : decode cX12_init 1132 = .ok (.putfield 181, 3) := by decide +kernel
theorem dX12_init_1135 : decode cX12_init 1135 = .ok (.aload_n 0, 1) := by decide +kernel
theorem dX12_init_1136 : decode cX12_init 1136 = .ok (.iconst 5, 1) := by decide +kernel
theorem dX12_init_1137 : decode cX12_init 1137 = .ok (.newarray .char, 2) := by decide +kernel
theorem dX12_init_1139 : decode cX12_init 1139 = .ok (.dup, 1) := by decide +kernel
theorem dX12_init_1140 : decode cX12_init 1140 = .ok (.iconst 0, 1) := by decide +kernel
theorem dX12_init_1141 : decode cX12_init 1141 = .ok (.bipush 108, 2) := by decide +kernel
theorem dX12_init_1143 : decode cX12_init 1143 = .ok (.castore, 1) := by decide +kernel
theorem dX12_init_1144 : decode cX12_init 1144 = .ok (.dup, 1) := by decide +kernel
theorem dX12_init_1145 : decode cX12_init 1145 = .ok (.iconst 1, 1) := by decide +kernel
theorem dX12_init_1146 : decode cX12_init 1146 = .ok (.bipush 101, 2) := by decide +kernel
theorem dX12_init_1148 : decode cX12_init 1148 = .ok (.castore, 1) := by decide +kernel
theorem dX12_init_1149 : decode cX12_init 1149 = .ok (.dup, 1) := by decide +kernel
theorem dX12_init_1150 : decode cX12_init 1150 = .ok (.iconst 2, 1) := by decide +kernel
theorem dX12_init_1151 : decode cX12_init 1151 = .ok (.bipush 97, 2) := by decide +kernel
theorem dX12_init_1153 : decode cX12_init 1153 = .ok (.castore, 1) := by decide +kernel
theorem dX12_init_1154 : decode cX12_init 1154 = .ok (.dup, 1) := by decide +kernel
theorem dX12_init_1155 : decode cX12_init 1155 = .ok (.iconst 3, 1) := by decide +kernel
theorem dX12_init_1156 : decode cX12_init 1156 = .ok (.bipush 115, 2) := by decide +kernel
theorem dX12_init_1158 : decode cX12_init 1158 = .ok (.castore, 1) := by decide +kernel
theorem dX12_init_1159 : decode cX12_init 1159 = .ok (.dup, 1) := by decide +kernel
theorem dX12_init_1160 : decode cX12_init 1160 = .ok (.iconst 4, 1) := by decide +kernel
theorem dX12_init_1161 : decode cX12_init 1161 = .ok (.bipush 116, 2) := by decide +kernel
theorem dX12_init_1163 : decode cX12_init 1163 = .ok (.castore, 1) := by decide +kernel
theorem dX12_init_1164 : decode cX12_init 1164 = .ok (.putfield 184, 3) := by decide +kernel
theorem dX12_init_1167 : decode cX12_init 1167 = .ok (.aload_n 0, 1) := by decide +kernel
theorem dX12_init_1168 : decode cX12_init 1168 = .ok (.iconst 3, 1) := by decide +kernel
theorem dX12_init_1169 : decode cX12_init 1169 = .ok (.newarray .char, 2) := by decide +kernel
theorem dX12_init_1171 : decode cX12_init 1171 = .ok (.dup, 1) := by decide +kernel
theorem dX12_init_1172 : decode cX12_init 1172 = .ok (.iconst 0, 1) := by decide +kernel
theorem dX12_init_1173 : decode cX12_init 1173 = .ok (.bipush 110, 2) := by decide +kernel
theorem dX12_init_1175 : decode cX12_init 1175 = .ok (.castore, 1) := by decide +kernel
theorem dX12_init_1176 : decode cX12_init 1176 = .ok (.dup, 1) := by decide +kernel
theorem dX12_init_1177 : decode cX12_init 1177 = .ok (.iconst 1, 1) := by decide +kernel
theorem dX12_init_1178 : decode cX12_init 1178 = .ok (.bipush 111, 2) := by decide +kernel
theorem dX12_init_1180 : decode cX12_init 1180 = .ok (.castore, 1) := by decide +kernel
theorem dX12_init_1181 : decode cX12_init 1181 = .ok (.dup, 1) := by decide +kernel
theorem dX12_init_1182 : decode cX12_init 1182 = .ok (.iconst 2, 1) := by decide +kernel
theorem dX12_init_1183 : decode cX12_init 1183 = .ok (.bipush 116, 2) := by decide +kernel
theorem dX12_init_1185 : decode cX12_init 1185 = .ok (.castore, 1) := by decide +kernel
theorem dX12_init_1186 : decode cX12_init 1186 = .ok (.putfield 187, 3) := by decide +kernel
theorem dX12_init_1189 : decode cX12_init 1189 = .ok (.aload_n 0, 1) := by decide +kernel
theorem dX12_init_1190 : decode cX12_init 1190 = .ok (.iconst 3, 1) := by decide +kernel
theorem dX12_init_1191 : decode cX12_init 1191 = .ok (.newarray .char, 2) := by decide +kernel
theorem dX12_init_1193 : decode cX12_init 1193 = .ok (.dup, 1) := by decide +kernel
theorem dX12_init_1194 : decode cX12_init 1194 = .ok (.iconst 0, 1) := by decide +kernel
theorem dX12_init_1195 : decode cX12_init 1195 = .ok (.bipush 97, 2) := by decide +kernel
theorem dX12_init_1197 : decode cX12_init 1197 = .ok (.castore, 1) := by decide +kernel
theorem dX12_init_1198 : decode cX12_init 1198 = .ok (.dup, 1) := by decide +kernel
theorem dX12_init_1199 : decode cX12_init 1199 = .ok (.iconst 1, 1) := by decide +kernel
theorem dX12_init_1200 : decode cX12_init 1200 = .ok (.bipush 110, 2) := by decide +kernel
theorem dX12_init_1202 : decode cX12_init 1202 = .ok (.castore, 1) := by decide +kernel
theorem dX12_init_1203 : decode cX12_init 1203 = .ok (.dup, 1) := by decide +kernel
theorem dX12_init_1204 : decode cX12_init 1204 = .ok (.iconst 2, 1) := by decide +kernel
theorem dX12_init_1205 : decode cX12_init 1205 = .ok (.bipush 100, 2) := by decide +kernel
theorem dX12_init_1207 : decode cX12_init 1207 = .ok (.castore, 1) := by decide +kernel
theorem dX12_init_1208 : decode cX12_init 1208 = .ok (.putfield 190, 3) := by decide +kernel
theorem dX12_init_1211 : decode cX12_init 1211 = .ok (.aload_n 0, 1) := by decide +kernel
theorem dX12_init_1212 : decode cX12_init 1212 = .ok (.iconst 2, 1) := by decide +kernel
theorem dX12_init_1213 : decode cX12_init 1213 = .ok (.newarray .char, 2) := by decide +kernel
theorem dX12_init_1215 : decode cX12_init 1215 = .ok (.dup, 1) := by decide +kernel
theorem dX12_init_1216 : decode cX12_init 1216 = .ok (.iconst 0, 1) := by decide +kernel
theorem dX12_init_1217 : decode cX12_init 1217 = .ok (.bipush 111, 2) := by decide +kernel
theorem dX12_init_1219 : decode cX12_init 1219 = .ok (.castore, 1) := by decide +kernel
theorem dX12_init_1220 : decode cX12_init 1220 = .ok (.dup, 1) := by decide +kernel
theorem dX12_init_1221 : decode cX12_init 1221 = .ok (.iconst 1, 1) := by decide +kernel
theorem dX12_init_1222 : decode cX12_init 1222 = .ok (.bipush 114, 2) := by decide +kernel
theorem dX12_init_1224 : decode cX12_init 1224 = .ok (.castore, 1) := by decide +kernel
theorem dX12_init_1225 : decode cX12_init 1225 = .ok (.putfield 193, 3) := by decide +kernel
theorem dX12_init_1228 : decode cX12_init 1228 = .ok (.aload_n 0, 1) := by decide +kernel
theorem dX12_init_1229 : decode cX12_init 1229 = .ok (.iconst 3, 1) := by decide +kernel
theorem dX12_init_1230 : decode cX12_init 1230 = .ok (.newarray .char, 2) := by decide +kernel
theorem dX12_init_1232 : decode cX12_init 1232 = .ok (.dup, 1) := by decide +kernel
theorem dX12_init_1233 : decode cX12_init 1233 = .ok (.iconst 0, 1) := by decide +kernel
theorem dX12_init_1234 : decode cX12_init 1234 = .ok (.bipush 97, 2) := by decide +kernel
theorem dX12_init_1236 : decode cX12_init 1236 = .ok (.castore, 1) := by decide +kernel
theorem dX12_init_1237 : decode cX12_init 1237 = .ok (.dup, 1) := by decide +kernel
theorem dX12_init_1238 : decode cX12_init 1238 = .ok (.iconst 1, 1) := by decide +kernel
theorem dX12_init_1239 : decode cX12_init 1239 = .ok (.bipush 108, 2) := by decide +kernel
theorem dX12_init_1241 : decode cX12_init 1241 = .ok (.castore, 1) := by decide +kernel
theorem dX12_init_1242 : decode cX12_init 1242 = .ok (.dup, 1) := by decide +kernel
theorem dX12_init_1243 : decode cX12_init 1243 = .ok (.iconst 2, 1) := by decide +kernel
theorem dX12_init_1244 : decode cX12_init 1244 = .ok (.bipush 108, 2) := by decide +kernel
theorem dX12_init_1246 : decode cX12_init 1246 = .ok (.castore, 1) := by decide +kernel
theorem dX12_init_1247 : decode cX12_init 1247 = .ok (.putfield 196, 3) := by decide +kernel
theorem dX12_init_1250 : decode cX12_init 1250 = .ok (.aload_n 0, 1) := by decide +kernel
theorem dX12_init_1251 : decode cX12_init 1251 = .ok (.iconst 3, 1) := by decide +kernel
theorem dX12_init_1252 : decode cX12_init 1252 = .ok (.newarray .char, 2) := by decide +kernel
theorem dX12_init_1254 : decode cX12_init 1254 = .ok (.dup, 1) := by decide +kernel
theorem dX12_init_1255 : decode cX12_init 1255 = .ok (.iconst 0, 1) := by decide +kernel
theorem dX12_init_1256 : decode cX12_init 1256 = .ok (.bipush 109, 2) := by decide +kernel
theorem dX12_init_1258 : decode cX12_init 1258 = .ok (.castore, 1) := by decide +kernel
theorem dX12_init_1259 : decode cX12_init 1259 = .ok (.dup, 1) := by decide +kernel
theorem dX12_init_1260 : decode cX12_init 1260 = .ok (.iconst 1, 1) := by decide +kernel
theorem dX12_init_1261 : decode cX12_init 1261 = .ok (.bipush 105, 2) := by decide +kernel
theorem dX12_init_1263 : decode cX12_init 1263 = .ok (.castore, 1) := by decide +kernel
theorem dX12_init_1264 : decode cX12_init 1264 = .ok (.dup, 1) := by decide +kernel
theorem dX12_init_1265 : decode cX12_init 1265 = .ok (.iconst 2, 1) := by decide +kernel
theorem dX12_init_1266 : decode cX12_init 1266 = .ok (.bipush 110, 2) := by decide +kernel
theorem dX12_init_1268 : decode cX12_init 1268 = .ok (.castore, 1) := by decide +kernel
theorem dX12_init_1269 : decode cX12_init 1269 = .ok (.putfield 199, 3) := by decide +kernel
theorem dX12_init_1272 : decode cX12_init 1272 = .ok (.aload_n 0, 1) := by decide +kernel
theorem dX12_init_1273 : decode cX12_init 1273 = .ok (.iconst 3, 1) := by decide +kernel
theorem dX12_init_1274 : decode cX12_init 1274 = .ok (.newarray .char, 2) := by decide +kernel
theorem dX12_init_1276 : decode cX12_init 1276 = .ok (.dup, 1) := by decide +kernel
theorem dX12_init_1277 : decode cX12_init 1277 = .ok (.iconst 0, 1) := by decide +kernel
theorem dX12_init_1278 : decode cX12_init 1278 = .ok (.bipush 109, 2) := by decide +kernel
theorem dX12_init_1280 : decode cX12_init 1280 = .ok (.castore, 1) := by decide +kernel
theorem dX12_init_1281 : decode cX12_init 1281 = .ok (.dup, 1) := by decide +kernel
theorem dX12_init_1282 : decode cX12_init 1282 = .ok (.iconst 1, 1) := by decide +kernel
theorem dX12_init_1283 : decode cX12_init 1283 = .ok (.bipush 97, 2) := by decide +kernel
theorem dX12_init_1285 : decode cX12_init 1285 = .ok (.castore, 1) := by decide +kernel
theorem dX12_init_1286 : decode cX12_init 1286 = .ok (.dup, 1) := by decide +kernel
theorem dX12_init_1287 : decode cX12_init 1287 = .ok (.iconst 2, 1) := by decide +kernel
theorem dX12_init_1288 : decode cX12_init 1288 = .ok (.bipush 120, 2) := by decide +kernel
theorem dX12_init_1290 : decode cX12_init 1290 = .ok (.castore, 1) := by decide +kernel
theorem dX12_init_1291 : decode cX12_init 1291 = .ok (.putfield 202, 3) := by decide +kernel
theorem dX12_init_1294 : decode cX12_init 1294 = .ok (.aload_n 0, 1) := by decide +kernel
theorem dX12_init_1295 : decode cX12_init 1295 = .ok (.iconst 5, 1) := by decide +kernel
theorem dX12_init_1296 : decode cX12_init 1296 = .ok (.newarray .char, 2) := by decide +kernel
theorem dX12_init_1298 : decode cX12_init 1298 = .ok (.dup, 1) := by decide +kernel
theorem dX12_init_1299 : decode cX12_init 1299 = .ok (.iconst 0, 1) := by decide +kernel
theorem dX12_init_1300 : decode cX12_init 1300 = .ok (.bipush 112, 2) := by decide +kernel
theorem dX12_init_1302 : decode cX12_init 1302 = .ok (.castore, 1) := by decide +kernel
theorem dX12_init_1303 : decode cX12_init 1303 = .ok (.dup, 1) := by decide +kernel
theorem dX12_init_1304 : decode cX12_init 1304 = .ok (.iconst 1, 1) := by decide +kernel
theorem dX12_init_1305 : decode cX12_init 1305 = .ok (.bipush 114, 2) := by decide +kernel
theorem dX12_init_1307 : decode cX12_init 1307 = .ok (.castore, 1) := by decide +kernel
theorem dX12_init_1308 : decode cX12_init 1308 = .ok (.dup, 1) := by decide +kernel
theorem dX12_init_1309 : decode cX12_init 1309 = .ok (.iconst 2, 1) := by decide +kernel
theorem dX12_init_1310 : decode cX12_init 1310 = .ok (.bipush 101, 2) := by decide +kernel
theorem dX12_init_1312 : decode cX12_init 1312 = .ok (.castore, 1) := by decide +kernel
theorem dX12_init_1313 : decode cX12_init 1313 = .ok (.dup, 1) := by decide +kernel
theorem dX12_init_1314 : decode cX12_init 1314 = .ok (.iconst 3, 1) := by decide +kernel
theorem dX12_init_1315 : decode cX12_init 1315 = .ok (.bipush 115, 2) := by decide +kernel
theorem dX12_init_1317 : decode cX12_init 1317 = .ok (.castore, 1) := by decide +kernel
theorem dX12_init_1318 : decode cX12_init 1318 = .ok (.dup, 1) := by decide +kernel
theorem dX12_init_1319 : decode cX12_init 1319 = .ok (.iconst 4, 1) := by decide +kernel
theorem dX12_init_1320 : decode cX12_init 1320 = .ok (.bipush 115, 2) := by decide +kernel
theorem dX12_init_1322 : decode cX12_init 1322 = .ok (.castore, 1) := by decide +kernel
theorem dX12_init_1323 : decode cX12_init 1323 = .ok (.putfield 205, 3) := by decide +kernel
theorem dX12_init_1326 : decode cX12_init 1326 = .ok (.aload_n 0, 1) := by decide +kernel
theorem dX12_init_1327 : decode cX12_init 1327 = .ok (.iconst 5, 1) := by decide +kernel
theorem dX12_init_1328 : decode cX12_init 1328 = .ok (.newarray .char, 2) := by decide +kernel
theorem dX12_init_1330 : decode cX12_init 1330 = .ok (.dup, 1) := by decide +kernel
theorem dX12_init_1331 : decode cX12_init 1331 = .ok (.iconst 0, 1) := by decide +kernel
theorem dX12_init_1332 : decode cX12_init 1332 = .ok (.bipush 115, 2) := by decide +kernel
theorem dX12_init_1334 : decode cX12_init 1334 = .ok (.castore, 1) := by decide +kernel
theorem dX12_init_1335 : decode cX12_init 1335 = .ok (.dup, 1) := by decide +kernel
theorem dX12_init_1336 : decode cX12_init 1336 = .ok (.iconst 1, 1) := by decide +kernel
theorem dX12_init_1337 : decode cX12_init 1337 = .ok (.bipush 104, 2) := by decide +kernel
theorem dX12_init_1339 : decode cX12_init 1339 = .ok (.castore, 1) := by decide +kernel
theorem dX12_init_1340 : decode cX12_init 1340 = .ok (.dup, 1) := by decide +kernel
theorem dX12_init_1341 : decode cX12_init 1341 = .ok (.iconst 2, 1) := by decide +kernel
theorem dX12_init_1342 : decode cX12_init 1342 = .ok (.bipush 97, 2) := by decide +kernel
theorem dX12_init_1344 : decode cX12_init 1344 = .ok (.castore, 1) := by decide +kernel
theorem dX12_init_1345 : decode cX12_init 1345 = .ok (.dup, 1) := by decide +kernel
theorem dX12_init_1346 : decode cX12_init 1346 = .ok (.iconst 3, 1) := by decide +kernel
theorem dX12_init_1347 : decode cX12_init 1347 = .ok (.bipush 112, 2) := by decide +kernel
theorem dX12_init_1349 : decode cX12_init 1349 = .ok (.castore, 1) := by decide +kernel
theorem dX12_init_1350 : decode cX12_init 1350 = .ok (.dup, 1) := by decide +kernel
theorem dX12_init_1351 : decode cX12_init 1351 = .ok (.iconst 4, 1) := by decide +kernel
theorem dX12_init_1352 : decode cX12_init 1352 = .ok (.bipush 101, 2) := by decide +kernel
theorem dX12_init_1354 : decode cX12_init 1354 = .ok (.castore, 1) := by decide +kernel
theorem dX12_init_1355 : decode cX12_init 1355 = .ok (.putfield 208, 3) := by decide +kernel
theorem dX12_init_1358 : decode cX12_init 1358 = .ok (.aload_n 0, 1) := by decide +kernel
theorem dX12_init_1359 : decode cX12_init 1359 = .ok (.iconst 3, 1) := by decide +kernel
theorem dX12_init_1360 : decode cX12_init 1360 = .ok (.newarray .char, 2) := by decide +kernel
theorem dX12_init_1362 : decode cX12_init 1362 = .ok (.dup, 1) := by decide +kernel
theorem dX12_init_1363 : decode cX12_init 1363 = .ok (.iconst 0, 1) := by decide +kernel
theorem dX12_init_1364 : decode cX12_init 1364 = .ok (.bipush 100, 2) := by decide +kernel
theorem dX12_init_1366 : decode cX12_init 1366 = .ok (.castore, 1) := by decide +kernel
theorem dX12_init_1367 : decode cX12_init 1367 = .ok (.dup, 1) := by decide +kernel
theorem dX12_init_1368 : decode cX12_init 1368 = .ok (.iconst 1, 1) := by decide +kernel
theorem dX12_init_1369 : decode cX12_init 1369 = .ok (.bipush 97, 2) := by decide +kernel
theorem dX12_init_1371 : decode cX12_init 1371 = .ok (.castore, 1) := by decide +kernel
theorem dX12_init_1372 : decode cX12_init 1372 = .ok (.dup, 1) := by decide +kernel
theorem dX12_init_1373 : decode cX12_init 1373 = .ok (.iconst 2, 1) := by decide +kernel
theorem dX12_init_1374 : decode cX12_init 1374 = .ok (.bipush 121, 2) := by decide +kernel
theorem dX12_init_1376 : decode cX12_init 1376 = .ok (.castore, 1) := by decide +kernel
theorem dX12_init_1377 : decode cX12_init 1377 = .ok (.putfield 211, 3) := by decide +kernel
theorem dX12_init_1380 : decode cX12_init 1380 = .ok (.aload_n 0, 1) := by decide +kernel
theorem dX12_init_1381 : decode cX12_init 1381 = .ok (.bipush 8, 2) := by decide +kernel
theorem dX12_init_1383 : decode cX12_init 1383 = .ok (.newarray .char, 2) := by decide +kernel
theorem dX12_init_1385 : decode cX12_init 1385 = .ok (.dup, 1) := by decide +kernel
theorem dX12_init_1386 : decode cX12_init 1386 = .ok (.iconst 0, 1) := by decide +kernel
theorem dX12_init_1387 : decode cX12_init 1387 = .ok (.bipush 115, 2) := by decide +kernel
theorem dX12_init_1389 : decode cX12_init 1389 = .ok (.castore, 1) := by decide +kernel
theorem dX12_init_1390 : decode cX12_init 1390 = .ok (.dup, 1) := by decide +kernel
theorem dX12_init_1391 : decode cX12_init 1391 = .ok (.iconst 1, 1) := by decide +kernel
theorem dX12_init_1392 : decode cX12_init 1392 = .ok (.bipush 116, 2) := by decide +kernel
theorem dX12_init_1394 : decode cX12_init 1394 = .ok (.castore, 1) := by decide +kernel
theorem dX12_init_1395 : decode cX12_init 1395 = .ok (.dup, 1) := by decide +kernel
theorem dX12_init_1396 : decode cX12_init 1396 = .ok (.iconst 2, 1) := by decide +kernel
theorem dX12_init_1397 : decode cX12_init 1397 = .ok (.bipush 114, 2) := by decide +kernel
theorem dX12_init_1399 : decode cX12_init 1399 = .ok (.castore, 1) := by decide +kernel
theorem dX12_init_1400 : decode cX12_init 1400 = .ok (.dup, 1) := by decide +kernel
theorem dX12_init_1401 : decode cX12_init 1401 = .ok (.iconst 3, 1) := by decide +kernel
theorem dX12_init_1402 : decode cX12_init 1402 = .ok (.bipush 101, 2) := by decide +kernel
theorem dX12_init_1404 : decode cX12_init 1404 = .ok (.castore, 1) := by decide +kernel
theorem dX12_init_1405 : decode cX12_init 1405 = .ok (.dup, 1) := by decide +kernel
theorem dX12_init_1406 : decode cX12_init 1406 = .ok (.iconst 4, 1) := by decide +kernel
theorem dX12_init_1407 : decode cX12_init 1407 = .ok (.bipush 110, 2) := by decide +kernel
theorem dX12_init_1409 : decode cX12_init 1409 = .ok (.castore, 1) := by decide +kernel
theorem dX12_init_1410 : decode cX12_init 1410 = .ok (.dup, 1) := by decide +kernel
theorem dX12_init_1411 : decode cX12_init 1411 = .ok (.iconst 5, 1) := by decide +kernel
theorem dX12_init_1412 : decode cX12_init 1412 = .ok (.bipush 103, 2) := by decide +kernel
theorem dX12_init_1414 : decode cX12_init 1414 = .ok (.castore, 1) := by decide +kernel
theorem dX12_init_1415 : decode cX12_init 1415 = .ok (.dup, 1) := by decide +kernel
theorem dX12_init_1416 : decode cX12_init 1416 = .ok (.bipush 6, 2) := by decide +kernel
theorem dX12_init_1418 : decode cX12_init 1418 = .ok (.bipush 116, 2) := by decide +kernel
theorem dX12_init_1420 : decode cX12_init 1420 = .ok (.castore, 1) := by decide +kernel
theorem dX12_init_1421 : decode cX12_init 1421 = .ok (.dup, 1) := by decide +kernel
theorem dX12_init_1422 : decode cX12_init 1422 = .ok (.bipush 7, 2) := by decide +kernel
theorem dX12_init_1424 : decode cX12_init 1424 = .ok (.bipush 104, 2) := by decide +kernel
theorem dX12_init_1426 : decode cX12_init 1426 = .ok (.castore, 1) := by decide +kernel
theorem dX12_init_1427 : decode cX12_init 1427 = .ok (.putfield 214, 3) := by decide +kernel
theorem dX12_init_1430 : decode cX12_init 1430 = .ok (.aload_n 0, 1) := by decide +kernel
theorem dX12_init_1431 : decode cX12_init 1431 = .ok (.bipush 6, 2) := by decide +kernel
theorem dX12_init_1433 : decode cX12_init 1433 = .ok (.newarray .char, 2) := by decide +kernel
theorem dX12_init_1435 : decode cX12_init 1435 = .ok (.dup, 1) := by decide +kernel
theorem dX12_init_1436 : decode cX12_init 1436 = .ok (.iconst 0, 1) := by decide +kernel
theorem dX12_init_1437 : decode cX12_init 1437 = .ok (.bipush 115, 2) := by decide +kernel
theorem dX12_init_1439 : decode cX12_init 1439 = .ok (.castore, 1) := by decide +kernel
theorem dX12_init_1440 : decode cX12_init 1440 = .ok (.dup, 1) := by decide +kernel
theorem dX12_init_1441 : decode cX12_init 1441 = .ok (.iconst 1, 1) := by decide +kernel
theorem dX12_init_1442 : decode cX12_init 1442 = .ok (.bipush 104, 2) := by decide +kernel
theorem dX12_init_1444 : decode cX12_init 1444 = .ok (.castore, 1) := by decide +kernel
theorem dX12_init_1445 : decode cX12_init 1445 = .ok (.dup, 1) := by decide +kernel
theorem dX12_init_1446 : decode cX12_init 1446 = .ok (.iconst 2, 1) := by decide +kernel
theorem dX12_init_1447 : decode cX12_init 1447 = .ok (.bipush 101, 2) := by decide +kernel
theorem dX12_init_1449 : decode cX12_init 1449 = .ok (.castore, 1) := by decide +kernel
theorem dX12_init_1450 : decode cX12_init 1450 = .ok (.dup, 1) := by decide +kernel
theorem dX12_init_1451 : decode cX12_init 1451 = .ok (.iconst 3, 1) := by decide +kernel
theorem dX12_init_1452 : decode cX12_init 1452 = .ok (.bipush 101, 2) := by decide +kernel
theorem dX12_init_1454 : decode cX12_init 1454 = .ok (.castore, 1) := by decide +kernel
theorem dX12_init_1455 : decode cX12_init 1455 = .ok (.dup, 1) := by decide +kernel
theorem dX12_init_1456 : decode cX12_init 1456 = .ok (.iconst 4, 1) := by decide +kernel
theorem dX12_init_1457 : decode cX12_init 1457 = .ok (.bipush 116, 2) := by decide +kernel
theorem dX12_init_1459 : decode cX12_init 1459 = .ok (.castore, 1) := by decide +kernel
theorem dX12_init_1460 : decode cX12_init 1460 = .ok (.dup, 1) := by decide +kernel
theorem dX12_init_1461 : decode cX12_init 1461 = .ok (.iconst 5, 1) := by decide +kernel
theorem dX12_init_1462 : decode cX12_init 1462 = .ok (.bipush 115, 2) := by decide +kernel
theorem dX12_init_1464 : decode cX12_init 1464 = .ok (.castore, 1) := by decide +kernel
theorem dX12_init_1465 : decode cX12_init 1465 = .ok (.putfield 217, 3) := by decide +kernel
theorem dX12_init_1468 : decode cX12_init 1468 = .ok (.aload_n 0, 1) := by decide +kernel
theorem dX12_init_1469 : decode cX12_init 1469 = .ok (.iconst 4, 1) := by decide +kernel
theorem dX12_init_1470 : decode cX12_init 1470 = .ok (.newarray .char, 2) := by decide +kernel
theorem dX12_init_1472 : decode cX12_init 1472 = .ok (.dup, 1) := by decide +kernel
theorem dX12_init_1473 : decode cX12_init 1473 = .ok (.iconst 0, 1) := by decide +kernel
theorem dX12_init_1474 : decode cX12_init 1474 = .ok (.bipush 102, 2) := by decide +kernel
theorem dX12_init_1476 : decode cX12_init 1476 = .ok (.castore, 1) := by decide +kernel
theorem dX12_init_1477 : decode cX12_init 1477 = .ok (.dup, 1) := by decide +kernel
theorem dX12_init_1478 : decode cX12_init 1478 = .ok (.iconst 1, 1) := by decide +kernel
theorem dX12_init_1479 : decode cX12_init 1479 = .ok (.bipush 101, 2) := by decide +kernel
theorem dX12_init_1481 : decode cX12_init 1481 = .ok (.castore, 1) := by decide +kernel
theorem dX12_init_1482 : decode cX12_init 1482 = .ok (.dup, 1) := by decide +kernel
theorem dX12_init_1483 : decode cX12_init 1483 = .ok (.iconst 2, 1) := by decide +kernel
theorem dX12_init_1484 : decode cX12_init 1484 = .ok (.bipush 101, 2) := by decide +kernel
theorem dX12_init_1486 : decode cX12_init 1486 = .ok (.castore, 1) := by decide +kernel
theorem dX12_init_1487 : decode cX12_init 1487 = .ok (.dup, 1) := by decide +kernel
theorem dX12_init_1488 : decode cX12_init 1488 = .ok (.iconst 3, 1) := by decide +kernel
theorem dX12_init_1489 : decode cX12_init 1489 = .ok (.bipush 108, 2) := by decide +kernel
theorem dX12_init_1491 : decode cX12_init 1491 = .ok (.castore, 1) := by decide +kernel
theorem dX12_init_1492 : decode cX12_init 1492 = .ok (.putfield 220, 3) := by decide +kernel
theorem dX12_init_1495 : decode cX12_init 1495 = .ok (.aload_n 0, 1) := by decide +kernel
theorem dX12_init_1496 : decode cX12_init 1496 = .ok (.bipush 7, 2) := by decide +kernel
theorem dX12_init_1498 : decode cX12_init 1498 = .ok (.newarray .char, 2) := by decide +kernel
theorem dX12_init_1500 : decode cX12_init 1500 = .ok (.dup, 1) := by decide +kernel
theorem dX12_init_1501 : decode cX12_init 1501 = .ok (.iconst 0, 1) := by decide +kernel
theorem dX12_init_1502 : decode cX12_init 1502 = .ok (.bipush 102, 2) := by decide +kernel
theorem dX12_init_1504 : decode cX12_init 1504 = .ok (.castore, 1) := by decide +kernel
theorem dX12_init_1505 : decode cX12_init 1505 = .ok (.dup, 1) := by decide +kernel
theorem dX12_init_1506 : decode cX12_init 1506 = .ok (.iconst 1, 1) := by decide +kernel
theorem dX12_init_1507 : decode cX12_init 1507 = .ok (.bipush 101, 2) := by decide +kernel
theorem dX12_init_1509 : decode cX12_init 1509 = .ok (.castore, 1) := by decide +kernel
theorem dX12_init_1510 : decode cX12_init 1510 = .ok (.dup, 1) := by decide +kernel
theorem dX12_init_1511 : decode cX12_init 1511 = .ok (.iconst 2, 1) := by decide +kernel
theorem dX12_init_1512 : decode cX12_init 1512 = .ok (.bipush 101, 2) := by decide +kernel
theorem dX12_init_1514 : decode cX12_init 1514 = .ok (.castore, 1) := by decide +kernel
theorem dX12_init_1515 : decode cX12_init 1515 = .ok (.dup, 1) := by decide +kernel
theorem dX12_init_1516 : decode cX12_init 1516 = .ok (.iconst 3, 1) := by decide +kernel
theorem dX12_init_1517 : decode cX12_init 1517 = .ok (.bipush 108, 2) := by decide +kernel
theorem dX12_init_1519 : decode cX12_init 1519 = .ok (.castore, 1) := by decide +kernel
theorem dX12_init_1520 : decode cX12_init 1520 = .ok (.dup, 1) := by decide +kernel
theorem dX12_init_1521 : decode cX12_init 1521 = .ok (.iconst 4, 1) := by decide +kernel
theorem dX12_init_1522 : decode cX12_init 1522 = .ok (.bipush 105, 2) := by decide +kernel
theorem dX12_init_1524 : decode cX12_init 1524 = .ok (.castore, 1) := by decide +kernel
theorem dX12_init_1525 : decode cX12_init 1525 = .ok (.dup, 1) := by decide +kernel
theorem dX12_init_1526 : decode cX12_init 1526 = .ok (.iconst 5, 1) := by decide +kernel
theorem dX12_init_1527 : decode cX12_init 1527 = .ok (.bipush 110, 2) := by decide +kernel
theorem dX12_init_1529 : decode cX12_init 1529 = .ok (.castore, 1) := by decide +kernel
theorem dX12_init_1530 : decode cX12_init 1530 = .ok (.dup, 1) := by decide +kernel
theorem dX12_init_1531 : decode cX12_init 1531 = .ok (.bipush 6, 2) := by decide +kernel
theorem dX12_init_1533 : decode cX12_init 1533 = .ok (.bipush 103, 2) := by decide +kernel
theorem dX12_init_1535 : decode cX12_init 1535 = .ok (.castore, 1) := by decide +kernel
theorem dX12_init_1536 : decode cX12_init 1536 = .ok (.putfield 223, 3) := by decide +kernel
theorem dX12_init_1539 : decode cX12_init 1539 = .ok (.aload_n 0, 1) := by decide +kernel
theorem dX12_init_1540 : decode cX12_init 1540 = .ok (.bipush 6, 2) := by decide +kernel
theorem dX12_init_1542 : decode cX12_init 1542 = .ok (.newarray .char, 2) := by decide +kernel
theorem dX12_init_1544 : decode cX12_init 1544 = .ok (.dup, 1) := by decide +kernel
theorem dX12_init_1545 : decode cX12_init 1545 = .ok (.iconst 0, 1) := by decide +kernel
theorem dX12_init_1546 : decode cX12_init 1546 = .ok (.bipush 110, 2) := by decide +kernel
theorem dX12_init_1548 : decode cX12_init 1548 = .ok (.castore, 1) := by decide +kernel
theorem dX12_init_1549 : decode cX12_init 1549 = .ok (.dup, 1) := by decide +kernel
theorem dX12_init_1550 : decode cX12_init 1550 = .ok (.iconst 1, 1) := by decide +kernel
theorem dX12_init_1551 : decode cX12_init 1551 = .ok (.bipush 117, 2) := by decide +kernel
theorem dX12_init_1553 : decode cX12_init 1553 = .ok (.castore, 1) := by decide +kernel
theorem dX12_init_1554 : decode cX12_init 1554 = .ok (.dup, 1) := by decide +kernel
theorem dX12_init_1555 : decode cX12_init 1555 = .ok (.iconst 2, 1) := by decide +kernel
theorem dX12_init_1556 : decode cX12_init 1556 = .ok (.bipush 109, 2) := by decide +kernel
theorem dX12_init_1558 : decode cX12_init 1558 = .ok (.castore, 1) := by decide +kernel
theorem dX12_init_1559 : decode cX12_init 1559 = .ok (.dup, 1) := by decide +kernel
theorem dX12_init_1560 : decode cX12_init 1560 = .ok (.iconst 3, 1) := by decide +kernel
theorem dX12_init_1561 : decode cX12_init 1561 = .ok (.bipush 98, 2) := by decide +kernel
theorem dX12_init_1563 : decode cX12_init 1563 = .ok (.castore, 1) := by decide +kernel
theorem dX12_init_1564 : decode cX12_init 1564 = .ok (.dup, 1) := by decide +kernel
theorem dX12_init_1565 : decode cX12_init 1565 = .ok (.iconst 4, 1) := by decide +kernel
theorem dX12_init_1566 : decode cX12_init 1566 = .ok (.bipush 101, 2) := by decide +kernel
theorem dX12_init_1568 : decode cX12_init 1568 = .ok (.castore, 1) := by decide +kernel
theorem dX12_init_1569 : decode cX12_init 1569 = .ok (.dup, 1) := by decide +kernel
theorem dX12_init_1570 : decode cX12_init 1570 = .ok (.iconst 5, 1) := by decide +kernel
theorem dX12_init_1571 : decode cX12_init 1571 = .ok (.bipush 114, 2) := by decide +kernel
theorem dX12_init_1573 : decode cX12_init 1573 = .ok (.castore, 1) := by decide +kernel
theorem dX12_init_1574 : decode cX12_init 1574 = .ok (.putfield 226, 3) := by decide +kernel
theorem dX12_init_1577 : decode cX12_init 1577 = .ok (.aload_n 0, 1) := by decide +kernel
theorem dX12_init_1578 : decode cX12_init 1578 = .ok (.iconst 5, 1) := by decide +kernel
theorem dX12_init_1579 : decode cX12_init 1579 = .ok (.newarray .char, 2) := by decide +kernel
theorem dX12_init_1581 : decode cX12_init 1581 = .ok (.dup, 1) := by decide +kernel
theorem dX12_init_1582 : decode cX12_init 1582 = .ok (.iconst 0, 1) := by decide +kernel
theorem dX12_init_1583 : decode cX12_init 1583 = .ok (.bipush 102, 2) := by decide +kernel
theorem dX12_init_1585 : decode cX12_init 1585 = .ok (.castore, 1) := by decide +kernel
theorem dX12_init_1586 : decode cX12_init 1586 = .ok (.dup, 1) := by decide +kernel
theorem dX12_init_1587 : decode cX12_init 1587 = .ok (.iconst 1, 1) := by decide +kernel
theorem dX12_init_1588 : decode cX12_init 1588 = .ok (.bipush 101, 2) := by decide +kernel
theorem dX12_init_1590 : decode cX12_init 1590 = .ok (.castore, 1) := by decide +kernel
theorem dX12_init_1591 : decode cX12_init 1591 = .ok (.dup, 1) := by decide +kernel
theorem dX12_init_1592 : decode cX12_init 1592 = .ok (.iconst 2, 1) := by decide +kernel
theorem dX12_init_1593 : decode cX12_init 1593 = .ok (.bipush 101, 2) := by decide +kernel
theorem dX12_init_1595 : decode cX12_init 1595 = .ok (.castore, 1) := by decide +kernel
theorem dX12_init_1596 : decode cX12_init 1596 = .ok (.dup, 1) := by decide +kernel
theorem dX12_init_1597 : decode cX12_init 1597 = .ok (.iconst 3, 1) := by decide +kernel
theorem dX12_init_1598 : decode cX12_init 1598 = .ok (.bipush 108, 2) := by decide +kernel
theorem dX12_init_1600 : decode cX12_init 1600 = .ok (.castore, 1) := by decide +kernel
theorem dX12_init_1601 : decode cX12_init 1601 = .ok (.dup, 1) := by decide +kernel
theorem dX12_init_1602 : decode cX12_init 1602 = .ok (.iconst 4, 1) := by decide +kernel
theorem dX12_init_1603 : decode cX12_init 1603 = .ok (.bipush 115, 2) := by decide +kernel
theorem dX12_init_1605 : decode cX12_init 1605 = .ok (.castore, 1) := by decide +kernel
theorem dX12_init_1606 : decode cX12_init 1606 = .ok (.putfield 229, 3) := by decide +kernel
theorem dX12_init_1609 : decode cX12_init 1609 = .ok (.aload_n 0, 1) := by decide +kernel
theorem dX12_init_1610 : decode cX12_init 1610 = .ok (.iconst 5, 1) := by decide +kernel
theorem dX12_init_1611 : decode cX12_init 1611 = .ok (.newarray .char, 2) := by decide +kernel
theorem dX12_init_1613 : decode cX12_init 1613 = .ok (.dup, 1) := by decide +kernel
theorem dX12_init_1614 : decode cX12_init 1614 = .ok (.iconst 0, 1) := by decide +kernel
theorem dX12_init_1615 : decode cX12_init 1615 = .ok (.bipush 115, 2) := by decide +kernel
theorem dX12_init_1617 : decode cX12_init 1617 = .ok (.castore, 1) := by decide +kernel
theorem dX12_init_1618 : decode cX12_init 1618 = .ok (.dup, 1) := by decide +kernel
theorem dX12_init_1619 : decode cX12_init 1619 = .ok (.iconst 1, 1) := by decide +kernel
theorem dX12_init_1620 : decode cX12_init 1620 = .ok (.bipush 116, 2) := by decide +kernel
theorem dX12_init_1622 : decode cX12_init 1622 = .ok (.castore, 1) := by decide +kernel
theorem dX12_init_1623 : decode cX12_init 1623 = .ok (.dup, 1) := by decide +kernel
theorem dX12_init_1624 : decode cX12_init 1624 = .ok (.iconst 2, 1) := by decide +kernel
theorem dX12_init_1625 : decode cX12_init 1625 = .ok (.bipush 101, 2) := by decide +kernel
theorem dX12_init_1627 : decode cX12_init 1627 = .ok (.castore, 1) := by decide +kernel
theorem dX12_init_1628 : decode cX12_init 1628 = .ok (.dup, 1) := by decide +kernel
theorem dX12_init_1629 : decode cX12_init 1629 = .ok (.iconst 3, 1) := by decide +kernel
theorem dX12_init_1630 : decode cX12_init 1630 = .ok (.bipush 112, 2) := by decide +kernel
theorem dX12_init_1632 : decode cX12_init 1632 = .ok (.castore, 1) := by decide +kernel
theorem dX12_init_1633 : decode cX12_init 1633 = .ok (.dup, 1) := by decide +kernel
theorem dX12_init_1634 : decode cX12_init 1634 = .ok (.iconst 4, 1) := by decide +kernel
theorem dX12_init_1635 : decode cX12_init 1635 = .ok (.bipush 115, 2) := by decide +kernel
theorem dX12_init_1637 : decode cX12_init 1637 = .ok (.castore, 1) := by decide +kernel
theorem dX12_init_1638 : decode cX12_init 1638 = .ok (.putfield 232, 3) := by decide +kernel
theorem dX12_init_1641 : decode cX12_init 1641 = .ok (.aload_n 0, 1) := by decide +kernel
theorem dX12_init_1642 : decode cX12_init 1642 = .ok (.sipush 1700, 3) := by decide +kernel
theorem dX12_init_1645 : decode cX12_init 1645 = .ok (.newarray .int, 2) := by decide +kernel
theorem dX12_init_1647 : decode cX12_init 1647 = .ok (.putfield 235, 3) := by decide +kernel
theorem dX12_init_1650 : decode cX12_init 1650 = .ok (.aload_n 0, 1) := by decide +kernel
theorem dX12_init_1651 : decode cX12_init 1651 = .ok (.sipush 1700, 3) := by decide +kernel
theorem dX12_init_1654 : decode cX12_init 1654 = .ok (.newarray .int, 2) := by decide +kernel
theorem dX12_init_1656 : decode cX12_init 1656 = .ok (.putfield 238, 3) := by decide +kernel
theorem dX12_init_1659 : decode cX12_init 1659 = .ok (.aload_n 0, 1) := by decide +kernel
theorem dX12_init_1660 : decode cX12_init 1660 = .ok (.sipush 1700, 3) := by decide +kernel
theorem dX12_init_1663 : decode cX12_init 1663 = .ok (.newarray .long, 2) := by decide +kernel
theorem dX12_init_1665 : decode cX12_init 1665 = .ok (.putfield 241, 3) := by decide +kernel
theorem dX12_init_1668 : decode cX12_init 1668 = .ok (.aload_n 0, 1) := by decide +kernel
theorem dX12_init_1669 : decode cX12_init 1669 = .ok (.bipush 59, 2) := by decide +kernel
theorem dX12_init_1671 : decode cX12_init 1671 = .ok (.newarray .int, 2) := by decide +kernel
theorem dX12_init_1673 : decode cX12_init 1673 = .ok (.putfield 244, 3) := by decide +kernel
theorem dX12_init_1676 : decode cX12_init 1676 = .ok (.return_, 1) := by decide +kernel
theorem dX12_isIn_0 : decode cX12_isIn 0 = .ok (.lload_n 0, 1) := by decide +kernel
theorem dX12_isIn_1 : decode cX12_isIn 1 = .ok (.lload_n 2, 1) := by decide +kernel
theorem dX12_isIn_2 : decode cX12_isIn 2 = .ok (.lcmp, 1) := by decide +kernel
theorem dX12_isIn_3 : decode cX12_isIn 3 = .ok (.ifCond .lt 14, 3) := by decide +kernel
theorem dX12_isIn_6 : decode cX12_isIn 6 = .ok (.lload_n 0, 1) := by decide +kernel
theorem dX12_isIn_7 : decode cX12_isIn 7 = .ok (.lload 4, 2) := by decide +kernel
theorem dX12_isIn_9 : decode cX12_isIn 9 = .ok (.lcmp, 1) := by decide +kernel
theorem dX12_isIn_10 : decode cX12_isIn 10 = .ok (.ifCond .gt 7, 3) := by decide +kernel
theorem dX12_isIn_13 : decode cX12_isIn 13 = .ok (.iconst 1, 1) := by decide +kernel
theorem dX12_isIn_14 : decode cX12_isIn 14 = .ok (.goto 4, 3) := by decide +kernel
theorem dX12_isIn_17 : decode cX12_isIn 17 = .ok (.iconst 0, 1) := by decide +kernel
theorem dX12_isIn_18 : decode cX12_isIn 18 = .ok (.ireturn, 1) := by decide +kernel
theorem dX12_cut_0 : decode cX12_cut 0 = .ok (.lload_n 0, 1) := by decide +kernel
theorem dX12_cut_1 : decode cX12_cut 1 = .ok (.lconst 0, 1) := by decide +kernel
theorem dX12_cut_2 : decode cX12_cut 2 = .ok (.lcmp, 1) := by decide +kernel
theorem dX12_cut_3 : decode cX12_cut 3 = .ok (.ifCond .ge 7, 3) := by decide +kernel
theorem dX12_cut_6 : decode cX12_cut 6 = .ok (.iconst 0, 1) := by decide +kernel
theorem dX12_cut_7 : decode cX12_cut 7 = .ok (.goto 18, 3) := by decide +kernel
theorem dX12_cut_10 : decode cX12_cut 10 = .ok (.lload_n 0, 1) := by decide +kernel
theorem dX12_cut_11 : decode cX12_cut 11 = .ok (.ldc2_w 247, 3) := by decide +kernel
theorem dX12_cut_14 : decode cX12_cut 14 = .ok (.lcmp, 1) := by decide +kernel
theorem dX12_cut_15 : decode cX12_cut 15 = .ok (.ifCond .le 8, 3) := by decide +kernel
theorem dX12_cut_18 : decode cX12_cut 18 = .ok (.bipush 99, 2) := by decide +kernel
theorem dX12_cut_20 : decode cX12_cut 20 = .ok (.goto 5, 3) := by decide +kernel
theorem dX12_cut_23 : decode cX12_cut 23 = .ok (.lload_n 0, 1) := by decide +kernel
theorem dX12_cut_24 : decode cX12_cut 24 = .ok (.l2i, 1) := by decide +kernel
theorem dX12_cut_25 : decode cX12_cut 25 = .ok (.ireturn, 1) := by decide +kernel
theorem dX12_feed_0 : decode cX12_feed 0 = .ok (.aload_n 0, 1) := by decide +kernel
theorem dX12_feed_1 : decode cX12_feed 1 = .ok (.getfield 249, 3) := by decide +kernel
theorem dX12_feed_4 : decode cX12_feed 4 = .ok (.bipush 20, 2) := by decide +kernel
theorem dX12_feed_6 : decode cX12_feed 6 = .ok (.iadd, 1) := by decide +kernel
theorem dX12_feed_7 : decode cX12_feed 7 = .ok (.sipush 1600, 3) := by decide +kernel
theorem dX12_feed_10 : decode cX12_feed 10 = .ok (.if_icmp .le 15, 3) := by decide +kernel
theorem dX12_feed_13 : decode cX12_feed 13 = .ok (.aload_n 0, 1) := by decide +kernel
theorem dX12_feed_14 : decode cX12_feed 14 = .ok (.getfield 17, 3) := by decide +kernel
theorem dX12_feed_17 : decode cX12_feed 17 = .ok (.iconst 0, 1) := by decide +kernel
theorem dX12_feed_18 : decode cX12_feed 18 = .ok (.dup2, 1) := by decide +kernel
theorem dX12_feed_19 : decode cX12_feed 19 = .ok (.iaload, 1) := by decide +kernel
theorem dX12_feed_20 : decode cX12_feed 20 = .ok (.iconst 1, 1) := by decide +kernel
theorem dX12_feed_21 : decode cX12_feed 21 = .ok (.iadd, 1) := by decide +kernel
theorem dX12_feed_22 : decode cX12_feed 22 = .ok (.iastore, 1) := by decide +kernel
theorem dX12_feed_23 : decode cX12_feed 23 = .ok (.iconst (-1), 1) := by decide +kernel
theorem dX12_feed_24 : decode cX12_feed 24 = .ok (.ireturn, 1) := by decide +kernel
theorem dX12_feed_25 : decode cX12_feed 25 = .ok (.iconst 0, 1) := by decide +kernel
theorem dX12_feed_26 : decode cX12_feed 26 = .ok (.istore 6, 2) := by decide +kernel
