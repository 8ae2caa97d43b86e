theorem dX8_measure_110 : decode cX8_measure 110 = .ok (.iload_n 2, 1) := by decide +kernel
theorem dX8_measure_111 : decode cX8_measure 111 = .ok (.if_icmp .ne 13, 3) := by decide +kernel
theorem dX8_measure_114 : decode cX8_measure 114 = .ok (.aload_n 0, 1) := by decide +kernel
theorem dX8_measure_115 : decode cX8_measure 115 = .ok (.getfield 9, 3) := by decide +kernel
theorem dX8_measure_118 : decode cX8_measure 118 = .ok (.iload 4, 2) := by decide +kernel
theorem dX8_measure_120 : decode cX8_measure 120 = .ok (.iload_n 2, 1) := by decide +kernel
theorem dX8_measure_121 : decode cX8_measure 121 = .ok (.iconst 1, 1) := by decide +kernel
theorem dX8_measure_122 : decode cX8_measure 122 = .ok (.iadd, 1) := by decide +kernel
theorem dX8_measure_123 : decode cX8_measure 123 = .ok (.iastore, 1) := by decide +kernel
theorem dX8_measure_124 : decode cX8_measure 124 = .ok (.iinc 3 1, 3) := by decide +kernel
theorem dX8_measure_127 : decode cX8_measure 127 = .ok (.goto (-87), 3) := by decide +kernel
theorem dX8_measure_130 : decode cX8_measure 130 = .ok (.iinc 2 1, 3) := by decide +kernel
theorem dX8_measure_133 : decode cX8_measure 133 = .ok (.goto (-101), 3) := by decide +kernel
theorem dX8_measure_136 : decode cX8_measure 136 = .ok (.return_, 1) := by decide +kernel
theorem dX11_steps_0 : decode cX11_steps 0 = .ok (.aload_n 0, 1) := by decide +kernel
theorem dX11_steps_1 : decode cX11_steps 1 = .ok (.iload_n 1, 1) := by decide +kernel
theorem dX11_steps_2 : decode cX11_steps 2 = .ok (.invokevirtual 179, 3) := by decide +kernel
theorem dX11_steps_5 : decode cX11_steps 5 = .ok (.ifCond .eq 11, 3) := by decide +kernel
theorem dX11_steps_8 : decode cX11_steps 8 = .ok (.aload_n 0, 1) := by decide +kernel
theorem dX11_steps_9 : decode cX11_steps 9 = .ok (.iload_n 2, 1) := by decide +kernel
theorem dX11_steps_10 : decode cX11_steps 10 = .ok (.invokevirtual 179, 3) := by decide +kernel
theorem dX11_steps_13 : decode cX11_steps 13 = .ok (.ifCond .ne 5, 3) := by decide +kernel
theorem dX11_steps_16 : decode cX11_steps 16 = .ok (.iconst (-1), 1) := by decide +kernel
theorem dX11_steps_17 : decode cX11_steps 17 = .ok (.ireturn, 1) := by decide +kernel
theorem dX11_steps_18 : decode cX11_steps 18 = .ok (.aload_n 0, 1) := by decide +kernel
theorem dX11_steps_19 : decode cX11_steps 19 = .ok (.getfield 63, 3) := by decide +kernel
theorem dX11_steps_22 : decode cX11_steps 22 = .ok (.iload_n 1, 1) := by decide +kernel
theorem dX11_steps_23 : decode cX11_steps 23 = .ok (.invokevirtual 251, 3) := by decide +kernel
theorem dX11_steps_26 : decode cX11_steps 26 = .ok (.aload_n 0, 1) := by decide +kernel
theorem dX11_steps_27 : decode cX11_steps 27 = .ok (.getfield 63, 3) := by decide +kernel
theorem dX11_steps_30 : decode cX11_steps 30 = .ok (.getfield 254, 3) := by decide +kernel
theorem dX11_steps_33 : decode cX11_steps 33 = .ok (.iload_n 2, 1) := by decide +kernel
theorem dX11_steps_34 : decode cX11_steps 34 = .ok (.iaload, 1) := by decide +kernel
theorem dX11_steps_35 : decode cX11_steps 35 = .ok (.ireturn, 1) := by decide +kernel
theorem dX8_findRow_0 : decode cX8_findRow 0 = .ok (.iconst 1, 1) := by decide +kernel
theorem dX8_findRow_1 : decode cX8_findRow 1 = .ok (.iload_n 1, 1) := by decide +kernel
theorem dX8_findRow_2 : decode cX8_findRow 2 = .ok (.ishl, 1) := by decide +kernel
theorem dX8_findRow_3 : decode cX8_findRow 3 = .ok (.istore_n 3, 1) := by decide +kernel
theorem dX8_findRow_4 : decode cX8_findRow 4 = .ok (.iconst 0, 1) := by decide +kernel
theorem dX8_findRow_5 : decode cX8_findRow 5 = .ok (.istore 4, 2) := by decide +kernel
theorem dX8_findRow_7 : decode cX8_findRow 7 = .ok (.iload 4, 2) := by decide +kernel
theorem dX8_findRow_9 : decode cX8_findRow 9 = .ok (.bipush 8, 2) := by decide +kernel
theorem dX8_findRow_11 : decode cX8_findRow 11 = .ok (.if_icmp .ge 157, 3) := by decide +kernel
theorem dX8_findRow_14 : decode cX8_findRow 14 = .ok (.iload_n 3, 1) := by decide +kernel
theorem dX8_findRow_15 : decode cX8_findRow 15 = .ok (.iload_n 2, 1) := by decide +kernel
theorem dX8_findRow_16 : decode cX8_findRow 16 = .ok (.ishr, 1) := by decide +kernel
theorem dX8_findRow_17 : decode cX8_findRow 17 = .ok (.iconst 1, 1) := by decide +kernel
theorem dX8_findRow_18 : decode cX8_findRow 18 = .ok (.iand, 1) := by decide +kernel
theorem dX8_findRow_19 : decode cX8_findRow 19 = .ok (.ifCond .ne 149, 3) := by decide +kernel
theorem dX8_findRow_22 : decode cX8_findRow 22 = .ok (.iconst 0, 1) := by decide +kernel
theorem dX8_findRow_23 : decode cX8_findRow 23 = .ok (.istore 5, 2) := by decide +kernel
theorem dX8_findRow_25 : decode cX8_findRow 25 = .ok (.iload 5, 2) := by decide +kernel
theorem dX8_findRow_27 : decode cX8_findRow 27 = .ok (.aload_n 0, 1) := by decide +kernel
theorem dX8_findRow_28 : decode cX8_findRow 28 = .ok (.getfield 32, 3) := by decide +kernel
theorem dX8_findRow_31 : decode cX8_findRow 31 = .ok (.getfield 52, 3) := by decide +kernel
theorem dX8_findRow_34 : decode cX8_findRow 34 = .ok (.getfield 58, 3) := by decide +kernel
theorem dX8_findRow_37 : decode cX8_findRow 37 = .ok (.if_icmp .ge 125, 3) := by decide +kernel
theorem dX8_findRow_40 : decode cX8_findRow 40 = .ok (.aload_n 0, 1) := by decide +kernel
theorem dX8_findRow_41 : decode cX8_findRow 41 = .ok (.getfield 18, 3) := by decide +kernel
theorem dX8_findRow_44 : decode cX8_findRow 44 = .ok (.iload 5, 2) := by decide +kernel
theorem dX8_findRow_46 : decode cX8_findRow 46 = .ok (.ishr, 1) := by decide +kernel
theorem dX8_findRow_47 : decode cX8_findRow 47 = .ok (.iconst 1, 1) := by decide +kernel
theorem dX8_findRow_48 : decode cX8_findRow 48 = .ok (.iand, 1) := by decide +kernel
theorem dX8_findRow_49 : decode cX8_findRow 49 = .ok (.iconst 1, 1) := by decide +kernel
theorem dX8_findRow_50 : decode cX8_findRow 50 = .ok (.if_icmp .ne 7, 3) := by decide +kernel
theorem dX8_findRow_53 : decode cX8_findRow 53 = .ok (.iconst 1, 1) := by decide +kernel
theorem dX8_findRow_54 : decode cX8_findRow 54 = .ok (.goto 4, 3) := by decide +kernel
theorem dX8_findRow_57 : decode cX8_findRow 57 = .ok (.iconst 0, 1) := by decide +kernel
theorem dX8_findRow_58 : decode cX8_findRow 58 = .ok (.istore 6, 2) := by decide +kernel
theorem dX8_findRow_60 : decode cX8_findRow 60 = .ok (.iload 6, 2) := by decide +kernel
theorem dX8_findRow_62 : decode cX8_findRow 62 = .ok (.ifCond .eq 15, 3) := by decide +kernel
theorem dX8_findRow_65 : decode cX8_findRow 65 = .ok (.aload_n 0, 1) := by decide +kernel
theorem dX8_findRow_66 : decode cX8_findRow 66 = .ok (.getfield 36, 3) := by decide +kernel
theorem dX8_findRow_69 : decode cX8_findRow 69 = .ok (.getfield 45, 3) := by decide +kernel
theorem dX8_findRow_72 : decode cX8_findRow 72 = .ok (.iconst (-1), 1) := by decide +kernel
theorem dX8_findRow_73 : decode cX8_findRow 73 = .ok (.ixor, 1) := by decide +kernel
theorem dX8_findRow_74 : decode cX8_findRow 74 = .ok (.goto 10, 3) := by decide +kernel
theorem dX8_findRow_77 : decode cX8_findRow 77 = .ok (.aload_n 0, 1) := by decide +kernel
theorem dX8_findRow_78 : decode cX8_findRow 78 = .ok (.getfield 36, 3) := by decide +kernel
theorem dX8_findRow_81 : decode cX8_findRow 81 = .ok (.getfield 45, 3) := by decide +kernel
theorem dX8_findRow_84 : decode cX8_findRow 84 = .ok (.istore 7, 2) := by decide +kernel
theorem dX8_findRow_86 : decode cX8_findRow 86 = .ok (.aload_n 0, 1) := by decide +kernel
theorem dX8_findRow_87 : decode cX8_findRow 87 = .ok (.getfield 32, 3) := by decide +kernel
theorem dX8_findRow_90 : decode cX8_findRow 90 = .ok (.iload 5, 2) := by decide +kernel
theorem dX8_findRow_92 : decode cX8_findRow 92 = .ok (.iload 7, 2) := by decide +kernel
theorem dX8_findRow_94 : decode cX8_findRow 94 = .ok (.invokevirtual 67, 3) := by decide +kernel
theorem dX8_findRow_97 : decode cX8_findRow 97 = .ok (.istore 8, 2) := by decide +kernel
theorem dX8_findRow_99 : decode cX8_findRow 99 = .ok (.aload_n 0, 1) := by decide +kernel
theorem dX8_findRow_100 : decode cX8_findRow 100 = .ok (.getfield 32, 3) := by decide +kernel
theorem dX8_findRow_103 : decode cX8_findRow 103 = .ok (.iload 5, 2) := by decide +kernel
theorem dX8_findRow_105 : decode cX8_findRow 105 = .ok (.iload 7, 2) := by decide +kernel
theorem dX8_findRow_107 : decode cX8_findRow 107 = .ok (.invokevirtual 70, 3) := by decide +kernel
theorem dX8_findRow_110 : decode cX8_findRow 110 = .ok (.istore 9, 2) := by decide +kernel
theorem dX8_findRow_112 : decode cX8_findRow 112 = .ok (.aload_n 0, 1) := by decide +kernel
theorem dX8_findRow_113 : decode cX8_findRow 113 = .ok (.iload 5, 2) := by decide +kernel
theorem dX8_findRow_115 : decode cX8_findRow 115 = .ok (.invokevirtual 63, 3) := by decide +kernel
theorem dX8_findRow_118 : decode cX8_findRow 118 = .ok (.ifCond .eq 38, 3) := by decide +kernel
theorem dX8_findRow_121 : decode cX8_findRow 121 = .ok (.iload_n 3, 1) := by decide +kernel
theorem dX8_findRow_122 : decode cX8_findRow 122 = .ok (.iload 8, 2) := by decide +kernel
theorem dX8_findRow_124 : decode cX8_findRow 124 = .ok (.ishr, 1) := by decide +kernel
theorem dX8_findRow_125 : decode cX8_findRow 125 = .ok (.iconst 1, 1) := by decide +kernel
theorem dX8_findRow_126 : decode cX8_findRow 126 = .ok (.iand, 1) := by decide +kernel
theorem dX8_findRow_127 : decode cX8_findRow 127 = .ok (.iconst 1, 1) := by decide +kernel
theorem dX8_findRow_128 : decode cX8_findRow 128 = .ok (.if_icmp .ne 28, 3) := by decide +kernel
theorem dX8_findRow_131 : decode cX8_findRow 131 = .ok (.iload_n 3, 1) := by decide +kernel
theorem dX8_findRow_132 : decode cX8_findRow 132 = .ok (.iload 9, 2) := by decide +kernel
theorem dX8_findRow_134 : decode cX8_findRow 134 = .ok (.ishr, 1) := by decide +kernel
theorem dX8_findRow_135 : decode cX8_findRow 135 = .ok (.iconst 1, 1) := by decide +kernel
theorem dX8_findRow_136 : decode cX8_findRow 136 = .ok (.iand, 1) := by decide +kernel
theorem dX8_findRow_137 : decode cX8_findRow 137 = .ok (.ifCond .ne 19, 3) := by decide +kernel
theorem dX8_findRow_140 : decode cX8_findRow 140 = .ok (.iload_n 3, 1) := by decide +kernel
theorem dX8_findRow_141 : decode cX8_findRow 141 = .ok (.iconst 1, 1) := by decide +kernel
theorem dX8_findRow_142 : decode cX8_findRow 142 = .ok (.iload 9, 2) := by decide +kernel
theorem dX8_findRow_144 : decode cX8_findRow 144 = .ok (.ishl, 1) := by decide +kernel
theorem dX8_findRow_145 : decode cX8_findRow 145 = .ok (.ior, 1) := by decide +kernel
theorem dX8_findRow_146 : decode cX8_findRow 146 = .ok (.istore_n 3, 1) := by decide +kernel
theorem dX8_findRow_147 : decode cX8_findRow 147 = .ok (.aload_n 0, 1) := by decide +kernel
theorem dX8_findRow_148 : decode cX8_findRow 148 = .ok (.getfield 15, 3) := by decide +kernel
theorem dX8_findRow_151 : decode cX8_findRow 151 = .ok (.iload 9, 2) := by decide +kernel
theorem dX8_findRow_153 : decode cX8_findRow 153 = .ok (.iload 5, 2) := by decide +kernel
theorem dX8_findRow_155 : decode cX8_findRow 155 = .ok (.iastore, 1) := by decide +kernel
theorem dX8_findRow_156 : decode cX8_findRow 156 = .ok (.iinc 5 1, 3) := by decide +kernel
theorem dX8_findRow_159 : decode cX8_findRow 159 = .ok (.goto (-134), 3) := by decide +kernel
theorem dX8_findRow_162 : decode cX8_findRow 162 = .ok (.iinc 4 1, 3) := by decide +kernel
theorem dX8_findRow_165 : decode cX8_findRow 165 = .ok (.goto (-158), 3) := by decide +kernel
theorem dX8_findRow_168 : decode cX8_findRow 168 = .ok (.iload_n 3, 1) := by decide +kernel
theorem dX8_findRow_169 : decode cX8_findRow 169 = .ok (.iload_n 2, 1) := by decide +kernel
theorem dX8_findRow_170 : decode cX8_findRow 170 = .ok (.ishr, 1) := by decide +kernel
theorem dX8_findRow_171 : decode cX8_findRow 171 = .ok (.iconst 1, 1) := by decide +kernel
theorem dX8_findRow_172 : decode cX8_findRow 172 = .ok (.iand, 1) := by decide +kernel
theorem dX8_findRow_173 : decode cX8_findRow 173 = .ok (.iconst 1, 1) := by decide +kernel
theorem dX8_findRow_174 : decode cX8_findRow 174 = .ok (.if_icmp .ne 7, 3) := by decide +kernel
theorem dX8_findRow_177 : decode cX8_findRow 177 = .ok (.iconst 1, 1) := by decide +kernel
theorem dX8_findRow_178 : decode cX8_findRow 178 = .ok (.goto 4, 3) := by decide +kernel
theorem dX8_findRow_181 : decode cX8_findRow 181 = .ok (.iconst 0, 1) := by decide +kernel
theorem dX8_findRow_182 : decode cX8_findRow 182 = .ok (.ireturn, 1) := by decide +kernel
theorem dX8_addRow_0 : decode cX8_addRow 0 = .ok (.iload_n 2, 1) := by decide +kernel
theorem dX8_addRow_1 : decode cX8_addRow 1 = .ok (.istore_n 3, 1) := by decide +kernel
theorem dX8_addRow_2 : decode cX8_addRow 2 = .ok (.iconst 0, 1) := by decide +kernel
theorem dX8_addRow_3 : decode cX8_addRow 3 = .ok (.istore 4, 2) := by decide +kernel
theorem dX8_addRow_5 : decode cX8_addRow 5 = .ok (.iload 4, 2) := by decide +kernel
theorem dX8_addRow_7 : decode cX8_addRow 7 = .ok (.bipush 8, 2) := by decide +kernel
theorem dX8_addRow_9 : decode cX8_addRow 9 = .ok (.if_icmp .ge 81, 3) := by decide +kernel
theorem dX8_addRow_12 : decode cX8_addRow 12 = .ok (.iload_n 3, 1) := by decide +kernel
theorem dX8_addRow_13 : decode cX8_addRow 13 = .ok (.iload_n 1, 1) := by decide +kernel
theorem dX8_addRow_14 : decode cX8_addRow 14 = .ok (.if_icmp .eq 76, 3) := by decide +kernel
theorem dX8_addRow_17 : decode cX8_addRow 17 = .ok (.aload_n 0, 1) := by decide +kernel
theorem dX8_addRow_18 : decode cX8_addRow 18 = .ok (.getfield 15, 3) := by decide +kernel
theorem dX8_addRow_21 : decode cX8_addRow 21 = .ok (.iload_n 3, 1) := by decide +kernel
theorem dX8_addRow_22 : decode cX8_addRow 22 = .ok (.iaload, 1) := by decide +kernel
theorem dX8_addRow_23 : decode cX8_addRow 23 = .ok (.istore 5, 2) := by decide +kernel
theorem dX8_addRow_25 : decode cX8_addRow 25 = .ok (.aload_n 0, 1) := by decide +kernel
theorem dX8_addRow_26 : decode cX8_addRow 26 = .ok (.dup, 1) := by decide +kernel
theorem dX8_addRow_27 : decode cX8_addRow 27 = .ok (.getfield 18, 3) := by decide +kernel
theorem dX8_addRow_30 : decode cX8_addRow 30 = .ok (.iconst 1, 1) := by decide +kernel
theorem dX8_addRow_31 : decode cX8_addRow 31 = .ok (.iload 5, 2) := by decide +kernel
theorem dX8_addRow_33 : decode cX8_addRow 33 = .ok (.ishl, 1) := by decide +kernel
theorem dX8_addRow_34 : decode cX8_addRow 34 = .ok (.ixor, 1) := by decide +kernel
theorem dX8_addRow_35 : decode cX8_addRow 35 = .ok (.putfield 18, 3) := by decide +kernel
theorem dX8_addRow_38 : decode cX8_addRow 38 = .ok (.aload_n 0, 1) := by decide +kernel
theorem dX8_addRow_39 : decode cX8_addRow 39 = .ok (.getfield 32, 3) := by decide +kernel
theorem dX8_addRow_42 : decode cX8_addRow 42 = .ok (.iload 5, 2) := by decide +kernel
theorem dX8_addRow_44 : decode cX8_addRow 44 = .ok (.aload_n 0, 1) := by decide +kernel
theorem dX8_addRow_45 : decode cX8_addRow 45 = .ok (.getfield 36, 3) := by decide +kernel
theorem dX8_addRow_48 : decode cX8_addRow 48 = .ok (.getfield 45, 3) := by decide +kernel
theorem dX8_addRow_51 : decode cX8_addRow 51 = .ok (.invokevirtual 67, 3) := by decide +kernel
theorem dX8_addRow_54 : decode cX8_addRow 54 = .ok (.istore 6, 2) := by decide +kernel
theorem dX8_addRow_56 : decode cX8_addRow 56 = .ok (.iload 6, 2) := by decide +kernel
theorem dX8_addRow_58 : decode cX8_addRow 58 = .ok (.iload_n 3, 1) := by decide +kernel
theorem dX8_addRow_59 : decode cX8_addRow 59 = .ok (.if_icmp .ne 22, 3) := by decide +kernel
theorem dX8_addRow_62 : decode cX8_addRow 62 = .ok (.aload_n 0, 1) := by decide +kernel
theorem dX8_addRow_63 : decode cX8_addRow 63 = .ok (.getfield 32, 3) := by decide +kernel
theorem dX8_addRow_66 : decode cX8_addRow 66 = .ok (.iload 5, 2) := by decide +kernel
theorem dX8_addRow_68 : decode cX8_addRow 68 = .ok (.aload_n 0, 1) := by decide +kernel
theorem dX8_addRow_69 : decode cX8_addRow 69 = .ok (.getfield 36, 3) := by decide +kernel
theorem dX8_addRow_72 : decode cX8_addRow 72 = .ok (.getfield 45, 3) := by decide +kernel
theorem dX8_addRow_75 : decode cX8_addRow 75 = .ok (.invokevirtual 70, 3) := by decide +kernel
theorem dX8_addRow_78 : decode cX8_addRow 78 = .ok (.goto 5, 3) := by decide +kernel
theorem dX8_addRow_81 : decode cX8_addRow 81 = .ok (.iload 6, 2) := by decide +kernel
theorem dX8_addRow_83 : decode cX8_addRow 83 = .ok (.istore_n 3, 1) := by decide +kernel
theorem dX8_addRow_84 : decode cX8_addRow 84 = .ok (.iinc 4 1, 3) := by decide +kernel
theorem dX8_addRow_87 : decode cX8_addRow 87 = .ok (.goto (-82), 3) := by decide +kernel
theorem dX8_addRow_90 : decode cX8_addRow 90 = .ok (.return_, 1) := by decide +kernel
theorem dX8_fewestCut_0 : decode cX8_fewestCut 0 = .ok (.aload_n 0, 1) := by decide +kernel
theorem dX8_fewestCut_1 : decode cX8_fewestCut 1 = .ok (.iconst 0, 1) := by decide +kernel
theorem dX8_fewestCut_2 : decode cX8_fewestCut 2 = .ok (.putfield 18, 3) := by decide +kernel
theorem dX8_fewestCut_5 : decode cX8_fewestCut 5 = .ok (.iconst 0, 1) := by decide +kernel
theorem dX8_fewestCut_6 : decode cX8_fewestCut 6 = .ok (.istore_n 3, 1) := by decide +kernel
theorem dX8_fewestCut_7 : decode cX8_fewestCut 7 = .ok (.iload_n 3, 1) := by decide +kernel
theorem dX8_fewestCut_8 : decode cX8_fewestCut 8 = .ok (.bipush 12, 2) := by decide +kernel
theorem dX8_fewestCut_10 : decode cX8_fewestCut 10 = .ok (.if_icmp .ge 26, 3) := by decide +kernel
theorem dX8_fewestCut_13 : decode cX8_fewestCut 13 = .ok (.aload_n 0, 1) := by decide +kernel
theorem dX8_fewestCut_14 : decode cX8_fewestCut 14 = .ok (.iload_n 1, 1) := by decide +kernel
theorem dX8_fewestCut_15 : decode cX8_fewestCut 15 = .ok (.iload_n 2, 1) := by decide +kernel
theorem dX8_fewestCut_16 : decode cX8_fewestCut 16 = .ok (.invokevirtual 73, 3) := by decide +kernel
theorem dX8_fewestCut_19 : decode cX8_fewestCut 19 = .ok (.ifCond .ne 5, 3) := by decide +kernel
theorem dX8_fewestCut_22 : decode cX8_fewestCut 22 = .ok (.iload_n 3, 1) := by decide +kernel
theorem dX8_fewestCut_23 : decode cX8_fewestCut 23 = .ok (.ireturn, 1) := by decide +kernel
theorem dX8_fewestCut_24 : decode cX8_fewestCut 24 = .ok (.aload_n 0, 1) := by decide +kernel
theorem dX8_fewestCut_25 : decode cX8_fewestCut 25 = .ok (.iload_n 1, 1) := by decide +kernel
theorem dX8_fewestCut_26 : decode cX8_fewestCut 26 = .ok (.iload_n 2, 1) := by decide +kernel
theorem dX8_fewestCut_27 : decode cX8_fewestCut 27 = .ok (.invokevirtual 77, 3) := by decide +kernel
theorem dX8_fewestCut_30 : decode cX8_fewestCut 30 = .ok (.iinc 3 1, 3) := by decide +kernel
theorem dX8_fewestCut_33 : decode cX8_fewestCut 33 = .ok (.goto (-26), 3) := by decide +kernel
theorem dX8_fewestCut_36 : decode cX8_fewestCut 36 = .ok (.bipush 12, 2) := by decide +kernel
theorem dX8_fewestCut_38 : decode cX8_fewestCut 38 = .ok (.ireturn, 1) := by decide +kernel
theorem dX11_cutting_0 : decode cX11_cutting 0 = .ok (.aload_n 0, 1) := by decide +kernel
theorem dX11_cutting_1 : decode cX11_cutting 1 = .ok (.iload_n 1, 1) := by decide +kernel
theorem dX11_cutting_2 : decode cX11_cutting 2 = .ok (.invokevirtual 179, 3) := by decide +kernel
theorem dX11_cutting_5 : decode cX11_cutting 5 = .ok (.ifCond .eq 16, 3) := by decide +kernel
theorem dX11_cutting_8 : decode cX11_cutting 8 = .ok (.aload_n 0, 1) := by decide +kernel
theorem dX11_cutting_9 : decode cX11_cutting 9 = .ok (.iload_n 2, 1) := by decide +kernel
theorem dX11_cutting_10 : decode cX11_cutting 10 = .ok (.invokevirtual 179, 3) := by decide +kernel
theorem dX11_cutting_13 : decode cX11_cutting 13 = .ok (.ifCond .eq 8, 3) := by decide +kernel
theorem dX11_cutting_16 : decode cX11_cutting 16 = .ok (.iload_n 1, 1) := by decide +kernel
theorem dX11_cutting_17 : decode cX11_cutting 17 = .ok (.iload_n 2, 1) := by decide +kernel
theorem dX11_cutting_18 : decode cX11_cutting 18 = .ok (.if_icmp .ne 5, 3) := by decide +kernel
theorem dX11_cutting_21 : decode cX11_cutting 21 = .ok (.iconst (-1), 1) := by decide +kernel
theorem dX11_cutting_22 : decode cX11_cutting 22 = .ok (.ireturn, 1) := by decide +kernel
theorem dX11_cutting_23 : decode cX11_cutting 23 = .ok (.aload_n 0, 1) := by decide +kernel
theorem dX11_cutting_24 : decode cX11_cutting 24 = .ok (.getfield 63, 3) := by decide +kernel
theorem dX11_cutting_27 : decode cX11_cutting 27 = .ok (.iload_n 1, 1) := by decide +kernel
theorem dX11_cutting_28 : decode cX11_cutting 28 = .ok (.iload_n 2, 1) := by decide +kernel
theorem dX11_cutting_29 : decode cX11_cutting 29 = .ok (.invokevirtual 257, 3) := by decide +kernel
theorem dX11_cutting_32 : decode cX11_cutting 32 = .ok (.ireturn, 1) := by decide +kernel
theorem dX4_learn_0 : decode cX4_learn 0 = .ok (.aload_n 1, 1) := by decide +kernel
theorem dX4_learn_1 : decode cX4_learn 1 = .ok (.getfield 62, 3) := by decide +kernel
theorem dX4_learn_4 : decode cX4_learn 4 = .ok (.iconst 3, 1) := by decide +kernel
theorem dX4_learn_5 : decode cX4_learn 5 = .ok (.idiv, 1) := by decide +kernel
theorem dX4_learn_6 : decode cX4_learn 6 = .ok (.istore_n 2, 1) := by decide +kernel
theorem dX4_learn_7 : decode cX4_learn 7 = .ok (.iload_n 2, 1) := by decide +kernel
theorem dX4_learn_8 : decode cX4_learn 8 = .ok (.iconst 1, 1) := by decide +kernel
theorem dX4_learn_9 : decode cX4_learn 9 = .ok (.if_icmp .lt 19, 3) := by decide +kernel
theorem dX4_learn_12 : decode cX4_learn 12 = .ok (.iload_n 2, 1) := by decide +kernel
theorem dX4_learn_13 : decode cX4_learn 13 = .ok (.bipush 16, 2) := by decide +kernel
theorem dX4_learn_15 : decode cX4_learn 15 = .ok (.if_icmp .gt 13, 3) := by decide +kernel
theorem dX4_learn_18 : decode cX4_learn 18 = .ok (.aload_n 1, 1) := by decide +kernel
theorem dX4_learn_19 : decode cX4_learn 19 = .ok (.getfield 62, 3) := by decide +kernel
theorem dX4_learn_22 : decode cX4_learn 22 = .ok (.iconst 3, 1) := by decide +kernel
theorem dX4_learn_23 : decode cX4_learn 23 = .ok (.iload_n 2, 1) := by decide +kernel
theorem dX4_learn_24 : decode cX4_learn 24 = .ok (.imul, 1) := by decide +kernel
theorem dX4_learn_25 : decode cX4_learn 25 = .ok (.if_icmp .eq 5, 3) := by decide +kernel
theorem dX4_learn_28 : decode cX4_learn 28 = .ok (.iconst 0, 1) := by decide +kernel
theorem dX4_learn_29 : decode cX4_learn 29 = .ok (.ireturn, 1) := by decide +kernel
theorem dX4_learn_30 : decode cX4_learn 30 = .ok (.iconst 0, 1) := by decide +kernel
theorem dX4_learn_31 : decode cX4_learn 31 = .ok (.istore_n 3, 1) := by decide +kernel
theorem dX4_learn_32 : decode cX4_learn 32 = .ok (.iload_n 3, 1) := by decide +kernel
theorem dX4_learn_33 : decode cX4_learn 33 = .ok (.iload_n 2, 1) := by decide +kernel
theorem dX4_learn_34 : decode cX4_learn 34 = .ok (.if_icmp .ge 59, 3) := by decide +kernel
theorem dX4_learn_37 : decode cX4_learn 37 = .ok (.aload_n 1, 1) := by decide +kernel
theorem dX4_learn_38 : decode cX4_learn 38 = .ok (.iconst 3, 1) := by decide +kernel
theorem dX4_learn_39 : decode cX4_learn 39 = .ok (.iload_n 3, 1) := by decide +kernel
theorem dX4_learn_40 : decode cX4_learn 40 = .ok (.imul, 1) := by decide +kernel
theorem dX4_learn_41 : decode cX4_learn 41 = .ok (.invokevirtual 67, 3) := by decide +kernel
theorem dX4_learn_44 : decode cX4_learn 44 = .ok (.bipush 30, 2) := by decide +kernel
theorem dX4_learn_46 : decode cX4_learn 46 = .ok (.if_icmp .gt 39, 3) := by decide +kernel
theorem dX4_learn_49 : decode cX4_learn 49 = .ok (.aload_n 1, 1) := by decide +kernel
theorem dX4_learn_50 : decode cX4_learn 50 = .ok (.iconst 3, 1) := by decide +kernel
theorem dX4_learn_51 : decode cX4_learn 51 = .ok (.iload_n 3, 1) := by decide +kernel
theorem dX4_learn_52 : decode cX4_learn 52 = .ok (.imul, 1) := by decide +kernel
theorem dX4_learn_53 : decode cX4_learn 53 = .ok (.iconst 1, 1) := by decide +kernel
theorem dX4_learn_54 : decode cX4_learn 54 = .ok (.iadd, 1) := by decide +kernel
theorem dX4_learn_55 : decode cX4_learn 55 = .ok (.invokevirtual 67, 3) := by decide +kernel
theorem dX4_learn_58 : decode cX4_learn 58 = .ok (.aload_n 0, 1) := by decide +kernel
theorem dX4_learn_59 : decode cX4_learn 59 = .ok (.getfield 54, 3) := by decide +kernel
theorem dX4_learn_62 : decode cX4_learn 62 = .ok (.getfield 71, 3) := by decide +kernel
theorem dX4_learn_65 : decode cX4_learn 65 = .ok (.getfield 77, 3) := by decide +kernel
theorem dX4_learn_68 : decode cX4_learn 68 = .ok (.if_icmp .ge 17, 3) := by decide +kernel
theorem dX4_learn_71 : decode cX4_learn 71 = .ok (.aload_n 1, 1) := by decide +kernel
theorem dX4_learn_72 : decode cX4_learn 72 = .ok (.iconst 3, 1) := by decide +kernel
theorem dX4_learn_73 : decode cX4_learn 73 = .ok (.iload_n 3, 1) := by decide +kernel
theorem dX4_learn_74 : decode cX4_learn 74 = .ok (.imul, 1) := by decide +kernel
theorem dX4_learn_75 : decode cX4_learn 75 = .ok (.iconst 2, 1) := by decide +kernel
theorem dX4_learn_76 : decode cX4_learn 76 = .ok (.iadd, 1) := by decide +kernel
theorem dX4_learn_77 : decode cX4_learn 77 = .ok (.invokevirtual 67, 3) := by decide +kernel
theorem dX4_learn_80 : decode cX4_learn 80 = .ok (.bipush 99, 2) := by decide +kernel
theorem dX4_learn_82 : decode cX4_learn 82 = .ok (.if_icmp .le 5, 3) := by decide +kernel
theorem dX4_learn_85 : decode cX4_learn 85 = .ok (.iconst 0, 1) := by decide +kernel
theorem dX4_learn_86 : decode cX4_learn 86 = .ok (.ireturn, 1) := by decide +kernel
theorem dX4_learn_87 : decode cX4_learn 87 = .ok (.iinc 3 1, 3) := by decide +kernel
theorem dX4_learn_90 : decode cX4_learn 90 = .ok (.goto (-58), 3) := by decide +kernel
theorem dX4_learn_93 : decode cX4_learn 93 = .ok (.iconst 0, 1) := by decide +kernel
theorem dX4_learn_94 : decode cX4_learn 94 = .ok (.istore_n 3, 1) := by decide +kernel
theorem dX4_learn_95 : decode cX4_learn 95 = .ok (.iload_n 3, 1) := by decide +kernel
theorem dX4_learn_96 : decode cX4_learn 96 = .ok (.iload_n 2, 1) := by decide +kernel
theorem dX4_learn_97 : decode cX4_learn 97 = .ok (.if_icmp .ge 52, 3) := by decide +kernel
theorem dX4_learn_100 : decode cX4_learn 100 = .ok (.aload_n 0, 1) := by decide +kernel
theorem dX4_learn_101 : decode cX4_learn 101 = .ok (.getfield 9, 3) := by decide +kernel
theorem dX4_learn_104 : decode cX4_learn 104 = .ok (.iload_n 3, 1) := by decide +kernel
theorem dX4_learn_105 : decode cX4_learn 105 = .ok (.aload_n 1, 1) := by decide +kernel
theorem dX4_learn_106 : decode cX4_learn 106 = .ok (.iconst 3, 1) := by decide +kernel
theorem dX4_learn_107 : decode cX4_learn 107 = .ok (.iload_n 3, 1) := by decide +kernel
theorem dX4_learn_108 : decode cX4_learn 108 = .ok (.imul, 1) := by decide +kernel
theorem dX4_learn_109 : decode cX4_learn 109 = .ok (.invokevirtual 67, 3) := by decide +kernel
theorem dX4_learn_112 : decode cX4_learn 112 = .ok (.iastore, 1) := by decide +kernel
theorem dX4_learn_113 : decode cX4_learn 113 = .ok (.aload_n 0, 1) := by decide +kernel
theorem dX4_learn_114 : decode cX4_learn 114 = .ok (.getfield 15, 3) := by decide +kernel
theorem dX4_learn_117 : decode cX4_learn 117 = .ok (.iload_n 3, 1) := by decide +kernel
theorem dX4_learn_118 : decode cX4_learn 118 = .ok (.aload_n 1, 1) := by decide +kernel
theorem dX4_learn_119 : decode cX4_learn 119 = .ok (.iconst 3, 1) := by decide +kernel
theorem dX4_learn_120 : decode cX4_learn 120 = .ok (.iload_n 3, 1) := by decide +kernel
theorem dX4_learn_121 : decode cX4_learn 121 = .ok (.imul, 1) := by decide +kernel
theorem dX4_learn_122 : decode cX4_learn 122 = .ok (.iconst 1, 1) := by decide +kernel
theorem dX4_learn_123 : decode cX4_learn 123 = .ok (.iadd, 1) := by decide +kernel
theorem dX4_learn_124 : decode cX4_learn 124 = .ok (.invokevirtual 67, 3) := by decide +kernel
theorem dX4_learn_127 : decode cX4_learn 127 = .ok (.iastore, 1) := by decide +kernel
theorem dX4_learn_128 : decode cX4_learn 128 = .ok (.aload_n 0, 1) := by decide +kernel
theorem dX4_learn_129 : decode cX4_learn 129 = .ok (.getfield 18, 3) := by decide +kernel
theorem dX4_learn_132 : decode cX4_learn 132 = .ok (.iload_n 3, 1) := by decide +kernel
theorem dX4_learn_133 : decode cX4_learn 133 = .ok (.aload_n 1, 1) := by decide +kernel
theorem dX4_learn_134 : decode cX4_learn 134 = .ok (.iconst 3, 1) := by decide +kernel
theorem dX4_learn_135 : decode cX4_learn 135 = .ok (.iload_n 3, 1) := by decide +kernel
theorem dX4_learn_136 : decode cX4_learn 136 = .ok (.imul, 1) := by decide +kernel
theorem dX4_learn_137 : decode cX4_learn 137 = .ok (.iconst 2, 1) := by decide +kernel
theorem dX4_learn_138 : decode cX4_learn 138 = .ok (.iadd, 1) := by decide +kernel
theorem dX4_learn_139 : decode cX4_learn 139 = .ok (.invokevirtual 67, 3) := by decide +kernel
theorem dX4_learn_142 : decode cX4_learn 142 = .ok (.iastore, 1) := by decide +kernel
theorem dX4_learn_143 : decode cX4_learn 143 = .ok (.iinc 3 1, 3) := by decide +kernel
theorem dX4_learn_146 : decode cX4_learn 146 = .ok (.goto (-51), 3) := by decide +kernel
theorem dX4_learn_149 : decode cX4_learn 149 = .ok (.aload_n 0, 1) := by decide +kernel
theorem dX4_learn_150 : decode cX4_learn 150 = .ok (.iload_n 2, 1) := by decide +kernel
theorem dX4_learn_151 : decode cX4_learn 151 = .ok (.putfield 21, 3) := by decide +kernel
theorem dX4_learn_154 : decode cX4_learn 154 = .ok (.aload_n 0, 1) := by decide +kernel
theorem dX4_learn_155 : decode cX4_learn 155 = .ok (.invokevirtual 82, 3) := by decide +kernel
theorem dX4_learn_158 : decode cX4_learn 158 = .ok (.iconst 1, 1) := by decide +kernel
theorem dX4_learn_159 : decode cX4_learn 159 = .ok (.ireturn, 1) := by decide +kernel
theorem dX11_discover_0 : decode cX11_discover 0 = .ok (.aload_n 0, 1) := by decide +kernel
theorem dX11_discover_1 : decode cX11_discover 1 = .ok (.getfield 70, 3) := by decide +kernel
theorem dX11_discover_4 : decode cX11_discover 4 = .ok (.aload_n 0, 1) := by decide +kernel
theorem dX11_discover_5 : decode cX11_discover 5 = .ok (.getfield 10, 3) := by decide +kernel
theorem dX11_discover_8 : decode cX11_discover 8 = .ok (.invokevirtual 260, 3) := by decide +kernel
theorem dX11_discover_11 : decode cX11_discover 11 = .ok (.istore_n 1, 1) := by decide +kernel
theorem dX11_discover_12 : decode cX11_discover 12 = .ok (.aload_n 0, 1) := by decide +kernel
theorem dX11_discover_13 : decode cX11_discover 13 = .ok (.getfield 10, 3) := by decide +kernel
theorem dX11_discover_16 : decode cX11_discover 16 = .ok (.iconst 0, 1) := by decide +kernel
theorem dX11_discover_17 : decode cX11_discover 17 = .ok (.putfield 97, 3) := by decide +kernel
theorem dX11_discover_20 : decode cX11_discover 20 = .ok (.iload_n 1, 1) := by decide +kernel
theorem dX11_discover_21 : decode cX11_discover 21 = .ok (.ifCond .ne 9, 3) := by decide +kernel
theorem dX11_discover_24 : decode cX11_discover 24 = .ok (.aload_n 0, 1) := by decide +kernel
theorem dX11_discover_25 : decode cX11_discover 25 = .ok (.iconst 1, 1) := by decide +kernel
theorem dX11_discover_26 : decode cX11_discover 26 = .ok (.invokevirtual 100, 3) := by decide +kernel
theorem dX11_discover_29 : decode cX11_discover 29 = .ok (.ireturn, 1) := by decide +kernel
theorem dX11_discover_30 : decode cX11_discover 30 = .ok (.aload_n 0, 1) := by decide +kernel
theorem dX11_discover_31 : decode cX11_discover 31 = .ok (.getfield 70, 3) := by decide +kernel
theorem dX11_discover_34 : decode cX11_discover 34 = .ok (.getfield 127, 3) := by decide +kernel
theorem dX11_discover_37 : decode cX11_discover 37 = .ok (.ireturn, 1) := by decide +kernel
theorem dX4_lastRowDay_0 : decode cX4_lastRowDay 0 = .ok (.iconst 0, 1) := by decide +kernel
theorem dX4_lastRowDay_1 : decode cX4_lastRowDay 1 = .ok (.istore_n 1, 1) := by decide +kernel
theorem dX4_lastRowDay_2 : decode cX4_lastRowDay 2 = .ok (.iconst 0, 1) := by decide +kernel
theorem dX4_lastRowDay_3 : decode cX4_lastRowDay 3 = .ok (.istore_n 2, 1) := by decide +kernel
theorem dX4_lastRowDay_4 : decode cX4_lastRowDay 4 = .ok (.iload_n 2, 1) := by decide +kernel
theorem dX4_lastRowDay_5 : decode cX4_lastRowDay 5 = .ok (.aload_n 0, 1) := by decide +kernel
theorem dX4_lastRowDay_6 : decode cX4_lastRowDay 6 = .ok (.getfield 21, 3) := by decide +kernel
theorem dX4_lastRowDay_9 : decode cX4_lastRowDay 9 = .ok (.if_icmp .ge 20, 3) := by decide +kernel
theorem dX4_lastRowDay_12 : decode cX4_lastRowDay 12 = .ok (.iload_n 1, 1) := by decide +kernel
theorem dX4_lastRowDay_13 : decode cX4_lastRowDay 13 = .ok (.aload_n 0, 1) := by decide +kernel
theorem dX4_lastRowDay_14 : decode cX4_lastRowDay 14 = .ok (.getfield 9, 3) := by decide +kernel
theorem dX4_lastRowDay_17 : decode cX4_lastRowDay 17 = .ok (.iload_n 2, 1) := by decide +kernel
theorem dX4_lastRowDay_18 : decode cX4_lastRowDay 18 = .ok (.iaload, 1) := by decide +kernel
theorem dX4_lastRowDay_19 : decode cX4_lastRowDay 19 = .ok (.invokestatic 104, 3) := by decide +kernel
theorem dX4_lastRowDay_22 : decode cX4_lastRowDay 22 = .ok (.istore_n 1, 1) := by decide +kernel
theorem dX4_lastRowDay_23 : decode cX4_lastRowDay 23 = .ok (.iinc 2 1, 3) := by decide +kernel
theorem dX4_lastRowDay_26 : decode cX4_lastRowDay 26 = .ok (.goto (-22), 3) := by decide +kernel
theorem dX4_lastRowDay_29 : decode cX4_lastRowDay 29 = .ok (.iload_n 1, 1) := by decide +kernel
theorem dX4_lastRowDay_30 : decode cX4_lastRowDay 30 = .ok (.ireturn, 1) := by decide +kernel
theorem dX4_begin_0 : decode cX4_begin 0 = .ok (.iconst 0, 1) := by decide +kernel
theorem dX4_begin_1 : decode cX4_begin 1 = .ok (.istore_n 1, 1) := by decide +kernel
theorem dX4_begin_2 : decode cX4_begin 2 = .ok (.iload_n 1, 1) := by decide +kernel
theorem dX4_begin_3 : decode cX4_begin 3 = .ok (.aload_n 0, 1) := by decide +kernel
theorem dX4_begin_4 : decode cX4_begin 4 = .ok (.getfield 32, 3) := by decide +kernel
theorem dX4_begin_7 : decode cX4_begin 7 = .ok (.if_icmp .ge 36, 3) := by decide +kernel
theorem dX4_begin_10 : decode cX4_begin 10 = .ok (.aload_n 0, 1) := by decide +kernel
theorem dX4_begin_11 : decode cX4_begin 11 = .ok (.getfield 28, 3) := by decide +kernel
theorem dX4_begin_14 : decode cX4_begin 14 = .ok (.iload_n 1, 1) := by decide +kernel
theorem dX4_begin_15 : decode cX4_begin 15 = .ok (.aload_n 0, 1) := by decide +kernel
theorem dX4_begin_16 : decode cX4_begin 16 = .ok (.getfield 25, 3) := by decide +kernel
theorem dX4_begin_19 : decode cX4_begin 19 = .ok (.iload_n 1, 1) := by decide +kernel
theorem dX4_begin_20 : decode cX4_begin 20 = .ok (.iaload, 1) := by decide +kernel
theorem dX4_begin_21 : decode cX4_begin 21 = .ok (.bipush 100, 2) := by decide +kernel
theorem dX4_begin_23 : decode cX4_begin 23 = .ok (.idiv, 1) := by decide +kernel
theorem dX4_begin_24 : decode cX4_begin 24 = .ok (.aload_n 0, 1) := by decide +kernel
theorem dX4_begin_25 : decode cX4_begin 25 = .ok (.getfield 25, 3) := by decide +kernel
theorem dX4_begin_28 : decode cX4_begin 28 = .ok (.iload_n 1, 1) := by decide +kernel
theorem dX4_begin_29 : decode cX4_begin 29 = .ok (.iaload, 1) := by decide +kernel
theorem dX4_begin_30 : decode cX4_begin 30 = .ok (.bipush 100, 2) := by decide +kernel
theorem dX4_begin_32 : decode cX4_begin 32 = .ok (.irem, 1) := by decide +kernel
theorem dX4_begin_33 : decode cX4_begin 33 = .ok (.invokestatic 110, 3) := by decide +kernel
theorem dX4_begin_36 : decode cX4_begin 36 = .ok (.lastore, 1) := by decide +kernel
theorem dX4_begin_37 : decode cX4_begin 37 = .ok (.iinc 1 1, 3) := by decide +kernel
theorem dX4_begin_40 : decode cX4_begin 40 = .ok (.goto (-38), 3) := by decide +kernel
theorem dX4_begin_43 : decode cX4_begin 43 = .ok (.return_, 1) := by decide +kernel
theorem dX4_pass_0 : decode cX4_pass 0 = .ok (.aload_n 0, 1) := by decide +kernel
theorem dX4_pass_1 : decode cX4_pass 1 = .ok (.getfield 54, 3) := by decide +kernel
theorem dX4_pass_4 : decode cX4_pass 4 = .ok (.iload_n 1, 1) := by decide +kernel
theorem dX4_pass_5 : decode cX4_pass 5 = .ok (.invokevirtual 114, 3) := by decide +kernel
theorem dX4_pass_8 : decode cX4_pass 8 = .ok (.iconst 0, 1) := by decide +kernel
theorem dX4_pass_9 : decode cX4_pass 9 = .ok (.istore_n 2, 1) := by decide +kernel
theorem dX4_pass_10 : decode cX4_pass 10 = .ok (.iload_n 2, 1) := by decide +kernel
theorem dX4_pass_11 : decode cX4_pass 11 = .ok (.aload_n 0, 1) := by decide +kernel
theorem dX4_pass_12 : decode cX4_pass 12 = .ok (.getfield 32, 3) := by decide +kernel
theorem dX4_pass_15 : decode cX4_pass 15 = .ok (.if_icmp .ge 42, 3) := by decide +kernel
theorem dX4_pass_18 : decode cX4_pass 18 = .ok (.aload_n 0, 1) := by decide +kernel
theorem dX4_pass_19 : decode cX4_pass 19 = .ok (.getfield 28, 3) := by decide +kernel
theorem dX4_pass_22 : decode cX4_pass 22 = .ok (.iload_n 2, 1) := by decide +kernel
theorem dX4_pass_23 : decode cX4_pass 23 = .ok (.aload_n 0, 1) := by decide +kernel
theorem dX4_pass_24 : decode cX4_pass 24 = .ok (.getfield 54, 3) := by decide +kernel
theorem dX4_pass_27 : decode cX4_pass 27 = .ok (.aload_n 0, 1) := by decide +kernel
theorem dX4_pass_28 : decode cX4_pass 28 = .ok (.getfield 28, 3) := by decide +kernel
theorem dX4_pass_31 : decode cX4_pass 31 = .ok (.iload_n 2, 1) := by decide +kernel
theorem dX4_pass_32 : decode cX4_pass 32 = .ok (.laload, 1) := by decide +kernel
theorem dX4_pass_33 : decode cX4_pass 33 = .ok (.aload_n 0, 1) := by decide +kernel
theorem dX4_pass_34 : decode cX4_pass 34 = .ok (.getfield 58, 3) := by decide +kernel
theorem dX4_pass_37 : decode cX4_pass 37 = .ok (.getfield 117, 3) := by decide +kernel
theorem dX4_pass_40 : decode cX4_pass 40 = .ok (.aload_n 0, 1) := by decide +kernel
theorem dX4_pass_41 : decode cX4_pass 41 = .ok (.getfield 58, 3) := by decide +kernel
theorem dX4_pass_44 : decode cX4_pass 44 = .ok (.getfield 120, 3) := by decide +kernel
theorem dX4_pass_47 : decode cX4_pass 47 = .ok (.invokevirtual 123, 3) := by decide +kernel
theorem dX4_pass_50 : decode cX4_pass 50 = .ok (.lastore, 1) := by decide +kernel
theorem dX4_pass_51 : decode cX4_pass 51 = .ok (.iinc 2 1, 3) := by decide +kernel
theorem dX4_pass_54 : decode cX4_pass 54 = .ok (.goto (-44), 3) := by decide +kernel
theorem dX4_pass_57 : decode cX4_pass 57 = .ok (.return_, 1) := by decide +kernel
theorem dX4_fits_0 : decode cX4_fits 0 = .ok (.iconst 0, 1) := by decide +kernel
theorem dX4_fits_1 : decode cX4_fits 1 = .ok (.istore 4, 2) := by decide +kernel
theorem dX4_fits_3 : decode cX4_fits 3 = .ok (.iload 4, 2) := by decide +kernel
theorem dX4_fits_5 : decode cX4_fits 5 = .ok (.aload_n 0, 1) := by decide +kernel
theorem dX4_fits_6 : decode cX4_fits 6 = .ok (.getfield 21, 3) := by decide +kernel
theorem dX4_fits_9 : decode cX4_fits 9 = .ok (.if_icmp .ge 43, 3) := by decide +kernel
theorem dX4_fits_12 : decode cX4_fits 12 = .ok (.aload_n 0, 1) := by decide +kernel
theorem dX4_fits_13 : decode cX4_fits 13 = .ok (.getfield 9, 3) := by decide +kernel
theorem dX4_fits_16 : decode cX4_fits 16 = .ok (.iload 4, 2) := by decide +kernel
theorem dX4_fits_18 : decode cX4_fits 18 = .ok (.iaload, 1) := by decide +kernel
theorem dX4_fits_19 : decode cX4_fits 19 = .ok (.iload_n 1, 1) := by decide +kernel
theorem dX4_fits_20 : decode cX4_fits 20 = .ok (.if_icmp .ne 26, 3) := by decide +kernel
theorem dX4_fits_23 : decode cX4_fits 23 = .ok (.lload_n 2, 1) := by decide +kernel
theorem dX4_fits_24 : decode cX4_fits 24 = .ok (.aload_n 0, 1) := by decide +kernel
theorem dX4_fits_25 : decode cX4_fits 25 = .ok (.getfield 15, 3) := by decide +kernel
theorem dX4_fits_28 : decode cX4_fits 28 = .ok (.iload 4, 2) := by decide +kernel
theorem dX4_fits_30 : decode cX4_fits 30 = .ok (.iaload, 1) := by decide +kernel
theorem dX4_fits_31 : decode cX4_fits 31 = .ok (.invokestatic 131, 3) := by decide +kernel
theorem dX4_fits_34 : decode cX4_fits 34 = .ok (.aload_n 0, 1) := by decide +kernel
theorem dX4_fits_35 : decode cX4_fits 35 = .ok (.getfield 18, 3) := by decide +kernel
theorem dX4_fits_38 : decode cX4_fits 38 = .ok (.iload 4, 2) := by decide +kernel
theorem dX4_fits_40 : decode cX4_fits 40 = .ok (.iaload, 1) := by decide +kernel
theorem dX4_fits_41 : decode cX4_fits 41 = .ok (.if_icmp .eq 5, 3) := by decide +kernel
theorem dX4_fits_44 : decode cX4_fits 44 = .ok (.iconst 0, 1) := by decide +kernel
theorem dX4_fits_45 : decode cX4_fits 45 = .ok (.ireturn, 1) := by decide +kernel
theorem dX4_fits_46 : decode cX4_fits 46 = .ok (.iinc 4 1, 3) := by decide +kernel
theorem dX4_fits_49 : decode cX4_fits 49 = .ok (.goto (-46), 3) := by decide +kernel
theorem dX4_fits_52 : decode cX4_fits 52 = .ok (.iconst 1, 1) := by decide +kernel
theorem dX4_fits_53 : decode cX4_fits 53 = .ok (.ireturn, 1) := by decide +kernel
theorem dX4_sift_0 : decode cX4_sift 0 = .ok (.iconst 0, 1) := by decide +kernel
theorem dX4_sift_1 : decode cX4_sift 1 = .ok (.istore_n 2, 1) := by decide +kernel
theorem dX4_sift_2 : decode cX4_sift 2 = .ok (.iconst 0, 1) := by decide +kernel
theorem dX4_sift_3 : decode cX4_sift 3 = .ok (.istore_n 3, 1) := by decide +kernel
theorem dX4_sift_4 : decode cX4_sift 4 = .ok (.iload_n 3, 1) := by decide +kernel
theorem dX4_sift_5 : decode cX4_sift 5 = .ok (.aload_n 0, 1) := by decide +kernel
theorem dX4_sift_6 : decode cX4_sift 6 = .ok (.getfield 32, 3) := by decide +kernel
theorem dX4_sift_9 : decode cX4_sift 9 = .ok (.if_icmp .ge 50, 3) := by decide +kernel
theorem dX4_sift_12 : decode cX4_sift 12 = .ok (.aload_n 0, 1) := by decide +kernel
theorem dX4_sift_13 : decode cX4_sift 13 = .ok (.iload_n 1, 1) := by decide +kernel
theorem dX4_sift_14 : decode cX4_sift 14 = .ok (.aload_n 0, 1) := by decide +kernel
theorem dX4_sift_15 : decode cX4_sift 15 = .ok (.getfield 28, 3) := by decide +kernel
theorem dX4_sift_18 : decode cX4_sift 18 = .ok (.iload_n 3, 1) := by decide +kernel
theorem dX4_sift_19 : decode cX4_sift 19 = .ok (.laload, 1) := by decide +kernel
theorem dX4_sift_20 : decode cX4_sift 20 = .ok (.invokevirtual 127, 3) := by decide +kernel
theorem dX4_sift_23 : decode cX4_sift 23 = .ok (.ifCond .eq 30, 3) := by decide +kernel
theorem dX4_sift_26 : decode cX4_sift 26 = .ok (.aload_n 0, 1) := by decide +kernel
theorem dX4_sift_27 : decode cX4_sift 27 = .ok (.getfield 25, 3) := by decide +kernel
theorem dX4_sift_30 : decode cX4_sift 30 = .ok (.iload_n 2, 1) := by decide +kernel
theorem dX4_sift_31 : decode cX4_sift 31 = .ok (.aload_n 0, 1) := by decide +kernel
theorem dX4_sift_32 : decode cX4_sift 32 = .ok (.getfield 25, 3) := by decide +kernel
theorem dX4_sift_35 : decode cX4_sift 35 = .ok (.iload_n 3, 1) := by decide +kernel
theorem dX4_sift_36 : decode cX4_sift 36 = .ok (.iaload, 1) := by decide +kernel
theorem dX4_sift_37 : decode cX4_sift 37 = .ok (.iastore, 1) := by decide +kernel
theorem dX4_sift_38 : decode cX4_sift 38 = .ok (.aload_n 0, 1) := by decide +kernel
theorem dX4_sift_39 : decode cX4_sift 39 = .ok (.getfield 28, 3) := by decide +kernel
theorem dX4_sift_42 : decode cX4_sift 42 = .ok (.iload_n 2, 1) := by decide +kernel
theorem dX4_sift_43 : decode cX4_sift 43 = .ok (.aload_n 0, 1) := by decide +kernel
theorem dX4_sift_44 : decode cX4_sift 44 = .ok (.getfield 28, 3) := by decide +kernel
theorem dX4_sift_47 : decode cX4_sift 47 = .ok (.iload_n 3, 1) := by decide +kernel
theorem dX4_sift_48 : decode cX4_sift 48 = .ok (.laload, 1) := by decide +kernel
theorem dX4_sift_49 : decode cX4_sift 49 = .ok (.lastore, 1) := by decide +kernel
theorem dX4_sift_50 : decode cX4_sift 50 = .ok (.iinc 2 1, 3) := by decide +kernel
theorem dX4_sift_53 : decode cX4_sift 53 = .ok (.iinc 3 1, 3) := by decide +kernel
theorem dX4_sift_56 : decode cX4_sift 56 = .ok (.goto (-52), 3) := by decide +kernel
theorem dX4_sift_59 : decode cX4_sift 59 = .ok (.aload_n 0, 1) := by decide +kernel
theorem dX4_sift_60 : decode cX4_sift 60 = .ok (.iload_n 2, 1) := by decide +kernel
theorem dX4_sift_61 : decode cX4_sift 61 = .ok (.putfield 32, 3) := by decide +kernel
theorem dX4_sift_64 : decode cX4_sift 64 = .ok (.return_, 1) := by decide +kernel
theorem dX4_search_0 : decode cX4_search 0 = .ok (.aload_n 0, 1) := by decide +kernel
theorem dX4_search_1 : decode cX4_search 1 = .ok (.getfield 47, 3) := by decide +kernel
theorem dX4_search_4 : decode cX4_search 4 = .ok (.ifCond .eq 4, 3) := by decide +kernel
theorem dX4_search_7 : decode cX4_search 7 = .ok (.return_, 1) := by decide +kernel
theorem dX4_search_8 : decode cX4_search 8 = .ok (.aload_n 0, 1) := by decide +kernel
theorem dX4_search_9 : decode cX4_search 9 = .ok (.iconst 1, 1) := by decide +kernel
theorem dX4_search_10 : decode cX4_search 10 = .ok (.putfield 47, 3) := by decide +kernel
theorem dX4_search_13 : decode cX4_search 13 = .ok (.aload_n 0, 1) := by decide +kernel
theorem dX4_search_14 : decode cX4_search 14 = .ok (.invokevirtual 85, 3) := by decide +kernel
theorem dX4_search_17 : decode cX4_search 17 = .ok (.istore_n 1, 1) := by decide +kernel
theorem dX4_search_18 : decode cX4_search 18 = .ok (.aload_n 0, 1) := by decide +kernel
theorem dX4_search_19 : decode cX4_search 19 = .ok (.iconst 0, 1) := by decide +kernel
theorem dX4_search_20 : decode cX4_search 20 = .ok (.putfield 32, 3) := by decide +kernel
theorem dX4_search_23 : decode cX4_search 23 = .ok (.aload_n 0, 1) := by decide +kernel
theorem dX4_search_24 : decode cX4_search 24 = .ok (.getfield 58, 3) := by decide +kernel
theorem dX4_search_27 : decode cX4_search 27 = .ok (.getfield 89, 3) := by decide +kernel
theorem dX4_search_30 : decode cX4_search 30 = .ok (.iload_n 1, 1) := by decide +kernel
theorem dX4_search_31 : decode cX4_search 31 = .ok (.iadd, 1) := by decide +kernel
theorem dX4_search_32 : decode cX4_search 32 = .ok (.sipush 999, 3) := by decide +kernel
theorem dX4_search_35 : decode cX4_search 35 = .ok (.if_icmp .le 4, 3) := by decide +kernel
theorem dX4_search_38 : decode cX4_search 38 = .ok (.return_, 1) := by decide +kernel
theorem dX4_search_39 : decode cX4_search 39 = .ok (.iconst 0, 1) := by decide +kernel
theorem dX4_search_40 : decode cX4_search 40 = .ok (.istore_n 2, 1) := by decide +kernel
theorem dX4_search_41 : decode cX4_search 41 = .ok (.iload_n 2, 1) := by decide +kernel
theorem dX4_search_42 : decode cX4_search 42 = .ok (.aload_n 0, 1) := by decide +kernel
theorem dX4_search_43 : decode cX4_search 43 = .ok (.getfield 54, 3) := by decide +kernel
theorem dX4_search_46 : decode cX4_search 46 = .ok (.getfield 71, 3) := by decide +kernel
theorem dX4_search_49 : decode cX4_search 49 = .ok (.getfield 77, 3) := by decide +kernel
theorem dX4_search_52 : decode cX4_search 52 = .ok (.if_icmp .ge 58, 3) := by decide +kernel
theorem dX4_search_55 : decode cX4_search 55 = .ok (.iconst 1, 1) := by decide +kernel
theorem dX4_search_56 : decode cX4_search 56 = .ok (.istore_n 3, 1) := by decide +kernel
theorem dX4_search_57 : decode cX4_search 57 = .ok (.iload_n 3, 1) := by decide +kernel
theorem dX4_search_58 : decode cX4_search 58 = .ok (.bipush 99, 2) := by decide +kernel
theorem dX4_search_60 : decode cX4_search 60 = .ok (.if_icmp .gt 44, 3) := by decide +kernel
theorem dX4_search_63 : decode cX4_search 63 = .ok (.aload_n 0, 1) := by decide +kernel
theorem dX4_search_64 : decode cX4_search 64 = .ok (.getfield 32, 3) := by decide +kernel
theorem dX4_search_67 : decode cX4_search 67 = .ok (.sipush 792, 3) := by decide +kernel
theorem dX4_search_70 : decode cX4_search 70 = .ok (.if_icmp .ge 34, 3) := by decide +kernel
theorem dX4_search_73 : decode cX4_search 73 = .ok (.aload_n 0, 1) := by decide +kernel
theorem dX4_search_74 : decode cX4_search 74 = .ok (.getfield 25, 3) := by decide +kernel
theorem dX4_search_77 : decode cX4_search 77 = .ok (.aload_n 0, 1) := by decide +kernel
theorem dX4_search_78 : decode cX4_search 78 = .ok (.getfield 32, 3) := by decide +kernel
theorem dX4_search_81 : decode cX4_search 81 = .ok (.bipush 100, 2) := by decide +kernel
theorem dX4_search_83 : decode cX4_search 83 = .ok (.iload_n 2, 1) := by decide +kernel
theorem dX4_search_84 : decode cX4_search 84 = .ok (.imul, 1) := by decide +kernel
theorem dX4_search_85 : decode cX4_search 85 = .ok (.iload_n 3, 1) := by decide +kernel
theorem dX4_search_86 : decode cX4_search 86 = .ok (.iadd, 1) := by decide +kernel
theorem dX4_search_87 : decode cX4_search 87 = .ok (.iastore, 1) := by decide +kernel
theorem dX4_search_88 : decode cX4_search 88 = .ok (.aload_n 0, 1) := by decide +kernel
theorem dX4_search_89 : decode cX4_search 89 = .ok (.dup, 1) := by decide +kernel
theorem dX4_search_90 : decode cX4_search 90 = .ok (.getfield 32, 3) := by decide +kernel
theorem dX4_search_93 : decode cX4_search 93 = .ok (.iconst 1, 1) := by decide +kernel
theorem dX4_search_94 : decode cX4_search 94 = .ok (.iadd, 1) := by decide +kernel
theorem dX4_search_95 : decode cX4_search 95 = .ok (.putfield 32, 3) := by decide +kernel
theorem dX4_search_98 : decode cX4_search 98 = .ok (.iinc 3 1, 3) := by decide +kernel
theorem dX4_search_101 : decode cX4_search 101 = .ok (.goto (-44), 3) := by decide +kernel
theorem dX4_search_104 : decode cX4_search 104 = .ok (.iinc 2 1, 3) := by decide +kernel
theorem dX4_search_107 : decode cX4_search 107 = .ok (.goto (-66), 3) := by decide +kernel
theorem dX4_search_110 : decode cX4_search 110 = .ok (.aload_n 0, 1) := by decide +kernel
theorem dX4_search_111 : decode cX4_search 111 = .ok (.invokevirtual 94, 3) := by decide +kernel
theorem dX4_search_114 : decode cX4_search 114 = .ok (.iconst 0, 1) := by decide +kernel
theorem dX4_search_115 : decode cX4_search 115 = .ok (.istore_n 2, 1) := by decide +kernel
theorem dX4_search_116 : decode cX4_search 116 = .ok (.iload_n 2, 1) := by decide +kernel
theorem dX4_search_117 : decode cX4_search 117 = .ok (.iload_n 1, 1) := by decide +kernel
theorem dX4_search_118 : decode cX4_search 118 = .ok (.if_icmp .gt 33, 3) := by decide +kernel
theorem dX4_search_121 : decode cX4_search 121 = .ok (.iload_n 2, 1) := by decide +kernel
theorem dX4_search_122 : decode cX4_search 122 = .ok (.ifCond .le 18, 3) := by decide +kernel
theorem dX4_search_125 : decode cX4_search 125 = .ok (.aload_n 0, 1) := by decide +kernel
theorem dX4_search_126 : decode cX4_search 126 = .ok (.aload_n 0, 1) := by decide +kernel
theorem dX4_search_127 : decode cX4_search 127 = .ok (.getfield 58, 3) := by decide +kernel
theorem dX4_search_130 : decode cX4_search 130 = .ok (.getfield 89, 3) := by decide +kernel
theorem dX4_search_133 : decode cX4_search 133 = .ok (.iload_n 2, 1) := by decide +kernel
theorem dX4_search_134 : decode cX4_search 134 = .ok (.iadd, 1) := by decide +kernel
theorem dX4_search_135 : decode cX4_search 135 = .ok (.iconst 1, 1) := by decide +kernel
theorem dX4_search_136 : decode cX4_search 136 = .ok (.isub, 1) := by decide +kernel
theorem dX4_search_137 : decode cX4_search 137 = .ok (.invokevirtual 97, 3) := by decide +kernel
theorem dX4_search_140 : decode cX4_search 140 = .ok (.aload_n 0, 1) := by decide +kernel
theorem dX4_search_141 : decode cX4_search 141 = .ok (.iload_n 2, 1) := by decide +kernel
theorem dX4_search_142 : decode cX4_search 142 = .ok (.invokevirtual 101, 3) := by decide +kernel
theorem dX4_search_145 : decode cX4_search 145 = .ok (.iinc 2 1, 3) := by decide +kernel
theorem dX4_search_148 : decode cX4_search 148 = .ok (.goto (-32), 3) := by decide +kernel
theorem dX4_search_151 : decode cX4_search 151 = .ok (.return_, 1) := by decide +kernel
theorem dX11_sources_0 : decode cX11_sources 0 = .ok (.aload_n 0, 1) := by decide +kernel
theorem dX11_sources_1 : decode cX11_sources 1 = .ok (.iload_n 1, 1) := by decide +kernel
theorem dX11_sources_2 : decode cX11_sources 2 = .ok (.invokevirtual 185, 3) := by decide +kernel
theorem dX11_sources_5 : decode cX11_sources 5 = .ok (.ifCond .ne 5, 3) := by decide +kernel
theorem dX11_sources_8 : decode cX11_sources 8 = .ok (.iconst (-1), 1) := by decide +kernel
theorem dX11_sources_9 : decode cX11_sources 9 = .ok (.ireturn, 1) := by decide +kernel
theorem dX11_sources_10 : decode cX11_sources 10 = .ok (.aload_n 0, 1) := by decide +kernel
theorem dX11_sources_11 : decode cX11_sources 11 = .ok (.getfield 70, 3) := by decide +kernel
theorem dX11_sources_14 : decode cX11_sources 14 = .ok (.invokevirtual 264, 3) := by decide +kernel
theorem dX11_sources_17 : decode cX11_sources 17 = .ok (.iload_n 2, 1) := by decide +kernel
theorem dX11_sources_18 : decode cX11_sources 18 = .ok (.iconst (-1), 1) := by decide +kernel
theorem dX11_sources_19 : decode cX11_sources 19 = .ok (.if_icmp .ne 11, 3) := by decide +kernel
theorem dX11_sources_22 : decode cX11_sources 22 = .ok (.aload_n 0, 1) := by decide +kernel
theorem dX11_sources_23 : decode cX11_sources 23 = .ok (.getfield 70, 3) := by decide +kernel
theorem dX11_sources_26 : decode cX11_sources 26 = .ok (.getfield 267, 3) := by decide +kernel
theorem dX11_sources_29 : decode cX11_sources 29 = .ok (.ireturn, 1) := by decide +kernel
theorem dX11_sources_30 : decode cX11_sources 30 = .ok (.iload_n 2, 1) := by decide +kernel
theorem dX11_sources_31 : decode cX11_sources 31 = .ok (.ifCond .lt 26, 3) := by decide +kernel
theorem dX11_sources_34 : decode cX11_sources 34 = .ok (.iload_n 2, 1) := by decide +kernel
theorem dX11_sources_35 : decode cX11_sources 35 = .ok (.aload_n 0, 1) := by decide +kernel
theorem dX11_sources_36 : decode cX11_sources 36 = .ok (.getfield 70, 3) := by decide +kernel
theorem dX11_sources_39 : decode cX11_sources 39 = .ok (.getfield 267, 3) := by decide +kernel
theorem dX11_sources_42 : decode cX11_sources 42 = .ok (.if_icmp .ge 15, 3) := by decide +kernel
theorem dX11_sources_45 : decode cX11_sources 45 = .ok (.aload_n 0, 1) := by decide +kernel
theorem dX11_sources_46 : decode cX11_sources 46 = .ok (.getfield 70, 3) := by decide +kernel
theorem dX11_sources_49 : decode cX11_sources 49 = .ok (.getfield 268, 3) := by decide +kernel
theorem dX11_sources_52 : decode cX11_sources 52 = .ok (.iload_n 2, 1) := by decide +kernel
theorem dX11_sources_53 : decode cX11_sources 53 = .ok (.iaload, 1) := by decide +kernel
theorem dX11_sources_54 : decode cX11_sources 54 = .ok (.goto 4, 3) := by decide +kernel
theorem dX11_sources_57 : decode cX11_sources 57 = .ok (.iconst (-1), 1) := by decide +kernel
theorem dX11_sources_58 : decode cX11_sources 58 = .ok (.ireturn, 1) := by decide +kernel
theorem dX4_mostLeft_0 : decode cX4_mostLeft 0 = .ok (.iconst 0, 1) := by decide +kernel
theorem dX4_mostLeft_1 : decode cX4_mostLeft 1 = .ok (.istore_n 2, 1) := by decide +kernel
theorem dX4_mostLeft_2 : decode cX4_mostLeft 2 = .ok (.iload_n 2, 1) := by decide +kernel
theorem dX4_mostLeft_3 : decode cX4_mostLeft 3 = .ok (.bipush 100, 2) := by decide +kernel
theorem dX4_mostLeft_5 : decode cX4_mostLeft 5 = .ok (.if_icmp .ge 16, 3) := by decide +kernel
theorem dX4_mostLeft_8 : decode cX4_mostLeft 8 = .ok (.aload_n 0, 1) := by decide +kernel
theorem dX4_mostLeft_9 : decode cX4_mostLeft 9 = .ok (.getfield 35, 3) := by decide +kernel
theorem dX4_mostLeft_12 : decode cX4_mostLeft 12 = .ok (.iload_n 2, 1) := by decide +kernel
theorem dX4_mostLeft_13 : decode cX4_mostLeft 13 = .ok (.iconst 0, 1) := by decide +kernel
theorem dX4_mostLeft_14 : decode cX4_mostLeft 14 = .ok (.iastore, 1) := by decide +kernel
theorem dX4_mostLeft_15 : decode cX4_mostLeft 15 = .ok (.iinc 2 1, 3) := by decide +kernel
theorem dX4_mostLeft_18 : decode cX4_mostLeft 18 = .ok (.goto (-16), 3) := by decide +kernel
theorem dX4_mostLeft_21 : decode cX4_mostLeft 21 = .ok (.iconst 0, 1) := by decide +kernel
theorem dX4_mostLeft_22 : decode cX4_mostLeft 22 = .ok (.istore_n 2, 1) := by decide +kernel
theorem dX4_mostLeft_23 : decode cX4_mostLeft 23 = .ok (.iconst 0, 1) := by decide +kernel
theorem dX4_mostLeft_24 : decode cX4_mostLeft 24 = .ok (.istore_n 3, 1) := by decide +kernel
theorem dX4_mostLeft_25 : decode cX4_mostLeft 25 = .ok (.iload_n 3, 1) := by decide +kernel
theorem dX4_mostLeft_26 : decode cX4_mostLeft 26 = .ok (.aload_n 0, 1) := by decide +kernel
theorem dX4_mostLeft_27 : decode cX4_mostLeft 27 = .ok (.getfield 32, 3) := by decide +kernel
theorem dX4_mostLeft_30 : decode cX4_mostLeft 30 = .ok (.if_icmp .ge 51, 3) := by decide +kernel
theorem dX4_mostLeft_33 : decode cX4_mostLeft 33 = .ok (.aload_n 0, 1) := by decide +kernel
theorem dX4_mostLeft_34 : decode cX4_mostLeft 34 = .ok (.getfield 28, 3) := by decide +kernel
theorem dX4_mostLeft_37 : decode cX4_mostLeft 37 = .ok (.iload_n 3, 1) := by decide +kernel
theorem dX4_mostLeft_38 : decode cX4_mostLeft 38 = .ok (.laload, 1) := by decide +kernel
theorem dX4_mostLeft_39 : decode cX4_mostLeft 39 = .ok (.iload_n 1, 1) := by decide +kernel
theorem dX4_mostLeft_40 : decode cX4_mostLeft 40 = .ok (.invokestatic 131, 3) := by decide +kernel
theorem dX4_mostLeft_43 : decode cX4_mostLeft 43 = .ok (.istore 4, 2) := by decide +kernel
theorem dX4_mostLeft_45 : decode cX4_mostLeft 45 = .ok (.iload 4, 2) := by decide +kernel
theorem dX4_mostLeft_47 : decode cX4_mostLeft 47 = .ok (.bipush 100, 2) := by decide +kernel
theorem dX4_mostLeft_49 : decode cX4_mostLeft 49 = .ok (.if_icmp .ge 26, 3) := by decide +kernel
theorem dX4_mostLeft_52 : decode cX4_mostLeft 52 = .ok (.aload_n 0, 1) := by decide +kernel
theorem dX4_mostLeft_53 : decode cX4_mostLeft 53 = .ok (.getfield 35, 3) := by decide +kernel
theorem dX4_mostLeft_56 : decode cX4_mostLeft 56 = .ok (.iload 4, 2) := by decide +kernel
theorem dX4_mostLeft_58 : decode cX4_mostLeft 58 = .ok (.dup2, 1) := by decide +kernel
theorem dX4_mostLeft_59 : decode cX4_mostLeft 59 = .ok (.iaload, 1) := by decide +kernel
theorem dX4_mostLeft_60 : decode cX4_mostLeft 60 = .ok (.iconst 1, 1) := by decide +kernel
theorem dX4_mostLeft_61 : decode cX4_mostLeft 61 = .ok (.iadd, 1) := by decide +kernel
theorem dX4_mostLeft_62 : decode cX4_mostLeft 62 = .ok (.iastore, 1) := by decide +kernel
theorem dX4_mostLeft_63 : decode cX4_mostLeft 63 = .ok (.iload_n 2, 1) := by decide +kernel
theorem dX4_mostLeft_64 : decode cX4_mostLeft 64 = .ok (.aload_n 0, 1) := by decide +kernel
theorem dX4_mostLeft_65 : decode cX4_mostLeft 65 = .ok (.getfield 35, 3) := by decide +kernel
theorem dX4_mostLeft_68 : decode cX4_mostLeft 68 = .ok (.iload 4, 2) := by decide +kernel
theorem dX4_mostLeft_70 : decode cX4_mostLeft 70 = .ok (.iaload, 1) := by decide +kernel
theorem dX4_mostLeft_71 : decode cX4_mostLeft 71 = .ok (.invokestatic 104, 3) := by decide +kernel
theorem dX4_mostLeft_74 : decode cX4_mostLeft 74 = .ok (.istore_n 2, 1) := by decide +kernel
theorem dX4_mostLeft_75 : decode cX4_mostLeft 75 = .ok (.iinc 3 1, 3) := by decide +kernel
theorem dX4_mostLeft_78 : decode cX4_mostLeft 78 = .ok (.goto (-53), 3) := by decide +kernel
theorem dX4_mostLeft_81 : decode cX4_mostLeft 81 = .ok (.iload_n 2, 1) := by decide +kernel
theorem dX4_mostLeft_82 : decode cX4_mostLeft 82 = .ok (.ireturn, 1) := by decide +kernel
theorem dX4_weighDay_0 : decode cX4_weighDay 0 = .ok (.iconst 0, 1) := by decide +kernel
theorem dX4_weighDay_1 : decode cX4_weighDay 1 = .ok (.istore_n 2, 1) := by decide +kernel
theorem dX4_weighDay_2 : decode cX4_weighDay 2 = .ok (.iload_n 2, 1) := by decide +kernel
theorem dX4_weighDay_3 : decode cX4_weighDay 3 = .ok (.aload_n 0, 1) := by decide +kernel
theorem dX4_weighDay_4 : decode cX4_weighDay 4 = .ok (.getfield 54, 3) := by decide +kernel
theorem dX4_weighDay_7 : decode cX4_weighDay 7 = .ok (.getfield 71, 3) := by decide +kernel
theorem dX4_weighDay_10 : decode cX4_weighDay 10 = .ok (.getfield 77, 3) := by decide +kernel
theorem dX4_weighDay_13 : decode cX4_weighDay 13 = .ok (.if_icmp .ge 38, 3) := by decide +kernel
theorem dX4_weighDay_16 : decode cX4_weighDay 16 = .ok (.aload_n 0, 1) := by decide +kernel
theorem dX4_weighDay_17 : decode cX4_weighDay 17 = .ok (.iload_n 2, 1) := by decide +kernel
theorem dX4_weighDay_18 : decode cX4_weighDay 18 = .ok (.invokevirtual 138, 3) := by decide +kernel
theorem dX4_weighDay_21 : decode cX4_weighDay 21 = .ok (.istore_n 3, 1) := by decide +kernel
theorem dX4_weighDay_22 : decode cX4_weighDay 22 = .ok (.iload_n 3, 1) := by decide +kernel
theorem dX4_weighDay_23 : decode cX4_weighDay 23 = .ok (.aload_n 0, 1) := by decide +kernel
theorem dX4_weighDay_24 : decode cX4_weighDay 24 = .ok (.getfield 44, 3) := by decide +kernel
theorem dX4_weighDay_27 : decode cX4_weighDay 27 = .ok (.if_icmp .ge 18, 3) := by decide +kernel
theorem dX4_weighDay_30 : decode cX4_weighDay 30 = .ok (.aload_n 0, 1) := by decide +kernel
theorem dX4_weighDay_31 : decode cX4_weighDay 31 = .ok (.iload_n 3, 1) := by decide +kernel
theorem dX4_weighDay_32 : decode cX4_weighDay 32 = .ok (.putfield 44, 3) := by decide +kernel
theorem dX4_weighDay_35 : decode cX4_weighDay 35 = .ok (.aload_n 0, 1) := by decide +kernel
theorem dX4_weighDay_36 : decode cX4_weighDay 36 = .ok (.iload_n 1, 1) := by decide +kernel
theorem dX4_weighDay_37 : decode cX4_weighDay 37 = .ok (.putfield 38, 3) := by decide +kernel
theorem dX4_weighDay_40 : decode cX4_weighDay 40 = .ok (.aload_n 0, 1) := by decide +kernel
theorem dX4_weighDay_41 : decode cX4_weighDay 41 = .ok (.iload_n 2, 1) := by decide +kernel
theorem dX4_weighDay_42 : decode cX4_weighDay 42 = .ok (.putfield 41, 3) := by decide +kernel
theorem dX4_weighDay_45 : decode cX4_weighDay 45 = .ok (.iinc 2 1, 3) := by decide +kernel
theorem dX4_weighDay_48 : decode cX4_weighDay 48 = .ok (.goto (-46), 3) := by decide +kernel
theorem dX4_weighDay_51 : decode cX4_weighDay 51 = .ok (.return_, 1) := by decide +kernel
theorem dX4_weigh_0 : decode cX4_weigh 0 = .ok (.aload_n 0, 1) := by decide +kernel
theorem dX4_weigh_1 : decode cX4_weigh 1 = .ok (.getfield 32, 3) := by decide +kernel
theorem dX4_weigh_4 : decode cX4_weigh 4 = .ok (.ifCond .eq 16, 3) := by decide +kernel
theorem dX4_weigh_7 : decode cX4_weigh 7 = .ok (.aload_n 0, 1) := by decide +kernel
theorem dX4_weigh_8 : decode cX4_weigh 8 = .ok (.getfield 58, 3) := by decide +kernel
theorem dX4_weigh_11 : decode cX4_weigh 11 = .ok (.getfield 89, 3) := by decide +kernel
theorem dX4_weigh_14 : decode cX4_weigh 14 = .ok (.sipush 999, 3) := by decide +kernel
theorem dX4_weigh_17 : decode cX4_weigh 17 = .ok (.if_icmp .lt 5, 3) := by decide +kernel
theorem dX4_weigh_20 : decode cX4_weigh 20 = .ok (.iconst 0, 1) := by decide +kernel
theorem dX4_weigh_21 : decode cX4_weigh 21 = .ok (.ireturn, 1) := by decide +kernel
theorem dX4_weigh_22 : decode cX4_weigh 22 = .ok (.aload_n 0, 1) := by decide +kernel
theorem dX4_weigh_23 : decode cX4_weigh 23 = .ok (.getfield 51, 3) := by decide +kernel
theorem dX4_weigh_26 : decode cX4_weigh 26 = .ok (.ifCond .ne 76, 3) := by decide +kernel
theorem dX4_weigh_29 : decode cX4_weigh 29 = .ok (.aload_n 0, 1) := by decide +kernel
theorem dX4_weigh_30 : decode cX4_weigh 30 = .ok (.iconst 1, 1) := by decide +kernel
theorem dX4_weigh_31 : decode cX4_weigh 31 = .ok (.putfield 51, 3) := by decide +kernel
theorem dX4_weigh_34 : decode cX4_weigh 34 = .ok (.aload_n 0, 1) := by decide +kernel
theorem dX4_weigh_35 : decode cX4_weigh 35 = .ok (.sipush 793, 3) := by decide +kernel
theorem dX4_weigh_38 : decode cX4_weigh 38 = .ok (.putfield 44, 3) := by decide +kernel
theorem dX4_weigh_41 : decode cX4_weigh 41 = .ok (.aload_n 0, 1) := by decide +kernel
theorem dX4_weigh_42 : decode cX4_weigh 42 = .ok (.invokevirtual 94, 3) := by decide +kernel
theorem dX4_weigh_45 : decode cX4_weigh 45 = .ok (.iconst 1, 1) := by decide +kernel
theorem dX4_weigh_46 : decode cX4_weigh 46 = .ok (.istore_n 1, 1) := by decide +kernel
theorem dX4_weigh_47 : decode cX4_weigh 47 = .ok (.iload_n 1, 1) := by decide +kernel
theorem dX4_weigh_48 : decode cX4_weigh 48 = .ok (.bipush 30, 2) := by decide +kernel
theorem dX4_weigh_50 : decode cX4_weigh 50 = .ok (.if_icmp .gt 52, 3) := by decide +kernel
theorem dX4_weigh_53 : decode cX4_weigh 53 = .ok (.aload_n 0, 1) := by decide +kernel
theorem dX4_weigh_54 : decode cX4_weigh 54 = .ok (.getfield 58, 3) := by decide +kernel
theorem dX4_weigh_57 : decode cX4_weigh 57 = .ok (.getfield 89, 3) := by decide +kernel
theorem dX4_weigh_60 : decode cX4_weigh 60 = .ok (.iload_n 1, 1) := by decide +kernel
theorem dX4_weigh_61 : decode cX4_weigh 61 = .ok (.iadd, 1) := by decide +kernel
theorem dX4_weigh_62 : decode cX4_weigh 62 = .ok (.sipush 999, 3) := by decide +kernel
theorem dX4_weigh_65 : decode cX4_weigh 65 = .ok (.if_icmp .gt 37, 3) := by decide +kernel
theorem dX4_weigh_68 : decode cX4_weigh 68 = .ok (.aload_n 0, 1) := by decide +kernel
theorem dX4_weigh_69 : decode cX4_weigh 69 = .ok (.getfield 44, 3) := by decide +kernel
theorem dX4_weigh_72 : decode cX4_weigh 72 = .ok (.iconst 1, 1) := by decide +kernel
theorem dX4_weigh_73 : decode cX4_weigh 73 = .ok (.if_icmp .le 29, 3) := by decide +kernel
theorem dX4_weigh_76 : decode cX4_weigh 76 = .ok (.aload_n 0, 1) := by decide +kernel
theorem dX4_weigh_77 : decode cX4_weigh 77 = .ok (.aload_n 0, 1) := by decide +kernel
theorem dX4_weigh_78 : decode cX4_weigh 78 = .ok (.getfield 58, 3) := by decide +kernel
theorem dX4_weigh_81 : decode cX4_weigh 81 = .ok (.getfield 89, 3) := by decide +kernel
theorem dX4_weigh_84 : decode cX4_weigh 84 = .ok (.iload_n 1, 1) := by decide +kernel
theorem dX4_weigh_85 : decode cX4_weigh 85 = .ok (.iadd, 1) := by decide +kernel
theorem dX4_weigh_86 : decode cX4_weigh 86 = .ok (.iconst 1, 1) := by decide +kernel
theorem dX4_weigh_87 : decode cX4_weigh 87 = .ok (.isub, 1) := by decide +kernel
theorem dX4_weigh_88 : decode cX4_weigh 88 = .ok (.invokevirtual 97, 3) := by decide +kernel
theorem dX4_weigh_91 : decode cX4_weigh 91 = .ok (.aload_n 0, 1) := by decide +kernel
theorem dX4_weigh_92 : decode cX4_weigh 92 = .ok (.iload_n 1, 1) := by decide +kernel
theorem dX4_weigh_93 : decode cX4_weigh 93 = .ok (.invokevirtual 135, 3) := by decide +kernel
theorem dX4_weigh_96 : decode cX4_weigh 96 = .ok (.iinc 1 1, 3) := by decide +kernel
theorem dX4_weigh_99 : decode cX4_weigh 99 = .ok (.goto (-52), 3) := by decide +kernel
theorem dX4_weigh_102 : decode cX4_weigh 102 = .ok (.iconst 1, 1) := by decide +kernel
theorem dX4_weigh_103 : decode cX4_weigh 103 = .ok (.ireturn, 1) := by decide +kernel
theorem dX11_tells_0 : decode cX11_tells 0 = .ok (.aload_n 0, 1) := by decide +kernel
theorem dX11_tells_1 : decode cX11_tells 1 = .ok (.iload_n 1, 1) := by decide +kernel
theorem dX11_tells_2 : decode cX11_tells 2 = .ok (.invokevirtual 185, 3) := by decide +kernel
theorem dX11_tells_5 : decode cX11_tells 5 = .ok (.ifCond .ne 5, 3) := by decide +kernel
theorem dX11_tells_8 : decode cX11_tells 8 = .ok (.iconst (-1), 1) := by decide +kernel
theorem dX11_tells_9 : decode cX11_tells 9 = .ok (.ireturn, 1) := by decide +kernel
theorem dX11_tells_10 : decode cX11_tells 10 = .ok (.aload_n 0, 1) := by decide +kernel
theorem dX11_tells_11 : decode cX11_tells 11 = .ok (.getfield 70, 3) := by decide +kernel
theorem dX11_tells_14 : decode cX11_tells 14 = .ok (.invokevirtual 264, 3) := by decide +kernel
theorem dX11_tells_17 : decode cX11_tells 17 = .ok (.aload_n 0, 1) := by decide +kernel
theorem dX11_tells_18 : decode cX11_tells 18 = .ok (.getfield 70, 3) := by decide +kernel
theorem dX11_tells_21 : decode cX11_tells 21 = .ok (.invokevirtual 271, 3) := by decide +kernel
theorem dX11_tells_24 : decode cX11_tells 24 = .ok (.ifCond .ne 5, 3) := by decide +kernel
theorem dX11_tells_27 : decode cX11_tells 27 = .ok (.iconst (-1), 1) := by decide +kernel
theorem dX11_tells_28 : decode cX11_tells 28 = .ok (.ireturn, 1) := by decide +kernel
theorem dX11_tells_29 : decode cX11_tells 29 = .ok (.iload_n 2, 1) := by decide +kernel
theorem dX11_tells_30 : decode cX11_tells 30 = .ok (.tableswitch 50 0 2 #[26, 34, 42], 26) := by decide +kernel
theorem dX11_tells_56 : decode cX11_tells 56 = .ok (.aload_n 0, 1) := by decide +kernel
theorem dX11_tells_57 : decode cX11_tells 57 = .ok (.getfield 70, 3) := by decide +kernel
theorem dX11_tells_60 : decode cX11_tells 60 = .ok (.getfield 275, 3) := by decide +kernel
theorem dX11_tells_63 : decode cX11_tells 63 = .ok (.ireturn, 1) := by decide +kernel
theorem dX11_tells_64 : decode cX11_tells 64 = .ok (.aload_n 0, 1) := by decide +kernel
theorem dX11_tells_65 : decode cX11_tells 65 = .ok (.getfield 70, 3) := by decide +kernel
theorem dX11_tells_68 : decode cX11_tells 68 = .ok (.getfield 278, 3) := by decide +kernel
theorem dX11_tells_71 : decode cX11_tells 71 = .ok (.ireturn, 1) := by decide +kernel
theorem dX11_tells_72 : decode cX11_tells 72 = .ok (.aload_n 0, 1) := by decide +kernel
theorem dX11_tells_73 : decode cX11_tells 73 = .ok (.getfield 70, 3) := by decide +kernel
theorem dX11_tells_76 : decode cX11_tells 76 = .ok (.getfield 281, 3) := by decide +kernel
theorem dX11_tells_79 : decode cX11_tells 79 = .ok (.ireturn, 1) := by decide +kernel
theorem dX11_tells_80 : decode cX11_tells 80 = .ok (.iconst (-1), 1) := by decide +kernel
theorem dX11_tells_81 : decode cX11_tells 81 = .ok (.ireturn, 1) := by decide +kernel
theorem dX9_copyAll_0 : decode cX9_copyAll 0 = .ok (.aload_n 0, 1) := by decide +kernel
theorem dX9_copyAll_1 : decode cX9_copyAll 1 = .ok (.aload_n 1, 1) := by decide +kernel
theorem dX9_copyAll_2 : decode cX9_copyAll 2 = .ok (.invokevirtual 47, 3) := by decide +kernel
theorem dX9_copyAll_5 : decode cX9_copyAll 5 = .ok (.aload_n 1, 1) := by decide +kernel
theorem dX9_copyAll_6 : decode cX9_copyAll 6 = .ok (.getfield 25, 3) := by decide +kernel
theorem dX9_copyAll_9 : decode cX9_copyAll 9 = .ok (.iconst 0, 1) := by decide +kernel
theorem dX9_copyAll_10 : decode cX9_copyAll 10 = .ok (.aload_n 0, 1) := by decide +kernel
theorem dX9_copyAll_11 : decode cX9_copyAll 11 = .ok (.getfield 25, 3) := by decide +kernel
theorem dX9_copyAll_14 : decode cX9_copyAll 14 = .ok (.iconst 0, 1) := by decide +kernel
theorem dX9_copyAll_15 : decode cX9_copyAll 15 = .ok (.bipush 40, 2) := by decide +kernel
theorem dX9_copyAll_17 : decode cX9_copyAll 17 = .ok (.invokestatic 41, 3) := by decide +kernel
theorem dX9_copyAll_20 : decode cX9_copyAll 20 = .ok (.aload_n 0, 1) := by decide +kernel
theorem dX9_copyAll_21 : decode cX9_copyAll 21 = .ok (.aload_n 1, 1) := by decide +kernel
theorem dX9_copyAll_22 : decode cX9_copyAll 22 = .ok (.getfield 29, 3) := by decide +kernel
theorem dX9_copyAll_25 : decode cX9_copyAll 25 = .ok (.putfield 29, 3) := by decide +kernel
theorem dX9_copyAll_28 : decode cX9_copyAll 28 = .ok (.return_, 1) := by decide +kernel
theorem dX6_remember_0 : decode cX6_remember 0 = .ok (.aload_n 0, 1) := by decide +kernel
theorem dX6_remember_1 : decode cX6_remember 1 = .ok (.getfield 11, 3) := by decide +kernel
theorem dX6_remember_4 : decode cX6_remember 4 = .ok (.aload_n 0, 1) := by decide +kernel
theorem dX6_remember_5 : decode cX6_remember 5 = .ok (.getfield 17, 3) := by decide +kernel
theorem dX6_remember_8 : decode cX6_remember 8 = .ok (.aaload, 1) := by decide +kernel
theorem dX6_remember_9 : decode cX6_remember 9 = .ok (.aload_n 1, 1) := by decide +kernel
theorem dX6_remember_10 : decode cX6_remember 10 = .ok (.invokevirtual 25, 3) := by decide +kernel
theorem dX6_remember_13 : decode cX6_remember 13 = .ok (.aload_n 0, 1) := by decide +kernel
theorem dX6_remember_14 : decode cX6_remember 14 = .ok (.aload_n 0, 1) := by decide +kernel
theorem dX6_remember_15 : decode cX6_remember 15 = .ok (.getfield 17, 3) := by decide +kernel
theorem dX6_remember_18 : decode cX6_remember 18 = .ok (.iconst 1, 1) := by decide +kernel
theorem dX6_remember_19 : decode cX6_remember 19 = .ok (.iadd, 1) := by decide +kernel
theorem dX6_remember_20 : decode cX6_remember 20 = .ok (.bipush 20, 2) := by decide +kernel
theorem dX6_remember_22 : decode cX6_remember 22 = .ok (.irem, 1) := by decide +kernel
theorem dX6_remember_23 : decode cX6_remember 23 = .ok (.putfield 17, 3) := by decide +kernel
theorem dX6_remember_26 : decode cX6_remember 26 = .ok (.aload_n 0, 1) := by decide +kernel
theorem dX6_remember_27 : decode cX6_remember 27 = .ok (.aload_n 0, 1) := by decide +kernel
theorem dX6_remember_28 : decode cX6_remember 28 = .ok (.getfield 21, 3) := by decide +kernel
theorem dX6_remember_31 : decode cX6_remember 31 = .ok (.iconst 1, 1) := by decide +kernel
theorem dX6_remember_32 : decode cX6_remember 32 = .ok (.iadd, 1) := by decide +kernel
theorem dX6_remember_33 : decode cX6_remember 33 = .ok (.bipush 20, 2) := by decide +kernel
theorem dX6_remember_35 : decode cX6_remember 35 = .ok (.invokestatic 29, 3) := by decide +kernel
theorem dX6_remember_38 : decode cX6_remember 38 = .ok (.putfield 21, 3) := by decide +kernel
theorem dX6_remember_41 : decode cX6_remember 41 = .ok (.return_, 1) := by decide +kernel
theorem dX11_beginAct_0 : decode cX11_beginAct 0 = .ok (.aload_n 0, 1) := by decide +kernel
theorem dX11_beginAct_1 : decode cX11_beginAct 1 = .ok (.getfield 54, 3) := by decide +kernel
theorem dX11_beginAct_4 : decode cX11_beginAct 4 = .ok (.aload_n 0, 1) := by decide +kernel
theorem dX11_beginAct_5 : decode cX11_beginAct 5 = .ok (.getfield 35, 3) := by decide +kernel
theorem dX11_beginAct_8 : decode cX11_beginAct 8 = .ok (.invokevirtual 309, 3) := by decide +kernel
theorem dX11_beginAct_11 : decode cX11_beginAct 11 = .ok (.aload_n 0, 1) := by decide +kernel
theorem dX11_beginAct_12 : decode cX11_beginAct 12 = .ok (.getfield 70, 3) := by decide +kernel
theorem dX11_beginAct_15 : decode cX11_beginAct 15 = .ok (.invokevirtual 130, 3) := by decide +kernel
theorem dX11_beginAct_18 : decode cX11_beginAct 18 = .ok (.return_, 1) := by decide +kernel
theorem dX9_setStrength_0 : decode cX9_setStrength 0 = .ok (.iload_n 2, 1) := by decide +kernel
theorem dX9_setStrength_1 : decode cX9_setStrength 1 = .ok (.ifCond .lt 37, 3) := by decide +kernel
theorem dX9_setStrength_4 : decode cX9_setStrength 4 = .ok (.iload_n 2, 1) := by decide +kernel
theorem dX9_setStrength_5 : decode cX9_setStrength 5 = .ok (.iconst 4, 1) := by decide +kernel
theorem dX9_setStrength_6 : decode cX9_setStrength 6 = .ok (.if_icmp .ge 32, 3) := by decide +kernel
theorem dX9_setStrength_9 : decode cX9_setStrength 9 = .ok (.aload_n 0, 1) := by decide +kernel
theorem dX9_setStrength_10 : decode cX9_setStrength 10 = .ok (.getfield 21, 3) := by decide +kernel
theorem dX9_setStrength_13 : decode cX9_setStrength 13 = .ok (.iload_n 2, 1) := by decide +kernel
theorem dX9_setStrength_14 : decode cX9_setStrength 14 = .ok (.aload_n 0, 1) := by decide +kernel
theorem dX9_setStrength_15 : decode cX9_setStrength 15 = .ok (.getfield 21, 3) := by decide +kernel
theorem dX9_setStrength_18 : decode cX9_setStrength 18 = .ok (.iload_n 2, 1) := by decide +kernel
theorem dX9_setStrength_19 : decode cX9_setStrength 19 = .ok (.laload, 1) := by decide +kernel
theorem dX9_setStrength_20 : decode cX9_setStrength 20 = .ok (.iload_n 1, 1) := by decide +kernel
theorem dX9_setStrength_21 : decode cX9_setStrength 21 = .ok (.bipush 127, 2) := by decide +kernel
theorem dX9_setStrength_23 : decode cX9_setStrength 23 = .ok (.invokestatic 55, 3) := by decide +kernel
theorem dX9_setStrength_26 : decode cX9_setStrength 26 = .ok (.ldc2_w 59, 3) := by decide +kernel
theorem dX9_setStrength_29 : decode cX9_setStrength 29 = .ok (.lxor, 1) := by decide +kernel
theorem dX9_setStrength_30 : decode cX9_setStrength 30 = .ok (.land, 1) := by decide +kernel
theorem dX9_setStrength_31 : decode cX9_setStrength 31 = .ok (.iload_n 1, 1) := by decide +kernel
theorem dX9_setStrength_32 : decode cX9_setStrength 32 = .ok (.iload_n 3, 1) := by decide +kernel
theorem dX9_setStrength_33 : decode cX9_setStrength 33 = .ok (.invokestatic 55, 3) := by decide +kernel
theorem dX9_setStrength_36 : decode cX9_setStrength 36 = .ok (.lor, 1) := by decide +kernel
theorem dX9_setStrength_37 : decode cX9_setStrength 37 = .ok (.lastore, 1) := by decide +kernel
theorem dX9_setStrength_38 : decode cX9_setStrength 38 = .ok (.return_, 1) := by decide +kernel
theorem dX11_put_0 : decode cX11_put 0 = .ok (.aload_n 0, 1) := by decide +kernel
theorem dX11_put_1 : decode cX11_put 1 = .ok (.iload_n 1, 1) := by decide +kernel
theorem dX11_put_2 : decode cX11_put 2 = .ok (.invokevirtual 179, 3) := by decide +kernel
theorem dX11_put_5 : decode cX11_put 5 = .ok (.ifCond .eq 21, 3) := by decide +kernel
theorem dX11_put_8 : decode cX11_put 8 = .ok (.aload_n 0, 1) := by decide +kernel
theorem dX11_put_9 : decode cX11_put 9 = .ok (.iload_n 2, 1) := by decide +kernel
theorem dX11_put_10 : decode cX11_put 10 = .ok (.invokevirtual 185, 3) := by decide +kernel
theorem dX11_put_13 : decode cX11_put 13 = .ok (.ifCond .eq 13, 3) := by decide +kernel
theorem dX11_put_16 : decode cX11_put 16 = .ok (.iload_n 3, 1) := by decide +kernel
theorem dX11_put_17 : decode cX11_put 17 = .ok (.ifCond .lt 9, 3) := by decide +kernel
theorem dX11_put_20 : decode cX11_put 20 = .ok (.iload_n 3, 1) := by decide +kernel
theorem dX11_put_21 : decode cX11_put 21 = .ok (.bipush 99, 2) := by decide +kernel
theorem dX11_put_23 : decode cX11_put 23 = .ok (.if_icmp .le 9, 3) := by decide +kernel
theorem dX11_put_26 : decode cX11_put 26 = .ok (.aload_n 0, 1) := by decide +kernel
theorem dX11_put_27 : decode cX11_put 27 = .ok (.iconst 2, 1) := by decide +kernel
theorem dX11_put_28 : decode cX11_put 28 = .ok (.invokevirtual 108, 3) := by decide +kernel
theorem dX11_put_31 : decode cX11_put 31 = .ok (.ireturn, 1) := by decide +kernel
theorem dX11_put_32 : decode cX11_put 32 = .ok (.aload_n 0, 1) := by decide +kernel
theorem dX11_put_33 : decode cX11_put 33 = .ok (.getfield 35, 3) := by decide +kernel
theorem dX11_put_36 : decode cX11_put 36 = .ok (.iload_n 1, 1) := by decide +kernel
theorem dX11_put_37 : decode cX11_put 37 = .ok (.iload_n 2, 1) := by decide +kernel
theorem dX11_put_38 : decode cX11_put 38 = .ok (.invokevirtual 175, 3) := by decide +kernel
theorem dX11_put_41 : decode cX11_put 41 = .ok (.iload_n 3, 1) := by decide +kernel
theorem dX11_put_42 : decode cX11_put 42 = .ok (.if_icmp .ne 9, 3) := by decide +kernel
theorem dX11_put_45 : decode cX11_put 45 = .ok (.aload_n 0, 1) := by decide +kernel
theorem dX11_put_46 : decode cX11_put 46 = .ok (.iconst 2, 1) := by decide +kernel
theorem dX11_put_47 : decode cX11_put 47 = .ok (.invokevirtual 108, 3) := by decide +kernel
theorem dX11_put_50 : decode cX11_put 50 = .ok (.ireturn, 1) := by decide +kernel
theorem dX11_put_51 : decode cX11_put 51 = .ok (.aload_n 0, 1) := by decide +kernel
theorem dX11_put_52 : decode cX11_put 52 = .ok (.invokevirtual 284, 3) := by decide +kernel
theorem dX11_put_55 : decode cX11_put 55 = .ok (.aload_n 0, 1) := by decide +kernel
theorem dX11_put_56 : decode cX11_put 56 = .ok (.getfield 35, 3) := by decide +kernel
theorem dX11_put_59 : decode cX11_put 59 = .ok (.iload_n 1, 1) := by decide +kernel
theorem dX11_put_60 : decode cX11_put 60 = .ok (.iload_n 2, 1) := by decide +kernel
theorem dX11_put_61 : decode cX11_put 61 = .ok (.iload_n 3, 1) := by decide +kernel
theorem dX11_put_62 : decode cX11_put 62 = .ok (.invokevirtual 287, 3) := by decide +kernel
theorem dX11_put_65 : decode cX11_put 65 = .ok (.iconst 1, 1) := by decide +kernel
theorem dX11_put_66 : decode cX11_put 66 = .ok (.ireturn, 1) := by decide +kernel
theorem dX11_turn_0 : decode cX11_turn 0 = .ok (.aload_n 0, 1) := by decide +kernel
theorem dX11_turn_1 : decode cX11_turn 1 = .ok (.iload_n 1, 1) := by decide +kernel
theorem dX11_turn_2 : decode cX11_turn 2 = .ok (.invokevirtual 203, 3) := by decide +kernel
theorem dX11_turn_5 : decode cX11_turn 5 = .ok (.ifCond .eq 27, 3) := by decide +kernel
theorem dX11_turn_8 : decode cX11_turn 8 = .ok (.iload_n 2, 1) := by decide +kernel
theorem dX11_turn_9 : decode cX11_turn 9 = .ok (.ifCond .lt 23, 3) := by decide +kernel
theorem dX11_turn_12 : decode cX11_turn 12 = .ok (.iload_n 2, 1) := by decide +kernel
theorem dX11_turn_13 : decode cX11_turn 13 = .ok (.iconst 1, 1) := by decide +kernel
theorem dX11_turn_14 : decode cX11_turn 14 = .ok (.if_icmp .gt 18, 3) := by decide +kernel
theorem dX11_turn_17 : decode cX11_turn 17 = .ok (.aload_n 0, 1) := by decide +kernel
theorem dX11_turn_18 : decode cX11_turn 18 = .ok (.getfield 35, 3) := by decide +kernel
theorem dX11_turn_21 : decode cX11_turn 21 = .ok (.getfield 162, 3) := by decide +kernel
theorem dX11_turn_24 : decode cX11_turn 24 = .ok (.iload_n 1, 1) := by decide +kernel
theorem dX11_turn_25 : decode cX11_turn 25 = .ok (.ishr, 1) := by decide +kernel
theorem dX11_turn_26 : decode cX11_turn 26 = .ok (.iconst 1, 1) := by decide +kernel
theorem dX11_turn_27 : decode cX11_turn 27 = .ok (.iand, 1) := by decide +kernel
theorem dX11_turn_28 : decode cX11_turn 28 = .ok (.iload_n 2, 1) := by decide +kernel
theorem dX11_turn_29 : decode cX11_turn 29 = .ok (.if_icmp .ne 9, 3) := by decide +kernel
theorem dX11_turn_32 : decode cX11_turn 32 = .ok (.aload_n 0, 1) := by decide +kernel
theorem dX11_turn_33 : decode cX11_turn 33 = .ok (.iconst 2, 1) := by decide +kernel
theorem dX11_turn_34 : decode cX11_turn 34 = .ok (.invokevirtual 108, 3) := by decide +kernel
theorem dX11_turn_37 : decode cX11_turn 37 = .ok (.ireturn, 1) := by decide +kernel
theorem dX11_turn_38 : decode cX11_turn 38 = .ok (.aload_n 0, 1) := by decide +kernel
theorem dX11_turn_39 : decode cX11_turn 39 = .ok (.invokevirtual 284, 3) := by decide +kernel
theorem dX11_turn_42 : decode cX11_turn 42 = .ok (.aload_n 0, 1) := by decide +kernel
theorem dX11_turn_43 : decode cX11_turn 43 = .ok (.getfield 35, 3) := by decide +kernel
theorem dX11_turn_46 : decode cX11_turn 46 = .ok (.dup, 1) := by decide +kernel
theorem dX11_turn_47 : decode cX11_turn 47 = .ok (.getfield 162, 3) := by decide +kernel
theorem dX11_turn_50 : decode cX11_turn 50 = .ok (.iconst 1, 1) := by decide +kernel
theorem dX11_turn_51 : decode cX11_turn 51 = .ok (.iload_n 1, 1) := by decide +kernel
theorem dX11_turn_52 : decode cX11_turn 52 = .ok (.ishl, 1) := by decide +kernel
theorem dX11_turn_53 : decode cX11_turn 53 = .ok (.ixor, 1) := by decide +kernel
theorem dX11_turn_54 : decode cX11_turn 54 = .ok (.putfield 162, 3) := by decide +kernel
theorem dX11_turn_57 : decode cX11_turn 57 = .ok (.iconst 1, 1) := by decide +kernel
theorem dX11_turn_58 : decode cX11_turn 58 = .ok (.ireturn, 1) := by decide +kernel
theorem dX11_pull_0 : decode cX11_pull 0 = .ok (.aload_n 0, 1) := by decide +kernel
theorem dX11_pull_1 : decode cX11_pull 1 = .ok (.iload_n 1, 1) := by decide +kernel
theorem dX11_pull_2 : decode cX11_pull 2 = .ok (.invokevirtual 203, 3) := by decide +kernel
theorem dX11_pull_5 : decode cX11_pull 5 = .ok (.ifCond .eq 27, 3) := by decide +kernel
theorem dX11_pull_8 : decode cX11_pull 8 = .ok (.iload_n 2, 1) := by decide +kernel
theorem dX11_pull_9 : decode cX11_pull 9 = .ok (.ifCond .lt 23, 3) := by decide +kernel
theorem dX11_pull_12 : decode cX11_pull 12 = .ok (.iload_n 2, 1) := by decide +kernel
theorem dX11_pull_13 : decode cX11_pull 13 = .ok (.iconst 1, 1) := by decide +kernel
theorem dX11_pull_14 : decode cX11_pull 14 = .ok (.if_icmp .gt 18, 3) := by decide +kernel
theorem dX11_pull_17 : decode cX11_pull 17 = .ok (.aload_n 0, 1) := by decide +kernel
theorem dX11_pull_18 : decode cX11_pull 18 = .ok (.getfield 35, 3) := by decide +kernel
theorem dX11_pull_21 : decode cX11_pull 21 = .ok (.getfield 154, 3) := by decide +kernel
theorem dX11_pull_24 : decode cX11_pull 24 = .ok (.iload_n 1, 1) := by decide +kernel
theorem dX11_pull_25 : decode cX11_pull 25 = .ok (.ishr, 1) := by decide +kernel
theorem dX11_pull_26 : decode cX11_pull 26 = .ok (.iconst 1, 1) := by decide +kernel
theorem dX11_pull_27 : decode cX11_pull 27 = .ok (.iand, 1) := by decide +kernel
theorem dX11_pull_28 : decode cX11_pull 28 = .ok (.iload_n 2, 1) := by decide +kernel
theorem dX11_pull_29 : decode cX11_pull 29 = .ok (.if_icmp .ne 9, 3) := by decide +kernel
theorem dX11_pull_32 : decode cX11_pull 32 = .ok (.aload_n 0, 1) := by decide +kernel
theorem dX11_pull_33 : decode cX11_pull 33 = .ok (.iconst 2, 1) := by decide +kernel
theorem dX11_pull_34 : decode cX11_pull 34 = .ok (.invokevirtual 108, 3) := by decide +kernel
theorem dX11_pull_37 : decode cX11_pull 37 = .ok (.ireturn, 1) := by decide +kernel
theorem dX11_pull_38 : decode cX11_pull 38 = .ok (.aload_n 0, 1) := by decide +kernel
theorem dX11_pull_39 : decode cX11_pull 39 = .ok (.invokevirtual 284, 3) := by decide +kernel
theorem dX11_pull_42 : decode cX11_pull 42 = .ok (.aload_n 0, 1) := by decide +kernel
theorem dX11_pull_43 : decode cX11_pull 43 = .ok (.getfield 35, 3) := by decide +kernel
theorem dX11_pull_46 : decode cX11_pull 46 = .ok (.dup, 1) := by decide +kernel
theorem dX11_pull_47 : decode cX11_pull 47 = .ok (.getfield 154, 3) := by decide +kernel
theorem dX11_pull_50 : decode cX11_pull 50 = .ok (.iconst 1, 1) := by decide +kernel
theorem dX11_pull_51 : decode cX11_pull 51 = .ok (.iload_n 1, 1) := by decide +kernel
theorem dX11_pull_52 : decode cX11_pull 52 = .ok (.ishl, 1) := by decide +kernel
theorem dX11_pull_53 : decode cX11_pull 53 = .ok (.ixor, 1) := by decide +kernel
theorem dX11_pull_54 : decode cX11_pull 54 = .ok (.putfield 154, 3) := by decide +kernel
theorem dX11_pull_57 : decode cX11_pull 57 = .ok (.iconst 1, 1) := by decide +kernel
theorem dX11_pull_58 : decode cX11_pull 58 = .ok (.ireturn, 1) := by decide +kernel
theorem dX11_days_0 : decode cX11_days 0 = .ok (.iload_n 1, 1) := by decide +kernel
theorem dX11_days_1 : decode cX11_days 1 = .ok (.iconst 1, 1) := by decide +kernel
theorem dX11_days_2 : decode cX11_days 2 = .ok (.if_icmp .lt 13, 3) := by decide +kernel
theorem dX11_days_5 : decode cX11_days 5 = .ok (.aload_n 0, 1) := by decide +kernel
theorem dX11_days_6 : decode cX11_days 6 = .ok (.iload_n 1, 1) := by decide +kernel
theorem dX11_days_7 : decode cX11_days 7 = .ok (.bipush 100, 2) := by decide +kernel
theorem dX11_days_9 : decode cX11_days 9 = .ok (.invokevirtual 228, 3) := by decide +kernel
theorem dX11_days_12 : decode cX11_days 12 = .ok (.ifCond .ne 9, 3) := by decide +kernel
theorem dX11_days_15 : decode cX11_days 15 = .ok (.aload_n 0, 1) := by decide +kernel
theorem dX11_days_16 : decode cX11_days 16 = .ok (.iconst 3, 1) := by decide +kernel
theorem dX11_days_17 : decode cX11_days 17 = .ok (.invokevirtual 100, 3) := by decide +kernel
theorem dX11_days_20 : decode cX11_days 20 = .ok (.ireturn, 1) := by decide +kernel
theorem dX11_days_21 : decode cX11_days 21 = .ok (.aload_n 0, 1) := by decide +kernel
theorem dX11_days_22 : decode cX11_days 22 = .ok (.invokevirtual 284, 3) := by decide +kernel
theorem dX11_days_25 : decode cX11_days 25 = .ok (.iconst 0, 1) := by decide +kernel
theorem dX11_days_26 : decode cX11_days 26 = .ok (.istore_n 2, 1) := by decide +kernel
theorem dX11_days_27 : decode cX11_days 27 = .ok (.iconst 0, 1) := by decide +kernel
theorem dX11_days_28 : decode cX11_days 28 = .ok (.istore_n 3, 1) := by decide +kernel
theorem dX11_days_29 : decode cX11_days 29 = .ok (.iload_n 3, 1) := by decide +kernel
theorem dX11_days_30 : decode cX11_days 30 = .ok (.iload_n 1, 1) := by decide +kernel
theorem dX11_days_31 : decode cX11_days 31 = .ok (.if_icmp .ge 23, 3) := by decide +kernel
theorem dX11_days_34 : decode cX11_days 34 = .ok (.iload_n 2, 1) := by decide +kernel
theorem dX11_days_35 : decode cX11_days 35 = .ok (.aload_n 0, 1) := by decide +kernel
theorem dX11_days_36 : decode cX11_days 36 = .ok (.getfield 47, 3) := by decide +kernel
theorem dX11_days_39 : decode cX11_days 39 = .ok (.aload_n 0, 1) := by decide +kernel
theorem dX11_days_40 : decode cX11_days 40 = .ok (.getfield 35, 3) := by decide +kernel
theorem dX11_days_43 : decode cX11_days 43 = .ok (.invokevirtual 243, 3) := by decide +kernel
theorem dX11_days_46 : decode cX11_days 46 = .ok (.iadd, 1) := by decide +kernel
theorem dX11_days_47 : decode cX11_days 47 = .ok (.istore_n 2, 1) := by decide +kernel
theorem dX11_days_48 : decode cX11_days 48 = .ok (.iinc 3 1, 3) := by decide +kernel
theorem dX11_days_51 : decode cX11_days 51 = .ok (.goto (-22), 3) := by decide +kernel
theorem dX11_days_54 : decode cX11_days 54 = .ok (.iload_n 2, 1) := by decide +kernel
theorem dX11_days_55 : decode cX11_days 55 = .ok (.ireturn, 1) := by decide +kernel
theorem dX11_draw_0 : decode cX11_draw 0 = .ok (.ldc2_w 300, 3) := by decide +kernel
theorem dX11_draw_3 : decode cX11_draw 3 = .ok (.aload_n 0, 1) := by decide +kernel
theorem dX11_draw_4 : decode cX11_draw 4 = .ok (.getfield 94, 3) := by decide +kernel
theorem dX11_draw_7 : decode cX11_draw 7 = .ok (.i2l, 1) := by decide +kernel
theorem dX11_draw_8 : decode cX11_draw 8 = .ok (.lmul, 1) := by decide +kernel
theorem dX11_draw_9 : decode cX11_draw 9 = .ok (.ldc2_w 302, 3) := by decide +kernel
theorem dX11_draw_12 : decode cX11_draw 12 = .ok (.ladd, 1) := by decide +kernel
theorem dX11_draw_13 : decode cX11_draw 13 = .ok (.ldc2_w 304, 3) := by decide +kernel
theorem dX11_draw_16 : decode cX11_draw 16 = .ok (.land, 1) := by decide +kernel
theorem dX11_draw_17 : decode cX11_draw 17 = .ok (.lstore_n 2, 1) := by decide +kernel
theorem dX11_draw_18 : decode cX11_draw 18 = .ok (.aload_n 0, 1) := by decide +kernel
theorem dX11_draw_19 : decode cX11_draw 19 = .ok (.lload_n 2, 1) := by decide +kernel
theorem dX11_draw_20 : decode cX11_draw 20 = .ok (.l2i, 1) := by decide +kernel
theorem dX11_draw_21 : decode cX11_draw 21 = .ok (.putfield 94, 3) := by decide +kernel
theorem dX11_draw_24 : decode cX11_draw 24 = .ok (.iload_n 1, 1) := by decide +kernel
theorem dX11_draw_25 : decode cX11_draw 25 = .ok (.ifCond .le 15, 3) := by decide +kernel
theorem dX11_draw_28 : decode cX11_draw 28 = .ok (.aload_n 0, 1) := by decide +kernel
theorem dX11_draw_29 : decode cX11_draw 29 = .ok (.getfield 94, 3) := by decide +kernel
theorem dX11_draw_32 : decode cX11_draw 32 = .ok (.bipush 64, 2) := by decide +kernel
theorem dX11_draw_34 : decode cX11_draw 34 = .ok (.idiv, 1) := by decide +kernel
theorem dX11_draw_35 : decode cX11_draw 35 = .ok (.iload_n 1, 1) := by decide +kernel
theorem dX11_draw_36 : decode cX11_draw 36 = .ok (.irem, 1) := by decide +kernel
theorem dX11_draw_37 : decode cX11_draw 37 = .ok (.goto 4, 3) := by decide +kernel
theorem dX11_draw_40 : decode cX11_draw 40 = .ok (.iconst 0, 1) := by decide +kernel
theorem dX11_draw_41 : decode cX11_draw 41 = .ok (.ireturn, 1) := by decide +kernel
theorem dX11_slipsNow_0 : decode cX11_slipsNow 0 = .ok (.aload_n 0, 1) := by decide +kernel
theorem dX11_slipsNow_1 : decode cX11_slipsNow 1 = .ok (.getfield 47, 3) := by decide +kernel
theorem dX11_slipsNow_4 : decode cX11_slipsNow 4 = .ok (.getfield 115, 3) := by decide +kernel
theorem dX11_slipsNow_7 : decode cX11_slipsNow 7 = .ok (.getfield 148, 3) := by decide +kernel
theorem dX11_slipsNow_10 : decode cX11_slipsNow 10 = .ok (.istore_n 1, 1) := by decide +kernel
theorem dX11_slipsNow_11 : decode cX11_slipsNow 11 = .ok (.aload_n 0, 1) := by decide +kernel
theorem dX11_slipsNow_12 : decode cX11_slipsNow 12 = .ok (.bipush 100, 2) := by decide +kernel
theorem dX11_slipsNow_14 : decode cX11_slipsNow 14 = .ok (.invokevirtual 294, 3) := by decide +kernel
theorem dX11_slipsNow_17 : decode cX11_slipsNow 17 = .ok (.aload_n 0, 1) := by decide +kernel
theorem dX11_slipsNow_18 : decode cX11_slipsNow 18 = .ok (.getfield 47, 3) := by decide +kernel
theorem dX11_slipsNow_21 : decode cX11_slipsNow 21 = .ok (.getfield 115, 3) := by decide +kernel
theorem dX11_slipsNow_24 : decode cX11_slipsNow 24 = .ok (.getfield 297, 3) := by decide +kernel
theorem dX11_slipsNow_27 : decode cX11_slipsNow 27 = .ok (.if_icmp .ge 7, 3) := by decide +kernel
theorem dX11_slipsNow_30 : decode cX11_slipsNow 30 = .ok (.iload_n 1, 1) := by decide +kernel
theorem dX11_slipsNow_31 : decode cX11_slipsNow 31 = .ok (.ifCond .gt 5, 3) := by decide +kernel
theorem dX11_slipsNow_34 : decode cX11_slipsNow 34 = .ok (.iconst 0, 1) := by decide +kernel
theorem dX11_slipsNow_35 : decode cX11_slipsNow 35 = .ok (.ireturn, 1) := by decide +kernel
theorem dX11_slipsNow_36 : decode cX11_slipsNow 36 = .ok (.aload_n 0, 1) := by decide +kernel
theorem dX11_slipsNow_37 : decode cX11_slipsNow 37 = .ok (.getfield 35, 3) := by decide +kernel
theorem dX11_slipsNow_40 : decode cX11_slipsNow 40 = .ok (.dup, 1) := by decide +kernel
theorem dX11_slipsNow_41 : decode cX11_slipsNow 41 = .ok (.getfield 162, 3) := by decide +kernel
theorem dX11_slipsNow_44 : decode cX11_slipsNow 44 = .ok (.iconst 1, 1) := by decide +kernel
theorem dX11_slipsNow_45 : decode cX11_slipsNow 45 = .ok (.aload_n 0, 1) := by decide +kernel
theorem dX11_slipsNow_46 : decode cX11_slipsNow 46 = .ok (.iload_n 1, 1) := by decide +kernel
theorem dX11_slipsNow_47 : decode cX11_slipsNow 47 = .ok (.invokevirtual 294, 3) := by decide +kernel
theorem dX11_slipsNow_50 : decode cX11_slipsNow 50 = .ok (.ishl, 1) := by decide +kernel
theorem dX11_slipsNow_51 : decode cX11_slipsNow 51 = .ok (.ixor, 1) := by decide +kernel
theorem dX11_slipsNow_52 : decode cX11_slipsNow 52 = .ok (.putfield 162, 3) := by decide +kernel
theorem dX11_slipsNow_55 : decode cX11_slipsNow 55 = .ok (.iconst 1, 1) := by decide +kernel
theorem dX11_slipsNow_56 : decode cX11_slipsNow 56 = .ok (.ireturn, 1) := by decide +kernel
theorem dX11_chance_0 : decode cX11_chance 0 = .ok (.iload_n 1, 1) := by decide +kernel
theorem dX11_chance_1 : decode cX11_chance 1 = .ok (.iconst 1, 1) := by decide +kernel
theorem dX11_chance_2 : decode cX11_chance 2 = .ok (.if_icmp .lt 13, 3) := by decide +kernel
theorem dX11_chance_5 : decode cX11_chance 5 = .ok (.aload_n 0, 1) := by decide +kernel
theorem dX11_chance_6 : decode cX11_chance 6 = .ok (.iload_n 1, 1) := by decide +kernel
theorem dX11_chance_7 : decode cX11_chance 7 = .ok (.bipush 100, 2) := by decide +kernel
theorem dX11_chance_9 : decode cX11_chance 9 = .ok (.invokevirtual 228, 3) := by decide +kernel
theorem dX11_chance_12 : decode cX11_chance 12 = .ok (.ifCond .ne 9, 3) := by decide +kernel
theorem dX11_chance_15 : decode cX11_chance 15 = .ok (.aload_n 0, 1) := by decide +kernel
theorem dX11_chance_16 : decode cX11_chance 16 = .ok (.iconst 3, 1) := by decide +kernel
theorem dX11_chance_17 : decode cX11_chance 17 = .ok (.invokevirtual 100, 3) := by decide +kernel
theorem dX11_chance_20 : decode cX11_chance 20 = .ok (.ireturn, 1) := by decide +kernel
theorem dX11_chance_21 : decode cX11_chance 21 = .ok (.aload_n 0, 1) := by decide +kernel
theorem dX11_chance_22 : decode cX11_chance 22 = .ok (.invokevirtual 284, 3) := by decide +kernel
theorem dX11_chance_25 : decode cX11_chance 25 = .ok (.iconst 0, 1) := by decide +kernel
theorem dX11_chance_26 : decode cX11_chance 26 = .ok (.istore_n 2, 1) := by decide +kernel
theorem dX11_chance_27 : decode cX11_chance 27 = .ok (.iconst 0, 1) := by decide +kernel
theorem dX11_chance_28 : decode cX11_chance 28 = .ok (.istore_n 3, 1) := by decide +kernel
theorem dX11_chance_29 : decode cX11_chance 29 = .ok (.iload_n 3, 1) := by decide +kernel
theorem dX11_chance_30 : decode cX11_chance 30 = .ok (.iload_n 1, 1) := by decide +kernel
theorem dX11_chance_31 : decode cX11_chance 31 = .ok (.if_icmp .ge 31, 3) := by decide +kernel
theorem dX11_chance_34 : decode cX11_chance 34 = .ok (.aload_n 0, 1) := by decide +kernel
theorem dX11_chance_35 : decode cX11_chance 35 = .ok (.invokevirtual 291, 3) := by decide +kernel
theorem dX11_chance_38 : decode cX11_chance 38 = .ok (.ifCond .eq 6, 3) := by decide +kernel
theorem dX11_chance_41 : decode cX11_chance 41 = .ok (.iinc 2 1, 3) := by decide +kernel
theorem dX11_chance_44 : decode cX11_chance 44 = .ok (.aload_n 0, 1) := by decide +kernel
theorem dX11_chance_45 : decode cX11_chance 45 = .ok (.getfield 47, 3) := by decide +kernel
theorem dX11_chance_48 : decode cX11_chance 48 = .ok (.aload_n 0, 1) := by decide +kernel
theorem dX11_chance_49 : decode cX11_chance 49 = .ok (.getfield 35, 3) := by decide +kernel
theorem dX11_chance_52 : decode cX11_chance 52 = .ok (.invokevirtual 243, 3) := by decide +kernel
theorem dX11_chance_55 : decode cX11_chance 55 = .ok (.pop, 1) := by decide +kernel
theorem dX11_chance_56 : decode cX11_chance 56 = .ok (.iinc 3 1, 3) := by decide +kernel
theorem dX11_chance_59 : decode cX11_chance 59 = .ok (.goto (-30), 3) := by decide +kernel
theorem dX11_chance_62 : decode cX11_chance 62 = .ok (.iload_n 2, 1) := by decide +kernel
theorem dX11_chance_63 : decode cX11_chance 63 = .ok (.ireturn, 1) := by decide +kernel
theorem dX6_takeBack_0 : decode cX6_takeBack 0 = .ok (.aload_n 0, 1) := by decide +kernel
theorem dX6_takeBack_1 : decode cX6_takeBack 1 = .ok (.getfield 21, 3) := by decide +kernel
theorem dX6_takeBack_4 : decode cX6_takeBack 4 = .ok (.ifCond .ne 5, 3) := by decide +kernel
theorem dX6_takeBack_7 : decode cX6_takeBack 7 = .ok (.iconst 0, 1) := by decide +kernel
theorem dX6_takeBack_8 : decode cX6_takeBack 8 = .ok (.ireturn, 1) := by decide +kernel
theorem dX6_takeBack_9 : decode cX6_takeBack 9 = .ok (.aload_n 0, 1) := by decide +kernel
theorem dX6_takeBack_10 : decode cX6_takeBack 10 = .ok (.dup, 1) := by decide +kernel
theorem dX6_takeBack_11 : decode cX6_takeBack 11 = .ok (.getfield 21, 3) := by decide +kernel
theorem dX6_takeBack_14 : decode cX6_takeBack 14 = .ok (.iconst 1, 1) := by decide +kernel
theorem dX6_takeBack_15 : decode cX6_takeBack 15 = .ok (.isub, 1) := by decide +kernel
theorem dX6_takeBack_16 : decode cX6_takeBack 16 = .ok (.putfield 21, 3) := by decide +kernel
theorem dX6_takeBack_19 : decode cX6_takeBack 19 = .ok (.aload_n 0, 1) := by decide +kernel
theorem dX6_takeBack_20 : decode cX6_takeBack 20 = .ok (.aload_n 0, 1) := by decide +kernel
theorem dX6_takeBack_21 : decode cX6_takeBack 21 = .ok (.getfield 17, 3) := by decide +kernel
theorem dX6_takeBack_24 : decode cX6_takeBack 24 = .ok (.bipush 20, 2) := by decide +kernel
theorem dX6_takeBack_26 : decode cX6_takeBack 26 = .ok (.iadd, 1) := by decide +kernel
theorem dX6_takeBack_27 : decode cX6_takeBack 27 = .ok (.iconst 1, 1) := by decide +kernel
theorem dX6_takeBack_28 : decode cX6_takeBack 28 = .ok (.isub, 1) := by decide +kernel
theorem dX6_takeBack_29 : decode cX6_takeBack 29 = .ok (.bipush 20, 2) := by decide +kernel
theorem dX6_takeBack_31 : decode cX6_takeBack 31 = .ok (.irem, 1) := by decide +kernel
theorem dX6_takeBack_32 : decode cX6_takeBack 32 = .ok (.putfield 17, 3) := by decide +kernel
theorem dX6_takeBack_35 : decode cX6_takeBack 35 = .ok (.aload_n 1, 1) := by decide +kernel
theorem dX6_takeBack_36 : decode cX6_takeBack 36 = .ok (.aload_n 0, 1) := by decide +kernel
theorem dX6_takeBack_37 : decode cX6_takeBack 37 = .ok (.getfield 11, 3) := by decide +kernel
theorem dX6_takeBack_40 : decode cX6_takeBack 40 = .ok (.aload_n 0, 1) := by decide +kernel
theorem dX6_takeBack_41 : decode cX6_takeBack 41 = .ok (.getfield 17, 3) := by decide +kernel
theorem dX6_takeBack_44 : decode cX6_takeBack 44 = .ok (.aaload, 1) := by decide +kernel
theorem dX6_takeBack_45 : decode cX6_takeBack 45 = .ok (.invokevirtual 25, 3) := by decide +kernel
theorem dX6_takeBack_48 : decode cX6_takeBack 48 = .ok (.iconst 1, 1) := by decide +kernel
theorem dX6_takeBack_49 : decode cX6_takeBack 49 = .ok (.ireturn, 1) := by decide +kernel
theorem dX11_undo_0 : decode cX11_undo 0 = .ok (.aload_n 0, 1) := by decide +kernel
theorem dX11_undo_1 : decode cX11_undo 1 = .ok (.getfield 54, 3) := by decide +kernel
theorem dX11_undo_4 : decode cX11_undo 4 = .ok (.aload_n 0, 1) := by decide +kernel
theorem dX11_undo_5 : decode cX11_undo 5 = .ok (.getfield 35, 3) := by decide +kernel
theorem dX11_undo_8 : decode cX11_undo 8 = .ok (.invokevirtual 306, 3) := by decide +kernel
theorem dX11_undo_11 : decode cX11_undo 11 = .ok (.ifCond .ne 9, 3) := by decide +kernel
theorem dX11_undo_14 : decode cX11_undo 14 = .ok (.aload_n 0, 1) := by decide +kernel
theorem dX11_undo_15 : decode cX11_undo 15 = .ok (.iconst 4, 1) := by decide +kernel
theorem dX11_undo_16 : decode cX11_undo 16 = .ok (.invokevirtual 108, 3) := by decide +kernel
theorem dX11_undo_19 : decode cX11_undo 19 = .ok (.ireturn, 1) := by decide +kernel
theorem dX11_undo_20 : decode cX11_undo 20 = .ok (.aload_n 0, 1) := by decide +kernel
theorem dX11_undo_21 : decode cX11_undo 21 = .ok (.getfield 70, 3) := by decide +kernel
theorem dX11_undo_24 : decode cX11_undo 24 = .ok (.invokevirtual 130, 3) := by decide +kernel
theorem dX11_undo_27 : decode cX11_undo 27 = .ok (.iconst 1, 1) := by decide +kernel
theorem dX11_undo_28 : decode cX11_undo 28 = .ok (.ireturn, 1) := by decide +kernel
theorem dX11_seed_0 : decode cX11_seed 0 = .ok (.iload_n 1, 1) := by decide +kernel
theorem dX11_seed_1 : decode cX11_seed 1 = .ok (.ifCond .ge 9, 3) := by decide +kernel
theorem dX11_seed_4 : decode cX11_seed 4 = .ok (.aload_n 0, 1) := by decide +kernel
theorem dX11_seed_5 : decode cX11_seed 5 = .ok (.iconst 5, 1) := by decide +kernel
theorem dX11_seed_6 : decode cX11_seed 6 = .ok (.invokevirtual 108, 3) := by decide +kernel
theorem dX11_seed_9 : decode cX11_seed 9 = .ok (.ireturn, 1) := by decide +kernel
theorem dX11_seed_10 : decode cX11_seed 10 = .ok (.aload_n 0, 1) := by decide +kernel
theorem dX11_seed_11 : decode cX11_seed 11 = .ok (.iload_n 1, 1) := by decide +kernel
theorem dX11_seed_12 : decode cX11_seed 12 = .ok (.putfield 94, 3) := by decide +kernel
theorem dX11_seed_15 : decode cX11_seed 15 = .ok (.iconst 1, 1) := by decide +kernel
theorem dX11_seed_16 : decode cX11_seed 16 = .ok (.ireturn, 1) := by decide +kernel
theorem dX0_valueOf_0 : decode cX0_valueOf 0 = .ok (.aload_n 0, 1) := by decide +kernel
theorem dX0_valueOf_1 : decode cX0_valueOf 1 = .ok (.getfield 12, 3) := by decide +kernel
theorem dX0_valueOf_4 : decode cX0_valueOf 4 = .ok (.bipush (-8), 2) := by decide +kernel
theorem dX0_valueOf_6 : decode cX0_valueOf 6 = .ok (.iload_n 1, 1) := by decide +kernel
theorem dX0_valueOf_7 : decode cX0_valueOf 7 = .ok (.invokevirtual 104, 3) := by decide +kernel
theorem dX0_valueOf_10 : decode cX0_valueOf 10 = .ok (.aload_n 0, 1) := by decide +kernel
theorem dX0_valueOf_11 : decode cX0_valueOf 11 = .ok (.getfield 12, 3) := by decide +kernel
theorem dX0_valueOf_14 : decode cX0_valueOf 14 = .ok (.iconst (-1), 1) := by decide +kernel
theorem dX0_valueOf_15 : decode cX0_valueOf 15 = .ok (.aload_n 0, 1) := by decide +kernel
theorem dX0_valueOf_16 : decode cX0_valueOf 16 = .ok (.getfield 22, 3) := by decide +kernel
theorem dX0_valueOf_19 : decode cX0_valueOf 19 = .ok (.getfield 81, 3) := by decide +kernel
theorem dX0_valueOf_22 : decode cX0_valueOf 22 = .ok (.getfield 108, 3) := by decide +kernel
theorem dX0_valueOf_25 : decode cX0_valueOf 25 = .ok (.iload_n 1, 1) := by decide +kernel
theorem dX0_valueOf_26 : decode cX0_valueOf 26 = .ok (.iaload, 1) := by decide +kernel
theorem dX0_valueOf_27 : decode cX0_valueOf 27 = .ok (.invokevirtual 104, 3) := by decide +kernel
theorem dX0_valueOf_30 : decode cX0_valueOf 30 = .ok (.aload_n 0, 1) := by decide +kernel
theorem dX0_valueOf_31 : decode cX0_valueOf 31 = .ok (.getfield 12, 3) := by decide +kernel
theorem dX0_valueOf_34 : decode cX0_valueOf 34 = .ok (.bipush (-2), 2) := by decide +kernel
theorem dX0_valueOf_36 : decode cX0_valueOf 36 = .ok (.aload_n 0, 1) := by decide +kernel
theorem dX0_valueOf_37 : decode cX0_valueOf 37 = .ok (.getfield 22, 3) := by decide +kernel
theorem dX0_valueOf_40 : decode cX0_valueOf 40 = .ok (.getfield 81, 3) := by decide +kernel
theorem dX0_valueOf_43 : decode cX0_valueOf 43 = .ok (.getfield 112, 3) := by decide +kernel
theorem dX0_valueOf_46 : decode cX0_valueOf 46 = .ok (.iload_n 1, 1) := by decide +kernel
theorem dX0_valueOf_47 : decode cX0_valueOf 47 = .ok (.iaload, 1) := by decide +kernel
theorem dX0_valueOf_48 : decode cX0_valueOf 48 = .ok (.invokevirtual 104, 3) := by decide +kernel
theorem dX0_valueOf_51 : decode cX0_valueOf 51 = .ok (.aload_n 0, 1) := by decide +kernel
theorem dX0_valueOf_52 : decode cX0_valueOf 52 = .ok (.getfield 12, 3) := by decide +kernel
theorem dX0_valueOf_55 : decode cX0_valueOf 55 = .ok (.bipush (-3), 2) := by decide +kernel
theorem dX0_valueOf_57 : decode cX0_valueOf 57 = .ok (.aload_n 0, 1) := by decide +kernel
theorem dX0_valueOf_58 : decode cX0_valueOf 58 = .ok (.getfield 26, 3) := by decide +kernel
theorem dX0_valueOf_61 : decode cX0_valueOf 61 = .ok (.getfield 115, 3) := by decide +kernel
theorem dX0_valueOf_64 : decode cX0_valueOf 64 = .ok (.invokevirtual 104, 3) := by decide +kernel
theorem dX0_valueOf_67 : decode cX0_valueOf 67 = .ok (.iconst 0, 1) := by decide +kernel
theorem dX0_valueOf_68 : decode cX0_valueOf 68 = .ok (.istore_n 2, 1) := by decide +kernel
theorem dX0_valueOf_69 : decode cX0_valueOf 69 = .ok (.iload_n 2, 1) := by decide +kernel
theorem dX0_valueOf_70 : decode cX0_valueOf 70 = .ok (.iconst 4, 1) := by decide +kernel
theorem dX0_valueOf_71 : decode cX0_valueOf 71 = .ok (.if_icmp .ge 27, 3) := by decide +kernel
theorem dX0_valueOf_74 : decode cX0_valueOf 74 = .ok (.aload_n 0, 1) := by decide +kernel
theorem dX0_valueOf_75 : decode cX0_valueOf 75 = .ok (.getfield 12, 3) := by decide +kernel
theorem dX0_valueOf_78 : decode cX0_valueOf 78 = .ok (.getfield 120, 3) := by decide +kernel
theorem dX0_valueOf_81 : decode cX0_valueOf 81 = .ok (.iload_n 2, 1) := by decide +kernel
theorem dX0_valueOf_82 : decode cX0_valueOf 82 = .ok (.aload_n 0, 1) := by decide +kernel
theorem dX0_valueOf_83 : decode cX0_valueOf 83 = .ok (.getfield 26, 3) := by decide +kernel
theorem dX0_valueOf_86 : decode cX0_valueOf 86 = .ok (.iload_n 1, 1) := by decide +kernel
theorem dX0_valueOf_87 : decode cX0_valueOf 87 = .ok (.iload_n 2, 1) := by decide +kernel
theorem dX0_valueOf_88 : decode cX0_valueOf 88 = .ok (.invokevirtual 123, 3) := by decide +kernel
theorem dX0_valueOf_91 : decode cX0_valueOf 91 = .ok (.iastore, 1) := by decide +kernel
theorem dX0_valueOf_92 : decode cX0_valueOf 92 = .ok (.iinc 2 1, 3) := by decide +kernel
theorem dX0_valueOf_95 : decode cX0_valueOf 95 = .ok (.goto (-26), 3) := by decide +kernel
theorem dX0_valueOf_98 : decode cX0_valueOf 98 = .ok (.aload_n 0, 1) := by decide +kernel
theorem dX0_valueOf_99 : decode cX0_valueOf 99 = .ok (.getfield 30, 3) := by decide +kernel
theorem dX0_valueOf_102 : decode cX0_valueOf 102 = .ok (.iload_n 1, 1) := by decide +kernel
theorem dX0_valueOf_103 : decode cX0_valueOf 103 = .ok (.invokevirtual 127, 3) := by decide +kernel
theorem dX0_valueOf_106 : decode cX0_valueOf 106 = .ok (.aload_n 0, 1) := by decide +kernel
theorem dX0_valueOf_107 : decode cX0_valueOf 107 = .ok (.getfield 30, 3) := by decide +kernel
theorem dX0_valueOf_110 : decode cX0_valueOf 110 = .ok (.getfield 133, 3) := by decide +kernel
theorem dX0_valueOf_113 : decode cX0_valueOf 113 = .ok (.iconst 0, 1) := by decide +kernel
theorem dX0_valueOf_114 : decode cX0_valueOf 114 = .ok (.aload_n 0, 1) := by decide +kernel
theorem dX0_valueOf_115 : decode cX0_valueOf 115 = .ok (.getfield 12, 3) := by decide +kernel
theorem dX0_valueOf_118 : decode cX0_valueOf 118 = .ok (.getfield 136, 3) := by decide +kernel
theorem dX0_valueOf_121 : decode cX0_valueOf 121 = .ok (.iconst 0, 1) := by decide +kernel
theorem dX0_valueOf_122 : decode cX0_valueOf 122 = .ok (.bipush 8, 2) := by decide +kernel
theorem dX0_valueOf_124 : decode cX0_valueOf 124 = .ok (.invokestatic 137, 3) := by decide +kernel
theorem dX0_valueOf_127 : decode cX0_valueOf 127 = .ok (.aload_n 0, 1) := by decide +kernel
theorem dX0_valueOf_128 : decode cX0_valueOf 128 = .ok (.getfield 12, 3) := by decide +kernel
theorem dX0_valueOf_131 : decode cX0_valueOf 131 = .ok (.iconst 0, 1) := by decide +kernel
theorem dX0_valueOf_132 : decode cX0_valueOf 132 = .ok (.aload_n 0, 1) := by decide +kernel
theorem dX0_valueOf_133 : decode cX0_valueOf 133 = .ok (.getfield 12, 3) := by decide +kernel
theorem dX0_valueOf_136 : decode cX0_valueOf 136 = .ok (.getfield 61, 3) := by decide +kernel
theorem dX0_valueOf_139 : decode cX0_valueOf 139 = .ok (.invokevirtual 143, 3) := by decide +kernel
theorem dX0_valueOf_142 : decode cX0_valueOf 142 = .ok (.i2l, 1) := by decide +kernel
theorem dX0_valueOf_143 : decode cX0_valueOf 143 = .ok (.lreturn, 1) := by decide +kernel
theorem dX0_answerOfAll_0 : decode cX0_answerOfAll 0 = .ok (.iload_n 1, 1) := by decide +kernel
theorem dX0_answerOfAll_1 : decode cX0_answerOfAll 1 = .ok (.bipush 26, 2) := by decide +kernel
theorem dX0_answerOfAll_3 : decode cX0_answerOfAll 3 = .ok (.if_icmp .eq 9, 3) := by decide +kernel
theorem dX0_answerOfAll_6 : decode cX0_answerOfAll 6 = .ok (.iload_n 1, 1) := by decide +kernel
theorem dX0_answerOfAll_7 : decode cX0_answerOfAll 7 = .ok (.bipush 27, 2) := by decide +kernel
theorem dX0_answerOfAll_9 : decode cX0_answerOfAll 9 = .ok (.if_icmp .ne 9, 3) := by decide +kernel
theorem dX0_answerOfAll_12 : decode cX0_answerOfAll 12 = .ok (.ldc2_w 79, 3) := by decide +kernel
theorem dX0_answerOfAll_15 : decode cX0_answerOfAll 15 = .ok (.goto 4, 3) := by decide +kernel
theorem dX0_answerOfAll_18 : decode cX0_answerOfAll 18 = .ok (.lconst 0, 1) := by decide +kernel
theorem dX0_answerOfAll_19 : decode cX0_answerOfAll 19 = .ok (.lstore_n 2, 1) := by decide +kernel
theorem dX0_answerOfAll_20 : decode cX0_answerOfAll 20 = .ok (.iconst 0, 1) := by decide +kernel
theorem dX0_answerOfAll_21 : decode cX0_answerOfAll 21 = .ok (.istore 4, 2) := by decide +kernel
theorem dX0_answerOfAll_23 : decode cX0_answerOfAll 23 = .ok (.iload 4, 2) := by decide +kernel
theorem dX0_answerOfAll_25 : decode cX0_answerOfAll 25 = .ok (.aload_n 0, 1) := by decide +kernel
theorem dX0_answerOfAll_26 : decode cX0_answerOfAll 26 = .ok (.getfield 22, 3) := by decide +kernel
theorem dX0_answerOfAll_29 : decode cX0_answerOfAll 29 = .ok (.getfield 81, 3) := by decide +kernel
theorem dX0_answerOfAll_32 : decode cX0_answerOfAll 32 = .ok (.getfield 87, 3) := by decide +kernel
theorem dX0_answerOfAll_35 : decode cX0_answerOfAll 35 = .ok (.if_icmp .ge 123, 3) := by decide +kernel
theorem dX0_answerOfAll_38 : decode cX0_answerOfAll 38 = .ok (.aload_n 0, 1) := by decide +kernel
theorem dX0_answerOfAll_39 : decode cX0_answerOfAll 39 = .ok (.iload 4, 2) := by decide +kernel
theorem dX0_answerOfAll_41 : decode cX0_answerOfAll 41 = .ok (.invokevirtual 92, 3) := by decide +kernel
theorem dX0_answerOfAll_44 : decode cX0_answerOfAll 44 = .ok (.lstore 5, 2) := by decide +kernel
theorem dX0_answerOfAll_46 : decode cX0_answerOfAll 46 = .ok (.iload_n 1, 1) := by decide +kernel
theorem dX0_answerOfAll_47 : decode cX0_answerOfAll 47 = .ok (.bipush 26, 2) := by decide +kernel
theorem dX0_answerOfAll_49 : decode cX0_answerOfAll 49 = .ok (.if_icmp .ne 14, 3) := by decide +kernel
theorem dX0_answerOfAll_52 : decode cX0_answerOfAll 52 = .ok (.lload 5, 2) := by decide +kernel
theorem dX0_answerOfAll_54 : decode cX0_answerOfAll 54 = .ok (.lconst 0, 1) := by decide +kernel
theorem dX0_answerOfAll_55 : decode cX0_answerOfAll 55 = .ok (.lcmp, 1) := by decide +kernel
theorem dX0_answerOfAll_56 : decode cX0_answerOfAll 56 = .ok (.ifCond .eq 7, 3) := by decide +kernel
theorem dX0_answerOfAll_59 : decode cX0_answerOfAll 59 = .ok (.iload 4, 2) := by decide +kernel
theorem dX0_answerOfAll_61 : decode cX0_answerOfAll 61 = .ok (.i2l, 1) := by decide +kernel
theorem dX0_answerOfAll_62 : decode cX0_answerOfAll 62 = .ok (.lreturn, 1) := by decide +kernel
theorem dX0_answerOfAll_63 : decode cX0_answerOfAll 63 = .ok (.iload_n 1, 1) := by decide +kernel
theorem dX0_answerOfAll_64 : decode cX0_answerOfAll 64 = .ok (.bipush 27, 2) := by decide +kernel
theorem dX0_answerOfAll_66 : decode cX0_answerOfAll 66 = .ok (.if_icmp .ne 17, 3) := by decide +kernel
theorem dX0_answerOfAll_69 : decode cX0_answerOfAll 69 = .ok (.lload 5, 2) := by decide +kernel
theorem dX0_answerOfAll_71 : decode cX0_answerOfAll 71 = .ok (.lconst 0, 1) := by decide +kernel
theorem dX0_answerOfAll_72 : decode cX0_answerOfAll 72 = .ok (.lcmp, 1) := by decide +kernel
theorem dX0_answerOfAll_73 : decode cX0_answerOfAll 73 = .ok (.ifCond .eq 10, 3) := by decide +kernel
theorem dX0_answerOfAll_76 : decode cX0_answerOfAll 76 = .ok (.iload 4, 2) := by decide +kernel
theorem dX0_answerOfAll_78 : decode cX0_answerOfAll 78 = .ok (.i2l, 1) := by decide +kernel
theorem dX0_answerOfAll_79 : decode cX0_answerOfAll 79 = .ok (.lstore_n 2, 1) := by decide +kernel
theorem dX0_answerOfAll_80 : decode cX0_answerOfAll 80 = .ok (.goto 72, 3) := by decide +kernel
theorem dX0_answerOfAll_83 : decode cX0_answerOfAll 83 = .ok (.iload_n 1, 1) := by decide +kernel
theorem dX0_answerOfAll_84 : decode cX0_answerOfAll 84 = .ok (.bipush 28, 2) := by decide +kernel
theorem dX0_answerOfAll_86 : decode cX0_answerOfAll 86 = .ok (.if_icmp .eq 9, 3) := by decide +kernel
theorem dX0_answerOfAll_89 : decode cX0_answerOfAll 89 = .ok (.iload_n 1, 1) := by decide +kernel
theorem dX0_answerOfAll_90 : decode cX0_answerOfAll 90 = .ok (.bipush 29, 2) := by decide +kernel
theorem dX0_answerOfAll_92 : decode cX0_answerOfAll 92 = .ok (.if_icmp .ne 11, 3) := by decide +kernel
theorem dX0_answerOfAll_95 : decode cX0_answerOfAll 95 = .ok (.lload_n 2, 1) := by decide +kernel
theorem dX0_answerOfAll_96 : decode cX0_answerOfAll 96 = .ok (.lload 5, 2) := by decide +kernel
theorem dX0_answerOfAll_98 : decode cX0_answerOfAll 98 = .ok (.ladd, 1) := by decide +kernel
theorem dX0_answerOfAll_99 : decode cX0_answerOfAll 99 = .ok (.lstore_n 2, 1) := by decide +kernel
theorem dX0_answerOfAll_100 : decode cX0_answerOfAll 100 = .ok (.goto 52, 3) := by decide +kernel
theorem dX0_answerOfAll_103 : decode cX0_answerOfAll 103 = .ok (.iload_n 1, 1) := by decide +kernel
theorem dX0_answerOfAll_104 : decode cX0_answerOfAll 104 = .ok (.bipush 30, 2) := by decide +kernel
theorem dX0_answerOfAll_106 : decode cX0_answerOfAll 106 = .ok (.if_icmp .ne 23, 3) := by decide +kernel
theorem dX0_answerOfAll_109 : decode cX0_answerOfAll 109 = .ok (.iload 4, 2) := by decide +kernel
theorem dX0_answerOfAll_111 : decode cX0_answerOfAll 111 = .ok (.ifCond .ne 8, 3) := by decide +kernel
theorem dX0_answerOfAll_114 : decode cX0_answerOfAll 114 = .ok (.lload 5, 2) := by decide +kernel
theorem dX0_answerOfAll_116 : decode cX0_answerOfAll 116 = .ok (.goto 9, 3) := by decide +kernel
theorem dX0_answerOfAll_119 : decode cX0_answerOfAll 119 = .ok (.lload_n 2, 1) := by decide +kernel
theorem dX0_answerOfAll_120 : decode cX0_answerOfAll 120 = .ok (.lload 5, 2) := by decide +kernel
theorem dX0_answerOfAll_122 : decode cX0_answerOfAll 122 = .ok (.invokestatic 95, 3) := by decide +kernel
theorem dX0_answerOfAll_125 : decode cX0_answerOfAll 125 = .ok (.lstore_n 2, 1) := by decide +kernel
theorem dX0_answerOfAll_126 : decode cX0_answerOfAll 126 = .ok (.goto 26, 3) := by decide +kernel
theorem dX0_answerOfAll_129 : decode cX0_answerOfAll 129 = .ok (.iload_n 1, 1) := by decide +kernel
theorem dX0_answerOfAll_130 : decode cX0_answerOfAll 130 = .ok (.bipush 31, 2) := by decide +kernel
theorem dX0_answerOfAll_132 : decode cX0_answerOfAll 132 = .ok (.if_icmp .ne 20, 3) := by decide +kernel
theorem dX0_answerOfAll_135 : decode cX0_answerOfAll 135 = .ok (.iload 4, 2) := by decide +kernel
theorem dX0_answerOfAll_137 : decode cX0_answerOfAll 137 = .ok (.ifCond .ne 8, 3) := by decide +kernel
theorem dX0_answerOfAll_140 : decode cX0_answerOfAll 140 = .ok (.lload 5, 2) := by decide +kernel
theorem dX0_answerOfAll_142 : decode cX0_answerOfAll 142 = .ok (.goto 9, 3) := by decide +kernel
theorem dX0_answerOfAll_145 : decode cX0_answerOfAll 145 = .ok (.lload_n 2, 1) := by decide +kernel
theorem dX0_answerOfAll_146 : decode cX0_answerOfAll 146 = .ok (.lload 5, 2) := by decide +kernel
theorem dX0_answerOfAll_148 : decode cX0_answerOfAll 148 = .ok (.invokestatic 101, 3) := by decide +kernel
theorem dX0_answerOfAll_151 : decode cX0_answerOfAll 151 = .ok (.lstore_n 2, 1) := by decide +kernel
theorem dX0_answerOfAll_152 : decode cX0_answerOfAll 152 = .ok (.iinc 4 1, 3) := by decide +kernel
theorem dX0_answerOfAll_155 : decode cX0_answerOfAll 155 = .ok (.goto (-132), 3) := by decide +kernel
theorem dX0_answerOfAll_158 : decode cX0_answerOfAll 158 = .ok (.lload_n 2, 1) := by decide +kernel
theorem dX0_answerOfAll_159 : decode cX0_answerOfAll 159 = .ok (.lreturn, 1) := by decide +kernel
theorem dX0_answer_0 : decode cX0_answer 0 = .ok (.aload_n 0, 1) := by decide +kernel
theorem dX0_answer_1 : decode cX0_answer 1 = .ok (.getfield 18, 3) := by decide +kernel
theorem dX0_answer_4 : decode cX0_answer 4 = .ok (.invokevirtual 43, 3) := by decide +kernel
theorem dX0_answer_7 : decode cX0_answer 7 = .ok (.aload_n 0, 1) := by decide +kernel
theorem dX0_answer_8 : decode cX0_answer 8 = .ok (.getfield 18, 3) := by decide +kernel
theorem dX0_answer_11 : decode cX0_answer 11 = .ok (.getfield 48, 3) := by decide +kernel
theorem dX0_answer_14 : decode cX0_answer 14 = .ok (.istore_n 1, 1) := by decide +kernel
theorem dX0_answer_15 : decode cX0_answer 15 = .ok (.iload_n 1, 1) := by decide +kernel
theorem dX0_answer_16 : decode cX0_answer 16 = .ok (.bipush 26, 2) := by decide +kernel
theorem dX0_answer_18 : decode cX0_answer 18 = .ok (.if_icmp .lt 9, 3) := by decide +kernel
theorem dX0_answer_21 : decode cX0_answer 21 = .ok (.iload_n 1, 1) := by decide +kernel
theorem dX0_answer_22 : decode cX0_answer 22 = .ok (.bipush 31, 2) := by decide +kernel
theorem dX0_answer_24 : decode cX0_answer 24 = .ok (.if_icmp .le 15, 3) := by decide +kernel
theorem dX0_answer_27 : decode cX0_answer 27 = .ok (.aload_n 0, 1) := by decide +kernel
theorem dX0_answer_28 : decode cX0_answer 28 = .ok (.getfield 18, 3) := by decide +kernel
theorem dX0_answer_31 : decode cX0_answer 31 = .ok (.invokevirtual 52, 3) := by decide +kernel
theorem dX0_answer_34 : decode cX0_answer 34 = .ok (.pop, 1) := by decide +kernel
theorem dX0_answer_35 : decode cX0_answer 35 = .ok (.ldc2_w 56, 3) := by decide +kernel
theorem dX0_answer_38 : decode cX0_answer 38 = .ok (.lreturn, 1) := by decide +kernel
theorem dX0_answer_39 : decode cX0_answer 39 = .ok (.aload_n 0, 1) := by decide +kernel
theorem dX0_answer_40 : decode cX0_answer 40 = .ok (.getfield 18, 3) := by decide +kernel
theorem dX0_answer_43 : decode cX0_answer 43 = .ok (.invokevirtual 58, 3) := by decide +kernel
theorem dX0_answer_46 : decode cX0_answer 46 = .ok (.aload_n 0, 1) := by decide +kernel
theorem dX0_answer_47 : decode cX0_answer 47 = .ok (.getfield 12, 3) := by decide +kernel
theorem dX0_answer_50 : decode cX0_answer 50 = .ok (.iconst 0, 1) := by decide +kernel
theorem dX0_answer_51 : decode cX0_answer 51 = .ok (.putfield 61, 3) := by decide +kernel
theorem dX0_answer_54 : decode cX0_answer 54 = .ok (.aload_n 0, 1) := by decide +kernel
theorem dX0_answer_55 : decode cX0_answer 55 = .ok (.getfield 39, 3) := by decide +kernel
theorem dX0_answer_58 : decode cX0_answer 58 = .ok (.aload_n 0, 1) := by decide +kernel
theorem dX0_answer_59 : decode cX0_answer 59 = .ok (.getfield 12, 3) := by decide +kernel
theorem dX0_answer_62 : decode cX0_answer 62 = .ok (.iconst 3, 1) := by decide +kernel
theorem dX0_answer_63 : decode cX0_answer 63 = .ok (.invokevirtual 64, 3) := by decide +kernel
theorem dX0_answer_66 : decode cX0_answer 66 = .ok (.iload_n 1, 1) := by decide +kernel
theorem dX0_answer_67 : decode cX0_answer 67 = .ok (.bipush 28, 2) := by decide +kernel
theorem dX0_answer_69 : decode cX0_answer 69 = .ok (.if_icmp .gt 14, 3) := by decide +kernel
theorem dX0_answer_72 : decode cX0_answer 72 = .ok (.aload_n 0, 1) := by decide +kernel
theorem dX0_answer_73 : decode cX0_answer 73 = .ok (.getfield 39, 3) := by decide +kernel
theorem dX0_answer_76 : decode cX0_answer 76 = .ok (.iconst 0, 1) := by decide +kernel
theorem dX0_answer_77 : decode cX0_answer 77 = .ok (.invokevirtual 68, 3) := by decide +kernel
theorem dX0_answer_80 : decode cX0_answer 80 = .ok (.goto 11, 3) := by decide +kernel
theorem dX0_answer_83 : decode cX0_answer 83 = .ok (.aload_n 0, 1) := by decide +kernel
theorem dX0_answer_84 : decode cX0_answer 84 = .ok (.getfield 39, 3) := by decide +kernel
theorem dX0_answer_87 : decode cX0_answer 87 = .ok (.iconst 0, 1) := by decide +kernel
theorem dX0_answer_88 : decode cX0_answer 88 = .ok (.invokevirtual 72, 3) := by decide +kernel
theorem dX0_answer_91 : decode cX0_answer 91 = .ok (.istore_n 2, 1) := by decide +kernel
theorem dX0_answer_92 : decode cX0_answer 92 = .ok (.iload_n 2, 1) := by decide +kernel
theorem dX0_answer_93 : decode cX0_answer 93 = .ok (.ifCond .eq 23, 3) := by decide +kernel
theorem dX0_answer_96 : decode cX0_answer 96 = .ok (.aload_n 0, 1) := by decide +kernel
theorem dX0_answer_97 : decode cX0_answer 97 = .ok (.getfield 18, 3) := by decide +kernel
theorem dX0_answer_100 : decode cX0_answer 100 = .ok (.getfield 48, 3) := by decide +kernel
theorem dX0_answer_103 : decode cX0_answer 103 = .ok (.bipush 35, 2) := by decide +kernel
theorem dX0_answer_105 : decode cX0_answer 105 = .ok (.if_icmp .eq 11, 3) := by decide +kernel
theorem dX0_answer_108 : decode cX0_answer 108 = .ok (.aload_n 0, 1) := by decide +kernel
theorem dX0_answer_109 : decode cX0_answer 109 = .ok (.getfield 18, 3) := by decide +kernel
theorem dX0_answer_112 : decode cX0_answer 112 = .ok (.invokevirtual 52, 3) := by decide +kernel
theorem dX0_answer_115 : decode cX0_answer 115 = .ok (.istore_n 2, 1) := by decide +kernel
theorem dX0_answer_116 : decode cX0_answer 116 = .ok (.iload_n 2, 1) := by decide +kernel
theorem dX0_answer_117 : decode cX0_answer 117 = .ok (.ifCond .eq 11, 3) := by decide +kernel
theorem dX0_answer_120 : decode cX0_answer 120 = .ok (.aload_n 0, 1) := by decide +kernel
theorem dX0_answer_121 : decode cX0_answer 121 = .ok (.iload_n 1, 1) := by decide +kernel
theorem dX0_answer_122 : decode cX0_answer 122 = .ok (.invokevirtual 75, 3) := by decide +kernel
theorem dX0_answer_125 : decode cX0_answer 125 = .ok (.goto 6, 3) := by decide +kernel
theorem dX0_answer_128 : decode cX0_answer 128 = .ok (.ldc2_w 56, 3) := by decide +kernel
theorem dX0_answer_131 : decode cX0_answer 131 = .ok (.lreturn, 1) := by decide +kernel
theorem dX11_ask_0 : decode cX11_ask 0 = .ok (.aload_n 0, 1) := by decide +kernel
theorem dX11_ask_1 : decode cX11_ask 1 = .ok (.getfield 79, 3) := by decide +kernel
theorem dX11_ask_4 : decode cX11_ask 4 = .ok (.invokevirtual 312, 3) := by decide +kernel
theorem dX11_ask_7 : decode cX11_ask 7 = .ok (.lstore_n 1, 1) := by decide +kernel
theorem dX11_ask_8 : decode cX11_ask 8 = .ok (.aload_n 0, 1) := by decide +kernel
theorem dX11_ask_9 : decode cX11_ask 9 = .ok (.getfield 10, 3) := by decide +kernel
theorem dX11_ask_12 : decode cX11_ask 12 = .ok (.iconst 0, 1) := by decide +kernel
theorem dX11_ask_13 : decode cX11_ask 13 = .ok (.putfield 97, 3) := by decide +kernel
theorem dX11_ask_16 : decode cX11_ask 16 = .ok (.lload_n 1, 1) := by decide +kernel
theorem dX11_ask_17 : decode cX11_ask 17 = .ok (.lreturn, 1) := by decide +kernel
theorem dX11_addToImage_0 : decode cX11_addToImage 0 = .ok (.aload_n 0, 1) := by decide +kernel
theorem dX11_addToImage_1 : decode cX11_addToImage 1 = .ok (.getfield 87, 3) := by decide +kernel
theorem dX11_addToImage_4 : decode cX11_addToImage 4 = .ok (.aload_n 0, 1) := by decide +kernel
theorem dX11_addToImage_5 : decode cX11_addToImage 5 = .ok (.getfield 83, 3) := by decide +kernel
theorem dX11_addToImage_8 : decode cX11_addToImage 8 = .ok (.arraylength, 1) := by decide +kernel
theorem dX11_addToImage_9 : decode cX11_addToImage 9 = .ok (.if_icmp .ge 23, 3) := by decide +kernel
theorem dX11_addToImage_12 : decode cX11_addToImage 12 = .ok (.aload_n 0, 1) := by decide +kernel
theorem dX11_addToImage_13 : decode cX11_addToImage 13 = .ok (.getfield 83, 3) := by decide +kernel
theorem dX11_addToImage_16 : decode cX11_addToImage 16 = .ok (.aload_n 0, 1) := by decide +kernel
theorem dX11_addToImage_17 : decode cX11_addToImage 17 = .ok (.getfield 87, 3) := by decide +kernel
theorem dX11_addToImage_20 : decode cX11_addToImage 20 = .ok (.iload_n 1, 1) := by decide +kernel
theorem dX11_addToImage_21 : decode cX11_addToImage 21 = .ok (.iastore, 1) := by decide +kernel
theorem dX11_addToImage_22 : decode cX11_addToImage 22 = .ok (.aload_n 0, 1) := by decide +kernel
theorem dX11_addToImage_23 : decode cX11_addToImage 23 = .ok (.dup, 1) := by decide +kernel
theorem dX11_addToImage_24 : decode cX11_addToImage 24 = .ok (.getfield 87, 3) := by decide +kernel
theorem dX11_addToImage_27 : decode cX11_addToImage 27 = .ok (.iconst 1, 1) := by decide +kernel
theorem dX11_addToImage_28 : decode cX11_addToImage 28 = .ok (.iadd, 1) := by decide +kernel
theorem dX11_addToImage_29 : decode cX11_addToImage 29 = .ok (.putfield 87, 3) := by decide +kernel
theorem dX11_addToImage_32 : decode cX11_addToImage 32 = .ok (.return_, 1) := by decide +kernel
theorem dX11_image_0 : decode cX11_image 0 = .ok (.aload_n 0, 1) := by decide +kernel
theorem dX11_image_1 : decode cX11_image 1 = .ok (.getfield 47, 3) := by decide +kernel
theorem dX11_image_4 : decode cX11_image 4 = .ok (.getfield 115, 3) := by decide +kernel
theorem dX11_image_7 : decode cX11_image 7 = .ok (.astore_n 1, 1) := by decide +kernel
theorem dX11_image_8 : decode cX11_image 8 = .ok (.aload_n 0, 1) := by decide +kernel
theorem dX11_image_9 : decode cX11_image 9 = .ok (.iconst 0, 1) := by decide +kernel
theorem dX11_image_10 : decode cX11_image 10 = .ok (.putfield 87, 3) := by decide +kernel
theorem dX11_image_13 : decode cX11_image 13 = .ok (.aload_n 0, 1) := by decide +kernel
theorem dX11_image_14 : decode cX11_image 14 = .ok (.aload_n 0, 1) := by decide +kernel
theorem dX11_image_15 : decode cX11_image 15 = .ok (.getfield 35, 3) := by decide +kernel
theorem dX11_image_18 : decode cX11_image 18 = .ok (.getfield 151, 3) := by decide +kernel
theorem dX11_image_21 : decode cX11_image 21 = .ok (.bipush 8, 2) := by decide +kernel
theorem dX11_image_23 : decode cX11_image 23 = .ok (.ishr, 1) := by decide +kernel
theorem dX11_image_24 : decode cX11_image 24 = .ok (.invokevirtual 316, 3) := by decide +kernel
theorem dX11_image_27 : decode cX11_image 27 = .ok (.aload_n 0, 1) := by decide +kernel
theorem dX11_image_28 : decode cX11_image 28 = .ok (.aload_n 0, 1) := by decide +kernel
theorem dX11_image_29 : decode cX11_image 29 = .ok (.getfield 35, 3) := by decide +kernel
theorem dX11_image_32 : decode cX11_image 32 = .ok (.getfield 151, 3) := by decide +kernel
theorem dX11_image_35 : decode cX11_image 35 = .ok (.sipush 255, 3) := by decide +kernel
theorem dX11_image_38 : decode cX11_image 38 = .ok (.iand, 1) := by decide +kernel
theorem dX11_image_39 : decode cX11_image 39 = .ok (.invokevirtual 316, 3) := by decide +kernel
theorem dX11_image_42 : decode cX11_image 42 = .ok (.iconst 0, 1) := by decide +kernel
theorem dX11_image_43 : decode cX11_image 43 = .ok (.istore_n 2, 1) := by decide +kernel
theorem dX11_image_44 : decode cX11_image 44 = .ok (.iload_n 2, 1) := by decide +kernel
theorem dX11_image_45 : decode cX11_image 45 = .ok (.aload_n 1, 1) := by decide +kernel
theorem dX11_image_46 : decode cX11_image 46 = .ok (.getfield 148, 3) := by decide +kernel
theorem dX11_image_49 : decode cX11_image 49 = .ok (.if_icmp .ge 39, 3) := by decide +kernel
theorem dX11_image_52 : decode cX11_image 52 = .ok (.aload_n 0, 1) := by decide +kernel
theorem dX11_image_53 : decode cX11_image 53 = .ok (.aload_n 0, 1) := by decide +kernel
theorem dX11_image_54 : decode cX11_image 54 = .ok (.getfield 35, 3) := by decide +kernel
theorem dX11_image_57 : decode cX11_image 57 = .ok (.getfield 154, 3) := by decide +kernel
theorem dX11_image_60 : decode cX11_image 60 = .ok (.iload_n 2, 1) := by decide +kernel
theorem dX11_image_61 : decode cX11_image 61 = .ok (.ishr, 1) := by decide +kernel
theorem dX11_image_62 : decode cX11_image 62 = .ok (.iconst 1, 1) := by decide +kernel
theorem dX11_image_63 : decode cX11_image 63 = .ok (.iand, 1) := by decide +kernel
theorem dX11_image_64 : decode cX11_image 64 = .ok (.invokevirtual 316, 3) := by decide +kernel
theorem dX11_image_67 : decode cX11_image 67 = .ok (.aload_n 0, 1) := by decide +kernel
theorem dX11_image_68 : decode cX11_image 68 = .ok (.aload_n 0, 1) := by decide +kernel
theorem dX11_image_69 : decode cX11_image 69 = .ok (.getfield 35, 3) := by decide +kernel
theorem dX11_image_72 : decode cX11_image 72 = .ok (.getfield 162, 3) := by decide +kernel
theorem dX11_image_75 : decode cX11_image 75 = .ok (.iload_n 2, 1) := by decide +kernel
theorem dX11_image_76 : decode cX11_image 76 = .ok (.ishr, 1) := by decide +kernel
theorem dX11_image_77 : decode cX11_image 77 = .ok (.iconst 1, 1) := by decide +kernel
theorem dX11_image_78 : decode cX11_image 78 = .ok (.iand, 1) := by decide +kernel
theorem dX11_image_79 : decode cX11_image 79 = .ok (.invokevirtual 316, 3) := by decide +kernel
theorem dX11_image_82 : decode cX11_image 82 = .ok (.iinc 2 1, 3) := by decide +kernel
theorem dX11_image_85 : decode cX11_image 85 = .ok (.goto (-41), 3) := by decide +kernel
theorem dX11_image_88 : decode cX11_image 88 = .ok (.iconst 0, 1) := by decide +kernel
theorem dX11_image_89 : decode cX11_image 89 = .ok (.istore_n 2, 1) := by decide +kernel
theorem dX11_image_90 : decode cX11_image 90 = .ok (.iload_n 2, 1) := by decide +kernel
theorem dX11_image_91 : decode cX11_image 91 = .ok (.aload_n 1, 1) := by decide +kernel
theorem dX11_image_92 : decode cX11_image 92 = .ok (.getfield 142, 3) := by decide +kernel
theorem dX11_image_95 : decode cX11_image 95 = .ok (.if_icmp .ge 38, 3) := by decide +kernel
theorem dX11_image_98 : decode cX11_image 98 = .ok (.iconst 0, 1) := by decide +kernel
theorem dX11_image_99 : decode cX11_image 99 = .ok (.istore_n 3, 1) := by decide +kernel
theorem dX11_image_100 : decode cX11_image 100 = .ok (.iload_n 3, 1) := by decide +kernel
theorem dX11_image_101 : decode cX11_image 101 = .ok (.aload_n 1, 1) := by decide +kernel
theorem dX11_image_102 : decode cX11_image 102 = .ok (.getfield 145, 3) := by decide +kernel
theorem dX11_image_105 : decode cX11_image 105 = .ok (.if_icmp .ge 22, 3) := by decide +kernel
theorem dX11_image_108 : decode cX11_image 108 = .ok (.aload_n 0, 1) := by decide +kernel
theorem dX11_image_109 : decode cX11_image 109 = .ok (.aload_n 0, 1) := by decide +kernel
theorem dX11_image_110 : decode cX11_image 110 = .ok (.getfield 35, 3) := by decide +kernel
theorem dX11_image_113 : decode cX11_image 113 = .ok (.iload_n 2, 1) := by decide +kernel
theorem dX11_image_114 : decode cX11_image 114 = .ok (.iload_n 3, 1) := by decide +kernel
theorem dX11_image_115 : decode cX11_image 115 = .ok (.invokevirtual 175, 3) := by decide +kernel
theorem dX11_image_118 : decode cX11_image 118 = .ok (.invokevirtual 316, 3) := by decide +kernel
theorem dX11_image_121 : decode cX11_image 121 = .ok (.iinc 3 1, 3) := by decide +kernel
theorem dX11_image_124 : decode cX11_image 124 = .ok (.goto (-24), 3) := by decide +kernel
theorem dX11_image_127 : decode cX11_image 127 = .ok (.iinc 2 1, 3) := by decide +kernel
theorem dX11_image_130 : decode cX11_image 130 = .ok (.goto (-40), 3) := by decide +kernel
theorem dX11_image_133 : decode cX11_image 133 = .ok (.sipush 241, 3) := by decide +kernel
theorem dX11_image_136 : decode cX11_image 136 = .ok (.istore_n 2, 1) := by decide +kernel
theorem dX11_image_137 : decode cX11_image 137 = .ok (.iconst 0, 1) := by decide +kernel
theorem dX11_image_138 : decode cX11_image 138 = .ok (.istore_n 3, 1) := by decide +kernel
theorem dX11_image_139 : decode cX11_image 139 = .ok (.iload_n 3, 1) := by decide +kernel
theorem dX11_image_140 : decode cX11_image 140 = .ok (.aload_n 0, 1) := by decide +kernel
