theorem dX12_cutting_57 : decode cX12_cutting 57 = .ok (.iinc 3 1, 3) := by decide +kernel
theorem dX12_cutting_60 : decode cX12_cutting 60 = .ok (.goto (-12), 3) := by decide +kernel
theorem dX12_cutting_63 : decode cX12_cutting 63 = .ok (.iload_n 3, 1) := by decide +kernel
theorem dX12_cutting_64 : decode cX12_cutting 64 = .ok (.ireturn, 1) := by decide +kernel
theorem dX12_refuses_0 : decode cX12_refuses 0 = .ok (.aload_n 0, 1) := by decide +kernel
theorem dX12_refuses_1 : decode cX12_refuses 1 = .ok (.getfield 17, 3) := by decide +kernel
theorem dX12_refuses_4 : decode cX12_refuses 4 = .ok (.iload_n 1, 1) := by decide +kernel
theorem dX12_refuses_5 : decode cX12_refuses 5 = .ok (.dup2, 1) := by decide +kernel
theorem dX12_refuses_6 : decode cX12_refuses 6 = .ok (.iaload, 1) := by decide +kernel
theorem dX12_refuses_7 : decode cX12_refuses 7 = .ok (.iconst 1, 1) := by decide +kernel
theorem dX12_refuses_8 : decode cX12_refuses 8 = .ok (.iadd, 1) := by decide +kernel
theorem dX12_refuses_9 : decode cX12_refuses 9 = .ok (.iastore, 1) := by decide +kernel
theorem dX12_refuses_10 : decode cX12_refuses 10 = .ok (.iconst (-1), 1) := by decide +kernel
theorem dX12_refuses_11 : decode cX12_refuses 11 = .ok (.ireturn, 1) := by decide +kernel
theorem dX12_discover_0 : decode cX12_discover 0 = .ok (.aload_n 0, 1) := by decide +kernel
theorem dX12_discover_1 : decode cX12_discover 1 = .ok (.getfield 249, 3) := by decide +kernel
theorem dX12_discover_4 : decode cX12_discover 4 = .ok (.istore_n 1, 1) := by decide +kernel
theorem dX12_discover_5 : decode cX12_discover 5 = .ok (.aload_n 0, 1) := by decide +kernel
theorem dX12_discover_6 : decode cX12_discover 6 = .ok (.iconst 0, 1) := by decide +kernel
theorem dX12_discover_7 : decode cX12_discover 7 = .ok (.putfield 249, 3) := by decide +kernel
theorem dX12_discover_10 : decode cX12_discover 10 = .ok (.iload_n 1, 1) := by decide +kernel
theorem dX12_discover_11 : decode cX12_discover 11 = .ok (.ifCond .le 21, 3) := by decide +kernel
theorem dX12_discover_14 : decode cX12_discover 14 = .ok (.iload_n 1, 1) := by decide +kernel
theorem dX12_discover_15 : decode cX12_discover 15 = .ok (.iconst 3, 1) := by decide +kernel
theorem dX12_discover_16 : decode cX12_discover 16 = .ok (.irem, 1) := by decide +kernel
theorem dX12_discover_17 : decode cX12_discover 17 = .ok (.ifCond .ne 15, 3) := by decide +kernel
theorem dX12_discover_20 : decode cX12_discover 20 = .ok (.iload_n 1, 1) := by decide +kernel
theorem dX12_discover_21 : decode cX12_discover 21 = .ok (.iconst 3, 1) := by decide +kernel
theorem dX12_discover_22 : decode cX12_discover 22 = .ok (.idiv, 1) := by decide +kernel
theorem dX12_discover_23 : decode cX12_discover 23 = .ok (.bipush 16, 2) := by decide +kernel
theorem dX12_discover_25 : decode cX12_discover 25 = .ok (.if_icmp .gt 7, 3) := by decide +kernel
theorem dX12_discover_28 : decode cX12_discover 28 = .ok (.iconst 1, 1) := by decide +kernel
theorem dX12_discover_29 : decode cX12_discover 29 = .ok (.goto 4, 3) := by decide +kernel
theorem dX12_discover_32 : decode cX12_discover 32 = .ok (.iconst 0, 1) := by decide +kernel
theorem dX12_discover_33 : decode cX12_discover 33 = .ok (.istore_n 2, 1) := by decide +kernel
theorem dX12_discover_34 : decode cX12_discover 34 = .ok (.iconst 0, 1) := by decide +kernel
theorem dX12_discover_35 : decode cX12_discover 35 = .ok (.istore_n 3, 1) := by decide +kernel
theorem dX12_discover_36 : decode cX12_discover 36 = .ok (.iload_n 3, 1) := by decide +kernel
theorem dX12_discover_37 : decode cX12_discover 37 = .ok (.iload_n 1, 1) := by decide +kernel
theorem dX12_discover_38 : decode cX12_discover 38 = .ok (.if_icmp .ge 59, 3) := by decide +kernel
theorem dX12_discover_41 : decode cX12_discover 41 = .ok (.iload_n 2, 1) := by decide +kernel
theorem dX12_discover_42 : decode cX12_discover 42 = .ok (.ifCond .eq 55, 3) := by decide +kernel
theorem dX12_discover_45 : decode cX12_discover 45 = .ok (.aload_n 0, 1) := by decide +kernel
theorem dX12_discover_46 : decode cX12_discover 46 = .ok (.getfield 7, 3) := by decide +kernel
theorem dX12_discover_49 : decode cX12_discover 49 = .ok (.iload_n 3, 1) := by decide +kernel
theorem dX12_discover_50 : decode cX12_discover 50 = .ok (.iaload, 1) := by decide +kernel
theorem dX12_discover_51 : decode cX12_discover 51 = .ok (.bipush 30, 2) := by decide +kernel
theorem dX12_discover_53 : decode cX12_discover 53 = .ok (.if_icmp .gt 36, 3) := by decide +kernel
theorem dX12_discover_56 : decode cX12_discover 56 = .ok (.aload_n 0, 1) := by decide +kernel
theorem dX12_discover_57 : decode cX12_discover 57 = .ok (.aload_n 0, 1) := by decide +kernel
theorem dX12_discover_58 : decode cX12_discover 58 = .ok (.getfield 7, 3) := by decide +kernel
theorem dX12_discover_61 : decode cX12_discover 61 = .ok (.iload_n 3, 1) := by decide +kernel
theorem dX12_discover_62 : decode cX12_discover 62 = .ok (.iconst 1, 1) := by decide +kernel
theorem dX12_discover_63 : decode cX12_discover 63 = .ok (.iadd, 1) := by decide +kernel
theorem dX12_discover_64 : decode cX12_discover 64 = .ok (.iaload, 1) := by decide +kernel
theorem dX12_discover_65 : decode cX12_discover 65 = .ok (.i2l, 1) := by decide +kernel
theorem dX12_discover_66 : decode cX12_discover 66 = .ok (.invokevirtual 496, 3) := by decide +kernel
theorem dX12_discover_69 : decode cX12_discover 69 = .ok (.ifCond .eq 20, 3) := by decide +kernel
theorem dX12_discover_72 : decode cX12_discover 72 = .ok (.aload_n 0, 1) := by decide +kernel
theorem dX12_discover_73 : decode cX12_discover 73 = .ok (.getfield 7, 3) := by decide +kernel
theorem dX12_discover_76 : decode cX12_discover 76 = .ok (.iload_n 3, 1) := by decide +kernel
theorem dX12_discover_77 : decode cX12_discover 77 = .ok (.iconst 2, 1) := by decide +kernel
theorem dX12_discover_78 : decode cX12_discover 78 = .ok (.iadd, 1) := by decide +kernel
theorem dX12_discover_79 : decode cX12_discover 79 = .ok (.iaload, 1) := by decide +kernel
theorem dX12_discover_80 : decode cX12_discover 80 = .ok (.bipush 99, 2) := by decide +kernel
theorem dX12_discover_82 : decode cX12_discover 82 = .ok (.if_icmp .gt 7, 3) := by decide +kernel
theorem dX12_discover_85 : decode cX12_discover 85 = .ok (.iconst 1, 1) := by decide +kernel
theorem dX12_discover_86 : decode cX12_discover 86 = .ok (.goto 4, 3) := by decide +kernel
theorem dX12_discover_89 : decode cX12_discover 89 = .ok (.iconst 0, 1) := by decide +kernel
theorem dX12_discover_90 : decode cX12_discover 90 = .ok (.istore_n 2, 1) := by decide +kernel
theorem dX12_discover_91 : decode cX12_discover 91 = .ok (.iinc 3 3, 3) := by decide +kernel
theorem dX12_discover_94 : decode cX12_discover 94 = .ok (.goto (-58), 3) := by decide +kernel
theorem dX12_discover_97 : decode cX12_discover 97 = .ok (.iload_n 2, 1) := by decide +kernel
theorem dX12_discover_98 : decode cX12_discover 98 = .ok (.ifCond .ne 9, 3) := by decide +kernel
theorem dX12_discover_101 : decode cX12_discover 101 = .ok (.aload_n 0, 1) := by decide +kernel
theorem dX12_discover_102 : decode cX12_discover 102 = .ok (.iconst 1, 1) := by decide +kernel
theorem dX12_discover_103 : decode cX12_discover 103 = .ok (.invokevirtual 547, 3) := by decide +kernel
theorem dX12_discover_106 : decode cX12_discover 106 = .ok (.ireturn, 1) := by decide +kernel
theorem dX12_discover_107 : decode cX12_discover 107 = .ok (.iconst 0, 1) := by decide +kernel
theorem dX12_discover_108 : decode cX12_discover 108 = .ok (.istore_n 3, 1) := by decide +kernel
theorem dX12_discover_109 : decode cX12_discover 109 = .ok (.iload_n 3, 1) := by decide +kernel
theorem dX12_discover_110 : decode cX12_discover 110 = .ok (.iload_n 1, 1) := by decide +kernel
theorem dX12_discover_111 : decode cX12_discover 111 = .ok (.if_icmp .ge 21, 3) := by decide +kernel
theorem dX12_discover_114 : decode cX12_discover 114 = .ok (.aload_n 0, 1) := by decide +kernel
theorem dX12_discover_115 : decode cX12_discover 115 = .ok (.getfield 149, 3) := by decide +kernel
theorem dX12_discover_118 : decode cX12_discover 118 = .ok (.iload_n 3, 1) := by decide +kernel
theorem dX12_discover_119 : decode cX12_discover 119 = .ok (.aload_n 0, 1) := by decide +kernel
theorem dX12_discover_120 : decode cX12_discover 120 = .ok (.getfield 7, 3) := by decide +kernel
theorem dX12_discover_123 : decode cX12_discover 123 = .ok (.iload_n 3, 1) := by decide +kernel
theorem dX12_discover_124 : decode cX12_discover 124 = .ok (.iaload, 1) := by decide +kernel
theorem dX12_discover_125 : decode cX12_discover 125 = .ok (.iastore, 1) := by decide +kernel
theorem dX12_discover_126 : decode cX12_discover 126 = .ok (.iinc 3 1, 3) := by decide +kernel
theorem dX12_discover_129 : decode cX12_discover 129 = .ok (.goto (-20), 3) := by decide +kernel
theorem dX12_discover_132 : decode cX12_discover 132 = .ok (.aload_n 0, 1) := by decide +kernel
theorem dX12_discover_133 : decode cX12_discover 133 = .ok (.iload_n 1, 1) := by decide +kernel
theorem dX12_discover_134 : decode cX12_discover 134 = .ok (.iconst 3, 1) := by decide +kernel
theorem dX12_discover_135 : decode cX12_discover 135 = .ok (.idiv, 1) := by decide +kernel
theorem dX12_discover_136 : decode cX12_discover 136 = .ok (.putfield 394, 3) := by decide +kernel
theorem dX12_discover_139 : decode cX12_discover 139 = .ok (.aload_n 0, 1) := by decide +kernel
theorem dX12_discover_140 : decode cX12_discover 140 = .ok (.getfield 394, 3) := by decide +kernel
theorem dX12_discover_143 : decode cX12_discover 143 = .ok (.ireturn, 1) := by decide +kernel
theorem dX12_isAsFound_0 : decode cX12_isAsFound 0 = .ok (.iconst 0, 1) := by decide +kernel
theorem dX12_isAsFound_1 : decode cX12_isAsFound 1 = .ok (.istore_n 3, 1) := by decide +kernel
theorem dX12_isAsFound_2 : decode cX12_isAsFound 2 = .ok (.iload_n 3, 1) := by decide +kernel
theorem dX12_isAsFound_3 : decode cX12_isAsFound 3 = .ok (.aload_n 0, 1) := by decide +kernel
theorem dX12_isAsFound_4 : decode cX12_isAsFound 4 = .ok (.getfield 394, 3) := by decide +kernel
theorem dX12_isAsFound_7 : decode cX12_isAsFound 7 = .ok (.if_icmp .ge 63, 3) := by decide +kernel
theorem dX12_isAsFound_10 : decode cX12_isAsFound 10 = .ok (.aload_n 0, 1) := by decide +kernel
theorem dX12_isAsFound_11 : decode cX12_isAsFound 11 = .ok (.getfield 149, 3) := by decide +kernel
theorem dX12_isAsFound_14 : decode cX12_isAsFound 14 = .ok (.iconst 3, 1) := by decide +kernel
theorem dX12_isAsFound_15 : decode cX12_isAsFound 15 = .ok (.iload_n 3, 1) := by decide +kernel
theorem dX12_isAsFound_16 : decode cX12_isAsFound 16 = .ok (.imul, 1) := by decide +kernel
theorem dX12_isAsFound_17 : decode cX12_isAsFound 17 = .ok (.iaload, 1) := by decide +kernel
theorem dX12_isAsFound_18 : decode cX12_isAsFound 18 = .ok (.iload_n 2, 1) := by decide +kernel
theorem dX12_isAsFound_19 : decode cX12_isAsFound 19 = .ok (.if_icmp .ne 45, 3) := by decide +kernel
theorem dX12_isAsFound_22 : decode cX12_isAsFound 22 = .ok (.aload_n 0, 1) := by decide +kernel
theorem dX12_isAsFound_23 : decode cX12_isAsFound 23 = .ok (.getfield 124, 3) := by decide +kernel
theorem dX12_isAsFound_26 : decode cX12_isAsFound 26 = .ok (.iconst 0, 1) := by decide +kernel
theorem dX12_isAsFound_27 : decode cX12_isAsFound 27 = .ok (.iaload, 1) := by decide +kernel
theorem dX12_isAsFound_28 : decode cX12_isAsFound 28 = .ok (.sipush 999, 3) := by decide +kernel
theorem dX12_isAsFound_31 : decode cX12_isAsFound 31 = .ok (.if_icmp .gt 31, 3) := by decide +kernel
theorem dX12_isAsFound_34 : decode cX12_isAsFound 34 = .ok (.aload_n 0, 1) := by decide +kernel
theorem dX12_isAsFound_35 : decode cX12_isAsFound 35 = .ok (.aload_n 0, 1) := by decide +kernel
theorem dX12_isAsFound_36 : decode cX12_isAsFound 36 = .ok (.getfield 149, 3) := by decide +kernel
theorem dX12_isAsFound_39 : decode cX12_isAsFound 39 = .ok (.iconst 3, 1) := by decide +kernel
theorem dX12_isAsFound_40 : decode cX12_isAsFound 40 = .ok (.iload_n 3, 1) := by decide +kernel
theorem dX12_isAsFound_41 : decode cX12_isAsFound 41 = .ok (.imul, 1) := by decide +kernel
theorem dX12_isAsFound_42 : decode cX12_isAsFound 42 = .ok (.iconst 1, 1) := by decide +kernel
theorem dX12_isAsFound_43 : decode cX12_isAsFound 43 = .ok (.iadd, 1) := by decide +kernel
theorem dX12_isAsFound_44 : decode cX12_isAsFound 44 = .ok (.iaload, 1) := by decide +kernel
theorem dX12_isAsFound_45 : decode cX12_isAsFound 45 = .ok (.iload_n 1, 1) := by decide +kernel
theorem dX12_isAsFound_46 : decode cX12_isAsFound 46 = .ok (.invokevirtual 452, 3) := by decide +kernel
theorem dX12_isAsFound_49 : decode cX12_isAsFound 49 = .ok (.aload_n 0, 1) := by decide +kernel
theorem dX12_isAsFound_50 : decode cX12_isAsFound 50 = .ok (.getfield 149, 3) := by decide +kernel
theorem dX12_isAsFound_53 : decode cX12_isAsFound 53 = .ok (.iconst 3, 1) := by decide +kernel
theorem dX12_isAsFound_54 : decode cX12_isAsFound 54 = .ok (.iload_n 3, 1) := by decide +kernel
theorem dX12_isAsFound_55 : decode cX12_isAsFound 55 = .ok (.imul, 1) := by decide +kernel
theorem dX12_isAsFound_56 : decode cX12_isAsFound 56 = .ok (.iconst 2, 1) := by decide +kernel
theorem dX12_isAsFound_57 : decode cX12_isAsFound 57 = .ok (.iadd, 1) := by decide +kernel
theorem dX12_isAsFound_58 : decode cX12_isAsFound 58 = .ok (.iaload, 1) := by decide +kernel
theorem dX12_isAsFound_59 : decode cX12_isAsFound 59 = .ok (.if_icmp .eq 5, 3) := by decide +kernel
theorem dX12_isAsFound_62 : decode cX12_isAsFound 62 = .ok (.iconst 0, 1) := by decide +kernel
theorem dX12_isAsFound_63 : decode cX12_isAsFound 63 = .ok (.ireturn, 1) := by decide +kernel
theorem dX12_isAsFound_64 : decode cX12_isAsFound 64 = .ok (.iinc 3 1, 3) := by decide +kernel
theorem dX12_isAsFound_67 : decode cX12_isAsFound 67 = .ok (.goto (-65), 3) := by decide +kernel
theorem dX12_isAsFound_70 : decode cX12_isAsFound 70 = .ok (.iconst 1, 1) := by decide +kernel
theorem dX12_isAsFound_71 : decode cX12_isAsFound 71 = .ok (.ireturn, 1) := by decide +kernel
theorem dX12_sourceGoes_0 : decode cX12_sourceGoes 0 = .ok (.iconst 0, 1) := by decide +kernel
theorem dX12_sourceGoes_1 : decode cX12_sourceGoes 1 = .ok (.istore_n 3, 1) := by decide +kernel
theorem dX12_sourceGoes_2 : decode cX12_sourceGoes 2 = .ok (.iload_n 3, 1) := by decide +kernel
theorem dX12_sourceGoes_3 : decode cX12_sourceGoes 3 = .ok (.bipush 8, 2) := by decide +kernel
theorem dX12_sourceGoes_5 : decode cX12_sourceGoes 5 = .ok (.if_icmp .ge 23, 3) := by decide +kernel
theorem dX12_sourceGoes_8 : decode cX12_sourceGoes 8 = .ok (.aload_n 0, 1) := by decide +kernel
theorem dX12_sourceGoes_9 : decode cX12_sourceGoes 9 = .ok (.getfield 124, 3) := by decide +kernel
theorem dX12_sourceGoes_12 : decode cX12_sourceGoes 12 = .ok (.bipush 25, 2) := by decide +kernel
theorem dX12_sourceGoes_14 : decode cX12_sourceGoes 14 = .ok (.iconst 4, 1) := by decide +kernel
theorem dX12_sourceGoes_15 : decode cX12_sourceGoes 15 = .ok (.iload_n 3, 1) := by decide +kernel
theorem dX12_sourceGoes_16 : decode cX12_sourceGoes 16 = .ok (.imul, 1) := by decide +kernel
theorem dX12_sourceGoes_17 : decode cX12_sourceGoes 17 = .ok (.iadd, 1) := by decide +kernel
theorem dX12_sourceGoes_18 : decode cX12_sourceGoes 18 = .ok (.iload_n 1, 1) := by decide +kernel
theorem dX12_sourceGoes_19 : decode cX12_sourceGoes 19 = .ok (.iadd, 1) := by decide +kernel
theorem dX12_sourceGoes_20 : decode cX12_sourceGoes 20 = .ok (.iconst 0, 1) := by decide +kernel
theorem dX12_sourceGoes_21 : decode cX12_sourceGoes 21 = .ok (.iastore, 1) := by decide +kernel
theorem dX12_sourceGoes_22 : decode cX12_sourceGoes 22 = .ok (.iinc 3 1, 3) := by decide +kernel
theorem dX12_sourceGoes_25 : decode cX12_sourceGoes 25 = .ok (.goto (-23), 3) := by decide +kernel
theorem dX12_sourceGoes_28 : decode cX12_sourceGoes 28 = .ok (.aload_n 0, 1) := by decide +kernel
theorem dX12_sourceGoes_29 : decode cX12_sourceGoes 29 = .ok (.getfield 124, 3) := by decide +kernel
theorem dX12_sourceGoes_32 : decode cX12_sourceGoes 32 = .ok (.bipush 25, 2) := by decide +kernel
theorem dX12_sourceGoes_34 : decode cX12_sourceGoes 34 = .ok (.iconst 4, 1) := by decide +kernel
theorem dX12_sourceGoes_35 : decode cX12_sourceGoes 35 = .ok (.iload_n 2, 1) := by decide +kernel
theorem dX12_sourceGoes_36 : decode cX12_sourceGoes 36 = .ok (.bipush 99, 2) := by decide +kernel
theorem dX12_sourceGoes_38 : decode cX12_sourceGoes 38 = .ok (.idiv, 1) := by decide +kernel
theorem dX12_sourceGoes_39 : decode cX12_sourceGoes 39 = .ok (.imul, 1) := by decide +kernel
theorem dX12_sourceGoes_40 : decode cX12_sourceGoes 40 = .ok (.iadd, 1) := by decide +kernel
theorem dX12_sourceGoes_41 : decode cX12_sourceGoes 41 = .ok (.iload_n 1, 1) := by decide +kernel
theorem dX12_sourceGoes_42 : decode cX12_sourceGoes 42 = .ok (.iadd, 1) := by decide +kernel
theorem dX12_sourceGoes_43 : decode cX12_sourceGoes 43 = .ok (.iconst 1, 1) := by decide +kernel
theorem dX12_sourceGoes_44 : decode cX12_sourceGoes 44 = .ok (.iload_n 2, 1) := by decide +kernel
theorem dX12_sourceGoes_45 : decode cX12_sourceGoes 45 = .ok (.bipush 99, 2) := by decide +kernel
theorem dX12_sourceGoes_47 : decode cX12_sourceGoes 47 = .ok (.irem, 1) := by decide +kernel
theorem dX12_sourceGoes_48 : decode cX12_sourceGoes 48 = .ok (.iadd, 1) := by decide +kernel
theorem dX12_sourceGoes_49 : decode cX12_sourceGoes 49 = .ok (.iastore, 1) := by decide +kernel
theorem dX12_sourceGoes_50 : decode cX12_sourceGoes 50 = .ok (.iconst 1, 1) := by decide +kernel
theorem dX12_sourceGoes_51 : decode cX12_sourceGoes 51 = .ok (.istore_n 3, 1) := by decide +kernel
theorem dX12_sourceGoes_52 : decode cX12_sourceGoes 52 = .ok (.iconst 0, 1) := by decide +kernel
theorem dX12_sourceGoes_53 : decode cX12_sourceGoes 53 = .ok (.istore 4, 2) := by decide +kernel
theorem dX12_sourceGoes_55 : decode cX12_sourceGoes 55 = .ok (.iload 4, 2) := by decide +kernel
theorem dX12_sourceGoes_57 : decode cX12_sourceGoes 57 = .ok (.bipush 30, 2) := by decide +kernel
theorem dX12_sourceGoes_59 : decode cX12_sourceGoes 59 = .ok (.if_icmp .gt 79, 3) := by decide +kernel
theorem dX12_sourceGoes_62 : decode cX12_sourceGoes 62 = .ok (.iload_n 3, 1) := by decide +kernel
theorem dX12_sourceGoes_63 : decode cX12_sourceGoes 63 = .ok (.ifCond .eq 17, 3) := by decide +kernel
theorem dX12_sourceGoes_66 : decode cX12_sourceGoes 66 = .ok (.aload_n 0, 1) := by decide +kernel
theorem dX12_sourceGoes_67 : decode cX12_sourceGoes 67 = .ok (.iload_n 1, 1) := by decide +kernel
theorem dX12_sourceGoes_68 : decode cX12_sourceGoes 68 = .ok (.iload 4, 2) := by decide +kernel
theorem dX12_sourceGoes_70 : decode cX12_sourceGoes 70 = .ok (.invokevirtual 550, 3) := by decide +kernel
theorem dX12_sourceGoes_73 : decode cX12_sourceGoes 73 = .ok (.ifCond .eq 7, 3) := by decide +kernel
theorem dX12_sourceGoes_76 : decode cX12_sourceGoes 76 = .ok (.iconst 1, 1) := by decide +kernel
theorem dX12_sourceGoes_77 : decode cX12_sourceGoes 77 = .ok (.goto 4, 3) := by decide +kernel
theorem dX12_sourceGoes_80 : decode cX12_sourceGoes 80 = .ok (.iconst 0, 1) := by decide +kernel
theorem dX12_sourceGoes_81 : decode cX12_sourceGoes 81 = .ok (.istore_n 3, 1) := by decide +kernel
theorem dX12_sourceGoes_82 : decode cX12_sourceGoes 82 = .ok (.iconst 0, 1) := by decide +kernel
theorem dX12_sourceGoes_83 : decode cX12_sourceGoes 83 = .ok (.istore 5, 2) := by decide +kernel
theorem dX12_sourceGoes_85 : decode cX12_sourceGoes 85 = .ok (.iload 5, 2) := by decide +kernel
theorem dX12_sourceGoes_87 : decode cX12_sourceGoes 87 = .ok (.aload_n 0, 1) := by decide +kernel
theorem dX12_sourceGoes_88 : decode cX12_sourceGoes 88 = .ok (.invokevirtual 397, 3) := by decide +kernel
theorem dX12_sourceGoes_91 : decode cX12_sourceGoes 91 = .ok (.if_icmp .ge 35, 3) := by decide +kernel
theorem dX12_sourceGoes_94 : decode cX12_sourceGoes 94 = .ok (.aload_n 0, 1) := by decide +kernel
theorem dX12_sourceGoes_95 : decode cX12_sourceGoes 95 = .ok (.getfield 156, 3) := by decide +kernel
theorem dX12_sourceGoes_98 : decode cX12_sourceGoes 98 = .ok (.sipush 248, 3) := by decide +kernel
theorem dX12_sourceGoes_101 : decode cX12_sourceGoes 101 = .ok (.iload_n 2, 1) := by decide +kernel
theorem dX12_sourceGoes_102 : decode cX12_sourceGoes 102 = .ok (.imul, 1) := by decide +kernel
theorem dX12_sourceGoes_103 : decode cX12_sourceGoes 103 = .ok (.bipush 8, 2) := by decide +kernel
theorem dX12_sourceGoes_105 : decode cX12_sourceGoes 105 = .ok (.iload 4, 2) := by decide +kernel
theorem dX12_sourceGoes_107 : decode cX12_sourceGoes 107 = .ok (.imul, 1) := by decide +kernel
theorem dX12_sourceGoes_108 : decode cX12_sourceGoes 108 = .ok (.iadd, 1) := by decide +kernel
theorem dX12_sourceGoes_109 : decode cX12_sourceGoes 109 = .ok (.iload 5, 2) := by decide +kernel
theorem dX12_sourceGoes_111 : decode cX12_sourceGoes 111 = .ok (.iadd, 1) := by decide +kernel
theorem dX12_sourceGoes_112 : decode cX12_sourceGoes 112 = .ok (.aload_n 0, 1) := by decide +kernel
theorem dX12_sourceGoes_113 : decode cX12_sourceGoes 113 = .ok (.iload 5, 2) := by decide +kernel
theorem dX12_sourceGoes_115 : decode cX12_sourceGoes 115 = .ok (.iload_n 1, 1) := by decide +kernel
theorem dX12_sourceGoes_116 : decode cX12_sourceGoes 116 = .ok (.invokevirtual 452, 3) := by decide +kernel
theorem dX12_sourceGoes_119 : decode cX12_sourceGoes 119 = .ok (.iastore, 1) := by decide +kernel
theorem dX12_sourceGoes_120 : decode cX12_sourceGoes 120 = .ok (.iinc 5 1, 3) := by decide +kernel
theorem dX12_sourceGoes_123 : decode cX12_sourceGoes 123 = .ok (.goto (-38), 3) := by decide +kernel
theorem dX12_sourceGoes_126 : decode cX12_sourceGoes 126 = .ok (.aload_n 0, 1) := by decide +kernel
theorem dX12_sourceGoes_127 : decode cX12_sourceGoes 127 = .ok (.iload_n 1, 1) := by decide +kernel
theorem dX12_sourceGoes_128 : decode cX12_sourceGoes 128 = .ok (.iconst 1, 1) := by decide +kernel
theorem dX12_sourceGoes_129 : decode cX12_sourceGoes 129 = .ok (.invokevirtual 520, 3) := by decide +kernel
theorem dX12_sourceGoes_132 : decode cX12_sourceGoes 132 = .ok (.iinc 4 1, 3) := by decide +kernel
theorem dX12_sourceGoes_135 : decode cX12_sourceGoes 135 = .ok (.goto (-80), 3) := by decide +kernel
theorem dX12_sourceGoes_138 : decode cX12_sourceGoes 138 = .ok (.aload_n 0, 1) := by decide +kernel
theorem dX12_sourceGoes_139 : decode cX12_sourceGoes 139 = .ok (.getfield 152, 3) := by decide +kernel
theorem dX12_sourceGoes_142 : decode cX12_sourceGoes 142 = .ok (.iload_n 2, 1) := by decide +kernel
theorem dX12_sourceGoes_143 : decode cX12_sourceGoes 143 = .ok (.iload_n 3, 1) := by decide +kernel
theorem dX12_sourceGoes_144 : decode cX12_sourceGoes 144 = .ok (.bastore, 1) := by decide +kernel
theorem dX12_sourceGoes_145 : decode cX12_sourceGoes 145 = .ok (.iload_n 3, 1) := by decide +kernel
theorem dX12_sourceGoes_146 : decode cX12_sourceGoes 146 = .ok (.ifCond .eq 13, 3) := by decide +kernel
theorem dX12_sourceGoes_149 : decode cX12_sourceGoes 149 = .ok (.aload_n 0, 1) := by decide +kernel
theorem dX12_sourceGoes_150 : decode cX12_sourceGoes 150 = .ok (.dup, 1) := by decide +kernel
theorem dX12_sourceGoes_151 : decode cX12_sourceGoes 151 = .ok (.getfield 553, 3) := by decide +kernel
theorem dX12_sourceGoes_154 : decode cX12_sourceGoes 154 = .ok (.iconst 1, 1) := by decide +kernel
theorem dX12_sourceGoes_155 : decode cX12_sourceGoes 155 = .ok (.iadd, 1) := by decide +kernel
theorem dX12_sourceGoes_156 : decode cX12_sourceGoes 156 = .ok (.putfield 553, 3) := by decide +kernel
theorem dX12_sourceGoes_159 : decode cX12_sourceGoes 159 = .ok (.aload_n 0, 1) := by decide +kernel
theorem dX12_sourceGoes_160 : decode cX12_sourceGoes 160 = .ok (.invokevirtual 487, 3) := by decide +kernel
theorem dX12_sourceGoes_163 : decode cX12_sourceGoes 163 = .ok (.return_, 1) := by decide +kernel
theorem dX12_laysSources_0 : decode cX12_laysSources 0 = .ok (.aload_n 0, 1) := by decide +kernel
theorem dX12_laysSources_1 : decode cX12_laysSources 1 = .ok (.iconst 0, 1) := by decide +kernel
theorem dX12_laysSources_2 : decode cX12_laysSources 2 = .ok (.putfield 553, 3) := by decide +kernel
theorem dX12_laysSources_5 : decode cX12_laysSources 5 = .ok (.aload_n 0, 1) := by decide +kernel
theorem dX12_laysSources_6 : decode cX12_laysSources 6 = .ok (.invokevirtual 517, 3) := by decide +kernel
theorem dX12_laysSources_9 : decode cX12_laysSources 9 = .ok (.iconst 0, 1) := by decide +kernel
theorem dX12_laysSources_10 : decode cX12_laysSources 10 = .ok (.istore_n 2, 1) := by decide +kernel
theorem dX12_laysSources_11 : decode cX12_laysSources 11 = .ok (.iload_n 2, 1) := by decide +kernel
theorem dX12_laysSources_12 : decode cX12_laysSources 12 = .ok (.bipush 99, 2) := by decide +kernel
theorem dX12_laysSources_14 : decode cX12_laysSources 14 = .ok (.aload_n 0, 1) := by decide +kernel
theorem dX12_laysSources_15 : decode cX12_laysSources 15 = .ok (.invokevirtual 397, 3) := by decide +kernel
theorem dX12_laysSources_18 : decode cX12_laysSources 18 = .ok (.imul, 1) := by decide +kernel
theorem dX12_laysSources_19 : decode cX12_laysSources 19 = .ok (.if_icmp .ge 15, 3) := by decide +kernel
theorem dX12_laysSources_22 : decode cX12_laysSources 22 = .ok (.aload_n 0, 1) := by decide +kernel
theorem dX12_laysSources_23 : decode cX12_laysSources 23 = .ok (.iload_n 1, 1) := by decide +kernel
theorem dX12_laysSources_24 : decode cX12_laysSources 24 = .ok (.iload_n 2, 1) := by decide +kernel
theorem dX12_laysSources_25 : decode cX12_laysSources 25 = .ok (.invokevirtual 556, 3) := by decide +kernel
theorem dX12_laysSources_28 : decode cX12_laysSources 28 = .ok (.iinc 2 1, 3) := by decide +kernel
theorem dX12_laysSources_31 : decode cX12_laysSources 31 = .ok (.goto (-20), 3) := by decide +kernel
theorem dX12_laysSources_34 : decode cX12_laysSources 34 = .ok (.aload_n 0, 1) := by decide +kernel
theorem dX12_laysSources_35 : decode cX12_laysSources 35 = .ok (.invokevirtual 523, 3) := by decide +kernel
theorem dX12_laysSources_38 : decode cX12_laysSources 38 = .ok (.return_, 1) := by decide +kernel
theorem dX12_sources_0 : decode cX12_sources 0 = .ok (.aload_n 0, 1) := by decide +kernel
theorem dX12_sources_1 : decode cX12_sources 1 = .ok (.iload_n 1, 1) := by decide +kernel
theorem dX12_sources_2 : decode cX12_sources 2 = .ok (.i2l, 1) := by decide +kernel
theorem dX12_sources_3 : decode cX12_sources 3 = .ok (.invokevirtual 511, 3) := by decide +kernel
theorem dX12_sources_6 : decode cX12_sources 6 = .ok (.ifCond .eq 8, 3) := by decide +kernel
theorem dX12_sources_9 : decode cX12_sources 9 = .ok (.iload_n 2, 1) := by decide +kernel
theorem dX12_sources_10 : decode cX12_sources 10 = .ok (.iconst (-1), 1) := by decide +kernel
theorem dX12_sources_11 : decode cX12_sources 11 = .ok (.if_icmp .ge 5, 3) := by decide +kernel
theorem dX12_sources_14 : decode cX12_sources 14 = .ok (.iconst (-1), 1) := by decide +kernel
theorem dX12_sources_15 : decode cX12_sources 15 = .ok (.ireturn, 1) := by decide +kernel
theorem dX12_sources_16 : decode cX12_sources 16 = .ok (.aload_n 0, 1) := by decide +kernel
theorem dX12_sources_17 : decode cX12_sources 17 = .ok (.iload_n 1, 1) := by decide +kernel
theorem dX12_sources_18 : decode cX12_sources 18 = .ok (.invokevirtual 559, 3) := by decide +kernel
theorem dX12_sources_21 : decode cX12_sources 21 = .ok (.iload_n 2, 1) := by decide +kernel
theorem dX12_sources_22 : decode cX12_sources 22 = .ok (.iconst (-1), 1) := by decide +kernel
theorem dX12_sources_23 : decode cX12_sources 23 = .ok (.if_icmp .ne 8, 3) := by decide +kernel
theorem dX12_sources_26 : decode cX12_sources 26 = .ok (.aload_n 0, 1) := by decide +kernel
theorem dX12_sources_27 : decode cX12_sources 27 = .ok (.getfield 553, 3) := by decide +kernel
theorem dX12_sources_30 : decode cX12_sources 30 = .ok (.ireturn, 1) := by decide +kernel
theorem dX12_sources_31 : decode cX12_sources 31 = .ok (.iconst 0, 1) := by decide +kernel
theorem dX12_sources_32 : decode cX12_sources 32 = .ok (.istore_n 3, 1) := by decide +kernel
theorem dX12_sources_33 : decode cX12_sources 33 = .ok (.iconst 0, 1) := by decide +kernel
theorem dX12_sources_34 : decode cX12_sources 34 = .ok (.istore 4, 2) := by decide +kernel
theorem dX12_sources_36 : decode cX12_sources 36 = .ok (.iload 4, 2) := by decide +kernel
theorem dX12_sources_38 : decode cX12_sources 38 = .ok (.bipush 99, 2) := by decide +kernel
theorem dX12_sources_40 : decode cX12_sources 40 = .ok (.aload_n 0, 1) := by decide +kernel
theorem dX12_sources_41 : decode cX12_sources 41 = .ok (.invokevirtual 397, 3) := by decide +kernel
theorem dX12_sources_44 : decode cX12_sources 44 = .ok (.imul, 1) := by decide +kernel
theorem dX12_sources_45 : decode cX12_sources 45 = .ok (.if_icmp .ge 47, 3) := by decide +kernel
theorem dX12_sources_48 : decode cX12_sources 48 = .ok (.aload_n 0, 1) := by decide +kernel
theorem dX12_sources_49 : decode cX12_sources 49 = .ok (.getfield 152, 3) := by decide +kernel
theorem dX12_sources_52 : decode cX12_sources 52 = .ok (.iload 4, 2) := by decide +kernel
theorem dX12_sources_54 : decode cX12_sources 54 = .ok (.baload, 1) := by decide +kernel
theorem dX12_sources_55 : decode cX12_sources 55 = .ok (.ifCond .ne 6, 3) := by decide +kernel
theorem dX12_sources_58 : decode cX12_sources 58 = .ok (.goto 28, 3) := by decide +kernel
theorem dX12_sources_61 : decode cX12_sources 61 = .ok (.iload_n 3, 1) := by decide +kernel
theorem dX12_sources_62 : decode cX12_sources 62 = .ok (.iload_n 2, 1) := by decide +kernel
theorem dX12_sources_63 : decode cX12_sources 63 = .ok (.if_icmp .ne 20, 3) := by decide +kernel
theorem dX12_sources_66 : decode cX12_sources 66 = .ok (.bipush 100, 2) := by decide +kernel
theorem dX12_sources_68 : decode cX12_sources 68 = .ok (.iload 4, 2) := by decide +kernel
theorem dX12_sources_70 : decode cX12_sources 70 = .ok (.bipush 99, 2) := by decide +kernel
theorem dX12_sources_72 : decode cX12_sources 72 = .ok (.idiv, 1) := by decide +kernel
theorem dX12_sources_73 : decode cX12_sources 73 = .ok (.imul, 1) := by decide +kernel
theorem dX12_sources_74 : decode cX12_sources 74 = .ok (.iconst 1, 1) := by decide +kernel
theorem dX12_sources_75 : decode cX12_sources 75 = .ok (.iadd, 1) := by decide +kernel
theorem dX12_sources_76 : decode cX12_sources 76 = .ok (.iload 4, 2) := by decide +kernel
theorem dX12_sources_78 : decode cX12_sources 78 = .ok (.bipush 99, 2) := by decide +kernel
theorem dX12_sources_80 : decode cX12_sources 80 = .ok (.irem, 1) := by decide +kernel
theorem dX12_sources_81 : decode cX12_sources 81 = .ok (.iadd, 1) := by decide +kernel
theorem dX12_sources_82 : decode cX12_sources 82 = .ok (.ireturn, 1) := by decide +kernel
theorem dX12_sources_83 : decode cX12_sources 83 = .ok (.iinc 3 1, 3) := by decide +kernel
theorem dX12_sources_86 : decode cX12_sources 86 = .ok (.iinc 4 1, 3) := by decide +kernel
theorem dX12_sources_89 : decode cX12_sources 89 = .ok (.goto (-53), 3) := by decide +kernel
theorem dX12_sources_92 : decode cX12_sources 92 = .ok (.iconst (-1), 1) := by decide +kernel
theorem dX12_sources_93 : decode cX12_sources 93 = .ok (.ireturn, 1) := by decide +kernel
theorem dX12_mostAlike_0 : decode cX12_mostAlike 0 = .ok (.iconst 0, 1) := by decide +kernel
theorem dX12_mostAlike_1 : decode cX12_mostAlike 1 = .ok (.istore_n 3, 1) := by decide +kernel
theorem dX12_mostAlike_2 : decode cX12_mostAlike 2 = .ok (.iconst 0, 1) := by decide +kernel
theorem dX12_mostAlike_3 : decode cX12_mostAlike 3 = .ok (.istore 4, 2) := by decide +kernel
theorem dX12_mostAlike_5 : decode cX12_mostAlike 5 = .ok (.iload 4, 2) := by decide +kernel
theorem dX12_mostAlike_7 : decode cX12_mostAlike 7 = .ok (.bipush 99, 2) := by decide +kernel
theorem dX12_mostAlike_9 : decode cX12_mostAlike 9 = .ok (.if_icmp .gt 17, 3) := by decide +kernel
theorem dX12_mostAlike_12 : decode cX12_mostAlike 12 = .ok (.aload_n 0, 1) := by decide +kernel
theorem dX12_mostAlike_13 : decode cX12_mostAlike 13 = .ok (.getfield 159, 3) := by decide +kernel
theorem dX12_mostAlike_16 : decode cX12_mostAlike 16 = .ok (.iload 4, 2) := by decide +kernel
theorem dX12_mostAlike_18 : decode cX12_mostAlike 18 = .ok (.iconst 0, 1) := by decide +kernel
theorem dX12_mostAlike_19 : decode cX12_mostAlike 19 = .ok (.iastore, 1) := by decide +kernel
theorem dX12_mostAlike_20 : decode cX12_mostAlike 20 = .ok (.iinc 4 1, 3) := by decide +kernel
theorem dX12_mostAlike_23 : decode cX12_mostAlike 23 = .ok (.goto (-18), 3) := by decide +kernel
theorem dX12_mostAlike_26 : decode cX12_mostAlike 26 = .ok (.iconst 0, 1) := by decide +kernel
theorem dX12_mostAlike_27 : decode cX12_mostAlike 27 = .ok (.istore 4, 2) := by decide +kernel
theorem dX12_mostAlike_29 : decode cX12_mostAlike 29 = .ok (.iload 4, 2) := by decide +kernel
theorem dX12_mostAlike_31 : decode cX12_mostAlike 31 = .ok (.bipush 99, 2) := by decide +kernel
theorem dX12_mostAlike_33 : decode cX12_mostAlike 33 = .ok (.aload_n 0, 1) := by decide +kernel
theorem dX12_mostAlike_34 : decode cX12_mostAlike 34 = .ok (.invokevirtual 397, 3) := by decide +kernel
theorem dX12_mostAlike_37 : decode cX12_mostAlike 37 = .ok (.imul, 1) := by decide +kernel
theorem dX12_mostAlike_38 : decode cX12_mostAlike 38 = .ok (.if_icmp .ge 72, 3) := by decide +kernel
theorem dX12_mostAlike_41 : decode cX12_mostAlike 41 = .ok (.aload_n 0, 1) := by decide +kernel
theorem dX12_mostAlike_42 : decode cX12_mostAlike 42 = .ok (.getfield 152, 3) := by decide +kernel
theorem dX12_mostAlike_45 : decode cX12_mostAlike 45 = .ok (.iload 4, 2) := by decide +kernel
theorem dX12_mostAlike_47 : decode cX12_mostAlike 47 = .ok (.baload, 1) := by decide +kernel
theorem dX12_mostAlike_48 : decode cX12_mostAlike 48 = .ok (.ifCond .ne 6, 3) := by decide +kernel
theorem dX12_mostAlike_51 : decode cX12_mostAlike 51 = .ok (.goto 53, 3) := by decide +kernel
theorem dX12_mostAlike_54 : decode cX12_mostAlike 54 = .ok (.aload_n 0, 1) := by decide +kernel
theorem dX12_mostAlike_55 : decode cX12_mostAlike 55 = .ok (.getfield 156, 3) := by decide +kernel
theorem dX12_mostAlike_58 : decode cX12_mostAlike 58 = .ok (.sipush 248, 3) := by decide +kernel
theorem dX12_mostAlike_61 : decode cX12_mostAlike 61 = .ok (.iload 4, 2) := by decide +kernel
theorem dX12_mostAlike_63 : decode cX12_mostAlike 63 = .ok (.imul, 1) := by decide +kernel
theorem dX12_mostAlike_64 : decode cX12_mostAlike 64 = .ok (.bipush 8, 2) := by decide +kernel
theorem dX12_mostAlike_66 : decode cX12_mostAlike 66 = .ok (.iload_n 1, 1) := by decide +kernel
theorem dX12_mostAlike_67 : decode cX12_mostAlike 67 = .ok (.imul, 1) := by decide +kernel
theorem dX12_mostAlike_68 : decode cX12_mostAlike 68 = .ok (.iadd, 1) := by decide +kernel
theorem dX12_mostAlike_69 : decode cX12_mostAlike 69 = .ok (.iload_n 2, 1) := by decide +kernel
theorem dX12_mostAlike_70 : decode cX12_mostAlike 70 = .ok (.iadd, 1) := by decide +kernel
theorem dX12_mostAlike_71 : decode cX12_mostAlike 71 = .ok (.iaload, 1) := by decide +kernel
theorem dX12_mostAlike_72 : decode cX12_mostAlike 72 = .ok (.istore 5, 2) := by decide +kernel
theorem dX12_mostAlike_74 : decode cX12_mostAlike 74 = .ok (.aload_n 0, 1) := by decide +kernel
theorem dX12_mostAlike_75 : decode cX12_mostAlike 75 = .ok (.getfield 159, 3) := by decide +kernel
theorem dX12_mostAlike_78 : decode cX12_mostAlike 78 = .ok (.iload 5, 2) := by decide +kernel
theorem dX12_mostAlike_80 : decode cX12_mostAlike 80 = .ok (.dup2, 1) := by decide +kernel
theorem dX12_mostAlike_81 : decode cX12_mostAlike 81 = .ok (.iaload, 1) := by decide +kernel
theorem dX12_mostAlike_82 : decode cX12_mostAlike 82 = .ok (.iconst 1, 1) := by decide +kernel
theorem dX12_mostAlike_83 : decode cX12_mostAlike 83 = .ok (.iadd, 1) := by decide +kernel
theorem dX12_mostAlike_84 : decode cX12_mostAlike 84 = .ok (.iastore, 1) := by decide +kernel
theorem dX12_mostAlike_85 : decode cX12_mostAlike 85 = .ok (.aload_n 0, 1) := by decide +kernel
theorem dX12_mostAlike_86 : decode cX12_mostAlike 86 = .ok (.getfield 159, 3) := by decide +kernel
theorem dX12_mostAlike_89 : decode cX12_mostAlike 89 = .ok (.iload 5, 2) := by decide +kernel
theorem dX12_mostAlike_91 : decode cX12_mostAlike 91 = .ok (.iaload, 1) := by decide +kernel
theorem dX12_mostAlike_92 : decode cX12_mostAlike 92 = .ok (.iload_n 3, 1) := by decide +kernel
theorem dX12_mostAlike_93 : decode cX12_mostAlike 93 = .ok (.if_icmp .le 11, 3) := by decide +kernel
theorem dX12_mostAlike_96 : decode cX12_mostAlike 96 = .ok (.aload_n 0, 1) := by decide +kernel
theorem dX12_mostAlike_97 : decode cX12_mostAlike 97 = .ok (.getfield 159, 3) := by decide +kernel
theorem dX12_mostAlike_100 : decode cX12_mostAlike 100 = .ok (.iload 5, 2) := by decide +kernel
theorem dX12_mostAlike_102 : decode cX12_mostAlike 102 = .ok (.iaload, 1) := by decide +kernel
theorem dX12_mostAlike_103 : decode cX12_mostAlike 103 = .ok (.istore_n 3, 1) := by decide +kernel
theorem dX12_mostAlike_104 : decode cX12_mostAlike 104 = .ok (.iinc 4 1, 3) := by decide +kernel
theorem dX12_mostAlike_107 : decode cX12_mostAlike 107 = .ok (.goto (-78), 3) := by decide +kernel
theorem dX12_mostAlike_110 : decode cX12_mostAlike 110 = .ok (.iload_n 3, 1) := by decide +kernel
theorem dX12_mostAlike_111 : decode cX12_mostAlike 111 = .ok (.ireturn, 1) := by decide +kernel
theorem dX12_tells_0 : decode cX12_tells 0 = .ok (.aload_n 0, 1) := by decide +kernel
theorem dX12_tells_1 : decode cX12_tells 1 = .ok (.iload_n 1, 1) := by decide +kernel
theorem dX12_tells_2 : decode cX12_tells 2 = .ok (.i2l, 1) := by decide +kernel
theorem dX12_tells_3 : decode cX12_tells 3 = .ok (.invokevirtual 511, 3) := by decide +kernel
theorem dX12_tells_6 : decode cX12_tells 6 = .ok (.ifCond .eq 15, 3) := by decide +kernel
theorem dX12_tells_9 : decode cX12_tells 9 = .ok (.iload_n 2, 1) := by decide +kernel
theorem dX12_tells_10 : decode cX12_tells 10 = .ok (.i2l, 1) := by decide +kernel
theorem dX12_tells_11 : decode cX12_tells 11 = .ok (.lconst 0, 1) := by decide +kernel
theorem dX12_tells_12 : decode cX12_tells 12 = .ok (.ldc2_w 562, 3) := by decide +kernel
theorem dX12_tells_15 : decode cX12_tells 15 = .ok (.invokestatic 295, 3) := by decide +kernel
theorem dX12_tells_18 : decode cX12_tells 18 = .ok (.ifCond .ne 5, 3) := by decide +kernel
theorem dX12_tells_21 : decode cX12_tells 21 = .ok (.iconst (-1), 1) := by decide +kernel
theorem dX12_tells_22 : decode cX12_tells 22 = .ok (.ireturn, 1) := by decide +kernel
theorem dX12_tells_23 : decode cX12_tells 23 = .ok (.aload_n 0, 1) := by decide +kernel
theorem dX12_tells_24 : decode cX12_tells 24 = .ok (.iload_n 1, 1) := by decide +kernel
theorem dX12_tells_25 : decode cX12_tells 25 = .ok (.invokevirtual 559, 3) := by decide +kernel
theorem dX12_tells_28 : decode cX12_tells 28 = .ok (.iconst (-1), 1) := by decide +kernel
theorem dX12_tells_29 : decode cX12_tells 29 = .ok (.istore_n 3, 1) := by decide +kernel
theorem dX12_tells_30 : decode cX12_tells 30 = .ok (.iconst (-1), 1) := by decide +kernel
theorem dX12_tells_31 : decode cX12_tells 31 = .ok (.istore 4, 2) := by decide +kernel
theorem dX12_tells_33 : decode cX12_tells 33 = .ok (.iconst 0, 1) := by decide +kernel
theorem dX12_tells_34 : decode cX12_tells 34 = .ok (.istore 5, 2) := by decide +kernel
theorem dX12_tells_36 : decode cX12_tells 36 = .ok (.iconst 1, 1) := by decide +kernel
theorem dX12_tells_37 : decode cX12_tells 37 = .ok (.istore 6, 2) := by decide +kernel
theorem dX12_tells_39 : decode cX12_tells 39 = .ok (.aload_n 0, 1) := by decide +kernel
theorem dX12_tells_40 : decode cX12_tells 40 = .ok (.getfield 553, 3) := by decide +kernel
theorem dX12_tells_43 : decode cX12_tells 43 = .ok (.ifCond .le 75, 3) := by decide +kernel
theorem dX12_tells_46 : decode cX12_tells 46 = .ok (.aload_n 0, 1) := by decide +kernel
theorem dX12_tells_47 : decode cX12_tells 47 = .ok (.iload 6, 2) := by decide +kernel
theorem dX12_tells_49 : decode cX12_tells 49 = .ok (.iconst 1, 1) := by decide +kernel
theorem dX12_tells_50 : decode cX12_tells 50 = .ok (.bipush 30, 2) := by decide +kernel
theorem dX12_tells_52 : decode cX12_tells 52 = .ok (.invokevirtual 514, 3) := by decide +kernel
theorem dX12_tells_55 : decode cX12_tells 55 = .ok (.ifCond .eq 63, 3) := by decide +kernel
theorem dX12_tells_58 : decode cX12_tells 58 = .ok (.iconst 0, 1) := by decide +kernel
theorem dX12_tells_59 : decode cX12_tells 59 = .ok (.istore 7, 2) := by decide +kernel
theorem dX12_tells_61 : decode cX12_tells 61 = .ok (.iload 7, 2) := by decide +kernel
theorem dX12_tells_63 : decode cX12_tells 63 = .ok (.aload_n 0, 1) := by decide +kernel
theorem dX12_tells_64 : decode cX12_tells 64 = .ok (.invokevirtual 397, 3) := by decide +kernel
theorem dX12_tells_67 : decode cX12_tells 67 = .ok (.if_icmp .ge 45, 3) := by decide +kernel
theorem dX12_tells_70 : decode cX12_tells 70 = .ok (.aload_n 0, 1) := by decide +kernel
theorem dX12_tells_71 : decode cX12_tells 71 = .ok (.iload 6, 2) := by decide +kernel
theorem dX12_tells_73 : decode cX12_tells 73 = .ok (.iload 7, 2) := by decide +kernel
theorem dX12_tells_75 : decode cX12_tells 75 = .ok (.invokevirtual 564, 3) := by decide +kernel
theorem dX12_tells_78 : decode cX12_tells 78 = .ok (.istore 8, 2) := by decide +kernel
theorem dX12_tells_80 : decode cX12_tells 80 = .ok (.iload_n 3, 1) := by decide +kernel
theorem dX12_tells_81 : decode cX12_tells 81 = .ok (.iconst (-1), 1) := by decide +kernel
theorem dX12_tells_82 : decode cX12_tells 82 = .ok (.if_icmp .eq 13, 3) := by decide +kernel
theorem dX12_tells_85 : decode cX12_tells 85 = .ok (.iload 8, 2) := by decide +kernel
theorem dX12_tells_87 : decode cX12_tells 87 = .ok (.iload 5, 2) := by decide +kernel
theorem dX12_tells_89 : decode cX12_tells 89 = .ok (.if_icmp .lt 6, 3) := by decide +kernel
theorem dX12_tells_92 : decode cX12_tells 92 = .ok (.goto 14, 3) := by decide +kernel
theorem dX12_tells_95 : decode cX12_tells 95 = .ok (.iload 6, 2) := by decide +kernel
theorem dX12_tells_97 : decode cX12_tells 97 = .ok (.istore_n 3, 1) := by decide +kernel
theorem dX12_tells_98 : decode cX12_tells 98 = .ok (.iload 7, 2) := by decide +kernel
theorem dX12_tells_100 : decode cX12_tells 100 = .ok (.istore 4, 2) := by decide +kernel
theorem dX12_tells_102 : decode cX12_tells 102 = .ok (.iload 8, 2) := by decide +kernel
theorem dX12_tells_104 : decode cX12_tells 104 = .ok (.istore 5, 2) := by decide +kernel
theorem dX12_tells_106 : decode cX12_tells 106 = .ok (.iinc 7 1, 3) := by decide +kernel
theorem dX12_tells_109 : decode cX12_tells 109 = .ok (.goto (-48), 3) := by decide +kernel
theorem dX12_tells_112 : decode cX12_tells 112 = .ok (.iinc 6 1, 3) := by decide +kernel
theorem dX12_tells_115 : decode cX12_tells 115 = .ok (.goto (-76), 3) := by decide +kernel
theorem dX12_tells_118 : decode cX12_tells 118 = .ok (.iload_n 3, 1) := by decide +kernel
theorem dX12_tells_119 : decode cX12_tells 119 = .ok (.iconst (-1), 1) := by decide +kernel
theorem dX12_tells_120 : decode cX12_tells 120 = .ok (.if_icmp .ne 7, 3) := by decide +kernel
theorem dX12_tells_123 : decode cX12_tells 123 = .ok (.iconst (-1), 1) := by decide +kernel
theorem dX12_tells_124 : decode cX12_tells 124 = .ok (.goto 23, 3) := by decide +kernel
theorem dX12_tells_127 : decode cX12_tells 127 = .ok (.iload_n 2, 1) := by decide +kernel
theorem dX12_tells_128 : decode cX12_tells 128 = .ok (.ifCond .ne 7, 3) := by decide +kernel
theorem dX12_tells_131 : decode cX12_tells 131 = .ok (.iload_n 3, 1) := by decide +kernel
theorem dX12_tells_132 : decode cX12_tells 132 = .ok (.goto 15, 3) := by decide +kernel
theorem dX12_tells_135 : decode cX12_tells 135 = .ok (.iload_n 2, 1) := by decide +kernel
theorem dX12_tells_136 : decode cX12_tells 136 = .ok (.iconst 1, 1) := by decide +kernel
theorem dX12_tells_137 : decode cX12_tells 137 = .ok (.if_icmp .ne 8, 3) := by decide +kernel
theorem dX12_tells_140 : decode cX12_tells 140 = .ok (.iload 4, 2) := by decide +kernel
theorem dX12_tells_142 : decode cX12_tells 142 = .ok (.goto 5, 3) := by decide +kernel
theorem dX12_tells_145 : decode cX12_tells 145 = .ok (.iload 5, 2) := by decide +kernel
theorem dX12_tells_147 : decode cX12_tells 147 = .ok (.ireturn, 1) := by decide +kernel
theorem dX12_keeps_0 : decode cX12_keeps 0 = .ok (.aload_n 0, 1) := by decide +kernel
theorem dX12_keeps_1 : decode cX12_keeps 1 = .ok (.aload_n 0, 1) := by decide +kernel
theorem dX12_keeps_2 : decode cX12_keeps 2 = .ok (.getfield 567, 3) := by decide +kernel
theorem dX12_keeps_5 : decode cX12_keeps 5 = .ok (.iconst 1, 1) := by decide +kernel
theorem dX12_keeps_6 : decode cX12_keeps 6 = .ok (.iadd, 1) := by decide +kernel
theorem dX12_keeps_7 : decode cX12_keeps 7 = .ok (.bipush 20, 2) := by decide +kernel
theorem dX12_keeps_9 : decode cX12_keeps 9 = .ok (.irem, 1) := by decide +kernel
theorem dX12_keeps_10 : decode cX12_keeps 10 = .ok (.putfield 567, 3) := by decide +kernel
theorem dX12_keeps_13 : decode cX12_keeps 13 = .ok (.iconst 0, 1) := by decide +kernel
theorem dX12_keeps_14 : decode cX12_keeps 14 = .ok (.istore_n 1, 1) := by decide +kernel
theorem dX12_keeps_15 : decode cX12_keeps 15 = .ok (.iload_n 1, 1) := by decide +kernel
theorem dX12_keeps_16 : decode cX12_keeps 16 = .ok (.sipush 218, 3) := by decide +kernel
theorem dX12_keeps_19 : decode cX12_keeps 19 = .ok (.if_icmp .ge 30, 3) := by decide +kernel
theorem dX12_keeps_22 : decode cX12_keeps 22 = .ok (.aload_n 0, 1) := by decide +kernel
theorem dX12_keeps_23 : decode cX12_keeps 23 = .ok (.getfield 162, 3) := by decide +kernel
theorem dX12_keeps_26 : decode cX12_keeps 26 = .ok (.sipush 218, 3) := by decide +kernel
theorem dX12_keeps_29 : decode cX12_keeps 29 = .ok (.aload_n 0, 1) := by decide +kernel
theorem dX12_keeps_30 : decode cX12_keeps 30 = .ok (.getfield 567, 3) := by decide +kernel
theorem dX12_keeps_33 : decode cX12_keeps 33 = .ok (.imul, 1) := by decide +kernel
theorem dX12_keeps_34 : decode cX12_keeps 34 = .ok (.iload_n 1, 1) := by decide +kernel
theorem dX12_keeps_35 : decode cX12_keeps 35 = .ok (.iadd, 1) := by decide +kernel
theorem dX12_keeps_36 : decode cX12_keeps 36 = .ok (.aload_n 0, 1) := by decide +kernel
theorem dX12_keeps_37 : decode cX12_keeps 37 = .ok (.getfield 124, 3) := by decide +kernel
theorem dX12_keeps_40 : decode cX12_keeps 40 = .ok (.iload_n 1, 1) := by decide +kernel
theorem dX12_keeps_41 : decode cX12_keeps 41 = .ok (.iaload, 1) := by decide +kernel
theorem dX12_keeps_42 : decode cX12_keeps 42 = .ok (.iastore, 1) := by decide +kernel
theorem dX12_keeps_43 : decode cX12_keeps 43 = .ok (.iinc 1 1, 3) := by decide +kernel
theorem dX12_keeps_46 : decode cX12_keeps 46 = .ok (.goto (-31), 3) := by decide +kernel
theorem dX12_keeps_49 : decode cX12_keeps 49 = .ok (.aload_n 0, 1) := by decide +kernel
theorem dX12_keeps_50 : decode cX12_keeps 50 = .ok (.getfield 391, 3) := by decide +kernel
theorem dX12_keeps_53 : decode cX12_keeps 53 = .ok (.bipush 20, 2) := by decide +kernel
theorem dX12_keeps_55 : decode cX12_keeps 55 = .ok (.if_icmp .ge 13, 3) := by decide +kernel
theorem dX12_keeps_58 : decode cX12_keeps 58 = .ok (.aload_n 0, 1) := by decide +kernel
theorem dX12_keeps_59 : decode cX12_keeps 59 = .ok (.dup, 1) := by decide +kernel
theorem dX12_keeps_60 : decode cX12_keeps 60 = .ok (.getfield 391, 3) := by decide +kernel
theorem dX12_keeps_63 : decode cX12_keeps 63 = .ok (.iconst 1, 1) := by decide +kernel
theorem dX12_keeps_64 : decode cX12_keeps 64 = .ok (.iadd, 1) := by decide +kernel
theorem dX12_keeps_65 : decode cX12_keeps 65 = .ok (.putfield 391, 3) := by decide +kernel
theorem dX12_keeps_68 : decode cX12_keeps 68 = .ok (.return_, 1) := by decide +kernel
theorem dX12_undo_0 : decode cX12_undo 0 = .ok (.aload_n 0, 1) := by decide +kernel
theorem dX12_undo_1 : decode cX12_undo 1 = .ok (.getfield 391, 3) := by decide +kernel
theorem dX12_undo_4 : decode cX12_undo 4 = .ok (.ifCond .ne 15, 3) := by decide +kernel
theorem dX12_undo_7 : decode cX12_undo 7 = .ok (.aload_n 0, 1) := by decide +kernel
theorem dX12_undo_8 : decode cX12_undo 8 = .ok (.getfield 17, 3) := by decide +kernel
theorem dX12_undo_11 : decode cX12_undo 11 = .ok (.iconst 4, 1) := by decide +kernel
theorem dX12_undo_12 : decode cX12_undo 12 = .ok (.dup2, 1) := by decide +kernel
theorem dX12_undo_13 : decode cX12_undo 13 = .ok (.iaload, 1) := by decide +kernel
theorem dX12_undo_14 : decode cX12_undo 14 = .ok (.iconst 1, 1) := by decide +kernel
theorem dX12_undo_15 : decode cX12_undo 15 = .ok (.iadd, 1) := by decide +kernel
theorem dX12_undo_16 : decode cX12_undo 16 = .ok (.iastore, 1) := by decide +kernel
theorem dX12_undo_17 : decode cX12_undo 17 = .ok (.iconst 0, 1) := by decide +kernel
theorem dX12_undo_18 : decode cX12_undo 18 = .ok (.ireturn, 1) := by decide +kernel
theorem dX12_undo_19 : decode cX12_undo 19 = .ok (.iconst 0, 1) := by decide +kernel
theorem dX12_undo_20 : decode cX12_undo 20 = .ok (.istore_n 1, 1) := by decide +kernel
theorem dX12_undo_21 : decode cX12_undo 21 = .ok (.iload_n 1, 1) := by decide +kernel
theorem dX12_undo_22 : decode cX12_undo 22 = .ok (.sipush 218, 3) := by decide +kernel
theorem dX12_undo_25 : decode cX12_undo 25 = .ok (.if_icmp .ge 30, 3) := by decide +kernel
theorem dX12_undo_28 : decode cX12_undo 28 = .ok (.aload_n 0, 1) := by decide +kernel
theorem dX12_undo_29 : decode cX12_undo 29 = .ok (.getfield 124, 3) := by decide +kernel
theorem dX12_undo_32 : decode cX12_undo 32 = .ok (.iload_n 1, 1) := by decide +kernel
theorem dX12_undo_33 : decode cX12_undo 33 = .ok (.aload_n 0, 1) := by decide +kernel
theorem dX12_undo_34 : decode cX12_undo 34 = .ok (.getfield 162, 3) := by decide +kernel
theorem dX12_undo_37 : decode cX12_undo 37 = .ok (.sipush 218, 3) := by decide +kernel
theorem dX12_undo_40 : decode cX12_undo 40 = .ok (.aload_n 0, 1) := by decide +kernel
theorem dX12_undo_41 : decode cX12_undo 41 = .ok (.getfield 567, 3) := by decide +kernel
theorem dX12_undo_44 : decode cX12_undo 44 = .ok (.imul, 1) := by decide +kernel
theorem dX12_undo_45 : decode cX12_undo 45 = .ok (.iload_n 1, 1) := by decide +kernel
theorem dX12_undo_46 : decode cX12_undo 46 = .ok (.iadd, 1) := by decide +kernel
theorem dX12_undo_47 : decode cX12_undo 47 = .ok (.iaload, 1) := by decide +kernel
theorem dX12_undo_48 : decode cX12_undo 48 = .ok (.iastore, 1) := by decide +kernel
theorem dX12_undo_49 : decode cX12_undo 49 = .ok (.iinc 1 1, 3) := by decide +kernel
theorem dX12_undo_52 : decode cX12_undo 52 = .ok (.goto (-31), 3) := by decide +kernel
theorem dX12_undo_55 : decode cX12_undo 55 = .ok (.aload_n 0, 1) := by decide +kernel
theorem dX12_undo_56 : decode cX12_undo 56 = .ok (.aload_n 0, 1) := by decide +kernel
theorem dX12_undo_57 : decode cX12_undo 57 = .ok (.getfield 567, 3) := by decide +kernel
theorem dX12_undo_60 : decode cX12_undo 60 = .ok (.bipush 20, 2) := by decide +kernel
theorem dX12_undo_62 : decode cX12_undo 62 = .ok (.iadd, 1) := by decide +kernel
theorem dX12_undo_63 : decode cX12_undo 63 = .ok (.iconst 1, 1) := by decide +kernel
theorem dX12_undo_64 : decode cX12_undo 64 = .ok (.isub, 1) := by decide +kernel
theorem dX12_undo_65 : decode cX12_undo 65 = .ok (.bipush 20, 2) := by decide +kernel
theorem dX12_undo_67 : decode cX12_undo 67 = .ok (.irem, 1) := by decide +kernel
theorem dX12_undo_68 : decode cX12_undo 68 = .ok (.putfield 567, 3) := by decide +kernel
theorem dX12_undo_71 : decode cX12_undo 71 = .ok (.aload_n 0, 1) := by decide +kernel
theorem dX12_undo_72 : decode cX12_undo 72 = .ok (.dup, 1) := by decide +kernel
theorem dX12_undo_73 : decode cX12_undo 73 = .ok (.getfield 391, 3) := by decide +kernel
theorem dX12_undo_76 : decode cX12_undo 76 = .ok (.iconst 1, 1) := by decide +kernel
theorem dX12_undo_77 : decode cX12_undo 77 = .ok (.isub, 1) := by decide +kernel
theorem dX12_undo_78 : decode cX12_undo 78 = .ok (.putfield 391, 3) := by decide +kernel
theorem dX12_undo_81 : decode cX12_undo 81 = .ok (.iconst 1, 1) := by decide +kernel
theorem dX12_undo_82 : decode cX12_undo 82 = .ok (.ireturn, 1) := by decide +kernel
theorem dX12_isChanged_0 : decode cX12_isChanged 0 = .ok (.iload_n 1, 1) := by decide +kernel
theorem dX12_isChanged_1 : decode cX12_isChanged 1 = .ok (.ifCond .eq 13, 3) := by decide +kernel
theorem dX12_isChanged_4 : decode cX12_isChanged 4 = .ok (.aload_n 0, 1) := by decide +kernel
theorem dX12_isChanged_5 : decode cX12_isChanged 5 = .ok (.getfield 124, 3) := by decide +kernel
theorem dX12_isChanged_8 : decode cX12_isChanged 8 = .ok (.iload_n 2, 1) := by decide +kernel
theorem dX12_isChanged_9 : decode cX12_isChanged 9 = .ok (.iaload, 1) := by decide +kernel
theorem dX12_isChanged_10 : decode cX12_isChanged 10 = .ok (.iload_n 3, 1) := by decide +kernel
theorem dX12_isChanged_11 : decode cX12_isChanged 11 = .ok (.if_icmp .ne 15, 3) := by decide +kernel
theorem dX12_isChanged_14 : decode cX12_isChanged 14 = .ok (.aload_n 0, 1) := by decide +kernel
theorem dX12_isChanged_15 : decode cX12_isChanged 15 = .ok (.getfield 17, 3) := by decide +kernel
theorem dX12_isChanged_18 : decode cX12_isChanged 18 = .ok (.iconst 2, 1) := by decide +kernel
theorem dX12_isChanged_19 : decode cX12_isChanged 19 = .ok (.dup2, 1) := by decide +kernel
theorem dX12_isChanged_20 : decode cX12_isChanged 20 = .ok (.iaload, 1) := by decide +kernel
theorem dX12_isChanged_21 : decode cX12_isChanged 21 = .ok (.iconst 1, 1) := by decide +kernel
theorem dX12_isChanged_22 : decode cX12_isChanged 22 = .ok (.iadd, 1) := by decide +kernel
theorem dX12_isChanged_23 : decode cX12_isChanged 23 = .ok (.iastore, 1) := by decide +kernel
theorem dX12_isChanged_24 : decode cX12_isChanged 24 = .ok (.iconst 0, 1) := by decide +kernel
theorem dX12_isChanged_25 : decode cX12_isChanged 25 = .ok (.ireturn, 1) := by decide +kernel
theorem dX12_isChanged_26 : decode cX12_isChanged 26 = .ok (.aload_n 0, 1) := by decide +kernel
theorem dX12_isChanged_27 : decode cX12_isChanged 27 = .ok (.invokevirtual 570, 3) := by decide +kernel
theorem dX12_isChanged_30 : decode cX12_isChanged 30 = .ok (.aload_n 0, 1) := by decide +kernel
theorem dX12_isChanged_31 : decode cX12_isChanged 31 = .ok (.getfield 124, 3) := by decide +kernel
theorem dX12_isChanged_34 : decode cX12_isChanged 34 = .ok (.iload_n 2, 1) := by decide +kernel
theorem dX12_isChanged_35 : decode cX12_isChanged 35 = .ok (.iload_n 3, 1) := by decide +kernel
theorem dX12_isChanged_36 : decode cX12_isChanged 36 = .ok (.iastore, 1) := by decide +kernel
theorem dX12_isChanged_37 : decode cX12_isChanged 37 = .ok (.iconst 1, 1) := by decide +kernel
theorem dX12_isChanged_38 : decode cX12_isChanged 38 = .ok (.ireturn, 1) := by decide +kernel
theorem dX12_put_0 : decode cX12_put 0 = .ok (.aload_n 0, 1) := by decide +kernel
theorem dX12_put_1 : decode cX12_put 1 = .ok (.iload_n 1, 1) := by decide +kernel
theorem dX12_put_2 : decode cX12_put 2 = .ok (.i2l, 1) := by decide +kernel
theorem dX12_put_3 : decode cX12_put 3 = .ok (.invokevirtual 496, 3) := by decide +kernel
theorem dX12_put_6 : decode cX12_put 6 = .ok (.ifCond .eq 28, 3) := by decide +kernel
theorem dX12_put_9 : decode cX12_put 9 = .ok (.aload_n 0, 1) := by decide +kernel
theorem dX12_put_10 : decode cX12_put 10 = .ok (.iload_n 2, 1) := by decide +kernel
theorem dX12_put_11 : decode cX12_put 11 = .ok (.i2l, 1) := by decide +kernel
theorem dX12_put_12 : decode cX12_put 12 = .ok (.invokevirtual 511, 3) := by decide +kernel
theorem dX12_put_15 : decode cX12_put 15 = .ok (.ifCond .eq 19, 3) := by decide +kernel
theorem dX12_put_18 : decode cX12_put 18 = .ok (.iload_n 3, 1) := by decide +kernel
theorem dX12_put_19 : decode cX12_put 19 = .ok (.i2l, 1) := by decide +kernel
theorem dX12_put_20 : decode cX12_put 20 = .ok (.lconst 0, 1) := by decide +kernel
theorem dX12_put_21 : decode cX12_put 21 = .ok (.ldc2_w 247, 3) := by decide +kernel
theorem dX12_put_24 : decode cX12_put 24 = .ok (.invokestatic 295, 3) := by decide +kernel
theorem dX12_put_27 : decode cX12_put 27 = .ok (.ifCond .eq 7, 3) := by decide +kernel
theorem dX12_put_30 : decode cX12_put 30 = .ok (.iconst 1, 1) := by decide +kernel
theorem dX12_put_31 : decode cX12_put 31 = .ok (.goto 4, 3) := by decide +kernel
theorem dX12_put_34 : decode cX12_put 34 = .ok (.iconst 0, 1) := by decide +kernel
theorem dX12_put_35 : decode cX12_put 35 = .ok (.istore 4, 2) := by decide +kernel
theorem dX12_put_37 : decode cX12_put 37 = .ok (.aload_n 0, 1) := by decide +kernel
theorem dX12_put_38 : decode cX12_put 38 = .ok (.iload 4, 2) := by decide +kernel
theorem dX12_put_40 : decode cX12_put 40 = .ok (.iload 4, 2) := by decide +kernel
theorem dX12_put_42 : decode cX12_put 42 = .ok (.ifCond .eq 14, 3) := by decide +kernel
theorem dX12_put_45 : decode cX12_put 45 = .ok (.bipush 25, 2) := by decide +kernel
theorem dX12_put_47 : decode cX12_put 47 = .ok (.iconst 4, 1) := by decide +kernel
theorem dX12_put_48 : decode cX12_put 48 = .ok (.iload_n 1, 1) := by decide +kernel
theorem dX12_put_49 : decode cX12_put 49 = .ok (.imul, 1) := by decide +kernel
theorem dX12_put_50 : decode cX12_put 50 = .ok (.iadd, 1) := by decide +kernel
theorem dX12_put_51 : decode cX12_put 51 = .ok (.iload_n 2, 1) := by decide +kernel
theorem dX12_put_52 : decode cX12_put 52 = .ok (.iadd, 1) := by decide +kernel
theorem dX12_put_53 : decode cX12_put 53 = .ok (.goto 4, 3) := by decide +kernel
theorem dX12_put_56 : decode cX12_put 56 = .ok (.iconst 0, 1) := by decide +kernel
theorem dX12_put_57 : decode cX12_put 57 = .ok (.iload_n 3, 1) := by decide +kernel
theorem dX12_put_58 : decode cX12_put 58 = .ok (.invokevirtual 573, 3) := by decide +kernel
theorem dX12_put_61 : decode cX12_put 61 = .ok (.ireturn, 1) := by decide +kernel
theorem dX12_turn_0 : decode cX12_turn 0 = .ok (.aload_n 0, 1) := by decide +kernel
theorem dX12_turn_1 : decode cX12_turn 1 = .ok (.iload_n 1, 1) := by decide +kernel
theorem dX12_turn_2 : decode cX12_turn 2 = .ok (.invokevirtual 506, 3) := by decide +kernel
theorem dX12_turn_5 : decode cX12_turn 5 = .ok (.ifCond .eq 17, 3) := by decide +kernel
theorem dX12_turn_8 : decode cX12_turn 8 = .ok (.iload_n 2, 1) := by decide +kernel
theorem dX12_turn_9 : decode cX12_turn 9 = .ok (.i2l, 1) := by decide +kernel
theorem dX12_turn_10 : decode cX12_turn 10 = .ok (.lconst 0, 1) := by decide +kernel
theorem dX12_turn_11 : decode cX12_turn 11 = .ok (.lconst 1, 1) := by decide +kernel
theorem dX12_turn_12 : decode cX12_turn 12 = .ok (.invokestatic 295, 3) := by decide +kernel
theorem dX12_turn_15 : decode cX12_turn 15 = .ok (.ifCond .eq 7, 3) := by decide +kernel
theorem dX12_turn_18 : decode cX12_turn 18 = .ok (.iconst 1, 1) := by decide +kernel
theorem dX12_turn_19 : decode cX12_turn 19 = .ok (.goto 4, 3) := by decide +kernel
theorem dX12_turn_22 : decode cX12_turn 22 = .ok (.iconst 0, 1) := by decide +kernel
theorem dX12_turn_23 : decode cX12_turn 23 = .ok (.istore_n 3, 1) := by decide +kernel
theorem dX12_turn_24 : decode cX12_turn 24 = .ok (.aload_n 0, 1) := by decide +kernel
theorem dX12_turn_25 : decode cX12_turn 25 = .ok (.iload_n 3, 1) := by decide +kernel
theorem dX12_turn_26 : decode cX12_turn 26 = .ok (.iload_n 3, 1) := by decide +kernel
theorem dX12_turn_27 : decode cX12_turn 27 = .ok (.ifCond .eq 11, 3) := by decide +kernel
theorem dX12_turn_30 : decode cX12_turn 30 = .ok (.iconst 2, 1) := by decide +kernel
theorem dX12_turn_31 : decode cX12_turn 31 = .ok (.iconst 2, 1) := by decide +kernel
theorem dX12_turn_32 : decode cX12_turn 32 = .ok (.iload_n 1, 1) := by decide +kernel
theorem dX12_turn_33 : decode cX12_turn 33 = .ok (.imul, 1) := by decide +kernel
theorem dX12_turn_34 : decode cX12_turn 34 = .ok (.iadd, 1) := by decide +kernel
theorem dX12_turn_35 : decode cX12_turn 35 = .ok (.goto 4, 3) := by decide +kernel
theorem dX12_turn_38 : decode cX12_turn 38 = .ok (.iconst 0, 1) := by decide +kernel
theorem dX12_turn_39 : decode cX12_turn 39 = .ok (.iload_n 2, 1) := by decide +kernel
theorem dX12_turn_40 : decode cX12_turn 40 = .ok (.invokevirtual 573, 3) := by decide +kernel
theorem dX12_turn_43 : decode cX12_turn 43 = .ok (.ireturn, 1) := by decide +kernel
theorem dX12_pull_0 : decode cX12_pull 0 = .ok (.aload_n 0, 1) := by decide +kernel
theorem dX12_pull_1 : decode cX12_pull 1 = .ok (.iload_n 1, 1) := by decide +kernel
theorem dX12_pull_2 : decode cX12_pull 2 = .ok (.invokevirtual 506, 3) := by decide +kernel
theorem dX12_pull_5 : decode cX12_pull 5 = .ok (.ifCond .eq 17, 3) := by decide +kernel
theorem dX12_pull_8 : decode cX12_pull 8 = .ok (.iload_n 2, 1) := by decide +kernel
theorem dX12_pull_9 : decode cX12_pull 9 = .ok (.i2l, 1) := by decide +kernel
theorem dX12_pull_10 : decode cX12_pull 10 = .ok (.lconst 0, 1) := by decide +kernel
theorem dX12_pull_11 : decode cX12_pull 11 = .ok (.lconst 1, 1) := by decide +kernel
theorem dX12_pull_12 : decode cX12_pull 12 = .ok (.invokestatic 295, 3) := by decide +kernel
theorem dX12_pull_15 : decode cX12_pull 15 = .ok (.ifCond .eq 7, 3) := by decide +kernel
theorem dX12_pull_18 : decode cX12_pull 18 = .ok (.iconst 1, 1) := by decide +kernel
theorem dX12_pull_19 : decode cX12_pull 19 = .ok (.goto 4, 3) := by decide +kernel
theorem dX12_pull_22 : decode cX12_pull 22 = .ok (.iconst 0, 1) := by decide +kernel
theorem dX12_pull_23 : decode cX12_pull 23 = .ok (.istore_n 3, 1) := by decide +kernel
theorem dX12_pull_24 : decode cX12_pull 24 = .ok (.aload_n 0, 1) := by decide +kernel
theorem dX12_pull_25 : decode cX12_pull 25 = .ok (.iload_n 3, 1) := by decide +kernel
theorem dX12_pull_26 : decode cX12_pull 26 = .ok (.iload_n 3, 1) := by decide +kernel
theorem dX12_pull_27 : decode cX12_pull 27 = .ok (.ifCond .eq 11, 3) := by decide +kernel
theorem dX12_pull_30 : decode cX12_pull 30 = .ok (.iconst 1, 1) := by decide +kernel
theorem dX12_pull_31 : decode cX12_pull 31 = .ok (.iconst 2, 1) := by decide +kernel
theorem dX12_pull_32 : decode cX12_pull 32 = .ok (.iload_n 1, 1) := by decide +kernel
theorem dX12_pull_33 : decode cX12_pull 33 = .ok (.imul, 1) := by decide +kernel
theorem dX12_pull_34 : decode cX12_pull 34 = .ok (.iadd, 1) := by decide +kernel
theorem dX12_pull_35 : decode cX12_pull 35 = .ok (.goto 4, 3) := by decide +kernel
theorem dX12_pull_38 : decode cX12_pull 38 = .ok (.iconst 0, 1) := by decide +kernel
theorem dX12_pull_39 : decode cX12_pull 39 = .ok (.iload_n 2, 1) := by decide +kernel
theorem dX12_pull_40 : decode cX12_pull 40 = .ok (.invokevirtual 573, 3) := by decide +kernel
theorem dX12_pull_43 : decode cX12_pull 43 = .ok (.ireturn, 1) := by decide +kernel
theorem dX12_days_0 : decode cX12_days 0 = .ok (.aload_n 0, 1) := by decide +kernel
theorem dX12_days_1 : decode cX12_days 1 = .ok (.iload_n 1, 1) := by decide +kernel
theorem dX12_days_2 : decode cX12_days 2 = .ok (.iconst 1, 1) := by decide +kernel
theorem dX12_days_3 : decode cX12_days 3 = .ok (.bipush 100, 2) := by decide +kernel
theorem dX12_days_5 : decode cX12_days 5 = .ok (.invokevirtual 514, 3) := by decide +kernel
theorem dX12_days_8 : decode cX12_days 8 = .ok (.ifCond .ne 9, 3) := by decide +kernel
theorem dX12_days_11 : decode cX12_days 11 = .ok (.aload_n 0, 1) := by decide +kernel
theorem dX12_days_12 : decode cX12_days 12 = .ok (.iconst 3, 1) := by decide +kernel
theorem dX12_days_13 : decode cX12_days 13 = .ok (.invokevirtual 547, 3) := by decide +kernel
theorem dX12_days_16 : decode cX12_days 16 = .ok (.ireturn, 1) := by decide +kernel
theorem dX12_days_17 : decode cX12_days 17 = .ok (.aload_n 0, 1) := by decide +kernel
theorem dX12_days_18 : decode cX12_days 18 = .ok (.invokevirtual 570, 3) := by decide +kernel
theorem dX12_days_21 : decode cX12_days 21 = .ok (.aload_n 0, 1) := by decide +kernel
theorem dX12_days_22 : decode cX12_days 22 = .ok (.iload_n 1, 1) := by decide +kernel
theorem dX12_days_23 : decode cX12_days 23 = .ok (.invokevirtual 529, 3) := by decide +kernel
theorem dX12_days_26 : decode cX12_days 26 = .ok (.aload_n 0, 1) := by decide +kernel
theorem dX12_days_27 : decode cX12_days 27 = .ok (.getfield 467, 3) := by decide +kernel
theorem dX12_days_30 : decode cX12_days 30 = .ok (.ireturn, 1) := by decide +kernel
theorem dX12_seed_0 : decode cX12_seed 0 = .ok (.iload_n 1, 1) := by decide +kernel
theorem dX12_seed_1 : decode cX12_seed 1 = .ok (.ifCond .ge 15, 3) := by decide +kernel
theorem dX12_seed_4 : decode cX12_seed 4 = .ok (.aload_n 0, 1) := by decide +kernel
theorem dX12_seed_5 : decode cX12_seed 5 = .ok (.getfield 17, 3) := by decide +kernel
theorem dX12_seed_8 : decode cX12_seed 8 = .ok (.iconst 5, 1) := by decide +kernel
theorem dX12_seed_9 : decode cX12_seed 9 = .ok (.dup2, 1) := by decide +kernel
theorem dX12_seed_10 : decode cX12_seed 10 = .ok (.iaload, 1) := by decide +kernel
theorem dX12_seed_11 : decode cX12_seed 11 = .ok (.iconst 1, 1) := by decide +kernel
theorem dX12_seed_12 : decode cX12_seed 12 = .ok (.iadd, 1) := by decide +kernel
theorem dX12_seed_13 : decode cX12_seed 13 = .ok (.iastore, 1) := by decide +kernel
theorem dX12_seed_14 : decode cX12_seed 14 = .ok (.iconst 0, 1) := by decide +kernel
theorem dX12_seed_15 : decode cX12_seed 15 = .ok (.ireturn, 1) := by decide +kernel
theorem dX12_seed_16 : decode cX12_seed 16 = .ok (.aload_n 0, 1) := by decide +kernel
theorem dX12_seed_17 : decode cX12_seed 17 = .ok (.iload_n 1, 1) := by decide +kernel
theorem dX12_seed_18 : decode cX12_seed 18 = .ok (.i2l, 1) := by decide +kernel
theorem dX12_seed_19 : decode cX12_seed 19 = .ok (.putfield 165, 3) := by decide +kernel
theorem dX12_seed_22 : decode cX12_seed 22 = .ok (.iconst 1, 1) := by decide +kernel
theorem dX12_seed_23 : decode cX12_seed 23 = .ok (.ireturn, 1) := by decide +kernel
theorem dX12_drawOf_0 : decode cX12_drawOf 0 = .ok (.aload_n 0, 1) := by decide +kernel
theorem dX12_drawOf_1 : decode cX12_drawOf 1 = .ok (.ldc2_w 577, 3) := by decide +kernel
theorem dX12_drawOf_4 : decode cX12_drawOf 4 = .ok (.aload_n 0, 1) := by decide +kernel
theorem dX12_drawOf_5 : decode cX12_drawOf 5 = .ok (.getfield 165, 3) := by decide +kernel
theorem dX12_drawOf_8 : decode cX12_drawOf 8 = .ok (.lmul, 1) := by decide +kernel
theorem dX12_drawOf_9 : decode cX12_drawOf 9 = .ok (.ldc2_w 579, 3) := by decide +kernel
theorem dX12_drawOf_12 : decode cX12_drawOf 12 = .ok (.ladd, 1) := by decide +kernel
theorem dX12_drawOf_13 : decode cX12_drawOf 13 = .ok (.ldc2_w 581, 3) := by decide +kernel
theorem dX12_drawOf_16 : decode cX12_drawOf 16 = .ok (.lrem, 1) := by decide +kernel
theorem dX12_drawOf_17 : decode cX12_drawOf 17 = .ok (.putfield 165, 3) := by decide +kernel
theorem dX12_drawOf_20 : decode cX12_drawOf 20 = .ok (.aload_n 0, 1) := by decide +kernel
theorem dX12_drawOf_21 : decode cX12_drawOf 21 = .ok (.getfield 165, 3) := by decide +kernel
theorem dX12_drawOf_24 : decode cX12_drawOf 24 = .ok (.ldc2_w 583, 3) := by decide +kernel
theorem dX12_drawOf_27 : decode cX12_drawOf 27 = .ok (.ldiv, 1) := by decide +kernel
theorem dX12_drawOf_28 : decode cX12_drawOf 28 = .ok (.iload_n 1, 1) := by decide +kernel
theorem dX12_drawOf_29 : decode cX12_drawOf 29 = .ok (.i2l, 1) := by decide +kernel
theorem dX12_drawOf_30 : decode cX12_drawOf 30 = .ok (.lrem, 1) := by decide +kernel
theorem dX12_drawOf_31 : decode cX12_drawOf 31 = .ok (.l2i, 1) := by decide +kernel
theorem dX12_drawOf_32 : decode cX12_drawOf 32 = .ok (.ireturn, 1) := by decide +kernel
theorem dX12_chance_0 : decode cX12_chance 0 = .ok (.aload_n 0, 1) := by decide +kernel
theorem dX12_chance_1 : decode cX12_chance 1 = .ok (.iload_n 1, 1) := by decide +kernel
theorem dX12_chance_2 : decode cX12_chance 2 = .ok (.iconst 1, 1) := by decide +kernel
theorem dX12_chance_3 : decode cX12_chance 3 = .ok (.bipush 100, 2) := by decide +kernel
theorem dX12_chance_5 : decode cX12_chance 5 = .ok (.invokevirtual 514, 3) := by decide +kernel
theorem dX12_chance_8 : decode cX12_chance 8 = .ok (.ifCond .ne 9, 3) := by decide +kernel
theorem dX12_chance_11 : decode cX12_chance 11 = .ok (.aload_n 0, 1) := by decide +kernel
theorem dX12_chance_12 : decode cX12_chance 12 = .ok (.iconst 3, 1) := by decide +kernel
theorem dX12_chance_13 : decode cX12_chance 13 = .ok (.invokevirtual 547, 3) := by decide +kernel
theorem dX12_chance_16 : decode cX12_chance 16 = .ok (.ireturn, 1) := by decide +kernel
theorem dX12_chance_17 : decode cX12_chance 17 = .ok (.aload_n 0, 1) := by decide +kernel
theorem dX12_chance_18 : decode cX12_chance 18 = .ok (.invokevirtual 570, 3) := by decide +kernel
theorem dX12_chance_21 : decode cX12_chance 21 = .ok (.iconst 0, 1) := by decide +kernel
theorem dX12_chance_22 : decode cX12_chance 22 = .ok (.istore_n 2, 1) := by decide +kernel
theorem dX12_chance_23 : decode cX12_chance 23 = .ok (.iconst 0, 1) := by decide +kernel
theorem dX12_chance_24 : decode cX12_chance 24 = .ok (.istore_n 3, 1) := by decide +kernel
theorem dX12_chance_25 : decode cX12_chance 25 = .ok (.iload_n 3, 1) := by decide +kernel
theorem dX12_chance_26 : decode cX12_chance 26 = .ok (.iload_n 1, 1) := by decide +kernel
theorem dX12_chance_27 : decode cX12_chance 27 = .ok (.if_icmp .ge 60, 3) := by decide +kernel
theorem dX12_chance_30 : decode cX12_chance 30 = .ok (.aload_n 0, 1) := by decide +kernel
theorem dX12_chance_31 : decode cX12_chance 31 = .ok (.bipush 100, 2) := by decide +kernel
theorem dX12_chance_33 : decode cX12_chance 33 = .ok (.invokevirtual 585, 3) := by decide +kernel
theorem dX12_chance_36 : decode cX12_chance 36 = .ok (.aload_n 0, 1) := by decide +kernel
theorem dX12_chance_37 : decode cX12_chance 37 = .ok (.getfield 99, 3) := by decide +kernel
theorem dX12_chance_40 : decode cX12_chance 40 = .ok (.bipush 7, 2) := by decide +kernel
theorem dX12_chance_42 : decode cX12_chance 42 = .ok (.iaload, 1) := by decide +kernel
theorem dX12_chance_43 : decode cX12_chance 43 = .ok (.if_icmp .ge 34, 3) := by decide +kernel
theorem dX12_chance_46 : decode cX12_chance 46 = .ok (.aload_n 0, 1) := by decide +kernel
theorem dX12_chance_47 : decode cX12_chance 47 = .ok (.invokevirtual 403, 3) := by decide +kernel
theorem dX12_chance_50 : decode cX12_chance 50 = .ok (.ifCond .le 27, 3) := by decide +kernel
theorem dX12_chance_53 : decode cX12_chance 53 = .ok (.aload_n 0, 1) := by decide +kernel
theorem dX12_chance_54 : decode cX12_chance 54 = .ok (.getfield 124, 3) := by decide +kernel
theorem dX12_chance_57 : decode cX12_chance 57 = .ok (.iconst 2, 1) := by decide +kernel
theorem dX12_chance_58 : decode cX12_chance 58 = .ok (.iconst 2, 1) := by decide +kernel
theorem dX12_chance_59 : decode cX12_chance 59 = .ok (.aload_n 0, 1) := by decide +kernel
theorem dX12_chance_60 : decode cX12_chance 60 = .ok (.aload_n 0, 1) := by decide +kernel
theorem dX12_chance_61 : decode cX12_chance 61 = .ok (.invokevirtual 403, 3) := by decide +kernel
theorem dX12_chance_64 : decode cX12_chance 64 = .ok (.invokevirtual 585, 3) := by decide +kernel
theorem dX12_chance_67 : decode cX12_chance 67 = .ok (.imul, 1) := by decide +kernel
theorem dX12_chance_68 : decode cX12_chance 68 = .ok (.iadd, 1) := by decide +kernel
theorem dX12_chance_69 : decode cX12_chance 69 = .ok (.dup2, 1) := by decide +kernel
theorem dX12_chance_70 : decode cX12_chance 70 = .ok (.iaload, 1) := by decide +kernel
theorem dX12_chance_71 : decode cX12_chance 71 = .ok (.iconst 1, 1) := by decide +kernel
theorem dX12_chance_72 : decode cX12_chance 72 = .ok (.ixor, 1) := by decide +kernel
theorem dX12_chance_73 : decode cX12_chance 73 = .ok (.iastore, 1) := by decide +kernel
theorem dX12_chance_74 : decode cX12_chance 74 = .ok (.iinc 2 1, 3) := by decide +kernel
theorem dX12_chance_77 : decode cX12_chance 77 = .ok (.aload_n 0, 1) := by decide +kernel
theorem dX12_chance_78 : decode cX12_chance 78 = .ok (.invokevirtual 484, 3) := by decide +kernel
theorem dX12_chance_81 : decode cX12_chance 81 = .ok (.iinc 3 1, 3) := by decide +kernel
theorem dX12_chance_84 : decode cX12_chance 84 = .ok (.goto (-59), 3) := by decide +kernel
theorem dX12_chance_87 : decode cX12_chance 87 = .ok (.iload_n 2, 1) := by decide +kernel
theorem dX12_chance_88 : decode cX12_chance 88 = .ok (.ireturn, 1) := by decide +kernel
theorem dX12_qOf_0 : decode cX12_qOf 0 = .ok (.iload_n 1, 1) := by decide +kernel
theorem dX12_qOf_1 : decode cX12_qOf 1 = .ok (.lookupswitch 41 #[(0, 19)], 19) := by decide +kernel
theorem dX12_qOf_20 : decode cX12_qOf 20 = .ok (.aload_n 0, 1) := by decide +kernel
theorem dX12_qOf_21 : decode cX12_qOf 21 = .ok (.lload_n 2, 1) := by decide +kernel
theorem dX12_qOf_22 : decode cX12_qOf 22 = .ok (.invokevirtual 511, 3) := by decide +kernel
theorem dX12_qOf_25 : decode cX12_qOf 25 = .ok (.ifCond .eq 15, 3) := by decide +kernel
theorem dX12_qOf_28 : decode cX12_qOf 28 = .ok (.aload_n 0, 1) := by decide +kernel
theorem dX12_qOf_29 : decode cX12_qOf 29 = .ok (.iload 4, 2) := by decide +kernel
theorem dX12_qOf_31 : decode cX12_qOf 31 = .ok (.lload_n 2, 1) := by decide +kernel
theorem dX12_qOf_32 : decode cX12_qOf 32 = .ok (.l2i, 1) := by decide +kernel
theorem dX12_qOf_33 : decode cX12_qOf 33 = .ok (.invokevirtual 452, 3) := by decide +kernel
theorem dX12_qOf_36 : decode cX12_qOf 36 = .ok (.i2l, 1) := by decide +kernel
theorem dX12_qOf_37 : decode cX12_qOf 37 = .ok (.goto 4, 3) := by decide +kernel
theorem dX12_qOf_40 : decode cX12_qOf 40 = .ok (.lconst 0, 1) := by decide +kernel
theorem dX12_qOf_41 : decode cX12_qOf 41 = .ok (.lreturn, 1) := by decide +kernel
theorem dX12_qOf_42 : decode cX12_qOf 42 = .ok (.aload_n 0, 1) := by decide +kernel
theorem dX12_qOf_43 : decode cX12_qOf 43 = .ok (.lload_n 2, 1) := by decide +kernel
theorem dX12_qOf_44 : decode cX12_qOf 44 = .ok (.invokevirtual 496, 3) := by decide +kernel
theorem dX12_qOf_47 : decode cX12_qOf 47 = .ok (.ifCond .eq 20, 3) := by decide +kernel
theorem dX12_qOf_50 : decode cX12_qOf 50 = .ok (.aload_n 0, 1) := by decide +kernel
theorem dX12_qOf_51 : decode cX12_qOf 51 = .ok (.getfield 136, 3) := by decide +kernel
theorem dX12_qOf_54 : decode cX12_qOf 54 = .ok (.bipush 8, 2) := by decide +kernel
theorem dX12_qOf_56 : decode cX12_qOf 56 = .ok (.iload 4, 2) := by decide +kernel
theorem dX12_qOf_58 : decode cX12_qOf 58 = .ok (.imul, 1) := by decide +kernel
theorem dX12_qOf_59 : decode cX12_qOf 59 = .ok (.lload_n 2, 1) := by decide +kernel
theorem dX12_qOf_60 : decode cX12_qOf 60 = .ok (.l2i, 1) := by decide +kernel
theorem dX12_qOf_61 : decode cX12_qOf 61 = .ok (.iadd, 1) := by decide +kernel
theorem dX12_qOf_62 : decode cX12_qOf 62 = .ok (.iaload, 1) := by decide +kernel
theorem dX12_qOf_63 : decode cX12_qOf 63 = .ok (.i2l, 1) := by decide +kernel
theorem dX12_qOf_64 : decode cX12_qOf 64 = .ok (.goto 6, 3) := by decide +kernel
theorem dX12_qOf_67 : decode cX12_qOf 67 = .ok (.ldc2_w 654, 3) := by decide +kernel
theorem dX12_qOf_70 : decode cX12_qOf 70 = .ok (.lreturn, 1) := by decide +kernel
theorem dX12_qTold_0 : decode cX12_qTold 0 = .ok (.aload_n 0, 1) := by decide +kernel
theorem dX12_qTold_1 : decode cX12_qTold 1 = .ok (.iconst 0, 1) := by decide +kernel
theorem dX12_qTold_2 : decode cX12_qTold 2 = .ok (.putfield 412, 3) := by decide +kernel
theorem dX12_qTold_5 : decode cX12_qTold 5 = .ok (.iconst 0, 1) := by decide +kernel
theorem dX12_qTold_6 : decode cX12_qTold 6 = .ok (.istore_n 2, 1) := by decide +kernel
theorem dX12_qTold_7 : decode cX12_qTold 7 = .ok (.iload_n 2, 1) := by decide +kernel
theorem dX12_qTold_8 : decode cX12_qTold 8 = .ok (.aload_n 0, 1) := by decide +kernel
theorem dX12_qTold_9 : decode cX12_qTold 9 = .ok (.getfield 339, 3) := by decide +kernel
theorem dX12_qTold_12 : decode cX12_qTold 12 = .ok (.if_icmp .ge 156, 3) := by decide +kernel
theorem dX12_qTold_15 : decode cX12_qTold 15 = .ok (.aload_n 0, 1) := by decide +kernel
theorem dX12_qTold_16 : decode cX12_qTold 16 = .ok (.getfield 235, 3) := by decide +kernel
theorem dX12_qTold_19 : decode cX12_qTold 19 = .ok (.iload_n 2, 1) := by decide +kernel
theorem dX12_qTold_20 : decode cX12_qTold 20 = .ok (.iaload, 1) := by decide +kernel
theorem dX12_qTold_21 : decode cX12_qTold 21 = .ok (.istore_n 3, 1) := by decide +kernel
theorem dX12_qTold_22 : decode cX12_qTold 22 = .ok (.iload_n 3, 1) := by decide +kernel
theorem dX12_qTold_23 : decode cX12_qTold 23 = .ok (.sipush 1000, 3) := by decide +kernel
theorem dX12_qTold_26 : decode cX12_qTold 26 = .ok (.if_icmp .lt 16, 3) := by decide +kernel
theorem dX12_qTold_29 : decode cX12_qTold 29 = .ok (.aload_n 0, 1) := by decide +kernel
theorem dX12_qTold_30 : decode cX12_qTold 30 = .ok (.iload_n 3, 1) := by decide +kernel
theorem dX12_qTold_31 : decode cX12_qTold 31 = .ok (.sipush 1000, 3) := by decide +kernel
theorem dX12_qTold_34 : decode cX12_qTold 34 = .ok (.isub, 1) := by decide +kernel
theorem dX12_qTold_35 : decode cX12_qTold 35 = .ok (.i2l, 1) := by decide +kernel
theorem dX12_qTold_36 : decode cX12_qTold 36 = .ok (.invokevirtual 415, 3) := by decide +kernel
theorem dX12_qTold_39 : decode cX12_qTold 39 = .ok (.goto 123, 3) := by decide +kernel
theorem dX12_qTold_42 : decode cX12_qTold 42 = .ok (.iload_n 3, 1) := by decide +kernel
theorem dX12_qTold_43 : decode cX12_qTold 43 = .ok (.bipush 60, 2) := by decide +kernel
theorem dX12_qTold_45 : decode cX12_qTold 45 = .ok (.if_icmp .lt 40, 3) := by decide +kernel
theorem dX12_qTold_48 : decode cX12_qTold 48 = .ok (.aload_n 0, 1) := by decide +kernel
theorem dX12_qTold_49 : decode cX12_qTold 49 = .ok (.getfield 241, 3) := by decide +kernel
theorem dX12_qTold_52 : decode cX12_qTold 52 = .ok (.aload_n 0, 1) := by decide +kernel
theorem dX12_qTold_53 : decode cX12_qTold 53 = .ok (.getfield 412, 3) := by decide +kernel
theorem dX12_qTold_56 : decode cX12_qTold 56 = .ok (.iconst 1, 1) := by decide +kernel
theorem dX12_qTold_57 : decode cX12_qTold 57 = .ok (.isub, 1) := by decide +kernel
theorem dX12_qTold_58 : decode cX12_qTold 58 = .ok (.aload_n 0, 1) := by decide +kernel
theorem dX12_qTold_59 : decode cX12_qTold 59 = .ok (.iload_n 3, 1) := by decide +kernel
theorem dX12_qTold_60 : decode cX12_qTold 60 = .ok (.bipush 60, 2) := by decide +kernel
theorem dX12_qTold_62 : decode cX12_qTold 62 = .ok (.isub, 1) := by decide +kernel
theorem dX12_qTold_63 : decode cX12_qTold 63 = .ok (.aload_n 0, 1) := by decide +kernel
theorem dX12_qTold_64 : decode cX12_qTold 64 = .ok (.getfield 241, 3) := by decide +kernel
theorem dX12_qTold_67 : decode cX12_qTold 67 = .ok (.aload_n 0, 1) := by decide +kernel
theorem dX12_qTold_68 : decode cX12_qTold 68 = .ok (.getfield 412, 3) := by decide +kernel
theorem dX12_qTold_71 : decode cX12_qTold 71 = .ok (.iconst 1, 1) := by decide +kernel
theorem dX12_qTold_72 : decode cX12_qTold 72 = .ok (.isub, 1) := by decide +kernel
theorem dX12_qTold_73 : decode cX12_qTold 73 = .ok (.laload, 1) := by decide +kernel
theorem dX12_qTold_74 : decode cX12_qTold 74 = .ok (.iload_n 1, 1) := by decide +kernel
theorem dX12_qTold_75 : decode cX12_qTold 75 = .ok (.invokevirtual 656, 3) := by decide +kernel
theorem dX12_qTold_78 : decode cX12_qTold 78 = .ok (.invokestatic 646, 3) := by decide +kernel
theorem dX12_qTold_81 : decode cX12_qTold 81 = .ok (.lastore, 1) := by decide +kernel
theorem dX12_qTold_82 : decode cX12_qTold 82 = .ok (.goto 80, 3) := by decide +kernel
theorem dX12_qTold_85 : decode cX12_qTold 85 = .ok (.iload_n 3, 1) := by decide +kernel
theorem dX12_qTold_86 : decode cX12_qTold 86 = .ok (.bipush 40, 2) := by decide +kernel
theorem dX12_qTold_88 : decode cX12_qTold 88 = .ok (.if_icmp .lt 22, 3) := by decide +kernel
theorem dX12_qTold_91 : decode cX12_qTold 91 = .ok (.aload_n 0, 1) := by decide +kernel
theorem dX12_qTold_92 : decode cX12_qTold 92 = .ok (.aload_n 0, 1) := by decide +kernel
theorem dX12_qTold_93 : decode cX12_qTold 93 = .ok (.iload_n 3, 1) := by decide +kernel
theorem dX12_qTold_94 : decode cX12_qTold 94 = .ok (.bipush 40, 2) := by decide +kernel
theorem dX12_qTold_96 : decode cX12_qTold 96 = .ok (.isub, 1) := by decide +kernel
theorem dX12_qTold_97 : decode cX12_qTold 97 = .ok (.iload_n 1, 1) := by decide +kernel
theorem dX12_qTold_98 : decode cX12_qTold 98 = .ok (.invokevirtual 419, 3) := by decide +kernel
theorem dX12_qTold_101 : decode cX12_qTold 101 = .ok (.invokestatic 646, 3) := by decide +kernel
theorem dX12_qTold_104 : decode cX12_qTold 104 = .ok (.invokevirtual 415, 3) := by decide +kernel
theorem dX12_qTold_107 : decode cX12_qTold 107 = .ok (.goto 55, 3) := by decide +kernel
theorem dX12_qTold_110 : decode cX12_qTold 110 = .ok (.iload_n 3, 1) := by decide +kernel
theorem dX12_qTold_111 : decode cX12_qTold 111 = .ok (.bipush 13, 2) := by decide +kernel
theorem dX12_qTold_113 : decode cX12_qTold 113 = .ok (.if_icmp .ne 11, 3) := by decide +kernel
theorem dX12_qTold_116 : decode cX12_qTold 116 = .ok (.aload_n 0, 1) := by decide +kernel
theorem dX12_qTold_117 : decode cX12_qTold 117 = .ok (.lconst 1, 1) := by decide +kernel
theorem dX12_qTold_118 : decode cX12_qTold 118 = .ok (.invokevirtual 415, 3) := by decide +kernel
theorem dX12_qTold_121 : decode cX12_qTold 121 = .ok (.goto 41, 3) := by decide +kernel
theorem dX12_qTold_124 : decode cX12_qTold 124 = .ok (.iload_n 3, 1) := by decide +kernel
theorem dX12_qTold_125 : decode cX12_qTold 125 = .ok (.bipush 12, 2) := by decide +kernel
theorem dX12_qTold_127 : decode cX12_qTold 127 = .ok (.if_icmp .ne 30, 3) := by decide +kernel
theorem dX12_qTold_130 : decode cX12_qTold 130 = .ok (.aload_n 0, 1) := by decide +kernel
theorem dX12_qTold_131 : decode cX12_qTold 131 = .ok (.getfield 241, 3) := by decide +kernel
theorem dX12_qTold_134 : decode cX12_qTold 134 = .ok (.aload_n 0, 1) := by decide +kernel
theorem dX12_qTold_135 : decode cX12_qTold 135 = .ok (.getfield 412, 3) := by decide +kernel
theorem dX12_qTold_138 : decode cX12_qTold 138 = .ok (.iconst 1, 1) := by decide +kernel
theorem dX12_qTold_139 : decode cX12_qTold 139 = .ok (.isub, 1) := by decide +kernel
theorem dX12_qTold_140 : decode cX12_qTold 140 = .ok (.lconst 1, 1) := by decide +kernel
theorem dX12_qTold_141 : decode cX12_qTold 141 = .ok (.aload_n 0, 1) := by decide +kernel
theorem dX12_qTold_142 : decode cX12_qTold 142 = .ok (.getfield 241, 3) := by decide +kernel
theorem dX12_qTold_145 : decode cX12_qTold 145 = .ok (.aload_n 0, 1) := by decide +kernel
theorem dX12_qTold_146 : decode cX12_qTold 146 = .ok (.getfield 412, 3) := by decide +kernel
theorem dX12_qTold_149 : decode cX12_qTold 149 = .ok (.iconst 1, 1) := by decide +kernel
theorem dX12_qTold_150 : decode cX12_qTold 150 = .ok (.isub, 1) := by decide +kernel
theorem dX12_qTold_151 : decode cX12_qTold 151 = .ok (.laload, 1) := by decide +kernel
theorem dX12_qTold_152 : decode cX12_qTold 152 = .ok (.lsub, 1) := by decide +kernel
theorem dX12_qTold_153 : decode cX12_qTold 153 = .ok (.lastore, 1) := by decide +kernel
theorem dX12_qTold_154 : decode cX12_qTold 154 = .ok (.goto 8, 3) := by decide +kernel
theorem dX12_qTold_157 : decode cX12_qTold 157 = .ok (.aload_n 0, 1) := by decide +kernel
theorem dX12_qTold_158 : decode cX12_qTold 158 = .ok (.iload_n 3, 1) := by decide +kernel
theorem dX12_qTold_159 : decode cX12_qTold 159 = .ok (.invokevirtual 423, 3) := by decide +kernel
theorem dX12_qTold_162 : decode cX12_qTold 162 = .ok (.iinc 2 1, 3) := by decide +kernel
theorem dX12_qTold_165 : decode cX12_qTold 165 = .ok (.goto (-158), 3) := by decide +kernel
theorem dX12_qTold_168 : decode cX12_qTold 168 = .ok (.aload_n 0, 1) := by decide +kernel
theorem dX12_qTold_169 : decode cX12_qTold 169 = .ok (.getfield 241, 3) := by decide +kernel
theorem dX12_qTold_172 : decode cX12_qTold 172 = .ok (.iconst 0, 1) := by decide +kernel
theorem dX12_qTold_173 : decode cX12_qTold 173 = .ok (.laload, 1) := by decide +kernel
theorem dX12_qTold_174 : decode cX12_qTold 174 = .ok (.lreturn, 1) := by decide +kernel
theorem dX12_qKind_0 : decode cX12_qKind 0 = .ok (.aload_n 0, 1) := by decide +kernel
theorem dX12_qKind_1 : decode cX12_qKind 1 = .ok (.aload_n 0, 1) := by decide +kernel
theorem dX12_qKind_2 : decode cX12_qKind 2 = .ok (.getfield 169, 3) := by decide +kernel
theorem dX12_qKind_5 : decode cX12_qKind 5 = .ok (.invokevirtual 279, 3) := by decide +kernel
theorem dX12_qKind_8 : decode cX12_qKind 8 = .ok (.ifCond .eq 7, 3) := by decide +kernel
theorem dX12_qKind_11 : decode cX12_qKind 11 = .ok (.iconst 0, 1) := by decide +kernel
theorem dX12_qKind_12 : decode cX12_qKind 12 = .ok (.goto 64, 3) := by decide +kernel
theorem dX12_qKind_15 : decode cX12_qKind 15 = .ok (.aload_n 0, 1) := by decide +kernel
theorem dX12_qKind_16 : decode cX12_qKind 16 = .ok (.aload_n 0, 1) := by decide +kernel
theorem dX12_qKind_17 : decode cX12_qKind 17 = .ok (.getfield 172, 3) := by decide +kernel
theorem dX12_qKind_20 : decode cX12_qKind 20 = .ok (.invokevirtual 279, 3) := by decide +kernel
theorem dX12_qKind_23 : decode cX12_qKind 23 = .ok (.ifCond .eq 7, 3) := by decide +kernel
theorem dX12_qKind_26 : decode cX12_qKind 26 = .ok (.iconst 1, 1) := by decide +kernel
theorem dX12_qKind_27 : decode cX12_qKind 27 = .ok (.goto 49, 3) := by decide +kernel
theorem dX12_qKind_30 : decode cX12_qKind 30 = .ok (.aload_n 0, 1) := by decide +kernel
theorem dX12_qKind_31 : decode cX12_qKind 31 = .ok (.aload_n 0, 1) := by decide +kernel
theorem dX12_qKind_32 : decode cX12_qKind 32 = .ok (.getfield 175, 3) := by decide +kernel
theorem dX12_qKind_35 : decode cX12_qKind 35 = .ok (.invokevirtual 279, 3) := by decide +kernel
theorem dX12_qKind_38 : decode cX12_qKind 38 = .ok (.ifCond .eq 7, 3) := by decide +kernel
theorem dX12_qKind_41 : decode cX12_qKind 41 = .ok (.iconst 2, 1) := by decide +kernel
theorem dX12_qKind_42 : decode cX12_qKind 42 = .ok (.goto 34, 3) := by decide +kernel
theorem dX12_qKind_45 : decode cX12_qKind 45 = .ok (.aload_n 0, 1) := by decide +kernel
theorem dX12_qKind_46 : decode cX12_qKind 46 = .ok (.aload_n 0, 1) := by decide +kernel
theorem dX12_qKind_47 : decode cX12_qKind 47 = .ok (.getfield 178, 3) := by decide +kernel
theorem dX12_qKind_50 : decode cX12_qKind 50 = .ok (.invokevirtual 279, 3) := by decide +kernel
theorem dX12_qKind_53 : decode cX12_qKind 53 = .ok (.ifCond .eq 7, 3) := by decide +kernel
theorem dX12_qKind_56 : decode cX12_qKind 56 = .ok (.iconst 3, 1) := by decide +kernel
theorem dX12_qKind_57 : decode cX12_qKind 57 = .ok (.goto 19, 3) := by decide +kernel
theorem dX12_qKind_60 : decode cX12_qKind 60 = .ok (.aload_n 0, 1) := by decide +kernel
theorem dX12_qKind_61 : decode cX12_qKind 61 = .ok (.aload_n 0, 1) := by decide +kernel
theorem dX12_qKind_62 : decode cX12_qKind 62 = .ok (.getfield 181, 3) := by decide +kernel
theorem dX12_qKind_65 : decode cX12_qKind 65 = .ok (.invokevirtual 279, 3) := by decide +kernel
theorem dX12_qKind_68 : decode cX12_qKind 68 = .ok (.ifCond .eq 7, 3) := by decide +kernel
theorem dX12_qKind_71 : decode cX12_qKind 71 = .ok (.iconst 4, 1) := by decide +kernel
theorem dX12_qKind_72 : decode cX12_qKind 72 = .ok (.goto 4, 3) := by decide +kernel
theorem dX12_qKind_75 : decode cX12_qKind 75 = .ok (.iconst 5, 1) := by decide +kernel
theorem dX12_qKind_76 : decode cX12_qKind 76 = .ok (.istore_n 1, 1) := by decide +kernel
theorem dX12_qKind_77 : decode cX12_qKind 77 = .ok (.iload_n 1, 1) := by decide +kernel
theorem dX12_qKind_78 : decode cX12_qKind 78 = .ok (.iconst 5, 1) := by decide +kernel
theorem dX12_qKind_79 : decode cX12_qKind 79 = .ok (.if_icmp .ne 11, 3) := by decide +kernel
theorem dX12_qKind_82 : decode cX12_qKind 82 = .ok (.aload_n 0, 1) := by decide +kernel
theorem dX12_qKind_83 : decode cX12_qKind 83 = .ok (.aload_n 0, 1) := by decide +kernel
theorem dX12_qKind_84 : decode cX12_qKind 84 = .ok (.getfield 184, 3) := by decide +kernel
theorem dX12_qKind_87 : decode cX12_qKind 87 = .ok (.invokevirtual 328, 3) := by decide +kernel
theorem dX12_qKind_90 : decode cX12_qKind 90 = .ok (.iload_n 1, 1) := by decide +kernel
theorem dX12_qKind_91 : decode cX12_qKind 91 = .ok (.ireturn, 1) := by decide +kernel
theorem dX12_qTakes_0 : decode cX12_qTakes 0 = .ok (.iload_n 1, 1) := by decide +kernel
theorem dX12_qTakes_1 : decode cX12_qTakes 1 = .ok (.iconst 3, 1) := by decide +kernel
theorem dX12_qTakes_2 : decode cX12_qTakes 2 = .ok (.if_icmp .ge 13, 3) := by decide +kernel
theorem dX12_qTakes_5 : decode cX12_qTakes 5 = .ok (.lload_n 2, 1) := by decide +kernel
theorem dX12_qTakes_6 : decode cX12_qTakes 6 = .ok (.lconst 1, 1) := by decide +kernel
theorem dX12_qTakes_7 : decode cX12_qTakes 7 = .ok (.lcmp, 1) := by decide +kernel
theorem dX12_qTakes_8 : decode cX12_qTakes 8 = .ok (.ifCond .ne 7, 3) := by decide +kernel
theorem dX12_qTakes_11 : decode cX12_qTakes 11 = .ok (.iconst 1, 1) := by decide +kernel
theorem dX12_qTakes_12 : decode cX12_qTakes 12 = .ok (.goto 4, 3) := by decide +kernel
theorem dX12_qTakes_15 : decode cX12_qTakes 15 = .ok (.iconst 0, 1) := by decide +kernel
theorem dX12_qTakes_16 : decode cX12_qTakes 16 = .ok (.istore 5, 2) := by decide +kernel
theorem dX12_qTakes_18 : decode cX12_qTakes 18 = .ok (.iload_n 1, 1) := by decide +kernel
theorem dX12_qTakes_19 : decode cX12_qTakes 19 = .ok (.ifCond .ne 19, 3) := by decide +kernel
theorem dX12_qTakes_22 : decode cX12_qTakes 22 = .ok (.iload 5, 2) := by decide +kernel
theorem dX12_qTakes_24 : decode cX12_qTakes 24 = .ok (.ifCond .eq 14, 3) := by decide +kernel
theorem dX12_qTakes_27 : decode cX12_qTakes 27 = .ok (.aload_n 0, 1) := by decide +kernel
theorem dX12_qTakes_28 : decode cX12_qTakes 28 = .ok (.getfield 660, 3) := by decide +kernel
theorem dX12_qTakes_31 : decode cX12_qTakes 31 = .ok (.ldc2_w 654, 3) := by decide +kernel
theorem dX12_qTakes_34 : decode cX12_qTakes 34 = .ok (.lcmp, 1) := by decide +kernel
theorem dX12_qTakes_35 : decode cX12_qTakes 35 = .ok (.ifCond .eq 13, 3) := by decide +kernel
theorem dX12_qTakes_38 : decode cX12_qTakes 38 = .ok (.iload_n 1, 1) := by decide +kernel
theorem dX12_qTakes_39 : decode cX12_qTakes 39 = .ok (.iconst 1, 1) := by decide +kernel
theorem dX12_qTakes_40 : decode cX12_qTakes 40 = .ok (.if_icmp .ne 15, 3) := by decide +kernel
theorem dX12_qTakes_43 : decode cX12_qTakes 43 = .ok (.iload 5, 2) := by decide +kernel
theorem dX12_qTakes_45 : decode cX12_qTakes 45 = .ok (.ifCond .eq 10, 3) := by decide +kernel
theorem dX12_qTakes_48 : decode cX12_qTakes 48 = .ok (.aload_n 0, 1) := by decide +kernel
theorem dX12_qTakes_49 : decode cX12_qTakes 49 = .ok (.iload 4, 2) := by decide +kernel
theorem dX12_qTakes_51 : decode cX12_qTakes 51 = .ok (.i2l, 1) := by decide +kernel
theorem dX12_qTakes_52 : decode cX12_qTakes 52 = .ok (.putfield 660, 3) := by decide +kernel
theorem dX12_qTakes_55 : decode cX12_qTakes 55 = .ok (.iload_n 1, 1) := by decide +kernel
theorem dX12_qTakes_56 : decode cX12_qTakes 56 = .ok (.iconst 2, 1) := by decide +kernel
theorem dX12_qTakes_57 : decode cX12_qTakes 57 = .ok (.if_icmp .ne 18, 3) := by decide +kernel
theorem dX12_qTakes_60 : decode cX12_qTakes 60 = .ok (.iload 5, 2) := by decide +kernel
theorem dX12_qTakes_62 : decode cX12_qTakes 62 = .ok (.ifCond .eq 13, 3) := by decide +kernel
theorem dX12_qTakes_65 : decode cX12_qTakes 65 = .ok (.aload_n 0, 1) := by decide +kernel
theorem dX12_qTakes_66 : decode cX12_qTakes 66 = .ok (.dup, 1) := by decide +kernel
theorem dX12_qTakes_67 : decode cX12_qTakes 67 = .ok (.getfield 660, 3) := by decide +kernel
theorem dX12_qTakes_70 : decode cX12_qTakes 70 = .ok (.lconst 1, 1) := by decide +kernel
theorem dX12_qTakes_71 : decode cX12_qTakes 71 = .ok (.ladd, 1) := by decide +kernel
theorem dX12_qTakes_72 : decode cX12_qTakes 72 = .ok (.putfield 660, 3) := by decide +kernel
theorem dX12_qTakes_75 : decode cX12_qTakes 75 = .ok (.iload_n 1, 1) := by decide +kernel
theorem dX12_qTakes_76 : decode cX12_qTakes 76 = .ok (.iconst 3, 1) := by decide +kernel
theorem dX12_qTakes_77 : decode cX12_qTakes 77 = .ok (.if_icmp .ne 13, 3) := by decide +kernel
theorem dX12_qTakes_80 : decode cX12_qTakes 80 = .ok (.aload_n 0, 1) := by decide +kernel
theorem dX12_qTakes_81 : decode cX12_qTakes 81 = .ok (.dup, 1) := by decide +kernel
theorem dX12_qTakes_82 : decode cX12_qTakes 82 = .ok (.getfield 660, 3) := by decide +kernel
theorem dX12_qTakes_85 : decode cX12_qTakes 85 = .ok (.lload_n 2, 1) := by decide +kernel
theorem dX12_qTakes_86 : decode cX12_qTakes 86 = .ok (.ladd, 1) := by decide +kernel
theorem dX12_qTakes_87 : decode cX12_qTakes 87 = .ok (.putfield 660, 3) := by decide +kernel
theorem dX12_qTakes_90 : decode cX12_qTakes 90 = .ok (.iload_n 1, 1) := by decide +kernel
theorem dX12_qTakes_91 : decode cX12_qTakes 91 = .ok (.iconst 3, 1) := by decide +kernel
theorem dX12_qTakes_92 : decode cX12_qTakes 92 = .ok (.if_icmp .le 41, 3) := by decide +kernel
theorem dX12_qTakes_95 : decode cX12_qTakes 95 = .ok (.aload_n 0, 1) := by decide +kernel
theorem dX12_qTakes_96 : decode cX12_qTakes 96 = .ok (.getfield 663, 3) := by decide +kernel
theorem dX12_qTakes_99 : decode cX12_qTakes 99 = .ok (.ifCond .ne 29, 3) := by decide +kernel
theorem dX12_qTakes_102 : decode cX12_qTakes 102 = .ok (.iload_n 1, 1) := by decide +kernel
theorem dX12_qTakes_103 : decode cX12_qTakes 103 = .ok (.iconst 4, 1) := by decide +kernel
theorem dX12_qTakes_104 : decode cX12_qTakes 104 = .ok (.if_icmp .ne 15, 3) := by decide +kernel
theorem dX12_qTakes_107 : decode cX12_qTakes 107 = .ok (.lload_n 2, 1) := by decide +kernel
theorem dX12_qTakes_108 : decode cX12_qTakes 108 = .ok (.aload_n 0, 1) := by decide +kernel
theorem dX12_qTakes_109 : decode cX12_qTakes 109 = .ok (.getfield 660, 3) := by decide +kernel
theorem dX12_qTakes_112 : decode cX12_qTakes 112 = .ok (.lcmp, 1) := by decide +kernel
theorem dX12_qTakes_113 : decode cX12_qTakes 113 = .ok (.ifCond .le 20, 3) := by decide +kernel
theorem dX12_qTakes_116 : decode cX12_qTakes 116 = .ok (.goto 12, 3) := by decide +kernel
theorem dX12_qTakes_119 : decode cX12_qTakes 119 = .ok (.lload_n 2, 1) := by decide +kernel
theorem dX12_qTakes_120 : decode cX12_qTakes 120 = .ok (.aload_n 0, 1) := by decide +kernel
theorem dX12_qTakes_121 : decode cX12_qTakes 121 = .ok (.getfield 660, 3) := by decide +kernel
theorem dX12_qTakes_124 : decode cX12_qTakes 124 = .ok (.lcmp, 1) := by decide +kernel
theorem dX12_qTakes_125 : decode cX12_qTakes 125 = .ok (.ifCond .ge 8, 3) := by decide +kernel
theorem dX12_qTakes_128 : decode cX12_qTakes 128 = .ok (.aload_n 0, 1) := by decide +kernel
theorem dX12_qTakes_129 : decode cX12_qTakes 129 = .ok (.lload_n 2, 1) := by decide +kernel
theorem dX12_qTakes_130 : decode cX12_qTakes 130 = .ok (.putfield 660, 3) := by decide +kernel
theorem dX12_qTakes_133 : decode cX12_qTakes 133 = .ok (.aload_n 0, 1) := by decide +kernel
theorem dX12_qTakes_134 : decode cX12_qTakes 134 = .ok (.iconst 0, 1) := by decide +kernel
theorem dX12_qTakes_135 : decode cX12_qTakes 135 = .ok (.putfield 663, 3) := by decide +kernel
theorem dX12_qTakes_138 : decode cX12_qTakes 138 = .ok (.return_, 1) := by decide +kernel
theorem dX12_ask_0 : decode cX12_ask 0 = .ok (.aload_n 0, 1) := by decide +kernel
theorem dX12_ask_1 : decode cX12_ask 1 = .ok (.aload_n 0, 1) := by decide +kernel
theorem dX12_ask_2 : decode cX12_ask 2 = .ok (.getfield 249, 3) := by decide +kernel
theorem dX12_ask_5 : decode cX12_ask 5 = .ok (.putfield 261, 3) := by decide +kernel
theorem dX12_ask_8 : decode cX12_ask 8 = .ok (.aload_n 0, 1) := by decide +kernel
theorem dX12_ask_9 : decode cX12_ask 9 = .ok (.iconst 0, 1) := by decide +kernel
theorem dX12_ask_10 : decode cX12_ask 10 = .ok (.putfield 249, 3) := by decide +kernel
theorem dX12_ask_13 : decode cX12_ask 13 = .ok (.aload_n 0, 1) := by decide +kernel
theorem dX12_ask_14 : decode cX12_ask 14 = .ok (.iconst 0, 1) := by decide +kernel
theorem dX12_ask_15 : decode cX12_ask 15 = .ok (.putfield 258, 3) := by decide +kernel
theorem dX12_ask_18 : decode cX12_ask 18 = .ok (.aload_n 0, 1) := by decide +kernel
theorem dX12_ask_19 : decode cX12_ask 19 = .ok (.iconst (-1), 1) := by decide +kernel
theorem dX12_ask_20 : decode cX12_ask 20 = .ok (.putfield 272, 3) := by decide +kernel
theorem dX12_ask_23 : decode cX12_ask 23 = .ok (.aload_n 0, 1) := by decide +kernel
theorem dX12_ask_24 : decode cX12_ask 24 = .ok (.iconst 0, 1) := by decide +kernel
theorem dX12_ask_25 : decode cX12_ask 25 = .ok (.putfield 252, 3) := by decide +kernel
theorem dX12_ask_28 : decode cX12_ask 28 = .ok (.aload_n 0, 1) := by decide +kernel
theorem dX12_ask_29 : decode cX12_ask 29 = .ok (.iconst (-1), 1) := by decide +kernel
theorem dX12_ask_30 : decode cX12_ask 30 = .ok (.putfield 255, 3) := by decide +kernel
theorem dX12_ask_33 : decode cX12_ask 33 = .ok (.aload_n 0, 1) := by decide +kernel
theorem dX12_ask_34 : decode cX12_ask 34 = .ok (.iconst 3, 1) := by decide +kernel
theorem dX12_ask_35 : decode cX12_ask 35 = .ok (.putfield 310, 3) := by decide +kernel
theorem dX12_ask_38 : decode cX12_ask 38 = .ok (.aload_n 0, 1) := by decide +kernel
theorem dX12_ask_39 : decode cX12_ask 39 = .ok (.iconst 0, 1) := by decide +kernel
theorem dX12_ask_40 : decode cX12_ask 40 = .ok (.putfield 339, 3) := by decide +kernel
theorem dX12_ask_43 : decode cX12_ask 43 = .ok (.aload_n 0, 1) := by decide +kernel
theorem dX12_ask_44 : decode cX12_ask 44 = .ok (.iconst 0, 1) := by decide +kernel
theorem dX12_ask_45 : decode cX12_ask 45 = .ok (.putfield 342, 3) := by decide +kernel
theorem dX12_ask_48 : decode cX12_ask 48 = .ok (.aload_n 0, 1) := by decide +kernel
theorem dX12_ask_49 : decode cX12_ask 49 = .ok (.iconst 0, 1) := by decide +kernel
theorem dX12_ask_50 : decode cX12_ask 50 = .ok (.putfield 345, 3) := by decide +kernel
theorem dX12_ask_53 : decode cX12_ask 53 = .ok (.aload_n 0, 1) := by decide +kernel
theorem dX12_ask_54 : decode cX12_ask 54 = .ok (.iconst 0, 1) := by decide +kernel
theorem dX12_ask_55 : decode cX12_ask 55 = .ok (.putfield 348, 3) := by decide +kernel
theorem dX12_ask_58 : decode cX12_ask 58 = .ok (.aload_n 0, 1) := by decide +kernel
theorem dX12_ask_59 : decode cX12_ask 59 = .ok (.invokevirtual 666, 3) := by decide +kernel
theorem dX12_ask_62 : decode cX12_ask 62 = .ok (.istore_n 1, 1) := by decide +kernel
theorem dX12_ask_63 : decode cX12_ask 63 = .ok (.aload_n 0, 1) := by decide +kernel
theorem dX12_ask_64 : decode cX12_ask 64 = .ok (.getfield 252, 3) := by decide +kernel
theorem dX12_ask_67 : decode cX12_ask 67 = .ok (.ifCond .ne 15, 3) := by decide +kernel
theorem dX12_ask_70 : decode cX12_ask 70 = .ok (.iload_n 1, 1) := by decide +kernel
theorem dX12_ask_71 : decode cX12_ask 71 = .ok (.iconst 3, 1) := by decide +kernel
theorem dX12_ask_72 : decode cX12_ask 72 = .ok (.if_icmp .ge 10, 3) := by decide +kernel
theorem dX12_ask_75 : decode cX12_ask 75 = .ok (.aload_n 0, 1) := by decide +kernel
theorem dX12_ask_76 : decode cX12_ask 76 = .ok (.invokevirtual 351, 3) := by decide +kernel
theorem dX12_ask_79 : decode cX12_ask 79 = .ok (.goto 14, 3) := by decide +kernel
theorem dX12_ask_82 : decode cX12_ask 82 = .ok (.aload_n 0, 1) := by decide +kernel
theorem dX12_ask_83 : decode cX12_ask 83 = .ok (.getfield 252, 3) := by decide +kernel
theorem dX12_ask_86 : decode cX12_ask 86 = .ok (.ifCond .ne 7, 3) := by decide +kernel
theorem dX12_ask_89 : decode cX12_ask 89 = .ok (.aload_n 0, 1) := by decide +kernel
theorem dX12_ask_90 : decode cX12_ask 90 = .ok (.invokevirtual 354, 3) := by decide +kernel
theorem dX12_ask_93 : decode cX12_ask 93 = .ok (.aload_n 0, 1) := by decide +kernel
theorem dX12_ask_94 : decode cX12_ask 94 = .ok (.getfield 252, 3) := by decide +kernel
theorem dX12_ask_97 : decode cX12_ask 97 = .ok (.ifCond .ne 20, 3) := by decide +kernel
theorem dX12_ask_100 : decode cX12_ask 100 = .ok (.aload_n 0, 1) := by decide +kernel
theorem dX12_ask_101 : decode cX12_ask 101 = .ok (.invokevirtual 264, 3) := by decide +kernel
theorem dX12_ask_104 : decode cX12_ask 104 = .ok (.iconst (-1), 1) := by decide +kernel
theorem dX12_ask_105 : decode cX12_ask 105 = .ok (.if_icmp .eq 12, 3) := by decide +kernel
theorem dX12_ask_108 : decode cX12_ask 108 = .ok (.aload_n 0, 1) := by decide +kernel
theorem dX12_ask_109 : decode cX12_ask 109 = .ok (.iconst 1, 1) := by decide +kernel
theorem dX12_ask_110 : decode cX12_ask 110 = .ok (.aload_n 0, 1) := by decide +kernel
theorem dX12_ask_111 : decode cX12_ask 111 = .ok (.getfield 258, 3) := by decide +kernel
theorem dX12_ask_114 : decode cX12_ask 114 = .ok (.invokevirtual 282, 3) := by decide +kernel
theorem dX12_ask_117 : decode cX12_ask 117 = .ok (.aload_n 0, 1) := by decide +kernel
theorem dX12_ask_118 : decode cX12_ask 118 = .ok (.aload_n 0, 1) := by decide +kernel
theorem dX12_ask_119 : decode cX12_ask 119 = .ok (.getfield 252, 3) := by decide +kernel
theorem dX12_ask_122 : decode cX12_ask 122 = .ok (.putfield 385, 3) := by decide +kernel
theorem dX12_ask_125 : decode cX12_ask 125 = .ok (.aload_n 0, 1) := by decide +kernel
theorem dX12_ask_126 : decode cX12_ask 126 = .ok (.aload_n 0, 1) := by decide +kernel
theorem dX12_ask_127 : decode cX12_ask 127 = .ok (.getfield 255, 3) := by decide +kernel
theorem dX12_ask_130 : decode cX12_ask 130 = .ok (.putfield 13, 3) := by decide +kernel
theorem dX12_ask_133 : decode cX12_ask 133 = .ok (.aload_n 0, 1) := by decide +kernel
theorem dX12_ask_134 : decode cX12_ask 134 = .ok (.getfield 252, 3) := by decide +kernel
theorem dX12_ask_137 : decode cX12_ask 137 = .ok (.ifCond .eq 7, 3) := by decide +kernel
theorem dX12_ask_140 : decode cX12_ask 140 = .ok (.ldc2_w 669, 3) := by decide +kernel
theorem dX12_ask_143 : decode cX12_ask 143 = .ok (.lreturn, 1) := by decide +kernel
theorem dX12_ask_144 : decode cX12_ask 144 = .ok (.aload_n 0, 1) := by decide +kernel
theorem dX12_ask_145 : decode cX12_ask 145 = .ok (.iload_n 1, 1) := by decide +kernel
theorem dX12_ask_146 : decode cX12_ask 146 = .ok (.iconst 2, 1) := by decide +kernel
theorem dX12_ask_147 : decode cX12_ask 147 = .ok (.if_icmp .ge 9, 3) := by decide +kernel
theorem dX12_ask_150 : decode cX12_ask 150 = .ok (.ldc2_w 654, 3) := by decide +kernel
theorem dX12_ask_153 : decode cX12_ask 153 = .ok (.goto 4, 3) := by decide +kernel
theorem dX12_ask_156 : decode cX12_ask 156 = .ok (.lconst 0, 1) := by decide +kernel
theorem dX12_ask_157 : decode cX12_ask 157 = .ok (.putfield 660, 3) := by decide +kernel
theorem dX12_ask_160 : decode cX12_ask 160 = .ok (.aload_n 0, 1) := by decide +kernel
theorem dX12_ask_161 : decode cX12_ask 161 = .ok (.iconst 1, 1) := by decide +kernel
theorem dX12_ask_162 : decode cX12_ask 162 = .ok (.putfield 663, 3) := by decide +kernel
theorem dX12_ask_165 : decode cX12_ask 165 = .ok (.iconst 0, 1) := by decide +kernel
theorem dX12_ask_166 : decode cX12_ask 166 = .ok (.istore_n 2, 1) := by decide +kernel
theorem dX12_ask_167 : decode cX12_ask 167 = .ok (.iload_n 2, 1) := by decide +kernel
theorem dX12_ask_168 : decode cX12_ask 168 = .ok (.aload_n 0, 1) := by decide +kernel
theorem dX12_ask_169 : decode cX12_ask 169 = .ok (.invokevirtual 397, 3) := by decide +kernel
theorem dX12_ask_172 : decode cX12_ask 172 = .ok (.if_icmp .ge 14, 3) := by decide +kernel
theorem dX12_ask_175 : decode cX12_ask 175 = .ok (.aload_n 0, 1) := by decide +kernel
theorem dX12_ask_176 : decode cX12_ask 176 = .ok (.iload_n 2, 1) := by decide +kernel
theorem dX12_ask_177 : decode cX12_ask 177 = .ok (.invokevirtual 538, 3) := by decide +kernel
theorem dX12_ask_180 : decode cX12_ask 180 = .ok (.iinc 2 1, 3) := by decide +kernel
theorem dX12_ask_183 : decode cX12_ask 183 = .ok (.goto (-16), 3) := by decide +kernel
theorem dX12_ask_186 : decode cX12_ask 186 = .ok (.aload_n 0, 1) := by decide +kernel
theorem dX12_ask_187 : decode cX12_ask 187 = .ok (.iconst 3, 1) := by decide +kernel
theorem dX12_ask_188 : decode cX12_ask 188 = .ok (.putfield 310, 3) := by decide +kernel
theorem dX12_ask_191 : decode cX12_ask 191 = .ok (.iconst 0, 1) := by decide +kernel
theorem dX12_ask_192 : decode cX12_ask 192 = .ok (.istore_n 2, 1) := by decide +kernel
theorem dX12_ask_193 : decode cX12_ask 193 = .ok (.iload_n 2, 1) := by decide +kernel
theorem dX12_ask_194 : decode cX12_ask 194 = .ok (.aload_n 0, 1) := by decide +kernel
theorem dX12_ask_195 : decode cX12_ask 195 = .ok (.invokevirtual 397, 3) := by decide +kernel
theorem dX12_ask_198 : decode cX12_ask 198 = .ok (.if_icmp .ge 25, 3) := by decide +kernel
theorem dX12_ask_201 : decode cX12_ask 201 = .ok (.aload_n 0, 1) := by decide +kernel
theorem dX12_ask_202 : decode cX12_ask 202 = .ok (.iload_n 2, 1) := by decide +kernel
theorem dX12_ask_203 : decode cX12_ask 203 = .ok (.putfield 409, 3) := by decide +kernel
theorem dX12_ask_206 : decode cX12_ask 206 = .ok (.aload_n 0, 1) := by decide +kernel
theorem dX12_ask_207 : decode cX12_ask 207 = .ok (.iload_n 1, 1) := by decide +kernel
theorem dX12_ask_208 : decode cX12_ask 208 = .ok (.aload_n 0, 1) := by decide +kernel
theorem dX12_ask_209 : decode cX12_ask 209 = .ok (.iload_n 2, 1) := by decide +kernel
theorem dX12_ask_210 : decode cX12_ask 210 = .ok (.invokevirtual 671, 3) := by decide +kernel
theorem dX12_ask_213 : decode cX12_ask 213 = .ok (.iload_n 2, 1) := by decide +kernel
theorem dX12_ask_214 : decode cX12_ask 214 = .ok (.invokevirtual 675, 3) := by decide +kernel
theorem dX12_ask_217 : decode cX12_ask 217 = .ok (.iinc 2 1, 3) := by decide +kernel
theorem dX12_ask_220 : decode cX12_ask 220 = .ok (.goto (-27), 3) := by decide +kernel
theorem dX12_ask_223 : decode cX12_ask 223 = .ok (.aload_n 0, 1) := by decide +kernel
theorem dX12_ask_224 : decode cX12_ask 224 = .ok (.getfield 660, 3) := by decide +kernel
theorem dX12_ask_227 : decode cX12_ask 227 = .ok (.lreturn, 1) := by decide +kernel
theorem dX12_checked_0 : decode cX12_checked 0 = .ok (.sipush 241, 3) := by decide +kernel
theorem dX12_checked_3 : decode cX12_checked 3 = .ok (.istore_n 2, 1) := by decide +kernel
theorem dX12_checked_4 : decode cX12_checked 4 = .ok (.iconst 0, 1) := by decide +kernel
theorem dX12_checked_5 : decode cX12_checked 5 = .ok (.istore_n 3, 1) := by decide +kernel
theorem dX12_checked_6 : decode cX12_checked 6 = .ok (.iload_n 3, 1) := by decide +kernel
theorem dX12_checked_7 : decode cX12_checked 7 = .ok (.iload_n 1, 1) := by decide +kernel
theorem dX12_checked_8 : decode cX12_checked 8 = .ok (.if_icmp .ge 21, 3) := by decide +kernel
theorem dX12_checked_11 : decode cX12_checked 11 = .ok (.iconst 3, 1) := by decide +kernel
theorem dX12_checked_12 : decode cX12_checked 12 = .ok (.iload_n 2, 1) := by decide +kernel
theorem dX12_checked_13 : decode cX12_checked 13 = .ok (.imul, 1) := by decide +kernel
theorem dX12_checked_14 : decode cX12_checked 14 = .ok (.aload_n 0, 1) := by decide +kernel
theorem dX12_checked_15 : decode cX12_checked 15 = .ok (.iload_n 3, 1) := by decide +kernel
theorem dX12_checked_16 : decode cX12_checked 16 = .ok (.iaload, 1) := by decide +kernel
theorem dX12_checked_17 : decode cX12_checked 17 = .ok (.iadd, 1) := by decide +kernel
theorem dX12_checked_18 : decode cX12_checked 18 = .ok (.sipush 251, 3) := by decide +kernel
theorem dX12_checked_21 : decode cX12_checked 21 = .ok (.irem, 1) := by decide +kernel
theorem dX12_checked_22 : decode cX12_checked 22 = .ok (.istore_n 2, 1) := by decide +kernel
theorem dX12_checked_23 : decode cX12_checked 23 = .ok (.iinc 3 1, 3) := by decide +kernel
theorem dX12_checked_26 : decode cX12_checked 26 = .ok (.goto (-20), 3) := by decide +kernel
theorem dX12_checked_29 : decode cX12_checked 29 = .ok (.iload_n 2, 1) := by decide +kernel
theorem dX12_checked_30 : decode cX12_checked 30 = .ok (.ireturn, 1) := by decide +kernel
theorem dX12_writes_0 : decode cX12_writes 0 = .ok (.aload_n 0, 1) := by decide +kernel
theorem dX12_writes_1 : decode cX12_writes 1 = .ok (.getfield 244, 3) := by decide +kernel
theorem dX12_writes_4 : decode cX12_writes 4 = .ok (.aload_n 0, 1) := by decide +kernel
theorem dX12_writes_5 : decode cX12_writes 5 = .ok (.getfield 679, 3) := by decide +kernel
theorem dX12_writes_8 : decode cX12_writes 8 = .ok (.iload_n 1, 1) := by decide +kernel
theorem dX12_writes_9 : decode cX12_writes 9 = .ok (.iastore, 1) := by decide +kernel
theorem dX12_writes_10 : decode cX12_writes 10 = .ok (.aload_n 0, 1) := by decide +kernel
theorem dX12_writes_11 : decode cX12_writes 11 = .ok (.dup, 1) := by decide +kernel
theorem dX12_writes_12 : decode cX12_writes 12 = .ok (.getfield 679, 3) := by decide +kernel
theorem dX12_writes_15 : decode cX12_writes 15 = .ok (.iconst 1, 1) := by decide +kernel
theorem dX12_writes_16 : decode cX12_writes 16 = .ok (.iadd, 1) := by decide +kernel
theorem dX12_writes_17 : decode cX12_writes 17 = .ok (.putfield 679, 3) := by decide +kernel
theorem dX12_writes_20 : decode cX12_writes 20 = .ok (.return_, 1) := by decide +kernel
theorem dX12_image_0 : decode cX12_image 0 = .ok (.aload_n 0, 1) := by decide +kernel
theorem dX12_image_1 : decode cX12_image 1 = .ok (.iconst 0, 1) := by decide +kernel
theorem dX12_image_2 : decode cX12_image 2 = .ok (.putfield 679, 3) := by decide +kernel
theorem dX12_image_5 : decode cX12_image 5 = .ok (.aload_n 0, 1) := by decide +kernel
theorem dX12_image_6 : decode cX12_image 6 = .ok (.aload_n 0, 1) := by decide +kernel
theorem dX12_image_7 : decode cX12_image 7 = .ok (.getfield 124, 3) := by decide +kernel
theorem dX12_image_10 : decode cX12_image 10 = .ok (.iconst 0, 1) := by decide +kernel
theorem dX12_image_11 : decode cX12_image 11 = .ok (.iaload, 1) := by decide +kernel
theorem dX12_image_12 : decode cX12_image 12 = .ok (.sipush 256, 3) := by decide +kernel
theorem dX12_image_15 : decode cX12_image 15 = .ok (.idiv, 1) := by decide +kernel
theorem dX12_image_16 : decode cX12_image 16 = .ok (.invokevirtual 682, 3) := by decide +kernel
theorem dX12_image_19 : decode cX12_image 19 = .ok (.aload_n 0, 1) := by decide +kernel
theorem dX12_image_20 : decode cX12_image 20 = .ok (.aload_n 0, 1) := by decide +kernel
theorem dX12_image_21 : decode cX12_image 21 = .ok (.getfield 124, 3) := by decide +kernel
theorem dX12_image_24 : decode cX12_image 24 = .ok (.iconst 0, 1) := by decide +kernel
theorem dX12_image_25 : decode cX12_image 25 = .ok (.iaload, 1) := by decide +kernel
theorem dX12_image_26 : decode cX12_image 26 = .ok (.sipush 256, 3) := by decide +kernel
theorem dX12_image_29 : decode cX12_image 29 = .ok (.irem, 1) := by decide +kernel
theorem dX12_image_30 : decode cX12_image 30 = .ok (.invokevirtual 682, 3) := by decide +kernel
theorem dX12_image_33 : decode cX12_image 33 = .ok (.iconst 0, 1) := by decide +kernel
theorem dX12_image_34 : decode cX12_image 34 = .ok (.istore_n 1, 1) := by decide +kernel
theorem dX12_image_35 : decode cX12_image 35 = .ok (.iload_n 1, 1) := by decide +kernel
theorem dX12_image_36 : decode cX12_image 36 = .ok (.iconst 2, 1) := by decide +kernel
theorem dX12_image_37 : decode cX12_image 37 = .ok (.aload_n 0, 1) := by decide +kernel
theorem dX12_image_38 : decode cX12_image 38 = .ok (.invokevirtual 403, 3) := by decide +kernel
theorem dX12_image_41 : decode cX12_image 41 = .ok (.imul, 1) := by decide +kernel
theorem dX12_image_42 : decode cX12_image 42 = .ok (.if_icmp .ge 21, 3) := by decide +kernel
theorem dX12_image_45 : decode cX12_image 45 = .ok (.aload_n 0, 1) := by decide +kernel
theorem dX12_image_46 : decode cX12_image 46 = .ok (.aload_n 0, 1) := by decide +kernel
theorem dX12_image_47 : decode cX12_image 47 = .ok (.getfield 124, 3) := by decide +kernel
theorem dX12_image_50 : decode cX12_image 50 = .ok (.iconst 1, 1) := by decide +kernel
theorem dX12_image_51 : decode cX12_image 51 = .ok (.iload_n 1, 1) := by decide +kernel
theorem dX12_image_52 : decode cX12_image 52 = .ok (.iadd, 1) := by decide +kernel
theorem dX12_image_53 : decode cX12_image 53 = .ok (.iaload, 1) := by decide +kernel
theorem dX12_image_54 : decode cX12_image 54 = .ok (.invokevirtual 682, 3) := by decide +kernel
theorem dX12_image_57 : decode cX12_image 57 = .ok (.iinc 1 1, 3) := by decide +kernel
theorem dX12_image_60 : decode cX12_image 60 = .ok (.goto (-25), 3) := by decide +kernel
theorem dX12_image_63 : decode cX12_image 63 = .ok (.iconst 0, 1) := by decide +kernel
theorem dX12_image_64 : decode cX12_image 64 = .ok (.istore_n 1, 1) := by decide +kernel
theorem dX12_image_65 : decode cX12_image 65 = .ok (.iload_n 1, 1) := by decide +kernel
theorem dX12_image_66 : decode cX12_image 66 = .ok (.aload_n 0, 1) := by decide +kernel
theorem dX12_image_67 : decode cX12_image 67 = .ok (.invokevirtual 397, 3) := by decide +kernel
theorem dX12_image_70 : decode cX12_image 70 = .ok (.if_icmp .ge 35, 3) := by decide +kernel
theorem dX12_image_73 : decode cX12_image 73 = .ok (.iconst 0, 1) := by decide +kernel
theorem dX12_image_74 : decode cX12_image 74 = .ok (.istore_n 2, 1) := by decide +kernel
theorem dX12_image_75 : decode cX12_image 75 = .ok (.iload_n 2, 1) := by decide +kernel
theorem dX12_image_76 : decode cX12_image 76 = .ok (.aload_n 0, 1) := by decide +kernel
theorem dX12_image_77 : decode cX12_image 77 = .ok (.invokevirtual 400, 3) := by decide +kernel
theorem dX12_image_80 : decode cX12_image 80 = .ok (.if_icmp .ge 19, 3) := by decide +kernel
theorem dX12_image_83 : decode cX12_image 83 = .ok (.aload_n 0, 1) := by decide +kernel
theorem dX12_image_84 : decode cX12_image 84 = .ok (.aload_n 0, 1) := by decide +kernel
theorem dX12_image_85 : decode cX12_image 85 = .ok (.iload_n 1, 1) := by decide +kernel
theorem dX12_image_86 : decode cX12_image 86 = .ok (.iload_n 2, 1) := by decide +kernel
theorem dX12_image_87 : decode cX12_image 87 = .ok (.invokevirtual 452, 3) := by decide +kernel
theorem dX12_image_90 : decode cX12_image 90 = .ok (.invokevirtual 682, 3) := by decide +kernel
theorem dX12_image_93 : decode cX12_image 93 = .ok (.iinc 2 1, 3) := by decide +kernel
theorem dX12_image_96 : decode cX12_image 96 = .ok (.goto (-21), 3) := by decide +kernel
theorem dX12_image_99 : decode cX12_image 99 = .ok (.iinc 1 1, 3) := by decide +kernel
theorem dX12_image_102 : decode cX12_image 102 = .ok (.goto (-37), 3) := by decide +kernel
theorem dX12_image_105 : decode cX12_image 105 = .ok (.aload_n 0, 1) := by decide +kernel
theorem dX12_image_106 : decode cX12_image 106 = .ok (.aload_n 0, 1) := by decide +kernel
theorem dX12_image_107 : decode cX12_image 107 = .ok (.getfield 244, 3) := by decide +kernel
theorem dX12_image_110 : decode cX12_image 110 = .ok (.aload_n 0, 1) := by decide +kernel
theorem dX12_image_111 : decode cX12_image 111 = .ok (.getfield 679, 3) := by decide +kernel
theorem dX12_image_114 : decode cX12_image 114 = .ok (.invokestatic 685, 3) := by decide +kernel
theorem dX12_image_117 : decode cX12_image 117 = .ok (.invokevirtual 682, 3) := by decide +kernel
theorem dX12_image_120 : decode cX12_image 120 = .ok (.aload_n 0, 1) := by decide +kernel
theorem dX12_image_121 : decode cX12_image 121 = .ok (.getfield 679, 3) := by decide +kernel
theorem dX12_image_124 : decode cX12_image 124 = .ok (.ireturn, 1) := by decide +kernel
theorem dX12_octet_0 : decode cX12_octet 0 = .ok (.iload_n 1, 1) := by decide +kernel
theorem dX12_octet_1 : decode cX12_octet 1 = .ok (.ifCond .lt 20, 3) := by decide +kernel
theorem dX12_octet_4 : decode cX12_octet 4 = .ok (.iload_n 1, 1) := by decide +kernel
theorem dX12_octet_5 : decode cX12_octet 5 = .ok (.aload_n 0, 1) := by decide +kernel
theorem dX12_octet_6 : decode cX12_octet 6 = .ok (.getfield 679, 3) := by decide +kernel
theorem dX12_octet_9 : decode cX12_octet 9 = .ok (.if_icmp .ge 12, 3) := by decide +kernel
theorem dX12_octet_12 : decode cX12_octet 12 = .ok (.aload_n 0, 1) := by decide +kernel
theorem dX12_octet_13 : decode cX12_octet 13 = .ok (.getfield 244, 3) := by decide +kernel
theorem dX12_octet_16 : decode cX12_octet 16 = .ok (.iload_n 1, 1) := by decide +kernel
theorem dX12_octet_17 : decode cX12_octet 17 = .ok (.iaload, 1) := by decide +kernel
theorem dX12_octet_18 : decode cX12_octet 18 = .ok (.goto 4, 3) := by decide +kernel
theorem dX12_octet_21 : decode cX12_octet 21 = .ok (.iconst (-1), 1) := by decide +kernel
theorem dX12_octet_22 : decode cX12_octet 22 = .ok (.ireturn, 1) := by decide +kernel
theorem dX12_isImage_0 : decode cX12_isImage 0 = .ok (.iconst 2, 1) := by decide +kernel
theorem dX12_isImage_1 : decode cX12_isImage 1 = .ok (.iconst 2, 1) := by decide +kernel
theorem dX12_isImage_2 : decode cX12_isImage 2 = .ok (.aload_n 0, 1) := by decide +kernel
theorem dX12_isImage_3 : decode cX12_isImage 3 = .ok (.invokevirtual 403, 3) := by decide +kernel
theorem dX12_isImage_6 : decode cX12_isImage 6 = .ok (.imul, 1) := by decide +kernel
theorem dX12_isImage_7 : decode cX12_isImage 7 = .ok (.iadd, 1) := by decide +kernel
theorem dX12_isImage_8 : decode cX12_isImage 8 = .ok (.istore_n 2, 1) := by decide +kernel
theorem dX12_isImage_9 : decode cX12_isImage 9 = .ok (.iload_n 1, 1) := by decide +kernel
theorem dX12_isImage_10 : decode cX12_isImage 10 = .ok (.iload_n 2, 1) := by decide +kernel
theorem dX12_isImage_11 : decode cX12_isImage 11 = .ok (.aload_n 0, 1) := by decide +kernel
theorem dX12_isImage_12 : decode cX12_isImage 12 = .ok (.invokevirtual 397, 3) := by decide +kernel
theorem dX12_isImage_15 : decode cX12_isImage 15 = .ok (.aload_n 0, 1) := by decide +kernel
theorem dX12_isImage_16 : decode cX12_isImage 16 = .ok (.invokevirtual 400, 3) := by decide +kernel
theorem dX12_isImage_19 : decode cX12_isImage 19 = .ok (.imul, 1) := by decide +kernel
theorem dX12_isImage_20 : decode cX12_isImage 20 = .ok (.iadd, 1) := by decide +kernel
theorem dX12_isImage_21 : decode cX12_isImage 21 = .ok (.iconst 1, 1) := by decide +kernel
theorem dX12_isImage_22 : decode cX12_isImage 22 = .ok (.iadd, 1) := by decide +kernel
theorem dX12_isImage_23 : decode cX12_isImage 23 = .ok (.if_icmp .ne 47, 3) := by decide +kernel
theorem dX12_isImage_26 : decode cX12_isImage 26 = .ok (.aload_n 0, 1) := by decide +kernel
theorem dX12_isImage_27 : decode cX12_isImage 27 = .ok (.getfield 7, 3) := by decide +kernel
theorem dX12_isImage_30 : decode cX12_isImage 30 = .ok (.iload_n 1, 1) := by decide +kernel
theorem dX12_isImage_31 : decode cX12_isImage 31 = .ok (.iconst 1, 1) := by decide +kernel
theorem dX12_isImage_32 : decode cX12_isImage 32 = .ok (.isub, 1) := by decide +kernel
theorem dX12_isImage_33 : decode cX12_isImage 33 = .ok (.iaload, 1) := by decide +kernel
theorem dX12_isImage_34 : decode cX12_isImage 34 = .ok (.aload_n 0, 1) := by decide +kernel
theorem dX12_isImage_35 : decode cX12_isImage 35 = .ok (.getfield 7, 3) := by decide +kernel
theorem dX12_isImage_38 : decode cX12_isImage 38 = .ok (.iload_n 1, 1) := by decide +kernel
theorem dX12_isImage_39 : decode cX12_isImage 39 = .ok (.iconst 1, 1) := by decide +kernel
theorem dX12_isImage_40 : decode cX12_isImage 40 = .ok (.isub, 1) := by decide +kernel
theorem dX12_isImage_41 : decode cX12_isImage 41 = .ok (.invokestatic 685, 3) := by decide +kernel
theorem dX12_isImage_44 : decode cX12_isImage 44 = .ok (.if_icmp .ne 26, 3) := by decide +kernel
theorem dX12_isImage_47 : decode cX12_isImage 47 = .ok (.sipush 256, 3) := by decide +kernel
theorem dX12_isImage_50 : decode cX12_isImage 50 = .ok (.aload_n 0, 1) := by decide +kernel
theorem dX12_isImage_51 : decode cX12_isImage 51 = .ok (.getfield 7, 3) := by decide +kernel
theorem dX12_isImage_54 : decode cX12_isImage 54 = .ok (.iconst 0, 1) := by decide +kernel
theorem dX12_isImage_55 : decode cX12_isImage 55 = .ok (.iaload, 1) := by decide +kernel
theorem dX12_isImage_56 : decode cX12_isImage 56 = .ok (.imul, 1) := by decide +kernel
theorem dX12_isImage_57 : decode cX12_isImage 57 = .ok (.aload_n 0, 1) := by decide +kernel
theorem dX12_isImage_58 : decode cX12_isImage 58 = .ok (.getfield 7, 3) := by decide +kernel
theorem dX12_isImage_61 : decode cX12_isImage 61 = .ok (.iconst 1, 1) := by decide +kernel
theorem dX12_isImage_62 : decode cX12_isImage 62 = .ok (.iaload, 1) := by decide +kernel
theorem dX12_isImage_63 : decode cX12_isImage 63 = .ok (.iadd, 1) := by decide +kernel
theorem dX12_isImage_64 : decode cX12_isImage 64 = .ok (.sipush 999, 3) := by decide +kernel
theorem dX12_isImage_67 : decode cX12_isImage 67 = .ok (.if_icmp .le 5, 3) := by decide +kernel
theorem dX12_isImage_70 : decode cX12_isImage 70 = .ok (.iconst 0, 1) := by decide +kernel
theorem dX12_isImage_71 : decode cX12_isImage 71 = .ok (.ireturn, 1) := by decide +kernel
theorem dX12_isImage_72 : decode cX12_isImage 72 = .ok (.iconst 2, 1) := by decide +kernel
theorem dX12_isImage_73 : decode cX12_isImage 73 = .ok (.istore_n 3, 1) := by decide +kernel
theorem dX12_isImage_74 : decode cX12_isImage 74 = .ok (.iload_n 3, 1) := by decide +kernel
theorem dX12_isImage_75 : decode cX12_isImage 75 = .ok (.iload_n 2, 1) := by decide +kernel
theorem dX12_isImage_76 : decode cX12_isImage 76 = .ok (.if_icmp .ge 21, 3) := by decide +kernel
theorem dX12_isImage_79 : decode cX12_isImage 79 = .ok (.aload_n 0, 1) := by decide +kernel
theorem dX12_isImage_80 : decode cX12_isImage 80 = .ok (.getfield 7, 3) := by decide +kernel
theorem dX12_isImage_83 : decode cX12_isImage 83 = .ok (.iload_n 3, 1) := by decide +kernel
theorem dX12_isImage_84 : decode cX12_isImage 84 = .ok (.iaload, 1) := by decide +kernel
theorem dX12_isImage_85 : decode cX12_isImage 85 = .ok (.iconst 1, 1) := by decide +kernel
theorem dX12_isImage_86 : decode cX12_isImage 86 = .ok (.if_icmp .le 5, 3) := by decide +kernel
theorem dX12_isImage_89 : decode cX12_isImage 89 = .ok (.iconst 0, 1) := by decide +kernel
theorem dX12_isImage_90 : decode cX12_isImage 90 = .ok (.ireturn, 1) := by decide +kernel
theorem dX12_isImage_91 : decode cX12_isImage 91 = .ok (.iinc 3 1, 3) := by decide +kernel
theorem dX12_isImage_94 : decode cX12_isImage 94 = .ok (.goto (-20), 3) := by decide +kernel
theorem dX12_isImage_97 : decode cX12_isImage 97 = .ok (.iload_n 2, 1) := by decide +kernel
theorem dX12_isImage_98 : decode cX12_isImage 98 = .ok (.istore_n 3, 1) := by decide +kernel
theorem dX12_isImage_99 : decode cX12_isImage 99 = .ok (.iload_n 3, 1) := by decide +kernel
theorem dX12_isImage_100 : decode cX12_isImage 100 = .ok (.iload_n 1, 1) := by decide +kernel
theorem dX12_isImage_101 : decode cX12_isImage 101 = .ok (.iconst 1, 1) := by decide +kernel
theorem dX12_isImage_102 : decode cX12_isImage 102 = .ok (.isub, 1) := by decide +kernel
theorem dX12_isImage_103 : decode cX12_isImage 103 = .ok (.if_icmp .ge 22, 3) := by decide +kernel
theorem dX12_isImage_106 : decode cX12_isImage 106 = .ok (.aload_n 0, 1) := by decide +kernel
theorem dX12_isImage_107 : decode cX12_isImage 107 = .ok (.getfield 7, 3) := by decide +kernel
theorem dX12_isImage_110 : decode cX12_isImage 110 = .ok (.iload_n 3, 1) := by decide +kernel
theorem dX12_isImage_111 : decode cX12_isImage 111 = .ok (.iaload, 1) := by decide +kernel
theorem dX12_isImage_112 : decode cX12_isImage 112 = .ok (.bipush 99, 2) := by decide +kernel
theorem dX12_isImage_114 : decode cX12_isImage 114 = .ok (.if_icmp .le 5, 3) := by decide +kernel
theorem dX12_isImage_117 : decode cX12_isImage 117 = .ok (.iconst 0, 1) := by decide +kernel
theorem dX12_isImage_118 : decode cX12_isImage 118 = .ok (.ireturn, 1) := by decide +kernel
theorem dX12_isImage_119 : decode cX12_isImage 119 = .ok (.iinc 3 1, 3) := by decide +kernel
theorem dX12_isImage_122 : decode cX12_isImage 122 = .ok (.goto (-23), 3) := by decide +kernel
theorem dX12_isImage_125 : decode cX12_isImage 125 = .ok (.iconst 1, 1) := by decide +kernel
theorem dX12_isImage_126 : decode cX12_isImage 126 = .ok (.ireturn, 1) := by decide +kernel
theorem dX12_on_0 : decode cX12_on 0 = .ok (.aload_n 0, 1) := by decide +kernel
theorem dX12_on_1 : decode cX12_on 1 = .ok (.getfield 249, 3) := by decide +kernel
theorem dX12_on_4 : decode cX12_on 4 = .ok (.istore_n 1, 1) := by decide +kernel
theorem dX12_on_5 : decode cX12_on 5 = .ok (.aload_n 0, 1) := by decide +kernel
theorem dX12_on_6 : decode cX12_on 6 = .ok (.iconst 0, 1) := by decide +kernel
theorem dX12_on_7 : decode cX12_on 7 = .ok (.putfield 249, 3) := by decide +kernel
theorem dX12_on_10 : decode cX12_on 10 = .ok (.aload_n 0, 1) := by decide +kernel
theorem dX12_on_11 : decode cX12_on 11 = .ok (.iload_n 1, 1) := by decide +kernel
theorem dX12_on_12 : decode cX12_on 12 = .ok (.invokevirtual 689, 3) := by decide +kernel
theorem dX12_on_15 : decode cX12_on 15 = .ok (.ifCond .ne 15, 3) := by decide +kernel
theorem dX12_on_18 : decode cX12_on 18 = .ok (.aload_n 0, 1) := by decide +kernel
theorem dX12_on_19 : decode cX12_on 19 = .ok (.getfield 17, 3) := by decide +kernel
theorem dX12_on_22 : decode cX12_on 22 = .ok (.iconst 5, 1) := by decide +kernel
theorem dX12_on_23 : decode cX12_on 23 = .ok (.dup2, 1) := by decide +kernel
theorem dX12_on_24 : decode cX12_on 24 = .ok (.iaload, 1) := by decide +kernel
theorem dX12_on_25 : decode cX12_on 25 = .ok (.iconst 1, 1) := by decide +kernel
theorem dX12_on_26 : decode cX12_on 26 = .ok (.iadd, 1) := by decide +kernel
theorem dX12_on_27 : decode cX12_on 27 = .ok (.iastore, 1) := by decide +kernel
theorem dX12_on_28 : decode cX12_on 28 = .ok (.iconst 0, 1) := by decide +kernel
theorem dX12_on_29 : decode cX12_on 29 = .ok (.ireturn, 1) := by decide +kernel
theorem dX12_on_30 : decode cX12_on 30 = .ok (.iconst 2, 1) := by decide +kernel
theorem dX12_on_31 : decode cX12_on 31 = .ok (.iconst 2, 1) := by decide +kernel
theorem dX12_on_32 : decode cX12_on 32 = .ok (.aload_n 0, 1) := by decide +kernel
theorem dX12_on_33 : decode cX12_on 33 = .ok (.invokevirtual 403, 3) := by decide +kernel
theorem dX12_on_36 : decode cX12_on 36 = .ok (.imul, 1) := by decide +kernel
theorem dX12_on_37 : decode cX12_on 37 = .ok (.iadd, 1) := by decide +kernel
theorem dX12_on_38 : decode cX12_on 38 = .ok (.istore_n 2, 1) := by decide +kernel
theorem dX12_on_39 : decode cX12_on 39 = .ok (.aload_n 0, 1) := by decide +kernel
theorem dX12_on_40 : decode cX12_on 40 = .ok (.getfield 124, 3) := by decide +kernel
theorem dX12_on_43 : decode cX12_on 43 = .ok (.iconst 0, 1) := by decide +kernel
theorem dX12_on_44 : decode cX12_on 44 = .ok (.sipush 256, 3) := by decide +kernel
theorem dX12_on_47 : decode cX12_on 47 = .ok (.aload_n 0, 1) := by decide +kernel
theorem dX12_on_48 : decode cX12_on 48 = .ok (.getfield 7, 3) := by decide +kernel
theorem dX12_on_51 : decode cX12_on 51 = .ok (.iconst 0, 1) := by decide +kernel
theorem dX12_on_52 : decode cX12_on 52 = .ok (.iaload, 1) := by decide +kernel
theorem dX12_on_53 : decode cX12_on 53 = .ok (.imul, 1) := by decide +kernel
theorem dX12_on_54 : decode cX12_on 54 = .ok (.aload_n 0, 1) := by decide +kernel
theorem dX12_on_55 : decode cX12_on 55 = .ok (.getfield 7, 3) := by decide +kernel
theorem dX12_on_58 : decode cX12_on 58 = .ok (.iconst 1, 1) := by decide +kernel
theorem dX12_on_59 : decode cX12_on 59 = .ok (.iaload, 1) := by decide +kernel
theorem dX12_on_60 : decode cX12_on 60 = .ok (.iadd, 1) := by decide +kernel
theorem dX12_on_61 : decode cX12_on 61 = .ok (.iastore, 1) := by decide +kernel
theorem dX12_on_62 : decode cX12_on 62 = .ok (.iconst 0, 1) := by decide +kernel
theorem dX12_on_63 : decode cX12_on 63 = .ok (.istore_n 3, 1) := by decide +kernel
theorem dX12_on_64 : decode cX12_on 64 = .ok (.iload_n 3, 1) := by decide +kernel
theorem dX12_on_65 : decode cX12_on 65 = .ok (.iconst 2, 1) := by decide +kernel
theorem dX12_on_66 : decode cX12_on 66 = .ok (.aload_n 0, 1) := by decide +kernel
theorem dX12_on_67 : decode cX12_on 67 = .ok (.invokevirtual 403, 3) := by decide +kernel
theorem dX12_on_70 : decode cX12_on 70 = .ok (.imul, 1) := by decide +kernel
theorem dX12_on_71 : decode cX12_on 71 = .ok (.if_icmp .ge 25, 3) := by decide +kernel
theorem dX12_on_74 : decode cX12_on 74 = .ok (.aload_n 0, 1) := by decide +kernel
theorem dX12_on_75 : decode cX12_on 75 = .ok (.getfield 124, 3) := by decide +kernel
theorem dX12_on_78 : decode cX12_on 78 = .ok (.iconst 1, 1) := by decide +kernel
theorem dX12_on_79 : decode cX12_on 79 = .ok (.iload_n 3, 1) := by decide +kernel
theorem dX12_on_80 : decode cX12_on 80 = .ok (.iadd, 1) := by decide +kernel
theorem dX12_on_81 : decode cX12_on 81 = .ok (.aload_n 0, 1) := by decide +kernel
theorem dX12_on_82 : decode cX12_on 82 = .ok (.getfield 7, 3) := by decide +kernel
theorem dX12_on_85 : decode cX12_on 85 = .ok (.iconst 2, 1) := by decide +kernel
theorem dX12_on_86 : decode cX12_on 86 = .ok (.iload_n 3, 1) := by decide +kernel
theorem dX12_on_87 : decode cX12_on 87 = .ok (.iadd, 1) := by decide +kernel
theorem dX12_on_88 : decode cX12_on 88 = .ok (.iaload, 1) := by decide +kernel
theorem dX12_on_89 : decode cX12_on 89 = .ok (.iastore, 1) := by decide +kernel
theorem dX12_on_90 : decode cX12_on 90 = .ok (.iinc 3 1, 3) := by decide +kernel
theorem dX12_on_93 : decode cX12_on 93 = .ok (.goto (-29), 3) := by decide +kernel
theorem dX12_on_96 : decode cX12_on 96 = .ok (.iconst 0, 1) := by decide +kernel
theorem dX12_on_97 : decode cX12_on 97 = .ok (.istore_n 3, 1) := by decide +kernel
theorem dX12_on_98 : decode cX12_on 98 = .ok (.iload_n 3, 1) := by decide +kernel
theorem dX12_on_99 : decode cX12_on 99 = .ok (.aload_n 0, 1) := by decide +kernel
theorem dX12_on_100 : decode cX12_on 100 = .ok (.invokevirtual 397, 3) := by decide +kernel
theorem dX12_on_103 : decode cX12_on 103 = .ok (.if_icmp .ge 50, 3) := by decide +kernel
theorem dX12_on_106 : decode cX12_on 106 = .ok (.iconst 0, 1) := by decide +kernel
theorem dX12_on_107 : decode cX12_on 107 = .ok (.istore 4, 2) := by decide +kernel
theorem dX12_on_109 : decode cX12_on 109 = .ok (.iload 4, 2) := by decide +kernel
theorem dX12_on_111 : decode cX12_on 111 = .ok (.aload_n 0, 1) := by decide +kernel
theorem dX12_on_112 : decode cX12_on 112 = .ok (.invokevirtual 400, 3) := by decide +kernel
theorem dX12_on_115 : decode cX12_on 115 = .ok (.if_icmp .ge 32, 3) := by decide +kernel
theorem dX12_on_118 : decode cX12_on 118 = .ok (.aload_n 0, 1) := by decide +kernel
theorem dX12_on_119 : decode cX12_on 119 = .ok (.getfield 124, 3) := by decide +kernel
theorem dX12_on_122 : decode cX12_on 122 = .ok (.bipush 25, 2) := by decide +kernel
theorem dX12_on_124 : decode cX12_on 124 = .ok (.iconst 4, 1) := by decide +kernel
theorem dX12_on_125 : decode cX12_on 125 = .ok (.iload_n 3, 1) := by decide +kernel
theorem dX12_on_126 : decode cX12_on 126 = .ok (.imul, 1) := by decide +kernel
theorem dX12_on_127 : decode cX12_on 127 = .ok (.iadd, 1) := by decide +kernel
theorem dX12_on_128 : decode cX12_on 128 = .ok (.iload 4, 2) := by decide +kernel
theorem dX12_on_130 : decode cX12_on 130 = .ok (.iadd, 1) := by decide +kernel
theorem dX12_on_131 : decode cX12_on 131 = .ok (.aload_n 0, 1) := by decide +kernel
theorem dX12_on_132 : decode cX12_on 132 = .ok (.getfield 7, 3) := by decide +kernel
theorem dX12_on_135 : decode cX12_on 135 = .ok (.iload_n 2, 1) := by decide +kernel
theorem dX12_on_136 : decode cX12_on 136 = .ok (.iaload, 1) := by decide +kernel
theorem dX12_on_137 : decode cX12_on 137 = .ok (.iastore, 1) := by decide +kernel
theorem dX12_on_138 : decode cX12_on 138 = .ok (.iinc 2 1, 3) := by decide +kernel
theorem dX12_on_141 : decode cX12_on 141 = .ok (.iinc 4 1, 3) := by decide +kernel
theorem dX12_on_144 : decode cX12_on 144 = .ok (.goto (-35), 3) := by decide +kernel
theorem dX12_on_147 : decode cX12_on 147 = .ok (.iinc 3 1, 3) := by decide +kernel
