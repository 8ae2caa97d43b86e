theorem dX12_codesTell_63 : decode cX12_codesTell 63 = .ok (.i2l, 1) := by decide +kernel
theorem dX12_codesTell_64 : decode cX12_codesTell 64 = .ok (.invokevirtual 415, 3) := by decide +kernel
theorem dX12_codesTell_67 : decode cX12_codesTell 67 = .ok (.goto 82, 3) := by decide +kernel
theorem dX12_codesTell_70 : decode cX12_codesTell 70 = .ok (.iload 4, 2) := by decide +kernel
theorem dX12_codesTell_72 : decode cX12_codesTell 72 = .ok (.bipush 40, 2) := by decide +kernel
theorem dX12_codesTell_74 : decode cX12_codesTell 74 = .ok (.if_icmp .lt 20, 3) := by decide +kernel
theorem dX12_codesTell_77 : decode cX12_codesTell 77 = .ok (.aload_n 0, 1) := by decide +kernel
theorem dX12_codesTell_78 : decode cX12_codesTell 78 = .ok (.aload_n 0, 1) := by decide +kernel
theorem dX12_codesTell_79 : decode cX12_codesTell 79 = .ok (.iload 4, 2) := by decide +kernel
theorem dX12_codesTell_81 : decode cX12_codesTell 81 = .ok (.bipush 40, 2) := by decide +kernel
theorem dX12_codesTell_83 : decode cX12_codesTell 83 = .ok (.isub, 1) := by decide +kernel
theorem dX12_codesTell_84 : decode cX12_codesTell 84 = .ok (.iload_n 2, 1) := by decide +kernel
theorem dX12_codesTell_85 : decode cX12_codesTell 85 = .ok (.invokevirtual 419, 3) := by decide +kernel
theorem dX12_codesTell_88 : decode cX12_codesTell 88 = .ok (.invokevirtual 415, 3) := by decide +kernel
theorem dX12_codesTell_91 : decode cX12_codesTell 91 = .ok (.goto 58, 3) := by decide +kernel
theorem dX12_codesTell_94 : decode cX12_codesTell 94 = .ok (.iload 4, 2) := by decide +kernel
theorem dX12_codesTell_96 : decode cX12_codesTell 96 = .ok (.bipush 13, 2) := by decide +kernel
theorem dX12_codesTell_98 : decode cX12_codesTell 98 = .ok (.if_icmp .ne 11, 3) := by decide +kernel
theorem dX12_codesTell_101 : decode cX12_codesTell 101 = .ok (.aload_n 0, 1) := by decide +kernel
theorem dX12_codesTell_102 : decode cX12_codesTell 102 = .ok (.lconst 1, 1) := by decide +kernel
theorem dX12_codesTell_103 : decode cX12_codesTell 103 = .ok (.invokevirtual 415, 3) := by decide +kernel
theorem dX12_codesTell_106 : decode cX12_codesTell 106 = .ok (.goto 43, 3) := by decide +kernel
theorem dX12_codesTell_109 : decode cX12_codesTell 109 = .ok (.iload 4, 2) := by decide +kernel
theorem dX12_codesTell_111 : decode cX12_codesTell 111 = .ok (.bipush 12, 2) := by decide +kernel
theorem dX12_codesTell_113 : decode cX12_codesTell 113 = .ok (.if_icmp .ne 30, 3) := by decide +kernel
theorem dX12_codesTell_116 : decode cX12_codesTell 116 = .ok (.aload_n 0, 1) := by decide +kernel
theorem dX12_codesTell_117 : decode cX12_codesTell 117 = .ok (.getfield 241, 3) := by decide +kernel
theorem dX12_codesTell_120 : decode cX12_codesTell 120 = .ok (.aload_n 0, 1) := by decide +kernel
theorem dX12_codesTell_121 : decode cX12_codesTell 121 = .ok (.getfield 412, 3) := by decide +kernel
theorem dX12_codesTell_124 : decode cX12_codesTell 124 = .ok (.iconst 1, 1) := by decide +kernel
theorem dX12_codesTell_125 : decode cX12_codesTell 125 = .ok (.isub, 1) := by decide +kernel
theorem dX12_codesTell_126 : decode cX12_codesTell 126 = .ok (.lconst 1, 1) := by decide +kernel
theorem dX12_codesTell_127 : decode cX12_codesTell 127 = .ok (.aload_n 0, 1) := by decide +kernel
theorem dX12_codesTell_128 : decode cX12_codesTell 128 = .ok (.getfield 241, 3) := by decide +kernel
theorem dX12_codesTell_131 : decode cX12_codesTell 131 = .ok (.aload_n 0, 1) := by decide +kernel
theorem dX12_codesTell_132 : decode cX12_codesTell 132 = .ok (.getfield 412, 3) := by decide +kernel
theorem dX12_codesTell_135 : decode cX12_codesTell 135 = .ok (.iconst 1, 1) := by decide +kernel
theorem dX12_codesTell_136 : decode cX12_codesTell 136 = .ok (.isub, 1) := by decide +kernel
theorem dX12_codesTell_137 : decode cX12_codesTell 137 = .ok (.laload, 1) := by decide +kernel
theorem dX12_codesTell_138 : decode cX12_codesTell 138 = .ok (.lsub, 1) := by decide +kernel
theorem dX12_codesTell_139 : decode cX12_codesTell 139 = .ok (.lastore, 1) := by decide +kernel
theorem dX12_codesTell_140 : decode cX12_codesTell 140 = .ok (.goto 9, 3) := by decide +kernel
theorem dX12_codesTell_143 : decode cX12_codesTell 143 = .ok (.aload_n 0, 1) := by decide +kernel
theorem dX12_codesTell_144 : decode cX12_codesTell 144 = .ok (.iload 4, 2) := by decide +kernel
theorem dX12_codesTell_146 : decode cX12_codesTell 146 = .ok (.invokevirtual 423, 3) := by decide +kernel
theorem dX12_codesTell_149 : decode cX12_codesTell 149 = .ok (.iinc 3 1, 3) := by decide +kernel
theorem dX12_codesTell_152 : decode cX12_codesTell 152 = .ok (.goto (-128), 3) := by decide +kernel
theorem dX12_codesTell_155 : decode cX12_codesTell 155 = .ok (.aload_n 0, 1) := by decide +kernel
theorem dX12_codesTell_156 : decode cX12_codesTell 156 = .ok (.getfield 241, 3) := by decide +kernel
theorem dX12_codesTell_159 : decode cX12_codesTell 159 = .ok (.iconst 0, 1) := by decide +kernel
theorem dX12_codesTell_160 : decode cX12_codesTell 160 = .ok (.laload, 1) := by decide +kernel
theorem dX12_codesTell_161 : decode cX12_codesTell 161 = .ok (.lreturn, 1) := by decide +kernel
theorem dX12_through_0 : decode cX12_through 0 = .ok (.aload_n 0, 1) := by decide +kernel
theorem dX12_through_1 : decode cX12_through 1 = .ok (.iload_n 1, 1) := by decide +kernel
theorem dX12_through_2 : decode cX12_through 2 = .ok (.invokevirtual 426, 3) := by decide +kernel
theorem dX12_through_5 : decode cX12_through 5 = .ok (.ifCond .eq 7, 3) := by decide +kernel
theorem dX12_through_8 : decode cX12_through 8 = .ok (.iload_n 2, 1) := by decide +kernel
theorem dX12_through_9 : decode cX12_through 9 = .ok (.ifCond .ne 5, 3) := by decide +kernel
theorem dX12_through_12 : decode cX12_through 12 = .ok (.iconst 0, 1) := by decide +kernel
theorem dX12_through_13 : decode cX12_through 13 = .ok (.ireturn, 1) := by decide +kernel
theorem dX12_through_14 : decode cX12_through 14 = .ok (.aload_n 0, 1) := by decide +kernel
theorem dX12_through_15 : decode cX12_through 15 = .ok (.iload_n 2, 1) := by decide +kernel
theorem dX12_through_16 : decode cX12_through 16 = .ok (.putfield 429, 3) := by decide +kernel
theorem dX12_through_19 : decode cX12_through 19 = .ok (.aload_n 0, 1) := by decide +kernel
theorem dX12_through_20 : decode cX12_through 20 = .ok (.aload_n 0, 1) := by decide +kernel
theorem dX12_through_21 : decode cX12_through 21 = .ok (.getfield 109, 3) := by decide +kernel
theorem dX12_through_24 : decode cX12_through 24 = .ok (.bipush 38, 2) := by decide +kernel
theorem dX12_through_26 : decode cX12_through 26 = .ok (.iconst 3, 1) := by decide +kernel
theorem dX12_through_27 : decode cX12_through 27 = .ok (.iload_n 1, 1) := by decide +kernel
theorem dX12_through_28 : decode cX12_through 28 = .ok (.imul, 1) := by decide +kernel
theorem dX12_through_29 : decode cX12_through 29 = .ok (.iadd, 1) := by decide +kernel
theorem dX12_through_30 : decode cX12_through 30 = .ok (.iaload, 1) := by decide +kernel
theorem dX12_through_31 : decode cX12_through 31 = .ok (.putfield 432, 3) := by decide +kernel
theorem dX12_through_34 : decode cX12_through 34 = .ok (.aload_n 0, 1) := by decide +kernel
theorem dX12_through_35 : decode cX12_through 35 = .ok (.iconst 0, 1) := by decide +kernel
theorem dX12_through_36 : decode cX12_through 36 = .ok (.invokevirtual 435, 3) := by decide +kernel
theorem dX12_through_39 : decode cX12_through 39 = .ok (.ifCond .eq 16, 3) := by decide +kernel
theorem dX12_through_42 : decode cX12_through 42 = .ok (.aload_n 0, 1) := by decide +kernel
theorem dX12_through_43 : decode cX12_through 43 = .ok (.iconst 0, 1) := by decide +kernel
theorem dX12_through_44 : decode cX12_through 44 = .ok (.aload_n 0, 1) := by decide +kernel
theorem dX12_through_45 : decode cX12_through 45 = .ok (.iload_n 1, 1) := by decide +kernel
theorem dX12_through_46 : decode cX12_through 46 = .ok (.invokevirtual 438, 3) := by decide +kernel
theorem dX12_through_49 : decode cX12_through 49 = .ok (.invokevirtual 442, 3) := by decide +kernel
theorem dX12_through_52 : decode cX12_through 52 = .ok (.goto 10, 3) := by decide +kernel
theorem dX12_through_55 : decode cX12_through 55 = .ok (.iload_n 2, 1) := by decide +kernel
theorem dX12_through_56 : decode cX12_through 56 = .ok (.aload_n 0, 1) := by decide +kernel
theorem dX12_through_57 : decode cX12_through 57 = .ok (.getfield 432, 3) := by decide +kernel
theorem dX12_through_60 : decode cX12_through 60 = .ok (.isub, 1) := by decide +kernel
theorem dX12_through_61 : decode cX12_through 61 = .ok (.i2l, 1) := by decide +kernel
theorem dX12_through_62 : decode cX12_through 62 = .ok (.invokestatic 445, 3) := by decide +kernel
theorem dX12_through_65 : decode cX12_through 65 = .ok (.ireturn, 1) := by decide +kernel
theorem dX12_staysOf_0 : decode cX12_staysOf 0 = .ok (.iload_n 2, 1) := by decide +kernel
theorem dX12_staysOf_1 : decode cX12_staysOf 1 = .ok (.ifCond .eq 11, 3) := by decide +kernel
theorem dX12_staysOf_4 : decode cX12_staysOf 4 = .ok (.aload_n 0, 1) := by decide +kernel
theorem dX12_staysOf_5 : decode cX12_staysOf 5 = .ok (.iconst 1, 1) := by decide +kernel
theorem dX12_staysOf_6 : decode cX12_staysOf 6 = .ok (.invokevirtual 435, 3) := by decide +kernel
theorem dX12_staysOf_9 : decode cX12_staysOf 9 = .ok (.ifCond .ne 5, 3) := by decide +kernel
theorem dX12_staysOf_12 : decode cX12_staysOf 12 = .ok (.iconst 0, 1) := by decide +kernel
theorem dX12_staysOf_13 : decode cX12_staysOf 13 = .ok (.ireturn, 1) := by decide +kernel
theorem dX12_staysOf_14 : decode cX12_staysOf 14 = .ok (.aload_n 0, 1) := by decide +kernel
theorem dX12_staysOf_15 : decode cX12_staysOf 15 = .ok (.iload_n 2, 1) := by decide +kernel
theorem dX12_staysOf_16 : decode cX12_staysOf 16 = .ok (.putfield 449, 3) := by decide +kernel
theorem dX12_staysOf_19 : decode cX12_staysOf 19 = .ok (.aload_n 0, 1) := by decide +kernel
theorem dX12_staysOf_20 : decode cX12_staysOf 20 = .ok (.iconst 1, 1) := by decide +kernel
theorem dX12_staysOf_21 : decode cX12_staysOf 21 = .ok (.iload_n 1, 1) := by decide +kernel
theorem dX12_staysOf_22 : decode cX12_staysOf 22 = .ok (.invokevirtual 442, 3) := by decide +kernel
theorem dX12_staysOf_25 : decode cX12_staysOf 25 = .ok (.invokestatic 445, 3) := by decide +kernel
theorem dX12_staysOf_28 : decode cX12_staysOf 28 = .ok (.ireturn, 1) := by decide +kernel
theorem dX12_isActed_0 : decode cX12_isActed 0 = .ok (.aload_n 0, 1) := by decide +kernel
theorem dX12_isActed_1 : decode cX12_isActed 1 = .ok (.iload_n 1, 1) := by decide +kernel
theorem dX12_isActed_2 : decode cX12_isActed 2 = .ok (.iload_n 2, 1) := by decide +kernel
theorem dX12_isActed_3 : decode cX12_isActed 3 = .ok (.invokevirtual 452, 3) := by decide +kernel
theorem dX12_isActed_6 : decode cX12_isActed 6 = .ok (.istore_n 3, 1) := by decide +kernel
theorem dX12_isActed_7 : decode cX12_isActed 7 = .ok (.iload_n 3, 1) := by decide +kernel
theorem dX12_isActed_8 : decode cX12_isActed 8 = .ok (.ifCond .ne 5, 3) := by decide +kernel
theorem dX12_isActed_11 : decode cX12_isActed 11 = .ok (.iconst 0, 1) := by decide +kernel
theorem dX12_isActed_12 : decode cX12_isActed 12 = .ok (.ireturn, 1) := by decide +kernel
theorem dX12_isActed_13 : decode cX12_isActed 13 = .ok (.aload_n 0, 1) := by decide +kernel
theorem dX12_isActed_14 : decode cX12_isActed 14 = .ok (.iconst 2, 1) := by decide +kernel
theorem dX12_isActed_15 : decode cX12_isActed 15 = .ok (.invokevirtual 435, 3) := by decide +kernel
theorem dX12_isActed_18 : decode cX12_isActed 18 = .ok (.ifCond .ne 15, 3) := by decide +kernel
theorem dX12_isActed_21 : decode cX12_isActed 21 = .ok (.iload_n 3, 1) := by decide +kernel
theorem dX12_isActed_22 : decode cX12_isActed 22 = .ok (.bipush 50, 2) := by decide +kernel
theorem dX12_isActed_24 : decode cX12_isActed 24 = .ok (.if_icmp .le 7, 3) := by decide +kernel
theorem dX12_isActed_27 : decode cX12_isActed 27 = .ok (.iconst 1, 1) := by decide +kernel
theorem dX12_isActed_28 : decode cX12_isActed 28 = .ok (.goto 4, 3) := by decide +kernel
theorem dX12_isActed_31 : decode cX12_isActed 31 = .ok (.iconst 0, 1) := by decide +kernel
theorem dX12_isActed_32 : decode cX12_isActed 32 = .ok (.ireturn, 1) := by decide +kernel
theorem dX12_isActed_33 : decode cX12_isActed 33 = .ok (.aload_n 0, 1) := by decide +kernel
theorem dX12_isActed_34 : decode cX12_isActed 34 = .ok (.iload_n 3, 1) := by decide +kernel
theorem dX12_isActed_35 : decode cX12_isActed 35 = .ok (.putfield 449, 3) := by decide +kernel
theorem dX12_isActed_38 : decode cX12_isActed 38 = .ok (.aload_n 0, 1) := by decide +kernel
theorem dX12_isActed_39 : decode cX12_isActed 39 = .ok (.iload_n 2, 1) := by decide +kernel
theorem dX12_isActed_40 : decode cX12_isActed 40 = .ok (.putfield 455, 3) := by decide +kernel
theorem dX12_isActed_43 : decode cX12_isActed 43 = .ok (.aload_n 0, 1) := by decide +kernel
theorem dX12_isActed_44 : decode cX12_isActed 44 = .ok (.iconst 2, 1) := by decide +kernel
theorem dX12_isActed_45 : decode cX12_isActed 45 = .ok (.iload_n 1, 1) := by decide +kernel
theorem dX12_isActed_46 : decode cX12_isActed 46 = .ok (.invokevirtual 442, 3) := by decide +kernel
theorem dX12_isActed_49 : decode cX12_isActed 49 = .ok (.lconst 1, 1) := by decide +kernel
theorem dX12_isActed_50 : decode cX12_isActed 50 = .ok (.lcmp, 1) := by decide +kernel
theorem dX12_isActed_51 : decode cX12_isActed 51 = .ok (.ifCond .ne 7, 3) := by decide +kernel
theorem dX12_isActed_54 : decode cX12_isActed 54 = .ok (.iconst 1, 1) := by decide +kernel
theorem dX12_isActed_55 : decode cX12_isActed 55 = .ok (.goto 4, 3) := by decide +kernel
theorem dX12_isActed_58 : decode cX12_isActed 58 = .ok (.iconst 0, 1) := by decide +kernel
theorem dX12_isActed_59 : decode cX12_isActed 59 = .ok (.ireturn, 1) := by decide +kernel
theorem dX12_feelingGoes_0 : decode cX12_feelingGoes 0 = .ok (.iconst 0, 1) := by decide +kernel
theorem dX12_feelingGoes_1 : decode cX12_feelingGoes 1 = .ok (.istore_n 2, 1) := by decide +kernel
theorem dX12_feelingGoes_2 : decode cX12_feelingGoes 2 = .ok (.iload_n 2, 1) := by decide +kernel
theorem dX12_feelingGoes_3 : decode cX12_feelingGoes 3 = .ok (.aload_n 0, 1) := by decide +kernel
theorem dX12_feelingGoes_4 : decode cX12_feelingGoes 4 = .ok (.invokevirtual 397, 3) := by decide +kernel
theorem dX12_feelingGoes_7 : decode cX12_feelingGoes 7 = .ok (.if_icmp .ge 26, 3) := by decide +kernel
theorem dX12_feelingGoes_10 : decode cX12_feelingGoes 10 = .ok (.aload_n 0, 1) := by decide +kernel
theorem dX12_feelingGoes_11 : decode cX12_feelingGoes 11 = .ok (.getfield 130, 3) := by decide +kernel
theorem dX12_feelingGoes_14 : decode cX12_feelingGoes 14 = .ok (.iload_n 2, 1) := by decide +kernel
theorem dX12_feelingGoes_15 : decode cX12_feelingGoes 15 = .ok (.aload_n 0, 1) := by decide +kernel
theorem dX12_feelingGoes_16 : decode cX12_feelingGoes 16 = .ok (.iload_n 2, 1) := by decide +kernel
theorem dX12_feelingGoes_17 : decode cX12_feelingGoes 17 = .ok (.aload_n 0, 1) := by decide +kernel
theorem dX12_feelingGoes_18 : decode cX12_feelingGoes 18 = .ok (.iload_n 2, 1) := by decide +kernel
theorem dX12_feelingGoes_19 : decode cX12_feelingGoes 19 = .ok (.iload_n 1, 1) := by decide +kernel
theorem dX12_feelingGoes_20 : decode cX12_feelingGoes 20 = .ok (.invokevirtual 452, 3) := by decide +kernel
theorem dX12_feelingGoes_23 : decode cX12_feelingGoes 23 = .ok (.invokevirtual 458, 3) := by decide +kernel
theorem dX12_feelingGoes_26 : decode cX12_feelingGoes 26 = .ok (.iastore, 1) := by decide +kernel
theorem dX12_feelingGoes_27 : decode cX12_feelingGoes 27 = .ok (.iinc 2 1, 3) := by decide +kernel
theorem dX12_feelingGoes_30 : decode cX12_feelingGoes 30 = .ok (.goto (-28), 3) := by decide +kernel
theorem dX12_feelingGoes_33 : decode cX12_feelingGoes 33 = .ok (.iconst 0, 1) := by decide +kernel
theorem dX12_feelingGoes_34 : decode cX12_feelingGoes 34 = .ok (.istore_n 2, 1) := by decide +kernel
theorem dX12_feelingGoes_35 : decode cX12_feelingGoes 35 = .ok (.iload_n 2, 1) := by decide +kernel
theorem dX12_feelingGoes_36 : decode cX12_feelingGoes 36 = .ok (.aload_n 0, 1) := by decide +kernel
theorem dX12_feelingGoes_37 : decode cX12_feelingGoes 37 = .ok (.invokevirtual 403, 3) := by decide +kernel
theorem dX12_feelingGoes_40 : decode cX12_feelingGoes 40 = .ok (.if_icmp .ge 37, 3) := by decide +kernel
theorem dX12_feelingGoes_43 : decode cX12_feelingGoes 43 = .ok (.aload_n 0, 1) := by decide +kernel
theorem dX12_feelingGoes_44 : decode cX12_feelingGoes 44 = .ok (.getfield 130, 3) := by decide +kernel
theorem dX12_feelingGoes_47 : decode cX12_feelingGoes 47 = .ok (.aload_n 0, 1) := by decide +kernel
theorem dX12_feelingGoes_48 : decode cX12_feelingGoes 48 = .ok (.iload_n 2, 1) := by decide +kernel
theorem dX12_feelingGoes_49 : decode cX12_feelingGoes 49 = .ok (.invokevirtual 438, 3) := by decide +kernel
theorem dX12_feelingGoes_52 : decode cX12_feelingGoes 52 = .ok (.dup2, 1) := by decide +kernel
theorem dX12_feelingGoes_53 : decode cX12_feelingGoes 53 = .ok (.iaload, 1) := by decide +kernel
theorem dX12_feelingGoes_54 : decode cX12_feelingGoes 54 = .ok (.aload_n 0, 1) := by decide +kernel
theorem dX12_feelingGoes_55 : decode cX12_feelingGoes 55 = .ok (.iload_n 2, 1) := by decide +kernel
theorem dX12_feelingGoes_56 : decode cX12_feelingGoes 56 = .ok (.aload_n 0, 1) := by decide +kernel
theorem dX12_feelingGoes_57 : decode cX12_feelingGoes 57 = .ok (.aload_n 0, 1) := by decide +kernel
theorem dX12_feelingGoes_58 : decode cX12_feelingGoes 58 = .ok (.iload_n 2, 1) := by decide +kernel
theorem dX12_feelingGoes_59 : decode cX12_feelingGoes 59 = .ok (.invokevirtual 461, 3) := by decide +kernel
theorem dX12_feelingGoes_62 : decode cX12_feelingGoes 62 = .ok (.iload_n 1, 1) := by decide +kernel
theorem dX12_feelingGoes_63 : decode cX12_feelingGoes 63 = .ok (.invokevirtual 452, 3) := by decide +kernel
theorem dX12_feelingGoes_66 : decode cX12_feelingGoes 66 = .ok (.invokevirtual 464, 3) := by decide +kernel
theorem dX12_feelingGoes_69 : decode cX12_feelingGoes 69 = .ok (.iadd, 1) := by decide +kernel
theorem dX12_feelingGoes_70 : decode cX12_feelingGoes 70 = .ok (.iastore, 1) := by decide +kernel
theorem dX12_feelingGoes_71 : decode cX12_feelingGoes 71 = .ok (.iinc 2 1, 3) := by decide +kernel
theorem dX12_feelingGoes_74 : decode cX12_feelingGoes 74 = .ok (.goto (-39), 3) := by decide +kernel
theorem dX12_feelingGoes_77 : decode cX12_feelingGoes 77 = .ok (.iconst 0, 1) := by decide +kernel
theorem dX12_feelingGoes_78 : decode cX12_feelingGoes 78 = .ok (.istore_n 2, 1) := by decide +kernel
theorem dX12_feelingGoes_79 : decode cX12_feelingGoes 79 = .ok (.iload_n 2, 1) := by decide +kernel
theorem dX12_feelingGoes_80 : decode cX12_feelingGoes 80 = .ok (.aload_n 0, 1) := by decide +kernel
theorem dX12_feelingGoes_81 : decode cX12_feelingGoes 81 = .ok (.invokevirtual 397, 3) := by decide +kernel
theorem dX12_feelingGoes_84 : decode cX12_feelingGoes 84 = .ok (.if_icmp .ge 44, 3) := by decide +kernel
theorem dX12_feelingGoes_87 : decode cX12_feelingGoes 87 = .ok (.aload_n 0, 1) := by decide +kernel
theorem dX12_feelingGoes_88 : decode cX12_feelingGoes 88 = .ok (.getfield 124, 3) := by decide +kernel
theorem dX12_feelingGoes_91 : decode cX12_feelingGoes 91 = .ok (.bipush 25, 2) := by decide +kernel
theorem dX12_feelingGoes_93 : decode cX12_feelingGoes 93 = .ok (.iconst 4, 1) := by decide +kernel
theorem dX12_feelingGoes_94 : decode cX12_feelingGoes 94 = .ok (.iload_n 2, 1) := by decide +kernel
theorem dX12_feelingGoes_95 : decode cX12_feelingGoes 95 = .ok (.imul, 1) := by decide +kernel
theorem dX12_feelingGoes_96 : decode cX12_feelingGoes 96 = .ok (.iadd, 1) := by decide +kernel
theorem dX12_feelingGoes_97 : decode cX12_feelingGoes 97 = .ok (.iload_n 1, 1) := by decide +kernel
theorem dX12_feelingGoes_98 : decode cX12_feelingGoes 98 = .ok (.iadd, 1) := by decide +kernel
theorem dX12_feelingGoes_99 : decode cX12_feelingGoes 99 = .ok (.aload_n 0, 1) := by decide +kernel
theorem dX12_feelingGoes_100 : decode cX12_feelingGoes 100 = .ok (.getfield 130, 3) := by decide +kernel
theorem dX12_feelingGoes_103 : decode cX12_feelingGoes 103 = .ok (.iload_n 2, 1) := by decide +kernel
theorem dX12_feelingGoes_104 : decode cX12_feelingGoes 104 = .ok (.iaload, 1) := by decide +kernel
theorem dX12_feelingGoes_105 : decode cX12_feelingGoes 105 = .ok (.bipush 99, 2) := by decide +kernel
theorem dX12_feelingGoes_107 : decode cX12_feelingGoes 107 = .ok (.if_icmp .le 8, 3) := by decide +kernel
theorem dX12_feelingGoes_110 : decode cX12_feelingGoes 110 = .ok (.bipush 99, 2) := by decide +kernel
theorem dX12_feelingGoes_112 : decode cX12_feelingGoes 112 = .ok (.goto 9, 3) := by decide +kernel
theorem dX12_feelingGoes_115 : decode cX12_feelingGoes 115 = .ok (.aload_n 0, 1) := by decide +kernel
theorem dX12_feelingGoes_116 : decode cX12_feelingGoes 116 = .ok (.getfield 130, 3) := by decide +kernel
theorem dX12_feelingGoes_119 : decode cX12_feelingGoes 119 = .ok (.iload_n 2, 1) := by decide +kernel
theorem dX12_feelingGoes_120 : decode cX12_feelingGoes 120 = .ok (.iaload, 1) := by decide +kernel
theorem dX12_feelingGoes_121 : decode cX12_feelingGoes 121 = .ok (.iastore, 1) := by decide +kernel
theorem dX12_feelingGoes_122 : decode cX12_feelingGoes 122 = .ok (.iinc 2 1, 3) := by decide +kernel
theorem dX12_feelingGoes_125 : decode cX12_feelingGoes 125 = .ok (.goto (-46), 3) := by decide +kernel
theorem dX12_feelingGoes_128 : decode cX12_feelingGoes 128 = .ok (.return_, 1) := by decide +kernel
theorem dX12_isKept_0 : decode cX12_isKept 0 = .ok (.aload_n 0, 1) := by decide +kernel
theorem dX12_isKept_1 : decode cX12_isKept 1 = .ok (.dup, 1) := by decide +kernel
theorem dX12_isKept_2 : decode cX12_isKept 2 = .ok (.getfield 467, 3) := by decide +kernel
theorem dX12_isKept_5 : decode cX12_isKept 5 = .ok (.iconst 1, 1) := by decide +kernel
theorem dX12_isKept_6 : decode cX12_isKept 6 = .ok (.iadd, 1) := by decide +kernel
theorem dX12_isKept_7 : decode cX12_isKept 7 = .ok (.putfield 467, 3) := by decide +kernel
theorem dX12_isKept_10 : decode cX12_isKept 10 = .ok (.aload_n 0, 1) := by decide +kernel
theorem dX12_isKept_11 : decode cX12_isKept 11 = .ok (.getfield 470, 3) := by decide +kernel
theorem dX12_isKept_14 : decode cX12_isKept 14 = .ok (.ifCond .eq 4, 3) := by decide +kernel
theorem dX12_isKept_17 : decode cX12_isKept 17 = .ok (.return_, 1) := by decide +kernel
theorem dX12_isKept_18 : decode cX12_isKept 18 = .ok (.aload_n 0, 1) := by decide +kernel
theorem dX12_isKept_19 : decode cX12_isKept 19 = .ok (.getfield 124, 3) := by decide +kernel
theorem dX12_isKept_22 : decode cX12_isKept 22 = .ok (.bipush 57, 2) := by decide +kernel
theorem dX12_isKept_24 : decode cX12_isKept 24 = .ok (.iaload, 1) := by decide +kernel
theorem dX12_isKept_25 : decode cX12_isKept 25 = .ok (.bipush 40, 2) := by decide +kernel
theorem dX12_isKept_27 : decode cX12_isKept 27 = .ok (.if_icmp .ne 36, 3) := by decide +kernel
theorem dX12_isKept_30 : decode cX12_isKept 30 = .ok (.bipush 58, 2) := by decide +kernel
theorem dX12_isKept_32 : decode cX12_isKept 32 = .ok (.istore_n 3, 1) := by decide +kernel
theorem dX12_isKept_33 : decode cX12_isKept 33 = .ok (.iload_n 3, 1) := by decide +kernel
theorem dX12_isKept_34 : decode cX12_isKept 34 = .ok (.sipush 214, 3) := by decide +kernel
theorem dX12_isKept_37 : decode cX12_isKept 37 = .ok (.if_icmp .ge 23, 3) := by decide +kernel
theorem dX12_isKept_40 : decode cX12_isKept 40 = .ok (.aload_n 0, 1) := by decide +kernel
theorem dX12_isKept_41 : decode cX12_isKept 41 = .ok (.getfield 124, 3) := by decide +kernel
theorem dX12_isKept_44 : decode cX12_isKept 44 = .ok (.iload_n 3, 1) := by decide +kernel
theorem dX12_isKept_45 : decode cX12_isKept 45 = .ok (.aload_n 0, 1) := by decide +kernel
theorem dX12_isKept_46 : decode cX12_isKept 46 = .ok (.getfield 124, 3) := by decide +kernel
theorem dX12_isKept_49 : decode cX12_isKept 49 = .ok (.iload_n 3, 1) := by decide +kernel
theorem dX12_isKept_50 : decode cX12_isKept 50 = .ok (.iconst 4, 1) := by decide +kernel
theorem dX12_isKept_51 : decode cX12_isKept 51 = .ok (.iadd, 1) := by decide +kernel
theorem dX12_isKept_52 : decode cX12_isKept 52 = .ok (.iaload, 1) := by decide +kernel
theorem dX12_isKept_53 : decode cX12_isKept 53 = .ok (.iastore, 1) := by decide +kernel
theorem dX12_isKept_54 : decode cX12_isKept 54 = .ok (.iinc 3 1, 3) := by decide +kernel
theorem dX12_isKept_57 : decode cX12_isKept 57 = .ok (.goto (-24), 3) := by decide +kernel
theorem dX12_isKept_60 : decode cX12_isKept 60 = .ok (.goto 14, 3) := by decide +kernel
theorem dX12_isKept_63 : decode cX12_isKept 63 = .ok (.aload_n 0, 1) := by decide +kernel
theorem dX12_isKept_64 : decode cX12_isKept 64 = .ok (.getfield 124, 3) := by decide +kernel
theorem dX12_isKept_67 : decode cX12_isKept 67 = .ok (.bipush 57, 2) := by decide +kernel
theorem dX12_isKept_69 : decode cX12_isKept 69 = .ok (.dup2, 1) := by decide +kernel
theorem dX12_isKept_70 : decode cX12_isKept 70 = .ok (.iaload, 1) := by decide +kernel
theorem dX12_isKept_71 : decode cX12_isKept 71 = .ok (.iconst 1, 1) := by decide +kernel
theorem dX12_isKept_72 : decode cX12_isKept 72 = .ok (.iadd, 1) := by decide +kernel
theorem dX12_isKept_73 : decode cX12_isKept 73 = .ok (.iastore, 1) := by decide +kernel
theorem dX12_isKept_74 : decode cX12_isKept 74 = .ok (.bipush 58, 2) := by decide +kernel
theorem dX12_isKept_76 : decode cX12_isKept 76 = .ok (.iconst 4, 1) := by decide +kernel
theorem dX12_isKept_77 : decode cX12_isKept 77 = .ok (.aload_n 0, 1) := by decide +kernel
theorem dX12_isKept_78 : decode cX12_isKept 78 = .ok (.getfield 124, 3) := by decide +kernel
theorem dX12_isKept_81 : decode cX12_isKept 81 = .ok (.bipush 57, 2) := by decide +kernel
theorem dX12_isKept_83 : decode cX12_isKept 83 = .ok (.iaload, 1) := by decide +kernel
theorem dX12_isKept_84 : decode cX12_isKept 84 = .ok (.imul, 1) := by decide +kernel
theorem dX12_isKept_85 : decode cX12_isKept 85 = .ok (.iadd, 1) := by decide +kernel
theorem dX12_isKept_86 : decode cX12_isKept 86 = .ok (.iconst 4, 1) := by decide +kernel
theorem dX12_isKept_87 : decode cX12_isKept 87 = .ok (.isub, 1) := by decide +kernel
theorem dX12_isKept_88 : decode cX12_isKept 88 = .ok (.istore_n 3, 1) := by decide +kernel
theorem dX12_isKept_89 : decode cX12_isKept 89 = .ok (.aload_n 0, 1) := by decide +kernel
theorem dX12_isKept_90 : decode cX12_isKept 90 = .ok (.getfield 124, 3) := by decide +kernel
theorem dX12_isKept_93 : decode cX12_isKept 93 = .ok (.iload_n 3, 1) := by decide +kernel
theorem dX12_isKept_94 : decode cX12_isKept 94 = .ok (.aload_n 0, 1) := by decide +kernel
theorem dX12_isKept_95 : decode cX12_isKept 95 = .ok (.getfield 124, 3) := by decide +kernel
theorem dX12_isKept_98 : decode cX12_isKept 98 = .ok (.iconst 0, 1) := by decide +kernel
theorem dX12_isKept_99 : decode cX12_isKept 99 = .ok (.iaload, 1) := by decide +kernel
theorem dX12_isKept_100 : decode cX12_isKept 100 = .ok (.iastore, 1) := by decide +kernel
theorem dX12_isKept_101 : decode cX12_isKept 101 = .ok (.aload_n 0, 1) := by decide +kernel
theorem dX12_isKept_102 : decode cX12_isKept 102 = .ok (.getfield 124, 3) := by decide +kernel
theorem dX12_isKept_105 : decode cX12_isKept 105 = .ok (.iload_n 3, 1) := by decide +kernel
theorem dX12_isKept_106 : decode cX12_isKept 106 = .ok (.iconst 1, 1) := by decide +kernel
theorem dX12_isKept_107 : decode cX12_isKept 107 = .ok (.iadd, 1) := by decide +kernel
theorem dX12_isKept_108 : decode cX12_isKept 108 = .ok (.iload_n 1, 1) := by decide +kernel
theorem dX12_isKept_109 : decode cX12_isKept 109 = .ok (.iastore, 1) := by decide +kernel
theorem dX12_isKept_110 : decode cX12_isKept 110 = .ok (.aload_n 0, 1) := by decide +kernel
theorem dX12_isKept_111 : decode cX12_isKept 111 = .ok (.getfield 124, 3) := by decide +kernel
theorem dX12_isKept_114 : decode cX12_isKept 114 = .ok (.iload_n 3, 1) := by decide +kernel
theorem dX12_isKept_115 : decode cX12_isKept 115 = .ok (.iconst 2, 1) := by decide +kernel
theorem dX12_isKept_116 : decode cX12_isKept 116 = .ok (.iadd, 1) := by decide +kernel
theorem dX12_isKept_117 : decode cX12_isKept 117 = .ok (.iload_n 2, 1) := by decide +kernel
theorem dX12_isKept_118 : decode cX12_isKept 118 = .ok (.iastore, 1) := by decide +kernel
theorem dX12_isKept_119 : decode cX12_isKept 119 = .ok (.aload_n 0, 1) := by decide +kernel
theorem dX12_isKept_120 : decode cX12_isKept 120 = .ok (.getfield 124, 3) := by decide +kernel
theorem dX12_isKept_123 : decode cX12_isKept 123 = .ok (.iload_n 3, 1) := by decide +kernel
theorem dX12_isKept_124 : decode cX12_isKept 124 = .ok (.iconst 3, 1) := by decide +kernel
theorem dX12_isKept_125 : decode cX12_isKept 125 = .ok (.iadd, 1) := by decide +kernel
theorem dX12_isKept_126 : decode cX12_isKept 126 = .ok (.aload_n 0, 1) := by decide +kernel
theorem dX12_isKept_127 : decode cX12_isKept 127 = .ok (.iload_n 1, 1) := by decide +kernel
theorem dX12_isKept_128 : decode cX12_isKept 128 = .ok (.iload_n 2, 1) := by decide +kernel
theorem dX12_isKept_129 : decode cX12_isKept 129 = .ok (.invokevirtual 452, 3) := by decide +kernel
theorem dX12_isKept_132 : decode cX12_isKept 132 = .ok (.iastore, 1) := by decide +kernel
theorem dX12_isKept_133 : decode cX12_isKept 133 = .ok (.return_, 1) := by decide +kernel
theorem dX12_dayGoes_0 : decode cX12_dayGoes 0 = .ok (.iconst 0, 1) := by decide +kernel
theorem dX12_dayGoes_1 : decode cX12_dayGoes 1 = .ok (.istore_n 1, 1) := by decide +kernel
theorem dX12_dayGoes_2 : decode cX12_dayGoes 2 = .ok (.iload_n 1, 1) := by decide +kernel
theorem dX12_dayGoes_3 : decode cX12_dayGoes 3 = .ok (.aload_n 0, 1) := by decide +kernel
theorem dX12_dayGoes_4 : decode cX12_dayGoes 4 = .ok (.invokevirtual 400, 3) := by decide +kernel
theorem dX12_dayGoes_7 : decode cX12_dayGoes 7 = .ok (.if_icmp .ge 14, 3) := by decide +kernel
theorem dX12_dayGoes_10 : decode cX12_dayGoes 10 = .ok (.aload_n 0, 1) := by decide +kernel
theorem dX12_dayGoes_11 : decode cX12_dayGoes 11 = .ok (.iload_n 1, 1) := by decide +kernel
theorem dX12_dayGoes_12 : decode cX12_dayGoes 12 = .ok (.invokevirtual 474, 3) := by decide +kernel
theorem dX12_dayGoes_15 : decode cX12_dayGoes 15 = .ok (.iinc 1 1, 3) := by decide +kernel
theorem dX12_dayGoes_18 : decode cX12_dayGoes 18 = .ok (.goto (-16), 3) := by decide +kernel
theorem dX12_dayGoes_21 : decode cX12_dayGoes 21 = .ok (.iconst 0, 1) := by decide +kernel
theorem dX12_dayGoes_22 : decode cX12_dayGoes 22 = .ok (.istore_n 1, 1) := by decide +kernel
theorem dX12_dayGoes_23 : decode cX12_dayGoes 23 = .ok (.iload_n 1, 1) := by decide +kernel
theorem dX12_dayGoes_24 : decode cX12_dayGoes 24 = .ok (.aload_n 0, 1) := by decide +kernel
theorem dX12_dayGoes_25 : decode cX12_dayGoes 25 = .ok (.invokevirtual 397, 3) := by decide +kernel
theorem dX12_dayGoes_28 : decode cX12_dayGoes 28 = .ok (.if_icmp .ge 40, 3) := by decide +kernel
theorem dX12_dayGoes_31 : decode cX12_dayGoes 31 = .ok (.iconst 0, 1) := by decide +kernel
theorem dX12_dayGoes_32 : decode cX12_dayGoes 32 = .ok (.istore_n 2, 1) := by decide +kernel
theorem dX12_dayGoes_33 : decode cX12_dayGoes 33 = .ok (.iload_n 2, 1) := by decide +kernel
theorem dX12_dayGoes_34 : decode cX12_dayGoes 34 = .ok (.aload_n 0, 1) := by decide +kernel
theorem dX12_dayGoes_35 : decode cX12_dayGoes 35 = .ok (.invokevirtual 400, 3) := by decide +kernel
theorem dX12_dayGoes_38 : decode cX12_dayGoes 38 = .ok (.if_icmp .ge 24, 3) := by decide +kernel
theorem dX12_dayGoes_41 : decode cX12_dayGoes 41 = .ok (.aload_n 0, 1) := by decide +kernel
theorem dX12_dayGoes_42 : decode cX12_dayGoes 42 = .ok (.iload_n 1, 1) := by decide +kernel
theorem dX12_dayGoes_43 : decode cX12_dayGoes 43 = .ok (.iload_n 2, 1) := by decide +kernel
theorem dX12_dayGoes_44 : decode cX12_dayGoes 44 = .ok (.invokevirtual 477, 3) := by decide +kernel
theorem dX12_dayGoes_47 : decode cX12_dayGoes 47 = .ok (.ifCond .eq 9, 3) := by decide +kernel
theorem dX12_dayGoes_50 : decode cX12_dayGoes 50 = .ok (.aload_n 0, 1) := by decide +kernel
theorem dX12_dayGoes_51 : decode cX12_dayGoes 51 = .ok (.iload_n 1, 1) := by decide +kernel
theorem dX12_dayGoes_52 : decode cX12_dayGoes 52 = .ok (.iload_n 2, 1) := by decide +kernel
theorem dX12_dayGoes_53 : decode cX12_dayGoes 53 = .ok (.invokevirtual 481, 3) := by decide +kernel
theorem dX12_dayGoes_56 : decode cX12_dayGoes 56 = .ok (.iinc 2 1, 3) := by decide +kernel
theorem dX12_dayGoes_59 : decode cX12_dayGoes 59 = .ok (.goto (-26), 3) := by decide +kernel
theorem dX12_dayGoes_62 : decode cX12_dayGoes 62 = .ok (.iinc 1 1, 3) := by decide +kernel
theorem dX12_dayGoes_65 : decode cX12_dayGoes 65 = .ok (.goto (-42), 3) := by decide +kernel
theorem dX12_dayGoes_68 : decode cX12_dayGoes 68 = .ok (.aload_n 0, 1) := by decide +kernel
theorem dX12_dayGoes_69 : decode cX12_dayGoes 69 = .ok (.getfield 124, 3) := by decide +kernel
theorem dX12_dayGoes_72 : decode cX12_dayGoes 72 = .ok (.iconst 0, 1) := by decide +kernel
theorem dX12_dayGoes_73 : decode cX12_dayGoes 73 = .ok (.dup2, 1) := by decide +kernel
theorem dX12_dayGoes_74 : decode cX12_dayGoes 74 = .ok (.iaload, 1) := by decide +kernel
theorem dX12_dayGoes_75 : decode cX12_dayGoes 75 = .ok (.iconst 1, 1) := by decide +kernel
theorem dX12_dayGoes_76 : decode cX12_dayGoes 76 = .ok (.iadd, 1) := by decide +kernel
theorem dX12_dayGoes_77 : decode cX12_dayGoes 77 = .ok (.iastore, 1) := by decide +kernel
theorem dX12_dayGoes_78 : decode cX12_dayGoes 78 = .ok (.return_, 1) := by decide +kernel
theorem dX12_daysGo_0 : decode cX12_daysGo 0 = .ok (.aload_n 0, 1) := by decide +kernel
theorem dX12_daysGo_1 : decode cX12_daysGo 1 = .ok (.iconst 0, 1) := by decide +kernel
theorem dX12_daysGo_2 : decode cX12_daysGo 2 = .ok (.putfield 467, 3) := by decide +kernel
theorem dX12_daysGo_5 : decode cX12_daysGo 5 = .ok (.iconst 0, 1) := by decide +kernel
theorem dX12_daysGo_6 : decode cX12_daysGo 6 = .ok (.istore_n 2, 1) := by decide +kernel
theorem dX12_daysGo_7 : decode cX12_daysGo 7 = .ok (.iload_n 2, 1) := by decide +kernel
theorem dX12_daysGo_8 : decode cX12_daysGo 8 = .ok (.iload_n 1, 1) := by decide +kernel
theorem dX12_daysGo_9 : decode cX12_daysGo 9 = .ok (.if_icmp .ge 13, 3) := by decide +kernel
theorem dX12_daysGo_12 : decode cX12_daysGo 12 = .ok (.aload_n 0, 1) := by decide +kernel
theorem dX12_daysGo_13 : decode cX12_daysGo 13 = .ok (.invokevirtual 484, 3) := by decide +kernel
theorem dX12_daysGo_16 : decode cX12_daysGo 16 = .ok (.iinc 2 1, 3) := by decide +kernel
theorem dX12_daysGo_19 : decode cX12_daysGo 19 = .ok (.goto (-12), 3) := by decide +kernel
theorem dX12_daysGo_22 : decode cX12_daysGo 22 = .ok (.return_, 1) := by decide +kernel
theorem dX12_oneGoes_0 : decode cX12_oneGoes 0 = .ok (.iconst 0, 1) := by decide +kernel
theorem dX12_oneGoes_1 : decode cX12_oneGoes 1 = .ok (.istore_n 3, 1) := by decide +kernel
theorem dX12_oneGoes_2 : decode cX12_oneGoes 2 = .ok (.iload_n 3, 1) := by decide +kernel
theorem dX12_oneGoes_3 : decode cX12_oneGoes 3 = .ok (.iload_n 2, 1) := by decide +kernel
theorem dX12_oneGoes_4 : decode cX12_oneGoes 4 = .ok (.if_icmp .ge 24, 3) := by decide +kernel
theorem dX12_oneGoes_7 : decode cX12_oneGoes 7 = .ok (.aload_n 0, 1) := by decide +kernel
theorem dX12_oneGoes_8 : decode cX12_oneGoes 8 = .ok (.iload_n 1, 1) := by decide +kernel
theorem dX12_oneGoes_9 : decode cX12_oneGoes 9 = .ok (.invokevirtual 474, 3) := by decide +kernel
theorem dX12_oneGoes_12 : decode cX12_oneGoes 12 = .ok (.aload_n 0, 1) := by decide +kernel
theorem dX12_oneGoes_13 : decode cX12_oneGoes 13 = .ok (.getfield 124, 3) := by decide +kernel
theorem dX12_oneGoes_16 : decode cX12_oneGoes 16 = .ok (.iconst 0, 1) := by decide +kernel
theorem dX12_oneGoes_17 : decode cX12_oneGoes 17 = .ok (.dup2, 1) := by decide +kernel
theorem dX12_oneGoes_18 : decode cX12_oneGoes 18 = .ok (.iaload, 1) := by decide +kernel
theorem dX12_oneGoes_19 : decode cX12_oneGoes 19 = .ok (.iconst 1, 1) := by decide +kernel
theorem dX12_oneGoes_20 : decode cX12_oneGoes 20 = .ok (.iadd, 1) := by decide +kernel
theorem dX12_oneGoes_21 : decode cX12_oneGoes 21 = .ok (.iastore, 1) := by decide +kernel
theorem dX12_oneGoes_22 : decode cX12_oneGoes 22 = .ok (.iinc 3 1, 3) := by decide +kernel
theorem dX12_oneGoes_25 : decode cX12_oneGoes 25 = .ok (.goto (-23), 3) := by decide +kernel
theorem dX12_oneGoes_28 : decode cX12_oneGoes 28 = .ok (.return_, 1) := by decide +kernel
theorem dX12_putsAside_0 : decode cX12_putsAside 0 = .ok (.aload_n 0, 1) := by decide +kernel
theorem dX12_putsAside_1 : decode cX12_putsAside 1 = .ok (.iconst 1, 1) := by decide +kernel
theorem dX12_putsAside_2 : decode cX12_putsAside 2 = .ok (.putfield 470, 3) := by decide +kernel
theorem dX12_putsAside_5 : decode cX12_putsAside 5 = .ok (.iconst 0, 1) := by decide +kernel
theorem dX12_putsAside_6 : decode cX12_putsAside 6 = .ok (.istore_n 1, 1) := by decide +kernel
theorem dX12_putsAside_7 : decode cX12_putsAside 7 = .ok (.iload_n 1, 1) := by decide +kernel
theorem dX12_putsAside_8 : decode cX12_putsAside 8 = .ok (.bipush 57, 2) := by decide +kernel
theorem dX12_putsAside_10 : decode cX12_putsAside 10 = .ok (.if_icmp .ge 21, 3) := by decide +kernel
theorem dX12_putsAside_13 : decode cX12_putsAside 13 = .ok (.aload_n 0, 1) := by decide +kernel
theorem dX12_putsAside_14 : decode cX12_putsAside 14 = .ok (.getfield 127, 3) := by decide +kernel
theorem dX12_putsAside_17 : decode cX12_putsAside 17 = .ok (.iload_n 1, 1) := by decide +kernel
theorem dX12_putsAside_18 : decode cX12_putsAside 18 = .ok (.aload_n 0, 1) := by decide +kernel
theorem dX12_putsAside_19 : decode cX12_putsAside 19 = .ok (.getfield 124, 3) := by decide +kernel
theorem dX12_putsAside_22 : decode cX12_putsAside 22 = .ok (.iload_n 1, 1) := by decide +kernel
theorem dX12_putsAside_23 : decode cX12_putsAside 23 = .ok (.iaload, 1) := by decide +kernel
theorem dX12_putsAside_24 : decode cX12_putsAside 24 = .ok (.iastore, 1) := by decide +kernel
theorem dX12_putsAside_25 : decode cX12_putsAside 25 = .ok (.iinc 1 1, 3) := by decide +kernel
theorem dX12_putsAside_28 : decode cX12_putsAside 28 = .ok (.goto (-21), 3) := by decide +kernel
theorem dX12_putsAside_31 : decode cX12_putsAside 31 = .ok (.return_, 1) := by decide +kernel
theorem dX12_triesAnew_0 : decode cX12_triesAnew 0 = .ok (.iconst 0, 1) := by decide +kernel
theorem dX12_triesAnew_1 : decode cX12_triesAnew 1 = .ok (.istore_n 1, 1) := by decide +kernel
theorem dX12_triesAnew_2 : decode cX12_triesAnew 2 = .ok (.iload_n 1, 1) := by decide +kernel
theorem dX12_triesAnew_3 : decode cX12_triesAnew 3 = .ok (.bipush 57, 2) := by decide +kernel
theorem dX12_triesAnew_5 : decode cX12_triesAnew 5 = .ok (.if_icmp .ge 21, 3) := by decide +kernel
theorem dX12_triesAnew_8 : decode cX12_triesAnew 8 = .ok (.aload_n 0, 1) := by decide +kernel
theorem dX12_triesAnew_9 : decode cX12_triesAnew 9 = .ok (.getfield 124, 3) := by decide +kernel
theorem dX12_triesAnew_12 : decode cX12_triesAnew 12 = .ok (.iload_n 1, 1) := by decide +kernel
theorem dX12_triesAnew_13 : decode cX12_triesAnew 13 = .ok (.aload_n 0, 1) := by decide +kernel
theorem dX12_triesAnew_14 : decode cX12_triesAnew 14 = .ok (.getfield 127, 3) := by decide +kernel
theorem dX12_triesAnew_17 : decode cX12_triesAnew 17 = .ok (.iload_n 1, 1) := by decide +kernel
theorem dX12_triesAnew_18 : decode cX12_triesAnew 18 = .ok (.iaload, 1) := by decide +kernel
theorem dX12_triesAnew_19 : decode cX12_triesAnew 19 = .ok (.iastore, 1) := by decide +kernel
theorem dX12_triesAnew_20 : decode cX12_triesAnew 20 = .ok (.iinc 1 1, 3) := by decide +kernel
theorem dX12_triesAnew_23 : decode cX12_triesAnew 23 = .ok (.goto (-21), 3) := by decide +kernel
theorem dX12_triesAnew_26 : decode cX12_triesAnew 26 = .ok (.return_, 1) := by decide +kernel
theorem dX12_takesBack_0 : decode cX12_takesBack 0 = .ok (.aload_n 0, 1) := by decide +kernel
theorem dX12_takesBack_1 : decode cX12_takesBack 1 = .ok (.invokevirtual 487, 3) := by decide +kernel
theorem dX12_takesBack_4 : decode cX12_takesBack 4 = .ok (.aload_n 0, 1) := by decide +kernel
theorem dX12_takesBack_5 : decode cX12_takesBack 5 = .ok (.iconst 0, 1) := by decide +kernel
theorem dX12_takesBack_6 : decode cX12_takesBack 6 = .ok (.putfield 470, 3) := by decide +kernel
theorem dX12_takesBack_9 : decode cX12_takesBack 9 = .ok (.return_, 1) := by decide +kernel
theorem dX12_isAhead_0 : decode cX12_isAhead 0 = .ok (.iload_n 1, 1) := by decide +kernel
theorem dX12_isAhead_1 : decode cX12_isAhead 1 = .ok (.i2l, 1) := by decide +kernel
theorem dX12_isAhead_2 : decode cX12_isAhead 2 = .ok (.iload_n 2, 1) := by decide +kernel
theorem dX12_isAhead_3 : decode cX12_isAhead 3 = .ok (.i2l, 1) := by decide +kernel
theorem dX12_isAhead_4 : decode cX12_isAhead 4 = .ok (.iload_n 3, 1) := by decide +kernel
theorem dX12_isAhead_5 : decode cX12_isAhead 5 = .ok (.i2l, 1) := by decide +kernel
theorem dX12_isAhead_6 : decode cX12_isAhead 6 = .ok (.invokestatic 295, 3) := by decide +kernel
theorem dX12_isAhead_9 : decode cX12_isAhead 9 = .ok (.ifCond .eq 21, 3) := by decide +kernel
theorem dX12_isAhead_12 : decode cX12_isAhead 12 = .ok (.aload_n 0, 1) := by decide +kernel
theorem dX12_isAhead_13 : decode cX12_isAhead 13 = .ok (.getfield 124, 3) := by decide +kernel
theorem dX12_isAhead_16 : decode cX12_isAhead 16 = .ok (.iconst 0, 1) := by decide +kernel
theorem dX12_isAhead_17 : decode cX12_isAhead 17 = .ok (.iaload, 1) := by decide +kernel
theorem dX12_isAhead_18 : decode cX12_isAhead 18 = .ok (.iload_n 1, 1) := by decide +kernel
theorem dX12_isAhead_19 : decode cX12_isAhead 19 = .ok (.iadd, 1) := by decide +kernel
theorem dX12_isAhead_20 : decode cX12_isAhead 20 = .ok (.sipush 999, 3) := by decide +kernel
theorem dX12_isAhead_23 : decode cX12_isAhead 23 = .ok (.if_icmp .gt 7, 3) := by decide +kernel
theorem dX12_isAhead_26 : decode cX12_isAhead 26 = .ok (.iconst 1, 1) := by decide +kernel
theorem dX12_isAhead_27 : decode cX12_isAhead 27 = .ok (.goto 4, 3) := by decide +kernel
theorem dX12_isAhead_30 : decode cX12_isAhead 30 = .ok (.iconst 0, 1) := by decide +kernel
theorem dX12_isAhead_31 : decode cX12_isAhead 31 = .ok (.ireturn, 1) := by decide +kernel
theorem dX12_bits_0 : decode cX12_bits 0 = .ok (.iconst 0, 1) := by decide +kernel
theorem dX12_bits_1 : decode cX12_bits 1 = .ok (.istore_n 1, 1) := by decide +kernel
theorem dX12_bits_2 : decode cX12_bits 2 = .ok (.iload_n 0, 1) := by decide +kernel
theorem dX12_bits_3 : decode cX12_bits 3 = .ok (.istore_n 2, 1) := by decide +kernel
theorem dX12_bits_4 : decode cX12_bits 4 = .ok (.iload_n 2, 1) := by decide +kernel
theorem dX12_bits_5 : decode cX12_bits 5 = .ok (.ifCond .eq 15, 3) := by decide +kernel
theorem dX12_bits_8 : decode cX12_bits 8 = .ok (.iinc 1 1, 3) := by decide +kernel
theorem dX12_bits_11 : decode cX12_bits 11 = .ok (.iload_n 2, 1) := by decide +kernel
theorem dX12_bits_12 : decode cX12_bits 12 = .ok (.iload_n 2, 1) := by decide +kernel
theorem dX12_bits_13 : decode cX12_bits 13 = .ok (.iconst 1, 1) := by decide +kernel
theorem dX12_bits_14 : decode cX12_bits 14 = .ok (.isub, 1) := by decide +kernel
theorem dX12_bits_15 : decode cX12_bits 15 = .ok (.iand, 1) := by decide +kernel
theorem dX12_bits_16 : decode cX12_bits 16 = .ok (.istore_n 2, 1) := by decide +kernel
theorem dX12_bits_17 : decode cX12_bits 17 = .ok (.goto (-13), 3) := by decide +kernel
theorem dX12_bits_20 : decode cX12_bits 20 = .ok (.iload_n 1, 1) := by decide +kernel
theorem dX12_bits_21 : decode cX12_bits 21 = .ok (.ireturn, 1) := by decide +kernel
theorem dX12_carbonsThat_0 : decode cX12_carbonsThat 0 = .ok (.iconst 0, 1) := by decide +kernel
theorem dX12_carbonsThat_1 : decode cX12_carbonsThat 1 = .ok (.istore_n 2, 1) := by decide +kernel
theorem dX12_carbonsThat_2 : decode cX12_carbonsThat 2 = .ok (.iconst 0, 1) := by decide +kernel
theorem dX12_carbonsThat_3 : decode cX12_carbonsThat 3 = .ok (.istore_n 3, 1) := by decide +kernel
theorem dX12_carbonsThat_4 : decode cX12_carbonsThat 4 = .ok (.iload_n 3, 1) := by decide +kernel
theorem dX12_carbonsThat_5 : decode cX12_carbonsThat 5 = .ok (.aload_n 0, 1) := by decide +kernel
theorem dX12_carbonsThat_6 : decode cX12_carbonsThat 6 = .ok (.invokevirtual 403, 3) := by decide +kernel
theorem dX12_carbonsThat_9 : decode cX12_carbonsThat 9 = .ok (.if_icmp .ge 22, 3) := by decide +kernel
theorem dX12_carbonsThat_12 : decode cX12_carbonsThat 12 = .ok (.iload_n 2, 1) := by decide +kernel
theorem dX12_carbonsThat_13 : decode cX12_carbonsThat 13 = .ok (.aload_n 0, 1) := by decide +kernel
theorem dX12_carbonsThat_14 : decode cX12_carbonsThat 14 = .ok (.getfield 124, 3) := by decide +kernel
theorem dX12_carbonsThat_17 : decode cX12_carbonsThat 17 = .ok (.iload_n 1, 1) := by decide +kernel
theorem dX12_carbonsThat_18 : decode cX12_carbonsThat 18 = .ok (.iconst 2, 1) := by decide +kernel
theorem dX12_carbonsThat_19 : decode cX12_carbonsThat 19 = .ok (.iload_n 3, 1) := by decide +kernel
theorem dX12_carbonsThat_20 : decode cX12_carbonsThat 20 = .ok (.imul, 1) := by decide +kernel
theorem dX12_carbonsThat_21 : decode cX12_carbonsThat 21 = .ok (.iadd, 1) := by decide +kernel
theorem dX12_carbonsThat_22 : decode cX12_carbonsThat 22 = .ok (.iaload, 1) := by decide +kernel
theorem dX12_carbonsThat_23 : decode cX12_carbonsThat 23 = .ok (.iadd, 1) := by decide +kernel
theorem dX12_carbonsThat_24 : decode cX12_carbonsThat 24 = .ok (.istore_n 2, 1) := by decide +kernel
theorem dX12_carbonsThat_25 : decode cX12_carbonsThat 25 = .ok (.iinc 3 1, 3) := by decide +kernel
theorem dX12_carbonsThat_28 : decode cX12_carbonsThat 28 = .ok (.goto (-24), 3) := by decide +kernel
theorem dX12_carbonsThat_31 : decode cX12_carbonsThat 31 = .ok (.iload_n 2, 1) := by decide +kernel
theorem dX12_carbonsThat_32 : decode cX12_carbonsThat 32 = .ok (.ireturn, 1) := by decide +kernel
theorem dX12_strengthAll_0 : decode cX12_strengthAll 0 = .ok (.iconst 0, 1) := by decide +kernel
theorem dX12_strengthAll_1 : decode cX12_strengthAll 1 = .ok (.istore_n 1, 1) := by decide +kernel
theorem dX12_strengthAll_2 : decode cX12_strengthAll 2 = .ok (.bipush 25, 2) := by decide +kernel
theorem dX12_strengthAll_4 : decode cX12_strengthAll 4 = .ok (.istore_n 2, 1) := by decide +kernel
theorem dX12_strengthAll_5 : decode cX12_strengthAll 5 = .ok (.iload_n 2, 1) := by decide +kernel
theorem dX12_strengthAll_6 : decode cX12_strengthAll 6 = .ok (.bipush 57, 2) := by decide +kernel
theorem dX12_strengthAll_8 : decode cX12_strengthAll 8 = .ok (.if_icmp .ge 18, 3) := by decide +kernel
theorem dX12_strengthAll_11 : decode cX12_strengthAll 11 = .ok (.iload_n 1, 1) := by decide +kernel
theorem dX12_strengthAll_12 : decode cX12_strengthAll 12 = .ok (.aload_n 0, 1) := by decide +kernel
theorem dX12_strengthAll_13 : decode cX12_strengthAll 13 = .ok (.getfield 124, 3) := by decide +kernel
theorem dX12_strengthAll_16 : decode cX12_strengthAll 16 = .ok (.iload_n 2, 1) := by decide +kernel
theorem dX12_strengthAll_17 : decode cX12_strengthAll 17 = .ok (.iaload, 1) := by decide +kernel
theorem dX12_strengthAll_18 : decode cX12_strengthAll 18 = .ok (.iadd, 1) := by decide +kernel
theorem dX12_strengthAll_19 : decode cX12_strengthAll 19 = .ok (.istore_n 1, 1) := by decide +kernel
theorem dX12_strengthAll_20 : decode cX12_strengthAll 20 = .ok (.iinc 2 1, 3) := by decide +kernel
theorem dX12_strengthAll_23 : decode cX12_strengthAll 23 = .ok (.goto (-18), 3) := by decide +kernel
theorem dX12_strengthAll_26 : decode cX12_strengthAll 26 = .ok (.iload_n 1, 1) := by decide +kernel
theorem dX12_strengthAll_27 : decode cX12_strengthAll 27 = .ok (.ireturn, 1) := by decide +kernel
theorem dX12_has_0 : decode cX12_has 0 = .ok (.iload_n 1, 1) := by decide +kernel
theorem dX12_has_1 : decode cX12_has 1 = .ok (.tableswitch 106 0 9 #[55, 55, 55, 64, 71, 77, 83, 88, 96, 101], 55) := by decide +kernel
theorem dX12_has_56 : decode cX12_has 56 = .ok (.aload_n 0, 1) := by decide +kernel
theorem dX12_has_57 : decode cX12_has 57 = .ok (.getfield 99, 3) := by decide +kernel
theorem dX12_has_60 : decode cX12_has 60 = .ok (.iconst 4, 1) := by decide +kernel
theorem dX12_has_61 : decode cX12_has 61 = .ok (.iload_n 1, 1) := by decide +kernel
theorem dX12_has_62 : decode cX12_has 62 = .ok (.iadd, 1) := by decide +kernel
theorem dX12_has_63 : decode cX12_has 63 = .ok (.iaload, 1) := by decide +kernel
theorem dX12_has_64 : decode cX12_has 64 = .ok (.ireturn, 1) := by decide +kernel
theorem dX12_has_65 : decode cX12_has 65 = .ok (.aload_n 0, 1) := by decide +kernel
theorem dX12_has_66 : decode cX12_has 66 = .ok (.getfield 124, 3) := by decide +kernel
theorem dX12_has_69 : decode cX12_has 69 = .ok (.iconst 0, 1) := by decide +kernel
theorem dX12_has_70 : decode cX12_has 70 = .ok (.iaload, 1) := by decide +kernel
theorem dX12_has_71 : decode cX12_has 71 = .ok (.ireturn, 1) := by decide +kernel
theorem dX12_has_72 : decode cX12_has 72 = .ok (.aload_n 0, 1) := by decide +kernel
theorem dX12_has_73 : decode cX12_has 73 = .ok (.iconst 1, 1) := by decide +kernel
theorem dX12_has_74 : decode cX12_has 74 = .ok (.invokevirtual 490, 3) := by decide +kernel
theorem dX12_has_77 : decode cX12_has 77 = .ok (.ireturn, 1) := by decide +kernel
theorem dX12_has_78 : decode cX12_has 78 = .ok (.aload_n 0, 1) := by decide +kernel
theorem dX12_has_79 : decode cX12_has 79 = .ok (.iconst 2, 1) := by decide +kernel
theorem dX12_has_80 : decode cX12_has 80 = .ok (.invokevirtual 490, 3) := by decide +kernel
theorem dX12_has_83 : decode cX12_has 83 = .ok (.ireturn, 1) := by decide +kernel
theorem dX12_has_84 : decode cX12_has 84 = .ok (.aload_n 0, 1) := by decide +kernel
theorem dX12_has_85 : decode cX12_has 85 = .ok (.invokevirtual 493, 3) := by decide +kernel
theorem dX12_has_88 : decode cX12_has 88 = .ok (.ireturn, 1) := by decide +kernel
theorem dX12_has_89 : decode cX12_has 89 = .ok (.aload_n 0, 1) := by decide +kernel
theorem dX12_has_90 : decode cX12_has 90 = .ok (.getfield 124, 3) := by decide +kernel
theorem dX12_has_93 : decode cX12_has 93 = .ok (.bipush 57, 2) := by decide +kernel
theorem dX12_has_95 : decode cX12_has 95 = .ok (.iaload, 1) := by decide +kernel
theorem dX12_has_96 : decode cX12_has 96 = .ok (.ireturn, 1) := by decide +kernel
theorem dX12_has_97 : decode cX12_has 97 = .ok (.aload_n 0, 1) := by decide +kernel
theorem dX12_has_98 : decode cX12_has 98 = .ok (.getfield 394, 3) := by decide +kernel
theorem dX12_has_101 : decode cX12_has 101 = .ok (.ireturn, 1) := by decide +kernel
theorem dX12_has_102 : decode cX12_has 102 = .ok (.aload_n 0, 1) := by decide +kernel
theorem dX12_has_103 : decode cX12_has 103 = .ok (.getfield 391, 3) := by decide +kernel
theorem dX12_has_106 : decode cX12_has 106 = .ok (.ireturn, 1) := by decide +kernel
theorem dX12_has_107 : decode cX12_has 107 = .ok (.iconst (-1), 1) := by decide +kernel
theorem dX12_has_108 : decode cX12_has 108 = .ok (.ireturn, 1) := by decide +kernel
theorem dX12_letter_0 : decode cX12_letter 0 = .ok (.iload_n 1, 1) := by decide +kernel
theorem dX12_letter_1 : decode cX12_letter 1 = .ok (.i2l, 1) := by decide +kernel
theorem dX12_letter_2 : decode cX12_letter 2 = .ok (.lconst 0, 1) := by decide +kernel
theorem dX12_letter_3 : decode cX12_letter 3 = .ok (.lconst 1, 1) := by decide +kernel
theorem dX12_letter_4 : decode cX12_letter 4 = .ok (.invokestatic 295, 3) := by decide +kernel
theorem dX12_letter_7 : decode cX12_letter 7 = .ok (.ifCond .eq 35, 3) := by decide +kernel
theorem dX12_letter_10 : decode cX12_letter 10 = .ok (.iload_n 2, 1) := by decide +kernel
theorem dX12_letter_11 : decode cX12_letter 11 = .ok (.i2l, 1) := by decide +kernel
theorem dX12_letter_12 : decode cX12_letter 12 = .ok (.lconst 0, 1) := by decide +kernel
theorem dX12_letter_13 : decode cX12_letter 13 = .ok (.aload_n 0, 1) := by decide +kernel
theorem dX12_letter_14 : decode cX12_letter 14 = .ok (.getfield 99, 3) := by decide +kernel
theorem dX12_letter_17 : decode cX12_letter 17 = .ok (.iconst 4, 1) := by decide +kernel
theorem dX12_letter_18 : decode cX12_letter 18 = .ok (.iload_n 1, 1) := by decide +kernel
theorem dX12_letter_19 : decode cX12_letter 19 = .ok (.iadd, 1) := by decide +kernel
theorem dX12_letter_20 : decode cX12_letter 20 = .ok (.iaload, 1) := by decide +kernel
theorem dX12_letter_21 : decode cX12_letter 21 = .ok (.iconst 1, 1) := by decide +kernel
theorem dX12_letter_22 : decode cX12_letter 22 = .ok (.isub, 1) := by decide +kernel
theorem dX12_letter_23 : decode cX12_letter 23 = .ok (.i2l, 1) := by decide +kernel
theorem dX12_letter_24 : decode cX12_letter 24 = .ok (.invokestatic 295, 3) := by decide +kernel
theorem dX12_letter_27 : decode cX12_letter 27 = .ok (.ifCond .eq 15, 3) := by decide +kernel
theorem dX12_letter_30 : decode cX12_letter 30 = .ok (.iload_n 3, 1) := by decide +kernel
theorem dX12_letter_31 : decode cX12_letter 31 = .ok (.i2l, 1) := by decide +kernel
theorem dX12_letter_32 : decode cX12_letter 32 = .ok (.lconst 0, 1) := by decide +kernel
theorem dX12_letter_33 : decode cX12_letter 33 = .ok (.ldc2_w 313, 3) := by decide +kernel
theorem dX12_letter_36 : decode cX12_letter 36 = .ok (.invokestatic 295, 3) := by decide +kernel
theorem dX12_letter_39 : decode cX12_letter 39 = .ok (.ifCond .ne 5, 3) := by decide +kernel
theorem dX12_letter_42 : decode cX12_letter 42 = .ok (.iconst (-1), 1) := by decide +kernel
theorem dX12_letter_43 : decode cX12_letter 43 = .ok (.ireturn, 1) := by decide +kernel
theorem dX12_letter_44 : decode cX12_letter 44 = .ok (.aload_n 0, 1) := by decide +kernel
theorem dX12_letter_45 : decode cX12_letter 45 = .ok (.getfield 102, 3) := by decide +kernel
theorem dX12_letter_48 : decode cX12_letter 48 = .ok (.bipush 16, 2) := by decide +kernel
theorem dX12_letter_50 : decode cX12_letter 50 = .ok (.bipush 8, 2) := by decide +kernel
theorem dX12_letter_52 : decode cX12_letter 52 = .ok (.iload_n 1, 1) := by decide +kernel
theorem dX12_letter_53 : decode cX12_letter 53 = .ok (.imul, 1) := by decide +kernel
theorem dX12_letter_54 : decode cX12_letter 54 = .ok (.iadd, 1) := by decide +kernel
theorem dX12_letter_55 : decode cX12_letter 55 = .ok (.iload_n 2, 1) := by decide +kernel
theorem dX12_letter_56 : decode cX12_letter 56 = .ok (.iadd, 1) := by decide +kernel
theorem dX12_letter_57 : decode cX12_letter 57 = .ok (.laload, 1) := by decide +kernel
theorem dX12_letter_58 : decode cX12_letter 58 = .ok (.lstore 4, 2) := by decide +kernel
theorem dX12_letter_60 : decode cX12_letter 60 = .ok (.iconst 0, 1) := by decide +kernel
theorem dX12_letter_61 : decode cX12_letter 61 = .ok (.istore 6, 2) := by decide +kernel
theorem dX12_letter_63 : decode cX12_letter 63 = .ok (.lload 4, 2) := by decide +kernel
theorem dX12_letter_65 : decode cX12_letter 65 = .ok (.lstore 7, 2) := by decide +kernel
theorem dX12_letter_67 : decode cX12_letter 67 = .ok (.lload 7, 2) := by decide +kernel
theorem dX12_letter_69 : decode cX12_letter 69 = .ok (.lconst 0, 1) := by decide +kernel
theorem dX12_letter_70 : decode cX12_letter 70 = .ok (.lcmp, 1) := by decide +kernel
theorem dX12_letter_71 : decode cX12_letter 71 = .ok (.ifCond .le 17, 3) := by decide +kernel
theorem dX12_letter_74 : decode cX12_letter 74 = .ok (.iinc 6 1, 3) := by decide +kernel
theorem dX12_letter_77 : decode cX12_letter 77 = .ok (.lload 7, 2) := by decide +kernel
theorem dX12_letter_79 : decode cX12_letter 79 = .ok (.ldc2_w 306, 3) := by decide +kernel
theorem dX12_letter_82 : decode cX12_letter 82 = .ok (.ldiv, 1) := by decide +kernel
theorem dX12_letter_83 : decode cX12_letter 83 = .ok (.lstore 7, 2) := by decide +kernel
theorem dX12_letter_85 : decode cX12_letter 85 = .ok (.goto (-18), 3) := by decide +kernel
theorem dX12_letter_88 : decode cX12_letter 88 = .ok (.iload_n 3, 1) := by decide +kernel
theorem dX12_letter_89 : decode cX12_letter 89 = .ok (.iload 6, 2) := by decide +kernel
theorem dX12_letter_91 : decode cX12_letter 91 = .ok (.if_icmp .lt 5, 3) := by decide +kernel
theorem dX12_letter_94 : decode cX12_letter 94 = .ok (.iconst 0, 1) := by decide +kernel
theorem dX12_letter_95 : decode cX12_letter 95 = .ok (.ireturn, 1) := by decide +kernel
theorem dX12_letter_96 : decode cX12_letter 96 = .ok (.iload 6, 2) := by decide +kernel
theorem dX12_letter_98 : decode cX12_letter 98 = .ok (.iconst 1, 1) := by decide +kernel
theorem dX12_letter_99 : decode cX12_letter 99 = .ok (.isub, 1) := by decide +kernel
theorem dX12_letter_100 : decode cX12_letter 100 = .ok (.istore 7, 2) := by decide +kernel
theorem dX12_letter_102 : decode cX12_letter 102 = .ok (.iload 7, 2) := by decide +kernel
theorem dX12_letter_104 : decode cX12_letter 104 = .ok (.iload_n 3, 1) := by decide +kernel
theorem dX12_letter_105 : decode cX12_letter 105 = .ok (.if_icmp .le 17, 3) := by decide +kernel
theorem dX12_letter_108 : decode cX12_letter 108 = .ok (.lload 4, 2) := by decide +kernel
theorem dX12_letter_110 : decode cX12_letter 110 = .ok (.ldc2_w 306, 3) := by decide +kernel
theorem dX12_letter_113 : decode cX12_letter 113 = .ok (.ldiv, 1) := by decide +kernel
theorem dX12_letter_114 : decode cX12_letter 114 = .ok (.lstore 4, 2) := by decide +kernel
theorem dX12_letter_116 : decode cX12_letter 116 = .ok (.iinc 7 (-1), 3) := by decide +kernel
theorem dX12_letter_119 : decode cX12_letter 119 = .ok (.goto (-17), 3) := by decide +kernel
theorem dX12_letter_122 : decode cX12_letter 122 = .ok (.lload 4, 2) := by decide +kernel
theorem dX12_letter_124 : decode cX12_letter 124 = .ok (.ldc2_w 306, 3) := by decide +kernel
theorem dX12_letter_127 : decode cX12_letter 127 = .ok (.lrem, 1) := by decide +kernel
theorem dX12_letter_128 : decode cX12_letter 128 = .ok (.l2i, 1) := by decide +kernel
theorem dX12_letter_129 : decode cX12_letter 129 = .ok (.ireturn, 1) := by decide +kernel
theorem dX12_leadingMany_0 : decode cX12_leadingMany 0 = .ok (.iconst 0, 1) := by decide +kernel
theorem dX12_leadingMany_1 : decode cX12_leadingMany 1 = .ok (.istore_n 3, 1) := by decide +kernel
theorem dX12_leadingMany_2 : decode cX12_leadingMany 2 = .ok (.iconst 0, 1) := by decide +kernel
theorem dX12_leadingMany_3 : decode cX12_leadingMany 3 = .ok (.istore 4, 2) := by decide +kernel
theorem dX12_leadingMany_5 : decode cX12_leadingMany 5 = .ok (.iload 4, 2) := by decide +kernel
theorem dX12_leadingMany_7 : decode cX12_leadingMany 7 = .ok (.aload_n 0, 1) := by decide +kernel
theorem dX12_leadingMany_8 : decode cX12_leadingMany 8 = .ok (.invokevirtual 403, 3) := by decide +kernel
theorem dX12_leadingMany_11 : decode cX12_leadingMany 11 = .ok (.if_icmp .ge 44, 3) := by decide +kernel
theorem dX12_leadingMany_14 : decode cX12_leadingMany 14 = .ok (.aload_n 0, 1) := by decide +kernel
theorem dX12_leadingMany_15 : decode cX12_leadingMany 15 = .ok (.iload 4, 2) := by decide +kernel
theorem dX12_leadingMany_17 : decode cX12_leadingMany 17 = .ok (.invokevirtual 426, 3) := by decide +kernel
theorem dX12_leadingMany_20 : decode cX12_leadingMany 20 = .ok (.ifCond .eq 29, 3) := by decide +kernel
theorem dX12_leadingMany_23 : decode cX12_leadingMany 23 = .ok (.iload_n 2, 1) := by decide +kernel
theorem dX12_leadingMany_24 : decode cX12_leadingMany 24 = .ok (.ifCond .eq 12, 3) := by decide +kernel
theorem dX12_leadingMany_27 : decode cX12_leadingMany 27 = .ok (.aload_n 0, 1) := by decide +kernel
theorem dX12_leadingMany_28 : decode cX12_leadingMany 28 = .ok (.iload 4, 2) := by decide +kernel
theorem dX12_leadingMany_30 : decode cX12_leadingMany 30 = .ok (.invokevirtual 438, 3) := by decide +kernel
theorem dX12_leadingMany_33 : decode cX12_leadingMany 33 = .ok (.goto 9, 3) := by decide +kernel
theorem dX12_leadingMany_36 : decode cX12_leadingMany 36 = .ok (.aload_n 0, 1) := by decide +kernel
theorem dX12_leadingMany_37 : decode cX12_leadingMany 37 = .ok (.iload 4, 2) := by decide +kernel
theorem dX12_leadingMany_39 : decode cX12_leadingMany 39 = .ok (.invokevirtual 461, 3) := by decide +kernel
theorem dX12_leadingMany_42 : decode cX12_leadingMany 42 = .ok (.iload_n 1, 1) := by decide +kernel
theorem dX12_leadingMany_43 : decode cX12_leadingMany 43 = .ok (.if_icmp .ne 6, 3) := by decide +kernel
theorem dX12_leadingMany_46 : decode cX12_leadingMany 46 = .ok (.iinc 3 1, 3) := by decide +kernel
theorem dX12_leadingMany_49 : decode cX12_leadingMany 49 = .ok (.iinc 4 1, 3) := by decide +kernel
theorem dX12_leadingMany_52 : decode cX12_leadingMany 52 = .ok (.goto (-47), 3) := by decide +kernel
theorem dX12_leadingMany_55 : decode cX12_leadingMany 55 = .ok (.iload_n 3, 1) := by decide +kernel
theorem dX12_leadingMany_56 : decode cX12_leadingMany 56 = .ok (.ireturn, 1) := by decide +kernel
theorem dX12_officer_0 : decode cX12_officer 0 = .ok (.aload_n 0, 1) := by decide +kernel
theorem dX12_officer_1 : decode cX12_officer 1 = .ok (.iload_n 1, 1) := by decide +kernel
theorem dX12_officer_2 : decode cX12_officer 2 = .ok (.i2l, 1) := by decide +kernel
theorem dX12_officer_3 : decode cX12_officer 3 = .ok (.invokevirtual 496, 3) := by decide +kernel
theorem dX12_officer_6 : decode cX12_officer 6 = .ok (.ifCond .eq 15, 3) := by decide +kernel
theorem dX12_officer_9 : decode cX12_officer 9 = .ok (.iload_n 2, 1) := by decide +kernel
theorem dX12_officer_10 : decode cX12_officer 10 = .ok (.i2l, 1) := by decide +kernel
theorem dX12_officer_11 : decode cX12_officer 11 = .ok (.lconst 0, 1) := by decide +kernel
theorem dX12_officer_12 : decode cX12_officer 12 = .ok (.ldc2_w 500, 3) := by decide +kernel
theorem dX12_officer_15 : decode cX12_officer 15 = .ok (.invokestatic 295, 3) := by decide +kernel
theorem dX12_officer_18 : decode cX12_officer 18 = .ok (.ifCond .ne 5, 3) := by decide +kernel
theorem dX12_officer_21 : decode cX12_officer 21 = .ok (.iconst (-1), 1) := by decide +kernel
theorem dX12_officer_22 : decode cX12_officer 22 = .ok (.ireturn, 1) := by decide +kernel
theorem dX12_officer_23 : decode cX12_officer 23 = .ok (.iload_n 2, 1) := by decide +kernel
theorem dX12_officer_24 : decode cX12_officer 24 = .ok (.iconst 2, 1) := by decide +kernel
theorem dX12_officer_25 : decode cX12_officer 25 = .ok (.if_icmp .ge 19, 3) := by decide +kernel
theorem dX12_officer_28 : decode cX12_officer 28 = .ok (.aload_n 0, 1) := by decide +kernel
theorem dX12_officer_29 : decode cX12_officer 29 = .ok (.getfield 106, 3) := by decide +kernel
theorem dX12_officer_32 : decode cX12_officer 32 = .ok (.bipush 16, 2) := by decide +kernel
theorem dX12_officer_34 : decode cX12_officer 34 = .ok (.iconst 2, 1) := by decide +kernel
theorem dX12_officer_35 : decode cX12_officer 35 = .ok (.iload_n 1, 1) := by decide +kernel
theorem dX12_officer_36 : decode cX12_officer 36 = .ok (.imul, 1) := by decide +kernel
theorem dX12_officer_37 : decode cX12_officer 37 = .ok (.iadd, 1) := by decide +kernel
theorem dX12_officer_38 : decode cX12_officer 38 = .ok (.iload_n 2, 1) := by decide +kernel
theorem dX12_officer_39 : decode cX12_officer 39 = .ok (.iadd, 1) := by decide +kernel
theorem dX12_officer_40 : decode cX12_officer 40 = .ok (.iaload, 1) := by decide +kernel
theorem dX12_officer_41 : decode cX12_officer 41 = .ok (.goto 18, 3) := by decide +kernel
theorem dX12_officer_44 : decode cX12_officer 44 = .ok (.aload_n 0, 1) := by decide +kernel
theorem dX12_officer_45 : decode cX12_officer 45 = .ok (.iload_n 1, 1) := by decide +kernel
theorem dX12_officer_46 : decode cX12_officer 46 = .ok (.iload_n 2, 1) := by decide +kernel
theorem dX12_officer_47 : decode cX12_officer 47 = .ok (.iconst 2, 1) := by decide +kernel
theorem dX12_officer_48 : decode cX12_officer 48 = .ok (.if_icmp .ne 7, 3) := by decide +kernel
theorem dX12_officer_51 : decode cX12_officer 51 = .ok (.iconst 1, 1) := by decide +kernel
theorem dX12_officer_52 : decode cX12_officer 52 = .ok (.goto 4, 3) := by decide +kernel
theorem dX12_officer_55 : decode cX12_officer 55 = .ok (.iconst 0, 1) := by decide +kernel
theorem dX12_officer_56 : decode cX12_officer 56 = .ok (.invokevirtual 502, 3) := by decide +kernel
theorem dX12_officer_59 : decode cX12_officer 59 = .ok (.ireturn, 1) := by decide +kernel
theorem dX12_carbon_0 : decode cX12_carbon 0 = .ok (.aload_n 0, 1) := by decide +kernel
theorem dX12_carbon_1 : decode cX12_carbon 1 = .ok (.iload_n 1, 1) := by decide +kernel
theorem dX12_carbon_2 : decode cX12_carbon 2 = .ok (.invokevirtual 506, 3) := by decide +kernel
theorem dX12_carbon_5 : decode cX12_carbon 5 = .ok (.ifCond .eq 15, 3) := by decide +kernel
theorem dX12_carbon_8 : decode cX12_carbon 8 = .ok (.iload_n 2, 1) := by decide +kernel
theorem dX12_carbon_9 : decode cX12_carbon 9 = .ok (.i2l, 1) := by decide +kernel
theorem dX12_carbon_10 : decode cX12_carbon 10 = .ok (.lconst 0, 1) := by decide +kernel
theorem dX12_carbon_11 : decode cX12_carbon 11 = .ok (.ldc2_w 509, 3) := by decide +kernel
theorem dX12_carbon_14 : decode cX12_carbon 14 = .ok (.invokestatic 295, 3) := by decide +kernel
theorem dX12_carbon_17 : decode cX12_carbon 17 = .ok (.ifCond .ne 5, 3) := by decide +kernel
theorem dX12_carbon_20 : decode cX12_carbon 20 = .ok (.iconst (-1), 1) := by decide +kernel
theorem dX12_carbon_21 : decode cX12_carbon 21 = .ok (.ireturn, 1) := by decide +kernel
theorem dX12_carbon_22 : decode cX12_carbon 22 = .ok (.iload_n 2, 1) := by decide +kernel
theorem dX12_carbon_23 : decode cX12_carbon 23 = .ok (.iconst 3, 1) := by decide +kernel
theorem dX12_carbon_24 : decode cX12_carbon 24 = .ok (.if_icmp .ge 19, 3) := by decide +kernel
theorem dX12_carbon_27 : decode cX12_carbon 27 = .ok (.aload_n 0, 1) := by decide +kernel
theorem dX12_carbon_28 : decode cX12_carbon 28 = .ok (.getfield 109, 3) := by decide +kernel
theorem dX12_carbon_31 : decode cX12_carbon 31 = .ok (.bipush 36, 2) := by decide +kernel
theorem dX12_carbon_33 : decode cX12_carbon 33 = .ok (.iconst 3, 1) := by decide +kernel
theorem dX12_carbon_34 : decode cX12_carbon 34 = .ok (.iload_n 1, 1) := by decide +kernel
theorem dX12_carbon_35 : decode cX12_carbon 35 = .ok (.imul, 1) := by decide +kernel
theorem dX12_carbon_36 : decode cX12_carbon 36 = .ok (.iadd, 1) := by decide +kernel
theorem dX12_carbon_37 : decode cX12_carbon 37 = .ok (.iload_n 2, 1) := by decide +kernel
theorem dX12_carbon_38 : decode cX12_carbon 38 = .ok (.iadd, 1) := by decide +kernel
theorem dX12_carbon_39 : decode cX12_carbon 39 = .ok (.iaload, 1) := by decide +kernel
theorem dX12_carbon_40 : decode cX12_carbon 40 = .ok (.goto 17, 3) := by decide +kernel
theorem dX12_carbon_43 : decode cX12_carbon 43 = .ok (.aload_n 0, 1) := by decide +kernel
theorem dX12_carbon_44 : decode cX12_carbon 44 = .ok (.getfield 124, 3) := by decide +kernel
theorem dX12_carbon_47 : decode cX12_carbon 47 = .ok (.iconst 1, 1) := by decide +kernel
theorem dX12_carbon_48 : decode cX12_carbon 48 = .ok (.iconst 2, 1) := by decide +kernel
theorem dX12_carbon_49 : decode cX12_carbon 49 = .ok (.iload_n 1, 1) := by decide +kernel
theorem dX12_carbon_50 : decode cX12_carbon 50 = .ok (.imul, 1) := by decide +kernel
theorem dX12_carbon_51 : decode cX12_carbon 51 = .ok (.iadd, 1) := by decide +kernel
theorem dX12_carbon_52 : decode cX12_carbon 52 = .ok (.iload_n 2, 1) := by decide +kernel
theorem dX12_carbon_53 : decode cX12_carbon 53 = .ok (.iadd, 1) := by decide +kernel
theorem dX12_carbon_54 : decode cX12_carbon 54 = .ok (.iconst 3, 1) := by decide +kernel
theorem dX12_carbon_55 : decode cX12_carbon 55 = .ok (.isub, 1) := by decide +kernel
theorem dX12_carbon_56 : decode cX12_carbon 56 = .ok (.iaload, 1) := by decide +kernel
theorem dX12_carbon_57 : decode cX12_carbon 57 = .ok (.ireturn, 1) := by decide +kernel
theorem dX12_feels_0 : decode cX12_feels 0 = .ok (.aload_n 0, 1) := by decide +kernel
theorem dX12_feels_1 : decode cX12_feels 1 = .ok (.iload_n 1, 1) := by decide +kernel
theorem dX12_feels_2 : decode cX12_feels 2 = .ok (.i2l, 1) := by decide +kernel
theorem dX12_feels_3 : decode cX12_feels 3 = .ok (.invokevirtual 496, 3) := by decide +kernel
theorem dX12_feels_6 : decode cX12_feels 6 = .ok (.ifCond .eq 21, 3) := by decide +kernel
theorem dX12_feels_9 : decode cX12_feels 9 = .ok (.aload_n 0, 1) := by decide +kernel
theorem dX12_feels_10 : decode cX12_feels 10 = .ok (.iload_n 2, 1) := by decide +kernel
theorem dX12_feels_11 : decode cX12_feels 11 = .ok (.i2l, 1) := by decide +kernel
theorem dX12_feels_12 : decode cX12_feels 12 = .ok (.invokevirtual 511, 3) := by decide +kernel
theorem dX12_feels_15 : decode cX12_feels 15 = .ok (.ifCond .eq 12, 3) := by decide +kernel
theorem dX12_feels_18 : decode cX12_feels 18 = .ok (.aload_n 0, 1) := by decide +kernel
theorem dX12_feels_19 : decode cX12_feels 19 = .ok (.iload_n 1, 1) := by decide +kernel
theorem dX12_feels_20 : decode cX12_feels 20 = .ok (.iload_n 2, 1) := by decide +kernel
theorem dX12_feels_21 : decode cX12_feels 21 = .ok (.invokevirtual 452, 3) := by decide +kernel
theorem dX12_feels_24 : decode cX12_feels 24 = .ok (.goto 4, 3) := by decide +kernel
theorem dX12_feels_27 : decode cX12_feels 27 = .ok (.iconst (-1), 1) := by decide +kernel
theorem dX12_feels_28 : decode cX12_feels 28 = .ok (.ireturn, 1) := by decide +kernel
theorem dX12_passes_0 : decode cX12_passes 0 = .ok (.aload_n 0, 1) := by decide +kernel
theorem dX12_passes_1 : decode cX12_passes 1 = .ok (.iload_n 1, 1) := by decide +kernel
theorem dX12_passes_2 : decode cX12_passes 2 = .ok (.invokevirtual 506, 3) := by decide +kernel
theorem dX12_passes_5 : decode cX12_passes 5 = .ok (.ifCond .eq 30, 3) := by decide +kernel
theorem dX12_passes_8 : decode cX12_passes 8 = .ok (.aload_n 0, 1) := by decide +kernel
theorem dX12_passes_9 : decode cX12_passes 9 = .ok (.iload_n 2, 1) := by decide +kernel
theorem dX12_passes_10 : decode cX12_passes 10 = .ok (.i2l, 1) := by decide +kernel
theorem dX12_passes_11 : decode cX12_passes 11 = .ok (.invokevirtual 511, 3) := by decide +kernel
theorem dX12_passes_14 : decode cX12_passes 14 = .ok (.ifCond .eq 21, 3) := by decide +kernel
theorem dX12_passes_17 : decode cX12_passes 17 = .ok (.aload_n 0, 1) := by decide +kernel
theorem dX12_passes_18 : decode cX12_passes 18 = .ok (.iload_n 1, 1) := by decide +kernel
theorem dX12_passes_19 : decode cX12_passes 19 = .ok (.aload_n 0, 1) := by decide +kernel
theorem dX12_passes_20 : decode cX12_passes 20 = .ok (.aload_n 0, 1) := by decide +kernel
theorem dX12_passes_21 : decode cX12_passes 21 = .ok (.iload_n 1, 1) := by decide +kernel
theorem dX12_passes_22 : decode cX12_passes 22 = .ok (.invokevirtual 461, 3) := by decide +kernel
theorem dX12_passes_25 : decode cX12_passes 25 = .ok (.iload_n 2, 1) := by decide +kernel
theorem dX12_passes_26 : decode cX12_passes 26 = .ok (.invokevirtual 452, 3) := by decide +kernel
theorem dX12_passes_29 : decode cX12_passes 29 = .ok (.invokevirtual 464, 3) := by decide +kernel
theorem dX12_passes_32 : decode cX12_passes 32 = .ok (.goto 4, 3) := by decide +kernel
theorem dX12_passes_35 : decode cX12_passes 35 = .ok (.iconst (-1), 1) := by decide +kernel
theorem dX12_passes_36 : decode cX12_passes 36 = .ok (.ireturn, 1) := by decide +kernel
theorem dX12_kept_0 : decode cX12_kept 0 = .ok (.iload_n 1, 1) := by decide +kernel
theorem dX12_kept_1 : decode cX12_kept 1 = .ok (.i2l, 1) := by decide +kernel
theorem dX12_kept_2 : decode cX12_kept 2 = .ok (.lconst 0, 1) := by decide +kernel
theorem dX12_kept_3 : decode cX12_kept 3 = .ok (.aload_n 0, 1) := by decide +kernel
theorem dX12_kept_4 : decode cX12_kept 4 = .ok (.getfield 124, 3) := by decide +kernel
theorem dX12_kept_7 : decode cX12_kept 7 = .ok (.bipush 57, 2) := by decide +kernel
theorem dX12_kept_9 : decode cX12_kept 9 = .ok (.iaload, 1) := by decide +kernel
theorem dX12_kept_10 : decode cX12_kept 10 = .ok (.iconst 1, 1) := by decide +kernel
theorem dX12_kept_11 : decode cX12_kept 11 = .ok (.isub, 1) := by decide +kernel
theorem dX12_kept_12 : decode cX12_kept 12 = .ok (.i2l, 1) := by decide +kernel
theorem dX12_kept_13 : decode cX12_kept 13 = .ok (.invokestatic 295, 3) := by decide +kernel
theorem dX12_kept_16 : decode cX12_kept 16 = .ok (.ifCond .eq 31, 3) := by decide +kernel
theorem dX12_kept_19 : decode cX12_kept 19 = .ok (.iload_n 2, 1) := by decide +kernel
theorem dX12_kept_20 : decode cX12_kept 20 = .ok (.i2l, 1) := by decide +kernel
theorem dX12_kept_21 : decode cX12_kept 21 = .ok (.lconst 0, 1) := by decide +kernel
theorem dX12_kept_22 : decode cX12_kept 22 = .ok (.ldc2_w 500, 3) := by decide +kernel
theorem dX12_kept_25 : decode cX12_kept 25 = .ok (.invokestatic 295, 3) := by decide +kernel
theorem dX12_kept_28 : decode cX12_kept 28 = .ok (.ifCond .eq 19, 3) := by decide +kernel
theorem dX12_kept_31 : decode cX12_kept 31 = .ok (.aload_n 0, 1) := by decide +kernel
theorem dX12_kept_32 : decode cX12_kept 32 = .ok (.getfield 124, 3) := by decide +kernel
theorem dX12_kept_35 : decode cX12_kept 35 = .ok (.bipush 58, 2) := by decide +kernel
theorem dX12_kept_37 : decode cX12_kept 37 = .ok (.iconst 4, 1) := by decide +kernel
theorem dX12_kept_38 : decode cX12_kept 38 = .ok (.iload_n 1, 1) := by decide +kernel
theorem dX12_kept_39 : decode cX12_kept 39 = .ok (.imul, 1) := by decide +kernel
theorem dX12_kept_40 : decode cX12_kept 40 = .ok (.iadd, 1) := by decide +kernel
theorem dX12_kept_41 : decode cX12_kept 41 = .ok (.iload_n 2, 1) := by decide +kernel
theorem dX12_kept_42 : decode cX12_kept 42 = .ok (.iadd, 1) := by decide +kernel
theorem dX12_kept_43 : decode cX12_kept 43 = .ok (.iaload, 1) := by decide +kernel
theorem dX12_kept_44 : decode cX12_kept 44 = .ok (.goto 4, 3) := by decide +kernel
theorem dX12_kept_47 : decode cX12_kept 47 = .ok (.iconst (-1), 1) := by decide +kernel
theorem dX12_kept_48 : decode cX12_kept 48 = .ok (.ireturn, 1) := by decide +kernel
theorem dX12_later_0 : decode cX12_later 0 = .ok (.aload_n 0, 1) := by decide +kernel
theorem dX12_later_1 : decode cX12_later 1 = .ok (.iload_n 1, 1) := by decide +kernel
theorem dX12_later_2 : decode cX12_later 2 = .ok (.i2l, 1) := by decide +kernel
theorem dX12_later_3 : decode cX12_later 3 = .ok (.invokevirtual 496, 3) := by decide +kernel
theorem dX12_later_6 : decode cX12_later 6 = .ok (.ifCond .eq 23, 3) := by decide +kernel
theorem dX12_later_9 : decode cX12_later 9 = .ok (.aload_n 0, 1) := by decide +kernel
theorem dX12_later_10 : decode cX12_later 10 = .ok (.iload_n 2, 1) := by decide +kernel
theorem dX12_later_11 : decode cX12_later 11 = .ok (.i2l, 1) := by decide +kernel
theorem dX12_later_12 : decode cX12_later 12 = .ok (.invokevirtual 511, 3) := by decide +kernel
theorem dX12_later_15 : decode cX12_later 15 = .ok (.ifCond .eq 14, 3) := by decide +kernel
theorem dX12_later_18 : decode cX12_later 18 = .ok (.aload_n 0, 1) := by decide +kernel
theorem dX12_later_19 : decode cX12_later 19 = .ok (.iload_n 3, 1) := by decide +kernel
theorem dX12_later_20 : decode cX12_later 20 = .ok (.iconst 0, 1) := by decide +kernel
theorem dX12_later_21 : decode cX12_later 21 = .ok (.bipush 60, 2) := by decide +kernel
theorem dX12_later_23 : decode cX12_later 23 = .ok (.invokevirtual 514, 3) := by decide +kernel
theorem dX12_later_26 : decode cX12_later 26 = .ok (.ifCond .ne 5, 3) := by decide +kernel
theorem dX12_later_29 : decode cX12_later 29 = .ok (.iconst (-1), 1) := by decide +kernel
theorem dX12_later_30 : decode cX12_later 30 = .ok (.ireturn, 1) := by decide +kernel
theorem dX12_later_31 : decode cX12_later 31 = .ok (.aload_n 0, 1) := by decide +kernel
theorem dX12_later_32 : decode cX12_later 32 = .ok (.invokevirtual 517, 3) := by decide +kernel
theorem dX12_later_35 : decode cX12_later 35 = .ok (.aload_n 0, 1) := by decide +kernel
theorem dX12_later_36 : decode cX12_later 36 = .ok (.iload_n 2, 1) := by decide +kernel
theorem dX12_later_37 : decode cX12_later 37 = .ok (.iload_n 3, 1) := by decide +kernel
theorem dX12_later_38 : decode cX12_later 38 = .ok (.invokevirtual 520, 3) := by decide +kernel
theorem dX12_later_41 : decode cX12_later 41 = .ok (.aload_n 0, 1) := by decide +kernel
theorem dX12_later_42 : decode cX12_later 42 = .ok (.iload_n 1, 1) := by decide +kernel
theorem dX12_later_43 : decode cX12_later 43 = .ok (.iload_n 2, 1) := by decide +kernel
theorem dX12_later_44 : decode cX12_later 44 = .ok (.invokevirtual 452, 3) := by decide +kernel
theorem dX12_later_47 : decode cX12_later 47 = .ok (.istore 4, 2) := by decide +kernel
theorem dX12_later_49 : decode cX12_later 49 = .ok (.aload_n 0, 1) := by decide +kernel
theorem dX12_later_50 : decode cX12_later 50 = .ok (.invokevirtual 523, 3) := by decide +kernel
theorem dX12_later_53 : decode cX12_later 53 = .ok (.iload 4, 2) := by decide +kernel
theorem dX12_later_55 : decode cX12_later 55 = .ok (.ireturn, 1) := by decide +kernel
theorem dX12_isSettled_0 : decode cX12_isSettled 0 = .ok (.iconst 0, 1) := by decide +kernel
theorem dX12_isSettled_1 : decode cX12_isSettled 1 = .ok (.istore_n 1, 1) := by decide +kernel
theorem dX12_isSettled_2 : decode cX12_isSettled 2 = .ok (.iload_n 1, 1) := by decide +kernel
theorem dX12_isSettled_3 : decode cX12_isSettled 3 = .ok (.bipush 32, 2) := by decide +kernel
theorem dX12_isSettled_5 : decode cX12_isSettled 5 = .ok (.if_icmp .ge 24, 3) := by decide +kernel
theorem dX12_isSettled_8 : decode cX12_isSettled 8 = .ok (.aload_n 0, 1) := by decide +kernel
theorem dX12_isSettled_9 : decode cX12_isSettled 9 = .ok (.getfield 133, 3) := by decide +kernel
theorem dX12_isSettled_12 : decode cX12_isSettled 12 = .ok (.iload_n 1, 1) := by decide +kernel
theorem dX12_isSettled_13 : decode cX12_isSettled 13 = .ok (.aload_n 0, 1) := by decide +kernel
theorem dX12_isSettled_14 : decode cX12_isSettled 14 = .ok (.getfield 124, 3) := by decide +kernel
theorem dX12_isSettled_17 : decode cX12_isSettled 17 = .ok (.bipush 25, 2) := by decide +kernel
theorem dX12_isSettled_19 : decode cX12_isSettled 19 = .ok (.iload_n 1, 1) := by decide +kernel
theorem dX12_isSettled_20 : decode cX12_isSettled 20 = .ok (.iadd, 1) := by decide +kernel
theorem dX12_isSettled_21 : decode cX12_isSettled 21 = .ok (.iaload, 1) := by decide +kernel
theorem dX12_isSettled_22 : decode cX12_isSettled 22 = .ok (.iastore, 1) := by decide +kernel
theorem dX12_isSettled_23 : decode cX12_isSettled 23 = .ok (.iinc 1 1, 3) := by decide +kernel
theorem dX12_isSettled_26 : decode cX12_isSettled 26 = .ok (.goto (-24), 3) := by decide +kernel
theorem dX12_isSettled_29 : decode cX12_isSettled 29 = .ok (.aload_n 0, 1) := by decide +kernel
theorem dX12_isSettled_30 : decode cX12_isSettled 30 = .ok (.invokevirtual 484, 3) := by decide +kernel
theorem dX12_isSettled_33 : decode cX12_isSettled 33 = .ok (.iconst 0, 1) := by decide +kernel
theorem dX12_isSettled_34 : decode cX12_isSettled 34 = .ok (.istore_n 1, 1) := by decide +kernel
theorem dX12_isSettled_35 : decode cX12_isSettled 35 = .ok (.iload_n 1, 1) := by decide +kernel
theorem dX12_isSettled_36 : decode cX12_isSettled 36 = .ok (.bipush 32, 2) := by decide +kernel
theorem dX12_isSettled_38 : decode cX12_isSettled 38 = .ok (.if_icmp .ge 29, 3) := by decide +kernel
theorem dX12_isSettled_41 : decode cX12_isSettled 41 = .ok (.aload_n 0, 1) := by decide +kernel
theorem dX12_isSettled_42 : decode cX12_isSettled 42 = .ok (.getfield 133, 3) := by decide +kernel
theorem dX12_isSettled_45 : decode cX12_isSettled 45 = .ok (.iload_n 1, 1) := by decide +kernel
theorem dX12_isSettled_46 : decode cX12_isSettled 46 = .ok (.iaload, 1) := by decide +kernel
theorem dX12_isSettled_47 : decode cX12_isSettled 47 = .ok (.aload_n 0, 1) := by decide +kernel
theorem dX12_isSettled_48 : decode cX12_isSettled 48 = .ok (.getfield 124, 3) := by decide +kernel
theorem dX12_isSettled_51 : decode cX12_isSettled 51 = .ok (.bipush 25, 2) := by decide +kernel
theorem dX12_isSettled_53 : decode cX12_isSettled 53 = .ok (.iload_n 1, 1) := by decide +kernel
theorem dX12_isSettled_54 : decode cX12_isSettled 54 = .ok (.iadd, 1) := by decide +kernel
theorem dX12_isSettled_55 : decode cX12_isSettled 55 = .ok (.iaload, 1) := by decide +kernel
theorem dX12_isSettled_56 : decode cX12_isSettled 56 = .ok (.if_icmp .eq 5, 3) := by decide +kernel
theorem dX12_isSettled_59 : decode cX12_isSettled 59 = .ok (.iconst 0, 1) := by decide +kernel
theorem dX12_isSettled_60 : decode cX12_isSettled 60 = .ok (.ireturn, 1) := by decide +kernel
theorem dX12_isSettled_61 : decode cX12_isSettled 61 = .ok (.iinc 1 1, 3) := by decide +kernel
theorem dX12_isSettled_64 : decode cX12_isSettled 64 = .ok (.goto (-29), 3) := by decide +kernel
theorem dX12_isSettled_67 : decode cX12_isSettled 67 = .ok (.iconst 1, 1) := by decide +kernel
theorem dX12_isSettled_68 : decode cX12_isSettled 68 = .ok (.ireturn, 1) := by decide +kernel
theorem dX12_settles_0 : decode cX12_settles 0 = .ok (.iconst (-1), 1) := by decide +kernel
theorem dX12_settles_1 : decode cX12_settles 1 = .ok (.istore_n 1, 1) := by decide +kernel
theorem dX12_settles_2 : decode cX12_settles 2 = .ok (.aload_n 0, 1) := by decide +kernel
theorem dX12_settles_3 : decode cX12_settles 3 = .ok (.invokevirtual 517, 3) := by decide +kernel
theorem dX12_settles_6 : decode cX12_settles 6 = .ok (.iconst 0, 1) := by decide +kernel
theorem dX12_settles_7 : decode cX12_settles 7 = .ok (.istore_n 2, 1) := by decide +kernel
theorem dX12_settles_8 : decode cX12_settles 8 = .ok (.iload_n 2, 1) := by decide +kernel
theorem dX12_settles_9 : decode cX12_settles 9 = .ok (.bipush 60, 2) := by decide +kernel
theorem dX12_settles_11 : decode cX12_settles 11 = .ok (.if_icmp .ge 35, 3) := by decide +kernel
theorem dX12_settles_14 : decode cX12_settles 14 = .ok (.aload_n 0, 1) := by decide +kernel
theorem dX12_settles_15 : decode cX12_settles 15 = .ok (.getfield 124, 3) := by decide +kernel
theorem dX12_settles_18 : decode cX12_settles 18 = .ok (.iconst 0, 1) := by decide +kernel
theorem dX12_settles_19 : decode cX12_settles 19 = .ok (.iaload, 1) := by decide +kernel
theorem dX12_settles_20 : decode cX12_settles 20 = .ok (.sipush 999, 3) := by decide +kernel
theorem dX12_settles_23 : decode cX12_settles 23 = .ok (.if_icmp .ge 23, 3) := by decide +kernel
theorem dX12_settles_26 : decode cX12_settles 26 = .ok (.iload_n 1, 1) := by decide +kernel
theorem dX12_settles_27 : decode cX12_settles 27 = .ok (.iconst (-1), 1) := by decide +kernel
theorem dX12_settles_28 : decode cX12_settles 28 = .ok (.if_icmp .ne 18, 3) := by decide +kernel
theorem dX12_settles_31 : decode cX12_settles 31 = .ok (.aload_n 0, 1) := by decide +kernel
theorem dX12_settles_32 : decode cX12_settles 32 = .ok (.invokevirtual 526, 3) := by decide +kernel
theorem dX12_settles_35 : decode cX12_settles 35 = .ok (.ifCond .eq 5, 3) := by decide +kernel
theorem dX12_settles_38 : decode cX12_settles 38 = .ok (.iload_n 2, 1) := by decide +kernel
theorem dX12_settles_39 : decode cX12_settles 39 = .ok (.istore_n 1, 1) := by decide +kernel
theorem dX12_settles_40 : decode cX12_settles 40 = .ok (.iinc 2 1, 3) := by decide +kernel
theorem dX12_settles_43 : decode cX12_settles 43 = .ok (.goto (-35), 3) := by decide +kernel
theorem dX12_settles_46 : decode cX12_settles 46 = .ok (.aload_n 0, 1) := by decide +kernel
theorem dX12_settles_47 : decode cX12_settles 47 = .ok (.invokevirtual 523, 3) := by decide +kernel
theorem dX12_settles_50 : decode cX12_settles 50 = .ok (.iload_n 1, 1) := by decide +kernel
theorem dX12_settles_51 : decode cX12_settles 51 = .ok (.ireturn, 1) := by decide +kernel
theorem dX12_strongest_0 : decode cX12_strongest 0 = .ok (.aload_n 0, 1) := by decide +kernel
theorem dX12_strongest_1 : decode cX12_strongest 1 = .ok (.iload_n 1, 1) := by decide +kernel
theorem dX12_strongest_2 : decode cX12_strongest 2 = .ok (.i2l, 1) := by decide +kernel
theorem dX12_strongest_3 : decode cX12_strongest 3 = .ok (.invokevirtual 511, 3) := by decide +kernel
theorem dX12_strongest_6 : decode cX12_strongest 6 = .ok (.ifCond .eq 14, 3) := by decide +kernel
theorem dX12_strongest_9 : decode cX12_strongest 9 = .ok (.aload_n 0, 1) := by decide +kernel
theorem dX12_strongest_10 : decode cX12_strongest 10 = .ok (.iload_n 2, 1) := by decide +kernel
theorem dX12_strongest_11 : decode cX12_strongest 11 = .ok (.iconst 0, 1) := by decide +kernel
theorem dX12_strongest_12 : decode cX12_strongest 12 = .ok (.bipush 60, 2) := by decide +kernel
theorem dX12_strongest_14 : decode cX12_strongest 14 = .ok (.invokevirtual 514, 3) := by decide +kernel
theorem dX12_strongest_17 : decode cX12_strongest 17 = .ok (.ifCond .ne 5, 3) := by decide +kernel
theorem dX12_strongest_20 : decode cX12_strongest 20 = .ok (.iconst (-1), 1) := by decide +kernel
theorem dX12_strongest_21 : decode cX12_strongest 21 = .ok (.ireturn, 1) := by decide +kernel
theorem dX12_strongest_22 : decode cX12_strongest 22 = .ok (.iconst (-1), 1) := by decide +kernel
theorem dX12_strongest_23 : decode cX12_strongest 23 = .ok (.istore_n 3, 1) := by decide +kernel
theorem dX12_strongest_24 : decode cX12_strongest 24 = .ok (.iconst 0, 1) := by decide +kernel
theorem dX12_strongest_25 : decode cX12_strongest 25 = .ok (.istore 4, 2) := by decide +kernel
theorem dX12_strongest_27 : decode cX12_strongest 27 = .ok (.aload_n 0, 1) := by decide +kernel
theorem dX12_strongest_28 : decode cX12_strongest 28 = .ok (.invokevirtual 517, 3) := by decide +kernel
theorem dX12_strongest_31 : decode cX12_strongest 31 = .ok (.aload_n 0, 1) := by decide +kernel
theorem dX12_strongest_32 : decode cX12_strongest 32 = .ok (.iload_n 1, 1) := by decide +kernel
theorem dX12_strongest_33 : decode cX12_strongest 33 = .ok (.iload_n 2, 1) := by decide +kernel
theorem dX12_strongest_34 : decode cX12_strongest 34 = .ok (.invokevirtual 520, 3) := by decide +kernel
theorem dX12_strongest_37 : decode cX12_strongest 37 = .ok (.iconst 0, 1) := by decide +kernel
theorem dX12_strongest_38 : decode cX12_strongest 38 = .ok (.istore 5, 2) := by decide +kernel
theorem dX12_strongest_40 : decode cX12_strongest 40 = .ok (.iload 5, 2) := by decide +kernel
theorem dX12_strongest_42 : decode cX12_strongest 42 = .ok (.aload_n 0, 1) := by decide +kernel
theorem dX12_strongest_43 : decode cX12_strongest 43 = .ok (.invokevirtual 397, 3) := by decide +kernel
theorem dX12_strongest_46 : decode cX12_strongest 46 = .ok (.if_icmp .ge 36, 3) := by decide +kernel
theorem dX12_strongest_49 : decode cX12_strongest 49 = .ok (.aload_n 0, 1) := by decide +kernel
theorem dX12_strongest_50 : decode cX12_strongest 50 = .ok (.iload 5, 2) := by decide +kernel
theorem dX12_strongest_52 : decode cX12_strongest 52 = .ok (.iload_n 1, 1) := by decide +kernel
theorem dX12_strongest_53 : decode cX12_strongest 53 = .ok (.invokevirtual 452, 3) := by decide +kernel
theorem dX12_strongest_56 : decode cX12_strongest 56 = .ok (.iload 4, 2) := by decide +kernel
theorem dX12_strongest_58 : decode cX12_strongest 58 = .ok (.if_icmp .gt 6, 3) := by decide +kernel
theorem dX12_strongest_61 : decode cX12_strongest 61 = .ok (.goto 15, 3) := by decide +kernel
theorem dX12_strongest_64 : decode cX12_strongest 64 = .ok (.iload 5, 2) := by decide +kernel
theorem dX12_strongest_66 : decode cX12_strongest 66 = .ok (.istore_n 3, 1) := by decide +kernel
theorem dX12_strongest_67 : decode cX12_strongest 67 = .ok (.aload_n 0, 1) := by decide +kernel
theorem dX12_strongest_68 : decode cX12_strongest 68 = .ok (.iload 5, 2) := by decide +kernel
theorem dX12_strongest_70 : decode cX12_strongest 70 = .ok (.iload_n 1, 1) := by decide +kernel
theorem dX12_strongest_71 : decode cX12_strongest 71 = .ok (.invokevirtual 452, 3) := by decide +kernel
theorem dX12_strongest_74 : decode cX12_strongest 74 = .ok (.istore 4, 2) := by decide +kernel
theorem dX12_strongest_76 : decode cX12_strongest 76 = .ok (.iinc 5 1, 3) := by decide +kernel
theorem dX12_strongest_79 : decode cX12_strongest 79 = .ok (.goto (-39), 3) := by decide +kernel
theorem dX12_strongest_82 : decode cX12_strongest 82 = .ok (.aload_n 0, 1) := by decide +kernel
theorem dX12_strongest_83 : decode cX12_strongest 83 = .ok (.invokevirtual 523, 3) := by decide +kernel
theorem dX12_strongest_86 : decode cX12_strongest 86 = .ok (.iload_n 3, 1) := by decide +kernel
theorem dX12_strongest_87 : decode cX12_strongest 87 = .ok (.ireturn, 1) := by decide +kernel
theorem dX12_acted_0 : decode cX12_acted 0 = .ok (.aload_n 0, 1) := by decide +kernel
theorem dX12_acted_1 : decode cX12_acted 1 = .ok (.iload_n 1, 1) := by decide +kernel
theorem dX12_acted_2 : decode cX12_acted 2 = .ok (.iconst 0, 1) := by decide +kernel
theorem dX12_acted_3 : decode cX12_acted 3 = .ok (.bipush 60, 2) := by decide +kernel
theorem dX12_acted_5 : decode cX12_acted 5 = .ok (.invokevirtual 514, 3) := by decide +kernel
theorem dX12_acted_8 : decode cX12_acted 8 = .ok (.ifCond .ne 5, 3) := by decide +kernel
theorem dX12_acted_11 : decode cX12_acted 11 = .ok (.iconst (-1), 1) := by decide +kernel
theorem dX12_acted_12 : decode cX12_acted 12 = .ok (.ireturn, 1) := by decide +kernel
theorem dX12_acted_13 : decode cX12_acted 13 = .ok (.aload_n 0, 1) := by decide +kernel
theorem dX12_acted_14 : decode cX12_acted 14 = .ok (.invokevirtual 517, 3) := by decide +kernel
theorem dX12_acted_17 : decode cX12_acted 17 = .ok (.aload_n 0, 1) := by decide +kernel
theorem dX12_acted_18 : decode cX12_acted 18 = .ok (.iload_n 1, 1) := by decide +kernel
theorem dX12_acted_19 : decode cX12_acted 19 = .ok (.invokevirtual 529, 3) := by decide +kernel
theorem dX12_acted_22 : decode cX12_acted 22 = .ok (.aload_n 0, 1) := by decide +kernel
theorem dX12_acted_23 : decode cX12_acted 23 = .ok (.invokevirtual 523, 3) := by decide +kernel
theorem dX12_acted_26 : decode cX12_acted 26 = .ok (.aload_n 0, 1) := by decide +kernel
theorem dX12_acted_27 : decode cX12_acted 27 = .ok (.getfield 467, 3) := by decide +kernel
theorem dX12_acted_30 : decode cX12_acted 30 = .ok (.ireturn, 1) := by decide +kernel
theorem dX12_insideSet_0 : decode cX12_insideSet 0 = .ok (.iconst 0, 1) := by decide +kernel
theorem dX12_insideSet_1 : decode cX12_insideSet 1 = .ok (.istore_n 1, 1) := by decide +kernel
theorem dX12_insideSet_2 : decode cX12_insideSet 2 = .ok (.iconst 0, 1) := by decide +kernel
theorem dX12_insideSet_3 : decode cX12_insideSet 3 = .ok (.istore_n 2, 1) := by decide +kernel
theorem dX12_insideSet_4 : decode cX12_insideSet 4 = .ok (.iload_n 2, 1) := by decide +kernel
theorem dX12_insideSet_5 : decode cX12_insideSet 5 = .ok (.aload_n 0, 1) := by decide +kernel
theorem dX12_insideSet_6 : decode cX12_insideSet 6 = .ok (.invokevirtual 403, 3) := by decide +kernel
theorem dX12_insideSet_9 : decode cX12_insideSet 9 = .ok (.if_icmp .ge 23, 3) := by decide +kernel
theorem dX12_insideSet_12 : decode cX12_insideSet 12 = .ok (.aload_n 0, 1) := by decide +kernel
theorem dX12_insideSet_13 : decode cX12_insideSet 13 = .ok (.iload_n 2, 1) := by decide +kernel
theorem dX12_insideSet_14 : decode cX12_insideSet 14 = .ok (.invokevirtual 426, 3) := by decide +kernel
theorem dX12_insideSet_17 : decode cX12_insideSet 17 = .ok (.ifCond .eq 9, 3) := by decide +kernel
theorem dX12_insideSet_20 : decode cX12_insideSet 20 = .ok (.iload_n 1, 1) := by decide +kernel
theorem dX12_insideSet_21 : decode cX12_insideSet 21 = .ok (.iconst 1, 1) := by decide +kernel
theorem dX12_insideSet_22 : decode cX12_insideSet 22 = .ok (.iload_n 2, 1) := by decide +kernel
theorem dX12_insideSet_23 : decode cX12_insideSet 23 = .ok (.ishl, 1) := by decide +kernel
theorem dX12_insideSet_24 : decode cX12_insideSet 24 = .ok (.ior, 1) := by decide +kernel
theorem dX12_insideSet_25 : decode cX12_insideSet 25 = .ok (.istore_n 1, 1) := by decide +kernel
theorem dX12_insideSet_26 : decode cX12_insideSet 26 = .ok (.iinc 2 1, 3) := by decide +kernel
theorem dX12_insideSet_29 : decode cX12_insideSet 29 = .ok (.goto (-25), 3) := by decide +kernel
theorem dX12_insideSet_32 : decode cX12_insideSet 32 = .ok (.iload_n 1, 1) := by decide +kernel
theorem dX12_insideSet_33 : decode cX12_insideSet 33 = .ok (.ireturn, 1) := by decide +kernel
theorem dX12_turning_0 : decode cX12_turning 0 = .ok (.aload_n 0, 1) := by decide +kernel
theorem dX12_turning_1 : decode cX12_turning 1 = .ok (.iload_n 1, 1) := by decide +kernel
theorem dX12_turning_2 : decode cX12_turning 2 = .ok (.i2l, 1) := by decide +kernel
theorem dX12_turning_3 : decode cX12_turning 3 = .ok (.invokevirtual 496, 3) := by decide +kernel
theorem dX12_turning_6 : decode cX12_turning 6 = .ok (.ifCond .eq 36, 3) := by decide +kernel
theorem dX12_turning_9 : decode cX12_turning 9 = .ok (.aload_n 0, 1) := by decide +kernel
theorem dX12_turning_10 : decode cX12_turning 10 = .ok (.iload_n 2, 1) := by decide +kernel
theorem dX12_turning_11 : decode cX12_turning 11 = .ok (.i2l, 1) := by decide +kernel
theorem dX12_turning_12 : decode cX12_turning 12 = .ok (.invokevirtual 511, 3) := by decide +kernel
theorem dX12_turning_15 : decode cX12_turning 15 = .ok (.ifCond .eq 27, 3) := by decide +kernel
theorem dX12_turning_18 : decode cX12_turning 18 = .ok (.iload_n 3, 1) := by decide +kernel
theorem dX12_turning_19 : decode cX12_turning 19 = .ok (.i2l, 1) := by decide +kernel
theorem dX12_turning_20 : decode cX12_turning 20 = .ok (.lconst 1, 1) := by decide +kernel
theorem dX12_turning_21 : decode cX12_turning 21 = .ok (.ldc2_w 247, 3) := by decide +kernel
theorem dX12_turning_24 : decode cX12_turning 24 = .ok (.invokestatic 295, 3) := by decide +kernel
theorem dX12_turning_27 : decode cX12_turning 27 = .ok (.ifCond .eq 15, 3) := by decide +kernel
theorem dX12_turning_30 : decode cX12_turning 30 = .ok (.aload_n 0, 1) := by decide +kernel
theorem dX12_turning_31 : decode cX12_turning 31 = .ok (.iload 4, 2) := by decide +kernel
theorem dX12_turning_33 : decode cX12_turning 33 = .ok (.iconst 0, 1) := by decide +kernel
theorem dX12_turning_34 : decode cX12_turning 34 = .ok (.bipush 20, 2) := by decide +kernel
theorem dX12_turning_36 : decode cX12_turning 36 = .ok (.invokevirtual 514, 3) := by decide +kernel
theorem dX12_turning_39 : decode cX12_turning 39 = .ok (.ifCond .ne 5, 3) := by decide +kernel
theorem dX12_turning_42 : decode cX12_turning 42 = .ok (.iconst (-1), 1) := by decide +kernel
theorem dX12_turning_43 : decode cX12_turning 43 = .ok (.ireturn, 1) := by decide +kernel
theorem dX12_turning_44 : decode cX12_turning 44 = .ok (.iconst (-1), 1) := by decide +kernel
theorem dX12_turning_45 : decode cX12_turning 45 = .ok (.istore 5, 2) := by decide +kernel
theorem dX12_turning_47 : decode cX12_turning 47 = .ok (.aload_n 0, 1) := by decide +kernel
theorem dX12_turning_48 : decode cX12_turning 48 = .ok (.invokevirtual 532, 3) := by decide +kernel
theorem dX12_turning_51 : decode cX12_turning 51 = .ok (.istore 6, 2) := by decide +kernel
theorem dX12_turning_53 : decode cX12_turning 53 = .ok (.aload_n 0, 1) := by decide +kernel
theorem dX12_turning_54 : decode cX12_turning 54 = .ok (.invokevirtual 517, 3) := by decide +kernel
theorem dX12_turning_57 : decode cX12_turning 57 = .ok (.iconst 0, 1) := by decide +kernel
theorem dX12_turning_58 : decode cX12_turning 58 = .ok (.istore 7, 2) := by decide +kernel
theorem dX12_turning_60 : decode cX12_turning 60 = .ok (.iload 7, 2) := by decide +kernel
theorem dX12_turning_62 : decode cX12_turning 62 = .ok (.iconst 1, 1) := by decide +kernel
theorem dX12_turning_63 : decode cX12_turning 63 = .ok (.aload_n 0, 1) := by decide +kernel
theorem dX12_turning_64 : decode cX12_turning 64 = .ok (.invokevirtual 403, 3) := by decide +kernel
theorem dX12_turning_67 : decode cX12_turning 67 = .ok (.ishl, 1) := by decide +kernel
theorem dX12_turning_68 : decode cX12_turning 68 = .ok (.if_icmp .ge 105, 3) := by decide +kernel
theorem dX12_turning_71 : decode cX12_turning 71 = .ok (.iload 7, 2) := by decide +kernel
theorem dX12_turning_73 : decode cX12_turning 73 = .ok (.iload 6, 2) := by decide +kernel
theorem dX12_turning_75 : decode cX12_turning 75 = .ok (.iconst (-1), 1) := by decide +kernel
theorem dX12_turning_76 : decode cX12_turning 76 = .ok (.ixor, 1) := by decide +kernel
theorem dX12_turning_77 : decode cX12_turning 77 = .ok (.iand, 1) := by decide +kernel
theorem dX12_turning_78 : decode cX12_turning 78 = .ok (.ifCond .ne 89, 3) := by decide +kernel
theorem dX12_turning_81 : decode cX12_turning 81 = .ok (.iload 5, 2) := by decide +kernel
theorem dX12_turning_83 : decode cX12_turning 83 = .ok (.iconst (-1), 1) := by decide +kernel
theorem dX12_turning_84 : decode cX12_turning 84 = .ok (.if_icmp .eq 19, 3) := by decide +kernel
theorem dX12_turning_87 : decode cX12_turning 87 = .ok (.iload 7, 2) := by decide +kernel
theorem dX12_turning_89 : decode cX12_turning 89 = .ok (.invokestatic 535, 3) := by decide +kernel
theorem dX12_turning_92 : decode cX12_turning 92 = .ok (.iload 5, 2) := by decide +kernel
theorem dX12_turning_94 : decode cX12_turning 94 = .ok (.invokestatic 535, 3) := by decide +kernel
theorem dX12_turning_97 : decode cX12_turning 97 = .ok (.if_icmp .lt 6, 3) := by decide +kernel
theorem dX12_turning_100 : decode cX12_turning 100 = .ok (.goto 67, 3) := by decide +kernel
theorem dX12_turning_103 : decode cX12_turning 103 = .ok (.iconst 0, 1) := by decide +kernel
theorem dX12_turning_104 : decode cX12_turning 104 = .ok (.istore 8, 2) := by decide +kernel
theorem dX12_turning_106 : decode cX12_turning 106 = .ok (.iload 8, 2) := by decide +kernel
theorem dX12_turning_108 : decode cX12_turning 108 = .ok (.aload_n 0, 1) := by decide +kernel
theorem dX12_turning_109 : decode cX12_turning 109 = .ok (.invokevirtual 403, 3) := by decide +kernel
theorem dX12_turning_112 : decode cX12_turning 112 = .ok (.if_icmp .ge 30, 3) := by decide +kernel
theorem dX12_turning_115 : decode cX12_turning 115 = .ok (.aload_n 0, 1) := by decide +kernel
theorem dX12_turning_116 : decode cX12_turning 116 = .ok (.getfield 124, 3) := by decide +kernel
theorem dX12_turning_119 : decode cX12_turning 119 = .ok (.iconst 2, 1) := by decide +kernel
theorem dX12_turning_120 : decode cX12_turning 120 = .ok (.iconst 2, 1) := by decide +kernel
theorem dX12_turning_121 : decode cX12_turning 121 = .ok (.iload 8, 2) := by decide +kernel
theorem dX12_turning_123 : decode cX12_turning 123 = .ok (.imul, 1) := by decide +kernel
theorem dX12_turning_124 : decode cX12_turning 124 = .ok (.iadd, 1) := by decide +kernel
theorem dX12_turning_125 : decode cX12_turning 125 = .ok (.dup2, 1) := by decide +kernel
theorem dX12_turning_126 : decode cX12_turning 126 = .ok (.iaload, 1) := by decide +kernel
theorem dX12_turning_127 : decode cX12_turning 127 = .ok (.iload 7, 2) := by decide +kernel
theorem dX12_turning_129 : decode cX12_turning 129 = .ok (.iload 8, 2) := by decide +kernel
theorem dX12_turning_131 : decode cX12_turning 131 = .ok (.ishr, 1) := by decide +kernel
theorem dX12_turning_132 : decode cX12_turning 132 = .ok (.iconst 1, 1) := by decide +kernel
theorem dX12_turning_133 : decode cX12_turning 133 = .ok (.iand, 1) := by decide +kernel
theorem dX12_turning_134 : decode cX12_turning 134 = .ok (.ixor, 1) := by decide +kernel
theorem dX12_turning_135 : decode cX12_turning 135 = .ok (.iastore, 1) := by decide +kernel
theorem dX12_turning_136 : decode cX12_turning 136 = .ok (.iinc 8 1, 3) := by decide +kernel
theorem dX12_turning_139 : decode cX12_turning 139 = .ok (.goto (-33), 3) := by decide +kernel
theorem dX12_turning_142 : decode cX12_turning 142 = .ok (.aload_n 0, 1) := by decide +kernel
theorem dX12_turning_143 : decode cX12_turning 143 = .ok (.iload_n 2, 1) := by decide +kernel
theorem dX12_turning_144 : decode cX12_turning 144 = .ok (.iload 4, 2) := by decide +kernel
theorem dX12_turning_146 : decode cX12_turning 146 = .ok (.invokevirtual 520, 3) := by decide +kernel
theorem dX12_turning_149 : decode cX12_turning 149 = .ok (.aload_n 0, 1) := by decide +kernel
theorem dX12_turning_150 : decode cX12_turning 150 = .ok (.iload_n 1, 1) := by decide +kernel
theorem dX12_turning_151 : decode cX12_turning 151 = .ok (.iload_n 2, 1) := by decide +kernel
theorem dX12_turning_152 : decode cX12_turning 152 = .ok (.invokevirtual 452, 3) := by decide +kernel
theorem dX12_turning_155 : decode cX12_turning 155 = .ok (.iload_n 3, 1) := by decide +kernel
theorem dX12_turning_156 : decode cX12_turning 156 = .ok (.if_icmp .lt 7, 3) := by decide +kernel
theorem dX12_turning_159 : decode cX12_turning 159 = .ok (.iload 7, 2) := by decide +kernel
theorem dX12_turning_161 : decode cX12_turning 161 = .ok (.istore 5, 2) := by decide +kernel
theorem dX12_turning_163 : decode cX12_turning 163 = .ok (.aload_n 0, 1) := by decide +kernel
theorem dX12_turning_164 : decode cX12_turning 164 = .ok (.invokevirtual 487, 3) := by decide +kernel
theorem dX12_turning_167 : decode cX12_turning 167 = .ok (.iinc 7 1, 3) := by decide +kernel
theorem dX12_turning_170 : decode cX12_turning 170 = .ok (.goto (-110), 3) := by decide +kernel
theorem dX12_turning_173 : decode cX12_turning 173 = .ok (.aload_n 0, 1) := by decide +kernel
theorem dX12_turning_174 : decode cX12_turning 174 = .ok (.invokevirtual 523, 3) := by decide +kernel
theorem dX12_turning_177 : decode cX12_turning 177 = .ok (.iload 5, 2) := by decide +kernel
theorem dX12_turning_179 : decode cX12_turning 179 = .ok (.ireturn, 1) := by decide +kernel
theorem dX12_laysSteps_0 : decode cX12_laysSteps 0 = .ok (.iconst 0, 1) := by decide +kernel
theorem dX12_laysSteps_1 : decode cX12_laysSteps 1 = .ok (.istore_n 2, 1) := by decide +kernel
theorem dX12_laysSteps_2 : decode cX12_laysSteps 2 = .ok (.iload_n 2, 1) := by decide +kernel
theorem dX12_laysSteps_3 : decode cX12_laysSteps 3 = .ok (.bipush 8, 2) := by decide +kernel
theorem dX12_laysSteps_5 : decode cX12_laysSteps 5 = .ok (.if_icmp .ge 30, 3) := by decide +kernel
theorem dX12_laysSteps_8 : decode cX12_laysSteps 8 = .ok (.aload_n 0, 1) := by decide +kernel
theorem dX12_laysSteps_9 : decode cX12_laysSteps 9 = .ok (.getfield 136, 3) := by decide +kernel
theorem dX12_laysSteps_12 : decode cX12_laysSteps 12 = .ok (.bipush 8, 2) := by decide +kernel
theorem dX12_laysSteps_14 : decode cX12_laysSteps 14 = .ok (.iload_n 1, 1) := by decide +kernel
theorem dX12_laysSteps_15 : decode cX12_laysSteps 15 = .ok (.imul, 1) := by decide +kernel
theorem dX12_laysSteps_16 : decode cX12_laysSteps 16 = .ok (.iload_n 2, 1) := by decide +kernel
theorem dX12_laysSteps_17 : decode cX12_laysSteps 17 = .ok (.iadd, 1) := by decide +kernel
theorem dX12_laysSteps_18 : decode cX12_laysSteps 18 = .ok (.iload_n 2, 1) := by decide +kernel
theorem dX12_laysSteps_19 : decode cX12_laysSteps 19 = .ok (.iload_n 1, 1) := by decide +kernel
theorem dX12_laysSteps_20 : decode cX12_laysSteps 20 = .ok (.if_icmp .ne 7, 3) := by decide +kernel
theorem dX12_laysSteps_23 : decode cX12_laysSteps 23 = .ok (.iconst 0, 1) := by decide +kernel
theorem dX12_laysSteps_24 : decode cX12_laysSteps 24 = .ok (.goto 4, 3) := by decide +kernel
theorem dX12_laysSteps_27 : decode cX12_laysSteps 27 = .ok (.iconst (-1), 1) := by decide +kernel
theorem dX12_laysSteps_28 : decode cX12_laysSteps 28 = .ok (.iastore, 1) := by decide +kernel
theorem dX12_laysSteps_29 : decode cX12_laysSteps 29 = .ok (.iinc 2 1, 3) := by decide +kernel
theorem dX12_laysSteps_32 : decode cX12_laysSteps 32 = .ok (.goto (-30), 3) := by decide +kernel
theorem dX12_laysSteps_35 : decode cX12_laysSteps 35 = .ok (.aload_n 0, 1) := by decide +kernel
theorem dX12_laysSteps_36 : decode cX12_laysSteps 36 = .ok (.getfield 139, 3) := by decide +kernel
theorem dX12_laysSteps_39 : decode cX12_laysSteps 39 = .ok (.iconst 0, 1) := by decide +kernel
theorem dX12_laysSteps_40 : decode cX12_laysSteps 40 = .ok (.iload_n 1, 1) := by decide +kernel
theorem dX12_laysSteps_41 : decode cX12_laysSteps 41 = .ok (.iastore, 1) := by decide +kernel
theorem dX12_laysSteps_42 : decode cX12_laysSteps 42 = .ok (.iconst 1, 1) := by decide +kernel
theorem dX12_laysSteps_43 : decode cX12_laysSteps 43 = .ok (.istore_n 2, 1) := by decide +kernel
theorem dX12_laysSteps_44 : decode cX12_laysSteps 44 = .ok (.iconst 0, 1) := by decide +kernel
theorem dX12_laysSteps_45 : decode cX12_laysSteps 45 = .ok (.istore_n 3, 1) := by decide +kernel
theorem dX12_laysSteps_46 : decode cX12_laysSteps 46 = .ok (.iload_n 3, 1) := by decide +kernel
theorem dX12_laysSteps_47 : decode cX12_laysSteps 47 = .ok (.iload_n 2, 1) := by decide +kernel
theorem dX12_laysSteps_48 : decode cX12_laysSteps 48 = .ok (.if_icmp .ge 119, 3) := by decide +kernel
theorem dX12_laysSteps_51 : decode cX12_laysSteps 51 = .ok (.iconst 0, 1) := by decide +kernel
theorem dX12_laysSteps_52 : decode cX12_laysSteps 52 = .ok (.istore 4, 2) := by decide +kernel
theorem dX12_laysSteps_54 : decode cX12_laysSteps 54 = .ok (.iload 4, 2) := by decide +kernel
theorem dX12_laysSteps_56 : decode cX12_laysSteps 56 = .ok (.aload_n 0, 1) := by decide +kernel
theorem dX12_laysSteps_57 : decode cX12_laysSteps 57 = .ok (.invokevirtual 403, 3) := by decide +kernel
theorem dX12_laysSteps_60 : decode cX12_laysSteps 60 = .ok (.if_icmp .ge 101, 3) := by decide +kernel
theorem dX12_laysSteps_63 : decode cX12_laysSteps 63 = .ok (.aload_n 0, 1) := by decide +kernel
theorem dX12_laysSteps_64 : decode cX12_laysSteps 64 = .ok (.iload 4, 2) := by decide +kernel
theorem dX12_laysSteps_66 : decode cX12_laysSteps 66 = .ok (.invokevirtual 438, 3) := by decide +kernel
theorem dX12_laysSteps_69 : decode cX12_laysSteps 69 = .ok (.istore 5, 2) := by decide +kernel
theorem dX12_laysSteps_71 : decode cX12_laysSteps 71 = .ok (.aload_n 0, 1) := by decide +kernel
theorem dX12_laysSteps_72 : decode cX12_laysSteps 72 = .ok (.iload 4, 2) := by decide +kernel
theorem dX12_laysSteps_74 : decode cX12_laysSteps 74 = .ok (.invokevirtual 426, 3) := by decide +kernel
theorem dX12_laysSteps_77 : decode cX12_laysSteps 77 = .ok (.ifCond .eq 78, 3) := by decide +kernel
theorem dX12_laysSteps_80 : decode cX12_laysSteps 80 = .ok (.aload_n 0, 1) := by decide +kernel
theorem dX12_laysSteps_81 : decode cX12_laysSteps 81 = .ok (.iload 4, 2) := by decide +kernel
theorem dX12_laysSteps_83 : decode cX12_laysSteps 83 = .ok (.invokevirtual 461, 3) := by decide +kernel
theorem dX12_laysSteps_86 : decode cX12_laysSteps 86 = .ok (.aload_n 0, 1) := by decide +kernel
theorem dX12_laysSteps_87 : decode cX12_laysSteps 87 = .ok (.getfield 139, 3) := by decide +kernel
theorem dX12_laysSteps_90 : decode cX12_laysSteps 90 = .ok (.iload_n 3, 1) := by decide +kernel
theorem dX12_laysSteps_91 : decode cX12_laysSteps 91 = .ok (.iaload, 1) := by decide +kernel
theorem dX12_laysSteps_92 : decode cX12_laysSteps 92 = .ok (.if_icmp .ne 63, 3) := by decide +kernel
theorem dX12_laysSteps_95 : decode cX12_laysSteps 95 = .ok (.aload_n 0, 1) := by decide +kernel
theorem dX12_laysSteps_96 : decode cX12_laysSteps 96 = .ok (.getfield 136, 3) := by decide +kernel
theorem dX12_laysSteps_99 : decode cX12_laysSteps 99 = .ok (.bipush 8, 2) := by decide +kernel
theorem dX12_laysSteps_101 : decode cX12_laysSteps 101 = .ok (.iload_n 1, 1) := by decide +kernel
theorem dX12_laysSteps_102 : decode cX12_laysSteps 102 = .ok (.imul, 1) := by decide +kernel
theorem dX12_laysSteps_103 : decode cX12_laysSteps 103 = .ok (.iload 5, 2) := by decide +kernel
theorem dX12_laysSteps_105 : decode cX12_laysSteps 105 = .ok (.iadd, 1) := by decide +kernel
theorem dX12_laysSteps_106 : decode cX12_laysSteps 106 = .ok (.iaload, 1) := by decide +kernel
theorem dX12_laysSteps_107 : decode cX12_laysSteps 107 = .ok (.iconst (-1), 1) := by decide +kernel
theorem dX12_laysSteps_108 : decode cX12_laysSteps 108 = .ok (.if_icmp .eq 6, 3) := by decide +kernel
theorem dX12_laysSteps_111 : decode cX12_laysSteps 111 = .ok (.goto 44, 3) := by decide +kernel
theorem dX12_laysSteps_114 : decode cX12_laysSteps 114 = .ok (.aload_n 0, 1) := by decide +kernel
theorem dX12_laysSteps_115 : decode cX12_laysSteps 115 = .ok (.getfield 136, 3) := by decide +kernel
theorem dX12_laysSteps_118 : decode cX12_laysSteps 118 = .ok (.bipush 8, 2) := by decide +kernel
theorem dX12_laysSteps_120 : decode cX12_laysSteps 120 = .ok (.iload_n 1, 1) := by decide +kernel
theorem dX12_laysSteps_121 : decode cX12_laysSteps 121 = .ok (.imul, 1) := by decide +kernel
theorem dX12_laysSteps_122 : decode cX12_laysSteps 122 = .ok (.iload 5, 2) := by decide +kernel
theorem dX12_laysSteps_124 : decode cX12_laysSteps 124 = .ok (.iadd, 1) := by decide +kernel
theorem dX12_laysSteps_125 : decode cX12_laysSteps 125 = .ok (.aload_n 0, 1) := by decide +kernel
theorem dX12_laysSteps_126 : decode cX12_laysSteps 126 = .ok (.getfield 136, 3) := by decide +kernel
theorem dX12_laysSteps_129 : decode cX12_laysSteps 129 = .ok (.bipush 8, 2) := by decide +kernel
theorem dX12_laysSteps_131 : decode cX12_laysSteps 131 = .ok (.iload_n 1, 1) := by decide +kernel
theorem dX12_laysSteps_132 : decode cX12_laysSteps 132 = .ok (.imul, 1) := by decide +kernel
theorem dX12_laysSteps_133 : decode cX12_laysSteps 133 = .ok (.aload_n 0, 1) := by decide +kernel
theorem dX12_laysSteps_134 : decode cX12_laysSteps 134 = .ok (.getfield 139, 3) := by decide +kernel
theorem dX12_laysSteps_137 : decode cX12_laysSteps 137 = .ok (.iload_n 3, 1) := by decide +kernel
theorem dX12_laysSteps_138 : decode cX12_laysSteps 138 = .ok (.iaload, 1) := by decide +kernel
theorem dX12_laysSteps_139 : decode cX12_laysSteps 139 = .ok (.iadd, 1) := by decide +kernel
theorem dX12_laysSteps_140 : decode cX12_laysSteps 140 = .ok (.iaload, 1) := by decide +kernel
theorem dX12_laysSteps_141 : decode cX12_laysSteps 141 = .ok (.iconst 1, 1) := by decide +kernel
theorem dX12_laysSteps_142 : decode cX12_laysSteps 142 = .ok (.iadd, 1) := by decide +kernel
theorem dX12_laysSteps_143 : decode cX12_laysSteps 143 = .ok (.iastore, 1) := by decide +kernel
theorem dX12_laysSteps_144 : decode cX12_laysSteps 144 = .ok (.aload_n 0, 1) := by decide +kernel
theorem dX12_laysSteps_145 : decode cX12_laysSteps 145 = .ok (.getfield 139, 3) := by decide +kernel
theorem dX12_laysSteps_148 : decode cX12_laysSteps 148 = .ok (.iload_n 2, 1) := by decide +kernel
theorem dX12_laysSteps_149 : decode cX12_laysSteps 149 = .ok (.iload 5, 2) := by decide +kernel
theorem dX12_laysSteps_151 : decode cX12_laysSteps 151 = .ok (.iastore, 1) := by decide +kernel
theorem dX12_laysSteps_152 : decode cX12_laysSteps 152 = .ok (.iinc 2 1, 3) := by decide +kernel
theorem dX12_laysSteps_155 : decode cX12_laysSteps 155 = .ok (.iinc 4 1, 3) := by decide +kernel
theorem dX12_laysSteps_158 : decode cX12_laysSteps 158 = .ok (.goto (-104), 3) := by decide +kernel
theorem dX12_laysSteps_161 : decode cX12_laysSteps 161 = .ok (.iinc 3 1, 3) := by decide +kernel
theorem dX12_laysSteps_164 : decode cX12_laysSteps 164 = .ok (.goto (-118), 3) := by decide +kernel
theorem dX12_laysSteps_167 : decode cX12_laysSteps 167 = .ok (.return_, 1) := by decide +kernel
theorem dX12_steps_0 : decode cX12_steps 0 = .ok (.aload_n 0, 1) := by decide +kernel
theorem dX12_steps_1 : decode cX12_steps 1 = .ok (.iload_n 1, 1) := by decide +kernel
theorem dX12_steps_2 : decode cX12_steps 2 = .ok (.i2l, 1) := by decide +kernel
theorem dX12_steps_3 : decode cX12_steps 3 = .ok (.invokevirtual 496, 3) := by decide +kernel
theorem dX12_steps_6 : decode cX12_steps 6 = .ok (.ifCond .eq 12, 3) := by decide +kernel
theorem dX12_steps_9 : decode cX12_steps 9 = .ok (.aload_n 0, 1) := by decide +kernel
theorem dX12_steps_10 : decode cX12_steps 10 = .ok (.iload_n 2, 1) := by decide +kernel
theorem dX12_steps_11 : decode cX12_steps 11 = .ok (.i2l, 1) := by decide +kernel
theorem dX12_steps_12 : decode cX12_steps 12 = .ok (.invokevirtual 496, 3) := by decide +kernel
theorem dX12_steps_15 : decode cX12_steps 15 = .ok (.ifCond .ne 5, 3) := by decide +kernel
theorem dX12_steps_18 : decode cX12_steps 18 = .ok (.iconst (-1), 1) := by decide +kernel
theorem dX12_steps_19 : decode cX12_steps 19 = .ok (.ireturn, 1) := by decide +kernel
theorem dX12_steps_20 : decode cX12_steps 20 = .ok (.aload_n 0, 1) := by decide +kernel
theorem dX12_steps_21 : decode cX12_steps 21 = .ok (.iload_n 1, 1) := by decide +kernel
theorem dX12_steps_22 : decode cX12_steps 22 = .ok (.invokevirtual 538, 3) := by decide +kernel
theorem dX12_steps_25 : decode cX12_steps 25 = .ok (.aload_n 0, 1) := by decide +kernel
theorem dX12_steps_26 : decode cX12_steps 26 = .ok (.getfield 136, 3) := by decide +kernel
theorem dX12_steps_29 : decode cX12_steps 29 = .ok (.bipush 8, 2) := by decide +kernel
theorem dX12_steps_31 : decode cX12_steps 31 = .ok (.iload_n 1, 1) := by decide +kernel
theorem dX12_steps_32 : decode cX12_steps 32 = .ok (.imul, 1) := by decide +kernel
theorem dX12_steps_33 : decode cX12_steps 33 = .ok (.iload_n 2, 1) := by decide +kernel
theorem dX12_steps_34 : decode cX12_steps 34 = .ok (.iadd, 1) := by decide +kernel
theorem dX12_steps_35 : decode cX12_steps 35 = .ok (.iaload, 1) := by decide +kernel
theorem dX12_steps_36 : decode cX12_steps 36 = .ok (.ireturn, 1) := by decide +kernel
theorem dX12_goesBy_0 : decode cX12_goesBy 0 = .ok (.aload_n 0, 1) := by decide +kernel
theorem dX12_goesBy_1 : decode cX12_goesBy 1 = .ok (.iload_n 1, 1) := by decide +kernel
theorem dX12_goesBy_2 : decode cX12_goesBy 2 = .ok (.invokevirtual 426, 3) := by decide +kernel
theorem dX12_goesBy_5 : decode cX12_goesBy 5 = .ok (.ifCond .ne 5, 3) := by decide +kernel
theorem dX12_goesBy_8 : decode cX12_goesBy 8 = .ok (.iconst (-1), 1) := by decide +kernel
theorem dX12_goesBy_9 : decode cX12_goesBy 9 = .ok (.ireturn, 1) := by decide +kernel
theorem dX12_goesBy_10 : decode cX12_goesBy 10 = .ok (.aload_n 0, 1) := by decide +kernel
theorem dX12_goesBy_11 : decode cX12_goesBy 11 = .ok (.getfield 142, 3) := by decide +kernel
theorem dX12_goesBy_14 : decode cX12_goesBy 14 = .ok (.iload_n 1, 1) := by decide +kernel
theorem dX12_goesBy_15 : decode cX12_goesBy 15 = .ok (.baload, 1) := by decide +kernel
theorem dX12_goesBy_16 : decode cX12_goesBy 16 = .ok (.ifCond .ne 18, 3) := by decide +kernel
theorem dX12_goesBy_19 : decode cX12_goesBy 19 = .ok (.aload_n 0, 1) := by decide +kernel
theorem dX12_goesBy_20 : decode cX12_goesBy 20 = .ok (.iload_n 1, 1) := by decide +kernel
theorem dX12_goesBy_21 : decode cX12_goesBy 21 = .ok (.invokevirtual 461, 3) := by decide +kernel
theorem dX12_goesBy_24 : decode cX12_goesBy 24 = .ok (.iload_n 2, 1) := by decide +kernel
theorem dX12_goesBy_25 : decode cX12_goesBy 25 = .ok (.if_icmp .ne 9, 3) := by decide +kernel
theorem dX12_goesBy_28 : decode cX12_goesBy 28 = .ok (.aload_n 0, 1) := by decide +kernel
theorem dX12_goesBy_29 : decode cX12_goesBy 29 = .ok (.iload_n 1, 1) := by decide +kernel
theorem dX12_goesBy_30 : decode cX12_goesBy 30 = .ok (.invokevirtual 438, 3) := by decide +kernel
theorem dX12_goesBy_33 : decode cX12_goesBy 33 = .ok (.ireturn, 1) := by decide +kernel
theorem dX12_goesBy_34 : decode cX12_goesBy 34 = .ok (.aload_n 0, 1) := by decide +kernel
theorem dX12_goesBy_35 : decode cX12_goesBy 35 = .ok (.getfield 142, 3) := by decide +kernel
theorem dX12_goesBy_38 : decode cX12_goesBy 38 = .ok (.iload_n 1, 1) := by decide +kernel
theorem dX12_goesBy_39 : decode cX12_goesBy 39 = .ok (.baload, 1) := by decide +kernel
theorem dX12_goesBy_40 : decode cX12_goesBy 40 = .ok (.ifCond .eq 20, 3) := by decide +kernel
theorem dX12_goesBy_43 : decode cX12_goesBy 43 = .ok (.aload_n 0, 1) := by decide +kernel
theorem dX12_goesBy_44 : decode cX12_goesBy 44 = .ok (.iload_n 1, 1) := by decide +kernel
theorem dX12_goesBy_45 : decode cX12_goesBy 45 = .ok (.invokevirtual 438, 3) := by decide +kernel
theorem dX12_goesBy_48 : decode cX12_goesBy 48 = .ok (.iload_n 2, 1) := by decide +kernel
theorem dX12_goesBy_49 : decode cX12_goesBy 49 = .ok (.if_icmp .ne 11, 3) := by decide +kernel
theorem dX12_goesBy_52 : decode cX12_goesBy 52 = .ok (.aload_n 0, 1) := by decide +kernel
theorem dX12_goesBy_53 : decode cX12_goesBy 53 = .ok (.iload_n 1, 1) := by decide +kernel
theorem dX12_goesBy_54 : decode cX12_goesBy 54 = .ok (.invokevirtual 461, 3) := by decide +kernel
theorem dX12_goesBy_57 : decode cX12_goesBy 57 = .ok (.goto 4, 3) := by decide +kernel
theorem dX12_goesBy_60 : decode cX12_goesBy 60 = .ok (.iconst (-1), 1) := by decide +kernel
theorem dX12_goesBy_61 : decode cX12_goesBy 61 = .ok (.ireturn, 1) := by decide +kernel
theorem dX12_isOneMore_0 : decode cX12_isOneMore 0 = .ok (.iconst 0, 1) := by decide +kernel
theorem dX12_isOneMore_1 : decode cX12_isOneMore 1 = .ok (.istore_n 3, 1) := by decide +kernel
theorem dX12_isOneMore_2 : decode cX12_isOneMore 2 = .ok (.iload_n 3, 1) := by decide +kernel
theorem dX12_isOneMore_3 : decode cX12_isOneMore 3 = .ok (.bipush 8, 2) := by decide +kernel
theorem dX12_isOneMore_5 : decode cX12_isOneMore 5 = .ok (.if_icmp .ge 26, 3) := by decide +kernel
theorem dX12_isOneMore_8 : decode cX12_isOneMore 8 = .ok (.aload_n 0, 1) := by decide +kernel
theorem dX12_isOneMore_9 : decode cX12_isOneMore 9 = .ok (.getfield 146, 3) := by decide +kernel
theorem dX12_isOneMore_12 : decode cX12_isOneMore 12 = .ok (.iload_n 3, 1) := by decide +kernel
theorem dX12_isOneMore_13 : decode cX12_isOneMore 13 = .ok (.iload_n 3, 1) := by decide +kernel
theorem dX12_isOneMore_14 : decode cX12_isOneMore 14 = .ok (.iload_n 1, 1) := by decide +kernel
theorem dX12_isOneMore_15 : decode cX12_isOneMore 15 = .ok (.if_icmp .ne 8, 3) := by decide +kernel
theorem dX12_isOneMore_18 : decode cX12_isOneMore 18 = .ok (.bipush 12, 2) := by decide +kernel
theorem dX12_isOneMore_20 : decode cX12_isOneMore 20 = .ok (.goto 4, 3) := by decide +kernel
theorem dX12_isOneMore_23 : decode cX12_isOneMore 23 = .ok (.iconst (-1), 1) := by decide +kernel
theorem dX12_isOneMore_24 : decode cX12_isOneMore 24 = .ok (.iastore, 1) := by decide +kernel
theorem dX12_isOneMore_25 : decode cX12_isOneMore 25 = .ok (.iinc 3 1, 3) := by decide +kernel
theorem dX12_isOneMore_28 : decode cX12_isOneMore 28 = .ok (.goto (-26), 3) := by decide +kernel
theorem dX12_isOneMore_31 : decode cX12_isOneMore 31 = .ok (.aload_n 0, 1) := by decide +kernel
theorem dX12_isOneMore_32 : decode cX12_isOneMore 32 = .ok (.getfield 139, 3) := by decide +kernel
theorem dX12_isOneMore_35 : decode cX12_isOneMore 35 = .ok (.iconst 0, 1) := by decide +kernel
theorem dX12_isOneMore_36 : decode cX12_isOneMore 36 = .ok (.iload_n 1, 1) := by decide +kernel
theorem dX12_isOneMore_37 : decode cX12_isOneMore 37 = .ok (.iastore, 1) := by decide +kernel
theorem dX12_isOneMore_38 : decode cX12_isOneMore 38 = .ok (.iconst 1, 1) := by decide +kernel
theorem dX12_isOneMore_39 : decode cX12_isOneMore 39 = .ok (.istore_n 3, 1) := by decide +kernel
theorem dX12_isOneMore_40 : decode cX12_isOneMore 40 = .ok (.iconst 0, 1) := by decide +kernel
theorem dX12_isOneMore_41 : decode cX12_isOneMore 41 = .ok (.istore 4, 2) := by decide +kernel
theorem dX12_isOneMore_43 : decode cX12_isOneMore 43 = .ok (.iload 4, 2) := by decide +kernel
theorem dX12_isOneMore_45 : decode cX12_isOneMore 45 = .ok (.iload_n 3, 1) := by decide +kernel
theorem dX12_isOneMore_46 : decode cX12_isOneMore 46 = .ok (.if_icmp .ge 92, 3) := by decide +kernel
theorem dX12_isOneMore_49 : decode cX12_isOneMore 49 = .ok (.aload_n 0, 1) := by decide +kernel
theorem dX12_isOneMore_50 : decode cX12_isOneMore 50 = .ok (.getfield 146, 3) := by decide +kernel
theorem dX12_isOneMore_53 : decode cX12_isOneMore 53 = .ok (.iload_n 2, 1) := by decide +kernel
theorem dX12_isOneMore_54 : decode cX12_isOneMore 54 = .ok (.iaload, 1) := by decide +kernel
theorem dX12_isOneMore_55 : decode cX12_isOneMore 55 = .ok (.iconst (-1), 1) := by decide +kernel
theorem dX12_isOneMore_56 : decode cX12_isOneMore 56 = .ok (.if_icmp .ne 82, 3) := by decide +kernel
theorem dX12_isOneMore_59 : decode cX12_isOneMore 59 = .ok (.iconst 0, 1) := by decide +kernel
theorem dX12_isOneMore_60 : decode cX12_isOneMore 60 = .ok (.istore 5, 2) := by decide +kernel
theorem dX12_isOneMore_62 : decode cX12_isOneMore 62 = .ok (.iload 5, 2) := by decide +kernel
theorem dX12_isOneMore_64 : decode cX12_isOneMore 64 = .ok (.aload_n 0, 1) := by decide +kernel
theorem dX12_isOneMore_65 : decode cX12_isOneMore 65 = .ok (.invokevirtual 403, 3) := by decide +kernel
theorem dX12_isOneMore_68 : decode cX12_isOneMore 68 = .ok (.if_icmp .ge 64, 3) := by decide +kernel
theorem dX12_isOneMore_71 : decode cX12_isOneMore 71 = .ok (.aload_n 0, 1) := by decide +kernel
theorem dX12_isOneMore_72 : decode cX12_isOneMore 72 = .ok (.iload 5, 2) := by decide +kernel
theorem dX12_isOneMore_74 : decode cX12_isOneMore 74 = .ok (.aload_n 0, 1) := by decide +kernel
theorem dX12_isOneMore_75 : decode cX12_isOneMore 75 = .ok (.getfield 139, 3) := by decide +kernel
theorem dX12_isOneMore_78 : decode cX12_isOneMore 78 = .ok (.iload 4, 2) := by decide +kernel
theorem dX12_isOneMore_80 : decode cX12_isOneMore 80 = .ok (.iaload, 1) := by decide +kernel
theorem dX12_isOneMore_81 : decode cX12_isOneMore 81 = .ok (.invokevirtual 541, 3) := by decide +kernel
theorem dX12_isOneMore_84 : decode cX12_isOneMore 84 = .ok (.istore 6, 2) := by decide +kernel
theorem dX12_isOneMore_86 : decode cX12_isOneMore 86 = .ok (.iload 6, 2) := by decide +kernel
theorem dX12_isOneMore_88 : decode cX12_isOneMore 88 = .ok (.iconst (-1), 1) := by decide +kernel
theorem dX12_isOneMore_89 : decode cX12_isOneMore 89 = .ok (.if_icmp .eq 37, 3) := by decide +kernel
theorem dX12_isOneMore_92 : decode cX12_isOneMore 92 = .ok (.aload_n 0, 1) := by decide +kernel
theorem dX12_isOneMore_93 : decode cX12_isOneMore 93 = .ok (.getfield 146, 3) := by decide +kernel
theorem dX12_isOneMore_96 : decode cX12_isOneMore 96 = .ok (.iload 6, 2) := by decide +kernel
theorem dX12_isOneMore_98 : decode cX12_isOneMore 98 = .ok (.iaload, 1) := by decide +kernel
theorem dX12_isOneMore_99 : decode cX12_isOneMore 99 = .ok (.iconst (-1), 1) := by decide +kernel
theorem dX12_isOneMore_100 : decode cX12_isOneMore 100 = .ok (.if_icmp .eq 6, 3) := by decide +kernel
theorem dX12_isOneMore_103 : decode cX12_isOneMore 103 = .ok (.goto 23, 3) := by decide +kernel
theorem dX12_isOneMore_106 : decode cX12_isOneMore 106 = .ok (.aload_n 0, 1) := by decide +kernel
theorem dX12_isOneMore_107 : decode cX12_isOneMore 107 = .ok (.getfield 146, 3) := by decide +kernel
theorem dX12_isOneMore_110 : decode cX12_isOneMore 110 = .ok (.iload 6, 2) := by decide +kernel
theorem dX12_isOneMore_112 : decode cX12_isOneMore 112 = .ok (.iload 5, 2) := by decide +kernel
theorem dX12_isOneMore_114 : decode cX12_isOneMore 114 = .ok (.iastore, 1) := by decide +kernel
theorem dX12_isOneMore_115 : decode cX12_isOneMore 115 = .ok (.aload_n 0, 1) := by decide +kernel
theorem dX12_isOneMore_116 : decode cX12_isOneMore 116 = .ok (.getfield 139, 3) := by decide +kernel
theorem dX12_isOneMore_119 : decode cX12_isOneMore 119 = .ok (.iload_n 3, 1) := by decide +kernel
theorem dX12_isOneMore_120 : decode cX12_isOneMore 120 = .ok (.iload 6, 2) := by decide +kernel
theorem dX12_isOneMore_122 : decode cX12_isOneMore 122 = .ok (.iastore, 1) := by decide +kernel
theorem dX12_isOneMore_123 : decode cX12_isOneMore 123 = .ok (.iinc 3 1, 3) := by decide +kernel
theorem dX12_isOneMore_126 : decode cX12_isOneMore 126 = .ok (.iinc 5 1, 3) := by decide +kernel
theorem dX12_isOneMore_129 : decode cX12_isOneMore 129 = .ok (.goto (-67), 3) := by decide +kernel
theorem dX12_isOneMore_132 : decode cX12_isOneMore 132 = .ok (.iinc 4 1, 3) := by decide +kernel
theorem dX12_isOneMore_135 : decode cX12_isOneMore 135 = .ok (.goto (-92), 3) := by decide +kernel
theorem dX12_isOneMore_138 : decode cX12_isOneMore 138 = .ok (.aload_n 0, 1) := by decide +kernel
theorem dX12_isOneMore_139 : decode cX12_isOneMore 139 = .ok (.getfield 146, 3) := by decide +kernel
theorem dX12_isOneMore_142 : decode cX12_isOneMore 142 = .ok (.iload_n 2, 1) := by decide +kernel
theorem dX12_isOneMore_143 : decode cX12_isOneMore 143 = .ok (.iaload, 1) := by decide +kernel
theorem dX12_isOneMore_144 : decode cX12_isOneMore 144 = .ok (.iconst (-1), 1) := by decide +kernel
theorem dX12_isOneMore_145 : decode cX12_isOneMore 145 = .ok (.if_icmp .ne 5, 3) := by decide +kernel
theorem dX12_isOneMore_148 : decode cX12_isOneMore 148 = .ok (.iconst 0, 1) := by decide +kernel
theorem dX12_isOneMore_149 : decode cX12_isOneMore 149 = .ok (.ireturn, 1) := by decide +kernel
theorem dX12_isOneMore_150 : decode cX12_isOneMore 150 = .ok (.iload_n 2, 1) := by decide +kernel
theorem dX12_isOneMore_151 : decode cX12_isOneMore 151 = .ok (.istore 4, 2) := by decide +kernel
theorem dX12_isOneMore_153 : decode cX12_isOneMore 153 = .ok (.iload 4, 2) := by decide +kernel
theorem dX12_isOneMore_155 : decode cX12_isOneMore 155 = .ok (.iload_n 1, 1) := by decide +kernel
theorem dX12_isOneMore_156 : decode cX12_isOneMore 156 = .ok (.if_icmp .eq 64, 3) := by decide +kernel
theorem dX12_isOneMore_159 : decode cX12_isOneMore 159 = .ok (.aload_n 0, 1) := by decide +kernel
theorem dX12_isOneMore_160 : decode cX12_isOneMore 160 = .ok (.getfield 146, 3) := by decide +kernel
theorem dX12_isOneMore_163 : decode cX12_isOneMore 163 = .ok (.iload 4, 2) := by decide +kernel
theorem dX12_isOneMore_165 : decode cX12_isOneMore 165 = .ok (.iaload, 1) := by decide +kernel
theorem dX12_isOneMore_166 : decode cX12_isOneMore 166 = .ok (.istore 5, 2) := by decide +kernel
theorem dX12_isOneMore_168 : decode cX12_isOneMore 168 = .ok (.aload_n 0, 1) := by decide +kernel
theorem dX12_isOneMore_169 : decode cX12_isOneMore 169 = .ok (.getfield 142, 3) := by decide +kernel
theorem dX12_isOneMore_172 : decode cX12_isOneMore 172 = .ok (.iload 5, 2) := by decide +kernel
theorem dX12_isOneMore_174 : decode cX12_isOneMore 174 = .ok (.baload, 1) := by decide +kernel
theorem dX12_isOneMore_175 : decode cX12_isOneMore 175 = .ok (.ifCond .eq 12, 3) := by decide +kernel
theorem dX12_isOneMore_178 : decode cX12_isOneMore 178 = .ok (.aload_n 0, 1) := by decide +kernel
theorem dX12_isOneMore_179 : decode cX12_isOneMore 179 = .ok (.iload 5, 2) := by decide +kernel
theorem dX12_isOneMore_181 : decode cX12_isOneMore 181 = .ok (.invokevirtual 438, 3) := by decide +kernel
theorem dX12_isOneMore_184 : decode cX12_isOneMore 184 = .ok (.goto 9, 3) := by decide +kernel
theorem dX12_isOneMore_187 : decode cX12_isOneMore 187 = .ok (.aload_n 0, 1) := by decide +kernel
theorem dX12_isOneMore_188 : decode cX12_isOneMore 188 = .ok (.iload 5, 2) := by decide +kernel
theorem dX12_isOneMore_190 : decode cX12_isOneMore 190 = .ok (.invokevirtual 461, 3) := by decide +kernel
theorem dX12_isOneMore_193 : decode cX12_isOneMore 193 = .ok (.istore 4, 2) := by decide +kernel
theorem dX12_isOneMore_195 : decode cX12_isOneMore 195 = .ok (.aload_n 0, 1) := by decide +kernel
theorem dX12_isOneMore_196 : decode cX12_isOneMore 196 = .ok (.getfield 142, 3) := by decide +kernel
theorem dX12_isOneMore_199 : decode cX12_isOneMore 199 = .ok (.iload 5, 2) := by decide +kernel
theorem dX12_isOneMore_201 : decode cX12_isOneMore 201 = .ok (.aload_n 0, 1) := by decide +kernel
theorem dX12_isOneMore_202 : decode cX12_isOneMore 202 = .ok (.getfield 142, 3) := by decide +kernel
theorem dX12_isOneMore_205 : decode cX12_isOneMore 205 = .ok (.iload 5, 2) := by decide +kernel
theorem dX12_isOneMore_207 : decode cX12_isOneMore 207 = .ok (.baload, 1) := by decide +kernel
theorem dX12_isOneMore_208 : decode cX12_isOneMore 208 = .ok (.ifCond .ne 7, 3) := by decide +kernel
theorem dX12_isOneMore_211 : decode cX12_isOneMore 211 = .ok (.iconst 1, 1) := by decide +kernel
theorem dX12_isOneMore_212 : decode cX12_isOneMore 212 = .ok (.goto 4, 3) := by decide +kernel
theorem dX12_isOneMore_215 : decode cX12_isOneMore 215 = .ok (.iconst 0, 1) := by decide +kernel
theorem dX12_isOneMore_216 : decode cX12_isOneMore 216 = .ok (.bastore, 1) := by decide +kernel
theorem dX12_isOneMore_217 : decode cX12_isOneMore 217 = .ok (.goto (-64), 3) := by decide +kernel
theorem dX12_isOneMore_220 : decode cX12_isOneMore 220 = .ok (.iconst 1, 1) := by decide +kernel
theorem dX12_isOneMore_221 : decode cX12_isOneMore 221 = .ok (.ireturn, 1) := by decide +kernel
theorem dX12_cutting_0 : decode cX12_cutting 0 = .ok (.aload_n 0, 1) := by decide +kernel
theorem dX12_cutting_1 : decode cX12_cutting 1 = .ok (.iload_n 1, 1) := by decide +kernel
theorem dX12_cutting_2 : decode cX12_cutting 2 = .ok (.i2l, 1) := by decide +kernel
theorem dX12_cutting_3 : decode cX12_cutting 3 = .ok (.invokevirtual 496, 3) := by decide +kernel
theorem dX12_cutting_6 : decode cX12_cutting 6 = .ok (.ifCond .eq 17, 3) := by decide +kernel
theorem dX12_cutting_9 : decode cX12_cutting 9 = .ok (.aload_n 0, 1) := by decide +kernel
theorem dX12_cutting_10 : decode cX12_cutting 10 = .ok (.iload_n 2, 1) := by decide +kernel
theorem dX12_cutting_11 : decode cX12_cutting 11 = .ok (.i2l, 1) := by decide +kernel
theorem dX12_cutting_12 : decode cX12_cutting 12 = .ok (.invokevirtual 496, 3) := by decide +kernel
theorem dX12_cutting_15 : decode cX12_cutting 15 = .ok (.ifCond .eq 8, 3) := by decide +kernel
theorem dX12_cutting_18 : decode cX12_cutting 18 = .ok (.iload_n 1, 1) := by decide +kernel
theorem dX12_cutting_19 : decode cX12_cutting 19 = .ok (.iload_n 2, 1) := by decide +kernel
theorem dX12_cutting_20 : decode cX12_cutting 20 = .ok (.if_icmp .ne 5, 3) := by decide +kernel
theorem dX12_cutting_23 : decode cX12_cutting 23 = .ok (.iconst (-1), 1) := by decide +kernel
theorem dX12_cutting_24 : decode cX12_cutting 24 = .ok (.ireturn, 1) := by decide +kernel
theorem dX12_cutting_25 : decode cX12_cutting 25 = .ok (.iconst 0, 1) := by decide +kernel
theorem dX12_cutting_26 : decode cX12_cutting 26 = .ok (.istore_n 3, 1) := by decide +kernel
theorem dX12_cutting_27 : decode cX12_cutting 27 = .ok (.iload_n 3, 1) := by decide +kernel
theorem dX12_cutting_28 : decode cX12_cutting 28 = .ok (.bipush 12, 2) := by decide +kernel
theorem dX12_cutting_30 : decode cX12_cutting 30 = .ok (.if_icmp .ge 16, 3) := by decide +kernel
theorem dX12_cutting_33 : decode cX12_cutting 33 = .ok (.aload_n 0, 1) := by decide +kernel
theorem dX12_cutting_34 : decode cX12_cutting 34 = .ok (.getfield 142, 3) := by decide +kernel
theorem dX12_cutting_37 : decode cX12_cutting 37 = .ok (.iload_n 3, 1) := by decide +kernel
theorem dX12_cutting_38 : decode cX12_cutting 38 = .ok (.iconst 0, 1) := by decide +kernel
theorem dX12_cutting_39 : decode cX12_cutting 39 = .ok (.bastore, 1) := by decide +kernel
theorem dX12_cutting_40 : decode cX12_cutting 40 = .ok (.iinc 3 1, 3) := by decide +kernel
theorem dX12_cutting_43 : decode cX12_cutting 43 = .ok (.goto (-16), 3) := by decide +kernel
theorem dX12_cutting_46 : decode cX12_cutting 46 = .ok (.iconst 0, 1) := by decide +kernel
theorem dX12_cutting_47 : decode cX12_cutting 47 = .ok (.istore_n 3, 1) := by decide +kernel
theorem dX12_cutting_48 : decode cX12_cutting 48 = .ok (.aload_n 0, 1) := by decide +kernel
theorem dX12_cutting_49 : decode cX12_cutting 49 = .ok (.iload_n 1, 1) := by decide +kernel
theorem dX12_cutting_50 : decode cX12_cutting 50 = .ok (.iload_n 2, 1) := by decide +kernel
theorem dX12_cutting_51 : decode cX12_cutting 51 = .ok (.invokevirtual 544, 3) := by decide +kernel
theorem dX12_cutting_54 : decode cX12_cutting 54 = .ok (.ifCond .eq 9, 3) := by decide +kernel
