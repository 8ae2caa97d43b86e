theorem dX12_on_150 : decode cX12_on 150 = .ok (.goto (-52), 3) := by decide +kernel
theorem dX12_on_153 : decode cX12_on 153 = .ok (.aload_n 0, 1) := by decide +kernel
theorem dX12_on_154 : decode cX12_on 154 = .ok (.getfield 124, 3) := by decide +kernel
theorem dX12_on_157 : decode cX12_on 157 = .ok (.bipush 57, 2) := by decide +kernel
theorem dX12_on_159 : decode cX12_on 159 = .ok (.iconst 0, 1) := by decide +kernel
theorem dX12_on_160 : decode cX12_on 160 = .ok (.iastore, 1) := by decide +kernel
theorem dX12_on_161 : decode cX12_on 161 = .ok (.aload_n 0, 1) := by decide +kernel
theorem dX12_on_162 : decode cX12_on 162 = .ok (.iconst 0, 1) := by decide +kernel
theorem dX12_on_163 : decode cX12_on 163 = .ok (.putfield 391, 3) := by decide +kernel
theorem dX12_on_166 : decode cX12_on 166 = .ok (.iconst 1, 1) := by decide +kernel
theorem dX12_on_167 : decode cX12_on 167 = .ok (.ireturn, 1) := by decide +kernel
theorem dX12_status_0 : decode cX12_status 0 = .ok (.iload_n 1, 1) := by decide +kernel
theorem dX12_status_1 : decode cX12_status 1 = .ok (.i2l, 1) := by decide +kernel
theorem dX12_status_2 : decode cX12_status 2 = .ok (.lconst 0, 1) := by decide +kernel
theorem dX12_status_3 : decode cX12_status 3 = .ok (.ldc2_w 313, 3) := by decide +kernel
theorem dX12_status_6 : decode cX12_status 6 = .ok (.invokestatic 295, 3) := by decide +kernel
theorem dX12_status_9 : decode cX12_status 9 = .ok (.ifCond .eq 12, 3) := by decide +kernel
theorem dX12_status_12 : decode cX12_status 12 = .ok (.aload_n 0, 1) := by decide +kernel
theorem dX12_status_13 : decode cX12_status 13 = .ok (.getfield 17, 3) := by decide +kernel
theorem dX12_status_16 : decode cX12_status 16 = .ok (.iload_n 1, 1) := by decide +kernel
theorem dX12_status_17 : decode cX12_status 17 = .ok (.iaload, 1) := by decide +kernel
theorem dX12_status_18 : decode cX12_status 18 = .ok (.goto 4, 3) := by decide +kernel
theorem dX12_status_21 : decode cX12_status 21 = .ok (.iconst (-1), 1) := by decide +kernel
theorem dX12_status_22 : decode cX12_status 22 = .ok (.ireturn, 1) := by decide +kernel
