theorem dX2_init_0 : decode cX2_init 0 = .ok (.aload_n 0, 1) := by decide +kernel
theorem dX2_init_1 : decode cX2_init 1 = .ok (.invokespecial 1, 3) := by decide +kernel
theorem dX2_init_4 : decode cX2_init 4 = .ok (.return_, 1) := by decide +kernel
theorem dX2_below_0 : decode cX2_below 0 = .ok (.aload_n 0, 1) := by decide +kernel
theorem dX2_below_1 : decode cX2_below 1 = .ok (.aload_n 0, 1) := by decide +kernel
theorem dX2_below_2 : decode cX2_below 2 = .ok (.getfield 7, 3) := by decide +kernel
theorem dX2_below_5 : decode cX2_below 5 = .ok (.ldc 13, 2) := by decide +kernel
theorem dX2_below_7 : decode cX2_below 7 = .ok (.imul, 1) := by decide +kernel
theorem dX2_below_8 : decode cX2_below 8 = .ok (.sipush 12345, 3) := by decide +kernel
theorem dX2_below_11 : decode cX2_below 11 = .ok (.iadd, 1) := by decide +kernel
theorem dX2_below_12 : decode cX2_below 12 = .ok (.putfield 7, 3) := by decide +kernel
theorem dX2_below_15 : decode cX2_below 15 = .ok (.iload_n 1, 1) := by decide +kernel
theorem dX2_below_16 : decode cX2_below 16 = .ok (.iconst 1, 1) := by decide +kernel
theorem dX2_below_17 : decode cX2_below 17 = .ok (.if_icmp .ge 7, 3) := by decide +kernel
theorem dX2_below_20 : decode cX2_below 20 = .ok (.iconst 0, 1) := by decide +kernel
theorem dX2_below_21 : decode cX2_below 21 = .ok (.goto 12, 3) := by decide +kernel
theorem dX2_below_24 : decode cX2_below 24 = .ok (.aload_n 0, 1) := by decide +kernel
theorem dX2_below_25 : decode cX2_below 25 = .ok (.getfield 7, 3) := by decide +kernel
theorem dX2_below_28 : decode cX2_below 28 = .ok (.bipush 16, 2) := by decide +kernel
theorem dX2_below_30 : decode cX2_below 30 = .ok (.iushr, 1) := by decide +kernel
theorem dX2_below_31 : decode cX2_below 31 = .ok (.iload_n 1, 1) := by decide +kernel
theorem dX2_below_32 : decode cX2_below 32 = .ok (.irem, 1) := by decide +kernel
theorem dX2_below_33 : decode cX2_below 33 = .ok (.ireturn, 1) := by decide +kernel
