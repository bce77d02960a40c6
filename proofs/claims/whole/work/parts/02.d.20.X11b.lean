theorem dX11_sendDrawn_57 : decode cX11_sendDrawn 57 = .ok (.invokevirtual 143, 3) := by decide +kernel
theorem dX11_sendDrawn_60 : decode cX11_sendDrawn 60 = .ok (.ifCond .eq 25, 3) := by decide +kernel
theorem dX11_sendDrawn_63 : decode cX11_sendDrawn 63 = .ok (.aload_n 0, 1) := by decide +kernel
theorem dX11_sendDrawn_64 : decode cX11_sendDrawn 64 = .ok (.getfield 60, 3) := by decide +kernel
theorem dX11_sendDrawn_67 : decode cX11_sendDrawn 67 = .ok (.getfield 189, 3) := by decide +kernel
theorem dX11_sendDrawn_70 : decode cX11_sendDrawn 70 = .ok (.iload_n 1, 1) := by decide +kernel
theorem dX11_sendDrawn_71 : decode cX11_sendDrawn 71 = .ok (.iaload, 1) := by decide +kernel
theorem dX11_sendDrawn_72 : decode cX11_sendDrawn 72 = .ok (.ifCond .eq 13, 3) := by decide +kernel
theorem dX11_sendDrawn_75 : decode cX11_sendDrawn 75 = .ok (.aload_n 0, 1) := by decide +kernel
theorem dX11_sendDrawn_76 : decode cX11_sendDrawn 76 = .ok (.getfield 60, 3) := by decide +kernel
theorem dX11_sendDrawn_79 : decode cX11_sendDrawn 79 = .ok (.getfield 195, 3) := by decide +kernel
theorem dX11_sendDrawn_82 : decode cX11_sendDrawn 82 = .ok (.iload_n 1, 1) := by decide +kernel
theorem dX11_sendDrawn_83 : decode cX11_sendDrawn 83 = .ok (.iload_n 2, 1) := by decide +kernel
theorem dX11_sendDrawn_84 : decode cX11_sendDrawn 84 = .ok (.iastore, 1) := by decide +kernel
theorem dX11_sendDrawn_85 : decode cX11_sendDrawn 85 = .ok (.return_, 1) := by decide +kernel
theorem dX11_narrowed_0 : decode cX11_narrowed 0 = .ok (.iload_n 0, 1) := by decide +kernel
theorem dX11_narrowed_1 : decode cX11_narrowed 1 = .ok (.ifCond .ne 6, 3) := by decide +kernel
theorem dX11_narrowed_4 : decode cX11_narrowed 4 = .ok (.iload_n 1, 1) := by decide +kernel
theorem dX11_narrowed_5 : decode cX11_narrowed 5 = .ok (.i2b, 1) := by decide +kernel
theorem dX11_narrowed_6 : decode cX11_narrowed 6 = .ok (.ireturn, 1) := by decide +kernel
theorem dX11_narrowed_7 : decode cX11_narrowed 7 = .ok (.iload_n 0, 1) := by decide +kernel
theorem dX11_narrowed_8 : decode cX11_narrowed 8 = .ok (.iconst 1, 1) := by decide +kernel
theorem dX11_narrowed_9 : decode cX11_narrowed 9 = .ok (.if_icmp .ne 8, 3) := by decide +kernel
theorem dX11_narrowed_12 : decode cX11_narrowed 12 = .ok (.iload_n 1, 1) := by decide +kernel
theorem dX11_narrowed_13 : decode cX11_narrowed 13 = .ok (.i2s, 1) := by decide +kernel
theorem dX11_narrowed_14 : decode cX11_narrowed 14 = .ok (.goto 4, 3) := by decide +kernel
theorem dX11_narrowed_17 : decode cX11_narrowed 17 = .ok (.iload_n 1, 1) := by decide +kernel
theorem dX11_narrowed_18 : decode cX11_narrowed 18 = .ok (.ireturn, 1) := by decide +kernel
theorem dX11_divisor_0 : decode cX11_divisor 0 = .ok (.lload_n 0, 1) := by decide +kernel
theorem dX11_divisor_1 : decode cX11_divisor 1 = .ok (.lstore 4, 2) := by decide +kernel
theorem dX11_divisor_3 : decode cX11_divisor 3 = .ok (.lload_n 2, 1) := by decide +kernel
theorem dX11_divisor_4 : decode cX11_divisor 4 = .ok (.lstore 6, 2) := by decide +kernel
theorem dX11_divisor_6 : decode cX11_divisor 6 = .ok (.iconst 0, 1) := by decide +kernel
theorem dX11_divisor_7 : decode cX11_divisor 7 = .ok (.istore 8, 2) := by decide +kernel
theorem dX11_divisor_9 : decode cX11_divisor 9 = .ok (.iload 8, 2) := by decide +kernel
theorem dX11_divisor_11 : decode cX11_divisor 11 = .ok (.bipush 100, 2) := by decide +kernel
theorem dX11_divisor_13 : decode cX11_divisor 13 = .ok (.if_icmp .ge 31, 3) := by decide +kernel
theorem dX11_divisor_16 : decode cX11_divisor 16 = .ok (.lload 6, 2) := by decide +kernel
theorem dX11_divisor_18 : decode cX11_divisor 18 = .ok (.lconst 0, 1) := by decide +kernel
theorem dX11_divisor_19 : decode cX11_divisor 19 = .ok (.lcmp, 1) := by decide +kernel
theorem dX11_divisor_20 : decode cX11_divisor 20 = .ok (.ifCond .eq 24, 3) := by decide +kernel
theorem dX11_divisor_23 : decode cX11_divisor 23 = .ok (.lload 4, 2) := by decide +kernel
theorem dX11_divisor_25 : decode cX11_divisor 25 = .ok (.lload 6, 2) := by decide +kernel
theorem dX11_divisor_27 : decode cX11_divisor 27 = .ok (.lrem, 1) := by decide +kernel
theorem dX11_divisor_28 : decode cX11_divisor 28 = .ok (.lstore 9, 2) := by decide +kernel
theorem dX11_divisor_30 : decode cX11_divisor 30 = .ok (.lload 6, 2) := by decide +kernel
theorem dX11_divisor_32 : decode cX11_divisor 32 = .ok (.lstore 4, 2) := by decide +kernel
theorem dX11_divisor_34 : decode cX11_divisor 34 = .ok (.lload 9, 2) := by decide +kernel
theorem dX11_divisor_36 : decode cX11_divisor 36 = .ok (.lstore 6, 2) := by decide +kernel
theorem dX11_divisor_38 : decode cX11_divisor 38 = .ok (.iinc 8 1, 3) := by decide +kernel
theorem dX11_divisor_41 : decode cX11_divisor 41 = .ok (.goto (-32), 3) := by decide +kernel
theorem dX11_divisor_44 : decode cX11_divisor 44 = .ok (.lload 4, 2) := by decide +kernel
theorem dX11_divisor_46 : decode cX11_divisor 46 = .ok (.lreturn, 1) := by decide +kernel
