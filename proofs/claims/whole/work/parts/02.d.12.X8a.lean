theorem dX8_init_0 : decode cX8_init 0 = .ok (.aload_n 0, 1) := by decide +kernel
theorem dX8_init_1 : decode cX8_init 1 = .ok (.invokespecial 3, 3) := by decide +kernel
theorem dX8_init_4 : decode cX8_init 4 = .ok (.aload_n 0, 1) := by decide +kernel
theorem dX8_init_5 : decode cX8_init 5 = .ok (.bipush 12, 2) := by decide +kernel
theorem dX8_init_7 : decode cX8_init 7 = .ok (.newarray .long, 2) := by decide +kernel
theorem dX8_init_9 : decode cX8_init 9 = .ok (.putfield 9, 3) := by decide +kernel
theorem dX8_init_12 : decode cX8_init 12 = .ok (.return_, 1) := by decide +kernel
theorem dX8_clear_0 : decode cX8_clear 0 = .ok (.aload_n 0, 1) := by decide +kernel
theorem dX8_clear_1 : decode cX8_clear 1 = .ok (.iconst 0, 1) := by decide +kernel
theorem dX8_clear_2 : decode cX8_clear 2 = .ok (.putfield 15, 3) := by decide +kernel
theorem dX8_clear_5 : decode cX8_clear 5 = .ok (.return_, 1) := by decide +kernel
theorem dX8_add_0 : decode cX8_add 0 = .ok (.aload_n 0, 1) := by decide +kernel
theorem dX8_add_1 : decode cX8_add 1 = .ok (.getfield 15, 3) := by decide +kernel
theorem dX8_add_4 : decode cX8_add 4 = .ok (.bipush 12, 2) := by decide +kernel
theorem dX8_add_6 : decode cX8_add 6 = .ok (.if_icmp .ge 23, 3) := by decide +kernel
theorem dX8_add_9 : decode cX8_add 9 = .ok (.aload_n 0, 1) := by decide +kernel
theorem dX8_add_10 : decode cX8_add 10 = .ok (.getfield 9, 3) := by decide +kernel
theorem dX8_add_13 : decode cX8_add 13 = .ok (.aload_n 0, 1) := by decide +kernel
theorem dX8_add_14 : decode cX8_add 14 = .ok (.getfield 15, 3) := by decide +kernel
theorem dX8_add_17 : decode cX8_add 17 = .ok (.lload_n 1, 1) := by decide +kernel
theorem dX8_add_18 : decode cX8_add 18 = .ok (.lastore, 1) := by decide +kernel
theorem dX8_add_19 : decode cX8_add 19 = .ok (.aload_n 0, 1) := by decide +kernel
theorem dX8_add_20 : decode cX8_add 20 = .ok (.dup, 1) := by decide +kernel
theorem dX8_add_21 : decode cX8_add 21 = .ok (.getfield 15, 3) := by decide +kernel
theorem dX8_add_24 : decode cX8_add 24 = .ok (.iconst 1, 1) := by decide +kernel
theorem dX8_add_25 : decode cX8_add 25 = .ok (.iadd, 1) := by decide +kernel
theorem dX8_add_26 : decode cX8_add 26 = .ok (.putfield 15, 3) := by decide +kernel
theorem dX8_add_29 : decode cX8_add 29 = .ok (.return_, 1) := by decide +kernel
theorem dX8_tell_0 : decode cX8_tell 0 = .ok (.aload_n 0, 1) := by decide +kernel
theorem dX8_tell_1 : decode cX8_tell 1 = .ok (.invokevirtual 19, 3) := by decide +kernel
theorem dX8_tell_4 : decode cX8_tell 4 = .ok (.aload_n 0, 1) := by decide +kernel
theorem dX8_tell_5 : decode cX8_tell 5 = .ok (.lload_n 1, 1) := by decide +kernel
theorem dX8_tell_6 : decode cX8_tell 6 = .ok (.invokevirtual 22, 3) := by decide +kernel
theorem dX8_tell_9 : decode cX8_tell 9 = .ok (.return_, 1) := by decide +kernel
theorem dX8_tell__0 : decode cX8_tell_ 0 = .ok (.aload_n 0, 1) := by decide +kernel
theorem dX8_tell__1 : decode cX8_tell_ 1 = .ok (.invokevirtual 19, 3) := by decide +kernel
theorem dX8_tell__4 : decode cX8_tell_ 4 = .ok (.aload_n 0, 1) := by decide +kernel
theorem dX8_tell__5 : decode cX8_tell_ 5 = .ok (.lload_n 1, 1) := by decide +kernel
theorem dX8_tell__6 : decode cX8_tell_ 6 = .ok (.invokevirtual 22, 3) := by decide +kernel
theorem dX8_tell__9 : decode cX8_tell_ 9 = .ok (.aload_n 0, 1) := by decide +kernel
theorem dX8_tell__10 : decode cX8_tell_ 10 = .ok (.lload_n 3, 1) := by decide +kernel
theorem dX8_tell__11 : decode cX8_tell_ 11 = .ok (.invokevirtual 22, 3) := by decide +kernel
theorem dX8_tell__14 : decode cX8_tell_ 14 = .ok (.return_, 1) := by decide +kernel
theorem dX10_init_0 : decode cX10_init 0 = .ok (.aload_n 0, 1) := by decide +kernel
theorem dX10_init_1 : decode cX10_init 1 = .ok (.invokespecial 3, 3) := by decide +kernel
theorem dX10_init_4 : decode cX10_init 4 = .ok (.aload_n 0, 1) := by decide +kernel
theorem dX10_init_5 : decode cX10_init 5 = .ok (.bipush 80, 2) := by decide +kernel
theorem dX10_init_7 : decode cX10_init 7 = .ok (.newarray .char, 2) := by decide +kernel
theorem dX10_init_9 : decode cX10_init 9 = .ok (.putfield 9, 3) := by decide +kernel
theorem dX10_init_12 : decode cX10_init 12 = .ok (.return_, 1) := by decide +kernel
theorem dX10_add_0 : decode cX10_add 0 = .ok (.aload_n 0, 1) := by decide +kernel
theorem dX10_add_1 : decode cX10_add 1 = .ok (.getfield 15, 3) := by decide +kernel
theorem dX10_add_4 : decode cX10_add 4 = .ok (.iconst 4, 1) := by decide +kernel
theorem dX10_add_5 : decode cX10_add 5 = .ok (.iadd, 1) := by decide +kernel
theorem dX10_add_6 : decode cX10_add 6 = .ok (.bipush 80, 2) := by decide +kernel
theorem dX10_add_8 : decode cX10_add 8 = .ok (.if_icmp .le 5, 3) := by decide +kernel
theorem dX10_add_11 : decode cX10_add 11 = .ok (.iconst 0, 1) := by decide +kernel
theorem dX10_add_12 : decode cX10_add 12 = .ok (.ireturn, 1) := by decide +kernel
theorem dX10_add_13 : decode cX10_add 13 = .ok (.bipush 24, 2) := by decide +kernel
theorem dX10_add_15 : decode cX10_add 15 = .ok (.istore_n 2, 1) := by decide +kernel
theorem dX10_add_16 : decode cX10_add 16 = .ok (.iload_n 2, 1) := by decide +kernel
theorem dX10_add_17 : decode cX10_add 17 = .ok (.ifCond .lt 36, 3) := by decide +kernel
theorem dX10_add_20 : decode cX10_add 20 = .ok (.aload_n 0, 1) := by decide +kernel
theorem dX10_add_21 : decode cX10_add 21 = .ok (.getfield 9, 3) := by decide +kernel
theorem dX10_add_24 : decode cX10_add 24 = .ok (.aload_n 0, 1) := by decide +kernel
theorem dX10_add_25 : decode cX10_add 25 = .ok (.getfield 15, 3) := by decide +kernel
theorem dX10_add_28 : decode cX10_add 28 = .ok (.iload_n 1, 1) := by decide +kernel
theorem dX10_add_29 : decode cX10_add 29 = .ok (.iload_n 2, 1) := by decide +kernel
theorem dX10_add_30 : decode cX10_add 30 = .ok (.ishr, 1) := by decide +kernel
theorem dX10_add_31 : decode cX10_add 31 = .ok (.sipush 255, 3) := by decide +kernel
theorem dX10_add_34 : decode cX10_add 34 = .ok (.iand, 1) := by decide +kernel
theorem dX10_add_35 : decode cX10_add 35 = .ok (.i2c, 1) := by decide +kernel
theorem dX10_add_36 : decode cX10_add 36 = .ok (.castore, 1) := by decide +kernel
theorem dX10_add_37 : decode cX10_add 37 = .ok (.aload_n 0, 1) := by decide +kernel
theorem dX10_add_38 : decode cX10_add 38 = .ok (.dup, 1) := by decide +kernel
theorem dX10_add_39 : decode cX10_add 39 = .ok (.getfield 15, 3) := by decide +kernel
theorem dX10_add_42 : decode cX10_add 42 = .ok (.iconst 1, 1) := by decide +kernel
theorem dX10_add_43 : decode cX10_add 43 = .ok (.iadd, 1) := by decide +kernel
theorem dX10_add_44 : decode cX10_add 44 = .ok (.putfield 15, 3) := by decide +kernel
theorem dX10_add_47 : decode cX10_add 47 = .ok (.iinc 2 (-8), 3) := by decide +kernel
theorem dX10_add_50 : decode cX10_add 50 = .ok (.goto (-34), 3) := by decide +kernel
theorem dX10_add_53 : decode cX10_add 53 = .ok (.iconst 1, 1) := by decide +kernel
theorem dX10_add_54 : decode cX10_add 54 = .ok (.ireturn, 1) := by decide +kernel
theorem dX10_cut_0 : decode cX10_cut 0 = .ok (.iload_n 1, 1) := by decide +kernel
theorem dX10_cut_1 : decode cX10_cut 1 = .ok (.ifCond .lt 11, 3) := by decide +kernel
theorem dX10_cut_4 : decode cX10_cut 4 = .ok (.iload_n 1, 1) := by decide +kernel
theorem dX10_cut_5 : decode cX10_cut 5 = .ok (.aload_n 0, 1) := by decide +kernel
theorem dX10_cut_6 : decode cX10_cut 6 = .ok (.getfield 15, 3) := by decide +kernel
theorem dX10_cut_9 : decode cX10_cut 9 = .ok (.if_icmp .le 5, 3) := by decide +kernel
theorem dX10_cut_12 : decode cX10_cut 12 = .ok (.iconst 0, 1) := by decide +kernel
theorem dX10_cut_13 : decode cX10_cut 13 = .ok (.ireturn, 1) := by decide +kernel
theorem dX10_cut_14 : decode cX10_cut 14 = .ok (.aload_n 0, 1) := by decide +kernel
theorem dX10_cut_15 : decode cX10_cut 15 = .ok (.iload_n 1, 1) := by decide +kernel
theorem dX10_cut_16 : decode cX10_cut 16 = .ok (.putfield 15, 3) := by decide +kernel
theorem dX10_cut_19 : decode cX10_cut 19 = .ok (.iconst 1, 1) := by decide +kernel
theorem dX10_cut_20 : decode cX10_cut 20 = .ok (.ireturn, 1) := by decide +kernel
theorem dX10_signAt_0 : decode cX10_signAt 0 = .ok (.iload_n 1, 1) := by decide +kernel
theorem dX10_signAt_1 : decode cX10_signAt 1 = .ok (.ifCond .lt 25, 3) := by decide +kernel
theorem dX10_signAt_4 : decode cX10_signAt 4 = .ok (.iload_n 1, 1) := by decide +kernel
theorem dX10_signAt_5 : decode cX10_signAt 5 = .ok (.aload_n 0, 1) := by decide +kernel
theorem dX10_signAt_6 : decode cX10_signAt 6 = .ok (.getfield 15, 3) := by decide +kernel
theorem dX10_signAt_9 : decode cX10_signAt 9 = .ok (.if_icmp .ge 17, 3) := by decide +kernel
theorem dX10_signAt_12 : decode cX10_signAt 12 = .ok (.iload_n 1, 1) := by decide +kernel
theorem dX10_signAt_13 : decode cX10_signAt 13 = .ok (.iload_n 2, 1) := by decide +kernel
theorem dX10_signAt_14 : decode cX10_signAt 14 = .ok (.if_icmp .ge 12, 3) := by decide +kernel
theorem dX10_signAt_17 : decode cX10_signAt 17 = .ok (.aload_n 0, 1) := by decide +kernel
theorem dX10_signAt_18 : decode cX10_signAt 18 = .ok (.getfield 9, 3) := by decide +kernel
theorem dX10_signAt_21 : decode cX10_signAt 21 = .ok (.iload_n 1, 1) := by decide +kernel
theorem dX10_signAt_22 : decode cX10_signAt 22 = .ok (.caload, 1) := by decide +kernel
theorem dX10_signAt_23 : decode cX10_signAt 23 = .ok (.goto 4, 3) := by decide +kernel
theorem dX10_signAt_26 : decode cX10_signAt 26 = .ok (.iconst (-1), 1) := by decide +kernel
theorem dX10_signAt_27 : decode cX10_signAt 27 = .ok (.ireturn, 1) := by decide +kernel
theorem dX5_init_0 : decode cX5_init 0 = .ok (.aload_n 0, 1) := by decide +kernel
theorem dX5_init_1 : decode cX5_init 1 = .ok (.invokespecial 3, 3) := by decide +kernel
theorem dX5_init_4 : decode cX5_init 4 = .ok (.aload_n 0, 1) := by decide +kernel
theorem dX5_init_5 : decode cX5_init 5 = .ok (.iconst 1, 1) := by decide +kernel
theorem dX5_init_6 : decode cX5_init 6 = .ok (.putfield 9, 3) := by decide +kernel
theorem dX5_init_9 : decode cX5_init 9 = .ok (.aload_n 0, 1) := by decide +kernel
theorem dX5_init_10 : decode cX5_init 10 = .ok (.bipush 12, 2) := by decide +kernel
theorem dX5_init_12 : decode cX5_init 12 = .ok (.newarray .int, 2) := by decide +kernel
theorem dX5_init_14 : decode cX5_init 14 = .ok (.putfield 15, 3) := by decide +kernel
theorem dX5_init_17 : decode cX5_init 17 = .ok (.aload_n 0, 1) := by decide +kernel
theorem dX5_init_18 : decode cX5_init 18 = .ok (.bipush 12, 2) := by decide +kernel
theorem dX5_init_20 : decode cX5_init 20 = .ok (.newarray .int, 2) := by decide +kernel
theorem dX5_init_22 : decode cX5_init 22 = .ok (.putfield 19, 3) := by decide +kernel
theorem dX5_init_25 : decode cX5_init 25 = .ok (.aload_n 0, 1) := by decide +kernel
theorem dX5_init_26 : decode cX5_init 26 = .ok (.bipush 12, 2) := by decide +kernel
theorem dX5_init_28 : decode cX5_init 28 = .ok (.newarray .int, 2) := by decide +kernel
theorem dX5_init_30 : decode cX5_init 30 = .ok (.putfield 22, 3) := by decide +kernel
theorem dX5_init_33 : decode cX5_init 33 = .ok (.aload_n 0, 1) := by decide +kernel
theorem dX5_init_34 : decode cX5_init 34 = .ok (.bipush 12, 2) := by decide +kernel
theorem dX5_init_36 : decode cX5_init 36 = .ok (.newarray .int, 2) := by decide +kernel
theorem dX5_init_38 : decode cX5_init 38 = .ok (.putfield 25, 3) := by decide +kernel
theorem dX5_init_41 : decode cX5_init 41 = .ok (.return_, 1) := by decide +kernel
theorem dX5_has_0 : decode cX5_has 0 = .ok (.iload_n 1, 1) := by decide +kernel
theorem dX5_has_1 : decode cX5_has 1 = .ok (.ifCond .lt 15, 3) := by decide +kernel
theorem dX5_has_4 : decode cX5_has 4 = .ok (.iload_n 1, 1) := by decide +kernel
theorem dX5_has_5 : decode cX5_has 5 = .ok (.aload_n 0, 1) := by decide +kernel
theorem dX5_has_6 : decode cX5_has 6 = .ok (.getfield 9, 3) := by decide +kernel
theorem dX5_has_9 : decode cX5_has 9 = .ok (.if_icmp .ge 7, 3) := by decide +kernel
theorem dX5_has_12 : decode cX5_has 12 = .ok (.iconst 1, 1) := by decide +kernel
theorem dX5_has_13 : decode cX5_has 13 = .ok (.goto 4, 3) := by decide +kernel
theorem dX5_has_16 : decode cX5_has 16 = .ok (.iconst 0, 1) := by decide +kernel
theorem dX5_has_17 : decode cX5_has 17 = .ok (.ireturn, 1) := by decide +kernel
theorem dX5_read_0 : decode cX5_read 0 = .ok (.iconst 0, 1) := by decide +kernel
theorem dX5_read_1 : decode cX5_read 1 = .ok (.istore_n 2, 1) := by decide +kernel
theorem dX5_read_2 : decode cX5_read 2 = .ok (.iconst 0, 1) := by decide +kernel
theorem dX5_read_3 : decode cX5_read 3 = .ok (.istore_n 3, 1) := by decide +kernel
theorem dX5_read_4 : decode cX5_read 4 = .ok (.iconst 0, 1) := by decide +kernel
theorem dX5_read_5 : decode cX5_read 5 = .ok (.istore 4, 2) := by decide +kernel
theorem dX5_read_7 : decode cX5_read 7 = .ok (.iload 4, 2) := by decide +kernel
theorem dX5_read_9 : decode cX5_read 9 = .ok (.aload_n 1, 1) := by decide +kernel
theorem dX5_read_10 : decode cX5_read 10 = .ok (.getfield 28, 3) := by decide +kernel
theorem dX5_read_13 : decode cX5_read 13 = .ok (.if_icmp .ge 114, 3) := by decide +kernel
theorem dX5_read_16 : decode cX5_read 16 = .ok (.aload_n 1, 1) := by decide +kernel
theorem dX5_read_17 : decode cX5_read 17 = .ok (.getfield 33, 3) := by decide +kernel
theorem dX5_read_20 : decode cX5_read 20 = .ok (.iload 4, 2) := by decide +kernel
theorem dX5_read_22 : decode cX5_read 22 = .ok (.caload, 1) := by decide +kernel
theorem dX5_read_23 : decode cX5_read 23 = .ok (.istore 5, 2) := by decide +kernel
theorem dX5_read_25 : decode cX5_read 25 = .ok (.iload_n 2, 1) := by decide +kernel
theorem dX5_read_26 : decode cX5_read 26 = .ok (.iconst 1, 1) := by decide +kernel
theorem dX5_read_27 : decode cX5_read 27 = .ok (.if_icmp .ne 21, 3) := by decide +kernel
theorem dX5_read_30 : decode cX5_read 30 = .ok (.iload 5, 2) := by decide +kernel
theorem dX5_read_32 : decode cX5_read 32 = .ok (.bipush 124, 2) := by decide +kernel
theorem dX5_read_34 : decode cX5_read 34 = .ok (.if_icmp .ne 14, 3) := by decide +kernel
theorem dX5_read_37 : decode cX5_read 37 = .ok (.iload_n 3, 1) := by decide +kernel
theorem dX5_read_38 : decode cX5_read 38 = .ok (.bipush 12, 2) := by decide +kernel
theorem dX5_read_40 : decode cX5_read 40 = .ok (.if_icmp .ge 8, 3) := by decide +kernel
theorem dX5_read_43 : decode cX5_read 43 = .ok (.iconst 2, 1) := by decide +kernel
theorem dX5_read_44 : decode cX5_read 44 = .ok (.istore_n 2, 1) := by decide +kernel
theorem dX5_read_45 : decode cX5_read 45 = .ok (.goto 76, 3) := by decide +kernel
theorem dX5_read_48 : decode cX5_read 48 = .ok (.iload 5, 2) := by decide +kernel
theorem dX5_read_50 : decode cX5_read 50 = .ok (.invokestatic 37, 3) := by decide +kernel
theorem dX5_read_53 : decode cX5_read 53 = .ok (.ifCond .ne 6, 3) := by decide +kernel
theorem dX5_read_56 : decode cX5_read 56 = .ok (.iload 4, 2) := by decide +kernel
theorem dX5_read_58 : decode cX5_read 58 = .ok (.ireturn, 1) := by decide +kernel
theorem dX5_read_59 : decode cX5_read 59 = .ok (.iload_n 2, 1) := by decide +kernel
theorem dX5_read_60 : decode cX5_read 60 = .ok (.iconst 2, 1) := by decide +kernel
theorem dX5_read_61 : decode cX5_read 61 = .ok (.if_icmp .ne 25, 3) := by decide +kernel
theorem dX5_read_64 : decode cX5_read 64 = .ok (.iload_n 3, 1) := by decide +kernel
theorem dX5_read_65 : decode cX5_read 65 = .ok (.ifCond .le 21, 3) := by decide +kernel
theorem dX5_read_68 : decode cX5_read 68 = .ok (.aload_n 0, 1) := by decide +kernel
theorem dX5_read_69 : decode cX5_read 69 = .ok (.getfield 25, 3) := by decide +kernel
theorem dX5_read_72 : decode cX5_read 72 = .ok (.iload_n 3, 1) := by decide +kernel
theorem dX5_read_73 : decode cX5_read 73 = .ok (.iconst 1, 1) := by decide +kernel
theorem dX5_read_74 : decode cX5_read 74 = .ok (.isub, 1) := by decide +kernel
theorem dX5_read_75 : decode cX5_read 75 = .ok (.iload 5, 2) := by decide +kernel
theorem dX5_read_77 : decode cX5_read 77 = .ok (.bipush 48, 2) := by decide +kernel
theorem dX5_read_79 : decode cX5_read 79 = .ok (.isub, 1) := by decide +kernel
theorem dX5_read_80 : decode cX5_read 80 = .ok (.iastore, 1) := by decide +kernel
theorem dX5_read_81 : decode cX5_read 81 = .ok (.iconst 0, 1) := by decide +kernel
theorem dX5_read_82 : decode cX5_read 82 = .ok (.istore_n 2, 1) := by decide +kernel
theorem dX5_read_83 : decode cX5_read 83 = .ok (.goto 38, 3) := by decide +kernel
theorem dX5_read_86 : decode cX5_read 86 = .ok (.iload_n 3, 1) := by decide +kernel
theorem dX5_read_87 : decode cX5_read 87 = .ok (.bipush 12, 2) := by decide +kernel
theorem dX5_read_89 : decode cX5_read 89 = .ok (.if_icmp .ge 29, 3) := by decide +kernel
theorem dX5_read_92 : decode cX5_read 92 = .ok (.aload_n 0, 1) := by decide +kernel
theorem dX5_read_93 : decode cX5_read 93 = .ok (.getfield 22, 3) := by decide +kernel
theorem dX5_read_96 : decode cX5_read 96 = .ok (.iload_n 3, 1) := by decide +kernel
theorem dX5_read_97 : decode cX5_read 97 = .ok (.iload 5, 2) := by decide +kernel
theorem dX5_read_99 : decode cX5_read 99 = .ok (.bipush 48, 2) := by decide +kernel
theorem dX5_read_101 : decode cX5_read 101 = .ok (.isub, 1) := by decide +kernel
theorem dX5_read_102 : decode cX5_read 102 = .ok (.iastore, 1) := by decide +kernel
theorem dX5_read_103 : decode cX5_read 103 = .ok (.aload_n 0, 1) := by decide +kernel
theorem dX5_read_104 : decode cX5_read 104 = .ok (.getfield 25, 3) := by decide +kernel
theorem dX5_read_107 : decode cX5_read 107 = .ok (.iload_n 3, 1) := by decide +kernel
theorem dX5_read_108 : decode cX5_read 108 = .ok (.iconst 0, 1) := by decide +kernel
theorem dX5_read_109 : decode cX5_read 109 = .ok (.iastore, 1) := by decide +kernel
theorem dX5_read_110 : decode cX5_read 110 = .ok (.iinc 3 1, 3) := by decide +kernel
theorem dX5_read_113 : decode cX5_read 113 = .ok (.iconst 1, 1) := by decide +kernel
theorem dX5_read_114 : decode cX5_read 114 = .ok (.istore_n 2, 1) := by decide +kernel
theorem dX5_read_115 : decode cX5_read 115 = .ok (.goto 6, 3) := by decide +kernel
theorem dX5_read_118 : decode cX5_read 118 = .ok (.iload 4, 2) := by decide +kernel
theorem dX5_read_120 : decode cX5_read 120 = .ok (.ireturn, 1) := by decide +kernel
theorem dX5_read_121 : decode cX5_read 121 = .ok (.iinc 4 1, 3) := by decide +kernel
theorem dX5_read_124 : decode cX5_read 124 = .ok (.goto (-117), 3) := by decide +kernel
theorem dX5_read_127 : decode cX5_read 127 = .ok (.iload_n 2, 1) := by decide +kernel
theorem dX5_read_128 : decode cX5_read 128 = .ok (.iconst 1, 1) := by decide +kernel
theorem dX5_read_129 : decode cX5_read 129 = .ok (.if_icmp .eq 8, 3) := by decide +kernel
theorem dX5_read_132 : decode cX5_read 132 = .ok (.aload_n 1, 1) := by decide +kernel
theorem dX5_read_133 : decode cX5_read 133 = .ok (.getfield 28, 3) := by decide +kernel
theorem dX5_read_136 : decode cX5_read 136 = .ok (.ireturn, 1) := by decide +kernel
theorem dX5_read_137 : decode cX5_read 137 = .ok (.aload_n 0, 1) := by decide +kernel
theorem dX5_read_138 : decode cX5_read 138 = .ok (.iload_n 3, 1) := by decide +kernel
theorem dX5_read_139 : decode cX5_read 139 = .ok (.putfield 9, 3) := by decide +kernel
theorem dX5_read_142 : decode cX5_read 142 = .ok (.aload_n 0, 1) := by decide +kernel
theorem dX5_read_143 : decode cX5_read 143 = .ok (.getfield 22, 3) := by decide +kernel
theorem dX5_read_146 : decode cX5_read 146 = .ok (.iconst 0, 1) := by decide +kernel
theorem dX5_read_147 : decode cX5_read 147 = .ok (.aload_n 0, 1) := by decide +kernel
theorem dX5_read_148 : decode cX5_read 148 = .ok (.getfield 15, 3) := by decide +kernel
theorem dX5_read_151 : decode cX5_read 151 = .ok (.iconst 0, 1) := by decide +kernel
theorem dX5_read_152 : decode cX5_read 152 = .ok (.bipush 12, 2) := by decide +kernel
theorem dX5_read_154 : decode cX5_read 154 = .ok (.invokestatic 41, 3) := by decide +kernel
theorem dX5_read_157 : decode cX5_read 157 = .ok (.aload_n 0, 1) := by decide +kernel
theorem dX5_read_158 : decode cX5_read 158 = .ok (.getfield 25, 3) := by decide +kernel
theorem dX5_read_161 : decode cX5_read 161 = .ok (.iconst 0, 1) := by decide +kernel
theorem dX5_read_162 : decode cX5_read 162 = .ok (.aload_n 0, 1) := by decide +kernel
theorem dX5_read_163 : decode cX5_read 163 = .ok (.getfield 19, 3) := by decide +kernel
theorem dX5_read_166 : decode cX5_read 166 = .ok (.iconst 0, 1) := by decide +kernel
theorem dX5_read_167 : decode cX5_read 167 = .ok (.bipush 12, 2) := by decide +kernel
theorem dX5_read_169 : decode cX5_read 169 = .ok (.invokestatic 41, 3) := by decide +kernel
theorem dX5_read_172 : decode cX5_read 172 = .ok (.iconst (-1), 1) := by decide +kernel
theorem dX5_read_173 : decode cX5_read 173 = .ok (.ireturn, 1) := by decide +kernel
theorem dX2_init_0 : decode cX2_init 0 = .ok (.aload_n 0, 1) := by decide +kernel
theorem dX2_init_1 : decode cX2_init 1 = .ok (.invokespecial 3, 3) := by decide +kernel
theorem dX2_init_4 : decode cX2_init 4 = .ok (.aload_n 0, 1) := by decide +kernel
theorem dX2_init_5 : decode cX2_init 5 = .ok (.bipush 8, 2) := by decide +kernel
theorem dX2_init_7 : decode cX2_init 7 = .ok (.newarray .int, 2) := by decide +kernel
theorem dX2_init_9 : decode cX2_init 9 = .ok (.putfield 9, 3) := by decide +kernel
theorem dX2_init_12 : decode cX2_init 12 = .ok (.aload_n 0, 1) := by decide +kernel
theorem dX2_init_13 : decode cX2_init 13 = .ok (.bipush 8, 2) := by decide +kernel
theorem dX2_init_15 : decode cX2_init 15 = .ok (.newarray .int, 2) := by decide +kernel
theorem dX2_init_17 : decode cX2_init 17 = .ok (.putfield 15, 3) := by decide +kernel
theorem dX2_init_20 : decode cX2_init 20 = .ok (.aload_n 0, 1) := by decide +kernel
theorem dX2_init_21 : decode cX2_init 21 = .ok (.bipush 8, 2) := by decide +kernel
theorem dX2_init_23 : decode cX2_init 23 = .ok (.newarray .int, 2) := by decide +kernel
theorem dX2_init_25 : decode cX2_init 25 = .ok (.putfield 18, 3) := by decide +kernel
theorem dX2_init_28 : decode cX2_init 28 = .ok (.aload_n 0, 1) := by decide +kernel
theorem dX2_init_29 : decode cX2_init 29 = .ok (.bipush 8, 2) := by decide +kernel
theorem dX2_init_31 : decode cX2_init 31 = .ok (.newarray .int, 2) := by decide +kernel
theorem dX2_init_33 : decode cX2_init 33 = .ok (.putfield 21, 3) := by decide +kernel
theorem dX2_init_36 : decode cX2_init 36 = .ok (.return_, 1) := by decide +kernel
theorem dX2_has_0 : decode cX2_has 0 = .ok (.iload_n 1, 1) := by decide +kernel
theorem dX2_has_1 : decode cX2_has 1 = .ok (.ifCond .lt 15, 3) := by decide +kernel
theorem dX2_has_4 : decode cX2_has 4 = .ok (.iload_n 1, 1) := by decide +kernel
theorem dX2_has_5 : decode cX2_has 5 = .ok (.aload_n 0, 1) := by decide +kernel
theorem dX2_has_6 : decode cX2_has 6 = .ok (.getfield 24, 3) := by decide +kernel
theorem dX2_has_9 : decode cX2_has 9 = .ok (.if_icmp .ge 7, 3) := by decide +kernel
theorem dX2_has_12 : decode cX2_has 12 = .ok (.iconst 1, 1) := by decide +kernel
theorem dX2_has_13 : decode cX2_has 13 = .ok (.goto 4, 3) := by decide +kernel
theorem dX2_has_16 : decode cX2_has 16 = .ok (.iconst 0, 1) := by decide +kernel
theorem dX2_has_17 : decode cX2_has 17 = .ok (.ireturn, 1) := by decide +kernel
theorem dX2_all_0 : decode cX2_all 0 = .ok (.iconst 1, 1) := by decide +kernel
theorem dX2_all_1 : decode cX2_all 1 = .ok (.aload_n 0, 1) := by decide +kernel
theorem dX2_all_2 : decode cX2_all 2 = .ok (.getfield 24, 3) := by decide +kernel
theorem dX2_all_5 : decode cX2_all 5 = .ok (.ishl, 1) := by decide +kernel
theorem dX2_all_6 : decode cX2_all 6 = .ok (.iconst 1, 1) := by decide +kernel
theorem dX2_all_7 : decode cX2_all 7 = .ok (.isub, 1) := by decide +kernel
theorem dX2_all_8 : decode cX2_all 8 = .ok (.ireturn, 1) := by decide +kernel
theorem dX2_read_0 : decode cX2_read 0 = .ok (.aload_n 1, 1) := by decide +kernel
theorem dX2_read_1 : decode cX2_read 1 = .ok (.getfield 28, 3) := by decide +kernel
theorem dX2_read_4 : decode cX2_read 4 = .ok (.ifCond .ne 5, 3) := by decide +kernel
theorem dX2_read_7 : decode cX2_read 7 = .ok (.iconst 0, 1) := by decide +kernel
theorem dX2_read_8 : decode cX2_read 8 = .ok (.ireturn, 1) := by decide +kernel
theorem dX2_read_9 : decode cX2_read 9 = .ok (.aload_n 0, 1) := by decide +kernel
theorem dX2_read_10 : decode cX2_read 10 = .ok (.getfield 24, 3) := by decide +kernel
theorem dX2_read_13 : decode cX2_read 13 = .ok (.istore_n 2, 1) := by decide +kernel
theorem dX2_read_14 : decode cX2_read 14 = .ok (.iconst 0, 1) := by decide +kernel
theorem dX2_read_15 : decode cX2_read 15 = .ok (.istore_n 3, 1) := by decide +kernel
theorem dX2_read_16 : decode cX2_read 16 = .ok (.iconst 1, 1) := by decide +kernel
theorem dX2_read_17 : decode cX2_read 17 = .ok (.istore 4, 2) := by decide +kernel
theorem dX2_read_19 : decode cX2_read 19 = .ok (.iload 4, 2) := by decide +kernel
theorem dX2_read_21 : decode cX2_read 21 = .ok (.ifCond .eq 56, 3) := by decide +kernel
theorem dX2_read_24 : decode cX2_read 24 = .ok (.iload_n 2, 1) := by decide +kernel
theorem dX2_read_25 : decode cX2_read 25 = .ok (.bipush 8, 2) := by decide +kernel
theorem dX2_read_27 : decode cX2_read 27 = .ok (.if_icmp .ge 50, 3) := by decide +kernel
theorem dX2_read_30 : decode cX2_read 30 = .ok (.aload_n 0, 1) := by decide +kernel
theorem dX2_read_31 : decode cX2_read 31 = .ok (.aload_n 1, 1) := by decide +kernel
theorem dX2_read_32 : decode cX2_read 32 = .ok (.iload_n 3, 1) := by decide +kernel
theorem dX2_read_33 : decode cX2_read 33 = .ok (.iload_n 2, 1) := by decide +kernel
theorem dX2_read_34 : decode cX2_read 34 = .ok (.invokevirtual 33, 3) := by decide +kernel
theorem dX2_read_37 : decode cX2_read 37 = .ok (.istore_n 3, 1) := by decide +kernel
theorem dX2_read_38 : decode cX2_read 38 = .ok (.iload_n 3, 1) := by decide +kernel
theorem dX2_read_39 : decode cX2_read 39 = .ok (.ifCond .ge 5, 3) := by decide +kernel
theorem dX2_read_42 : decode cX2_read 42 = .ok (.iload_n 3, 1) := by decide +kernel
theorem dX2_read_43 : decode cX2_read 43 = .ok (.ireturn, 1) := by decide +kernel
theorem dX2_read_44 : decode cX2_read 44 = .ok (.iinc 2 1, 3) := by decide +kernel
theorem dX2_read_47 : decode cX2_read 47 = .ok (.aload_n 1, 1) := by decide +kernel
theorem dX2_read_48 : decode cX2_read 48 = .ok (.iload_n 3, 1) := by decide +kernel
theorem dX2_read_49 : decode cX2_read 49 = .ok (.bipush 47, 2) := by decide +kernel
theorem dX2_read_51 : decode cX2_read 51 = .ok (.invokevirtual 37, 3) := by decide +kernel
theorem dX2_read_54 : decode cX2_read 54 = .ok (.bipush 59, 2) := by decide +kernel
theorem dX2_read_56 : decode cX2_read 56 = .ok (.if_icmp .ne 7, 3) := by decide +kernel
theorem dX2_read_59 : decode cX2_read 59 = .ok (.iconst 1, 1) := by decide +kernel
theorem dX2_read_60 : decode cX2_read 60 = .ok (.goto 4, 3) := by decide +kernel
theorem dX2_read_63 : decode cX2_read 63 = .ok (.iconst 0, 1) := by decide +kernel
theorem dX2_read_64 : decode cX2_read 64 = .ok (.istore 4, 2) := by decide +kernel
theorem dX2_read_66 : decode cX2_read 66 = .ok (.iload 4, 2) := by decide +kernel
theorem dX2_read_68 : decode cX2_read 68 = .ok (.ifCond .eq (-49), 3) := by decide +kernel
theorem dX2_read_71 : decode cX2_read 71 = .ok (.iinc 3 1, 3) := by decide +kernel
theorem dX2_read_74 : decode cX2_read 74 = .ok (.goto (-55), 3) := by decide +kernel
theorem dX2_read_77 : decode cX2_read 77 = .ok (.iload 4, 2) := by decide +kernel
theorem dX2_read_79 : decode cX2_read 79 = .ok (.ifCond .ne 11, 3) := by decide +kernel
theorem dX2_read_82 : decode cX2_read 82 = .ok (.iload_n 3, 1) := by decide +kernel
theorem dX2_read_83 : decode cX2_read 83 = .ok (.aload_n 1, 1) := by decide +kernel
theorem dX2_read_84 : decode cX2_read 84 = .ok (.getfield 28, 3) := by decide +kernel
theorem dX2_read_87 : decode cX2_read 87 = .ok (.if_icmp .ge 7, 3) := by decide +kernel
theorem dX2_read_90 : decode cX2_read 90 = .ok (.iconst (-1), 1) := by decide +kernel
theorem dX2_read_91 : decode cX2_read 91 = .ok (.iload_n 3, 1) := by decide +kernel
theorem dX2_read_92 : decode cX2_read 92 = .ok (.isub, 1) := by decide +kernel
theorem dX2_read_93 : decode cX2_read 93 = .ok (.ireturn, 1) := by decide +kernel
theorem dX2_read_94 : decode cX2_read 94 = .ok (.iload_n 2, 1) := by decide +kernel
theorem dX2_read_95 : decode cX2_read 95 = .ok (.aload_n 0, 1) := by decide +kernel
theorem dX2_read_96 : decode cX2_read 96 = .ok (.getfield 24, 3) := by decide +kernel
theorem dX2_read_99 : decode cX2_read 99 = .ok (.isub, 1) := by decide +kernel
theorem dX2_read_100 : decode cX2_read 100 = .ok (.istore 5, 2) := by decide +kernel
theorem dX2_read_102 : decode cX2_read 102 = .ok (.aload_n 0, 1) := by decide +kernel
theorem dX2_read_103 : decode cX2_read 103 = .ok (.aload_n 0, 1) := by decide +kernel
theorem dX2_read_104 : decode cX2_read 104 = .ok (.getfield 24, 3) := by decide +kernel
theorem dX2_read_107 : decode cX2_read 107 = .ok (.iload_n 2, 1) := by decide +kernel
theorem dX2_read_108 : decode cX2_read 108 = .ok (.invokevirtual 41, 3) := by decide +kernel
theorem dX2_read_111 : decode cX2_read 111 = .ok (.aload_n 0, 1) := by decide +kernel
theorem dX2_read_112 : decode cX2_read 112 = .ok (.iload_n 2, 1) := by decide +kernel
theorem dX2_read_113 : decode cX2_read 113 = .ok (.putfield 24, 3) := by decide +kernel
theorem dX2_read_116 : decode cX2_read 116 = .ok (.iload 5, 2) := by decide +kernel
theorem dX2_read_118 : decode cX2_read 118 = .ok (.ireturn, 1) := by decide +kernel
theorem dX2_readLine_0 : decode cX2_readLine 0 = .ok (.iload_n 2, 1) := by decide +kernel
theorem dX2_readLine_1 : decode cX2_readLine 1 = .ok (.istore 4, 2) := by decide +kernel
theorem dX2_readLine_3 : decode cX2_readLine 3 = .ok (.aload_n 1, 1) := by decide +kernel
theorem dX2_readLine_4 : decode cX2_readLine 4 = .ok (.iload 4, 2) := by decide +kernel
theorem dX2_readLine_6 : decode cX2_readLine 6 = .ok (.bipush 47, 2) := by decide +kernel
theorem dX2_readLine_8 : decode cX2_readLine 8 = .ok (.invokevirtual 37, 3) := by decide +kernel
theorem dX2_readLine_11 : decode cX2_readLine 11 = .ok (.istore 5, 2) := by decide +kernel
theorem dX2_readLine_13 : decode cX2_readLine 13 = .ok (.iload 5, 2) := by decide +kernel
theorem dX2_readLine_15 : decode cX2_readLine 15 = .ok (.invokestatic 45, 3) := by decide +kernel
theorem dX2_readLine_18 : decode cX2_readLine 18 = .ok (.ifCond .eq 9, 3) := by decide +kernel
theorem dX2_readLine_21 : decode cX2_readLine 21 = .ok (.iload_n 3, 1) := by decide +kernel
theorem dX2_readLine_22 : decode cX2_readLine 22 = .ok (.bipush 8, 2) := by decide +kernel
theorem dX2_readLine_24 : decode cX2_readLine 24 = .ok (.if_icmp .lt 8, 3) := by decide +kernel
theorem dX2_readLine_27 : decode cX2_readLine 27 = .ok (.iconst (-1), 1) := by decide +kernel
theorem dX2_readLine_28 : decode cX2_readLine 28 = .ok (.iload 4, 2) := by decide +kernel
theorem dX2_readLine_30 : decode cX2_readLine 30 = .ok (.isub, 1) := by decide +kernel
theorem dX2_readLine_31 : decode cX2_readLine 31 = .ok (.ireturn, 1) := by decide +kernel
theorem dX2_readLine_32 : decode cX2_readLine 32 = .ok (.iload 5, 2) := by decide +kernel
theorem dX2_readLine_34 : decode cX2_readLine 34 = .ok (.bipush 48, 2) := by decide +kernel
theorem dX2_readLine_36 : decode cX2_readLine 36 = .ok (.isub, 1) := by decide +kernel
theorem dX2_readLine_37 : decode cX2_readLine 37 = .ok (.istore 6, 2) := by decide +kernel
theorem dX2_readLine_39 : decode cX2_readLine 39 = .ok (.iinc 4 1, 3) := by decide +kernel
theorem dX2_readLine_42 : decode cX2_readLine 42 = .ok (.aload_n 1, 1) := by decide +kernel
theorem dX2_readLine_43 : decode cX2_readLine 43 = .ok (.iload 4, 2) := by decide +kernel
theorem dX2_readLine_45 : decode cX2_readLine 45 = .ok (.bipush 47, 2) := by decide +kernel
theorem dX2_readLine_47 : decode cX2_readLine 47 = .ok (.invokevirtual 37, 3) := by decide +kernel
theorem dX2_readLine_50 : decode cX2_readLine 50 = .ok (.istore 5, 2) := by decide +kernel
theorem dX2_readLine_52 : decode cX2_readLine 52 = .ok (.iload 5, 2) := by decide +kernel
theorem dX2_readLine_54 : decode cX2_readLine 54 = .ok (.invokestatic 45, 3) := by decide +kernel
theorem dX2_readLine_57 : decode cX2_readLine 57 = .ok (.ifCond .eq 19, 3) := by decide +kernel
theorem dX2_readLine_60 : decode cX2_readLine 60 = .ok (.bipush 10, 2) := by decide +kernel
theorem dX2_readLine_62 : decode cX2_readLine 62 = .ok (.iload 6, 2) := by decide +kernel
theorem dX2_readLine_64 : decode cX2_readLine 64 = .ok (.imul, 1) := by decide +kernel
theorem dX2_readLine_65 : decode cX2_readLine 65 = .ok (.iload 5, 2) := by decide +kernel
theorem dX2_readLine_67 : decode cX2_readLine 67 = .ok (.iadd, 1) := by decide +kernel
theorem dX2_readLine_68 : decode cX2_readLine 68 = .ok (.bipush 48, 2) := by decide +kernel
theorem dX2_readLine_70 : decode cX2_readLine 70 = .ok (.isub, 1) := by decide +kernel
theorem dX2_readLine_71 : decode cX2_readLine 71 = .ok (.istore 6, 2) := by decide +kernel
theorem dX2_readLine_73 : decode cX2_readLine 73 = .ok (.iinc 4 1, 3) := by decide +kernel
theorem dX2_readLine_76 : decode cX2_readLine 76 = .ok (.iload 6, 2) := by decide +kernel
theorem dX2_readLine_78 : decode cX2_readLine 78 = .ok (.iconst 4, 1) := by decide +kernel
theorem dX2_readLine_79 : decode cX2_readLine 79 = .ok (.bipush 13, 2) := by decide +kernel
theorem dX2_readLine_81 : decode cX2_readLine 81 = .ok (.invokestatic 49, 3) := by decide +kernel
theorem dX2_readLine_84 : decode cX2_readLine 84 = .ok (.ifCond .ne 7, 3) := by decide +kernel
theorem dX2_readLine_87 : decode cX2_readLine 87 = .ok (.iload 4, 2) := by decide +kernel
theorem dX2_readLine_89 : decode cX2_readLine 89 = .ok (.ineg, 1) := by decide +kernel
theorem dX2_readLine_90 : decode cX2_readLine 90 = .ok (.ireturn, 1) := by decide +kernel
theorem dX2_readLine_91 : decode cX2_readLine 91 = .ok (.aload_n 1, 1) := by decide +kernel
theorem dX2_readLine_92 : decode cX2_readLine 92 = .ok (.iload 4, 2) := by decide +kernel
theorem dX2_readLine_94 : decode cX2_readLine 94 = .ok (.bipush 47, 2) := by decide +kernel
theorem dX2_readLine_96 : decode cX2_readLine 96 = .ok (.invokevirtual 37, 3) := by decide +kernel
theorem dX2_readLine_99 : decode cX2_readLine 99 = .ok (.bipush 44, 2) := by decide +kernel
theorem dX2_readLine_101 : decode cX2_readLine 101 = .ok (.if_icmp .eq 8, 3) := by decide +kernel
theorem dX2_readLine_104 : decode cX2_readLine 104 = .ok (.iconst (-1), 1) := by decide +kernel
theorem dX2_readLine_105 : decode cX2_readLine 105 = .ok (.iload 4, 2) := by decide +kernel
theorem dX2_readLine_107 : decode cX2_readLine 107 = .ok (.isub, 1) := by decide +kernel
theorem dX2_readLine_108 : decode cX2_readLine 108 = .ok (.ireturn, 1) := by decide +kernel
theorem dX2_readLine_109 : decode cX2_readLine 109 = .ok (.iinc 4 1, 3) := by decide +kernel
theorem dX2_readLine_112 : decode cX2_readLine 112 = .ok (.aload_n 1, 1) := by decide +kernel
theorem dX2_readLine_113 : decode cX2_readLine 113 = .ok (.iload 4, 2) := by decide +kernel
theorem dX2_readLine_115 : decode cX2_readLine 115 = .ok (.bipush 47, 2) := by decide +kernel
theorem dX2_readLine_117 : decode cX2_readLine 117 = .ok (.invokevirtual 37, 3) := by decide +kernel
theorem dX2_readLine_120 : decode cX2_readLine 120 = .ok (.istore 5, 2) := by decide +kernel
theorem dX2_readLine_122 : decode cX2_readLine 122 = .ok (.iload 5, 2) := by decide +kernel
theorem dX2_readLine_124 : decode cX2_readLine 124 = .ok (.bipush 49, 2) := by decide +kernel
theorem dX2_readLine_126 : decode cX2_readLine 126 = .ok (.bipush 57, 2) := by decide +kernel
theorem dX2_readLine_128 : decode cX2_readLine 128 = .ok (.invokestatic 49, 3) := by decide +kernel
theorem dX2_readLine_131 : decode cX2_readLine 131 = .ok (.ifCond .ne 8, 3) := by decide +kernel
theorem dX2_readLine_134 : decode cX2_readLine 134 = .ok (.iconst (-1), 1) := by decide +kernel
theorem dX2_readLine_135 : decode cX2_readLine 135 = .ok (.iload 4, 2) := by decide +kernel
theorem dX2_readLine_137 : decode cX2_readLine 137 = .ok (.isub, 1) := by decide +kernel
theorem dX2_readLine_138 : decode cX2_readLine 138 = .ok (.ireturn, 1) := by decide +kernel
theorem dX2_readLine_139 : decode cX2_readLine 139 = .ok (.aload_n 0, 1) := by decide +kernel
theorem dX2_readLine_140 : decode cX2_readLine 140 = .ok (.getfield 9, 3) := by decide +kernel
theorem dX2_readLine_143 : decode cX2_readLine 143 = .ok (.iload_n 3, 1) := by decide +kernel
theorem dX2_readLine_144 : decode cX2_readLine 144 = .ok (.iload 6, 2) := by decide +kernel
theorem dX2_readLine_146 : decode cX2_readLine 146 = .ok (.iastore, 1) := by decide +kernel
theorem dX2_readLine_147 : decode cX2_readLine 147 = .ok (.aload_n 0, 1) := by decide +kernel
theorem dX2_readLine_148 : decode cX2_readLine 148 = .ok (.getfield 15, 3) := by decide +kernel
theorem dX2_readLine_151 : decode cX2_readLine 151 = .ok (.iload_n 3, 1) := by decide +kernel
theorem dX2_readLine_152 : decode cX2_readLine 152 = .ok (.iload 5, 2) := by decide +kernel
theorem dX2_readLine_154 : decode cX2_readLine 154 = .ok (.bipush 48, 2) := by decide +kernel
theorem dX2_readLine_156 : decode cX2_readLine 156 = .ok (.isub, 1) := by decide +kernel
theorem dX2_readLine_157 : decode cX2_readLine 157 = .ok (.iastore, 1) := by decide +kernel
theorem dX2_readLine_158 : decode cX2_readLine 158 = .ok (.iinc 4 1, 3) := by decide +kernel
theorem dX2_readLine_161 : decode cX2_readLine 161 = .ok (.aload_n 1, 1) := by decide +kernel
theorem dX2_readLine_162 : decode cX2_readLine 162 = .ok (.iload 4, 2) := by decide +kernel
theorem dX2_readLine_164 : decode cX2_readLine 164 = .ok (.bipush 47, 2) := by decide +kernel
theorem dX2_readLine_166 : decode cX2_readLine 166 = .ok (.invokevirtual 37, 3) := by decide +kernel
theorem dX2_readLine_169 : decode cX2_readLine 169 = .ok (.istore 5, 2) := by decide +kernel
theorem dX2_readLine_171 : decode cX2_readLine 171 = .ok (.iload 5, 2) := by decide +kernel
theorem dX2_readLine_173 : decode cX2_readLine 173 = .ok (.bipush 45, 2) := by decide +kernel
theorem dX2_readLine_175 : decode cX2_readLine 175 = .ok (.if_icmp .eq 23, 3) := by decide +kernel
theorem dX2_readLine_178 : decode cX2_readLine 178 = .ok (.iload 5, 2) := by decide +kernel
theorem dX2_readLine_180 : decode cX2_readLine 180 = .ok (.bipush 97, 2) := by decide +kernel
theorem dX2_readLine_182 : decode cX2_readLine 182 = .ok (.isub, 1) := by decide +kernel
theorem dX2_readLine_183 : decode cX2_readLine 183 = .ok (.iconst 0, 1) := by decide +kernel
theorem dX2_readLine_184 : decode cX2_readLine 184 = .ok (.iload_n 3, 1) := by decide +kernel
theorem dX2_readLine_185 : decode cX2_readLine 185 = .ok (.iconst 1, 1) := by decide +kernel
theorem dX2_readLine_186 : decode cX2_readLine 186 = .ok (.isub, 1) := by decide +kernel
theorem dX2_readLine_187 : decode cX2_readLine 187 = .ok (.invokestatic 49, 3) := by decide +kernel
theorem dX2_readLine_190 : decode cX2_readLine 190 = .ok (.ifCond .ne 8, 3) := by decide +kernel
theorem dX2_readLine_193 : decode cX2_readLine 193 = .ok (.iconst (-1), 1) := by decide +kernel
theorem dX2_readLine_194 : decode cX2_readLine 194 = .ok (.iload 4, 2) := by decide +kernel
theorem dX2_readLine_196 : decode cX2_readLine 196 = .ok (.isub, 1) := by decide +kernel
theorem dX2_readLine_197 : decode cX2_readLine 197 = .ok (.ireturn, 1) := by decide +kernel
theorem dX2_readLine_198 : decode cX2_readLine 198 = .ok (.aload_n 0, 1) := by decide +kernel
theorem dX2_readLine_199 : decode cX2_readLine 199 = .ok (.getfield 18, 3) := by decide +kernel
theorem dX2_readLine_202 : decode cX2_readLine 202 = .ok (.iload_n 3, 1) := by decide +kernel
theorem dX2_readLine_203 : decode cX2_readLine 203 = .ok (.iload 5, 2) := by decide +kernel
theorem dX2_readLine_205 : decode cX2_readLine 205 = .ok (.bipush 45, 2) := by decide +kernel
theorem dX2_readLine_207 : decode cX2_readLine 207 = .ok (.if_icmp .ne 7, 3) := by decide +kernel
theorem dX2_readLine_210 : decode cX2_readLine 210 = .ok (.iconst (-1), 1) := by decide +kernel
theorem dX2_readLine_211 : decode cX2_readLine 211 = .ok (.goto 8, 3) := by decide +kernel
theorem dX2_readLine_214 : decode cX2_readLine 214 = .ok (.iload 5, 2) := by decide +kernel
theorem dX2_readLine_216 : decode cX2_readLine 216 = .ok (.bipush 97, 2) := by decide +kernel
theorem dX2_readLine_218 : decode cX2_readLine 218 = .ok (.isub, 1) := by decide +kernel
theorem dX2_readLine_219 : decode cX2_readLine 219 = .ok (.iastore, 1) := by decide +kernel
theorem dX2_readLine_220 : decode cX2_readLine 220 = .ok (.iload 4, 2) := by decide +kernel
theorem dX2_readLine_222 : decode cX2_readLine 222 = .ok (.iconst 1, 1) := by decide +kernel
theorem dX2_readLine_223 : decode cX2_readLine 223 = .ok (.iadd, 1) := by decide +kernel
theorem dX2_readLine_224 : decode cX2_readLine 224 = .ok (.ireturn, 1) := by decide +kernel
theorem dX2_befriend_0 : decode cX2_befriend 0 = .ok (.iload_n 1, 1) := by decide +kernel
theorem dX2_befriend_1 : decode cX2_befriend 1 = .ok (.istore_n 3, 1) := by decide +kernel
theorem dX2_befriend_2 : decode cX2_befriend 2 = .ok (.iload_n 3, 1) := by decide +kernel
theorem dX2_befriend_3 : decode cX2_befriend 3 = .ok (.iload_n 2, 1) := by decide +kernel
theorem dX2_befriend_4 : decode cX2_befriend 4 = .ok (.if_icmp .ge 67, 3) := by decide +kernel
theorem dX2_befriend_7 : decode cX2_befriend 7 = .ok (.iload_n 3, 1) := by decide +kernel
theorem dX2_befriend_8 : decode cX2_befriend 8 = .ok (.bipush 8, 2) := by decide +kernel
theorem dX2_befriend_10 : decode cX2_befriend 10 = .ok (.if_icmp .ge 61, 3) := by decide +kernel
theorem dX2_befriend_13 : decode cX2_befriend 13 = .ok (.aload_n 0, 1) := by decide +kernel
theorem dX2_befriend_14 : decode cX2_befriend 14 = .ok (.getfield 21, 3) := by decide +kernel
theorem dX2_befriend_17 : decode cX2_befriend 17 = .ok (.iload_n 3, 1) := by decide +kernel
theorem dX2_befriend_18 : decode cX2_befriend 18 = .ok (.iconst 0, 1) := by decide +kernel
theorem dX2_befriend_19 : decode cX2_befriend 19 = .ok (.iastore, 1) := by decide +kernel
theorem dX2_befriend_20 : decode cX2_befriend 20 = .ok (.aload_n 0, 1) := by decide +kernel
theorem dX2_befriend_21 : decode cX2_befriend 21 = .ok (.getfield 18, 3) := by decide +kernel
theorem dX2_befriend_24 : decode cX2_befriend 24 = .ok (.iload_n 3, 1) := by decide +kernel
theorem dX2_befriend_25 : decode cX2_befriend 25 = .ok (.iaload, 1) := by decide +kernel
theorem dX2_befriend_26 : decode cX2_befriend 26 = .ok (.istore 4, 2) := by decide +kernel
theorem dX2_befriend_28 : decode cX2_befriend 28 = .ok (.iload 4, 2) := by decide +kernel
theorem dX2_befriend_30 : decode cX2_befriend 30 = .ok (.ifCond .lt 35, 3) := by decide +kernel
theorem dX2_befriend_33 : decode cX2_befriend 33 = .ok (.iload 4, 2) := by decide +kernel
theorem dX2_befriend_35 : decode cX2_befriend 35 = .ok (.iload_n 3, 1) := by decide +kernel
theorem dX2_befriend_36 : decode cX2_befriend 36 = .ok (.if_icmp .ge 29, 3) := by decide +kernel
theorem dX2_befriend_39 : decode cX2_befriend 39 = .ok (.aload_n 0, 1) := by decide +kernel
theorem dX2_befriend_40 : decode cX2_befriend 40 = .ok (.getfield 21, 3) := by decide +kernel
theorem dX2_befriend_43 : decode cX2_befriend 43 = .ok (.iload_n 3, 1) := by decide +kernel
theorem dX2_befriend_44 : decode cX2_befriend 44 = .ok (.dup2, 1) := by decide +kernel
theorem dX2_befriend_45 : decode cX2_befriend 45 = .ok (.iaload, 1) := by decide +kernel
theorem dX2_befriend_46 : decode cX2_befriend 46 = .ok (.iconst 1, 1) := by decide +kernel
theorem dX2_befriend_47 : decode cX2_befriend 47 = .ok (.iload 4, 2) := by decide +kernel
theorem dX2_befriend_49 : decode cX2_befriend 49 = .ok (.ishl, 1) := by decide +kernel
theorem dX2_befriend_50 : decode cX2_befriend 50 = .ok (.ior, 1) := by decide +kernel
theorem dX2_befriend_51 : decode cX2_befriend 51 = .ok (.iastore, 1) := by decide +kernel
theorem dX2_befriend_52 : decode cX2_befriend 52 = .ok (.aload_n 0, 1) := by decide +kernel
theorem dX2_befriend_53 : decode cX2_befriend 53 = .ok (.getfield 21, 3) := by decide +kernel
theorem dX2_befriend_56 : decode cX2_befriend 56 = .ok (.iload 4, 2) := by decide +kernel
theorem dX2_befriend_58 : decode cX2_befriend 58 = .ok (.dup2, 1) := by decide +kernel
theorem dX2_befriend_59 : decode cX2_befriend 59 = .ok (.iaload, 1) := by decide +kernel
theorem dX2_befriend_60 : decode cX2_befriend 60 = .ok (.iconst 1, 1) := by decide +kernel
theorem dX2_befriend_61 : decode cX2_befriend 61 = .ok (.iload_n 3, 1) := by decide +kernel
theorem dX2_befriend_62 : decode cX2_befriend 62 = .ok (.ishl, 1) := by decide +kernel
theorem dX2_befriend_63 : decode cX2_befriend 63 = .ok (.ior, 1) := by decide +kernel
theorem dX2_befriend_64 : decode cX2_befriend 64 = .ok (.iastore, 1) := by decide +kernel
theorem dX2_befriend_65 : decode cX2_befriend 65 = .ok (.iinc 3 1, 3) := by decide +kernel
theorem dX2_befriend_68 : decode cX2_befriend 68 = .ok (.goto (-66), 3) := by decide +kernel
theorem dX2_befriend_71 : decode cX2_befriend 71 = .ok (.return_, 1) := by decide +kernel
theorem dX9_init_0 : decode cX9_init 0 = .ok (.aload_n 0, 1) := by decide +kernel
theorem dX9_init_1 : decode cX9_init 1 = .ok (.invokespecial 3, 3) := by decide +kernel
theorem dX9_init_4 : decode cX9_init 4 = .ok (.aload_n 0, 1) := by decide +kernel
theorem dX9_init_5 : decode cX9_init 5 = .ok (.bipush 12, 2) := by decide +kernel
theorem dX9_init_7 : decode cX9_init 7 = .ok (.newarray .int, 2) := by decide +kernel
theorem dX9_init_9 : decode cX9_init 9 = .ok (.putfield 9, 3) := by decide +kernel
theorem dX9_init_12 : decode cX9_init 12 = .ok (.aload_n 0, 1) := by decide +kernel
theorem dX9_init_13 : decode cX9_init 13 = .ok (.bipush 12, 2) := by decide +kernel
theorem dX9_init_15 : decode cX9_init 15 = .ok (.newarray .int, 2) := by decide +kernel
theorem dX9_init_17 : decode cX9_init 17 = .ok (.putfield 15, 3) := by decide +kernel
theorem dX9_init_20 : decode cX9_init 20 = .ok (.aload_n 0, 1) := by decide +kernel
theorem dX9_init_21 : decode cX9_init 21 = .ok (.bipush 8, 2) := by decide +kernel
theorem dX9_init_23 : decode cX9_init 23 = .ok (.newarray .int, 2) := by decide +kernel
theorem dX9_init_25 : decode cX9_init 25 = .ok (.putfield 18, 3) := by decide +kernel
theorem dX9_init_28 : decode cX9_init 28 = .ok (.aload_n 0, 1) := by decide +kernel
theorem dX9_init_29 : decode cX9_init 29 = .ok (.bipush 8, 2) := by decide +kernel
theorem dX9_init_31 : decode cX9_init 31 = .ok (.newarray .int, 2) := by decide +kernel
theorem dX9_init_33 : decode cX9_init 33 = .ok (.putfield 21, 3) := by decide +kernel
theorem dX9_init_36 : decode cX9_init 36 = .ok (.aload_n 0, 1) := by decide +kernel
theorem dX9_init_37 : decode cX9_init 37 = .ok (.aload_n 1, 1) := by decide +kernel
theorem dX9_init_38 : decode cX9_init 38 = .ok (.putfield 24, 3) := by decide +kernel
theorem dX9_init_41 : decode cX9_init 41 = .ok (.aload_n 0, 1) := by decide +kernel
theorem dX9_init_42 : decode cX9_init 42 = .ok (.aload_n 2, 1) := by decide +kernel
theorem dX9_init_43 : decode cX9_init 43 = .ok (.putfield 28, 3) := by decide +kernel
theorem dX9_init_46 : decode cX9_init 46 = .ok (.return_, 1) := by decide +kernel
theorem dX9_copy_0 : decode cX9_copy 0 = .ok (.aload_n 1, 1) := by decide +kernel
theorem dX9_copy_1 : decode cX9_copy 1 = .ok (.getfield 9, 3) := by decide +kernel
theorem dX9_copy_4 : decode cX9_copy 4 = .ok (.iconst 0, 1) := by decide +kernel
theorem dX9_copy_5 : decode cX9_copy 5 = .ok (.aload_n 0, 1) := by decide +kernel
theorem dX9_copy_6 : decode cX9_copy 6 = .ok (.getfield 9, 3) := by decide +kernel
theorem dX9_copy_9 : decode cX9_copy 9 = .ok (.iconst 0, 1) := by decide +kernel
theorem dX9_copy_10 : decode cX9_copy 10 = .ok (.bipush 12, 2) := by decide +kernel
theorem dX9_copy_12 : decode cX9_copy 12 = .ok (.invokestatic 32, 3) := by decide +kernel
theorem dX9_copy_15 : decode cX9_copy 15 = .ok (.aload_n 1, 1) := by decide +kernel
theorem dX9_copy_16 : decode cX9_copy 16 = .ok (.getfield 15, 3) := by decide +kernel
theorem dX9_copy_19 : decode cX9_copy 19 = .ok (.iconst 0, 1) := by decide +kernel
theorem dX9_copy_20 : decode cX9_copy 20 = .ok (.aload_n 0, 1) := by decide +kernel
theorem dX9_copy_21 : decode cX9_copy 21 = .ok (.getfield 15, 3) := by decide +kernel
theorem dX9_copy_24 : decode cX9_copy 24 = .ok (.iconst 0, 1) := by decide +kernel
theorem dX9_copy_25 : decode cX9_copy 25 = .ok (.bipush 12, 2) := by decide +kernel
theorem dX9_copy_27 : decode cX9_copy 27 = .ok (.invokestatic 32, 3) := by decide +kernel
theorem dX9_copy_30 : decode cX9_copy 30 = .ok (.aload_n 1, 1) := by decide +kernel
theorem dX9_copy_31 : decode cX9_copy 31 = .ok (.getfield 18, 3) := by decide +kernel
theorem dX9_copy_34 : decode cX9_copy 34 = .ok (.iconst 0, 1) := by decide +kernel
theorem dX9_copy_35 : decode cX9_copy 35 = .ok (.aload_n 0, 1) := by decide +kernel
theorem dX9_copy_36 : decode cX9_copy 36 = .ok (.getfield 18, 3) := by decide +kernel
theorem dX9_copy_39 : decode cX9_copy 39 = .ok (.iconst 0, 1) := by decide +kernel
theorem dX9_copy_40 : decode cX9_copy 40 = .ok (.bipush 8, 2) := by decide +kernel
theorem dX9_copy_42 : decode cX9_copy 42 = .ok (.invokestatic 32, 3) := by decide +kernel
theorem dX9_copy_45 : decode cX9_copy 45 = .ok (.aload_n 1, 1) := by decide +kernel
theorem dX9_copy_46 : decode cX9_copy 46 = .ok (.getfield 21, 3) := by decide +kernel
theorem dX9_copy_49 : decode cX9_copy 49 = .ok (.iconst 0, 1) := by decide +kernel
theorem dX9_copy_50 : decode cX9_copy 50 = .ok (.aload_n 0, 1) := by decide +kernel
theorem dX9_copy_51 : decode cX9_copy 51 = .ok (.getfield 21, 3) := by decide +kernel
theorem dX9_copy_54 : decode cX9_copy 54 = .ok (.iconst 0, 1) := by decide +kernel
theorem dX9_copy_55 : decode cX9_copy 55 = .ok (.bipush 8, 2) := by decide +kernel
theorem dX9_copy_57 : decode cX9_copy 57 = .ok (.invokestatic 32, 3) := by decide +kernel
theorem dX9_copy_60 : decode cX9_copy 60 = .ok (.aload_n 0, 1) := by decide +kernel
theorem dX9_copy_61 : decode cX9_copy 61 = .ok (.aload_n 1, 1) := by decide +kernel
theorem dX9_copy_62 : decode cX9_copy 62 = .ok (.getfield 38, 3) := by decide +kernel
theorem dX9_copy_65 : decode cX9_copy 65 = .ok (.putfield 38, 3) := by decide +kernel
theorem dX9_copy_68 : decode cX9_copy 68 = .ok (.aload_n 0, 1) := by decide +kernel
theorem dX9_copy_69 : decode cX9_copy 69 = .ok (.aload_n 1, 1) := by decide +kernel
theorem dX9_copy_70 : decode cX9_copy 70 = .ok (.getfield 42, 3) := by decide +kernel
theorem dX9_copy_73 : decode cX9_copy 73 = .ok (.putfield 42, 3) := by decide +kernel
theorem dX9_copy_76 : decode cX9_copy 76 = .ok (.aload_n 0, 1) := by decide +kernel
theorem dX9_copy_77 : decode cX9_copy 77 = .ok (.aload_n 1, 1) := by decide +kernel
theorem dX9_copy_78 : decode cX9_copy 78 = .ok (.getfield 45, 3) := by decide +kernel
theorem dX9_copy_81 : decode cX9_copy 81 = .ok (.putfield 45, 3) := by decide +kernel
theorem dX9_copy_84 : decode cX9_copy 84 = .ok (.return_, 1) := by decide +kernel
theorem dX9_startAnew_0 : decode cX9_startAnew 0 = .ok (.aload_n 0, 1) := by decide +kernel
theorem dX9_startAnew_1 : decode cX9_startAnew 1 = .ok (.getfield 9, 3) := by decide +kernel
theorem dX9_startAnew_4 : decode cX9_startAnew 4 = .ok (.iconst 0, 1) := by decide +kernel
theorem dX9_startAnew_5 : decode cX9_startAnew 5 = .ok (.invokestatic 48, 3) := by decide +kernel
theorem dX9_startAnew_8 : decode cX9_startAnew 8 = .ok (.aload_n 0, 1) := by decide +kernel
theorem dX9_startAnew_9 : decode cX9_startAnew 9 = .ok (.getfield 15, 3) := by decide +kernel
theorem dX9_startAnew_12 : decode cX9_startAnew 12 = .ok (.iconst 0, 1) := by decide +kernel
theorem dX9_startAnew_13 : decode cX9_startAnew 13 = .ok (.invokestatic 48, 3) := by decide +kernel
theorem dX9_startAnew_16 : decode cX9_startAnew 16 = .ok (.aload_n 0, 1) := by decide +kernel
theorem dX9_startAnew_17 : decode cX9_startAnew 17 = .ok (.getfield 21, 3) := by decide +kernel
theorem dX9_startAnew_20 : decode cX9_startAnew 20 = .ok (.iconst (-1), 1) := by decide +kernel
theorem dX9_startAnew_21 : decode cX9_startAnew 21 = .ok (.invokestatic 48, 3) := by decide +kernel
theorem dX9_startAnew_24 : decode cX9_startAnew 24 = .ok (.aload_n 0, 1) := by decide +kernel
theorem dX9_startAnew_25 : decode cX9_startAnew 25 = .ok (.iconst 0, 1) := by decide +kernel
theorem dX9_startAnew_26 : decode cX9_startAnew 26 = .ok (.putfield 38, 3) := by decide +kernel
theorem dX9_startAnew_29 : decode cX9_startAnew 29 = .ok (.aload_n 0, 1) := by decide +kernel
theorem dX9_startAnew_30 : decode cX9_startAnew 30 = .ok (.iconst 0, 1) := by decide +kernel
theorem dX9_startAnew_31 : decode cX9_startAnew 31 = .ok (.putfield 45, 3) := by decide +kernel
theorem dX9_startAnew_34 : decode cX9_startAnew 34 = .ok (.return_, 1) := by decide +kernel
theorem dX9_welcome_0 : decode cX9_welcome 0 = .ok (.iload_n 1, 1) := by decide +kernel
theorem dX9_welcome_1 : decode cX9_welcome 1 = .ok (.istore_n 2, 1) := by decide +kernel
theorem dX9_welcome_2 : decode cX9_welcome 2 = .ok (.iload_n 2, 1) := by decide +kernel
theorem dX9_welcome_3 : decode cX9_welcome 3 = .ok (.aload_n 0, 1) := by decide +kernel
theorem dX9_welcome_4 : decode cX9_welcome 4 = .ok (.getfield 28, 3) := by decide +kernel
theorem dX9_welcome_7 : decode cX9_welcome 7 = .ok (.getfield 54, 3) := by decide +kernel
theorem dX9_welcome_10 : decode cX9_welcome 10 = .ok (.if_icmp .ge 23, 3) := by decide +kernel
theorem dX9_welcome_13 : decode cX9_welcome 13 = .ok (.aload_n 0, 1) := by decide +kernel
theorem dX9_welcome_14 : decode cX9_welcome 14 = .ok (.getfield 18, 3) := by decide +kernel
theorem dX9_welcome_17 : decode cX9_welcome 17 = .ok (.iload_n 2, 1) := by decide +kernel
theorem dX9_welcome_18 : decode cX9_welcome 18 = .ok (.iconst 5, 1) := by decide +kernel
theorem dX9_welcome_19 : decode cX9_welcome 19 = .ok (.iastore, 1) := by decide +kernel
theorem dX9_welcome_20 : decode cX9_welcome 20 = .ok (.aload_n 0, 1) := by decide +kernel
theorem dX9_welcome_21 : decode cX9_welcome 21 = .ok (.getfield 21, 3) := by decide +kernel
theorem dX9_welcome_24 : decode cX9_welcome 24 = .ok (.iload_n 2, 1) := by decide +kernel
theorem dX9_welcome_25 : decode cX9_welcome 25 = .ok (.iconst (-1), 1) := by decide +kernel
theorem dX9_welcome_26 : decode cX9_welcome 26 = .ok (.iastore, 1) := by decide +kernel
theorem dX9_welcome_27 : decode cX9_welcome 27 = .ok (.iinc 2 1, 3) := by decide +kernel
theorem dX9_welcome_30 : decode cX9_welcome 30 = .ok (.goto (-28), 3) := by decide +kernel
theorem dX9_welcome_33 : decode cX9_welcome 33 = .ok (.return_, 1) := by decide +kernel
theorem dX9_top_0 : decode cX9_top 0 = .ok (.bipush 10, 2) := by decide +kernel
theorem dX9_top_2 : decode cX9_top 2 = .ok (.aload_n 0, 1) := by decide +kernel
theorem dX9_top_3 : decode cX9_top 3 = .ok (.getfield 24, 3) := by decide +kernel
theorem dX9_top_6 : decode cX9_top 6 = .ok (.getfield 59, 3) := by decide +kernel
theorem dX9_top_9 : decode cX9_top 9 = .ok (.iload_n 1, 1) := by decide +kernel
theorem dX9_top_10 : decode cX9_top 10 = .ok (.iaload, 1) := by decide +kernel
theorem dX9_top_11 : decode cX9_top 11 = .ok (.imul, 1) := by decide +kernel
theorem dX9_top_12 : decode cX9_top 12 = .ok (.aload_n 0, 1) := by decide +kernel
theorem dX9_top_13 : decode cX9_top 13 = .ok (.getfield 9, 3) := by decide +kernel
theorem dX9_top_16 : decode cX9_top 16 = .ok (.iload_n 1, 1) := by decide +kernel
theorem dX9_top_17 : decode cX9_top 17 = .ok (.iaload, 1) := by decide +kernel
theorem dX9_top_18 : decode cX9_top 18 = .ok (.iadd, 1) := by decide +kernel
theorem dX9_top_19 : decode cX9_top 19 = .ok (.ireturn, 1) := by decide +kernel
theorem dX9_lowestTop_0 : decode cX9_lowestTop 0 = .ok (.aload_n 0, 1) := by decide +kernel
theorem dX9_lowestTop_1 : decode cX9_lowestTop 1 = .ok (.iconst 0, 1) := by decide +kernel
theorem dX9_lowestTop_2 : decode cX9_lowestTop 2 = .ok (.invokevirtual 64, 3) := by decide +kernel
theorem dX9_lowestTop_5 : decode cX9_lowestTop 5 = .ok (.istore_n 1, 1) := by decide +kernel
theorem dX9_lowestTop_6 : decode cX9_lowestTop 6 = .ok (.iconst 1, 1) := by decide +kernel
theorem dX9_lowestTop_7 : decode cX9_lowestTop 7 = .ok (.istore_n 2, 1) := by decide +kernel
theorem dX9_lowestTop_8 : decode cX9_lowestTop 8 = .ok (.iload_n 2, 1) := by decide +kernel
theorem dX9_lowestTop_9 : decode cX9_lowestTop 9 = .ok (.aload_n 0, 1) := by decide +kernel
theorem dX9_lowestTop_10 : decode cX9_lowestTop 10 = .ok (.getfield 24, 3) := by decide +kernel
theorem dX9_lowestTop_13 : decode cX9_lowestTop 13 = .ok (.getfield 68, 3) := by decide +kernel
theorem dX9_lowestTop_16 : decode cX9_lowestTop 16 = .ok (.if_icmp .ge 19, 3) := by decide +kernel
theorem dX9_lowestTop_19 : decode cX9_lowestTop 19 = .ok (.iload_n 1, 1) := by decide +kernel
theorem dX9_lowestTop_20 : decode cX9_lowestTop 20 = .ok (.aload_n 0, 1) := by decide +kernel
theorem dX9_lowestTop_21 : decode cX9_lowestTop 21 = .ok (.iload_n 2, 1) := by decide +kernel
theorem dX9_lowestTop_22 : decode cX9_lowestTop 22 = .ok (.invokevirtual 64, 3) := by decide +kernel
theorem dX9_lowestTop_25 : decode cX9_lowestTop 25 = .ok (.invokestatic 71, 3) := by decide +kernel
theorem dX9_lowestTop_28 : decode cX9_lowestTop 28 = .ok (.istore_n 1, 1) := by decide +kernel
theorem dX9_lowestTop_29 : decode cX9_lowestTop 29 = .ok (.iinc 2 1, 3) := by decide +kernel
theorem dX9_lowestTop_32 : decode cX9_lowestTop 32 = .ok (.goto (-24), 3) := by decide +kernel
theorem dX9_lowestTop_35 : decode cX9_lowestTop 35 = .ok (.iload_n 1, 1) := by decide +kernel
theorem dX9_lowestTop_36 : decode cX9_lowestTop 36 = .ok (.ireturn, 1) := by decide +kernel
theorem dX9_below_0 : decode cX9_below 0 = .ok (.iconst 0, 1) := by decide +kernel
theorem dX9_below_1 : decode cX9_below 1 = .ok (.istore_n 2, 1) := by decide +kernel
theorem dX9_below_2 : decode cX9_below 2 = .ok (.iconst 0, 1) := by decide +kernel
theorem dX9_below_3 : decode cX9_below 3 = .ok (.istore_n 3, 1) := by decide +kernel
theorem dX9_below_4 : decode cX9_below 4 = .ok (.iload_n 3, 1) := by decide +kernel
theorem dX9_below_5 : decode cX9_below 5 = .ok (.aload_n 0, 1) := by decide +kernel
theorem dX9_below_6 : decode cX9_below 6 = .ok (.getfield 24, 3) := by decide +kernel
theorem dX9_below_9 : decode cX9_below 9 = .ok (.getfield 68, 3) := by decide +kernel
theorem dX9_below_12 : decode cX9_below 12 = .ok (.if_icmp .ge 24, 3) := by decide +kernel
theorem dX9_below_15 : decode cX9_below 15 = .ok (.aload_n 0, 1) := by decide +kernel
theorem dX9_below_16 : decode cX9_below 16 = .ok (.iload_n 3, 1) := by decide +kernel
theorem dX9_below_17 : decode cX9_below 17 = .ok (.invokevirtual 64, 3) := by decide +kernel
theorem dX9_below_20 : decode cX9_below 20 = .ok (.iload_n 1, 1) := by decide +kernel
theorem dX9_below_21 : decode cX9_below 21 = .ok (.if_icmp .ge 9, 3) := by decide +kernel
theorem dX9_below_24 : decode cX9_below 24 = .ok (.iload_n 2, 1) := by decide +kernel
theorem dX9_below_25 : decode cX9_below 25 = .ok (.iconst 1, 1) := by decide +kernel
theorem dX9_below_26 : decode cX9_below 26 = .ok (.iload_n 3, 1) := by decide +kernel
theorem dX9_below_27 : decode cX9_below 27 = .ok (.ishl, 1) := by decide +kernel
theorem dX9_below_28 : decode cX9_below 28 = .ok (.ior, 1) := by decide +kernel
theorem dX9_below_29 : decode cX9_below 29 = .ok (.istore_n 2, 1) := by decide +kernel
theorem dX9_below_30 : decode cX9_below 30 = .ok (.iinc 3 1, 3) := by decide +kernel
theorem dX9_below_33 : decode cX9_below 33 = .ok (.goto (-29), 3) := by decide +kernel
theorem dX9_below_36 : decode cX9_below 36 = .ok (.iload_n 2, 1) := by decide +kernel
theorem dX9_below_37 : decode cX9_below 37 = .ok (.ireturn, 1) := by decide +kernel
theorem dX9_childrenAt_0 : decode cX9_childrenAt 0 = .ok (.iconst 0, 1) := by decide +kernel
theorem dX9_childrenAt_1 : decode cX9_childrenAt 1 = .ok (.istore_n 2, 1) := by decide +kernel
theorem dX9_childrenAt_2 : decode cX9_childrenAt 2 = .ok (.iconst 0, 1) := by decide +kernel
theorem dX9_childrenAt_3 : decode cX9_childrenAt 3 = .ok (.istore_n 3, 1) := by decide +kernel
theorem dX9_childrenAt_4 : decode cX9_childrenAt 4 = .ok (.iload_n 3, 1) := by decide +kernel
theorem dX9_childrenAt_5 : decode cX9_childrenAt 5 = .ok (.aload_n 0, 1) := by decide +kernel
theorem dX9_childrenAt_6 : decode cX9_childrenAt 6 = .ok (.getfield 28, 3) := by decide +kernel
theorem dX9_childrenAt_9 : decode cX9_childrenAt 9 = .ok (.getfield 54, 3) := by decide +kernel
theorem dX9_childrenAt_12 : decode cX9_childrenAt 12 = .ok (.if_icmp .ge 25, 3) := by decide +kernel
theorem dX9_childrenAt_15 : decode cX9_childrenAt 15 = .ok (.aload_n 0, 1) := by decide +kernel
theorem dX9_childrenAt_16 : decode cX9_childrenAt 16 = .ok (.getfield 21, 3) := by decide +kernel
theorem dX9_childrenAt_19 : decode cX9_childrenAt 19 = .ok (.iload_n 3, 1) := by decide +kernel
theorem dX9_childrenAt_20 : decode cX9_childrenAt 20 = .ok (.iaload, 1) := by decide +kernel
theorem dX9_childrenAt_21 : decode cX9_childrenAt 21 = .ok (.iload_n 1, 1) := by decide +kernel
theorem dX9_childrenAt_22 : decode cX9_childrenAt 22 = .ok (.if_icmp .ne 9, 3) := by decide +kernel
theorem dX9_childrenAt_25 : decode cX9_childrenAt 25 = .ok (.iload_n 2, 1) := by decide +kernel
theorem dX9_childrenAt_26 : decode cX9_childrenAt 26 = .ok (.iconst 1, 1) := by decide +kernel
theorem dX9_childrenAt_27 : decode cX9_childrenAt 27 = .ok (.iload_n 3, 1) := by decide +kernel
theorem dX9_childrenAt_28 : decode cX9_childrenAt 28 = .ok (.ishl, 1) := by decide +kernel
theorem dX9_childrenAt_29 : decode cX9_childrenAt 29 = .ok (.ior, 1) := by decide +kernel
theorem dX9_childrenAt_30 : decode cX9_childrenAt 30 = .ok (.istore_n 2, 1) := by decide +kernel
theorem dX9_childrenAt_31 : decode cX9_childrenAt 31 = .ok (.iinc 3 1, 3) := by decide +kernel
theorem dX9_childrenAt_34 : decode cX9_childrenAt 34 = .ok (.goto (-30), 3) := by decide +kernel
theorem dX9_childrenAt_37 : decode cX9_childrenAt 37 = .ok (.iload_n 2, 1) := by decide +kernel
theorem dX9_childrenAt_38 : decode cX9_childrenAt 38 = .ok (.ireturn, 1) := by decide +kernel
theorem dX9_atHome_0 : decode cX9_atHome 0 = .ok (.aload_n 0, 1) := by decide +kernel
theorem dX9_atHome_1 : decode cX9_atHome 1 = .ok (.iconst (-1), 1) := by decide +kernel
theorem dX9_atHome_2 : decode cX9_atHome 2 = .ok (.invokevirtual 77, 3) := by decide +kernel
theorem dX9_atHome_5 : decode cX9_atHome 5 = .ok (.ireturn, 1) := by decide +kernel
theorem dX9_wet_0 : decode cX9_wet 0 = .ok (.iconst 0, 1) := by decide +kernel
theorem dX9_wet_1 : decode cX9_wet 1 = .ok (.istore_n 1, 1) := by decide +kernel
theorem dX9_wet_2 : decode cX9_wet 2 = .ok (.iconst 0, 1) := by decide +kernel
theorem dX9_wet_3 : decode cX9_wet 3 = .ok (.istore_n 2, 1) := by decide +kernel
theorem dX9_wet_4 : decode cX9_wet 4 = .ok (.iload_n 2, 1) := by decide +kernel
theorem dX9_wet_5 : decode cX9_wet 5 = .ok (.aload_n 0, 1) := by decide +kernel
theorem dX9_wet_6 : decode cX9_wet 6 = .ok (.getfield 24, 3) := by decide +kernel
theorem dX9_wet_9 : decode cX9_wet 9 = .ok (.getfield 68, 3) := by decide +kernel
theorem dX9_wet_12 : decode cX9_wet 12 = .ok (.if_icmp .ge 24, 3) := by decide +kernel
theorem dX9_wet_15 : decode cX9_wet 15 = .ok (.aload_n 0, 1) := by decide +kernel
theorem dX9_wet_16 : decode cX9_wet 16 = .ok (.getfield 15, 3) := by decide +kernel
theorem dX9_wet_19 : decode cX9_wet 19 = .ok (.iload_n 2, 1) := by decide +kernel
theorem dX9_wet_20 : decode cX9_wet 20 = .ok (.iaload, 1) := by decide +kernel
theorem dX9_wet_21 : decode cX9_wet 21 = .ok (.ifCond .le 9, 3) := by decide +kernel
theorem dX9_wet_24 : decode cX9_wet 24 = .ok (.iload_n 1, 1) := by decide +kernel
theorem dX9_wet_25 : decode cX9_wet 25 = .ok (.iconst 1, 1) := by decide +kernel
theorem dX9_wet_26 : decode cX9_wet 26 = .ok (.iload_n 2, 1) := by decide +kernel
theorem dX9_wet_27 : decode cX9_wet 27 = .ok (.ishl, 1) := by decide +kernel
theorem dX9_wet_28 : decode cX9_wet 28 = .ok (.ior, 1) := by decide +kernel
theorem dX9_wet_29 : decode cX9_wet 29 = .ok (.istore_n 1, 1) := by decide +kernel
theorem dX9_wet_30 : decode cX9_wet 30 = .ok (.iinc 2 1, 3) := by decide +kernel
theorem dX9_wet_33 : decode cX9_wet 33 = .ok (.goto (-29), 3) := by decide +kernel
theorem dX9_wet_36 : decode cX9_wet 36 = .ok (.iload_n 1, 1) := by decide +kernel
theorem dX9_wet_37 : decode cX9_wet 37 = .ok (.ireturn, 1) := by decide +kernel
theorem dX9_water_0 : decode cX9_water 0 = .ok (.iconst 0, 1) := by decide +kernel
theorem dX9_water_1 : decode cX9_water 1 = .ok (.istore_n 1, 1) := by decide +kernel
theorem dX9_water_2 : decode cX9_water 2 = .ok (.iconst 0, 1) := by decide +kernel
theorem dX9_water_3 : decode cX9_water 3 = .ok (.istore_n 2, 1) := by decide +kernel
theorem dX9_water_4 : decode cX9_water 4 = .ok (.iload_n 2, 1) := by decide +kernel
theorem dX9_water_5 : decode cX9_water 5 = .ok (.aload_n 0, 1) := by decide +kernel
theorem dX9_water_6 : decode cX9_water 6 = .ok (.getfield 24, 3) := by decide +kernel
theorem dX9_water_9 : decode cX9_water 9 = .ok (.getfield 68, 3) := by decide +kernel
theorem dX9_water_12 : decode cX9_water 12 = .ok (.if_icmp .ge 18, 3) := by decide +kernel
theorem dX9_water_15 : decode cX9_water 15 = .ok (.iload_n 1, 1) := by decide +kernel
theorem dX9_water_16 : decode cX9_water 16 = .ok (.aload_n 0, 1) := by decide +kernel
theorem dX9_water_17 : decode cX9_water 17 = .ok (.getfield 15, 3) := by decide +kernel
theorem dX9_water_20 : decode cX9_water 20 = .ok (.iload_n 2, 1) := by decide +kernel
theorem dX9_water_21 : decode cX9_water 21 = .ok (.iaload, 1) := by decide +kernel
theorem dX9_water_22 : decode cX9_water 22 = .ok (.iadd, 1) := by decide +kernel
theorem dX9_water_23 : decode cX9_water 23 = .ok (.istore_n 1, 1) := by decide +kernel
theorem dX9_water_24 : decode cX9_water 24 = .ok (.iinc 2 1, 3) := by decide +kernel
theorem dX9_water_27 : decode cX9_water 27 = .ok (.goto (-23), 3) := by decide +kernel
theorem dX9_water_30 : decode cX9_water 30 = .ok (.iload_n 1, 1) := by decide +kernel
theorem dX9_water_31 : decode cX9_water 31 = .ok (.ireturn, 1) := by decide +kernel
theorem dX9_sand_0 : decode cX9_sand 0 = .ok (.iconst 0, 1) := by decide +kernel
theorem dX9_sand_1 : decode cX9_sand 1 = .ok (.istore_n 1, 1) := by decide +kernel
theorem dX9_sand_2 : decode cX9_sand 2 = .ok (.iconst 0, 1) := by decide +kernel
theorem dX9_sand_3 : decode cX9_sand 3 = .ok (.istore_n 2, 1) := by decide +kernel
theorem dX9_sand_4 : decode cX9_sand 4 = .ok (.iload_n 2, 1) := by decide +kernel
theorem dX9_sand_5 : decode cX9_sand 5 = .ok (.aload_n 0, 1) := by decide +kernel
theorem dX9_sand_6 : decode cX9_sand 6 = .ok (.getfield 24, 3) := by decide +kernel
theorem dX9_sand_9 : decode cX9_sand 9 = .ok (.getfield 68, 3) := by decide +kernel
theorem dX9_sand_12 : decode cX9_sand 12 = .ok (.if_icmp .ge 18, 3) := by decide +kernel
theorem dX9_sand_15 : decode cX9_sand 15 = .ok (.iload_n 1, 1) := by decide +kernel
theorem dX9_sand_16 : decode cX9_sand 16 = .ok (.aload_n 0, 1) := by decide +kernel
theorem dX9_sand_17 : decode cX9_sand 17 = .ok (.getfield 9, 3) := by decide +kernel
theorem dX9_sand_20 : decode cX9_sand 20 = .ok (.iload_n 2, 1) := by decide +kernel
theorem dX9_sand_21 : decode cX9_sand 21 = .ok (.iaload, 1) := by decide +kernel
theorem dX9_sand_22 : decode cX9_sand 22 = .ok (.iadd, 1) := by decide +kernel
theorem dX9_sand_23 : decode cX9_sand 23 = .ok (.istore_n 1, 1) := by decide +kernel
theorem dX9_sand_24 : decode cX9_sand 24 = .ok (.iinc 2 1, 3) := by decide +kernel
theorem dX9_sand_27 : decode cX9_sand 27 = .ok (.goto (-23), 3) := by decide +kernel
theorem dX9_sand_30 : decode cX9_sand 30 = .ok (.iload_n 1, 1) := by decide +kernel
theorem dX9_sand_31 : decode cX9_sand 31 = .ok (.ireturn, 1) := by decide +kernel
theorem dX9_buckets_0 : decode cX9_buckets 0 = .ok (.aload_n 0, 1) := by decide +kernel
theorem dX9_buckets_1 : decode cX9_buckets 1 = .ok (.getfield 21, 3) := by decide +kernel
theorem dX9_buckets_4 : decode cX9_buckets 4 = .ok (.iload_n 1, 1) := by decide +kernel
theorem dX9_buckets_5 : decode cX9_buckets 5 = .ok (.iaload, 1) := by decide +kernel
theorem dX9_buckets_6 : decode cX9_buckets 6 = .ok (.iconst (-1), 1) := by decide +kernel
theorem dX9_buckets_7 : decode cX9_buckets 7 = .ok (.if_icmp .ne 5, 3) := by decide +kernel
theorem dX9_buckets_10 : decode cX9_buckets 10 = .ok (.iconst 0, 1) := by decide +kernel
theorem dX9_buckets_11 : decode cX9_buckets 11 = .ok (.ireturn, 1) := by decide +kernel
theorem dX9_buckets_12 : decode cX9_buckets 12 = .ok (.aload_n 0, 1) := by decide +kernel
theorem dX9_buckets_13 : decode cX9_buckets 13 = .ok (.getfield 28, 3) := by decide +kernel
theorem dX9_buckets_16 : decode cX9_buckets 16 = .ok (.getfield 80, 3) := by decide +kernel
theorem dX9_buckets_19 : decode cX9_buckets 19 = .ok (.iload_n 1, 1) := by decide +kernel
theorem dX9_buckets_20 : decode cX9_buckets 20 = .ok (.iaload, 1) := by decide +kernel
theorem dX9_buckets_21 : decode cX9_buckets 21 = .ok (.istore_n 2, 1) := by decide +kernel
theorem dX9_buckets_22 : decode cX9_buckets 22 = .ok (.aload_n 0, 1) := by decide +kernel
theorem dX9_buckets_23 : decode cX9_buckets 23 = .ok (.getfield 42, 3) := by decide +kernel
theorem dX9_buckets_26 : decode cX9_buckets 26 = .ok (.iload_n 1, 1) := by decide +kernel
theorem dX9_buckets_27 : decode cX9_buckets 27 = .ok (.ishr, 1) := by decide +kernel
theorem dX9_buckets_28 : decode cX9_buckets 28 = .ok (.iconst 1, 1) := by decide +kernel
theorem dX9_buckets_29 : decode cX9_buckets 29 = .ok (.iand, 1) := by decide +kernel
theorem dX9_buckets_30 : decode cX9_buckets 30 = .ok (.ifCond .eq 6, 3) := by decide +kernel
theorem dX9_buckets_33 : decode cX9_buckets 33 = .ok (.iinc 2 2, 3) := by decide +kernel
theorem dX9_buckets_36 : decode cX9_buckets 36 = .ok (.aload_n 0, 1) := by decide +kernel
theorem dX9_buckets_37 : decode cX9_buckets 37 = .ok (.getfield 28, 3) := by decide +kernel
theorem dX9_buckets_40 : decode cX9_buckets 40 = .ok (.getfield 83, 3) := by decide +kernel
theorem dX9_buckets_43 : decode cX9_buckets 43 = .ok (.iload_n 1, 1) := by decide +kernel
theorem dX9_buckets_44 : decode cX9_buckets 44 = .ok (.iaload, 1) := by decide +kernel
theorem dX9_buckets_45 : decode cX9_buckets 45 = .ok (.ifCond .eq 14, 3) := by decide +kernel
theorem dX9_buckets_48 : decode cX9_buckets 48 = .ok (.aload_n 0, 1) := by decide +kernel
theorem dX9_buckets_49 : decode cX9_buckets 49 = .ok (.iload_n 1, 1) := by decide +kernel
theorem dX9_buckets_50 : decode cX9_buckets 50 = .ok (.invokevirtual 86, 3) := by decide +kernel
theorem dX9_buckets_53 : decode cX9_buckets 53 = .ok (.ifCond .eq 6, 3) := by decide +kernel
theorem dX9_buckets_56 : decode cX9_buckets 56 = .ok (.iinc 2 1, 3) := by decide +kernel
theorem dX9_buckets_59 : decode cX9_buckets 59 = .ok (.iload_n 2, 1) := by decide +kernel
theorem dX9_buckets_60 : decode cX9_buckets 60 = .ok (.aload_n 0, 1) := by decide +kernel
theorem dX9_buckets_61 : decode cX9_buckets 61 = .ok (.getfield 18, 3) := by decide +kernel
theorem dX9_buckets_64 : decode cX9_buckets 64 = .ok (.iload_n 1, 1) := by decide +kernel
theorem dX9_buckets_65 : decode cX9_buckets 65 = .ok (.iaload, 1) := by decide +kernel
theorem dX9_buckets_66 : decode cX9_buckets 66 = .ok (.aload_n 0, 1) := by decide +kernel
theorem dX9_buckets_67 : decode cX9_buckets 67 = .ok (.getfield 28, 3) := by decide +kernel
theorem dX9_buckets_70 : decode cX9_buckets 70 = .ok (.getfield 90, 3) := by decide +kernel
theorem dX9_buckets_73 : decode cX9_buckets 73 = .ok (.iload_n 1, 1) := by decide +kernel
theorem dX9_buckets_74 : decode cX9_buckets 74 = .ok (.iaload, 1) := by decide +kernel
theorem dX9_buckets_75 : decode cX9_buckets 75 = .ok (.invokestatic 93, 3) := by decide +kernel
theorem dX9_buckets_78 : decode cX9_buckets 78 = .ok (.ireturn, 1) := by decide +kernel
theorem dX9_halved_0 : decode cX9_halved 0 = .ok (.iload_n 1, 1) := by decide +kernel
theorem dX9_halved_1 : decode cX9_halved 1 = .ok (.iconst 3, 1) := by decide +kernel
theorem dX9_halved_2 : decode cX9_halved 2 = .ok (.if_icmp .ge 9, 3) := by decide +kernel
theorem dX9_halved_5 : decode cX9_halved 5 = .ok (.iload_n 0, 1) := by decide +kernel
theorem dX9_halved_6 : decode cX9_halved 6 = .ok (.iconst 2, 1) := by decide +kernel
theorem dX9_halved_7 : decode cX9_halved 7 = .ok (.idiv, 1) := by decide +kernel
theorem dX9_halved_8 : decode cX9_halved 8 = .ok (.goto 4, 3) := by decide +kernel
theorem dX9_halved_11 : decode cX9_halved 11 = .ok (.iload_n 0, 1) := by decide +kernel
theorem dX9_halved_12 : decode cX9_halved 12 = .ok (.istore_n 3, 1) := by decide +kernel
theorem dX9_halved_13 : decode cX9_halved 13 = .ok (.iload_n 2, 1) := by decide +kernel
theorem dX9_halved_14 : decode cX9_halved 14 = .ok (.bipush 13, 2) := by decide +kernel
theorem dX9_halved_16 : decode cX9_halved 16 = .ok (.if_icmp .ne 9, 3) := by decide +kernel
theorem dX9_halved_19 : decode cX9_halved 19 = .ok (.iload_n 3, 1) := by decide +kernel
theorem dX9_halved_20 : decode cX9_halved 20 = .ok (.iconst 2, 1) := by decide +kernel
theorem dX9_halved_21 : decode cX9_halved 21 = .ok (.idiv, 1) := by decide +kernel
theorem dX9_halved_22 : decode cX9_halved 22 = .ok (.goto 4, 3) := by decide +kernel
theorem dX9_halved_25 : decode cX9_halved 25 = .ok (.iload_n 3, 1) := by decide +kernel
theorem dX9_halved_26 : decode cX9_halved 26 = .ok (.ireturn, 1) := by decide +kernel
theorem dX9_palNear_0 : decode cX9_palNear 0 = .ok (.aload_n 0, 1) := by decide +kernel
theorem dX9_palNear_1 : decode cX9_palNear 1 = .ok (.getfield 28, 3) := by decide +kernel
theorem dX9_palNear_4 : decode cX9_palNear 4 = .ok (.getfield 83, 3) := by decide +kernel
theorem dX9_palNear_7 : decode cX9_palNear 7 = .ok (.iload_n 1, 1) := by decide +kernel
theorem dX9_palNear_8 : decode cX9_palNear 8 = .ok (.iaload, 1) := by decide +kernel
theorem dX9_palNear_9 : decode cX9_palNear 9 = .ok (.istore_n 2, 1) := by decide +kernel
theorem dX9_palNear_10 : decode cX9_palNear 10 = .ok (.iconst 0, 1) := by decide +kernel
theorem dX9_palNear_11 : decode cX9_palNear 11 = .ok (.istore_n 3, 1) := by decide +kernel
theorem dX9_palNear_12 : decode cX9_palNear 12 = .ok (.iload_n 3, 1) := by decide +kernel
theorem dX9_palNear_13 : decode cX9_palNear 13 = .ok (.aload_n 0, 1) := by decide +kernel
theorem dX9_palNear_14 : decode cX9_palNear 14 = .ok (.getfield 28, 3) := by decide +kernel
theorem dX9_palNear_17 : decode cX9_palNear 17 = .ok (.getfield 54, 3) := by decide +kernel
theorem dX9_palNear_20 : decode cX9_palNear 20 = .ok (.if_icmp .ge 49, 3) := by decide +kernel
theorem dX9_palNear_23 : decode cX9_palNear 23 = .ok (.iload_n 2, 1) := by decide +kernel
theorem dX9_palNear_24 : decode cX9_palNear 24 = .ok (.iload_n 3, 1) := by decide +kernel
theorem dX9_palNear_25 : decode cX9_palNear 25 = .ok (.ishr, 1) := by decide +kernel
theorem dX9_palNear_26 : decode cX9_palNear 26 = .ok (.iconst 1, 1) := by decide +kernel
theorem dX9_palNear_27 : decode cX9_palNear 27 = .ok (.iand, 1) := by decide +kernel
theorem dX9_palNear_28 : decode cX9_palNear 28 = .ok (.ifCond .eq 35, 3) := by decide +kernel
theorem dX9_palNear_31 : decode cX9_palNear 31 = .ok (.aload_n 0, 1) := by decide +kernel
theorem dX9_palNear_32 : decode cX9_palNear 32 = .ok (.getfield 21, 3) := by decide +kernel
theorem dX9_palNear_35 : decode cX9_palNear 35 = .ok (.iload_n 3, 1) := by decide +kernel
theorem dX9_palNear_36 : decode cX9_palNear 36 = .ok (.iaload, 1) := by decide +kernel
theorem dX9_palNear_37 : decode cX9_palNear 37 = .ok (.iconst (-1), 1) := by decide +kernel
theorem dX9_palNear_38 : decode cX9_palNear 38 = .ok (.if_icmp .eq 25, 3) := by decide +kernel
theorem dX9_palNear_41 : decode cX9_palNear 41 = .ok (.aload_n 0, 1) := by decide +kernel
theorem dX9_palNear_42 : decode cX9_palNear 42 = .ok (.getfield 21, 3) := by decide +kernel
theorem dX9_palNear_45 : decode cX9_palNear 45 = .ok (.iload_n 3, 1) := by decide +kernel
theorem dX9_palNear_46 : decode cX9_palNear 46 = .ok (.iaload, 1) := by decide +kernel
theorem dX9_palNear_47 : decode cX9_palNear 47 = .ok (.aload_n 0, 1) := by decide +kernel
theorem dX9_palNear_48 : decode cX9_palNear 48 = .ok (.getfield 21, 3) := by decide +kernel
theorem dX9_palNear_51 : decode cX9_palNear 51 = .ok (.iload_n 1, 1) := by decide +kernel
theorem dX9_palNear_52 : decode cX9_palNear 52 = .ok (.iaload, 1) := by decide +kernel
theorem dX9_palNear_53 : decode cX9_palNear 53 = .ok (.isub, 1) := by decide +kernel
theorem dX9_palNear_54 : decode cX9_palNear 54 = .ok (.invokestatic 97, 3) := by decide +kernel
theorem dX9_palNear_57 : decode cX9_palNear 57 = .ok (.iconst 1, 1) := by decide +kernel
theorem dX9_palNear_58 : decode cX9_palNear 58 = .ok (.if_icmp .gt 5, 3) := by decide +kernel
theorem dX9_palNear_61 : decode cX9_palNear 61 = .ok (.iconst 1, 1) := by decide +kernel
theorem dX9_palNear_62 : decode cX9_palNear 62 = .ok (.ireturn, 1) := by decide +kernel
theorem dX9_palNear_63 : decode cX9_palNear 63 = .ok (.iinc 3 1, 3) := by decide +kernel
theorem dX9_palNear_66 : decode cX9_palNear 66 = .ok (.goto (-54), 3) := by decide +kernel
theorem dX9_palNear_69 : decode cX9_palNear 69 = .ok (.iconst 0, 1) := by decide +kernel
theorem dX9_palNear_70 : decode cX9_palNear 70 = .ok (.ireturn, 1) := by decide +kernel
theorem dX9_bucketsTogether_0 : decode cX9_bucketsTogether 0 = .ok (.iconst 0, 1) := by decide +kernel
theorem dX9_bucketsTogether_1 : decode cX9_bucketsTogether 1 = .ok (.istore_n 1, 1) := by decide +kernel
theorem dX9_bucketsTogether_2 : decode cX9_bucketsTogether 2 = .ok (.iconst 0, 1) := by decide +kernel
theorem dX9_bucketsTogether_3 : decode cX9_bucketsTogether 3 = .ok (.istore_n 2, 1) := by decide +kernel
theorem dX9_bucketsTogether_4 : decode cX9_bucketsTogether 4 = .ok (.iload_n 2, 1) := by decide +kernel
theorem dX9_bucketsTogether_5 : decode cX9_bucketsTogether 5 = .ok (.aload_n 0, 1) := by decide +kernel
theorem dX9_bucketsTogether_6 : decode cX9_bucketsTogether 6 = .ok (.getfield 28, 3) := by decide +kernel
theorem dX9_bucketsTogether_9 : decode cX9_bucketsTogether 9 = .ok (.getfield 54, 3) := by decide +kernel
theorem dX9_bucketsTogether_12 : decode cX9_bucketsTogether 12 = .ok (.if_icmp .ge 17, 3) := by decide +kernel
theorem dX9_bucketsTogether_15 : decode cX9_bucketsTogether 15 = .ok (.iload_n 1, 1) := by decide +kernel
theorem dX9_bucketsTogether_16 : decode cX9_bucketsTogether 16 = .ok (.aload_n 0, 1) := by decide +kernel
theorem dX9_bucketsTogether_17 : decode cX9_bucketsTogether 17 = .ok (.iload_n 2, 1) := by decide +kernel
theorem dX9_bucketsTogether_18 : decode cX9_bucketsTogether 18 = .ok (.invokevirtual 100, 3) := by decide +kernel
theorem dX9_bucketsTogether_21 : decode cX9_bucketsTogether 21 = .ok (.iadd, 1) := by decide +kernel
theorem dX9_bucketsTogether_22 : decode cX9_bucketsTogether 22 = .ok (.istore_n 1, 1) := by decide +kernel
theorem dX9_bucketsTogether_23 : decode cX9_bucketsTogether 23 = .ok (.iinc 2 1, 3) := by decide +kernel
theorem dX9_bucketsTogether_26 : decode cX9_bucketsTogether 26 = .ok (.goto (-22), 3) := by decide +kernel
theorem dX9_bucketsTogether_29 : decode cX9_bucketsTogether 29 = .ok (.iload_n 1, 1) := by decide +kernel
theorem dX9_bucketsTogether_30 : decode cX9_bucketsTogether 30 = .ok (.ireturn, 1) := by decide +kernel
theorem dX9_buildOn_0 : decode cX9_buildOn 0 = .ok (.iconst 0, 1) := by decide +kernel
theorem dX9_buildOn_1 : decode cX9_buildOn 1 = .ok (.istore_n 2, 1) := by decide +kernel
theorem dX9_buildOn_2 : decode cX9_buildOn 2 = .ok (.iload_n 2, 1) := by decide +kernel
theorem dX9_buildOn_3 : decode cX9_buildOn 3 = .ok (.iload_n 1, 1) := by decide +kernel
theorem dX9_buildOn_4 : decode cX9_buildOn 4 = .ok (.if_icmp .ge 13, 3) := by decide +kernel
theorem dX9_buildOn_7 : decode cX9_buildOn 7 = .ok (.aload_n 0, 1) := by decide +kernel
theorem dX9_buildOn_8 : decode cX9_buildOn 8 = .ok (.invokevirtual 103, 3) := by decide +kernel
theorem dX9_buildOn_11 : decode cX9_buildOn 11 = .ok (.iinc 2 1, 3) := by decide +kernel
theorem dX9_buildOn_14 : decode cX9_buildOn 14 = .ok (.goto (-12), 3) := by decide +kernel
theorem dX9_buildOn_17 : decode cX9_buildOn 17 = .ok (.return_, 1) := by decide +kernel
theorem dX9_spell_0 : decode cX9_spell 0 = .ok (.iconst 0, 1) := by decide +kernel
theorem dX9_spell_1 : decode cX9_spell 1 = .ok (.istore_n 1, 1) := by decide +kernel
theorem dX9_spell_2 : decode cX9_spell 2 = .ok (.iload_n 1, 1) := by decide +kernel
theorem dX9_spell_3 : decode cX9_spell 3 = .ok (.aload_n 0, 1) := by decide +kernel
theorem dX9_spell_4 : decode cX9_spell 4 = .ok (.getfield 28, 3) := by decide +kernel
theorem dX9_spell_7 : decode cX9_spell 7 = .ok (.getfield 54, 3) := by decide +kernel
theorem dX9_spell_10 : decode cX9_spell 10 = .ok (.if_icmp .ge 51, 3) := by decide +kernel
theorem dX9_spell_13 : decode cX9_spell 13 = .ok (.aload_n 0, 1) := by decide +kernel
theorem dX9_spell_14 : decode cX9_spell 14 = .ok (.getfield 21, 3) := by decide +kernel
theorem dX9_spell_17 : decode cX9_spell 17 = .ok (.iload_n 1, 1) := by decide +kernel
theorem dX9_spell_18 : decode cX9_spell 18 = .ok (.iaload, 1) := by decide +kernel
theorem dX9_spell_19 : decode cX9_spell 19 = .ok (.istore_n 2, 1) := by decide +kernel
theorem dX9_spell_20 : decode cX9_spell 20 = .ok (.aload_n 0, 1) := by decide +kernel
theorem dX9_spell_21 : decode cX9_spell 21 = .ok (.getfield 24, 3) := by decide +kernel
theorem dX9_spell_24 : decode cX9_spell 24 = .ok (.iload_n 2, 1) := by decide +kernel
theorem dX9_spell_25 : decode cX9_spell 25 = .ok (.invokevirtual 106, 3) := by decide +kernel
theorem dX9_spell_28 : decode cX9_spell 28 = .ok (.ifCond .eq 27, 3) := by decide +kernel
theorem dX9_spell_31 : decode cX9_spell 31 = .ok (.aload_n 0, 1) := by decide +kernel
theorem dX9_spell_32 : decode cX9_spell 32 = .ok (.getfield 9, 3) := by decide +kernel
theorem dX9_spell_35 : decode cX9_spell 35 = .ok (.iload_n 2, 1) := by decide +kernel
theorem dX9_spell_36 : decode cX9_spell 36 = .ok (.sipush 999, 3) := by decide +kernel
theorem dX9_spell_39 : decode cX9_spell 39 = .ok (.aload_n 0, 1) := by decide +kernel
theorem dX9_spell_40 : decode cX9_spell 40 = .ok (.getfield 9, 3) := by decide +kernel
theorem dX9_spell_43 : decode cX9_spell 43 = .ok (.iload_n 2, 1) := by decide +kernel
theorem dX9_spell_44 : decode cX9_spell 44 = .ok (.iaload, 1) := by decide +kernel
theorem dX9_spell_45 : decode cX9_spell 45 = .ok (.aload_n 0, 1) := by decide +kernel
theorem dX9_spell_46 : decode cX9_spell 46 = .ok (.iload_n 1, 1) := by decide +kernel
theorem dX9_spell_47 : decode cX9_spell 47 = .ok (.invokevirtual 100, 3) := by decide +kernel
theorem dX9_spell_50 : decode cX9_spell 50 = .ok (.iadd, 1) := by decide +kernel
theorem dX9_spell_51 : decode cX9_spell 51 = .ok (.invokestatic 71, 3) := by decide +kernel
theorem dX9_spell_54 : decode cX9_spell 54 = .ok (.iastore, 1) := by decide +kernel
theorem dX9_spell_55 : decode cX9_spell 55 = .ok (.iinc 1 1, 3) := by decide +kernel
theorem dX9_spell_58 : decode cX9_spell 58 = .ok (.goto (-56), 3) := by decide +kernel
theorem dX9_spell_61 : decode cX9_spell 61 = .ok (.iconst 0, 1) := by decide +kernel
theorem dX9_spell_62 : decode cX9_spell 62 = .ok (.istore_n 1, 1) := by decide +kernel
theorem dX9_spell_63 : decode cX9_spell 63 = .ok (.iload_n 1, 1) := by decide +kernel
theorem dX9_spell_64 : decode cX9_spell 64 = .ok (.aload_n 0, 1) := by decide +kernel
theorem dX9_spell_65 : decode cX9_spell 65 = .ok (.getfield 28, 3) := by decide +kernel
theorem dX9_spell_68 : decode cX9_spell 68 = .ok (.getfield 54, 3) := by decide +kernel
theorem dX9_spell_71 : decode cX9_spell 71 = .ok (.if_icmp .ge 53, 3) := by decide +kernel
theorem dX9_spell_74 : decode cX9_spell 74 = .ok (.aload_n 0, 1) := by decide +kernel
theorem dX9_spell_75 : decode cX9_spell 75 = .ok (.getfield 21, 3) := by decide +kernel
theorem dX9_spell_78 : decode cX9_spell 78 = .ok (.iload_n 1, 1) := by decide +kernel
theorem dX9_spell_79 : decode cX9_spell 79 = .ok (.iaload, 1) := by decide +kernel
theorem dX9_spell_80 : decode cX9_spell 80 = .ok (.iconst (-1), 1) := by decide +kernel
theorem dX9_spell_81 : decode cX9_spell 81 = .ok (.if_icmp .eq 37, 3) := by decide +kernel
theorem dX9_spell_84 : decode cX9_spell 84 = .ok (.aload_n 0, 1) := by decide +kernel
theorem dX9_spell_85 : decode cX9_spell 85 = .ok (.getfield 18, 3) := by decide +kernel
theorem dX9_spell_88 : decode cX9_spell 88 = .ok (.iload_n 1, 1) := by decide +kernel
theorem dX9_spell_89 : decode cX9_spell 89 = .ok (.iconst 0, 1) := by decide +kernel
theorem dX9_spell_90 : decode cX9_spell 90 = .ok (.aload_n 0, 1) := by decide +kernel
theorem dX9_spell_91 : decode cX9_spell 91 = .ok (.getfield 18, 3) := by decide +kernel
theorem dX9_spell_94 : decode cX9_spell 94 = .ok (.iload_n 1, 1) := by decide +kernel
theorem dX9_spell_95 : decode cX9_spell 95 = .ok (.iaload, 1) := by decide +kernel
theorem dX9_spell_96 : decode cX9_spell 96 = .ok (.iconst 1, 1) := by decide +kernel
theorem dX9_spell_97 : decode cX9_spell 97 = .ok (.isub, 1) := by decide +kernel
theorem dX9_spell_98 : decode cX9_spell 98 = .ok (.invokestatic 109, 3) := by decide +kernel
theorem dX9_spell_101 : decode cX9_spell 101 = .ok (.iastore, 1) := by decide +kernel
theorem dX9_spell_102 : decode cX9_spell 102 = .ok (.aload_n 0, 1) := by decide +kernel
theorem dX9_spell_103 : decode cX9_spell 103 = .ok (.getfield 18, 3) := by decide +kernel
theorem dX9_spell_106 : decode cX9_spell 106 = .ok (.iload_n 1, 1) := by decide +kernel
theorem dX9_spell_107 : decode cX9_spell 107 = .ok (.iaload, 1) := by decide +kernel
theorem dX9_spell_108 : decode cX9_spell 108 = .ok (.ifCond .ne 10, 3) := by decide +kernel
theorem dX9_spell_111 : decode cX9_spell 111 = .ok (.aload_n 0, 1) := by decide +kernel
theorem dX9_spell_112 : decode cX9_spell 112 = .ok (.getfield 21, 3) := by decide +kernel
theorem dX9_spell_115 : decode cX9_spell 115 = .ok (.iload_n 1, 1) := by decide +kernel
theorem dX9_spell_116 : decode cX9_spell 116 = .ok (.iconst (-1), 1) := by decide +kernel
theorem dX9_spell_117 : decode cX9_spell 117 = .ok (.iastore, 1) := by decide +kernel
theorem dX9_spell_118 : decode cX9_spell 118 = .ok (.iinc 1 1, 3) := by decide +kernel
theorem dX9_spell_121 : decode cX9_spell 121 = .ok (.goto (-58), 3) := by decide +kernel
theorem dX9_spell_124 : decode cX9_spell 124 = .ok (.return_, 1) := by decide +kernel
theorem dX9_surge_0 : decode cX9_surge 0 = .ok (.iconst 0, 1) := by decide +kernel
theorem dX9_surge_1 : decode cX9_surge 1 = .ok (.istore_n 2, 1) := by decide +kernel
theorem dX9_surge_2 : decode cX9_surge 2 = .ok (.iconst 0, 1) := by decide +kernel
theorem dX9_surge_3 : decode cX9_surge 3 = .ok (.istore_n 3, 1) := by decide +kernel
theorem dX9_surge_4 : decode cX9_surge 4 = .ok (.iload_n 3, 1) := by decide +kernel
theorem dX9_surge_5 : decode cX9_surge 5 = .ok (.aload_n 0, 1) := by decide +kernel
theorem dX9_surge_6 : decode cX9_surge 6 = .ok (.getfield 24, 3) := by decide +kernel
theorem dX9_surge_9 : decode cX9_surge 9 = .ok (.getfield 68, 3) := by decide +kernel
theorem dX9_surge_12 : decode cX9_surge 12 = .ok (.if_icmp .ge 113, 3) := by decide +kernel
theorem dX9_surge_15 : decode cX9_surge 15 = .ok (.iload_n 1, 1) := by decide +kernel
theorem dX9_surge_16 : decode cX9_surge 16 = .ok (.aload_n 0, 1) := by decide +kernel
theorem dX9_surge_17 : decode cX9_surge 17 = .ok (.iload_n 3, 1) := by decide +kernel
theorem dX9_surge_18 : decode cX9_surge 18 = .ok (.invokevirtual 64, 3) := by decide +kernel
theorem dX9_surge_21 : decode cX9_surge 21 = .ok (.isub, 1) := by decide +kernel
theorem dX9_surge_22 : decode cX9_surge 22 = .ok (.istore 4, 2) := by decide +kernel
theorem dX9_surge_24 : decode cX9_surge 24 = .ok (.iload 4, 2) := by decide +kernel
theorem dX9_surge_26 : decode cX9_surge 26 = .ok (.ifCond .le 43, 3) := by decide +kernel
theorem dX9_surge_29 : decode cX9_surge 29 = .ok (.iload_n 2, 1) := by decide +kernel
theorem dX9_surge_30 : decode cX9_surge 30 = .ok (.iconst 1, 1) := by decide +kernel
theorem dX9_surge_31 : decode cX9_surge 31 = .ok (.iload_n 3, 1) := by decide +kernel
theorem dX9_surge_32 : decode cX9_surge 32 = .ok (.ishl, 1) := by decide +kernel
theorem dX9_surge_33 : decode cX9_surge 33 = .ok (.ior, 1) := by decide +kernel
theorem dX9_surge_34 : decode cX9_surge 34 = .ok (.istore_n 2, 1) := by decide +kernel
theorem dX9_surge_35 : decode cX9_surge 35 = .ok (.aload_n 0, 1) := by decide +kernel
theorem dX9_surge_36 : decode cX9_surge 36 = .ok (.getfield 15, 3) := by decide +kernel
theorem dX9_surge_39 : decode cX9_surge 39 = .ok (.iload_n 3, 1) := by decide +kernel
theorem dX9_surge_40 : decode cX9_surge 40 = .ok (.sipush 999, 3) := by decide +kernel
theorem dX9_surge_43 : decode cX9_surge 43 = .ok (.aload_n 0, 1) := by decide +kernel
theorem dX9_surge_44 : decode cX9_surge 44 = .ok (.getfield 15, 3) := by decide +kernel
theorem dX9_surge_47 : decode cX9_surge 47 = .ok (.iload_n 3, 1) := by decide +kernel
theorem dX9_surge_48 : decode cX9_surge 48 = .ok (.iaload, 1) := by decide +kernel
theorem dX9_surge_49 : decode cX9_surge 49 = .ok (.iload 4, 2) := by decide +kernel
theorem dX9_surge_51 : decode cX9_surge 51 = .ok (.iadd, 1) := by decide +kernel
theorem dX9_surge_52 : decode cX9_surge 52 = .ok (.invokestatic 71, 3) := by decide +kernel
theorem dX9_surge_55 : decode cX9_surge 55 = .ok (.iastore, 1) := by decide +kernel
theorem dX9_surge_56 : decode cX9_surge 56 = .ok (.aload_n 0, 1) := by decide +kernel
theorem dX9_surge_57 : decode cX9_surge 57 = .ok (.getfield 9, 3) := by decide +kernel
theorem dX9_surge_60 : decode cX9_surge 60 = .ok (.iload_n 3, 1) := by decide +kernel
theorem dX9_surge_61 : decode cX9_surge 61 = .ok (.dup2, 1) := by decide +kernel
theorem dX9_surge_62 : decode cX9_surge 62 = .ok (.iaload, 1) := by decide +kernel
theorem dX9_surge_63 : decode cX9_surge 63 = .ok (.iconst 2, 1) := by decide +kernel
theorem dX9_surge_64 : decode cX9_surge 64 = .ok (.idiv, 1) := by decide +kernel
theorem dX9_surge_65 : decode cX9_surge 65 = .ok (.iastore, 1) := by decide +kernel
theorem dX9_surge_66 : decode cX9_surge 66 = .ok (.goto 53, 3) := by decide +kernel
theorem dX9_surge_69 : decode cX9_surge 69 = .ok (.aload_n 0, 1) := by decide +kernel
theorem dX9_surge_70 : decode cX9_surge 70 = .ok (.getfield 38, 3) := by decide +kernel
theorem dX9_surge_73 : decode cX9_surge 73 = .ok (.iload_n 3, 1) := by decide +kernel
theorem dX9_surge_74 : decode cX9_surge 74 = .ok (.ishr, 1) := by decide +kernel
theorem dX9_surge_75 : decode cX9_surge 75 = .ok (.iconst 1, 1) := by decide +kernel
theorem dX9_surge_76 : decode cX9_surge 76 = .ok (.iand, 1) := by decide +kernel
theorem dX9_surge_77 : decode cX9_surge 77 = .ok (.ifCond .eq 7, 3) := by decide +kernel
theorem dX9_surge_80 : decode cX9_surge 80 = .ok (.iconst 1, 1) := by decide +kernel
theorem dX9_surge_81 : decode cX9_surge 81 = .ok (.goto 4, 3) := by decide +kernel
theorem dX9_surge_84 : decode cX9_surge 84 = .ok (.iconst 0, 1) := by decide +kernel
theorem dX9_surge_85 : decode cX9_surge 85 = .ok (.istore 5, 2) := by decide +kernel
theorem dX9_surge_87 : decode cX9_surge 87 = .ok (.aload_n 0, 1) := by decide +kernel
theorem dX9_surge_88 : decode cX9_surge 88 = .ok (.getfield 9, 3) := by decide +kernel
theorem dX9_surge_91 : decode cX9_surge 91 = .ok (.iload_n 3, 1) := by decide +kernel
theorem dX9_surge_92 : decode cX9_surge 92 = .ok (.iconst 0, 1) := by decide +kernel
theorem dX9_surge_93 : decode cX9_surge 93 = .ok (.aload_n 0, 1) := by decide +kernel
theorem dX9_surge_94 : decode cX9_surge 94 = .ok (.getfield 9, 3) := by decide +kernel
theorem dX9_surge_97 : decode cX9_surge 97 = .ok (.iload_n 3, 1) := by decide +kernel
theorem dX9_surge_98 : decode cX9_surge 98 = .ok (.iaload, 1) := by decide +kernel
theorem dX9_surge_99 : decode cX9_surge 99 = .ok (.iload_n 1, 1) := by decide +kernel
theorem dX9_surge_100 : decode cX9_surge 100 = .ok (.aload_n 0, 1) := by decide +kernel
theorem dX9_surge_101 : decode cX9_surge 101 = .ok (.getfield 24, 3) := by decide +kernel
theorem dX9_surge_104 : decode cX9_surge 104 = .ok (.getfield 59, 3) := by decide +kernel
theorem dX9_surge_107 : decode cX9_surge 107 = .ok (.iload_n 3, 1) := by decide +kernel
theorem dX9_surge_108 : decode cX9_surge 108 = .ok (.iaload, 1) := by decide +kernel
theorem dX9_surge_109 : decode cX9_surge 109 = .ok (.iload 5, 2) := by decide +kernel
theorem dX9_surge_111 : decode cX9_surge 111 = .ok (.invokestatic 112, 3) := by decide +kernel
theorem dX9_surge_114 : decode cX9_surge 114 = .ok (.isub, 1) := by decide +kernel
theorem dX9_surge_115 : decode cX9_surge 115 = .ok (.invokestatic 109, 3) := by decide +kernel
theorem dX9_surge_118 : decode cX9_surge 118 = .ok (.iastore, 1) := by decide +kernel
theorem dX9_surge_119 : decode cX9_surge 119 = .ok (.iinc 3 1, 3) := by decide +kernel
theorem dX9_surge_122 : decode cX9_surge 122 = .ok (.goto (-118), 3) := by decide +kernel
theorem dX9_surge_125 : decode cX9_surge 125 = .ok (.aload_n 0, 1) := by decide +kernel
theorem dX9_surge_126 : decode cX9_surge 126 = .ok (.dup, 1) := by decide +kernel
theorem dX9_surge_127 : decode cX9_surge 127 = .ok (.getfield 38, 3) := by decide +kernel
theorem dX9_surge_130 : decode cX9_surge 130 = .ok (.iload_n 2, 1) := by decide +kernel
theorem dX9_surge_131 : decode cX9_surge 131 = .ok (.iconst (-1), 1) := by decide +kernel
theorem dX9_surge_132 : decode cX9_surge 132 = .ok (.ixor, 1) := by decide +kernel
theorem dX9_surge_133 : decode cX9_surge 133 = .ok (.iand, 1) := by decide +kernel
theorem dX9_surge_134 : decode cX9_surge 134 = .ok (.putfield 38, 3) := by decide +kernel
theorem dX9_surge_137 : decode cX9_surge 137 = .ok (.aload_n 0, 1) := by decide +kernel
theorem dX9_surge_138 : decode cX9_surge 138 = .ok (.invokevirtual 116, 3) := by decide +kernel
theorem dX9_surge_141 : decode cX9_surge 141 = .ok (.aload_n 0, 1) := by decide +kernel
theorem dX9_surge_142 : decode cX9_surge 142 = .ok (.dup, 1) := by decide +kernel
theorem dX9_surge_143 : decode cX9_surge 143 = .ok (.getfield 45, 3) := by decide +kernel
theorem dX9_surge_146 : decode cX9_surge 146 = .ok (.iconst 1, 1) := by decide +kernel
theorem dX9_surge_147 : decode cX9_surge 147 = .ok (.iadd, 1) := by decide +kernel
theorem dX9_surge_148 : decode cX9_surge 148 = .ok (.putfield 45, 3) := by decide +kernel
theorem dX9_surge_151 : decode cX9_surge 151 = .ok (.iload_n 2, 1) := by decide +kernel
theorem dX9_surge_152 : decode cX9_surge 152 = .ok (.ireturn, 1) := by decide +kernel
theorem dX9_spread_0 : decode cX9_spread 0 = .ok (.iconst 1, 1) := by decide +kernel
theorem dX9_spread_1 : decode cX9_spread 1 = .ok (.istore_n 1, 1) := by decide +kernel
theorem dX9_spread_2 : decode cX9_spread 2 = .ok (.iload_n 1, 1) := by decide +kernel
theorem dX9_spread_3 : decode cX9_spread 3 = .ok (.aload_n 0, 1) := by decide +kernel
theorem dX9_spread_4 : decode cX9_spread 4 = .ok (.getfield 24, 3) := by decide +kernel
theorem dX9_spread_7 : decode cX9_spread 7 = .ok (.getfield 68, 3) := by decide +kernel
theorem dX9_spread_10 : decode cX9_spread 10 = .ok (.if_icmp .ge 46, 3) := by decide +kernel
theorem dX9_spread_13 : decode cX9_spread 13 = .ok (.aload_n 0, 1) := by decide +kernel
theorem dX9_spread_14 : decode cX9_spread 14 = .ok (.getfield 15, 3) := by decide +kernel
theorem dX9_spread_17 : decode cX9_spread 17 = .ok (.iload_n 1, 1) := by decide +kernel
theorem dX9_spread_18 : decode cX9_spread 18 = .ok (.aload_n 0, 1) := by decide +kernel
theorem dX9_spread_19 : decode cX9_spread 19 = .ok (.getfield 15, 3) := by decide +kernel
theorem dX9_spread_22 : decode cX9_spread 22 = .ok (.iload_n 1, 1) := by decide +kernel
theorem dX9_spread_23 : decode cX9_spread 23 = .ok (.iaload, 1) := by decide +kernel
theorem dX9_spread_24 : decode cX9_spread 24 = .ok (.aload_n 0, 1) := by decide +kernel
theorem dX9_spread_25 : decode cX9_spread 25 = .ok (.getfield 15, 3) := by decide +kernel
theorem dX9_spread_28 : decode cX9_spread 28 = .ok (.iload_n 1, 1) := by decide +kernel
theorem dX9_spread_29 : decode cX9_spread 29 = .ok (.iconst 1, 1) := by decide +kernel
theorem dX9_spread_30 : decode cX9_spread 30 = .ok (.isub, 1) := by decide +kernel
theorem dX9_spread_31 : decode cX9_spread 31 = .ok (.iaload, 1) := by decide +kernel
theorem dX9_spread_32 : decode cX9_spread 32 = .ok (.aload_n 0, 1) := by decide +kernel
theorem dX9_spread_33 : decode cX9_spread 33 = .ok (.getfield 24, 3) := by decide +kernel
theorem dX9_spread_36 : decode cX9_spread 36 = .ok (.getfield 119, 3) := by decide +kernel
theorem dX9_spread_39 : decode cX9_spread 39 = .ok (.iload_n 1, 1) := by decide +kernel
theorem dX9_spread_40 : decode cX9_spread 40 = .ok (.iconst 1, 1) := by decide +kernel
theorem dX9_spread_41 : decode cX9_spread 41 = .ok (.isub, 1) := by decide +kernel
theorem dX9_spread_42 : decode cX9_spread 42 = .ok (.iaload, 1) := by decide +kernel
theorem dX9_spread_43 : decode cX9_spread 43 = .ok (.isub, 1) := by decide +kernel
theorem dX9_spread_44 : decode cX9_spread 44 = .ok (.iconst 1, 1) := by decide +kernel
theorem dX9_spread_45 : decode cX9_spread 45 = .ok (.isub, 1) := by decide +kernel
theorem dX9_spread_46 : decode cX9_spread 46 = .ok (.invokestatic 109, 3) := by decide +kernel
theorem dX9_spread_49 : decode cX9_spread 49 = .ok (.iastore, 1) := by decide +kernel
theorem dX9_spread_50 : decode cX9_spread 50 = .ok (.iinc 1 1, 3) := by decide +kernel
theorem dX9_spread_53 : decode cX9_spread 53 = .ok (.goto (-51), 3) := by decide +kernel
theorem dX9_spread_56 : decode cX9_spread 56 = .ok (.aload_n 0, 1) := by decide +kernel
theorem dX9_spread_57 : decode cX9_spread 57 = .ok (.getfield 24, 3) := by decide +kernel
theorem dX9_spread_60 : decode cX9_spread 60 = .ok (.getfield 68, 3) := by decide +kernel
theorem dX9_spread_63 : decode cX9_spread 63 = .ok (.iconst 1, 1) := by decide +kernel
theorem dX9_spread_64 : decode cX9_spread 64 = .ok (.isub, 1) := by decide +kernel
theorem dX9_spread_65 : decode cX9_spread 65 = .ok (.istore_n 1, 1) := by decide +kernel
theorem dX9_spread_66 : decode cX9_spread 66 = .ok (.iload_n 1, 1) := by decide +kernel
theorem dX9_spread_67 : decode cX9_spread 67 = .ok (.ifCond .le 48, 3) := by decide +kernel
theorem dX9_spread_70 : decode cX9_spread 70 = .ok (.aload_n 0, 1) := by decide +kernel
theorem dX9_spread_71 : decode cX9_spread 71 = .ok (.getfield 15, 3) := by decide +kernel
theorem dX9_spread_74 : decode cX9_spread 74 = .ok (.iload_n 1, 1) := by decide +kernel
theorem dX9_spread_75 : decode cX9_spread 75 = .ok (.iconst 1, 1) := by decide +kernel
theorem dX9_spread_76 : decode cX9_spread 76 = .ok (.isub, 1) := by decide +kernel
theorem dX9_spread_77 : decode cX9_spread 77 = .ok (.aload_n 0, 1) := by decide +kernel
theorem dX9_spread_78 : decode cX9_spread 78 = .ok (.getfield 15, 3) := by decide +kernel
theorem dX9_spread_81 : decode cX9_spread 81 = .ok (.iload_n 1, 1) := by decide +kernel
theorem dX9_spread_82 : decode cX9_spread 82 = .ok (.iconst 1, 1) := by decide +kernel
theorem dX9_spread_83 : decode cX9_spread 83 = .ok (.isub, 1) := by decide +kernel
theorem dX9_spread_84 : decode cX9_spread 84 = .ok (.iaload, 1) := by decide +kernel
theorem dX9_spread_85 : decode cX9_spread 85 = .ok (.aload_n 0, 1) := by decide +kernel
theorem dX9_spread_86 : decode cX9_spread 86 = .ok (.getfield 15, 3) := by decide +kernel
theorem dX9_spread_89 : decode cX9_spread 89 = .ok (.iload_n 1, 1) := by decide +kernel
theorem dX9_spread_90 : decode cX9_spread 90 = .ok (.iaload, 1) := by decide +kernel
theorem dX9_spread_91 : decode cX9_spread 91 = .ok (.aload_n 0, 1) := by decide +kernel
theorem dX9_spread_92 : decode cX9_spread 92 = .ok (.getfield 24, 3) := by decide +kernel
theorem dX9_spread_95 : decode cX9_spread 95 = .ok (.getfield 119, 3) := by decide +kernel
theorem dX9_spread_98 : decode cX9_spread 98 = .ok (.iload_n 1, 1) := by decide +kernel
theorem dX9_spread_99 : decode cX9_spread 99 = .ok (.iconst 1, 1) := by decide +kernel
theorem dX9_spread_100 : decode cX9_spread 100 = .ok (.isub, 1) := by decide +kernel
theorem dX9_spread_101 : decode cX9_spread 101 = .ok (.iaload, 1) := by decide +kernel
theorem dX9_spread_102 : decode cX9_spread 102 = .ok (.isub, 1) := by decide +kernel
theorem dX9_spread_103 : decode cX9_spread 103 = .ok (.iconst 1, 1) := by decide +kernel
theorem dX9_spread_104 : decode cX9_spread 104 = .ok (.isub, 1) := by decide +kernel
theorem dX9_spread_105 : decode cX9_spread 105 = .ok (.invokestatic 109, 3) := by decide +kernel
theorem dX9_spread_108 : decode cX9_spread 108 = .ok (.iastore, 1) := by decide +kernel
theorem dX9_spread_109 : decode cX9_spread 109 = .ok (.iinc 1 (-1), 3) := by decide +kernel
theorem dX9_spread_112 : decode cX9_spread 112 = .ok (.goto (-46), 3) := by decide +kernel
theorem dX9_spread_115 : decode cX9_spread 115 = .ok (.return_, 1) := by decide +kernel
theorem dX9_send_0 : decode cX9_send 0 = .ok (.aload_n 0, 1) := by decide +kernel
theorem dX9_send_1 : decode cX9_send 1 = .ok (.getfield 28, 3) := by decide +kernel
theorem dX9_send_4 : decode cX9_send 4 = .ok (.iload_n 1, 1) := by decide +kernel
theorem dX9_send_5 : decode cX9_send 5 = .ok (.invokevirtual 122, 3) := by decide +kernel
theorem dX9_send_8 : decode cX9_send 8 = .ok (.ifCond .eq 14, 3) := by decide +kernel
theorem dX9_send_11 : decode cX9_send 11 = .ok (.aload_n 0, 1) := by decide +kernel
theorem dX9_send_12 : decode cX9_send 12 = .ok (.getfield 24, 3) := by decide +kernel
theorem dX9_send_15 : decode cX9_send 15 = .ok (.iload_n 2, 1) := by decide +kernel
theorem dX9_send_16 : decode cX9_send 16 = .ok (.invokevirtual 106, 3) := by decide +kernel
theorem dX9_send_19 : decode cX9_send 19 = .ok (.ifCond .ne 5, 3) := by decide +kernel
theorem dX9_send_22 : decode cX9_send 22 = .ok (.iconst (-1), 1) := by decide +kernel
theorem dX9_send_23 : decode cX9_send 23 = .ok (.ireturn, 1) := by decide +kernel
theorem dX9_send_24 : decode cX9_send 24 = .ok (.aload_n 0, 1) := by decide +kernel
theorem dX9_send_25 : decode cX9_send 25 = .ok (.getfield 18, 3) := by decide +kernel
theorem dX9_send_28 : decode cX9_send 28 = .ok (.iload_n 1, 1) := by decide +kernel
theorem dX9_send_29 : decode cX9_send 29 = .ok (.iaload, 1) := by decide +kernel
theorem dX9_send_30 : decode cX9_send 30 = .ok (.ifCond .ne 6, 3) := by decide +kernel
theorem dX9_send_33 : decode cX9_send 33 = .ok (.bipush (-2), 2) := by decide +kernel
theorem dX9_send_35 : decode cX9_send 35 = .ok (.ireturn, 1) := by decide +kernel
theorem dX9_send_36 : decode cX9_send 36 = .ok (.aload_n 0, 1) := by decide +kernel
theorem dX9_send_37 : decode cX9_send 37 = .ok (.getfield 21, 3) := by decide +kernel
theorem dX9_send_40 : decode cX9_send 40 = .ok (.iload_n 1, 1) := by decide +kernel
theorem dX9_send_41 : decode cX9_send 41 = .ok (.iaload, 1) := by decide +kernel
theorem dX9_send_42 : decode cX9_send 42 = .ok (.istore_n 3, 1) := by decide +kernel
theorem dX9_send_43 : decode cX9_send 43 = .ok (.iload_n 3, 1) := by decide +kernel
theorem dX9_send_44 : decode cX9_send 44 = .ok (.iload_n 2, 1) := by decide +kernel
theorem dX9_send_45 : decode cX9_send 45 = .ok (.if_icmp .ne 6, 3) := by decide +kernel
theorem dX9_send_48 : decode cX9_send 48 = .ok (.bipush (-3), 2) := by decide +kernel
theorem dX9_send_50 : decode cX9_send 50 = .ok (.ireturn, 1) := by decide +kernel
theorem dX9_send_51 : decode cX9_send 51 = .ok (.aload_n 0, 1) := by decide +kernel
theorem dX9_send_52 : decode cX9_send 52 = .ok (.getfield 21, 3) := by decide +kernel
theorem dX9_send_55 : decode cX9_send 55 = .ok (.iload_n 1, 1) := by decide +kernel
theorem dX9_send_56 : decode cX9_send 56 = .ok (.iload_n 2, 1) := by decide +kernel
theorem dX9_send_57 : decode cX9_send 57 = .ok (.iastore, 1) := by decide +kernel
theorem dX9_send_58 : decode cX9_send 58 = .ok (.iload_n 3, 1) := by decide +kernel
theorem dX9_send_59 : decode cX9_send 59 = .ok (.iconst 1, 1) := by decide +kernel
theorem dX9_send_60 : decode cX9_send 60 = .ok (.iadd, 1) := by decide +kernel
theorem dX9_send_61 : decode cX9_send 61 = .ok (.ireturn, 1) := by decide +kernel
theorem dX9_sendHome_0 : decode cX9_sendHome 0 = .ok (.aload_n 0, 1) := by decide +kernel
theorem dX9_sendHome_1 : decode cX9_sendHome 1 = .ok (.getfield 28, 3) := by decide +kernel
theorem dX9_sendHome_4 : decode cX9_sendHome 4 = .ok (.iload_n 1, 1) := by decide +kernel
theorem dX9_sendHome_5 : decode cX9_sendHome 5 = .ok (.invokevirtual 122, 3) := by decide +kernel
theorem dX9_sendHome_8 : decode cX9_sendHome 8 = .ok (.ifCond .ne 5, 3) := by decide +kernel
theorem dX9_sendHome_11 : decode cX9_sendHome 11 = .ok (.iconst (-1), 1) := by decide +kernel
theorem dX9_sendHome_12 : decode cX9_sendHome 12 = .ok (.ireturn, 1) := by decide +kernel
theorem dX9_sendHome_13 : decode cX9_sendHome 13 = .ok (.aload_n 0, 1) := by decide +kernel
theorem dX9_sendHome_14 : decode cX9_sendHome 14 = .ok (.getfield 21, 3) := by decide +kernel
theorem dX9_sendHome_17 : decode cX9_sendHome 17 = .ok (.iload_n 1, 1) := by decide +kernel
theorem dX9_sendHome_18 : decode cX9_sendHome 18 = .ok (.iaload, 1) := by decide +kernel
theorem dX9_sendHome_19 : decode cX9_sendHome 19 = .ok (.istore_n 2, 1) := by decide +kernel
theorem dX9_sendHome_20 : decode cX9_sendHome 20 = .ok (.iload_n 2, 1) := by decide +kernel
theorem dX9_sendHome_21 : decode cX9_sendHome 21 = .ok (.iconst (-1), 1) := by decide +kernel
theorem dX9_sendHome_22 : decode cX9_sendHome 22 = .ok (.if_icmp .ne 6, 3) := by decide +kernel
theorem dX9_sendHome_25 : decode cX9_sendHome 25 = .ok (.bipush (-2), 2) := by decide +kernel
theorem dX9_sendHome_27 : decode cX9_sendHome 27 = .ok (.ireturn, 1) := by decide +kernel
theorem dX9_sendHome_28 : decode cX9_sendHome 28 = .ok (.aload_n 0, 1) := by decide +kernel
theorem dX9_sendHome_29 : decode cX9_sendHome 29 = .ok (.getfield 21, 3) := by decide +kernel
theorem dX9_sendHome_32 : decode cX9_sendHome 32 = .ok (.iload_n 1, 1) := by decide +kernel
theorem dX9_sendHome_33 : decode cX9_sendHome 33 = .ok (.iconst (-1), 1) := by decide +kernel
theorem dX9_sendHome_34 : decode cX9_sendHome 34 = .ok (.iastore, 1) := by decide +kernel
theorem dX9_sendHome_35 : decode cX9_sendHome 35 = .ok (.iload_n 2, 1) := by decide +kernel
theorem dX9_sendHome_36 : decode cX9_sendHome 36 = .ok (.ireturn, 1) := by decide +kernel
theorem dX9_passSpade_0 : decode cX9_passSpade 0 = .ok (.aload_n 0, 1) := by decide +kernel
theorem dX9_passSpade_1 : decode cX9_passSpade 1 = .ok (.getfield 28, 3) := by decide +kernel
theorem dX9_passSpade_4 : decode cX9_passSpade 4 = .ok (.iload_n 1, 1) := by decide +kernel
theorem dX9_passSpade_5 : decode cX9_passSpade 5 = .ok (.invokevirtual 122, 3) := by decide +kernel
theorem dX9_passSpade_8 : decode cX9_passSpade 8 = .ok (.ifCond .ne 5, 3) := by decide +kernel
theorem dX9_passSpade_11 : decode cX9_passSpade 11 = .ok (.iconst (-1), 1) := by decide +kernel
theorem dX9_passSpade_12 : decode cX9_passSpade 12 = .ok (.ireturn, 1) := by decide +kernel
theorem dX9_passSpade_13 : decode cX9_passSpade 13 = .ok (.aload_n 0, 1) := by decide +kernel
theorem dX9_passSpade_14 : decode cX9_passSpade 14 = .ok (.getfield 42, 3) := by decide +kernel
theorem dX9_passSpade_17 : decode cX9_passSpade 17 = .ok (.iload_n 1, 1) := by decide +kernel
theorem dX9_passSpade_18 : decode cX9_passSpade 18 = .ok (.ishr, 1) := by decide +kernel
theorem dX9_passSpade_19 : decode cX9_passSpade 19 = .ok (.iconst 1, 1) := by decide +kernel
theorem dX9_passSpade_20 : decode cX9_passSpade 20 = .ok (.iand, 1) := by decide +kernel
theorem dX9_passSpade_21 : decode cX9_passSpade 21 = .ok (.ifCond .ne 7, 3) := by decide +kernel
theorem dX9_passSpade_24 : decode cX9_passSpade 24 = .ok (.iconst 1, 1) := by decide +kernel
theorem dX9_passSpade_25 : decode cX9_passSpade 25 = .ok (.goto 4, 3) := by decide +kernel
theorem dX9_passSpade_28 : decode cX9_passSpade 28 = .ok (.iconst 0, 1) := by decide +kernel
theorem dX9_passSpade_29 : decode cX9_passSpade 29 = .ok (.istore_n 3, 1) := by decide +kernel
theorem dX9_passSpade_30 : decode cX9_passSpade 30 = .ok (.iload_n 3, 1) := by decide +kernel
theorem dX9_passSpade_31 : decode cX9_passSpade 31 = .ok (.ifCond .eq 17, 3) := by decide +kernel
theorem dX9_passSpade_34 : decode cX9_passSpade 34 = .ok (.aload_n 0, 1) := by decide +kernel
theorem dX9_passSpade_35 : decode cX9_passSpade 35 = .ok (.getfield 42, 3) := by decide +kernel
theorem dX9_passSpade_38 : decode cX9_passSpade 38 = .ok (.invokestatic 123, 3) := by decide +kernel
theorem dX9_passSpade_41 : decode cX9_passSpade 41 = .ok (.iload_n 2, 1) := by decide +kernel
theorem dX9_passSpade_42 : decode cX9_passSpade 42 = .ok (.if_icmp .lt 6, 3) := by decide +kernel
theorem dX9_passSpade_45 : decode cX9_passSpade 45 = .ok (.bipush (-2), 2) := by decide +kernel
theorem dX9_passSpade_47 : decode cX9_passSpade 47 = .ok (.ireturn, 1) := by decide +kernel
theorem dX9_passSpade_48 : decode cX9_passSpade 48 = .ok (.aload_n 0, 1) := by decide +kernel
theorem dX9_passSpade_49 : decode cX9_passSpade 49 = .ok (.dup, 1) := by decide +kernel
theorem dX9_passSpade_50 : decode cX9_passSpade 50 = .ok (.getfield 42, 3) := by decide +kernel
theorem dX9_passSpade_53 : decode cX9_passSpade 53 = .ok (.iconst 1, 1) := by decide +kernel
theorem dX9_passSpade_54 : decode cX9_passSpade 54 = .ok (.iload_n 1, 1) := by decide +kernel
theorem dX9_passSpade_55 : decode cX9_passSpade 55 = .ok (.ishl, 1) := by decide +kernel
theorem dX9_passSpade_56 : decode cX9_passSpade 56 = .ok (.ixor, 1) := by decide +kernel
theorem dX9_passSpade_57 : decode cX9_passSpade 57 = .ok (.putfield 42, 3) := by decide +kernel
theorem dX9_passSpade_60 : decode cX9_passSpade 60 = .ok (.aload_n 0, 1) := by decide +kernel
theorem dX9_passSpade_61 : decode cX9_passSpade 61 = .ok (.getfield 42, 3) := by decide +kernel
theorem dX9_passSpade_64 : decode cX9_passSpade 64 = .ok (.invokestatic 123, 3) := by decide +kernel
theorem dX9_passSpade_67 : decode cX9_passSpade 67 = .ok (.ireturn, 1) := by decide +kernel
theorem dX9_cheer_0 : decode cX9_cheer 0 = .ok (.aload_n 0, 1) := by decide +kernel
theorem dX9_cheer_1 : decode cX9_cheer 1 = .ok (.getfield 28, 3) := by decide +kernel
theorem dX9_cheer_4 : decode cX9_cheer 4 = .ok (.iload_n 1, 1) := by decide +kernel
theorem dX9_cheer_5 : decode cX9_cheer 5 = .ok (.invokevirtual 122, 3) := by decide +kernel
theorem dX9_cheer_8 : decode cX9_cheer 8 = .ok (.ifCond .ne 5, 3) := by decide +kernel
theorem dX9_cheer_11 : decode cX9_cheer 11 = .ok (.iconst (-1), 1) := by decide +kernel
theorem dX9_cheer_12 : decode cX9_cheer 12 = .ok (.ireturn, 1) := by decide +kernel
theorem dX9_cheer_13 : decode cX9_cheer 13 = .ok (.aload_n 0, 1) := by decide +kernel
theorem dX9_cheer_14 : decode cX9_cheer 14 = .ok (.getfield 18, 3) := by decide +kernel
theorem dX9_cheer_17 : decode cX9_cheer 17 = .ok (.iload_n 1, 1) := by decide +kernel
theorem dX9_cheer_18 : decode cX9_cheer 18 = .ok (.bipush 9, 2) := by decide +kernel
theorem dX9_cheer_20 : decode cX9_cheer 20 = .ok (.aload_n 0, 1) := by decide +kernel
theorem dX9_cheer_21 : decode cX9_cheer 21 = .ok (.getfield 18, 3) := by decide +kernel
theorem dX9_cheer_24 : decode cX9_cheer 24 = .ok (.iload_n 1, 1) := by decide +kernel
theorem dX9_cheer_25 : decode cX9_cheer 25 = .ok (.iaload, 1) := by decide +kernel
theorem dX9_cheer_26 : decode cX9_cheer 26 = .ok (.iconst 3, 1) := by decide +kernel
theorem dX9_cheer_27 : decode cX9_cheer 27 = .ok (.iadd, 1) := by decide +kernel
theorem dX9_cheer_28 : decode cX9_cheer 28 = .ok (.invokestatic 71, 3) := by decide +kernel
theorem dX9_cheer_31 : decode cX9_cheer 31 = .ok (.iastore, 1) := by decide +kernel
theorem dX9_cheer_32 : decode cX9_cheer 32 = .ok (.aload_n 0, 1) := by decide +kernel
theorem dX9_cheer_33 : decode cX9_cheer 33 = .ok (.getfield 18, 3) := by decide +kernel
theorem dX9_cheer_36 : decode cX9_cheer 36 = .ok (.iload_n 1, 1) := by decide +kernel
theorem dX9_cheer_37 : decode cX9_cheer 37 = .ok (.iaload, 1) := by decide +kernel
theorem dX9_cheer_38 : decode cX9_cheer 38 = .ok (.ireturn, 1) := by decide +kernel
theorem dX9_dig_0 : decode cX9_dig 0 = .ok (.aload_n 0, 1) := by decide +kernel
theorem dX9_dig_1 : decode cX9_dig 1 = .ok (.getfield 24, 3) := by decide +kernel
theorem dX9_dig_4 : decode cX9_dig 4 = .ok (.iload_n 1, 1) := by decide +kernel
theorem dX9_dig_5 : decode cX9_dig 5 = .ok (.invokevirtual 106, 3) := by decide +kernel
theorem dX9_dig_8 : decode cX9_dig 8 = .ok (.ifCond .ne 5, 3) := by decide +kernel
theorem dX9_dig_11 : decode cX9_dig 11 = .ok (.iconst (-1), 1) := by decide +kernel
theorem dX9_dig_12 : decode cX9_dig 12 = .ok (.ireturn, 1) := by decide +kernel
theorem dX9_dig_13 : decode cX9_dig 13 = .ok (.aload_n 0, 1) := by decide +kernel
theorem dX9_dig_14 : decode cX9_dig 14 = .ok (.dup, 1) := by decide +kernel
theorem dX9_dig_15 : decode cX9_dig 15 = .ok (.getfield 38, 3) := by decide +kernel
theorem dX9_dig_18 : decode cX9_dig 18 = .ok (.iconst 1, 1) := by decide +kernel
theorem dX9_dig_19 : decode cX9_dig 19 = .ok (.iload_n 1, 1) := by decide +kernel
theorem dX9_dig_20 : decode cX9_dig 20 = .ok (.ishl, 1) := by decide +kernel
theorem dX9_dig_21 : decode cX9_dig 21 = .ok (.ixor, 1) := by decide +kernel
theorem dX9_dig_22 : decode cX9_dig 22 = .ok (.putfield 38, 3) := by decide +kernel
theorem dX9_dig_25 : decode cX9_dig 25 = .ok (.aload_n 0, 1) := by decide +kernel
theorem dX9_dig_26 : decode cX9_dig 26 = .ok (.getfield 38, 3) := by decide +kernel
theorem dX9_dig_29 : decode cX9_dig 29 = .ok (.invokestatic 123, 3) := by decide +kernel
theorem dX9_dig_32 : decode cX9_dig 32 = .ok (.ireturn, 1) := by decide +kernel
theorem dX9_drain_0 : decode cX9_drain 0 = .ok (.iload_n 1, 1) := by decide +kernel
theorem dX9_drain_1 : decode cX9_drain 1 = .ok (.iconst 1, 1) := by decide +kernel
theorem dX9_drain_2 : decode cX9_drain 2 = .ok (.bipush 99, 2) := by decide +kernel
theorem dX9_drain_4 : decode cX9_drain 4 = .ok (.invokestatic 128, 3) := by decide +kernel
theorem dX9_drain_7 : decode cX9_drain 7 = .ok (.ifCond .ne 5, 3) := by decide +kernel
theorem dX9_drain_10 : decode cX9_drain 10 = .ok (.iconst (-1), 1) := by decide +kernel
theorem dX9_drain_11 : decode cX9_drain 11 = .ok (.ireturn, 1) := by decide +kernel
theorem dX9_drain_12 : decode cX9_drain 12 = .ok (.iconst 0, 1) := by decide +kernel
theorem dX9_drain_13 : decode cX9_drain 13 = .ok (.istore_n 2, 1) := by decide +kernel
theorem dX9_drain_14 : decode cX9_drain 14 = .ok (.iload_n 2, 1) := by decide +kernel
theorem dX9_drain_15 : decode cX9_drain 15 = .ok (.aload_n 0, 1) := by decide +kernel
theorem dX9_drain_16 : decode cX9_drain 16 = .ok (.getfield 24, 3) := by decide +kernel
theorem dX9_drain_19 : decode cX9_drain 19 = .ok (.getfield 68, 3) := by decide +kernel
theorem dX9_drain_22 : decode cX9_drain 22 = .ok (.if_icmp .ge 27, 3) := by decide +kernel
theorem dX9_drain_25 : decode cX9_drain 25 = .ok (.aload_n 0, 1) := by decide +kernel
theorem dX9_drain_26 : decode cX9_drain 26 = .ok (.getfield 15, 3) := by decide +kernel
theorem dX9_drain_29 : decode cX9_drain 29 = .ok (.iload_n 2, 1) := by decide +kernel
theorem dX9_drain_30 : decode cX9_drain 30 = .ok (.iconst 0, 1) := by decide +kernel
theorem dX9_drain_31 : decode cX9_drain 31 = .ok (.aload_n 0, 1) := by decide +kernel
theorem dX9_drain_32 : decode cX9_drain 32 = .ok (.getfield 15, 3) := by decide +kernel
theorem dX9_drain_35 : decode cX9_drain 35 = .ok (.iload_n 2, 1) := by decide +kernel
theorem dX9_drain_36 : decode cX9_drain 36 = .ok (.iaload, 1) := by decide +kernel
theorem dX9_drain_37 : decode cX9_drain 37 = .ok (.iload_n 1, 1) := by decide +kernel
theorem dX9_drain_38 : decode cX9_drain 38 = .ok (.isub, 1) := by decide +kernel
theorem dX9_drain_39 : decode cX9_drain 39 = .ok (.invokestatic 109, 3) := by decide +kernel
theorem dX9_drain_42 : decode cX9_drain 42 = .ok (.iastore, 1) := by decide +kernel
theorem dX9_drain_43 : decode cX9_drain 43 = .ok (.iinc 2 1, 3) := by decide +kernel
theorem dX9_drain_46 : decode cX9_drain 46 = .ok (.goto (-32), 3) := by decide +kernel
theorem dX9_drain_49 : decode cX9_drain 49 = .ok (.aload_n 0, 1) := by decide +kernel
theorem dX9_drain_50 : decode cX9_drain 50 = .ok (.invokevirtual 132, 3) := by decide +kernel
theorem dX9_drain_53 : decode cX9_drain 53 = .ok (.invokestatic 123, 3) := by decide +kernel
theorem dX9_drain_56 : decode cX9_drain 56 = .ok (.ireturn, 1) := by decide +kernel
