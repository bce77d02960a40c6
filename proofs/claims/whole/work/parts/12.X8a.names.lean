theorem dX8_init_0 : decode cX8_init 0 = .ok (.aload_n 0, 1) := by decide +kernel
theorem dX8_init_1 : decode cX8_init 1 = .ok (.invokespecial 3, 3) := by decide +kernel
theorem dX8_init_4 : decode cX8_init 4 = .ok (.aload_n 0, 1) := by decide +kernel
theorem dX8_init_5 : decode cX8_init 5 = .ok (.bipush 12, 2) := by decide +kernel
theorem dX8_init_7 : decode cX8_init 7 = .ok (.newarray .long, 2) := by decide +kernel
theorem dX8_init_9 : decode cX8_init 9 = .ok (.putfield 9, 3) := by decide +kernel
theorem dX8_init_12 : decode cX8_init 12 = .ok (.return_, 1) := by decide +kernel
theorem dX8_clear_0 : decode cX8_clear 0 = .ok (.aload_n 0, 1) := by decide +kernel
theorem dX8_clear_1 : decode cX8_clear 1 = .ok (.iconst 0, 1) := by decide +kernel
theorem dX8_clear_2 : decode cX8_clear 2 = .ok (.putfield 15, 3) := by decide +kernel
theorem dX8_clear_5 : decode cX8_clear 5 = .ok (.return_, 1) := by decide +kernel
theorem dX8_add_0 : decode cX8_add 0 = .ok (.aload_n 0, 1) := by decide +kernel
theorem dX8_add_1 : decode cX8_add 1 = .ok (.getfield 15, 3) := by decide +kernel
theorem dX8_add_4 : decode cX8_add 4 = .ok (.bipush 12, 2) := by decide +kernel
theorem dX8_add_6 : decode cX8_add 6 = .ok (.if_icmp .ge 23, 3) := by decide +kernel
theorem dX8_add_9 : decode cX8_add 9 = .ok (.aload_n 0, 1) := by decide +kernel
theorem dX8_add_10 : decode cX8_add 10 = .ok (.getfield 9, 3) := by decide +kernel
theorem dX8_add_13 : decode cX8_add 13 = .ok (.aload_n 0, 1) := by decide +kernel
theorem dX8_add_14 : decode cX8_add 14 = .ok (.getfield 15, 3) := by decide +kernel
theorem dX8_add_17 : decode cX8_add 17 = .ok (.lload_n 1, 1) := by decide +kernel
theorem dX8_add_18 : decode cX8_add 18 = .ok (.lastore, 1) := by decide +kernel
theorem dX8_add_19 : decode cX8_add 19 = .ok (.aload_n 0, 1) := by decide +kernel
theorem dX8_add_20 : decode cX8_add 20 = .ok (.dup, 1) := by decide +kernel
theorem dX8_add_21 : decode cX8_add 21 = .ok (.getfield 15, 3) := by decide +kernel
theorem dX8_add_24 : decode cX8_add 24 = .ok (.iconst 1, 1) := by decide +kernel
theorem dX8_add_25 : decode cX8_add 25 = .ok (.iadd, 1) := by decide +kernel
theorem dX8_add_26 : decode cX8_add 26 = .ok (.putfield 15, 3) := by decide +kernel
theorem dX8_add_29 : decode cX8_add 29 = .ok (.return_, 1) := by decide +kernel
set_option maxRecDepth 20000 in
theorem ggX8_tell_X8_clear : GoodIn wsX8_tell wsX8_clear := goodIn_r _ [5, 6, 12, 13] (by decide +kernel) (by decide +kernel)
set_option maxRecDepth 20000 in
theorem gX8_tell_X8_clear : GoodIn wsX8_tell (wsV RX8 19 RX8 yX8_clear wsX8_clear) := goodIn_app (goodIn_of _ (by decide +kernel)) ggX8_tell_X8_clear
set_option maxRecDepth 20000 in
theorem ggX8_tell_X8_add : GoodIn wsX8_tell wsX8_add := goodIn_r _ [10, 6, 11, 12, 13] (by decide +kernel) (by decide +kernel)
set_option maxRecDepth 20000 in
theorem gX8_tell_X8_add : GoodIn wsX8_tell (wsV RX8 22 RX8 yX8_add wsX8_add) := goodIn_app (goodIn_of _ (by decide +kernel)) ggX8_tell_X8_add
theorem dX8_tell_0 : decode cX8_tell 0 = .ok (.aload_n 0, 1) := by decide +kernel
theorem dX8_tell_1 : decode cX8_tell 1 = .ok (.invokevirtual 19, 3) := by decide +kernel
theorem dX8_tell_4 : decode cX8_tell 4 = .ok (.aload_n 0, 1) := by decide +kernel
theorem dX8_tell_5 : decode cX8_tell 5 = .ok (.lload_n 1, 1) := by decide +kernel
theorem dX8_tell_6 : decode cX8_tell 6 = .ok (.invokevirtual 22, 3) := by decide +kernel
theorem dX8_tell_9 : decode cX8_tell 9 = .ok (.return_, 1) := by decide +kernel
set_option maxRecDepth 20000 in
theorem ggX8_tell__X8_clear : GoodIn wsX8_tell_ wsX8_clear := goodIn_r _ [5, 6, 12, 13] (by decide +kernel) (by decide +kernel)
set_option maxRecDepth 20000 in
theorem gX8_tell__X8_clear : GoodIn wsX8_tell_ (wsV RX8 19 RX8 yX8_clear wsX8_clear) := goodIn_app (goodIn_of _ (by decide +kernel)) ggX8_tell__X8_clear
set_option maxRecDepth 20000 in
theorem ggX8_tell__X8_add : GoodIn wsX8_tell_ wsX8_add := goodIn_r _ [10, 6, 11, 12, 13] (by decide +kernel) (by decide +kernel)
set_option maxRecDepth 20000 in
theorem gX8_tell__X8_add : GoodIn wsX8_tell_ (wsV RX8 22 RX8 yX8_add wsX8_add) := goodIn_app (goodIn_of _ (by decide +kernel)) ggX8_tell__X8_add
theorem dX8_tell__0 : decode cX8_tell_ 0 = .ok (.aload_n 0, 1) := by decide +kernel
theorem dX8_tell__1 : decode cX8_tell_ 1 = .ok (.invokevirtual 19, 3) := by decide +kernel
theorem dX8_tell__4 : decode cX8_tell_ 4 = .ok (.aload_n 0, 1) := by decide +kernel
theorem dX8_tell__5 : decode cX8_tell_ 5 = .ok (.lload_n 1, 1) := by decide +kernel
theorem dX8_tell__6 : decode cX8_tell_ 6 = .ok (.invokevirtual 22, 3) := by decide +kernel
theorem dX8_tell__9 : decode cX8_tell_ 9 = .ok (.aload_n 0, 1) := by decide +kernel
theorem dX8_tell__10 : decode cX8_tell_ 10 = .ok (.lload_n 3, 1) := by decide +kernel
theorem dX8_tell__11 : decode cX8_tell_ 11 = .ok (.invokevirtual 22, 3) := by decide +kernel
theorem dX8_tell__14 : decode cX8_tell_ 14 = .ok (.return_, 1) := by decide +kernel
theorem dX10_init_0 : decode cX10_init 0 = .ok (.aload_n 0, 1) := by decide +kernel
theorem dX10_init_1 : decode cX10_init 1 = .ok (.invokespecial 3, 3) := by decide +kernel
theorem dX10_init_4 : decode cX10_init 4 = .ok (.aload_n 0, 1) := by decide +kernel
theorem dX10_init_5 : decode cX10_init 5 = .ok (.bipush 80, 2) := by decide +kernel
theorem dX10_init_7 : decode cX10_init 7 = .ok (.newarray .char, 2) := by decide +kernel
theorem dX10_init_9 : decode cX10_init 9 = .ok (.putfield 9, 3) := by decide +kernel
theorem dX10_init_12 : decode cX10_init 12 = .ok (.return_, 1) := by decide +kernel
theorem dX10_add_0 : decode cX10_add 0 = .ok (.aload_n 0, 1) := by decide +kernel
theorem dX10_add_1 : decode cX10_add 1 = .ok (.getfield 15, 3) := by decide +kernel
theorem dX10_add_4 : decode cX10_add 4 = .ok (.iconst 4, 1) := by decide +kernel
theorem dX10_add_5 : decode cX10_add 5 = .ok (.iadd, 1) := by decide +kernel
theorem dX10_add_6 : decode cX10_add 6 = .ok (.bipush 80, 2) := by decide +kernel
theorem dX10_add_8 : decode cX10_add 8 = .ok (.if_icmp .le 5, 3) := by decide +kernel
theorem dX10_add_11 : decode cX10_add 11 = .ok (.iconst 0, 1) := by decide +kernel
theorem dX10_add_12 : decode cX10_add 12 = .ok (.ireturn, 1) := by decide +kernel
theorem dX10_add_13 : decode cX10_add 13 = .ok (.bipush 24, 2) := by decide +kernel
theorem dX10_add_15 : decode cX10_add 15 = .ok (.istore_n 2, 1) := by decide +kernel
theorem dX10_add_16 : decode cX10_add 16 = .ok (.iload_n 2, 1) := by decide +kernel
theorem dX10_add_17 : decode cX10_add 17 = .ok (.ifCond .lt 36, 3) := by decide +kernel
theorem dX10_add_20 : decode cX10_add 20 = .ok (.aload_n 0, 1) := by decide +kernel
theorem dX10_add_21 : decode cX10_add 21 = .ok (.getfield 9, 3) := by decide +kernel
theorem dX10_add_24 : decode cX10_add 24 = .ok (.aload_n 0, 1) := by decide +kernel
theorem dX10_add_25 : decode cX10_add 25 = .ok (.getfield 15, 3) := by decide +kernel
theorem dX10_add_28 : decode cX10_add 28 = .ok (.iload_n 1, 1) := by decide +kernel
theorem dX10_add_29 : decode cX10_add 29 = .ok (.iload_n 2, 1) := by decide +kernel
theorem dX10_add_30 : decode cX10_add 30 = .ok (.ishr, 1) := by decide +kernel
theorem dX10_add_31 : decode cX10_add 31 = .ok (.sipush 255, 3) := by decide +kernel
theorem dX10_add_34 : decode cX10_add 34 = .ok (.iand, 1) := by decide +kernel
theorem dX10_add_35 : decode cX10_add 35 = .ok (.i2c, 1) := by decide +kernel
theorem dX10_add_36 : decode cX10_add 36 = .ok (.castore, 1) := by decide +kernel
theorem dX10_add_37 : decode cX10_add 37 = .ok (.aload_n 0, 1) := by decide +kernel
theorem dX10_add_38 : decode cX10_add 38 = .ok (.dup, 1) := by decide +kernel
theorem dX10_add_39 : decode cX10_add 39 = .ok (.getfield 15, 3) := by decide +kernel
theorem dX10_add_42 : decode cX10_add 42 = .ok (.iconst 1, 1) := by decide +kernel
theorem dX10_add_43 : decode cX10_add 43 = .ok (.iadd, 1) := by decide +kernel
theorem dX10_add_44 : decode cX10_add 44 = .ok (.putfield 15, 3) := by decide +kernel
theorem dX10_add_47 : decode cX10_add 47 = .ok (.iinc 2 (-8), 3) := by decide +kernel
theorem dX10_add_50 : decode cX10_add 50 = .ok (.goto (-34), 3) := by decide +kernel
theorem dX10_add_53 : decode cX10_add 53 = .ok (.iconst 1, 1) := by decide +kernel
theorem dX10_add_54 : decode cX10_add 54 = .ok (.ireturn, 1) := by decide +kernel
theorem dX10_cut_0 : decode cX10_cut 0 = .ok (.iload_n 1, 1) := by decide +kernel
theorem dX10_cut_1 : decode cX10_cut 1 = .ok (.ifCond .lt 11, 3) := by decide +kernel
theorem dX10_cut_4 : decode cX10_cut 4 = .ok (.iload_n 1, 1) := by decide +kernel
theorem dX10_cut_5 : decode cX10_cut 5 = .ok (.aload_n 0, 1) := by decide +kernel
theorem dX10_cut_6 : decode cX10_cut 6 = .ok (.getfield 15, 3) := by decide +kernel
theorem dX10_cut_9 : decode cX10_cut 9 = .ok (.if_icmp .le 5, 3) := by decide +kernel
theorem dX10_cut_12 : decode cX10_cut 12 = .ok (.iconst 0, 1) := by decide +kernel
theorem dX10_cut_13 : decode cX10_cut 13 = .ok (.ireturn, 1) := by decide +kernel
theorem dX10_cut_14 : decode cX10_cut 14 = .ok (.aload_n 0, 1) := by decide +kernel
theorem dX10_cut_15 : decode cX10_cut 15 = .ok (.iload_n 1, 1) := by decide +kernel
theorem dX10_cut_16 : decode cX10_cut 16 = .ok (.putfield 15, 3) := by decide +kernel
theorem dX10_cut_19 : decode cX10_cut 19 = .ok (.iconst 1, 1) := by decide +kernel
theorem dX10_cut_20 : decode cX10_cut 20 = .ok (.ireturn, 1) := by decide +kernel
theorem dX10_signAt_0 : decode cX10_signAt 0 = .ok (.iload_n 1, 1) := by decide +kernel
theorem dX10_signAt_1 : decode cX10_signAt 1 = .ok (.ifCond .lt 25, 3) := by decide +kernel
theorem dX10_signAt_4 : decode cX10_signAt 4 = .ok (.iload_n 1, 1) := by decide +kernel
theorem dX10_signAt_5 : decode cX10_signAt 5 = .ok (.aload_n 0, 1) := by decide +kernel
theorem dX10_signAt_6 : decode cX10_signAt 6 = .ok (.getfield 15, 3) := by decide +kernel
theorem dX10_signAt_9 : decode cX10_signAt 9 = .ok (.if_icmp .ge 17, 3) := by decide +kernel
theorem dX10_signAt_12 : decode cX10_signAt 12 = .ok (.iload_n 1, 1) := by decide +kernel
theorem dX10_signAt_13 : decode cX10_signAt 13 = .ok (.iload_n 2, 1) := by decide +kernel
theorem dX10_signAt_14 : decode cX10_signAt 14 = .ok (.if_icmp .ge 12, 3) := by decide +kernel
theorem dX10_signAt_17 : decode cX10_signAt 17 = .ok (.aload_n 0, 1) := by decide +kernel
theorem dX10_signAt_18 : decode cX10_signAt 18 = .ok (.getfield 9, 3) := by decide +kernel
theorem dX10_signAt_21 : decode cX10_signAt 21 = .ok (.iload_n 1, 1) := by decide +kernel
theorem dX10_signAt_22 : decode cX10_signAt 22 = .ok (.caload, 1) := by decide +kernel
theorem dX10_signAt_23 : decode cX10_signAt 23 = .ok (.goto 4, 3) := by decide +kernel
theorem dX10_signAt_26 : decode cX10_signAt 26 = .ok (.iconst (-1), 1) := by decide +kernel
theorem dX10_signAt_27 : decode cX10_signAt 27 = .ok (.ireturn, 1) := by decide +kernel
theorem dX5_init_0 : decode cX5_init 0 = .ok (.aload_n 0, 1) := by decide +kernel
theorem dX5_init_1 : decode cX5_init 1 = .ok (.invokespecial 3, 3) := by decide +kernel
theorem dX5_init_4 : decode cX5_init 4 = .ok (.aload_n 0, 1) := by decide +kernel
theorem dX5_init_5 : decode cX5_init 5 = .ok (.iconst 1, 1) := by decide +kernel
theorem dX5_init_6 : decode cX5_init 6 = .ok (.putfield 9, 3) := by decide +kernel
theorem dX5_init_9 : decode cX5_init 9 = .ok (.aload_n 0, 1) := by decide +kernel
theorem dX5_init_10 : decode cX5_init 10 = .ok (.bipush 12, 2) := by decide +kernel
theorem dX5_init_12 : decode cX5_init 12 = .ok (.newarray .int, 2) := by decide +kernel
theorem dX5_init_14 : decode cX5_init 14 = .ok (.putfield 15, 3) := by decide +kernel
theorem dX5_init_17 : decode cX5_init 17 = .ok (.aload_n 0, 1) := by decide +kernel
theorem dX5_init_18 : decode cX5_init 18 = .ok (.bipush 12, 2) := by decide +kernel
theorem dX5_init_20 : decode cX5_init 20 = .ok (.newarray .int, 2) := by decide +kernel
theorem dX5_init_22 : decode cX5_init 22 = .ok (.putfield 19, 3) := by decide +kernel
theorem dX5_init_25 : decode cX5_init 25 = .ok (.aload_n 0, 1) := by decide +kernel
theorem dX5_init_26 : decode cX5_init 26 = .ok (.bipush 12, 2) := by decide +kernel
theorem dX5_init_28 : decode cX5_init 28 = .ok (.newarray .int, 2) := by decide +kernel
theorem dX5_init_30 : decode cX5_init 30 = .ok (.putfield 22, 3) := by decide +kernel
theorem dX5_init_33 : decode cX5_init 33 = .ok (.aload_n 0, 1) := by decide +kernel
theorem dX5_init_34 : decode cX5_init 34 = .ok (.bipush 12, 2) := by decide +kernel
theorem dX5_init_36 : decode cX5_init 36 = .ok (.newarray .int, 2) := by decide +kernel
theorem dX5_init_38 : decode cX5_init 38 = .ok (.putfield 25, 3) := by decide +kernel
theorem dX5_init_41 : decode cX5_init 41 = .ok (.return_, 1) := by decide +kernel
theorem dX5_has_0 : decode cX5_has 0 = .ok (.iload_n 1, 1) := by decide +kernel
theorem dX5_has_1 : decode cX5_has 1 = .ok (.ifCond .lt 15, 3) := by decide +kernel
theorem dX5_has_4 : decode cX5_has 4 = .ok (.iload_n 1, 1) := by decide +kernel
theorem dX5_has_5 : decode cX5_has 5 = .ok (.aload_n 0, 1) := by decide +kernel
theorem dX5_has_6 : decode cX5_has 6 = .ok (.getfield 9, 3) := by decide +kernel
theorem dX5_has_9 : decode cX5_has 9 = .ok (.if_icmp .ge 7, 3) := by decide +kernel
theorem dX5_has_12 : decode cX5_has 12 = .ok (.iconst 1, 1) := by decide +kernel
theorem dX5_has_13 : decode cX5_has 13 = .ok (.goto 4, 3) := by decide +kernel
theorem dX5_has_16 : decode cX5_has 16 = .ok (.iconst 0, 1) := by decide +kernel
theorem dX5_has_17 : decode cX5_has 17 = .ok (.ireturn, 1) := by decide +kernel
set_option maxRecDepth 20000 in
theorem ggX5_read_X11_isDigit : GoodIn wsX5_read wsX11_isDigit := goodIn_r _ [14] (by decide +kernel) (by decide +kernel)
set_option maxRecDepth 20000 in
theorem gX5_read_X11_isDigit_n37 : GoodIn wsX5_read (wsX11_isDigit) := ggX5_read_X11_isDigit
theorem dX5_read_0 : decode cX5_read 0 = .ok (.iconst 0, 1) := by decide +kernel
theorem dX5_read_1 : decode cX5_read 1 = .ok (.istore_n 2, 1) := by decide +kernel
theorem dX5_read_2 : decode cX5_read 2 = .ok (.iconst 0, 1) := by decide +kernel
theorem dX5_read_3 : decode cX5_read 3 = .ok (.istore_n 3, 1) := by decide +kernel
theorem dX5_read_4 : decode cX5_read 4 = .ok (.iconst 0, 1) := by decide +kernel
theorem dX5_read_5 : decode cX5_read 5 = .ok (.istore 4, 2) := by decide +kernel
theorem dX5_read_7 : decode cX5_read 7 = .ok (.iload 4, 2) := by decide +kernel
theorem dX5_read_9 : decode cX5_read 9 = .ok (.aload_n 1, 1) := by decide +kernel
theorem dX5_read_10 : decode cX5_read 10 = .ok (.getfield 28, 3) := by decide +kernel
theorem dX5_read_13 : decode cX5_read 13 = .ok (.if_icmp .ge 114, 3) := by decide +kernel
theorem dX5_read_16 : decode cX5_read 16 = .ok (.aload_n 1, 1) := by decide +kernel
theorem dX5_read_17 : decode cX5_read 17 = .ok (.getfield 33, 3) := by decide +kernel
theorem dX5_read_20 : decode cX5_read 20 = .ok (.iload 4, 2) := by decide +kernel
theorem dX5_read_22 : decode cX5_read 22 = .ok (.caload, 1) := by decide +kernel
theorem dX5_read_23 : decode cX5_read 23 = .ok (.istore 5, 2) := by decide +kernel
theorem dX5_read_25 : decode cX5_read 25 = .ok (.iload_n 2, 1) := by decide +kernel
theorem dX5_read_26 : decode cX5_read 26 = .ok (.iconst 1, 1) := by decide +kernel
theorem dX5_read_27 : decode cX5_read 27 = .ok (.if_icmp .ne 21, 3) := by decide +kernel
theorem dX5_read_30 : decode cX5_read 30 = .ok (.iload 5, 2) := by decide +kernel
theorem dX5_read_32 : decode cX5_read 32 = .ok (.bipush 124, 2) := by decide +kernel
theorem dX5_read_34 : decode cX5_read 34 = .ok (.if_icmp .ne 14, 3) := by decide +kernel
theorem dX5_read_37 : decode cX5_read 37 = .ok (.iload_n 3, 1) := by decide +kernel
theorem dX5_read_38 : decode cX5_read 38 = .ok (.bipush 12, 2) := by decide +kernel
theorem dX5_read_40 : decode cX5_read 40 = .ok (.if_icmp .ge 8, 3) := by decide +kernel
theorem dX5_read_43 : decode cX5_read 43 = .ok (.iconst 2, 1) := by decide +kernel
theorem dX5_read_44 : decode cX5_read 44 = .ok (.istore_n 2, 1) := by decide +kernel
theorem dX5_read_45 : decode cX5_read 45 = .ok (.goto 76, 3) := by decide +kernel
theorem dX5_read_48 : decode cX5_read 48 = .ok (.iload 5, 2) := by decide +kernel
theorem dX5_read_50 : decode cX5_read 50 = .ok (.invokestatic 37, 3) := by decide +kernel
theorem dX5_read_53 : decode cX5_read 53 = .ok (.ifCond .ne 6, 3) := by decide +kernel
theorem dX5_read_56 : decode cX5_read 56 = .ok (.iload 4, 2) := by decide +kernel
theorem dX5_read_58 : decode cX5_read 58 = .ok (.ireturn, 1) := by decide +kernel
theorem dX5_read_59 : decode cX5_read 59 = .ok (.iload_n 2, 1) := by decide +kernel
theorem dX5_read_60 : decode cX5_read 60 = .ok (.iconst 2, 1) := by decide +kernel
theorem dX5_read_61 : decode cX5_read 61 = .ok (.if_icmp .ne 25, 3) := by decide +kernel
theorem dX5_read_64 : decode cX5_read 64 = .ok (.iload_n 3, 1) := by decide +kernel
theorem dX5_read_65 : decode cX5_read 65 = .ok (.ifCond .le 21, 3) := by decide +kernel
theorem dX5_read_68 : decode cX5_read 68 = .ok (.aload_n 0, 1) := by decide +kernel
theorem dX5_read_69 : decode cX5_read 69 = .ok (.getfield 25, 3) := by decide +kernel
theorem dX5_read_72 : decode cX5_read 72 = .ok (.iload_n 3, 1) := by decide +kernel
theorem dX5_read_73 : decode cX5_read 73 = .ok (.iconst 1, 1) := by decide +kernel
theorem dX5_read_74 : decode cX5_read 74 = .ok (.isub, 1) := by decide +kernel
theorem dX5_read_75 : decode cX5_read 75 = .ok (.iload 5, 2) := by decide +kernel
theorem dX5_read_77 : decode cX5_read 77 = .ok (.bipush 48, 2) := by decide +kernel
theorem dX5_read_79 : decode cX5_read 79 = .ok (.isub, 1) := by decide +kernel
theorem dX5_read_80 : decode cX5_read 80 = .ok (.iastore, 1) := by decide +kernel
theorem dX5_read_81 : decode cX5_read 81 = .ok (.iconst 0, 1) := by decide +kernel
theorem dX5_read_82 : decode cX5_read 82 = .ok (.istore_n 2, 1) := by decide +kernel
theorem dX5_read_83 : decode cX5_read 83 = .ok (.goto 38, 3) := by decide +kernel
theorem dX5_read_86 : decode cX5_read 86 = .ok (.iload_n 3, 1) := by decide +kernel
theorem dX5_read_87 : decode cX5_read 87 = .ok (.bipush 12, 2) := by decide +kernel
theorem dX5_read_89 : decode cX5_read 89 = .ok (.if_icmp .ge 29, 3) := by decide +kernel
theorem dX5_read_92 : decode cX5_read 92 = .ok (.aload_n 0, 1) := by decide +kernel
theorem dX5_read_93 : decode cX5_read 93 = .ok (.getfield 22, 3) := by decide +kernel
theorem dX5_read_96 : decode cX5_read 96 = .ok (.iload_n 3, 1) := by decide +kernel
theorem dX5_read_97 : decode cX5_read 97 = .ok (.iload 5, 2) := by decide +kernel
theorem dX5_read_99 : decode cX5_read 99 = .ok (.bipush 48, 2) := by decide +kernel
theorem dX5_read_101 : decode cX5_read 101 = .ok (.isub, 1) := by decide +kernel
theorem dX5_read_102 : decode cX5_read 102 = .ok (.iastore, 1) := by decide +kernel
theorem dX5_read_103 : decode cX5_read 103 = .ok (.aload_n 0, 1) := by decide +kernel
theorem dX5_read_104 : decode cX5_read 104 = .ok (.getfield 25, 3) := by decide +kernel
theorem dX5_read_107 : decode cX5_read 107 = .ok (.iload_n 3, 1) := by decide +kernel
theorem dX5_read_108 : decode cX5_read 108 = .ok (.iconst 0, 1) := by decide +kernel
theorem dX5_read_109 : decode cX5_read 109 = .ok (.iastore, 1) := by decide +kernel
theorem dX5_read_110 : decode cX5_read 110 = .ok (.iinc 3 1, 3) := by decide +kernel
theorem dX5_read_113 : decode cX5_read 113 = .ok (.iconst 1, 1) := by decide +kernel
theorem dX5_read_114 : decode cX5_read 114 = .ok (.istore_n 2, 1) := by decide +kernel
theorem dX5_read_115 : decode cX5_read 115 = .ok (.goto 6, 3) := by decide +kernel
theorem dX5_read_118 : decode cX5_read 118 = .ok (.iload 4, 2) := by decide +kernel
theorem dX5_read_120 : decode cX5_read 120 = .ok (.ireturn, 1) := by decide +kernel
theorem dX5_read_121 : decode cX5_read 121 = .ok (.iinc 4 1, 3) := by decide +kernel
theorem dX5_read_124 : decode cX5_read 124 = .ok (.goto (-117), 3) := by decide +kernel
theorem dX5_read_127 : decode cX5_read 127 = .ok (.iload_n 2, 1) := by decide +kernel
theorem dX5_read_128 : decode cX5_read 128 = .ok (.iconst 1, 1) := by decide +kernel
theorem dX5_read_129 : decode cX5_read 129 = .ok (.if_icmp .eq 8, 3) := by decide +kernel
theorem dX5_read_132 : decode cX5_read 132 = .ok (.aload_n 1, 1) := by decide +kernel
theorem dX5_read_133 : decode cX5_read 133 = .ok (.getfield 28, 3) := by decide +kernel
theorem dX5_read_136 : decode cX5_read 136 = .ok (.ireturn, 1) := by decide +kernel
theorem dX5_read_137 : decode cX5_read 137 = .ok (.aload_n 0, 1) := by decide +kernel
theorem dX5_read_138 : decode cX5_read 138 = .ok (.iload_n 3, 1) := by decide +kernel
theorem dX5_read_139 : decode cX5_read 139 = .ok (.putfield 9, 3) := by decide +kernel
theorem dX5_read_142 : decode cX5_read 142 = .ok (.aload_n 0, 1) := by decide +kernel
theorem dX5_read_143 : decode cX5_read 143 = .ok (.getfield 22, 3) := by decide +kernel
theorem dX5_read_146 : decode cX5_read 146 = .ok (.iconst 0, 1) := by decide +kernel
theorem dX5_read_147 : decode cX5_read 147 = .ok (.aload_n 0, 1) := by decide +kernel
theorem dX5_read_148 : decode cX5_read 148 = .ok (.getfield 15, 3) := by decide +kernel
theorem dX5_read_151 : decode cX5_read 151 = .ok (.iconst 0, 1) := by decide +kernel
theorem dX5_read_152 : decode cX5_read 152 = .ok (.bipush 12, 2) := by decide +kernel
theorem dX5_read_154 : decode cX5_read 154 = .ok (.invokestatic 41, 3) := by decide +kernel
theorem dX5_read_157 : decode cX5_read 157 = .ok (.aload_n 0, 1) := by decide +kernel
theorem dX5_read_158 : decode cX5_read 158 = .ok (.getfield 25, 3) := by decide +kernel
theorem dX5_read_161 : decode cX5_read 161 = .ok (.iconst 0, 1) := by decide +kernel
theorem dX5_read_162 : decode cX5_read 162 = .ok (.aload_n 0, 1) := by decide +kernel
theorem dX5_read_163 : decode cX5_read 163 = .ok (.getfield 19, 3) := by decide +kernel
theorem dX5_read_166 : decode cX5_read 166 = .ok (.iconst 0, 1) := by decide +kernel
theorem dX5_read_167 : decode cX5_read 167 = .ok (.bipush 12, 2) := by decide +kernel
theorem dX5_read_169 : decode cX5_read 169 = .ok (.invokestatic 41, 3) := by decide +kernel
theorem dX5_read_172 : decode cX5_read 172 = .ok (.iconst (-1), 1) := by decide +kernel
theorem dX5_read_173 : decode cX5_read 173 = .ok (.ireturn, 1) := by decide +kernel
theorem dX2_init_0 : decode cX2_init 0 = .ok (.aload_n 0, 1) := by decide +kernel
theorem dX2_init_1 : decode cX2_init 1 = .ok (.invokespecial 3, 3) := by decide +kernel
theorem dX2_init_4 : decode cX2_init 4 = .ok (.aload_n 0, 1) := by decide +kernel
theorem dX2_init_5 : decode cX2_init 5 = .ok (.bipush 8, 2) := by decide +kernel
theorem dX2_init_7 : decode cX2_init 7 = .ok (.newarray .int, 2) := by decide +kernel
theorem dX2_init_9 : decode cX2_init 9 = .ok (.putfield 9, 3) := by decide +kernel
theorem dX2_init_12 : decode cX2_init 12 = .ok (.aload_n 0, 1) := by decide +kernel
theorem dX2_init_13 : decode cX2_init 13 = .ok (.bipush 8, 2) := by decide +kernel
theorem dX2_init_15 : decode cX2_init 15 = .ok (.newarray .int, 2) := by decide +kernel
theorem dX2_init_17 : decode cX2_init 17 = .ok (.putfield 15, 3) := by decide +kernel
theorem dX2_init_20 : decode cX2_init 20 = .ok (.aload_n 0, 1) := by decide +kernel
theorem dX2_init_21 : decode cX2_init 21 = .ok (.bipush 8, 2) := by decide +kernel
theorem dX2_init_23 : decode cX2_init 23 = .ok (.newarray .int, 2) := by decide +kernel
theorem dX2_init_25 : decode cX2_init 25 = .ok (.putfield 18, 3) := by decide +kernel
theorem dX2_init_28 : decode cX2_init 28 = .ok (.aload_n 0, 1) := by decide +kernel
theorem dX2_init_29 : decode cX2_init 29 = .ok (.bipush 8, 2) := by decide +kernel
theorem dX2_init_31 : decode cX2_init 31 = .ok (.newarray .int, 2) := by decide +kernel
theorem dX2_init_33 : decode cX2_init 33 = .ok (.putfield 21, 3) := by decide +kernel
theorem dX2_init_36 : decode cX2_init 36 = .ok (.return_, 1) := by decide +kernel
theorem dX2_has_0 : decode cX2_has 0 = .ok (.iload_n 1, 1) := by decide +kernel
theorem dX2_has_1 : decode cX2_has 1 = .ok (.ifCond .lt 15, 3) := by decide +kernel
theorem dX2_has_4 : decode cX2_has 4 = .ok (.iload_n 1, 1) := by decide +kernel
theorem dX2_has_5 : decode cX2_has 5 = .ok (.aload_n 0, 1) := by decide +kernel
theorem dX2_has_6 : decode cX2_has 6 = .ok (.getfield 24, 3) := by decide +kernel
theorem dX2_has_9 : decode cX2_has 9 = .ok (.if_icmp .ge 7, 3) := by decide +kernel
theorem dX2_has_12 : decode cX2_has 12 = .ok (.iconst 1, 1) := by decide +kernel
theorem dX2_has_13 : decode cX2_has 13 = .ok (.goto 4, 3) := by decide +kernel
theorem dX2_has_16 : decode cX2_has 16 = .ok (.iconst 0, 1) := by decide +kernel
theorem dX2_has_17 : decode cX2_has 17 = .ok (.ireturn, 1) := by decide +kernel
theorem dX2_all_0 : decode cX2_all 0 = .ok (.iconst 1, 1) := by decide +kernel
theorem dX2_all_1 : decode cX2_all 1 = .ok (.aload_n 0, 1) := by decide +kernel
theorem dX2_all_2 : decode cX2_all 2 = .ok (.getfield 24, 3) := by decide +kernel
theorem dX2_all_5 : decode cX2_all 5 = .ok (.ishl, 1) := by decide +kernel
theorem dX2_all_6 : decode cX2_all 6 = .ok (.iconst 1, 1) := by decide +kernel
theorem dX2_all_7 : decode cX2_all 7 = .ok (.isub, 1) := by decide +kernel
theorem dX2_all_8 : decode cX2_all 8 = .ok (.ireturn, 1) := by decide +kernel
set_option maxRecDepth 20000 in
theorem ggX2_read_X2_readLine : GoodIn wsX2_read wsX2_readLine := goodIn_r _ [7, 8, 9, 10, 11, 12, 13, 14, 15, 16, 17, 18, 19, 20, 21, 22, 30, 31, 32, 33, 34, 28, 29] (by decide +kernel) (by decide +kernel)
set_option maxRecDepth 20000 in
theorem gX2_read_X2_readLine : GoodIn wsX2_read (wsV RX2 33 RX2 yX2_readLine wsX2_readLine) := goodIn_app (goodIn_of _ (by decide +kernel)) ggX2_read_X2_readLine
set_option maxRecDepth 20000 in
theorem ggX2_read_X10_signAt : GoodIn wsX2_read wsX10_signAt := goodIn_r _ [15, 16, 17, 28, 29] (by decide +kernel) (by decide +kernel)
set_option maxRecDepth 20000 in
theorem gX2_read_X10_signAt : GoodIn wsX2_read (wsV RX2 37 RX10 yX10_signAt wsX10_signAt) := goodIn_app (goodIn_of _ (by decide +kernel)) ggX2_read_X10_signAt
set_option maxRecDepth 20000 in
theorem ggX2_read_X2_befriend : GoodIn wsX2_read wsX2_befriend := goodIn_r _ [26, 27, 10, 30, 31, 32, 33, 34] (by decide +kernel) (by decide +kernel)
set_option maxRecDepth 20000 in
theorem gX2_read_X2_befriend : GoodIn wsX2_read (wsV RX2 41 RX2 yX2_befriend wsX2_befriend) := goodIn_app (goodIn_of _ (by decide +kernel)) ggX2_read_X2_befriend
theorem dX2_read_0 : decode cX2_read 0 = .ok (.aload_n 1, 1) := by decide +kernel
theorem dX2_read_1 : decode cX2_read 1 = .ok (.getfield 28, 3) := by decide +kernel
theorem dX2_read_4 : decode cX2_read 4 = .ok (.ifCond .ne 5, 3) := by decide +kernel
theorem dX2_read_7 : decode cX2_read 7 = .ok (.iconst 0, 1) := by decide +kernel
theorem dX2_read_8 : decode cX2_read 8 = .ok (.ireturn, 1) := by decide +kernel
theorem dX2_read_9 : decode cX2_read 9 = .ok (.aload_n 0, 1) := by decide +kernel
theorem dX2_read_10 : decode cX2_read 10 = .ok (.getfield 24, 3) := by decide +kernel
theorem dX2_read_13 : decode cX2_read 13 = .ok (.istore_n 2, 1) := by decide +kernel
theorem dX2_read_14 : decode cX2_read 14 = .ok (.iconst 0, 1) := by decide +kernel
theorem dX2_read_15 : decode cX2_read 15 = .ok (.istore_n 3, 1) := by decide +kernel
theorem dX2_read_16 : decode cX2_read 16 = .ok (.iconst 1, 1) := by decide +kernel
theorem dX2_read_17 : decode cX2_read 17 = .ok (.istore 4, 2) := by decide +kernel
theorem dX2_read_19 : decode cX2_read 19 = .ok (.iload 4, 2) := by decide +kernel
theorem dX2_read_21 : decode cX2_read 21 = .ok (.ifCond .eq 56, 3) := by decide +kernel
theorem dX2_read_24 : decode cX2_read 24 = .ok (.iload_n 2, 1) := by decide +kernel
theorem dX2_read_25 : decode cX2_read 25 = .ok (.bipush 8, 2) := by decide +kernel
theorem dX2_read_27 : decode cX2_read 27 = .ok (.if_icmp .ge 50, 3) := by decide +kernel
theorem dX2_read_30 : decode cX2_read 30 = .ok (.aload_n 0, 1) := by decide +kernel
theorem dX2_read_31 : decode cX2_read 31 = .ok (.aload_n 1, 1) := by decide +kernel
theorem dX2_read_32 : decode cX2_read 32 = .ok (.iload_n 3, 1) := by decide +kernel
theorem dX2_read_33 : decode cX2_read 33 = .ok (.iload_n 2, 1) := by decide +kernel
theorem dX2_read_34 : decode cX2_read 34 = .ok (.invokevirtual 33, 3) := by decide +kernel
theorem dX2_read_37 : decode cX2_read 37 = .ok (.istore_n 3, 1) := by decide +kernel
theorem dX2_read_38 : decode cX2_read 38 = .ok (.iload_n 3, 1) := by decide +kernel
theorem dX2_read_39 : decode cX2_read 39 = .ok (.ifCond .ge 5, 3) := by decide +kernel
theorem dX2_read_42 : decode cX2_read 42 = .ok (.iload_n 3, 1) := by decide +kernel
theorem dX2_read_43 : decode cX2_read 43 = .ok (.ireturn, 1) := by decide +kernel
theorem dX2_read_44 : decode cX2_read 44 = .ok (.iinc 2 1, 3) := by decide +kernel
theorem dX2_read_47 : decode cX2_read 47 = .ok (.aload_n 1, 1) := by decide +kernel
theorem dX2_read_48 : decode cX2_read 48 = .ok (.iload_n 3, 1) := by decide +kernel
theorem dX2_read_49 : decode cX2_read 49 = .ok (.bipush 47, 2) := by decide +kernel
theorem dX2_read_51 : decode cX2_read 51 = .ok (.invokevirtual 37, 3) := by decide +kernel
theorem dX2_read_54 : decode cX2_read 54 = .ok (.bipush 59, 2) := by decide +kernel
theorem dX2_read_56 : decode cX2_read 56 = .ok (.if_icmp .ne 7, 3) := by decide +kernel
theorem dX2_read_59 : decode cX2_read 59 = .ok (.iconst 1, 1) := by decide +kernel
theorem dX2_read_60 : decode cX2_read 60 = .ok (.goto 4, 3) := by decide +kernel
theorem dX2_read_63 : decode cX2_read 63 = .ok (.iconst 0, 1) := by decide +kernel
theorem dX2_read_64 : decode cX2_read 64 = .ok (.istore 4, 2) := by decide +kernel
theorem dX2_read_66 : decode cX2_read 66 = .ok (.iload 4, 2) := by decide +kernel
theorem dX2_read_68 : decode cX2_read 68 = .ok (.ifCond .eq (-49), 3) := by decide +kernel
theorem dX2_read_71 : decode cX2_read 71 = .ok (.iinc 3 1, 3) := by decide +kernel
theorem dX2_read_74 : decode cX2_read 74 = .ok (.goto (-55), 3) := by decide +kernel
theorem dX2_read_77 : decode cX2_read 77 = .ok (.iload 4, 2) := by decide +kernel
theorem dX2_read_79 : decode cX2_read 79 = .ok (.ifCond .ne 11, 3) := by decide +kernel
theorem dX2_read_82 : decode cX2_read 82 = .ok (.iload_n 3, 1) := by decide +kernel
theorem dX2_read_83 : decode cX2_read 83 = .ok (.aload_n 1, 1) := by decide +kernel
theorem dX2_read_84 : decode cX2_read 84 = .ok (.getfield 28, 3) := by decide +kernel
theorem dX2_read_87 : decode cX2_read 87 = .ok (.if_icmp .ge 7, 3) := by decide +kernel
theorem dX2_read_90 : decode cX2_read 90 = .ok (.iconst (-1), 1) := by decide +kernel
theorem dX2_read_91 : decode cX2_read 91 = .ok (.iload_n 3, 1) := by decide +kernel
theorem dX2_read_92 : decode cX2_read 92 = .ok (.isub, 1) := by decide +kernel
theorem dX2_read_93 : decode cX2_read 93 = .ok (.ireturn, 1) := by decide +kernel
theorem dX2_read_94 : decode cX2_read 94 = .ok (.iload_n 2, 1) := by decide +kernel
theorem dX2_read_95 : decode cX2_read 95 = .ok (.aload_n 0, 1) := by decide +kernel
theorem dX2_read_96 : decode cX2_read 96 = .ok (.getfield 24, 3) := by decide +kernel
theorem dX2_read_99 : decode cX2_read 99 = .ok (.isub, 1) := by decide +kernel
theorem dX2_read_100 : decode cX2_read 100 = .ok (.istore 5, 2) := by decide +kernel
theorem dX2_read_102 : decode cX2_read 102 = .ok (.aload_n 0, 1) := by decide +kernel
theorem dX2_read_103 : decode cX2_read 103 = .ok (.aload_n 0, 1) := by decide +kernel
theorem dX2_read_104 : decode cX2_read 104 = .ok (.getfield 24, 3) := by decide +kernel
theorem dX2_read_107 : decode cX2_read 107 = .ok (.iload_n 2, 1) := by decide +kernel
theorem dX2_read_108 : decode cX2_read 108 = .ok (.invokevirtual 41, 3) := by decide +kernel
theorem dX2_read_111 : decode cX2_read 111 = .ok (.aload_n 0, 1) := by decide +kernel
theorem dX2_read_112 : decode cX2_read 112 = .ok (.iload_n 2, 1) := by decide +kernel
theorem dX2_read_113 : decode cX2_read 113 = .ok (.putfield 24, 3) := by decide +kernel
theorem dX2_read_116 : decode cX2_read 116 = .ok (.iload 5, 2) := by decide +kernel
theorem dX2_read_118 : decode cX2_read 118 = .ok (.ireturn, 1) := by decide +kernel
set_option maxRecDepth 20000 in
theorem ggX2_readLine_X10_signAt : GoodIn wsX2_readLine wsX10_signAt := goodIn_r _ [8, 9, 10, 21, 22] (by decide +kernel) (by decide +kernel)
set_option maxRecDepth 20000 in
theorem gX2_readLine_X10_signAt : GoodIn wsX2_readLine (wsV RX2 37 RX10 yX10_signAt wsX10_signAt) := goodIn_app (goodIn_of _ (by decide +kernel)) ggX2_readLine_X10_signAt
set_option maxRecDepth 20000 in
theorem ggX2_readLine_X11_isDigit : GoodIn wsX2_readLine wsX11_isDigit := goodIn_r _ [13] (by decide +kernel) (by decide +kernel)
set_option maxRecDepth 20000 in
theorem gX2_readLine_X11_isDigit_n45 : GoodIn wsX2_readLine (wsX11_isDigit) := ggX2_readLine_X11_isDigit
set_option maxRecDepth 20000 in
theorem ggX2_readLine_X11_within : GoodIn wsX2_readLine wsX11_within := goodIn_r _ [15] (by decide +kernel) (by decide +kernel)
set_option maxRecDepth 20000 in
theorem gX2_readLine_X11_within_n49 : GoodIn wsX2_readLine (wsX11_within) := ggX2_readLine_X11_within
theorem dX2_readLine_0 : decode cX2_readLine 0 = .ok (.iload_n 2, 1) := by decide +kernel
theorem dX2_readLine_1 : decode cX2_readLine 1 = .ok (.istore 4, 2) := by decide +kernel
theorem dX2_readLine_3 : decode cX2_readLine 3 = .ok (.aload_n 1, 1) := by decide +kernel
theorem dX2_readLine_4 : decode cX2_readLine 4 = .ok (.iload 4, 2) := by decide +kernel
theorem dX2_readLine_6 : decode cX2_readLine 6 = .ok (.bipush 47, 2) := by decide +kernel
theorem dX2_readLine_8 : decode cX2_readLine 8 = .ok (.invokevirtual 37, 3) := by decide +kernel
theorem dX2_readLine_11 : decode cX2_readLine 11 = .ok (.istore 5, 2) := by decide +kernel
theorem dX2_readLine_13 : decode cX2_readLine 13 = .ok (.iload 5, 2) := by decide +kernel
theorem dX2_readLine_15 : decode cX2_readLine 15 = .ok (.invokestatic 45, 3) := by decide +kernel
theorem dX2_readLine_18 : decode cX2_readLine 18 = .ok (.ifCond .eq 9, 3) := by decide +kernel
theorem dX2_readLine_21 : decode cX2_readLine 21 = .ok (.iload_n 3, 1) := by decide +kernel
theorem dX2_readLine_22 : decode cX2_readLine 22 = .ok (.bipush 8, 2) := by decide +kernel
theorem dX2_readLine_24 : decode cX2_readLine 24 = .ok (.if_icmp .lt 8, 3) := by decide +kernel
theorem dX2_readLine_27 : decode cX2_readLine 27 = .ok (.iconst (-1), 1) := by decide +kernel
theorem dX2_readLine_28 : decode cX2_readLine 28 = .ok (.iload 4, 2) := by decide +kernel
theorem dX2_readLine_30 : decode cX2_readLine 30 = .ok (.isub, 1) := by decide +kernel
theorem dX2_readLine_31 : decode cX2_readLine 31 = .ok (.ireturn, 1) := by decide +kernel
theorem dX2_readLine_32 : decode cX2_readLine 32 = .ok (.iload 5, 2) := by decide +kernel
theorem dX2_readLine_34 : decode cX2_readLine 34 = .ok (.bipush 48, 2) := by decide +kernel
theorem dX2_readLine_36 : decode cX2_readLine 36 = .ok (.isub, 1) := by decide +kernel
theorem dX2_readLine_37 : decode cX2_readLine 37 = .ok (.istore 6, 2) := by decide +kernel
theorem dX2_readLine_39 : decode cX2_readLine 39 = .ok (.iinc 4 1, 3) := by decide +kernel
theorem dX2_readLine_42 : decode cX2_readLine 42 = .ok (.aload_n 1, 1) := by decide +kernel
theorem dX2_readLine_43 : decode cX2_readLine 43 = .ok (.iload 4, 2) := by decide +kernel
theorem dX2_readLine_45 : decode cX2_readLine 45 = .ok (.bipush 47, 2) := by decide +kernel
theorem dX2_readLine_47 : decode cX2_readLine 47 = .ok (.invokevirtual 37, 3) := by decide +kernel
theorem dX2_readLine_50 : decode cX2_readLine 50 = .ok (.istore 5, 2) := by decide +kernel
theorem dX2_readLine_52 : decode cX2_readLine 52 = .ok (.iload 5, 2) := by decide +kernel
theorem dX2_readLine_54 : decode cX2_readLine 54 = .ok (.invokestatic 45, 3) := by decide +kernel
theorem dX2_readLine_57 : decode cX2_readLine 57 = .ok (.ifCond .eq 19, 3) := by decide +kernel
theorem dX2_readLine_60 : decode cX2_readLine 60 = .ok (.bipush 10, 2) := by decide +kernel
theorem dX2_readLine_62 : decode cX2_readLine 62 = .ok (.iload 6, 2) := by decide +kernel
theorem dX2_readLine_64 : decode cX2_readLine 64 = .ok (.imul, 1) := by decide +kernel
theorem dX2_readLine_65 : decode cX2_readLine 65 = .ok (.iload 5, 2) := by decide +kernel
theorem dX2_readLine_67 : decode cX2_readLine 67 = .ok (.iadd, 1) := by decide +kernel
theorem dX2_readLine_68 : decode cX2_readLine 68 = .ok (.bipush 48, 2) := by decide +kernel
theorem dX2_readLine_70 : decode cX2_readLine 70 = .ok (.isub, 1) := by decide +kernel
theorem dX2_readLine_71 : decode cX2_readLine 71 = .ok (.istore 6, 2) := by decide +kernel
theorem dX2_readLine_73 : decode cX2_readLine 73 = .ok (.iinc 4 1, 3) := by decide +kernel
theorem dX2_readLine_76 : decode cX2_readLine 76 = .ok (.iload 6, 2) := by decide +kernel
theorem dX2_readLine_78 : decode cX2_readLine 78 = .ok (.iconst 4, 1) := by decide +kernel
theorem dX2_readLine_79 : decode cX2_readLine 79 = .ok (.bipush 13, 2) := by decide +kernel
theorem dX2_readLine_81 : decode cX2_readLine 81 = .ok (.invokestatic 49, 3) := by decide +kernel
theorem dX2_readLine_84 : decode cX2_readLine 84 = .ok (.ifCond .ne 7, 3) := by decide +kernel
theorem dX2_readLine_87 : decode cX2_readLine 87 = .ok (.iload 4, 2) := by decide +kernel
theorem dX2_readLine_89 : decode cX2_readLine 89 = .ok (.ineg, 1) := by decide +kernel
theorem dX2_readLine_90 : decode cX2_readLine 90 = .ok (.ireturn, 1) := by decide +kernel
theorem dX2_readLine_91 : decode cX2_readLine 91 = .ok (.aload_n 1, 1) := by decide +kernel
theorem dX2_readLine_92 : decode cX2_readLine 92 = .ok (.iload 4, 2) := by decide +kernel
theorem dX2_readLine_94 : decode cX2_readLine 94 = .ok (.bipush 47, 2) := by decide +kernel
theorem dX2_readLine_96 : decode cX2_readLine 96 = .ok (.invokevirtual 37, 3) := by decide +kernel
theorem dX2_readLine_99 : decode cX2_readLine 99 = .ok (.bipush 44, 2) := by decide +kernel
theorem dX2_readLine_101 : decode cX2_readLine 101 = .ok (.if_icmp .eq 8, 3) := by decide +kernel
theorem dX2_readLine_104 : decode cX2_readLine 104 = .ok (.iconst (-1), 1) := by decide +kernel
theorem dX2_readLine_105 : decode cX2_readLine 105 = .ok (.iload 4, 2) := by decide +kernel
theorem dX2_readLine_107 : decode cX2_readLine 107 = .ok (.isub, 1) := by decide +kernel
theorem dX2_readLine_108 : decode cX2_readLine 108 = .ok (.ireturn, 1) := by decide +kernel
theorem dX2_readLine_109 : decode cX2_readLine 109 = .ok (.iinc 4 1, 3) := by decide +kernel
theorem dX2_readLine_112 : decode cX2_readLine 112 = .ok (.aload_n 1, 1) := by decide +kernel
theorem dX2_readLine_113 : decode cX2_readLine 113 = .ok (.iload 4, 2) := by decide +kernel
theorem dX2_readLine_115 : decode cX2_readLine 115 = .ok (.bipush 47, 2) := by decide +kernel
theorem dX2_readLine_117 : decode cX2_readLine 117 = .ok (.invokevirtual 37, 3) := by decide +kernel
theorem dX2_readLine_120 : decode cX2_readLine 120 = .ok (.istore 5, 2) := by decide +kernel
theorem dX2_readLine_122 : decode cX2_readLine 122 = .ok (.iload 5, 2) := by decide +kernel
theorem dX2_readLine_124 : decode cX2_readLine 124 = .ok (.bipush 49, 2) := by decide +kernel
theorem dX2_readLine_126 : decode cX2_readLine 126 = .ok (.bipush 57, 2) := by decide +kernel
theorem dX2_readLine_128 : decode cX2_readLine 128 = .ok (.invokestatic 49, 3) := by decide +kernel
theorem dX2_readLine_131 : decode cX2_readLine 131 = .ok (.ifCond .ne 8, 3) := by decide +kernel
theorem dX2_readLine_134 : decode cX2_readLine 134 = .ok (.iconst (-1), 1) := by decide +kernel
theorem dX2_readLine_135 : decode cX2_readLine 135 = .ok (.iload 4, 2) := by decide +kernel
theorem dX2_readLine_137 : decode cX2_readLine 137 = .ok (.isub, 1) := by decide +kernel
theorem dX2_readLine_138 : decode cX2_readLine 138 = .ok (.ireturn, 1) := by decide +kernel
theorem dX2_readLine_139 : decode cX2_readLine 139 = .ok (.aload_n 0, 1) := by decide +kernel
theorem dX2_readLine_140 : decode cX2_readLine 140 = .ok (.getfield 9, 3) := by decide +kernel
theorem dX2_readLine_143 : decode cX2_readLine 143 = .ok (.iload_n 3, 1) := by decide +kernel
theorem dX2_readLine_144 : decode cX2_readLine 144 = .ok (.iload 6, 2) := by decide +kernel
theorem dX2_readLine_146 : decode cX2_readLine 146 = .ok (.iastore, 1) := by decide +kernel
theorem dX2_readLine_147 : decode cX2_readLine 147 = .ok (.aload_n 0, 1) := by decide +kernel
theorem dX2_readLine_148 : decode cX2_readLine 148 = .ok (.getfield 15, 3) := by decide +kernel
theorem dX2_readLine_151 : decode cX2_readLine 151 = .ok (.iload_n 3, 1) := by decide +kernel
theorem dX2_readLine_152 : decode cX2_readLine 152 = .ok (.iload 5, 2) := by decide +kernel
theorem dX2_readLine_154 : decode cX2_readLine 154 = .ok (.bipush 48, 2) := by decide +kernel
theorem dX2_readLine_156 : decode cX2_readLine 156 = .ok (.isub, 1) := by decide +kernel
theorem dX2_readLine_157 : decode cX2_readLine 157 = .ok (.iastore, 1) := by decide +kernel
theorem dX2_readLine_158 : decode cX2_readLine 158 = .ok (.iinc 4 1, 3) := by decide +kernel
theorem dX2_readLine_161 : decode cX2_readLine 161 = .ok (.aload_n 1, 1) := by decide +kernel
theorem dX2_readLine_162 : decode cX2_readLine 162 = .ok (.iload 4, 2) := by decide +kernel
theorem dX2_readLine_164 : decode cX2_readLine 164 = .ok (.bipush 47, 2) := by decide +kernel
theorem dX2_readLine_166 : decode cX2_readLine 166 = .ok (.invokevirtual 37, 3) := by decide +kernel
theorem dX2_readLine_169 : decode cX2_readLine 169 = .ok (.istore 5, 2) := by decide +kernel
theorem dX2_readLine_171 : decode cX2_readLine 171 = .ok (.iload 5, 2) := by decide +kernel
theorem dX2_readLine_173 : decode cX2_readLine 173 = .ok (.bipush 45, 2) := by decide +kernel
theorem dX2_readLine_175 : decode cX2_readLine 175 = .ok (.if_icmp .eq 23, 3) := by decide +kernel
theorem dX2_readLine_178 : decode cX2_readLine 178 = .ok (.iload 5, 2) := by decide +kernel
theorem dX2_readLine_180 : decode cX2_readLine 180 = .ok (.bipush 97, 2) := by decide +kernel
theorem dX2_readLine_182 : decode cX2_readLine 182 = .ok (.isub, 1) := by decide +kernel
theorem dX2_readLine_183 : decode cX2_readLine 183 = .ok (.iconst 0, 1) := by decide +kernel
theorem dX2_readLine_184 : decode cX2_readLine 184 = .ok (.iload_n 3, 1) := by decide +kernel
theorem dX2_readLine_185 : decode cX2_readLine 185 = .ok (.iconst 1, 1) := by decide +kernel
theorem dX2_readLine_186 : decode cX2_readLine 186 = .ok (.isub, 1) := by decide +kernel
theorem dX2_readLine_187 : decode cX2_readLine 187 = .ok (.invokestatic 49, 3) := by decide +kernel
theorem dX2_readLine_190 : decode cX2_readLine 190 = .ok (.ifCond .ne 8, 3) := by decide +kernel
theorem dX2_readLine_193 : decode cX2_readLine 193 = .ok (.iconst (-1), 1) := by decide +kernel
theorem dX2_readLine_194 : decode cX2_readLine 194 = .ok (.iload 4, 2) := by decide +kernel
theorem dX2_readLine_196 : decode cX2_readLine 196 = .ok (.isub, 1) := by decide +kernel
theorem dX2_readLine_197 : decode cX2_readLine 197 = .ok (.ireturn, 1) := by decide +kernel
theorem dX2_readLine_198 : decode cX2_readLine 198 = .ok (.aload_n 0, 1) := by decide +kernel
theorem dX2_readLine_199 : decode cX2_readLine 199 = .ok (.getfield 18, 3) := by decide +kernel
theorem dX2_readLine_202 : decode cX2_readLine 202 = .ok (.iload_n 3, 1) := by decide +kernel
theorem dX2_readLine_203 : decode cX2_readLine 203 = .ok (.iload 5, 2) := by decide +kernel
theorem dX2_readLine_205 : decode cX2_readLine 205 = .ok (.bipush 45, 2) := by decide +kernel
theorem dX2_readLine_207 : decode cX2_readLine 207 = .ok (.if_icmp .ne 7, 3) := by decide +kernel
theorem dX2_readLine_210 : decode cX2_readLine 210 = .ok (.iconst (-1), 1) := by decide +kernel
theorem dX2_readLine_211 : decode cX2_readLine 211 = .ok (.goto 8, 3) := by decide +kernel
theorem dX2_readLine_214 : decode cX2_readLine 214 = .ok (.iload 5, 2) := by decide +kernel
theorem dX2_readLine_216 : decode cX2_readLine 216 = .ok (.bipush 97, 2) := by decide +kernel
theorem dX2_readLine_218 : decode cX2_readLine 218 = .ok (.isub, 1) := by decide +kernel
theorem dX2_readLine_219 : decode cX2_readLine 219 = .ok (.iastore, 1) := by decide +kernel
theorem dX2_readLine_220 : decode cX2_readLine 220 = .ok (.iload 4, 2) := by decide +kernel
theorem dX2_readLine_222 : decode cX2_readLine 222 = .ok (.iconst 1, 1) := by decide +kernel
theorem dX2_readLine_223 : decode cX2_readLine 223 = .ok (.iadd, 1) := by decide +kernel
theorem dX2_readLine_224 : decode cX2_readLine 224 = .ok (.ireturn, 1) := by decide +kernel
theorem dX2_befriend_0 : decode cX2_befriend 0 = .ok (.iload_n 1, 1) := by decide +kernel
theorem dX2_befriend_1 : decode cX2_befriend 1 = .ok (.istore_n 3, 1) := by decide +kernel
theorem dX2_befriend_2 : decode cX2_befriend 2 = .ok (.iload_n 3, 1) := by decide +kernel
theorem dX2_befriend_3 : decode cX2_befriend 3 = .ok (.iload_n 2, 1) := by decide +kernel
theorem dX2_befriend_4 : decode cX2_befriend 4 = .ok (.if_icmp .ge 67, 3) := by decide +kernel
theorem dX2_befriend_7 : decode cX2_befriend 7 = .ok (.iload_n 3, 1) := by decide +kernel
theorem dX2_befriend_8 : decode cX2_befriend 8 = .ok (.bipush 8, 2) := by decide +kernel
theorem dX2_befriend_10 : decode cX2_befriend 10 = .ok (.if_icmp .ge 61, 3) := by decide +kernel
theorem dX2_befriend_13 : decode cX2_befriend 13 = .ok (.aload_n 0, 1) := by decide +kernel
theorem dX2_befriend_14 : decode cX2_befriend 14 = .ok (.getfield 21, 3) := by decide +kernel
theorem dX2_befriend_17 : decode cX2_befriend 17 = .ok (.iload_n 3, 1) := by decide +kernel
theorem dX2_befriend_18 : decode cX2_befriend 18 = .ok (.iconst 0, 1) := by decide +kernel
theorem dX2_befriend_19 : decode cX2_befriend 19 = .ok (.iastore, 1) := by decide +kernel
theorem dX2_befriend_20 : decode cX2_befriend 20 = .ok (.aload_n 0, 1) := by decide +kernel
theorem dX2_befriend_21 : decode cX2_befriend 21 = .ok (.getfield 18, 3) := by decide +kernel
theorem dX2_befriend_24 : decode cX2_befriend 24 = .ok (.iload_n 3, 1) := by decide +kernel
theorem dX2_befriend_25 : decode cX2_befriend 25 = .ok (.iaload, 1) := by decide +kernel
theorem dX2_befriend_26 : decode cX2_befriend 26 = .ok (.istore 4, 2) := by decide +kernel
theorem dX2_befriend_28 : decode cX2_befriend 28 = .ok (.iload 4, 2) := by decide +kernel
theorem dX2_befriend_30 : decode cX2_befriend 30 = .ok (.ifCond .lt 35, 3) := by decide +kernel
theorem dX2_befriend_33 : decode cX2_befriend 33 = .ok (.iload 4, 2) := by decide +kernel
theorem dX2_befriend_35 : decode cX2_befriend 35 = .ok (.iload_n 3, 1) := by decide +kernel
theorem dX2_befriend_36 : decode cX2_befriend 36 = .ok (.if_icmp .ge 29, 3) := by decide +kernel
theorem dX2_befriend_39 : decode cX2_befriend 39 = .ok (.aload_n 0, 1) := by decide +kernel
theorem dX2_befriend_40 : decode cX2_befriend 40 = .ok (.getfield 21, 3) := by decide +kernel
theorem dX2_befriend_43 : decode cX2_befriend 43 = .ok (.iload_n 3, 1) := by decide +kernel
theorem dX2_befriend_44 : decode cX2_befriend 44 = .ok (.dup2, 1) := by decide +kernel
theorem dX2_befriend_45 : decode cX2_befriend 45 = .ok (.iaload, 1) := by decide +kernel
theorem dX2_befriend_46 : decode cX2_befriend 46 = .ok (.iconst 1, 1) := by decide +kernel
theorem dX2_befriend_47 : decode cX2_befriend 47 = .ok (.iload 4, 2) := by decide +kernel
theorem dX2_befriend_49 : decode cX2_befriend 49 = .ok (.ishl, 1) := by decide +kernel
theorem dX2_befriend_50 : decode cX2_befriend 50 = .ok (.ior, 1) := by decide +kernel
theorem dX2_befriend_51 : decode cX2_befriend 51 = .ok (.iastore, 1) := by decide +kernel
theorem dX2_befriend_52 : decode cX2_befriend 52 = .ok (.aload_n 0, 1) := by decide +kernel
theorem dX2_befriend_53 : decode cX2_befriend 53 = .ok (.getfield 21, 3) := by decide +kernel
theorem dX2_befriend_56 : decode cX2_befriend 56 = .ok (.iload 4, 2) := by decide +kernel
theorem dX2_befriend_58 : decode cX2_befriend 58 = .ok (.dup2, 1) := by decide +kernel
theorem dX2_befriend_59 : decode cX2_befriend 59 = .ok (.iaload, 1) := by decide +kernel
theorem dX2_befriend_60 : decode cX2_befriend 60 = .ok (.iconst 1, 1) := by decide +kernel
theorem dX2_befriend_61 : decode cX2_befriend 61 = .ok (.iload_n 3, 1) := by decide +kernel
theorem dX2_befriend_62 : decode cX2_befriend 62 = .ok (.ishl, 1) := by decide +kernel
theorem dX2_befriend_63 : decode cX2_befriend 63 = .ok (.ior, 1) := by decide +kernel
theorem dX2_befriend_64 : decode cX2_befriend 64 = .ok (.iastore, 1) := by decide +kernel
theorem dX2_befriend_65 : decode cX2_befriend 65 = .ok (.iinc 3 1, 3) := by decide +kernel
theorem dX2_befriend_68 : decode cX2_befriend 68 = .ok (.goto (-66), 3) := by decide +kernel
theorem dX2_befriend_71 : decode cX2_befriend 71 = .ok (.return_, 1) := by decide +kernel
