theorem dX1_init_0 : decode cX1_init 0 = .ok (.aload_n 0, 1) := by decide +kernel
theorem dX1_init_1 : decode cX1_init 1 = .ok (.invokespecial 3, 3) := by decide +kernel
theorem dX1_init_4 : decode cX1_init 4 = .ok (.aload_n 0, 1) := by decide +kernel
theorem dX1_init_5 : decode cX1_init 5 = .ok (.bipush 8, 2) := by decide +kernel
theorem dX1_init_7 : decode cX1_init 7 = .ok (.newarray .int, 2) := by decide +kernel
theorem dX1_init_9 : decode cX1_init 9 = .ok (.putfield 9, 3) := by decide +kernel
theorem dX1_init_12 : decode cX1_init 12 = .ok (.aload_n 0, 1) := by decide +kernel
theorem dX1_init_13 : decode cX1_init 13 = .ok (.bipush 12, 2) := by decide +kernel
theorem dX1_init_15 : decode cX1_init 15 = .ok (.newarray .int, 2) := by decide +kernel
theorem dX1_init_17 : decode cX1_init 17 = .ok (.putfield 15, 3) := by decide +kernel
theorem dX1_init_20 : decode cX1_init 20 = .ok (.aload_n 0, 1) := by decide +kernel
theorem dX1_init_21 : decode cX1_init 21 = .ok (.bipush 8, 2) := by decide +kernel
theorem dX1_init_23 : decode cX1_init 23 = .ok (.newarray .int, 2) := by decide +kernel
theorem dX1_init_25 : decode cX1_init 25 = .ok (.putfield 18, 3) := by decide +kernel
theorem dX1_init_28 : decode cX1_init 28 = .ok (.aload_n 0, 1) := by decide +kernel
theorem dX1_init_29 : decode cX1_init 29 = .ok (.aload_n 1, 1) := by decide +kernel
theorem dX1_init_30 : decode cX1_init 30 = .ok (.putfield 21, 3) := by decide +kernel
theorem dX1_init_33 : decode cX1_init 33 = .ok (.aload_n 0, 1) := by decide +kernel
theorem dX1_init_34 : decode cX1_init 34 = .ok (.aload_n 2, 1) := by decide +kernel
theorem dX1_init_35 : decode cX1_init 35 = .ok (.putfield 25, 3) := by decide +kernel
theorem dX1_init_38 : decode cX1_init 38 = .ok (.return_, 1) := by decide +kernel
set_option maxRecDepth 20000 in
theorem ggX1_find_X1_prepare : GoodIn wsX1_find wsX1_prepare := goodIn_r _ [8, 3, 9, 10, 11, 2, 12, 13, 14, 15, 16, 17, 18, 19, 20, 21, 22, 23, 24, 25, 26, 27, 28, 7, 29, 30, 31, 1, 32, 33, 34, 35, 111, 112, 113, 114, 115, 116, 117, 118, 119, 120, 121, 122, 123, 124, 125, 126, 127, 128, 129, 130, 131, 132, 133, 134, 135, 136, 137] (by decide +kernel) (by decide +kernel)
set_option maxRecDepth 20000 in
theorem gX1_find_X1_prepare : GoodIn wsX1_find (wsV RX1 36 RX1 yX1_prepare wsX1_prepare) := goodIn_app (goodIn_of _ (by decide +kernel)) ggX1_find_X1_prepare
set_option maxRecDepth 20000 in
theorem ggX1_find_J6_bitCount_0f7a4 : GoodIn wsX1_find wsJ6_bitCount_0f7a4 := goodIn_r _ [39, 40, 41, 42] (by decide +kernel) (by decide +kernel)
set_option maxRecDepth 20000 in
theorem gX1_find_J6_bitCount_0f7a4 : GoodIn wsX1_find (va_wsS RX1 43 yJ6_bitCount_0f7a4 wsJ6_bitCount_0f7a4) := goodIn_app (goodIn_of _ (by decide +kernel)) ggX1_find_J6_bitCount_0f7a4
set_option maxRecDepth 20000 in
theorem ggX1_find_X1_settle : GoodIn wsX1_find wsX1_settle := goodIn_r _ [46, 12, 13, 14, 3, 9, 10, 11, 15, 47, 48, 49, 7, 50, 36, 37, 38, 39, 40, 41, 42, 51, 52, 53, 54, 55, 56, 57, 58, 59, 1, 2, 60, 61, 62, 21, 63, 25, 64, 65, 66, 67, 68, 69, 70, 71, 72, 73, 74, 75, 76, 23, 77, 78, 79, 80, 81, 82, 83, 84, 85, 86, 87, 88, 89, 90, 91, 92, 93, 94, 95, 96, 97, 98, 99, 100, 101, 102, 103, 104, 34, 35, 105, 106, 107, 108, 109, 110, 19, 20, 22, 24, 43, 44, 45, 111, 112, 113, 114, 115, 116, 117, 118, 124, 125, 126, 127, 128, 119, 120, 121, 122, 123, 129, 130, 131, 132, 133, 134, 135, 136, 137] (by decide +kernel) (by decide +kernel)
set_option maxRecDepth 20000 in
theorem gX1_find_X1_settle : GoodIn wsX1_find (wsV RX1 49 RX1 yX1_settle wsX1_settle) := goodIn_app (goodIn_of _ (by decide +kernel)) ggX1_find_X1_settle
theorem dX1_find_0 : decode cX1_find 0 = .ok (.aload_n 0, 1) := by decide +kernel
theorem dX1_find_1 : decode cX1_find 1 = .ok (.iload 4, 2) := by decide +kernel
theorem dX1_find_3 : decode cX1_find 3 = .ok (.putfield 29, 3) := by decide +kernel
theorem dX1_find_6 : decode cX1_find 6 = .ok (.aload_n 0, 1) := by decide +kernel
theorem dX1_find_7 : decode cX1_find 7 = .ok (.iload 5, 2) := by decide +kernel
theorem dX1_find_9 : decode cX1_find 9 = .ok (.putfield 33, 3) := by decide +kernel
theorem dX1_find_12 : decode cX1_find 12 = .ok (.aload_n 0, 1) := by decide +kernel
theorem dX1_find_13 : decode cX1_find 13 = .ok (.aload_n 1, 1) := by decide +kernel
theorem dX1_find_14 : decode cX1_find 14 = .ok (.iload_n 3, 1) := by decide +kernel
theorem dX1_find_15 : decode cX1_find 15 = .ok (.invokevirtual 36, 3) := by decide +kernel
theorem dX1_find_18 : decode cX1_find 18 = .ok (.iconst 0, 1) := by decide +kernel
theorem dX1_find_19 : decode cX1_find 19 = .ok (.istore 6, 2) := by decide +kernel
theorem dX1_find_21 : decode cX1_find 21 = .ok (.iload 6, 2) := by decide +kernel
theorem dX1_find_23 : decode cX1_find 23 = .ok (.aload_n 0, 1) := by decide +kernel
theorem dX1_find_24 : decode cX1_find 24 = .ok (.getfield 40, 3) := by decide +kernel
theorem dX1_find_27 : decode cX1_find 27 = .ok (.invokestatic 43, 3) := by decide +kernel
theorem dX1_find_30 : decode cX1_find 30 = .ok (.if_icmp .gt 24, 3) := by decide +kernel
theorem dX1_find_33 : decode cX1_find 33 = .ok (.aload_n 0, 1) := by decide +kernel
theorem dX1_find_34 : decode cX1_find 34 = .ok (.aload_n 1, 1) := by decide +kernel
theorem dX1_find_35 : decode cX1_find 35 = .ok (.aload_n 2, 1) := by decide +kernel
theorem dX1_find_36 : decode cX1_find 36 = .ok (.iconst 0, 1) := by decide +kernel
theorem dX1_find_37 : decode cX1_find 37 = .ok (.iload 6, 2) := by decide +kernel
theorem dX1_find_39 : decode cX1_find 39 = .ok (.invokevirtual 49, 3) := by decide +kernel
theorem dX1_find_42 : decode cX1_find 42 = .ok (.ifCond .eq 6, 3) := by decide +kernel
theorem dX1_find_45 : decode cX1_find 45 = .ok (.iload 6, 2) := by decide +kernel
theorem dX1_find_47 : decode cX1_find 47 = .ok (.ireturn, 1) := by decide +kernel
theorem dX1_find_48 : decode cX1_find 48 = .ok (.iinc 6 1, 3) := by decide +kernel
theorem dX1_find_51 : decode cX1_find 51 = .ok (.goto (-30), 3) := by decide +kernel
theorem dX1_find_54 : decode cX1_find 54 = .ok (.iconst (-1), 1) := by decide +kernel
theorem dX1_find_55 : decode cX1_find 55 = .ok (.ireturn, 1) := by decide +kernel
set_option maxRecDepth 20000 in
theorem ggX1_prepare_X9_top : GoodIn wsX1_prepare wsX9_top := goodIn_r _ [16, 17, 18, 19, 50, 51, 52, 53, 54, 55, 56, 57, 58, 40, 41, 42, 43, 44] (by decide +kernel) (by decide +kernel)
set_option maxRecDepth 20000 in
theorem gX1_prepare_X9_top : GoodIn wsX1_prepare (wsV RX1 58 RX9 yX9_top wsX9_top) := goodIn_app (goodIn_of _ (by decide +kernel)) ggX1_prepare_X9_top
set_option maxRecDepth 20000 in
theorem ggX1_prepare_X1_mostOf : GoodIn wsX1_prepare wsX1_mostOf := goodIn_r _ [24, 6, 25, 26, 10, 27, 28, 29, 30, 15, 31, 32, 33, 34, 35, 36, 37, 38, 39, 45, 46, 47, 48, 49, 50, 51, 52, 53, 54, 55, 56, 57, 58] (by decide +kernel) (by decide +kernel)
set_option maxRecDepth 20000 in
theorem gX1_prepare_X1_mostOf : GoodIn wsX1_prepare (wsV RX1 74 RX1 yX1_mostOf wsX1_mostOf) := goodIn_app (goodIn_of _ (by decide +kernel)) ggX1_prepare_X1_mostOf
theorem dX1_prepare_0 : decode cX1_prepare 0 = .ok (.aload_n 0, 1) := by decide +kernel
theorem dX1_prepare_1 : decode cX1_prepare 1 = .ok (.iconst 0, 1) := by decide +kernel
theorem dX1_prepare_2 : decode cX1_prepare 2 = .ok (.putfield 40, 3) := by decide +kernel
theorem dX1_prepare_5 : decode cX1_prepare 5 = .ok (.iconst 0, 1) := by decide +kernel
theorem dX1_prepare_6 : decode cX1_prepare 6 = .ok (.istore_n 3, 1) := by decide +kernel
theorem dX1_prepare_7 : decode cX1_prepare 7 = .ok (.iload_n 3, 1) := by decide +kernel
theorem dX1_prepare_8 : decode cX1_prepare 8 = .ok (.aload_n 0, 1) := by decide +kernel
theorem dX1_prepare_9 : decode cX1_prepare 9 = .ok (.getfield 21, 3) := by decide +kernel
theorem dX1_prepare_12 : decode cX1_prepare 12 = .ok (.getfield 53, 3) := by decide +kernel
theorem dX1_prepare_15 : decode cX1_prepare 15 = .ok (.if_icmp .ge 25, 3) := by decide +kernel
theorem dX1_prepare_18 : decode cX1_prepare 18 = .ok (.aload_n 0, 1) := by decide +kernel
theorem dX1_prepare_19 : decode cX1_prepare 19 = .ok (.getfield 15, 3) := by decide +kernel
theorem dX1_prepare_22 : decode cX1_prepare 22 = .ok (.iload_n 3, 1) := by decide +kernel
theorem dX1_prepare_23 : decode cX1_prepare 23 = .ok (.aload_n 0, 1) := by decide +kernel
theorem dX1_prepare_24 : decode cX1_prepare 24 = .ok (.getfield 33, 3) := by decide +kernel
theorem dX1_prepare_27 : decode cX1_prepare 27 = .ok (.aload_n 1, 1) := by decide +kernel
theorem dX1_prepare_28 : decode cX1_prepare 28 = .ok (.iload_n 3, 1) := by decide +kernel
theorem dX1_prepare_29 : decode cX1_prepare 29 = .ok (.invokevirtual 58, 3) := by decide +kernel
theorem dX1_prepare_32 : decode cX1_prepare 32 = .ok (.isub, 1) := by decide +kernel
theorem dX1_prepare_33 : decode cX1_prepare 33 = .ok (.iastore, 1) := by decide +kernel
theorem dX1_prepare_34 : decode cX1_prepare 34 = .ok (.iinc 3 1, 3) := by decide +kernel
theorem dX1_prepare_37 : decode cX1_prepare 37 = .ok (.goto (-30), 3) := by decide +kernel
theorem dX1_prepare_40 : decode cX1_prepare 40 = .ok (.iconst 0, 1) := by decide +kernel
theorem dX1_prepare_41 : decode cX1_prepare 41 = .ok (.istore_n 3, 1) := by decide +kernel
theorem dX1_prepare_42 : decode cX1_prepare 42 = .ok (.iload_n 3, 1) := by decide +kernel
theorem dX1_prepare_43 : decode cX1_prepare 43 = .ok (.aload_n 0, 1) := by decide +kernel
theorem dX1_prepare_44 : decode cX1_prepare 44 = .ok (.getfield 25, 3) := by decide +kernel
theorem dX1_prepare_47 : decode cX1_prepare 47 = .ok (.getfield 63, 3) := by decide +kernel
theorem dX1_prepare_50 : decode cX1_prepare 50 = .ok (.if_icmp .ge 83, 3) := by decide +kernel
theorem dX1_prepare_53 : decode cX1_prepare 53 = .ok (.aload_n 0, 1) := by decide +kernel
theorem dX1_prepare_54 : decode cX1_prepare 54 = .ok (.getfield 9, 3) := by decide +kernel
theorem dX1_prepare_57 : decode cX1_prepare 57 = .ok (.iload_n 3, 1) := by decide +kernel
theorem dX1_prepare_58 : decode cX1_prepare 58 = .ok (.iconst (-1), 1) := by decide +kernel
theorem dX1_prepare_59 : decode cX1_prepare 59 = .ok (.iastore, 1) := by decide +kernel
theorem dX1_prepare_60 : decode cX1_prepare 60 = .ok (.aload_n 0, 1) := by decide +kernel
theorem dX1_prepare_61 : decode cX1_prepare 61 = .ok (.getfield 18, 3) := by decide +kernel
theorem dX1_prepare_64 : decode cX1_prepare 64 = .ok (.iload_n 3, 1) := by decide +kernel
theorem dX1_prepare_65 : decode cX1_prepare 65 = .ok (.iconst 0, 1) := by decide +kernel
theorem dX1_prepare_66 : decode cX1_prepare 66 = .ok (.iastore, 1) := by decide +kernel
theorem dX1_prepare_67 : decode cX1_prepare 67 = .ok (.iload_n 2, 1) := by decide +kernel
theorem dX1_prepare_68 : decode cX1_prepare 68 = .ok (.iload_n 3, 1) := by decide +kernel
theorem dX1_prepare_69 : decode cX1_prepare 69 = .ok (.ishr, 1) := by decide +kernel
theorem dX1_prepare_70 : decode cX1_prepare 70 = .ok (.iconst 1, 1) := by decide +kernel
theorem dX1_prepare_71 : decode cX1_prepare 71 = .ok (.iand, 1) := by decide +kernel
theorem dX1_prepare_72 : decode cX1_prepare 72 = .ok (.ifCond .eq 55, 3) := by decide +kernel
theorem dX1_prepare_75 : decode cX1_prepare 75 = .ok (.aload_n 1, 1) := by decide +kernel
theorem dX1_prepare_76 : decode cX1_prepare 76 = .ok (.getfield 68, 3) := by decide +kernel
theorem dX1_prepare_79 : decode cX1_prepare 79 = .ok (.iload_n 3, 1) := by decide +kernel
theorem dX1_prepare_80 : decode cX1_prepare 80 = .ok (.iaload, 1) := by decide +kernel
theorem dX1_prepare_81 : decode cX1_prepare 81 = .ok (.ifCond .le 46, 3) := by decide +kernel
theorem dX1_prepare_84 : decode cX1_prepare 84 = .ok (.aload_n 0, 1) := by decide +kernel
theorem dX1_prepare_85 : decode cX1_prepare 85 = .ok (.dup, 1) := by decide +kernel
theorem dX1_prepare_86 : decode cX1_prepare 86 = .ok (.getfield 40, 3) := by decide +kernel
theorem dX1_prepare_89 : decode cX1_prepare 89 = .ok (.iconst 1, 1) := by decide +kernel
theorem dX1_prepare_90 : decode cX1_prepare 90 = .ok (.iload_n 3, 1) := by decide +kernel
theorem dX1_prepare_91 : decode cX1_prepare 91 = .ok (.ishl, 1) := by decide +kernel
theorem dX1_prepare_92 : decode cX1_prepare 92 = .ok (.ior, 1) := by decide +kernel
theorem dX1_prepare_93 : decode cX1_prepare 93 = .ok (.putfield 40, 3) := by decide +kernel
theorem dX1_prepare_96 : decode cX1_prepare 96 = .ok (.aload_n 0, 1) := by decide +kernel
theorem dX1_prepare_97 : decode cX1_prepare 97 = .ok (.getfield 18, 3) := by decide +kernel
theorem dX1_prepare_100 : decode cX1_prepare 100 = .ok (.iload_n 3, 1) := by decide +kernel
theorem dX1_prepare_101 : decode cX1_prepare 101 = .ok (.aload_n 0, 1) := by decide +kernel
theorem dX1_prepare_102 : decode cX1_prepare 102 = .ok (.aload_n 1, 1) := by decide +kernel
theorem dX1_prepare_103 : decode cX1_prepare 103 = .ok (.iload_n 3, 1) := by decide +kernel
theorem dX1_prepare_104 : decode cX1_prepare 104 = .ok (.aload_n 0, 1) := by decide +kernel
theorem dX1_prepare_105 : decode cX1_prepare 105 = .ok (.getfield 25, 3) := by decide +kernel
theorem dX1_prepare_108 : decode cX1_prepare 108 = .ok (.getfield 71, 3) := by decide +kernel
theorem dX1_prepare_111 : decode cX1_prepare 111 = .ok (.iload_n 3, 1) := by decide +kernel
theorem dX1_prepare_112 : decode cX1_prepare 112 = .ok (.iaload, 1) := by decide +kernel
theorem dX1_prepare_113 : decode cX1_prepare 113 = .ok (.iload_n 2, 1) := by decide +kernel
theorem dX1_prepare_114 : decode cX1_prepare 114 = .ok (.iand, 1) := by decide +kernel
theorem dX1_prepare_115 : decode cX1_prepare 115 = .ok (.ifCond .eq 7, 3) := by decide +kernel
theorem dX1_prepare_118 : decode cX1_prepare 118 = .ok (.iconst 1, 1) := by decide +kernel
theorem dX1_prepare_119 : decode cX1_prepare 119 = .ok (.goto 4, 3) := by decide +kernel
theorem dX1_prepare_122 : decode cX1_prepare 122 = .ok (.iconst 0, 1) := by decide +kernel
theorem dX1_prepare_123 : decode cX1_prepare 123 = .ok (.invokevirtual 74, 3) := by decide +kernel
theorem dX1_prepare_126 : decode cX1_prepare 126 = .ok (.iastore, 1) := by decide +kernel
theorem dX1_prepare_127 : decode cX1_prepare 127 = .ok (.iinc 3 1, 3) := by decide +kernel
theorem dX1_prepare_130 : decode cX1_prepare 130 = .ok (.goto (-88), 3) := by decide +kernel
theorem dX1_prepare_133 : decode cX1_prepare 133 = .ok (.return_, 1) := by decide +kernel
set_option maxRecDepth 20000 in
theorem ggX1_mostOf_X9_halved : GoodIn wsX1_mostOf wsX9_halved := goodIn_r _ [10] (by decide +kernel) (by decide +kernel)
set_option maxRecDepth 20000 in
theorem gX1_mostOf_X9_halved : GoodIn wsX1_mostOf (va_wsS RX1 87 yX9_halved wsX9_halved) := goodIn_app (goodIn_of _ (by decide +kernel)) ggX1_mostOf_X9_halved
theorem dX1_mostOf_0 : decode cX1_mostOf 0 = .ok (.aload_n 0, 1) := by decide +kernel
theorem dX1_mostOf_1 : decode cX1_mostOf 1 = .ok (.getfield 25, 3) := by decide +kernel
theorem dX1_mostOf_4 : decode cX1_mostOf 4 = .ok (.getfield 78, 3) := by decide +kernel
theorem dX1_mostOf_7 : decode cX1_mostOf 7 = .ok (.iload_n 2, 1) := by decide +kernel
theorem dX1_mostOf_8 : decode cX1_mostOf 8 = .ok (.iaload, 1) := by decide +kernel
theorem dX1_mostOf_9 : decode cX1_mostOf 9 = .ok (.aload_n 1, 1) := by decide +kernel
theorem dX1_mostOf_10 : decode cX1_mostOf 10 = .ok (.getfield 81, 3) := by decide +kernel
theorem dX1_mostOf_13 : decode cX1_mostOf 13 = .ok (.iload_n 2, 1) := by decide +kernel
theorem dX1_mostOf_14 : decode cX1_mostOf 14 = .ok (.ishr, 1) := by decide +kernel
theorem dX1_mostOf_15 : decode cX1_mostOf 15 = .ok (.iconst 1, 1) := by decide +kernel
theorem dX1_mostOf_16 : decode cX1_mostOf 16 = .ok (.iand, 1) := by decide +kernel
theorem dX1_mostOf_17 : decode cX1_mostOf 17 = .ok (.ifCond .eq 7, 3) := by decide +kernel
theorem dX1_mostOf_20 : decode cX1_mostOf 20 = .ok (.iconst 2, 1) := by decide +kernel
theorem dX1_mostOf_21 : decode cX1_mostOf 21 = .ok (.goto 4, 3) := by decide +kernel
theorem dX1_mostOf_24 : decode cX1_mostOf 24 = .ok (.iconst 0, 1) := by decide +kernel
theorem dX1_mostOf_25 : decode cX1_mostOf 25 = .ok (.iadd, 1) := by decide +kernel
theorem dX1_mostOf_26 : decode cX1_mostOf 26 = .ok (.iload_n 3, 1) := by decide +kernel
theorem dX1_mostOf_27 : decode cX1_mostOf 27 = .ok (.ifCond .eq 7, 3) := by decide +kernel
theorem dX1_mostOf_30 : decode cX1_mostOf 30 = .ok (.iconst 1, 1) := by decide +kernel
theorem dX1_mostOf_31 : decode cX1_mostOf 31 = .ok (.goto 4, 3) := by decide +kernel
theorem dX1_mostOf_34 : decode cX1_mostOf 34 = .ok (.iconst 0, 1) := by decide +kernel
theorem dX1_mostOf_35 : decode cX1_mostOf 35 = .ok (.iadd, 1) := by decide +kernel
theorem dX1_mostOf_36 : decode cX1_mostOf 36 = .ok (.istore 4, 2) := by decide +kernel
theorem dX1_mostOf_38 : decode cX1_mostOf 38 = .ok (.iconst 0, 1) := by decide +kernel
theorem dX1_mostOf_39 : decode cX1_mostOf 39 = .ok (.istore 5, 2) := by decide +kernel
theorem dX1_mostOf_41 : decode cX1_mostOf 41 = .ok (.aload_n 1, 1) := by decide +kernel
theorem dX1_mostOf_42 : decode cX1_mostOf 42 = .ok (.getfield 68, 3) := by decide +kernel
theorem dX1_mostOf_45 : decode cX1_mostOf 45 = .ok (.iload_n 2, 1) := by decide +kernel
theorem dX1_mostOf_46 : decode cX1_mostOf 46 = .ok (.iaload, 1) := by decide +kernel
theorem dX1_mostOf_47 : decode cX1_mostOf 47 = .ok (.istore 6, 2) := by decide +kernel
theorem dX1_mostOf_49 : decode cX1_mostOf 49 = .ok (.iload 6, 2) := by decide +kernel
theorem dX1_mostOf_51 : decode cX1_mostOf 51 = .ok (.ifCond .le 46, 3) := by decide +kernel
theorem dX1_mostOf_54 : decode cX1_mostOf 54 = .ok (.iload 6, 2) := by decide +kernel
theorem dX1_mostOf_56 : decode cX1_mostOf 56 = .ok (.aload_n 1, 1) := by decide +kernel
theorem dX1_mostOf_57 : decode cX1_mostOf 57 = .ok (.getfield 68, 3) := by decide +kernel
theorem dX1_mostOf_60 : decode cX1_mostOf 60 = .ok (.iload_n 2, 1) := by decide +kernel
theorem dX1_mostOf_61 : decode cX1_mostOf 61 = .ok (.iaload, 1) := by decide +kernel
theorem dX1_mostOf_62 : decode cX1_mostOf 62 = .ok (.aload_n 0, 1) := by decide +kernel
theorem dX1_mostOf_63 : decode cX1_mostOf 63 = .ok (.getfield 29, 3) := by decide +kernel
theorem dX1_mostOf_66 : decode cX1_mostOf 66 = .ok (.isub, 1) := by decide +kernel
theorem dX1_mostOf_67 : decode cX1_mostOf 67 = .ok (.if_icmp .le 30, 3) := by decide +kernel
theorem dX1_mostOf_70 : decode cX1_mostOf 70 = .ok (.iload 5, 2) := by decide +kernel
theorem dX1_mostOf_72 : decode cX1_mostOf 72 = .ok (.iload 4, 2) := by decide +kernel
theorem dX1_mostOf_74 : decode cX1_mostOf 74 = .ok (.iload 6, 2) := by decide +kernel
theorem dX1_mostOf_76 : decode cX1_mostOf 76 = .ok (.aload_n 0, 1) := by decide +kernel
theorem dX1_mostOf_77 : decode cX1_mostOf 77 = .ok (.getfield 25, 3) := by decide +kernel
theorem dX1_mostOf_80 : decode cX1_mostOf 80 = .ok (.getfield 84, 3) := by decide +kernel
theorem dX1_mostOf_83 : decode cX1_mostOf 83 = .ok (.iload_n 2, 1) := by decide +kernel
theorem dX1_mostOf_84 : decode cX1_mostOf 84 = .ok (.iaload, 1) := by decide +kernel
theorem dX1_mostOf_85 : decode cX1_mostOf 85 = .ok (.invokestatic 87, 3) := by decide +kernel
theorem dX1_mostOf_88 : decode cX1_mostOf 88 = .ok (.iadd, 1) := by decide +kernel
theorem dX1_mostOf_89 : decode cX1_mostOf 89 = .ok (.istore 5, 2) := by decide +kernel
theorem dX1_mostOf_91 : decode cX1_mostOf 91 = .ok (.iinc 6 (-1), 3) := by decide +kernel
theorem dX1_mostOf_94 : decode cX1_mostOf 94 = .ok (.goto (-45), 3) := by decide +kernel
theorem dX1_mostOf_97 : decode cX1_mostOf 97 = .ok (.iload 5, 2) := by decide +kernel
theorem dX1_mostOf_99 : decode cX1_mostOf 99 = .ok (.ireturn, 1) := by decide +kernel
set_option maxRecDepth 20000 in
theorem ggX1_settle_X1_hopeless : GoodIn wsX1_settle wsX1_hopeless := goodIn_r _ [13, 4, 5, 6, 7, 1, 2, 8, 14, 15, 16, 17, 18, 19, 20, 95, 96, 97, 98, 99, 100, 101, 102, 108, 109, 110, 111, 112, 103, 104, 105, 106, 107] (by decide +kernel) (by decide +kernel)
set_option maxRecDepth 20000 in
theorem gX1_settle_X1_hopeless : GoodIn wsX1_settle (wsV RX1 91 RX1 yX1_hopeless wsX1_hopeless) := goodIn_app (goodIn_of _ (by decide +kernel)) ggX1_settle_X1_hopeless
set_option maxRecDepth 20000 in
theorem ggX1_settle_X1_stands : GoodIn wsX1_settle wsX1_stands := goodIn_r _ [24, 3, 25, 26, 27, 28, 29, 30, 31, 32, 33, 34, 35, 36, 37, 38, 39, 40, 41, 42, 43, 44, 45, 46, 47, 48, 49, 50, 51, 52, 53, 54, 55, 56, 57, 58, 59, 60, 61, 62, 63, 64, 65, 66, 67, 68, 69, 70, 71, 72, 73, 74, 75, 76, 77, 78, 79, 80, 81, 82, 83, 84, 85, 86, 87, 88, 89, 90, 91, 95, 96, 97, 98, 99, 100, 101, 102, 113, 114, 115, 116, 117, 118, 119, 120, 121, 103, 104, 105, 106, 107, 108, 109, 110, 111, 112] (by decide +kernel) (by decide +kernel)
set_option maxRecDepth 20000 in
theorem gX1_settle_X1_stands : GoodIn wsX1_settle (wsV RX1 95 RX1 yX1_stands wsX1_stands) := goodIn_app (goodIn_of _ (by decide +kernel)) ggX1_settle_X1_stands
set_option maxRecDepth 20000 in
theorem ggX1_settle_X1_settle : GoodIn wsX1_settle wsX1_settle := goodIn_r _ [0, 1, 2, 3, 4, 5, 6, 7, 8, 9, 10, 11, 12, 13, 14, 15, 16, 17, 18, 19, 20, 21, 22, 23, 24, 25, 26, 27, 28, 29, 30, 31, 32, 33, 34, 35, 36, 37, 38, 39, 40, 41, 42, 43, 44, 45, 46, 47, 48, 49, 50, 51, 52, 53, 54, 55, 56, 57, 58, 59, 60, 61, 62, 63, 64, 65, 66, 67, 68, 69, 70, 71, 72, 73, 74, 75, 76, 77, 78, 79, 80, 81, 82, 83, 84, 85, 86, 87, 88, 89, 90, 91, 92, 93, 94, 95, 96, 97, 98, 99, 100, 101, 102, 103, 104, 105, 106, 107, 108, 109, 110, 111, 112, 113, 114, 115, 116, 117, 118, 119, 120, 121] (by decide +kernel) (by decide +kernel)
set_option maxRecDepth 20000 in
theorem gX1_settle_X1_settle : GoodIn wsX1_settle (wsV RX1 49 RX1 yX1_settle wsX1_settle) := goodIn_app (goodIn_of _ (by decide +kernel)) ggX1_settle_X1_settle
theorem dX1_settle_0 : decode cX1_settle 0 = .ok (.aload_n 0, 1) := by decide +kernel
theorem dX1_settle_1 : decode cX1_settle 1 = .ok (.iload_n 3, 1) := by decide +kernel
theorem dX1_settle_2 : decode cX1_settle 2 = .ok (.iload 4, 2) := by decide +kernel
theorem dX1_settle_4 : decode cX1_settle 4 = .ok (.invokevirtual 91, 3) := by decide +kernel
theorem dX1_settle_7 : decode cX1_settle 7 = .ok (.ifCond .eq 5, 3) := by decide +kernel
theorem dX1_settle_10 : decode cX1_settle 10 = .ok (.iconst 0, 1) := by decide +kernel
theorem dX1_settle_11 : decode cX1_settle 11 = .ok (.ireturn, 1) := by decide +kernel
theorem dX1_settle_12 : decode cX1_settle 12 = .ok (.iload_n 3, 1) := by decide +kernel
theorem dX1_settle_13 : decode cX1_settle 13 = .ok (.aload_n 0, 1) := by decide +kernel
theorem dX1_settle_14 : decode cX1_settle 14 = .ok (.getfield 25, 3) := by decide +kernel
theorem dX1_settle_17 : decode cX1_settle 17 = .ok (.getfield 63, 3) := by decide +kernel
theorem dX1_settle_20 : decode cX1_settle 20 = .ok (.if_icmp .lt 10, 3) := by decide +kernel
theorem dX1_settle_23 : decode cX1_settle 23 = .ok (.aload_n 0, 1) := by decide +kernel
theorem dX1_settle_24 : decode cX1_settle 24 = .ok (.aload_n 1, 1) := by decide +kernel
theorem dX1_settle_25 : decode cX1_settle 25 = .ok (.aload_n 2, 1) := by decide +kernel
theorem dX1_settle_26 : decode cX1_settle 26 = .ok (.invokevirtual 95, 3) := by decide +kernel
theorem dX1_settle_29 : decode cX1_settle 29 = .ok (.ireturn, 1) := by decide +kernel
theorem dX1_settle_30 : decode cX1_settle 30 = .ok (.aload_n 0, 1) := by decide +kernel
theorem dX1_settle_31 : decode cX1_settle 31 = .ok (.getfield 9, 3) := by decide +kernel
theorem dX1_settle_34 : decode cX1_settle 34 = .ok (.iload_n 3, 1) := by decide +kernel
theorem dX1_settle_35 : decode cX1_settle 35 = .ok (.iconst (-1), 1) := by decide +kernel
theorem dX1_settle_36 : decode cX1_settle 36 = .ok (.iastore, 1) := by decide +kernel
theorem dX1_settle_37 : decode cX1_settle 37 = .ok (.aload_n 0, 1) := by decide +kernel
theorem dX1_settle_38 : decode cX1_settle 38 = .ok (.aload_n 1, 1) := by decide +kernel
theorem dX1_settle_39 : decode cX1_settle 39 = .ok (.aload_n 2, 1) := by decide +kernel
theorem dX1_settle_40 : decode cX1_settle 40 = .ok (.iload_n 3, 1) := by decide +kernel
theorem dX1_settle_41 : decode cX1_settle 41 = .ok (.iconst 1, 1) := by decide +kernel
theorem dX1_settle_42 : decode cX1_settle 42 = .ok (.iadd, 1) := by decide +kernel
theorem dX1_settle_43 : decode cX1_settle 43 = .ok (.iload 4, 2) := by decide +kernel
theorem dX1_settle_45 : decode cX1_settle 45 = .ok (.invokevirtual 49, 3) := by decide +kernel
theorem dX1_settle_48 : decode cX1_settle 48 = .ok (.ifCond .eq 5, 3) := by decide +kernel
theorem dX1_settle_51 : decode cX1_settle 51 = .ok (.iconst 1, 1) := by decide +kernel
theorem dX1_settle_52 : decode cX1_settle 52 = .ok (.ireturn, 1) := by decide +kernel
theorem dX1_settle_53 : decode cX1_settle 53 = .ok (.iload 4, 2) := by decide +kernel
theorem dX1_settle_55 : decode cX1_settle 55 = .ok (.ifCond .eq 14, 3) := by decide +kernel
theorem dX1_settle_58 : decode cX1_settle 58 = .ok (.aload_n 0, 1) := by decide +kernel
theorem dX1_settle_59 : decode cX1_settle 59 = .ok (.getfield 40, 3) := by decide +kernel
theorem dX1_settle_62 : decode cX1_settle 62 = .ok (.iload_n 3, 1) := by decide +kernel
theorem dX1_settle_63 : decode cX1_settle 63 = .ok (.ishr, 1) := by decide +kernel
theorem dX1_settle_64 : decode cX1_settle 64 = .ok (.iconst 1, 1) := by decide +kernel
theorem dX1_settle_65 : decode cX1_settle 65 = .ok (.iand, 1) := by decide +kernel
theorem dX1_settle_66 : decode cX1_settle 66 = .ok (.ifCond .ne 5, 3) := by decide +kernel
theorem dX1_settle_69 : decode cX1_settle 69 = .ok (.iconst 0, 1) := by decide +kernel
theorem dX1_settle_70 : decode cX1_settle 70 = .ok (.ireturn, 1) := by decide +kernel
theorem dX1_settle_71 : decode cX1_settle 71 = .ok (.iconst 0, 1) := by decide +kernel
theorem dX1_settle_72 : decode cX1_settle 72 = .ok (.istore 5, 2) := by decide +kernel
theorem dX1_settle_74 : decode cX1_settle 74 = .ok (.iload 5, 2) := by decide +kernel
theorem dX1_settle_76 : decode cX1_settle 76 = .ok (.aload_n 0, 1) := by decide +kernel
theorem dX1_settle_77 : decode cX1_settle 77 = .ok (.getfield 21, 3) := by decide +kernel
theorem dX1_settle_80 : decode cX1_settle 80 = .ok (.getfield 53, 3) := by decide +kernel
theorem dX1_settle_83 : decode cX1_settle 83 = .ok (.if_icmp .ge 71, 3) := by decide +kernel
theorem dX1_settle_86 : decode cX1_settle 86 = .ok (.aload_n 0, 1) := by decide +kernel
theorem dX1_settle_87 : decode cX1_settle 87 = .ok (.getfield 9, 3) := by decide +kernel
theorem dX1_settle_90 : decode cX1_settle 90 = .ok (.iload_n 3, 1) := by decide +kernel
theorem dX1_settle_91 : decode cX1_settle 91 = .ok (.iload 5, 2) := by decide +kernel
theorem dX1_settle_93 : decode cX1_settle 93 = .ok (.iastore, 1) := by decide +kernel
theorem dX1_settle_94 : decode cX1_settle 94 = .ok (.aload_n 0, 1) := by decide +kernel
theorem dX1_settle_95 : decode cX1_settle 95 = .ok (.getfield 15, 3) := by decide +kernel
theorem dX1_settle_98 : decode cX1_settle 98 = .ok (.iload 5, 2) := by decide +kernel
theorem dX1_settle_100 : decode cX1_settle 100 = .ok (.dup2, 1) := by decide +kernel
theorem dX1_settle_101 : decode cX1_settle 101 = .ok (.iaload, 1) := by decide +kernel
theorem dX1_settle_102 : decode cX1_settle 102 = .ok (.aload_n 0, 1) := by decide +kernel
theorem dX1_settle_103 : decode cX1_settle 103 = .ok (.getfield 18, 3) := by decide +kernel
theorem dX1_settle_106 : decode cX1_settle 106 = .ok (.iload_n 3, 1) := by decide +kernel
theorem dX1_settle_107 : decode cX1_settle 107 = .ok (.iaload, 1) := by decide +kernel
theorem dX1_settle_108 : decode cX1_settle 108 = .ok (.isub, 1) := by decide +kernel
theorem dX1_settle_109 : decode cX1_settle 109 = .ok (.iastore, 1) := by decide +kernel
theorem dX1_settle_110 : decode cX1_settle 110 = .ok (.aload_n 0, 1) := by decide +kernel
theorem dX1_settle_111 : decode cX1_settle 111 = .ok (.aload_n 1, 1) := by decide +kernel
theorem dX1_settle_112 : decode cX1_settle 112 = .ok (.aload_n 2, 1) := by decide +kernel
theorem dX1_settle_113 : decode cX1_settle 113 = .ok (.iload_n 3, 1) := by decide +kernel
theorem dX1_settle_114 : decode cX1_settle 114 = .ok (.iconst 1, 1) := by decide +kernel
theorem dX1_settle_115 : decode cX1_settle 115 = .ok (.iadd, 1) := by decide +kernel
theorem dX1_settle_116 : decode cX1_settle 116 = .ok (.iload 4, 2) := by decide +kernel
theorem dX1_settle_118 : decode cX1_settle 118 = .ok (.iconst 1, 1) := by decide +kernel
theorem dX1_settle_119 : decode cX1_settle 119 = .ok (.isub, 1) := by decide +kernel
theorem dX1_settle_120 : decode cX1_settle 120 = .ok (.invokevirtual 49, 3) := by decide +kernel
theorem dX1_settle_123 : decode cX1_settle 123 = .ok (.istore 6, 2) := by decide +kernel
theorem dX1_settle_125 : decode cX1_settle 125 = .ok (.aload_n 0, 1) := by decide +kernel
theorem dX1_settle_126 : decode cX1_settle 126 = .ok (.getfield 15, 3) := by decide +kernel
theorem dX1_settle_129 : decode cX1_settle 129 = .ok (.iload 5, 2) := by decide +kernel
theorem dX1_settle_131 : decode cX1_settle 131 = .ok (.dup2, 1) := by decide +kernel
theorem dX1_settle_132 : decode cX1_settle 132 = .ok (.iaload, 1) := by decide +kernel
theorem dX1_settle_133 : decode cX1_settle 133 = .ok (.aload_n 0, 1) := by decide +kernel
theorem dX1_settle_134 : decode cX1_settle 134 = .ok (.getfield 18, 3) := by decide +kernel
theorem dX1_settle_137 : decode cX1_settle 137 = .ok (.iload_n 3, 1) := by decide +kernel
theorem dX1_settle_138 : decode cX1_settle 138 = .ok (.iaload, 1) := by decide +kernel
theorem dX1_settle_139 : decode cX1_settle 139 = .ok (.iadd, 1) := by decide +kernel
theorem dX1_settle_140 : decode cX1_settle 140 = .ok (.iastore, 1) := by decide +kernel
theorem dX1_settle_141 : decode cX1_settle 141 = .ok (.iload 6, 2) := by decide +kernel
theorem dX1_settle_143 : decode cX1_settle 143 = .ok (.ifCond .eq 5, 3) := by decide +kernel
theorem dX1_settle_146 : decode cX1_settle 146 = .ok (.iconst 1, 1) := by decide +kernel
theorem dX1_settle_147 : decode cX1_settle 147 = .ok (.ireturn, 1) := by decide +kernel
theorem dX1_settle_148 : decode cX1_settle 148 = .ok (.iinc 5 1, 3) := by decide +kernel
theorem dX1_settle_151 : decode cX1_settle 151 = .ok (.goto (-77), 3) := by decide +kernel
theorem dX1_settle_154 : decode cX1_settle 154 = .ok (.aload_n 0, 1) := by decide +kernel
theorem dX1_settle_155 : decode cX1_settle 155 = .ok (.getfield 9, 3) := by decide +kernel
theorem dX1_settle_158 : decode cX1_settle 158 = .ok (.iload_n 3, 1) := by decide +kernel
theorem dX1_settle_159 : decode cX1_settle 159 = .ok (.iconst (-1), 1) := by decide +kernel
theorem dX1_settle_160 : decode cX1_settle 160 = .ok (.iastore, 1) := by decide +kernel
theorem dX1_settle_161 : decode cX1_settle 161 = .ok (.iconst 0, 1) := by decide +kernel
theorem dX1_settle_162 : decode cX1_settle 162 = .ok (.ireturn, 1) := by decide +kernel
set_option maxRecDepth 20000 in
theorem ggX1_hopeless_J6_bitCount_0f7a4 : GoodIn wsX1_hopeless wsJ6_bitCount_0f7a4 := goodIn_r _ [11, 12, 13, 14] (by decide +kernel) (by decide +kernel)
set_option maxRecDepth 20000 in
theorem gX1_hopeless_J6_bitCount_0f7a4 : GoodIn wsX1_hopeless (va_wsS RX1 43 yJ6_bitCount_0f7a4 wsJ6_bitCount_0f7a4) := goodIn_app (goodIn_of _ (by decide +kernel)) ggX1_hopeless_J6_bitCount_0f7a4
theorem dX1_hopeless_0 : decode cX1_hopeless 0 = .ok (.aload_n 0, 1) := by decide +kernel
theorem dX1_hopeless_1 : decode cX1_hopeless 1 = .ok (.getfield 40, 3) := by decide +kernel
theorem dX1_hopeless_4 : decode cX1_hopeless 4 = .ok (.iload_n 1, 1) := by decide +kernel
theorem dX1_hopeless_5 : decode cX1_hopeless 5 = .ok (.ishr, 1) := by decide +kernel
theorem dX1_hopeless_6 : decode cX1_hopeless 6 = .ok (.invokestatic 43, 3) := by decide +kernel
theorem dX1_hopeless_9 : decode cX1_hopeless 9 = .ok (.iload_n 2, 1) := by decide +kernel
theorem dX1_hopeless_10 : decode cX1_hopeless 10 = .ok (.if_icmp .ge 5, 3) := by decide +kernel
theorem dX1_hopeless_13 : decode cX1_hopeless 13 = .ok (.iconst 1, 1) := by decide +kernel
theorem dX1_hopeless_14 : decode cX1_hopeless 14 = .ok (.ireturn, 1) := by decide +kernel
theorem dX1_hopeless_15 : decode cX1_hopeless 15 = .ok (.iconst 0, 1) := by decide +kernel
theorem dX1_hopeless_16 : decode cX1_hopeless 16 = .ok (.istore_n 3, 1) := by decide +kernel
theorem dX1_hopeless_17 : decode cX1_hopeless 17 = .ok (.iconst 0, 1) := by decide +kernel
theorem dX1_hopeless_18 : decode cX1_hopeless 18 = .ok (.istore 4, 2) := by decide +kernel
theorem dX1_hopeless_20 : decode cX1_hopeless 20 = .ok (.iconst 0, 1) := by decide +kernel
theorem dX1_hopeless_21 : decode cX1_hopeless 21 = .ok (.istore 5, 2) := by decide +kernel
theorem dX1_hopeless_23 : decode cX1_hopeless 23 = .ok (.iload 5, 2) := by decide +kernel
theorem dX1_hopeless_25 : decode cX1_hopeless 25 = .ok (.aload_n 0, 1) := by decide +kernel
theorem dX1_hopeless_26 : decode cX1_hopeless 26 = .ok (.getfield 21, 3) := by decide +kernel
theorem dX1_hopeless_29 : decode cX1_hopeless 29 = .ok (.getfield 53, 3) := by decide +kernel
theorem dX1_hopeless_32 : decode cX1_hopeless 32 = .ok (.if_icmp .ge 34, 3) := by decide +kernel
theorem dX1_hopeless_35 : decode cX1_hopeless 35 = .ok (.aload_n 0, 1) := by decide +kernel
theorem dX1_hopeless_36 : decode cX1_hopeless 36 = .ok (.getfield 15, 3) := by decide +kernel
theorem dX1_hopeless_39 : decode cX1_hopeless 39 = .ok (.iload 5, 2) := by decide +kernel
theorem dX1_hopeless_41 : decode cX1_hopeless 41 = .ok (.iaload, 1) := by decide +kernel
theorem dX1_hopeless_42 : decode cX1_hopeless 42 = .ok (.ifCond .le 18, 3) := by decide +kernel
theorem dX1_hopeless_45 : decode cX1_hopeless 45 = .ok (.iinc 3 1, 3) := by decide +kernel
theorem dX1_hopeless_48 : decode cX1_hopeless 48 = .ok (.iload 4, 2) := by decide +kernel
theorem dX1_hopeless_50 : decode cX1_hopeless 50 = .ok (.aload_n 0, 1) := by decide +kernel
theorem dX1_hopeless_51 : decode cX1_hopeless 51 = .ok (.getfield 15, 3) := by decide +kernel
theorem dX1_hopeless_54 : decode cX1_hopeless 54 = .ok (.iload 5, 2) := by decide +kernel
theorem dX1_hopeless_56 : decode cX1_hopeless 56 = .ok (.iaload, 1) := by decide +kernel
theorem dX1_hopeless_57 : decode cX1_hopeless 57 = .ok (.iadd, 1) := by decide +kernel
theorem dX1_hopeless_58 : decode cX1_hopeless 58 = .ok (.istore 4, 2) := by decide +kernel
theorem dX1_hopeless_60 : decode cX1_hopeless 60 = .ok (.iinc 5 1, 3) := by decide +kernel
theorem dX1_hopeless_63 : decode cX1_hopeless 63 = .ok (.goto (-40), 3) := by decide +kernel
theorem dX1_hopeless_66 : decode cX1_hopeless 66 = .ok (.iload_n 1, 1) := by decide +kernel
theorem dX1_hopeless_67 : decode cX1_hopeless 67 = .ok (.istore 5, 2) := by decide +kernel
theorem dX1_hopeless_69 : decode cX1_hopeless 69 = .ok (.iload 5, 2) := by decide +kernel
theorem dX1_hopeless_71 : decode cX1_hopeless 71 = .ok (.aload_n 0, 1) := by decide +kernel
theorem dX1_hopeless_72 : decode cX1_hopeless 72 = .ok (.getfield 25, 3) := by decide +kernel
theorem dX1_hopeless_75 : decode cX1_hopeless 75 = .ok (.getfield 63, 3) := by decide +kernel
theorem dX1_hopeless_78 : decode cX1_hopeless 78 = .ok (.if_icmp .ge 25, 3) := by decide +kernel
theorem dX1_hopeless_81 : decode cX1_hopeless 81 = .ok (.iload_n 2, 1) := by decide +kernel
theorem dX1_hopeless_82 : decode cX1_hopeless 82 = .ok (.ifCond .le 21, 3) := by decide +kernel
theorem dX1_hopeless_85 : decode cX1_hopeless 85 = .ok (.iload 4, 2) := by decide +kernel
theorem dX1_hopeless_87 : decode cX1_hopeless 87 = .ok (.aload_n 0, 1) := by decide +kernel
theorem dX1_hopeless_88 : decode cX1_hopeless 88 = .ok (.getfield 18, 3) := by decide +kernel
theorem dX1_hopeless_91 : decode cX1_hopeless 91 = .ok (.iload 5, 2) := by decide +kernel
theorem dX1_hopeless_93 : decode cX1_hopeless 93 = .ok (.iaload, 1) := by decide +kernel
theorem dX1_hopeless_94 : decode cX1_hopeless 94 = .ok (.isub, 1) := by decide +kernel
theorem dX1_hopeless_95 : decode cX1_hopeless 95 = .ok (.istore 4, 2) := by decide +kernel
theorem dX1_hopeless_97 : decode cX1_hopeless 97 = .ok (.iinc 5 1, 3) := by decide +kernel
theorem dX1_hopeless_100 : decode cX1_hopeless 100 = .ok (.goto (-31), 3) := by decide +kernel
theorem dX1_hopeless_103 : decode cX1_hopeless 103 = .ok (.iload_n 3, 1) := by decide +kernel
theorem dX1_hopeless_104 : decode cX1_hopeless 104 = .ok (.iload_n 2, 1) := by decide +kernel
theorem dX1_hopeless_105 : decode cX1_hopeless 105 = .ok (.if_icmp .gt 8, 3) := by decide +kernel
theorem dX1_hopeless_108 : decode cX1_hopeless 108 = .ok (.iload 4, 2) := by decide +kernel
theorem dX1_hopeless_110 : decode cX1_hopeless 110 = .ok (.ifCond .le 7, 3) := by decide +kernel
theorem dX1_hopeless_113 : decode cX1_hopeless 113 = .ok (.iconst 1, 1) := by decide +kernel
theorem dX1_hopeless_114 : decode cX1_hopeless 114 = .ok (.goto 4, 3) := by decide +kernel
theorem dX1_hopeless_117 : decode cX1_hopeless 117 = .ok (.iconst 0, 1) := by decide +kernel
theorem dX1_hopeless_118 : decode cX1_hopeless 118 = .ok (.ireturn, 1) := by decide +kernel
set_option maxRecDepth 20000 in
theorem ggX1_stands_X9_copy : GoodIn wsX1_stands wsX9_copy := goodIn_r _ [13, 14, 15, 4, 5, 6, 16, 17, 18, 19, 20, 21, 77, 78, 79, 80, 81, 82, 83, 84, 85] (by decide +kernel) (by decide +kernel)
set_option maxRecDepth 20000 in
theorem gX1_stands_X9_copy : GoodIn wsX1_stands (wsV RX1 99 RX9 yX9_copy wsX9_copy) := goodIn_app (goodIn_of _ (by decide +kernel)) ggX1_stands_X9_copy
set_option maxRecDepth 20000 in
theorem ggX1_stands_X9_spell : GoodIn wsX1_stands wsX9_spell := goodIn_r _ [25, 26, 27, 18, 28, 14, 29, 30, 31, 32, 17, 33, 34, 35, 36, 37, 38, 39, 40, 41, 42, 43, 44, 12, 45, 46, 20, 47, 48, 49, 50, 51, 52, 53, 54, 55, 56, 57, 58, 77, 78, 79, 80, 81, 82, 83, 84, 85, 86, 87, 88, 89, 90, 91, 92, 93, 94, 95] (by decide +kernel) (by decide +kernel)
set_option maxRecDepth 20000 in
theorem gX1_stands_X9_spell : GoodIn wsX1_stands (wsV RX1 110 RX9 yX9_spell wsX9_spell) := goodIn_app (goodIn_of _ (by decide +kernel)) ggX1_stands_X9_spell
set_option maxRecDepth 20000 in
theorem ggX1_stands_X9_below : GoodIn wsX1_stands wsX9_below := goodIn_r _ [62, 28, 63, 64, 65, 66, 12, 67, 68, 14, 77, 78, 79, 80, 81, 82, 83, 84, 85, 91, 92, 93, 94, 95] (by decide +kernel) (by decide +kernel)
set_option maxRecDepth 20000 in
theorem gX1_stands_X9_below : GoodIn wsX1_stands (wsV RX1 113 RX9 yX9_below wsX9_below) := goodIn_app (goodIn_of _ (by decide +kernel)) ggX1_stands_X9_below
theorem dX1_stands_0 : decode cX1_stands 0 = .ok (.aload_n 2, 1) := by decide +kernel
theorem dX1_stands_1 : decode cX1_stands 1 = .ok (.aload_n 1, 1) := by decide +kernel
theorem dX1_stands_2 : decode cX1_stands 2 = .ok (.invokevirtual 99, 3) := by decide +kernel
theorem dX1_stands_5 : decode cX1_stands 5 = .ok (.aload_n 0, 1) := by decide +kernel
theorem dX1_stands_6 : decode cX1_stands 6 = .ok (.getfield 9, 3) := by decide +kernel
theorem dX1_stands_9 : decode cX1_stands 9 = .ok (.iconst 0, 1) := by decide +kernel
theorem dX1_stands_10 : decode cX1_stands 10 = .ok (.aload_n 2, 1) := by decide +kernel
theorem dX1_stands_11 : decode cX1_stands 11 = .ok (.getfield 103, 3) := by decide +kernel
theorem dX1_stands_14 : decode cX1_stands 14 = .ok (.iconst 0, 1) := by decide +kernel
theorem dX1_stands_15 : decode cX1_stands 15 = .ok (.bipush 8, 2) := by decide +kernel
theorem dX1_stands_17 : decode cX1_stands 17 = .ok (.invokestatic 104, 3) := by decide +kernel
theorem dX1_stands_20 : decode cX1_stands 20 = .ok (.iconst 0, 1) := by decide +kernel
theorem dX1_stands_21 : decode cX1_stands 21 = .ok (.istore_n 3, 1) := by decide +kernel
theorem dX1_stands_22 : decode cX1_stands 22 = .ok (.iload_n 3, 1) := by decide +kernel
theorem dX1_stands_23 : decode cX1_stands 23 = .ok (.aload_n 0, 1) := by decide +kernel
theorem dX1_stands_24 : decode cX1_stands 24 = .ok (.getfield 29, 3) := by decide +kernel
theorem dX1_stands_27 : decode cX1_stands 27 = .ok (.if_icmp .ge 13, 3) := by decide +kernel
theorem dX1_stands_30 : decode cX1_stands 30 = .ok (.aload_n 2, 1) := by decide +kernel
theorem dX1_stands_31 : decode cX1_stands 31 = .ok (.invokevirtual 110, 3) := by decide +kernel
theorem dX1_stands_34 : decode cX1_stands 34 = .ok (.iinc 3 1, 3) := by decide +kernel
theorem dX1_stands_37 : decode cX1_stands 37 = .ok (.goto (-15), 3) := by decide +kernel
theorem dX1_stands_40 : decode cX1_stands 40 = .ok (.aload_n 2, 1) := by decide +kernel
theorem dX1_stands_41 : decode cX1_stands 41 = .ok (.aload_n 0, 1) := by decide +kernel
theorem dX1_stands_42 : decode cX1_stands 42 = .ok (.getfield 33, 3) := by decide +kernel
theorem dX1_stands_45 : decode cX1_stands 45 = .ok (.invokevirtual 113, 3) := by decide +kernel
theorem dX1_stands_48 : decode cX1_stands 48 = .ok (.ifCond .ne 7, 3) := by decide +kernel
theorem dX1_stands_51 : decode cX1_stands 51 = .ok (.iconst 1, 1) := by decide +kernel
theorem dX1_stands_52 : decode cX1_stands 52 = .ok (.goto 4, 3) := by decide +kernel
theorem dX1_stands_55 : decode cX1_stands 55 = .ok (.iconst 0, 1) := by decide +kernel
theorem dX1_stands_56 : decode cX1_stands 56 = .ok (.ireturn, 1) := by decide +kernel
theorem dX3_init_0 : decode cX3_init 0 = .ok (.aload_n 0, 1) := by decide +kernel
theorem dX3_init_1 : decode cX3_init 1 = .ok (.invokespecial 3, 3) := by decide +kernel
theorem dX3_init_4 : decode cX3_init 4 = .ok (.aload_n 0, 1) := by decide +kernel
theorem dX3_init_5 : decode cX3_init 5 = .ok (.bipush 12, 2) := by decide +kernel
theorem dX3_init_7 : decode cX3_init 7 = .ok (.newarray .int, 2) := by decide +kernel
theorem dX3_init_9 : decode cX3_init 9 = .ok (.putfield 9, 3) := by decide +kernel
theorem dX3_init_12 : decode cX3_init 12 = .ok (.aload_n 0, 1) := by decide +kernel
theorem dX3_init_13 : decode cX3_init 13 = .ok (.bipush 12, 2) := by decide +kernel
theorem dX3_init_15 : decode cX3_init 15 = .ok (.newarray .int, 2) := by decide +kernel
theorem dX3_init_17 : decode cX3_init 17 = .ok (.putfield 15, 3) := by decide +kernel
theorem dX3_init_20 : decode cX3_init 20 = .ok (.aload_n 0, 1) := by decide +kernel
theorem dX3_init_21 : decode cX3_init 21 = .ok (.sipush 256, 3) := by decide +kernel
theorem dX3_init_24 : decode cX3_init 24 = .ok (.newarray .int, 2) := by decide +kernel
theorem dX3_init_26 : decode cX3_init 26 = .ok (.putfield 18, 3) := by decide +kernel
theorem dX3_init_29 : decode cX3_init 29 = .ok (.aload_n 0, 1) := by decide +kernel
theorem dX3_init_30 : decode cX3_init 30 = .ok (.sipush 256, 3) := by decide +kernel
theorem dX3_init_33 : decode cX3_init 33 = .ok (.newarray .int, 2) := by decide +kernel
theorem dX3_init_35 : decode cX3_init 35 = .ok (.putfield 21, 3) := by decide +kernel
theorem dX3_init_38 : decode cX3_init 38 = .ok (.aload_n 0, 1) := by decide +kernel
theorem dX3_init_39 : decode cX3_init 39 = .ok (.sipush 256, 3) := by decide +kernel
theorem dX3_init_42 : decode cX3_init 42 = .ok (.newarray .int, 2) := by decide +kernel
theorem dX3_init_44 : decode cX3_init 44 = .ok (.putfield 24, 3) := by decide +kernel
theorem dX3_init_47 : decode cX3_init 47 = .ok (.aload_n 0, 1) := by decide +kernel
theorem dX3_init_48 : decode cX3_init 48 = .ok (.aload_n 1, 1) := by decide +kernel
theorem dX3_init_49 : decode cX3_init 49 = .ok (.putfield 27, 3) := by decide +kernel
theorem dX3_init_52 : decode cX3_init 52 = .ok (.return_, 1) := by decide +kernel
theorem dX3_clear_0 : decode cX3_clear 0 = .ok (.aload_n 0, 1) := by decide +kernel
theorem dX3_clear_1 : decode cX3_clear 1 = .ok (.iconst 0, 1) := by decide +kernel
theorem dX3_clear_2 : decode cX3_clear 2 = .ok (.putfield 31, 3) := by decide +kernel
theorem dX3_clear_5 : decode cX3_clear 5 = .ok (.return_, 1) := by decide +kernel
set_option maxRecDepth 20000 in
theorem ggX3_note_J6_bitCount_0f7a4 : GoodIn wsX3_note wsJ6_bitCount_0f7a4 := goodIn_r _ [6, 7, 8, 9] (by decide +kernel) (by decide +kernel)
set_option maxRecDepth 20000 in
theorem gX3_note_J6_bitCount_0f7a4 : GoodIn wsX3_note (va_wsS RX3 35 yJ6_bitCount_0f7a4 wsJ6_bitCount_0f7a4) := goodIn_app (goodIn_of _ (by decide +kernel)) ggX3_note_J6_bitCount_0f7a4
theorem dX3_note_0 : decode cX3_note 0 = .ok (.aload_n 0, 1) := by decide +kernel
theorem dX3_note_1 : decode cX3_note 1 = .ok (.getfield 31, 3) := by decide +kernel
theorem dX3_note_4 : decode cX3_note 4 = .ok (.iconst 1, 1) := by decide +kernel
theorem dX3_note_5 : decode cX3_note 5 = .ok (.iload_n 1, 1) := by decide +kernel
theorem dX3_note_6 : decode cX3_note 6 = .ok (.ishl, 1) := by decide +kernel
theorem dX3_note_7 : decode cX3_note 7 = .ok (.ior, 1) := by decide +kernel
theorem dX3_note_8 : decode cX3_note 8 = .ok (.istore_n 3, 1) := by decide +kernel
theorem dX3_note_9 : decode cX3_note 9 = .ok (.iload_n 3, 1) := by decide +kernel
theorem dX3_note_10 : decode cX3_note 10 = .ok (.invokestatic 35, 3) := by decide +kernel
theorem dX3_note_13 : decode cX3_note 13 = .ok (.iconst 4, 1) := by decide +kernel
theorem dX3_note_14 : decode cX3_note 14 = .ok (.if_icmp .le 5, 3) := by decide +kernel
theorem dX3_note_17 : decode cX3_note 17 = .ok (.iconst (-1), 1) := by decide +kernel
theorem dX3_note_18 : decode cX3_note 18 = .ok (.ireturn, 1) := by decide +kernel
theorem dX3_note_19 : decode cX3_note 19 = .ok (.aload_n 0, 1) := by decide +kernel
theorem dX3_note_20 : decode cX3_note 20 = .ok (.iload_n 3, 1) := by decide +kernel
theorem dX3_note_21 : decode cX3_note 21 = .ok (.putfield 31, 3) := by decide +kernel
theorem dX3_note_24 : decode cX3_note 24 = .ok (.aload_n 0, 1) := by decide +kernel
theorem dX3_note_25 : decode cX3_note 25 = .ok (.getfield 9, 3) := by decide +kernel
theorem dX3_note_28 : decode cX3_note 28 = .ok (.iload_n 1, 1) := by decide +kernel
theorem dX3_note_29 : decode cX3_note 29 = .ok (.iload_n 2, 1) := by decide +kernel
theorem dX3_note_30 : decode cX3_note 30 = .ok (.iastore, 1) := by decide +kernel
theorem dX3_note_31 : decode cX3_note 31 = .ok (.aload_n 0, 1) := by decide +kernel
theorem dX3_note_32 : decode cX3_note 32 = .ok (.getfield 31, 3) := by decide +kernel
theorem dX3_note_35 : decode cX3_note 35 = .ok (.invokestatic 35, 3) := by decide +kernel
theorem dX3_note_38 : decode cX3_note 38 = .ok (.ireturn, 1) := by decide +kernel
theorem dX3_begin_0 : decode cX3_begin 0 = .ok (.aload_n 0, 1) := by decide +kernel
theorem dX3_begin_1 : decode cX3_begin 1 = .ok (.getfield 9, 3) := by decide +kernel
theorem dX3_begin_4 : decode cX3_begin 4 = .ok (.iconst 0, 1) := by decide +kernel
theorem dX3_begin_5 : decode cX3_begin 5 = .ok (.aload_n 0, 1) := by decide +kernel
theorem dX3_begin_6 : decode cX3_begin 6 = .ok (.getfield 15, 3) := by decide +kernel
theorem dX3_begin_9 : decode cX3_begin 9 = .ok (.iconst 0, 1) := by decide +kernel
theorem dX3_begin_10 : decode cX3_begin 10 = .ok (.bipush 12, 2) := by decide +kernel
theorem dX3_begin_12 : decode cX3_begin 12 = .ok (.invokestatic 41, 3) := by decide +kernel
theorem dX3_begin_15 : decode cX3_begin 15 = .ok (.aload_n 0, 1) := by decide +kernel
theorem dX3_begin_16 : decode cX3_begin 16 = .ok (.getfield 18, 3) := by decide +kernel
theorem dX3_begin_19 : decode cX3_begin 19 = .ok (.iconst 0, 1) := by decide +kernel
theorem dX3_begin_20 : decode cX3_begin 20 = .ok (.iconst 0, 1) := by decide +kernel
theorem dX3_begin_21 : decode cX3_begin 21 = .ok (.iastore, 1) := by decide +kernel
theorem dX3_begin_22 : decode cX3_begin 22 = .ok (.iconst 0, 1) := by decide +kernel
theorem dX3_begin_23 : decode cX3_begin 23 = .ok (.istore_n 1, 1) := by decide +kernel
theorem dX3_begin_24 : decode cX3_begin 24 = .ok (.iload_n 1, 1) := by decide +kernel
theorem dX3_begin_25 : decode cX3_begin 25 = .ok (.aload_n 0, 1) := by decide +kernel
theorem dX3_begin_26 : decode cX3_begin 26 = .ok (.getfield 27, 3) := by decide +kernel
theorem dX3_begin_29 : decode cX3_begin 29 = .ok (.getfield 47, 3) := by decide +kernel
theorem dX3_begin_32 : decode cX3_begin 32 = .ok (.if_icmp .ge 50, 3) := by decide +kernel
theorem dX3_begin_35 : decode cX3_begin 35 = .ok (.iconst 1, 1) := by decide +kernel
theorem dX3_begin_36 : decode cX3_begin 36 = .ok (.iload_n 1, 1) := by decide +kernel
theorem dX3_begin_37 : decode cX3_begin 37 = .ok (.ishl, 1) := by decide +kernel
theorem dX3_begin_38 : decode cX3_begin 38 = .ok (.istore_n 2, 1) := by decide +kernel
theorem dX3_begin_39 : decode cX3_begin 39 = .ok (.iconst 0, 1) := by decide +kernel
theorem dX3_begin_40 : decode cX3_begin 40 = .ok (.istore_n 3, 1) := by decide +kernel
theorem dX3_begin_41 : decode cX3_begin 41 = .ok (.iload_n 3, 1) := by decide +kernel
theorem dX3_begin_42 : decode cX3_begin 42 = .ok (.iload_n 2, 1) := by decide +kernel
theorem dX3_begin_43 : decode cX3_begin 43 = .ok (.if_icmp .ge 33, 3) := by decide +kernel
theorem dX3_begin_46 : decode cX3_begin 46 = .ok (.aload_n 0, 1) := by decide +kernel
theorem dX3_begin_47 : decode cX3_begin 47 = .ok (.getfield 18, 3) := by decide +kernel
theorem dX3_begin_50 : decode cX3_begin 50 = .ok (.iload_n 2, 1) := by decide +kernel
theorem dX3_begin_51 : decode cX3_begin 51 = .ok (.iload_n 3, 1) := by decide +kernel
theorem dX3_begin_52 : decode cX3_begin 52 = .ok (.ior, 1) := by decide +kernel
theorem dX3_begin_53 : decode cX3_begin 53 = .ok (.aload_n 0, 1) := by decide +kernel
theorem dX3_begin_54 : decode cX3_begin 54 = .ok (.getfield 18, 3) := by decide +kernel
theorem dX3_begin_57 : decode cX3_begin 57 = .ok (.iload_n 3, 1) := by decide +kernel
theorem dX3_begin_58 : decode cX3_begin 58 = .ok (.iaload, 1) := by decide +kernel
theorem dX3_begin_59 : decode cX3_begin 59 = .ok (.aload_n 0, 1) := by decide +kernel
theorem dX3_begin_60 : decode cX3_begin 60 = .ok (.getfield 27, 3) := by decide +kernel
theorem dX3_begin_63 : decode cX3_begin 63 = .ok (.getfield 52, 3) := by decide +kernel
theorem dX3_begin_66 : decode cX3_begin 66 = .ok (.iload_n 1, 1) := by decide +kernel
theorem dX3_begin_67 : decode cX3_begin 67 = .ok (.iaload, 1) := by decide +kernel
theorem dX3_begin_68 : decode cX3_begin 68 = .ok (.iadd, 1) := by decide +kernel
theorem dX3_begin_69 : decode cX3_begin 69 = .ok (.iastore, 1) := by decide +kernel
theorem dX3_begin_70 : decode cX3_begin 70 = .ok (.iinc 3 1, 3) := by decide +kernel
theorem dX3_begin_73 : decode cX3_begin 73 = .ok (.goto (-32), 3) := by decide +kernel
theorem dX3_begin_76 : decode cX3_begin 76 = .ok (.iinc 1 1, 3) := by decide +kernel
theorem dX3_begin_79 : decode cX3_begin 79 = .ok (.goto (-55), 3) := by decide +kernel
theorem dX3_begin_82 : decode cX3_begin 82 = .ok (.return_, 1) := by decide +kernel
set_option maxRecDepth 20000 in
theorem ggX3_fitting_J7_fill_53178 : GoodIn wsX3_fitting wsJ7_fill_53178 := goodIn_r _ [7] (by decide +kernel) (by decide +kernel)
set_option maxRecDepth 20000 in
theorem gX3_fitting_J7_fill_53178 : GoodIn wsX3_fitting (va_wsS RX3 55 yJ7_fill_53178 wsJ7_fill_53178) := goodIn_app (goodIn_of _ (by decide +kernel)) ggX3_fitting_J7_fill_53178
set_option maxRecDepth 20000 in
theorem ggX3_fitting_X3_fillCell : GoodIn wsX3_fitting wsX3_fillCell := goodIn_r _ [12, 13, 1, 4, 5, 6, 7, 14, 15, 16, 11, 17, 18, 19, 20, 21, 22, 23, 24, 25] (by decide +kernel) (by decide +kernel)
set_option maxRecDepth 20000 in
theorem gX3_fitting_X3_fillCell : GoodIn wsX3_fitting (wsV RX3 61 RX3 yX3_fillCell wsX3_fillCell) := goodIn_app (goodIn_of _ (by decide +kernel)) ggX3_fitting_X3_fillCell
theorem dX3_fitting_0 : decode cX3_fitting 0 = .ok (.aload_n 0, 1) := by decide +kernel
theorem dX3_fitting_1 : decode cX3_fitting 1 = .ok (.getfield 21, 3) := by decide +kernel
theorem dX3_fitting_4 : decode cX3_fitting 4 = .ok (.iconst 0, 1) := by decide +kernel
theorem dX3_fitting_5 : decode cX3_fitting 5 = .ok (.invokestatic 55, 3) := by decide +kernel
theorem dX3_fitting_8 : decode cX3_fitting 8 = .ok (.aload_n 0, 1) := by decide +kernel
theorem dX3_fitting_9 : decode cX3_fitting 9 = .ok (.getfield 21, 3) := by decide +kernel
theorem dX3_fitting_12 : decode cX3_fitting 12 = .ok (.iconst 0, 1) := by decide +kernel
theorem dX3_fitting_13 : decode cX3_fitting 13 = .ok (.iconst 1, 1) := by decide +kernel
theorem dX3_fitting_14 : decode cX3_fitting 14 = .ok (.iastore, 1) := by decide +kernel
theorem dX3_fitting_15 : decode cX3_fitting 15 = .ok (.iconst 0, 1) := by decide +kernel
theorem dX3_fitting_16 : decode cX3_fitting 16 = .ok (.istore_n 2, 1) := by decide +kernel
theorem dX3_fitting_17 : decode cX3_fitting 17 = .ok (.iload_n 2, 1) := by decide +kernel
theorem dX3_fitting_18 : decode cX3_fitting 18 = .ok (.bipush 12, 2) := by decide +kernel
theorem dX3_fitting_20 : decode cX3_fitting 20 = .ok (.if_icmp .ge 31, 3) := by decide +kernel
theorem dX3_fitting_23 : decode cX3_fitting 23 = .ok (.aload_n 0, 1) := by decide +kernel
theorem dX3_fitting_24 : decode cX3_fitting 24 = .ok (.getfield 31, 3) := by decide +kernel
theorem dX3_fitting_27 : decode cX3_fitting 27 = .ok (.iload_n 2, 1) := by decide +kernel
theorem dX3_fitting_28 : decode cX3_fitting 28 = .ok (.ishr, 1) := by decide +kernel
theorem dX3_fitting_29 : decode cX3_fitting 29 = .ok (.iconst 1, 1) := by decide +kernel
theorem dX3_fitting_30 : decode cX3_fitting 30 = .ok (.iand, 1) := by decide +kernel
theorem dX3_fitting_31 : decode cX3_fitting 31 = .ok (.ifCond .eq 14, 3) := by decide +kernel
theorem dX3_fitting_34 : decode cX3_fitting 34 = .ok (.aload_n 0, 1) := by decide +kernel
theorem dX3_fitting_35 : decode cX3_fitting 35 = .ok (.iload_n 1, 1) := by decide +kernel
theorem dX3_fitting_36 : decode cX3_fitting 36 = .ok (.aload_n 0, 1) := by decide +kernel
theorem dX3_fitting_37 : decode cX3_fitting 37 = .ok (.getfield 15, 3) := by decide +kernel
theorem dX3_fitting_40 : decode cX3_fitting 40 = .ok (.iload_n 2, 1) := by decide +kernel
theorem dX3_fitting_41 : decode cX3_fitting 41 = .ok (.iaload, 1) := by decide +kernel
theorem dX3_fitting_42 : decode cX3_fitting 42 = .ok (.invokevirtual 61, 3) := by decide +kernel
theorem dX3_fitting_45 : decode cX3_fitting 45 = .ok (.iinc 2 1, 3) := by decide +kernel
theorem dX3_fitting_48 : decode cX3_fitting 48 = .ok (.goto (-31), 3) := by decide +kernel
theorem dX3_fitting_51 : decode cX3_fitting 51 = .ok (.iconst 0, 1) := by decide +kernel
theorem dX3_fitting_52 : decode cX3_fitting 52 = .ok (.istore_n 2, 1) := by decide +kernel
theorem dX3_fitting_53 : decode cX3_fitting 53 = .ok (.iconst 0, 1) := by decide +kernel
theorem dX3_fitting_54 : decode cX3_fitting 54 = .ok (.istore_n 3, 1) := by decide +kernel
theorem dX3_fitting_55 : decode cX3_fitting 55 = .ok (.iload_n 3, 1) := by decide +kernel
theorem dX3_fitting_56 : decode cX3_fitting 56 = .ok (.iload_n 1, 1) := by decide +kernel
theorem dX3_fitting_57 : decode cX3_fitting 57 = .ok (.if_icmp .gt 18, 3) := by decide +kernel
theorem dX3_fitting_60 : decode cX3_fitting 60 = .ok (.iload_n 2, 1) := by decide +kernel
theorem dX3_fitting_61 : decode cX3_fitting 61 = .ok (.aload_n 0, 1) := by decide +kernel
theorem dX3_fitting_62 : decode cX3_fitting 62 = .ok (.getfield 21, 3) := by decide +kernel
theorem dX3_fitting_65 : decode cX3_fitting 65 = .ok (.iload_n 3, 1) := by decide +kernel
theorem dX3_fitting_66 : decode cX3_fitting 66 = .ok (.iaload, 1) := by decide +kernel
theorem dX3_fitting_67 : decode cX3_fitting 67 = .ok (.iadd, 1) := by decide +kernel
theorem dX3_fitting_68 : decode cX3_fitting 68 = .ok (.istore_n 2, 1) := by decide +kernel
theorem dX3_fitting_69 : decode cX3_fitting 69 = .ok (.iinc 3 1, 3) := by decide +kernel
theorem dX3_fitting_72 : decode cX3_fitting 72 = .ok (.goto (-17), 3) := by decide +kernel
theorem dX3_fitting_75 : decode cX3_fitting 75 = .ok (.iload_n 2, 1) := by decide +kernel
theorem dX3_fitting_76 : decode cX3_fitting 76 = .ok (.ireturn, 1) := by decide +kernel
set_option maxRecDepth 20000 in
theorem ggX3_fillCell_J7_fill_53178 : GoodIn wsX3_fillCell wsJ7_fill_53178 := goodIn_r _ [6] (by decide +kernel) (by decide +kernel)
set_option maxRecDepth 20000 in
theorem gX3_fillCell_J7_fill_53178 : GoodIn wsX3_fillCell (va_wsS RX3 55 yJ7_fill_53178 wsJ7_fill_53178) := goodIn_app (goodIn_of _ (by decide +kernel)) ggX3_fillCell_J7_fill_53178
set_option maxRecDepth 20000 in
theorem ggX3_fillCell_X3_addTeams : GoodIn wsX3_fillCell wsX3_addTeams := goodIn_r _ [11, 12, 1, 2, 13, 14, 15, 16, 17, 18, 19] (by decide +kernel) (by decide +kernel)
set_option maxRecDepth 20000 in
theorem gX3_fillCell_X3_addTeams : GoodIn wsX3_fillCell (wsV RX3 65 RX3 yX3_addTeams wsX3_addTeams) := goodIn_app (goodIn_of _ (by decide +kernel)) ggX3_fillCell_X3_addTeams
theorem dX3_fillCell_0 : decode cX3_fillCell 0 = .ok (.aload_n 0, 1) := by decide +kernel
theorem dX3_fillCell_1 : decode cX3_fillCell 1 = .ok (.getfield 24, 3) := by decide +kernel
theorem dX3_fillCell_4 : decode cX3_fillCell 4 = .ok (.iconst 0, 1) := by decide +kernel
theorem dX3_fillCell_5 : decode cX3_fillCell 5 = .ok (.invokestatic 55, 3) := by decide +kernel
theorem dX3_fillCell_8 : decode cX3_fillCell 8 = .ok (.iconst 0, 1) := by decide +kernel
theorem dX3_fillCell_9 : decode cX3_fillCell 9 = .ok (.istore_n 3, 1) := by decide +kernel
theorem dX3_fillCell_10 : decode cX3_fillCell 10 = .ok (.iload_n 3, 1) := by decide +kernel
theorem dX3_fillCell_11 : decode cX3_fillCell 11 = .ok (.iload_n 1, 1) := by decide +kernel
theorem dX3_fillCell_12 : decode cX3_fillCell 12 = .ok (.if_icmp .gt 29, 3) := by decide +kernel
theorem dX3_fillCell_15 : decode cX3_fillCell 15 = .ok (.aload_n 0, 1) := by decide +kernel
theorem dX3_fillCell_16 : decode cX3_fillCell 16 = .ok (.getfield 21, 3) := by decide +kernel
theorem dX3_fillCell_19 : decode cX3_fillCell 19 = .ok (.iload_n 3, 1) := by decide +kernel
theorem dX3_fillCell_20 : decode cX3_fillCell 20 = .ok (.iaload, 1) := by decide +kernel
theorem dX3_fillCell_21 : decode cX3_fillCell 21 = .ok (.ifCond .eq 14, 3) := by decide +kernel
theorem dX3_fillCell_24 : decode cX3_fillCell 24 = .ok (.aload_n 0, 1) := by decide +kernel
theorem dX3_fillCell_25 : decode cX3_fillCell 25 = .ok (.iload_n 3, 1) := by decide +kernel
theorem dX3_fillCell_26 : decode cX3_fillCell 26 = .ok (.iload_n 1, 1) := by decide +kernel
theorem dX3_fillCell_27 : decode cX3_fillCell 27 = .ok (.iload_n 3, 1) := by decide +kernel
theorem dX3_fillCell_28 : decode cX3_fillCell 28 = .ok (.iconst (-1), 1) := by decide +kernel
theorem dX3_fillCell_29 : decode cX3_fillCell 29 = .ok (.ixor, 1) := by decide +kernel
theorem dX3_fillCell_30 : decode cX3_fillCell 30 = .ok (.iand, 1) := by decide +kernel
theorem dX3_fillCell_31 : decode cX3_fillCell 31 = .ok (.iload_n 2, 1) := by decide +kernel
theorem dX3_fillCell_32 : decode cX3_fillCell 32 = .ok (.invokevirtual 65, 3) := by decide +kernel
theorem dX3_fillCell_35 : decode cX3_fillCell 35 = .ok (.iinc 3 1, 3) := by decide +kernel
theorem dX3_fillCell_38 : decode cX3_fillCell 38 = .ok (.goto (-28), 3) := by decide +kernel
theorem dX3_fillCell_41 : decode cX3_fillCell 41 = .ok (.aload_n 0, 1) := by decide +kernel
theorem dX3_fillCell_42 : decode cX3_fillCell 42 = .ok (.getfield 21, 3) := by decide +kernel
theorem dX3_fillCell_45 : decode cX3_fillCell 45 = .ok (.astore_n 3, 1) := by decide +kernel
theorem dX3_fillCell_46 : decode cX3_fillCell 46 = .ok (.aload_n 0, 1) := by decide +kernel
theorem dX3_fillCell_47 : decode cX3_fillCell 47 = .ok (.aload_n 0, 1) := by decide +kernel
theorem dX3_fillCell_48 : decode cX3_fillCell 48 = .ok (.getfield 24, 3) := by decide +kernel
theorem dX3_fillCell_51 : decode cX3_fillCell 51 = .ok (.putfield 21, 3) := by decide +kernel
theorem dX3_fillCell_54 : decode cX3_fillCell 54 = .ok (.aload_n 0, 1) := by decide +kernel
theorem dX3_fillCell_55 : decode cX3_fillCell 55 = .ok (.aload_n 3, 1) := by decide +kernel
theorem dX3_fillCell_56 : decode cX3_fillCell 56 = .ok (.putfield 24, 3) := by decide +kernel
theorem dX3_fillCell_59 : decode cX3_fillCell 59 = .ok (.return_, 1) := by decide +kernel
theorem dX3_addTeams_0 : decode cX3_addTeams 0 = .ok (.iload_n 2, 1) := by decide +kernel
theorem dX3_addTeams_1 : decode cX3_addTeams 1 = .ok (.istore 4, 2) := by decide +kernel
theorem dX3_addTeams_3 : decode cX3_addTeams 3 = .ok (.iconst 0, 1) := by decide +kernel
theorem dX3_addTeams_4 : decode cX3_addTeams 4 = .ok (.istore 5, 2) := by decide +kernel
theorem dX3_addTeams_6 : decode cX3_addTeams 6 = .ok (.iload 5, 2) := by decide +kernel
theorem dX3_addTeams_8 : decode cX3_addTeams 8 = .ok (.sipush 256, 3) := by decide +kernel
theorem dX3_addTeams_11 : decode cX3_addTeams 11 = .ok (.if_icmp .ge 52, 3) := by decide +kernel
theorem dX3_addTeams_14 : decode cX3_addTeams 14 = .ok (.aload_n 0, 1) := by decide +kernel
theorem dX3_addTeams_15 : decode cX3_addTeams 15 = .ok (.getfield 18, 3) := by decide +kernel
theorem dX3_addTeams_18 : decode cX3_addTeams 18 = .ok (.iload 4, 2) := by decide +kernel
theorem dX3_addTeams_20 : decode cX3_addTeams 20 = .ok (.iaload, 1) := by decide +kernel
theorem dX3_addTeams_21 : decode cX3_addTeams 21 = .ok (.iload_n 3, 1) := by decide +kernel
theorem dX3_addTeams_22 : decode cX3_addTeams 22 = .ok (.if_icmp .ne 21, 3) := by decide +kernel
theorem dX3_addTeams_25 : decode cX3_addTeams 25 = .ok (.aload_n 0, 1) := by decide +kernel
theorem dX3_addTeams_26 : decode cX3_addTeams 26 = .ok (.getfield 24, 3) := by decide +kernel
theorem dX3_addTeams_29 : decode cX3_addTeams 29 = .ok (.iload_n 1, 1) := by decide +kernel
theorem dX3_addTeams_30 : decode cX3_addTeams 30 = .ok (.iload 4, 2) := by decide +kernel
theorem dX3_addTeams_32 : decode cX3_addTeams 32 = .ok (.ior, 1) := by decide +kernel
theorem dX3_addTeams_33 : decode cX3_addTeams 33 = .ok (.dup2, 1) := by decide +kernel
theorem dX3_addTeams_34 : decode cX3_addTeams 34 = .ok (.iaload, 1) := by decide +kernel
theorem dX3_addTeams_35 : decode cX3_addTeams 35 = .ok (.aload_n 0, 1) := by decide +kernel
theorem dX3_addTeams_36 : decode cX3_addTeams 36 = .ok (.getfield 21, 3) := by decide +kernel
theorem dX3_addTeams_39 : decode cX3_addTeams 39 = .ok (.iload_n 1, 1) := by decide +kernel
theorem dX3_addTeams_40 : decode cX3_addTeams 40 = .ok (.iaload, 1) := by decide +kernel
theorem dX3_addTeams_41 : decode cX3_addTeams 41 = .ok (.iadd, 1) := by decide +kernel
theorem dX3_addTeams_42 : decode cX3_addTeams 42 = .ok (.iastore, 1) := by decide +kernel
theorem dX3_addTeams_43 : decode cX3_addTeams 43 = .ok (.iload 4, 2) := by decide +kernel
theorem dX3_addTeams_45 : decode cX3_addTeams 45 = .ok (.ifCond .ne 4, 3) := by decide +kernel
theorem dX3_addTeams_48 : decode cX3_addTeams 48 = .ok (.return_, 1) := by decide +kernel
theorem dX3_addTeams_49 : decode cX3_addTeams 49 = .ok (.iload 4, 2) := by decide +kernel
theorem dX3_addTeams_51 : decode cX3_addTeams 51 = .ok (.iconst 1, 1) := by decide +kernel
theorem dX3_addTeams_52 : decode cX3_addTeams 52 = .ok (.isub, 1) := by decide +kernel
theorem dX3_addTeams_53 : decode cX3_addTeams 53 = .ok (.iload_n 2, 1) := by decide +kernel
theorem dX3_addTeams_54 : decode cX3_addTeams 54 = .ok (.iand, 1) := by decide +kernel
theorem dX3_addTeams_55 : decode cX3_addTeams 55 = .ok (.istore 4, 2) := by decide +kernel
theorem dX3_addTeams_57 : decode cX3_addTeams 57 = .ok (.iinc 5 1, 3) := by decide +kernel
theorem dX3_addTeams_60 : decode cX3_addTeams 60 = .ok (.goto (-54), 3) := by decide +kernel
theorem dX3_addTeams_63 : decode cX3_addTeams 63 = .ok (.return_, 1) := by decide +kernel
set_option maxRecDepth 20000 in
theorem ggX3_tellLeast_X2_all : GoodIn wsX3_tellLeast wsX2_all := goodIn_r _ [7, 8, 54, 55, 56, 57, 58] (by decide +kernel) (by decide +kernel)
set_option maxRecDepth 20000 in
theorem gX3_tellLeast_X2_all : GoodIn wsX3_tellLeast (wsV RX3 69 RX2 yX2_all wsX2_all) := goodIn_app (goodIn_of _ (by decide +kernel)) ggX3_tellLeast_X2_all
set_option maxRecDepth 20000 in
theorem ggX3_tellLeast_X3_leastOf : GoodIn wsX3_tellLeast wsX3_leastOf := goodIn_r _ [13, 14, 1, 15, 16, 17, 18, 12, 19, 20, 21, 22, 23, 24, 25, 26, 27, 28, 29, 30, 31, 32, 33, 34, 35, 36, 37, 38, 39, 47, 48, 49, 50, 51, 52, 53, 54, 55, 56, 57, 58] (by decide +kernel) (by decide +kernel)
set_option maxRecDepth 20000 in
theorem gX3_tellLeast_X3_leastOf : GoodIn wsX3_tellLeast (wsV RX3 73 RX3 yX3_leastOf wsX3_leastOf) := goodIn_app (goodIn_of _ (by decide +kernel)) ggX3_tellLeast_X3_leastOf
set_option maxRecDepth 20000 in
theorem ggX3_tellLeast_X8_add : GoodIn wsX3_tellLeast wsX8_add := goodIn_r _ [44, 45, 46, 59, 60] (by decide +kernel) (by decide +kernel)
set_option maxRecDepth 20000 in
theorem gX3_tellLeast_X8_add : GoodIn wsX3_tellLeast (wsV RX3 77 RX8 yX8_add wsX8_add) := goodIn_app (goodIn_of _ (by decide +kernel)) ggX3_tellLeast_X8_add
theorem dX3_tellLeast_0 : decode cX3_tellLeast 0 = .ok (.aload_n 0, 1) := by decide +kernel
theorem dX3_tellLeast_1 : decode cX3_tellLeast 1 = .ok (.getfield 27, 3) := by decide +kernel
theorem dX3_tellLeast_4 : decode cX3_tellLeast 4 = .ok (.invokevirtual 69, 3) := by decide +kernel
theorem dX3_tellLeast_7 : decode cX3_tellLeast 7 = .ok (.istore_n 2, 1) := by decide +kernel
theorem dX3_tellLeast_8 : decode cX3_tellLeast 8 = .ok (.iconst 0, 1) := by decide +kernel
theorem dX3_tellLeast_9 : decode cX3_tellLeast 9 = .ok (.istore_n 3, 1) := by decide +kernel
theorem dX3_tellLeast_10 : decode cX3_tellLeast 10 = .ok (.iload_n 3, 1) := by decide +kernel
theorem dX3_tellLeast_11 : decode cX3_tellLeast 11 = .ok (.aload_n 0, 1) := by decide +kernel
theorem dX3_tellLeast_12 : decode cX3_tellLeast 12 = .ok (.getfield 27, 3) := by decide +kernel
theorem dX3_tellLeast_15 : decode cX3_tellLeast 15 = .ok (.getfield 47, 3) := by decide +kernel
theorem dX3_tellLeast_18 : decode cX3_tellLeast 18 = .ok (.if_icmp .ge 28, 3) := by decide +kernel
theorem dX3_tellLeast_21 : decode cX3_tellLeast 21 = .ok (.iload_n 2, 1) := by decide +kernel
theorem dX3_tellLeast_22 : decode cX3_tellLeast 22 = .ok (.iconst 1, 1) := by decide +kernel
theorem dX3_tellLeast_23 : decode cX3_tellLeast 23 = .ok (.iload_n 3, 1) := by decide +kernel
theorem dX3_tellLeast_24 : decode cX3_tellLeast 24 = .ok (.ishl, 1) := by decide +kernel
theorem dX3_tellLeast_25 : decode cX3_tellLeast 25 = .ok (.iconst (-1), 1) := by decide +kernel
theorem dX3_tellLeast_26 : decode cX3_tellLeast 26 = .ok (.ixor, 1) := by decide +kernel
theorem dX3_tellLeast_27 : decode cX3_tellLeast 27 = .ok (.iand, 1) := by decide +kernel
theorem dX3_tellLeast_28 : decode cX3_tellLeast 28 = .ok (.istore_n 2, 1) := by decide +kernel
theorem dX3_tellLeast_29 : decode cX3_tellLeast 29 = .ok (.aload_n 1, 1) := by decide +kernel
theorem dX3_tellLeast_30 : decode cX3_tellLeast 30 = .ok (.aload_n 0, 1) := by decide +kernel
theorem dX3_tellLeast_31 : decode cX3_tellLeast 31 = .ok (.iload_n 3, 1) := by decide +kernel
theorem dX3_tellLeast_32 : decode cX3_tellLeast 32 = .ok (.iload_n 2, 1) := by decide +kernel
theorem dX3_tellLeast_33 : decode cX3_tellLeast 33 = .ok (.invokevirtual 73, 3) := by decide +kernel
theorem dX3_tellLeast_36 : decode cX3_tellLeast 36 = .ok (.i2l, 1) := by decide +kernel
theorem dX3_tellLeast_37 : decode cX3_tellLeast 37 = .ok (.invokevirtual 77, 3) := by decide +kernel
theorem dX3_tellLeast_40 : decode cX3_tellLeast 40 = .ok (.iinc 3 1, 3) := by decide +kernel
theorem dX3_tellLeast_43 : decode cX3_tellLeast 43 = .ok (.goto (-33), 3) := by decide +kernel
theorem dX3_tellLeast_46 : decode cX3_tellLeast 46 = .ok (.return_, 1) := by decide +kernel
set_option maxRecDepth 20000 in
theorem ggX3_leastOf_X3_fitting : GoodIn wsX3_leastOf wsX3_fitting := goodIn_r _ [8, 9, 10, 1, 11, 12, 13, 14, 15, 16, 17, 7, 18, 19, 20, 21, 22, 23, 24, 29, 30, 31, 32, 33, 34, 35] (by decide +kernel) (by decide +kernel)
set_option maxRecDepth 20000 in
theorem gX3_leastOf_X3_fitting : GoodIn wsX3_leastOf (wsV RX3 83 RX3 yX3_fitting wsX3_fitting) := goodIn_app (goodIn_of _ (by decide +kernel)) ggX3_leastOf_X3_fitting
set_option maxRecDepth 20000 in
theorem ggX3_leastOf_X3_canBeAt : GoodIn wsX3_leastOf wsX3_canBeAt := goodIn_r _ [28, 10, 1, 2, 3, 4, 5, 6, 7, 8, 9, 11, 12, 13, 14, 15, 16, 17, 18, 19, 20, 21, 22, 23, 24, 29, 30, 31, 32, 33, 34, 35, 36, 37, 38, 39, 40] (by decide +kernel) (by decide +kernel)
set_option maxRecDepth 20000 in
theorem gX3_leastOf_X3_canBeAt : GoodIn wsX3_leastOf (wsV RX3 86 RX3 yX3_canBeAt wsX3_canBeAt) := goodIn_app (goodIn_of _ (by decide +kernel)) ggX3_leastOf_X3_canBeAt
theorem dX3_leastOf_0 : decode cX3_leastOf 0 = .ok (.aload_n 0, 1) := by decide +kernel
theorem dX3_leastOf_1 : decode cX3_leastOf 1 = .ok (.iload_n 2, 1) := by decide +kernel
theorem dX3_leastOf_2 : decode cX3_leastOf 2 = .ok (.invokevirtual 83, 3) := by decide +kernel
theorem dX3_leastOf_5 : decode cX3_leastOf 5 = .ok (.ifCond .le 5, 3) := by decide +kernel
theorem dX3_leastOf_8 : decode cX3_leastOf 8 = .ok (.iconst (-1), 1) := by decide +kernel
theorem dX3_leastOf_9 : decode cX3_leastOf 9 = .ok (.ireturn, 1) := by decide +kernel
theorem dX3_leastOf_10 : decode cX3_leastOf 10 = .ok (.iconst 0, 1) := by decide +kernel
theorem dX3_leastOf_11 : decode cX3_leastOf 11 = .ok (.istore_n 3, 1) := by decide +kernel
theorem dX3_leastOf_12 : decode cX3_leastOf 12 = .ok (.iload_n 3, 1) := by decide +kernel
theorem dX3_leastOf_13 : decode cX3_leastOf 13 = .ok (.bipush 12, 2) := by decide +kernel
theorem dX3_leastOf_15 : decode cX3_leastOf 15 = .ok (.if_icmp .ge 39, 3) := by decide +kernel
theorem dX3_leastOf_18 : decode cX3_leastOf 18 = .ok (.aload_n 0, 1) := by decide +kernel
theorem dX3_leastOf_19 : decode cX3_leastOf 19 = .ok (.iload_n 1, 1) := by decide +kernel
theorem dX3_leastOf_20 : decode cX3_leastOf 20 = .ok (.iload_n 3, 1) := by decide +kernel
theorem dX3_leastOf_21 : decode cX3_leastOf 21 = .ok (.iload_n 2, 1) := by decide +kernel
theorem dX3_leastOf_22 : decode cX3_leastOf 22 = .ok (.invokevirtual 86, 3) := by decide +kernel
theorem dX3_leastOf_25 : decode cX3_leastOf 25 = .ok (.ifCond .eq 23, 3) := by decide +kernel
theorem dX3_leastOf_28 : decode cX3_leastOf 28 = .ok (.aload_n 0, 1) := by decide +kernel
theorem dX3_leastOf_29 : decode cX3_leastOf 29 = .ok (.getfield 15, 3) := by decide +kernel
theorem dX3_leastOf_32 : decode cX3_leastOf 32 = .ok (.iload_n 3, 1) := by decide +kernel
theorem dX3_leastOf_33 : decode cX3_leastOf 33 = .ok (.dup2, 1) := by decide +kernel
theorem dX3_leastOf_34 : decode cX3_leastOf 34 = .ok (.iaload, 1) := by decide +kernel
theorem dX3_leastOf_35 : decode cX3_leastOf 35 = .ok (.aload_n 0, 1) := by decide +kernel
theorem dX3_leastOf_36 : decode cX3_leastOf 36 = .ok (.getfield 27, 3) := by decide +kernel
theorem dX3_leastOf_39 : decode cX3_leastOf 39 = .ok (.getfield 52, 3) := by decide +kernel
theorem dX3_leastOf_42 : decode cX3_leastOf 42 = .ok (.iload_n 1, 1) := by decide +kernel
theorem dX3_leastOf_43 : decode cX3_leastOf 43 = .ok (.iaload, 1) := by decide +kernel
theorem dX3_leastOf_44 : decode cX3_leastOf 44 = .ok (.isub, 1) := by decide +kernel
theorem dX3_leastOf_45 : decode cX3_leastOf 45 = .ok (.iastore, 1) := by decide +kernel
theorem dX3_leastOf_46 : decode cX3_leastOf 46 = .ok (.iload_n 3, 1) := by decide +kernel
theorem dX3_leastOf_47 : decode cX3_leastOf 47 = .ok (.ireturn, 1) := by decide +kernel
theorem dX3_leastOf_48 : decode cX3_leastOf 48 = .ok (.iinc 3 1, 3) := by decide +kernel
theorem dX3_leastOf_51 : decode cX3_leastOf 51 = .ok (.goto (-39), 3) := by decide +kernel
theorem dX3_leastOf_54 : decode cX3_leastOf 54 = .ok (.iconst (-1), 1) := by decide +kernel
theorem dX3_leastOf_55 : decode cX3_leastOf 55 = .ok (.ireturn, 1) := by decide +kernel
set_option maxRecDepth 20000 in
theorem ggX3_canBeAt_X3_fitting : GoodIn wsX3_canBeAt wsX3_fitting := goodIn_r _ [9, 10, 1, 2, 11, 12, 13, 14, 15, 16, 17, 8, 18, 19, 20, 21, 22, 23, 24, 25, 26, 27, 28, 29, 30, 31] (by decide +kernel) (by decide +kernel)
set_option maxRecDepth 20000 in
theorem gX3_canBeAt_X3_fitting : GoodIn wsX3_canBeAt (wsV RX3 83 RX3 yX3_fitting wsX3_fitting) := goodIn_app (goodIn_of _ (by decide +kernel)) ggX3_canBeAt_X3_fitting
theorem dX3_canBeAt_0 : decode cX3_canBeAt 0 = .ok (.aload_n 0, 1) := by decide +kernel
theorem dX3_canBeAt_1 : decode cX3_canBeAt 1 = .ok (.getfield 31, 3) := by decide +kernel
theorem dX3_canBeAt_4 : decode cX3_canBeAt 4 = .ok (.iload_n 2, 1) := by decide +kernel
theorem dX3_canBeAt_5 : decode cX3_canBeAt 5 = .ok (.ishr, 1) := by decide +kernel
theorem dX3_canBeAt_6 : decode cX3_canBeAt 6 = .ok (.iconst 1, 1) := by decide +kernel
theorem dX3_canBeAt_7 : decode cX3_canBeAt 7 = .ok (.iand, 1) := by decide +kernel
theorem dX3_canBeAt_8 : decode cX3_canBeAt 8 = .ok (.ifCond .ne 5, 3) := by decide +kernel
theorem dX3_canBeAt_11 : decode cX3_canBeAt 11 = .ok (.iconst 0, 1) := by decide +kernel
theorem dX3_canBeAt_12 : decode cX3_canBeAt 12 = .ok (.ireturn, 1) := by decide +kernel
theorem dX3_canBeAt_13 : decode cX3_canBeAt 13 = .ok (.aload_n 0, 1) := by decide +kernel
theorem dX3_canBeAt_14 : decode cX3_canBeAt 14 = .ok (.getfield 15, 3) := by decide +kernel
theorem dX3_canBeAt_17 : decode cX3_canBeAt 17 = .ok (.iload_n 2, 1) := by decide +kernel
theorem dX3_canBeAt_18 : decode cX3_canBeAt 18 = .ok (.dup2, 1) := by decide +kernel
theorem dX3_canBeAt_19 : decode cX3_canBeAt 19 = .ok (.iaload, 1) := by decide +kernel
theorem dX3_canBeAt_20 : decode cX3_canBeAt 20 = .ok (.aload_n 0, 1) := by decide +kernel
theorem dX3_canBeAt_21 : decode cX3_canBeAt 21 = .ok (.getfield 27, 3) := by decide +kernel
theorem dX3_canBeAt_24 : decode cX3_canBeAt 24 = .ok (.getfield 52, 3) := by decide +kernel
theorem dX3_canBeAt_27 : decode cX3_canBeAt 27 = .ok (.iload_n 1, 1) := by decide +kernel
theorem dX3_canBeAt_28 : decode cX3_canBeAt 28 = .ok (.iaload, 1) := by decide +kernel
theorem dX3_canBeAt_29 : decode cX3_canBeAt 29 = .ok (.isub, 1) := by decide +kernel
theorem dX3_canBeAt_30 : decode cX3_canBeAt 30 = .ok (.iastore, 1) := by decide +kernel
theorem dX3_canBeAt_31 : decode cX3_canBeAt 31 = .ok (.aload_n 0, 1) := by decide +kernel
theorem dX3_canBeAt_32 : decode cX3_canBeAt 32 = .ok (.iload_n 3, 1) := by decide +kernel
theorem dX3_canBeAt_33 : decode cX3_canBeAt 33 = .ok (.invokevirtual 83, 3) := by decide +kernel
theorem dX3_canBeAt_36 : decode cX3_canBeAt 36 = .ok (.ifCond .le 7, 3) := by decide +kernel
theorem dX3_canBeAt_39 : decode cX3_canBeAt 39 = .ok (.iconst 1, 1) := by decide +kernel
theorem dX3_canBeAt_40 : decode cX3_canBeAt 40 = .ok (.goto 4, 3) := by decide +kernel
theorem dX3_canBeAt_43 : decode cX3_canBeAt 43 = .ok (.iconst 0, 1) := by decide +kernel
theorem dX3_canBeAt_44 : decode cX3_canBeAt 44 = .ok (.istore 4, 2) := by decide +kernel
theorem dX3_canBeAt_46 : decode cX3_canBeAt 46 = .ok (.aload_n 0, 1) := by decide +kernel
theorem dX3_canBeAt_47 : decode cX3_canBeAt 47 = .ok (.getfield 15, 3) := by decide +kernel
theorem dX3_canBeAt_50 : decode cX3_canBeAt 50 = .ok (.iload_n 2, 1) := by decide +kernel
theorem dX3_canBeAt_51 : decode cX3_canBeAt 51 = .ok (.dup2, 1) := by decide +kernel
theorem dX3_canBeAt_52 : decode cX3_canBeAt 52 = .ok (.iaload, 1) := by decide +kernel
theorem dX3_canBeAt_53 : decode cX3_canBeAt 53 = .ok (.aload_n 0, 1) := by decide +kernel
theorem dX3_canBeAt_54 : decode cX3_canBeAt 54 = .ok (.getfield 27, 3) := by decide +kernel
theorem dX3_canBeAt_57 : decode cX3_canBeAt 57 = .ok (.getfield 52, 3) := by decide +kernel
theorem dX3_canBeAt_60 : decode cX3_canBeAt 60 = .ok (.iload_n 1, 1) := by decide +kernel
theorem dX3_canBeAt_61 : decode cX3_canBeAt 61 = .ok (.iaload, 1) := by decide +kernel
theorem dX3_canBeAt_62 : decode cX3_canBeAt 62 = .ok (.iadd, 1) := by decide +kernel
theorem dX3_canBeAt_63 : decode cX3_canBeAt 63 = .ok (.iastore, 1) := by decide +kernel
theorem dX3_canBeAt_64 : decode cX3_canBeAt 64 = .ok (.iload 4, 2) := by decide +kernel
theorem dX3_canBeAt_66 : decode cX3_canBeAt 66 = .ok (.ireturn, 1) := by decide +kernel
set_option maxRecDepth 20000 in
theorem ggX3_cellsOf_X3_canBeAt : GoodIn wsX3_cellsOf wsX3_canBeAt := goodIn_r _ [5, 6, 7, 8, 9, 10, 11, 12, 4, 13, 14, 15, 16, 17, 18, 19, 20, 21, 22, 23, 24, 25, 26, 27, 28, 29, 30, 31, 32, 33, 34, 35, 36, 37, 38, 39, 40] (by decide +kernel) (by decide +kernel)
set_option maxRecDepth 20000 in
theorem gX3_cellsOf_X3_canBeAt : GoodIn wsX3_cellsOf (wsV RX3 86 RX3 yX3_canBeAt wsX3_canBeAt) := goodIn_app (goodIn_of _ (by decide +kernel)) ggX3_cellsOf_X3_canBeAt
theorem dX3_cellsOf_0 : decode cX3_cellsOf 0 = .ok (.iconst 0, 1) := by decide +kernel
theorem dX3_cellsOf_1 : decode cX3_cellsOf 1 = .ok (.istore_n 3, 1) := by decide +kernel
theorem dX3_cellsOf_2 : decode cX3_cellsOf 2 = .ok (.iconst 0, 1) := by decide +kernel
theorem dX3_cellsOf_3 : decode cX3_cellsOf 3 = .ok (.istore 4, 2) := by decide +kernel
theorem dX3_cellsOf_5 : decode cX3_cellsOf 5 = .ok (.iload 4, 2) := by decide +kernel
theorem dX3_cellsOf_7 : decode cX3_cellsOf 7 = .ok (.bipush 12, 2) := by decide +kernel
theorem dX3_cellsOf_9 : decode cX3_cellsOf 9 = .ok (.if_icmp .ge 27, 3) := by decide +kernel
theorem dX3_cellsOf_12 : decode cX3_cellsOf 12 = .ok (.aload_n 0, 1) := by decide +kernel
theorem dX3_cellsOf_13 : decode cX3_cellsOf 13 = .ok (.iload_n 1, 1) := by decide +kernel
theorem dX3_cellsOf_14 : decode cX3_cellsOf 14 = .ok (.iload 4, 2) := by decide +kernel
theorem dX3_cellsOf_16 : decode cX3_cellsOf 16 = .ok (.iload_n 2, 1) := by decide +kernel
theorem dX3_cellsOf_17 : decode cX3_cellsOf 17 = .ok (.invokevirtual 86, 3) := by decide +kernel
theorem dX3_cellsOf_20 : decode cX3_cellsOf 20 = .ok (.ifCond .eq 10, 3) := by decide +kernel
theorem dX3_cellsOf_23 : decode cX3_cellsOf 23 = .ok (.iload_n 3, 1) := by decide +kernel
theorem dX3_cellsOf_24 : decode cX3_cellsOf 24 = .ok (.iconst 1, 1) := by decide +kernel
theorem dX3_cellsOf_25 : decode cX3_cellsOf 25 = .ok (.iload 4, 2) := by decide +kernel
theorem dX3_cellsOf_27 : decode cX3_cellsOf 27 = .ok (.ishl, 1) := by decide +kernel
theorem dX3_cellsOf_28 : decode cX3_cellsOf 28 = .ok (.ior, 1) := by decide +kernel
theorem dX3_cellsOf_29 : decode cX3_cellsOf 29 = .ok (.istore_n 3, 1) := by decide +kernel
theorem dX3_cellsOf_30 : decode cX3_cellsOf 30 = .ok (.iinc 4 1, 3) := by decide +kernel
theorem dX3_cellsOf_33 : decode cX3_cellsOf 33 = .ok (.goto (-28), 3) := by decide +kernel
theorem dX3_cellsOf_36 : decode cX3_cellsOf 36 = .ok (.iload_n 3, 1) := by decide +kernel
theorem dX3_cellsOf_37 : decode cX3_cellsOf 37 = .ok (.ireturn, 1) := by decide +kernel
set_option maxRecDepth 20000 in
theorem ggX4_init_X9_init : GoodIn wsX4_init wsX9_init := goodIn_r _ [10, 11, 2, 3, 12, 13, 14, 15, 16, 17, 18, 22, 23, 24, 25, 26, 27, 28, 29, 30] (by decide +kernel) (by decide +kernel)
set_option maxRecDepth 20000 in
theorem gX4_init_X9_init : GoodIn wsX4_init (wsX9_init) := ggX4_init_X9_init
theorem dX4_init_0 : decode cX4_init 0 = .ok (.aload_n 0, 1) := by decide +kernel
theorem dX4_init_1 : decode cX4_init 1 = .ok (.invokespecial 3, 3) := by decide +kernel
theorem dX4_init_4 : decode cX4_init 4 = .ok (.aload_n 0, 1) := by decide +kernel
theorem dX4_init_5 : decode cX4_init 5 = .ok (.bipush 16, 2) := by decide +kernel
theorem dX4_init_7 : decode cX4_init 7 = .ok (.anewarray 11, 3) := by decide +kernel
theorem dX4_init_10 : decode cX4_init 10 = .ok (.putfield 13, 3) := by decide +kernel
theorem dX4_init_13 : decode cX4_init 13 = .ok (.iconst 0, 1) := by decide +kernel
theorem dX4_init_14 : decode cX4_init 14 = .ok (.istore_n 3, 1) := by decide +kernel
theorem dX4_init_15 : decode cX4_init 15 = .ok (.iload_n 3, 1) := by decide +kernel
theorem dX4_init_16 : decode cX4_init 16 = .ok (.bipush 16, 2) := by decide +kernel
theorem dX4_init_18 : decode cX4_init 18 = .ok (.if_icmp .ge 24, 3) := by decide +kernel
theorem dX4_init_21 : decode cX4_init 21 = .ok (.aload_n 0, 1) := by decide +kernel
theorem dX4_init_22 : decode cX4_init 22 = .ok (.getfield 13, 3) := by decide +kernel
theorem dX4_init_25 : decode cX4_init 25 = .ok (.iload_n 3, 1) := by decide +kernel
theorem dX4_init_26 : decode cX4_init 26 = .ok (.new 11, 3) := by decide +kernel
theorem dX4_init_29 : decode cX4_init 29 = .ok (.dup, 1) := by decide +kernel
theorem dX4_init_30 : decode cX4_init 30 = .ok (.aload_n 1, 1) := by decide +kernel
theorem dX4_init_31 : decode cX4_init 31 = .ok (.aload_n 2, 1) := by decide +kernel
theorem dX4_init_32 : decode cX4_init 32 = .ok (.invokespecial 17, 3) := by decide +kernel
theorem dX4_init_35 : decode cX4_init 35 = .ok (.aastore, 1) := by decide +kernel
theorem dX4_init_36 : decode cX4_init 36 = .ok (.iinc 3 1, 3) := by decide +kernel
theorem dX4_init_39 : decode cX4_init 39 = .ok (.goto (-24), 3) := by decide +kernel
theorem dX4_init_42 : decode cX4_init 42 = .ok (.return_, 1) := by decide +kernel
theorem dX4_clear_0 : decode cX4_clear 0 = .ok (.aload_n 0, 1) := by decide +kernel
theorem dX4_clear_1 : decode cX4_clear 1 = .ok (.iconst 0, 1) := by decide +kernel
theorem dX4_clear_2 : decode cX4_clear 2 = .ok (.putfield 20, 3) := by decide +kernel
theorem dX4_clear_5 : decode cX4_clear 5 = .ok (.return_, 1) := by decide +kernel
set_option maxRecDepth 20000 in
theorem ggX4_mark_X9_copy : GoodIn wsX4_mark wsX9_copy := goodIn_r _ [7, 8, 9, 10, 11, 12, 13, 14, 15, 16, 17, 18, 22, 23, 24, 25, 26, 27, 28, 29, 30] (by decide +kernel) (by decide +kernel)
set_option maxRecDepth 20000 in
theorem gX4_mark_X9_copy : GoodIn wsX4_mark (wsV RX4 27 RX9 yX9_copy wsX9_copy) := goodIn_app (goodIn_of _ (by decide +kernel)) ggX4_mark_X9_copy
theorem dX4_mark_0 : decode cX4_mark 0 = .ok (.aload_n 0, 1) := by decide +kernel
theorem dX4_mark_1 : decode cX4_mark 1 = .ok (.getfield 13, 3) := by decide +kernel
theorem dX4_mark_4 : decode cX4_mark 4 = .ok (.aload_n 0, 1) := by decide +kernel
theorem dX4_mark_5 : decode cX4_mark 5 = .ok (.getfield 24, 3) := by decide +kernel
theorem dX4_mark_8 : decode cX4_mark 8 = .ok (.aaload, 1) := by decide +kernel
theorem dX4_mark_9 : decode cX4_mark 9 = .ok (.aload_n 1, 1) := by decide +kernel
theorem dX4_mark_10 : decode cX4_mark 10 = .ok (.invokevirtual 27, 3) := by decide +kernel
theorem dX4_mark_13 : decode cX4_mark 13 = .ok (.return_, 1) := by decide +kernel
theorem dX4_keepMarked_0 : decode cX4_keepMarked 0 = .ok (.aload_n 0, 1) := by decide +kernel
theorem dX4_keepMarked_1 : decode cX4_keepMarked 1 = .ok (.aload_n 0, 1) := by decide +kernel
theorem dX4_keepMarked_2 : decode cX4_keepMarked 2 = .ok (.getfield 24, 3) := by decide +kernel
theorem dX4_keepMarked_5 : decode cX4_keepMarked 5 = .ok (.iconst 1, 1) := by decide +kernel
theorem dX4_keepMarked_6 : decode cX4_keepMarked 6 = .ok (.iadd, 1) := by decide +kernel
theorem dX4_keepMarked_7 : decode cX4_keepMarked 7 = .ok (.bipush 16, 2) := by decide +kernel
theorem dX4_keepMarked_9 : decode cX4_keepMarked 9 = .ok (.irem, 1) := by decide +kernel
theorem dX4_keepMarked_10 : decode cX4_keepMarked 10 = .ok (.putfield 24, 3) := by decide +kernel
theorem dX4_keepMarked_13 : decode cX4_keepMarked 13 = .ok (.aload_n 0, 1) := by decide +kernel
theorem dX4_keepMarked_14 : decode cX4_keepMarked 14 = .ok (.bipush 15, 2) := by decide +kernel
theorem dX4_keepMarked_16 : decode cX4_keepMarked 16 = .ok (.aload_n 0, 1) := by decide +kernel
theorem dX4_keepMarked_17 : decode cX4_keepMarked 17 = .ok (.getfield 20, 3) := by decide +kernel
theorem dX4_keepMarked_20 : decode cX4_keepMarked 20 = .ok (.iconst 1, 1) := by decide +kernel
theorem dX4_keepMarked_21 : decode cX4_keepMarked 21 = .ok (.iadd, 1) := by decide +kernel
theorem dX4_keepMarked_22 : decode cX4_keepMarked 22 = .ok (.invokestatic 31, 3) := by decide +kernel
theorem dX4_keepMarked_25 : decode cX4_keepMarked 25 = .ok (.putfield 20, 3) := by decide +kernel
theorem dX4_keepMarked_28 : decode cX4_keepMarked 28 = .ok (.return_, 1) := by decide +kernel
set_option maxRecDepth 20000 in
theorem ggX4_takeBack_X9_copy : GoodIn wsX4_takeBack wsX9_copy := goodIn_r _ [8, 9, 10, 11, 12, 13, 14, 15, 16, 17, 18, 19, 23, 24, 25, 26, 27, 28, 29, 30, 31] (by decide +kernel) (by decide +kernel)
set_option maxRecDepth 20000 in
theorem gX4_takeBack_X9_copy : GoodIn wsX4_takeBack (wsV RX4 27 RX9 yX9_copy wsX9_copy) := goodIn_app (goodIn_of _ (by decide +kernel)) ggX4_takeBack_X9_copy
theorem dX4_takeBack_0 : decode cX4_takeBack 0 = .ok (.aload_n 0, 1) := by decide +kernel
theorem dX4_takeBack_1 : decode cX4_takeBack 1 = .ok (.getfield 20, 3) := by decide +kernel
theorem dX4_takeBack_4 : decode cX4_takeBack 4 = .ok (.ifCond .ne 5, 3) := by decide +kernel
theorem dX4_takeBack_7 : decode cX4_takeBack 7 = .ok (.iconst (-1), 1) := by decide +kernel
theorem dX4_takeBack_8 : decode cX4_takeBack 8 = .ok (.ireturn, 1) := by decide +kernel
theorem dX4_takeBack_9 : decode cX4_takeBack 9 = .ok (.aload_n 0, 1) := by decide +kernel
theorem dX4_takeBack_10 : decode cX4_takeBack 10 = .ok (.aload_n 0, 1) := by decide +kernel
theorem dX4_takeBack_11 : decode cX4_takeBack 11 = .ok (.getfield 24, 3) := by decide +kernel
theorem dX4_takeBack_14 : decode cX4_takeBack 14 = .ok (.bipush 16, 2) := by decide +kernel
theorem dX4_takeBack_16 : decode cX4_takeBack 16 = .ok (.iadd, 1) := by decide +kernel
theorem dX4_takeBack_17 : decode cX4_takeBack 17 = .ok (.iconst 1, 1) := by decide +kernel
theorem dX4_takeBack_18 : decode cX4_takeBack 18 = .ok (.isub, 1) := by decide +kernel
theorem dX4_takeBack_19 : decode cX4_takeBack 19 = .ok (.bipush 16, 2) := by decide +kernel
theorem dX4_takeBack_21 : decode cX4_takeBack 21 = .ok (.irem, 1) := by decide +kernel
theorem dX4_takeBack_22 : decode cX4_takeBack 22 = .ok (.putfield 24, 3) := by decide +kernel
theorem dX4_takeBack_25 : decode cX4_takeBack 25 = .ok (.aload_n 0, 1) := by decide +kernel
theorem dX4_takeBack_26 : decode cX4_takeBack 26 = .ok (.dup, 1) := by decide +kernel
theorem dX4_takeBack_27 : decode cX4_takeBack 27 = .ok (.getfield 20, 3) := by decide +kernel
theorem dX4_takeBack_30 : decode cX4_takeBack 30 = .ok (.iconst 1, 1) := by decide +kernel
theorem dX4_takeBack_31 : decode cX4_takeBack 31 = .ok (.isub, 1) := by decide +kernel
theorem dX4_takeBack_32 : decode cX4_takeBack 32 = .ok (.putfield 20, 3) := by decide +kernel
theorem dX4_takeBack_35 : decode cX4_takeBack 35 = .ok (.aload_n 1, 1) := by decide +kernel
theorem dX4_takeBack_36 : decode cX4_takeBack 36 = .ok (.aload_n 0, 1) := by decide +kernel
theorem dX4_takeBack_37 : decode cX4_takeBack 37 = .ok (.getfield 13, 3) := by decide +kernel
theorem dX4_takeBack_40 : decode cX4_takeBack 40 = .ok (.aload_n 0, 1) := by decide +kernel
theorem dX4_takeBack_41 : decode cX4_takeBack 41 = .ok (.getfield 24, 3) := by decide +kernel
theorem dX4_takeBack_44 : decode cX4_takeBack 44 = .ok (.aaload, 1) := by decide +kernel
theorem dX4_takeBack_45 : decode cX4_takeBack 45 = .ok (.invokevirtual 27, 3) := by decide +kernel
theorem dX4_takeBack_48 : decode cX4_takeBack 48 = .ok (.aload_n 0, 1) := by decide +kernel
theorem dX4_takeBack_49 : decode cX4_takeBack 49 = .ok (.getfield 20, 3) := by decide +kernel
theorem dX4_takeBack_52 : decode cX4_takeBack 52 = .ok (.ireturn, 1) := by decide +kernel
