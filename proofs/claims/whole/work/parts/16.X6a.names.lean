set_option maxRecDepth 20000 in
theorem ggX6_init_X6_usePlain : GoodIn wsX6_init wsX6_usePlain := goodIn_r _ [11, 12, 5, 13, 14, 15, 16, 17, 18, 19, 20, 21, 22, 23] (by decide +kernel) (by decide +kernel)
set_option maxRecDepth 20000 in
theorem gX6_init_X6_usePlain : GoodIn wsX6_init (wsV RX6 18 RX6 yX6_usePlain wsX6_usePlain) := goodIn_app (goodIn_of _ (by decide +kernel)) ggX6_init_X6_usePlain
theorem dX6_init_0 : decode cX6_init 0 = .ok (.aload_n 0, 1) := by decide +kernel
theorem dX6_init_1 : decode cX6_init 1 = .ok (.invokespecial 3, 3) := by decide +kernel
theorem dX6_init_4 : decode cX6_init 4 = .ok (.aload_n 0, 1) := by decide +kernel
theorem dX6_init_5 : decode cX6_init 5 = .ok (.bipush 40, 2) := by decide +kernel
theorem dX6_init_7 : decode cX6_init 7 = .ok (.newarray .int, 2) := by decide +kernel
theorem dX6_init_9 : decode cX6_init 9 = .ok (.putfield 9, 3) := by decide +kernel
theorem dX6_init_12 : decode cX6_init 12 = .ok (.aload_n 0, 1) := by decide +kernel
theorem dX6_init_13 : decode cX6_init 13 = .ok (.bipush 40, 2) := by decide +kernel
theorem dX6_init_15 : decode cX6_init 15 = .ok (.newarray .int, 2) := by decide +kernel
theorem dX6_init_17 : decode cX6_init 17 = .ok (.putfield 15, 3) := by decide +kernel
theorem dX6_init_20 : decode cX6_init 20 = .ok (.aload_n 0, 1) := by decide +kernel
theorem dX6_init_21 : decode cX6_init 21 = .ok (.invokevirtual 18, 3) := by decide +kernel
theorem dX6_init_24 : decode cX6_init 24 = .ok (.return_, 1) := by decide +kernel
theorem dX6_usePlain_0 : decode cX6_usePlain 0 = .ok (.getstatic 21, 3) := by decide +kernel
theorem dX6_usePlain_3 : decode cX6_usePlain 3 = .ok (.iconst 0, 1) := by decide +kernel
theorem dX6_usePlain_4 : decode cX6_usePlain 4 = .ok (.aload_n 0, 1) := by decide +kernel
theorem dX6_usePlain_5 : decode cX6_usePlain 5 = .ok (.getfield 9, 3) := by decide +kernel
theorem dX6_usePlain_8 : decode cX6_usePlain 8 = .ok (.iconst 0, 1) := by decide +kernel
theorem dX6_usePlain_9 : decode cX6_usePlain 9 = .ok (.getstatic 21, 3) := by decide +kernel
theorem dX6_usePlain_12 : decode cX6_usePlain 12 = .ok (.arraylength, 1) := by decide +kernel
theorem dX6_usePlain_13 : decode cX6_usePlain 13 = .ok (.invokestatic 24, 3) := by decide +kernel
theorem dX6_usePlain_16 : decode cX6_usePlain 16 = .ok (.aload_n 0, 1) := by decide +kernel
theorem dX6_usePlain_17 : decode cX6_usePlain 17 = .ok (.getstatic 21, 3) := by decide +kernel
theorem dX6_usePlain_20 : decode cX6_usePlain 20 = .ok (.arraylength, 1) := by decide +kernel
theorem dX6_usePlain_21 : decode cX6_usePlain 21 = .ok (.putfield 30, 3) := by decide +kernel
theorem dX6_usePlain_24 : decode cX6_usePlain 24 = .ok (.return_, 1) := by decide +kernel
set_option maxRecDepth 20000 in
theorem ggX6_read_X6_usePlain : GoodIn wsX6_read wsX6_usePlain := goodIn_r _ [9, 10, 11, 12, 13, 14, 15, 2, 64, 65, 66, 67, 68, 69] (by decide +kernel) (by decide +kernel)
set_option maxRecDepth 20000 in
theorem gX6_read_X6_usePlain : GoodIn wsX6_read (wsV RX6 18 RX6 yX6_usePlain wsX6_usePlain) := goodIn_app (goodIn_of _ (by decide +kernel)) ggX6_read_X6_usePlain
set_option maxRecDepth 20000 in
theorem ggX6_read_X6_step : GoodIn wsX6_read wsX6_step := goodIn_r _ [19, 4, 20, 21, 22, 23, 24, 25, 26, 27, 64, 65, 66, 67, 68, 69, 62, 63] (by decide +kernel) (by decide +kernel)
set_option maxRecDepth 20000 in
theorem gX6_read_X6_step : GoodIn wsX6_read (wsV RX6 43 RX6 yX6_step wsX6_step) := goodIn_app (goodIn_of _ (by decide +kernel)) ggX6_read_X6_step
set_option maxRecDepth 20000 in
theorem ggX6_read_X6_readComparison : GoodIn wsX6_read wsX6_readComparison := goodIn_r _ [31, 20, 32, 33, 34, 8, 16, 17, 18, 19, 4, 21, 22, 23, 24, 25, 26, 27, 35, 36, 37, 38, 2, 11, 39, 40, 41, 42, 43, 44, 45, 46, 47, 48, 49, 50, 51, 52, 53, 54, 55, 56, 57, 28, 29, 30, 58, 59, 60, 61, 3, 64, 65, 66, 67, 68, 69, 62, 63] (by decide +kernel) (by decide +kernel)
set_option maxRecDepth 20000 in
theorem gX6_read_X6_readComparison : GoodIn wsX6_read (wsV RX6 47 RX6 yX6_readComparison wsX6_readComparison) := goodIn_app (goodIn_of _ (by decide +kernel)) ggX6_read_X6_readComparison
theorem dX6_read_0 : decode cX6_read 0 = .ok (.aload_n 1, 1) := by decide +kernel
theorem dX6_read_1 : decode cX6_read 1 = .ok (.getfield 34, 3) := by decide +kernel
theorem dX6_read_4 : decode cX6_read 4 = .ok (.ifCond .ne 9, 3) := by decide +kernel
theorem dX6_read_7 : decode cX6_read 7 = .ok (.aload_n 0, 1) := by decide +kernel
theorem dX6_read_8 : decode cX6_read 8 = .ok (.invokevirtual 18, 3) := by decide +kernel
theorem dX6_read_11 : decode cX6_read 11 = .ok (.iconst (-1), 1) := by decide +kernel
theorem dX6_read_12 : decode cX6_read 12 = .ok (.ireturn, 1) := by decide +kernel
theorem dX6_read_13 : decode cX6_read 13 = .ok (.aload_n 0, 1) := by decide +kernel
theorem dX6_read_14 : decode cX6_read 14 = .ok (.iconst 0, 1) := by decide +kernel
theorem dX6_read_15 : decode cX6_read 15 = .ok (.putfield 30, 3) := by decide +kernel
theorem dX6_read_18 : decode cX6_read 18 = .ok (.aload_n 0, 1) := by decide +kernel
theorem dX6_read_19 : decode cX6_read 19 = .ok (.iconst (-1), 1) := by decide +kernel
theorem dX6_read_20 : decode cX6_read 20 = .ok (.putfield 37, 3) := by decide +kernel
theorem dX6_read_23 : decode cX6_read 23 = .ok (.aload_n 0, 1) := by decide +kernel
theorem dX6_read_24 : decode cX6_read 24 = .ok (.iconst (-1), 1) := by decide +kernel
theorem dX6_read_25 : decode cX6_read 25 = .ok (.putfield 40, 3) := by decide +kernel
theorem dX6_read_28 : decode cX6_read 28 = .ok (.aload_n 0, 1) := by decide +kernel
theorem dX6_read_29 : decode cX6_read 29 = .ok (.aload_n 1, 1) := by decide +kernel
theorem dX6_read_30 : decode cX6_read 30 = .ok (.invokevirtual 43, 3) := by decide +kernel
theorem dX6_read_33 : decode cX6_read 33 = .ok (.aload_n 0, 1) := by decide +kernel
theorem dX6_read_34 : decode cX6_read 34 = .ok (.aload_n 1, 1) := by decide +kernel
theorem dX6_read_35 : decode cX6_read 35 = .ok (.iconst 0, 1) := by decide +kernel
theorem dX6_read_36 : decode cX6_read 36 = .ok (.invokevirtual 47, 3) := by decide +kernel
theorem dX6_read_39 : decode cX6_read 39 = .ok (.aload_n 0, 1) := by decide +kernel
theorem dX6_read_40 : decode cX6_read 40 = .ok (.getfield 37, 3) := by decide +kernel
theorem dX6_read_43 : decode cX6_read 43 = .ok (.iconst (-1), 1) := by decide +kernel
theorem dX6_read_44 : decode cX6_read 44 = .ok (.if_icmp .ne 22, 3) := by decide +kernel
theorem dX6_read_47 : decode cX6_read 47 = .ok (.aload_n 0, 1) := by decide +kernel
theorem dX6_read_48 : decode cX6_read 48 = .ok (.getfield 40, 3) := by decide +kernel
theorem dX6_read_51 : decode cX6_read 51 = .ok (.aload_n 1, 1) := by decide +kernel
theorem dX6_read_52 : decode cX6_read 52 = .ok (.getfield 34, 3) := by decide +kernel
theorem dX6_read_55 : decode cX6_read 55 = .ok (.if_icmp .ge 11, 3) := by decide +kernel
theorem dX6_read_58 : decode cX6_read 58 = .ok (.aload_n 0, 1) := by decide +kernel
theorem dX6_read_59 : decode cX6_read 59 = .ok (.aload_n 0, 1) := by decide +kernel
theorem dX6_read_60 : decode cX6_read 60 = .ok (.getfield 40, 3) := by decide +kernel
theorem dX6_read_63 : decode cX6_read 63 = .ok (.putfield 37, 3) := by decide +kernel
theorem dX6_read_66 : decode cX6_read 66 = .ok (.aload_n 0, 1) := by decide +kernel
theorem dX6_read_67 : decode cX6_read 67 = .ok (.getfield 37, 3) := by decide +kernel
theorem dX6_read_70 : decode cX6_read 70 = .ok (.ireturn, 1) := by decide +kernel
set_option maxRecDepth 20000 in
theorem ggX6_readComparison_X6_readSum : GoodIn wsX6_readComparison wsX6_readSum := goodIn_r _ [28, 1, 29, 30, 31, 5, 6, 7, 8, 9, 10, 11, 12, 13, 14, 15, 16, 17, 18, 19, 20, 21, 22, 23, 0, 2, 3, 4, 24, 25, 26, 27, 32, 33, 34, 35, 36, 37, 38, 39, 40, 41, 42, 43, 44, 45, 46, 47, 48, 49, 50, 51, 52, 53, 54, 55, 56, 57, 58] (by decide +kernel) (by decide +kernel)
set_option maxRecDepth 20000 in
theorem gX6_readComparison_X6_readSum : GoodIn wsX6_readComparison (wsV RX6 51 RX6 yX6_readSum wsX6_readSum) := goodIn_app (goodIn_of _ (by decide +kernel)) ggX6_readComparison_X6_readSum
set_option maxRecDepth 20000 in
theorem ggX6_readComparison_X6_step : GoodIn wsX6_readComparison wsX6_step := goodIn_r _ [9, 10, 1, 11, 12, 13, 14, 15, 16, 17, 51, 52, 53, 54, 55, 56, 57, 58] (by decide +kernel) (by decide +kernel)
set_option maxRecDepth 20000 in
theorem gX6_readComparison_X6_step : GoodIn wsX6_readComparison (wsV RX6 43 RX6 yX6_step wsX6_step) := goodIn_app (goodIn_of _ (by decide +kernel)) ggX6_readComparison_X6_step
set_option maxRecDepth 20000 in
theorem ggX6_readComparison_X6_put : GoodIn wsX6_readComparison wsX6_put := goodIn_r _ [21, 22, 23, 51, 52, 53, 54, 55, 56] (by decide +kernel) (by decide +kernel)
set_option maxRecDepth 20000 in
theorem gX6_readComparison_X6_put : GoodIn wsX6_readComparison (wsV RX6 57 RX6 yX6_put wsX6_put) := goodIn_app (goodIn_of _ (by decide +kernel)) ggX6_readComparison_X6_put
theorem dX6_readComparison_0 : decode cX6_readComparison 0 = .ok (.aload_n 0, 1) := by decide +kernel
theorem dX6_readComparison_1 : decode cX6_readComparison 1 = .ok (.aload_n 1, 1) := by decide +kernel
theorem dX6_readComparison_2 : decode cX6_readComparison 2 = .ok (.iload_n 2, 1) := by decide +kernel
theorem dX6_readComparison_3 : decode cX6_readComparison 3 = .ok (.invokevirtual 51, 3) := by decide +kernel
theorem dX6_readComparison_6 : decode cX6_readComparison 6 = .ok (.aload_n 0, 1) := by decide +kernel
theorem dX6_readComparison_7 : decode cX6_readComparison 7 = .ok (.getfield 54, 3) := by decide +kernel
theorem dX6_readComparison_10 : decode cX6_readComparison 10 = .ok (.istore_n 3, 1) := by decide +kernel
theorem dX6_readComparison_11 : decode cX6_readComparison 11 = .ok (.iload_n 3, 1) := by decide +kernel
theorem dX6_readComparison_12 : decode cX6_readComparison 12 = .ok (.bipush 60, 2) := by decide +kernel
theorem dX6_readComparison_14 : decode cX6_readComparison 14 = .ok (.if_icmp .eq 15, 3) := by decide +kernel
theorem dX6_readComparison_17 : decode cX6_readComparison 17 = .ok (.iload_n 3, 1) := by decide +kernel
theorem dX6_readComparison_18 : decode cX6_readComparison 18 = .ok (.bipush 62, 2) := by decide +kernel
theorem dX6_readComparison_20 : decode cX6_readComparison 20 = .ok (.if_icmp .eq 9, 3) := by decide +kernel
theorem dX6_readComparison_23 : decode cX6_readComparison 23 = .ok (.iload_n 3, 1) := by decide +kernel
theorem dX6_readComparison_24 : decode cX6_readComparison 24 = .ok (.bipush 61, 2) := by decide +kernel
theorem dX6_readComparison_26 : decode cX6_readComparison 26 = .ok (.if_icmp .ne 42, 3) := by decide +kernel
theorem dX6_readComparison_29 : decode cX6_readComparison 29 = .ok (.aload_n 0, 1) := by decide +kernel
theorem dX6_readComparison_30 : decode cX6_readComparison 30 = .ok (.aload_n 1, 1) := by decide +kernel
theorem dX6_readComparison_31 : decode cX6_readComparison 31 = .ok (.invokevirtual 43, 3) := by decide +kernel
theorem dX6_readComparison_34 : decode cX6_readComparison 34 = .ok (.aload_n 0, 1) := by decide +kernel
theorem dX6_readComparison_35 : decode cX6_readComparison 35 = .ok (.aload_n 1, 1) := by decide +kernel
theorem dX6_readComparison_36 : decode cX6_readComparison 36 = .ok (.iload_n 2, 1) := by decide +kernel
theorem dX6_readComparison_37 : decode cX6_readComparison 37 = .ok (.invokevirtual 51, 3) := by decide +kernel
theorem dX6_readComparison_40 : decode cX6_readComparison 40 = .ok (.aload_n 0, 1) := by decide +kernel
theorem dX6_readComparison_41 : decode cX6_readComparison 41 = .ok (.iload_n 3, 1) := by decide +kernel
theorem dX6_readComparison_42 : decode cX6_readComparison 42 = .ok (.bipush 60, 2) := by decide +kernel
theorem dX6_readComparison_44 : decode cX6_readComparison 44 = .ok (.if_icmp .ne 8, 3) := by decide +kernel
theorem dX6_readComparison_47 : decode cX6_readComparison 47 = .ok (.bipush (-5), 2) := by decide +kernel
theorem dX6_readComparison_49 : decode cX6_readComparison 49 = .ok (.goto 16, 3) := by decide +kernel
theorem dX6_readComparison_52 : decode cX6_readComparison 52 = .ok (.iload_n 3, 1) := by decide +kernel
theorem dX6_readComparison_53 : decode cX6_readComparison 53 = .ok (.bipush 62, 2) := by decide +kernel
theorem dX6_readComparison_55 : decode cX6_readComparison 55 = .ok (.if_icmp .ne 8, 3) := by decide +kernel
theorem dX6_readComparison_58 : decode cX6_readComparison 58 = .ok (.bipush (-6), 2) := by decide +kernel
theorem dX6_readComparison_60 : decode cX6_readComparison 60 = .ok (.goto 5, 3) := by decide +kernel
theorem dX6_readComparison_63 : decode cX6_readComparison 63 = .ok (.bipush (-7), 2) := by decide +kernel
theorem dX6_readComparison_65 : decode cX6_readComparison 65 = .ok (.invokevirtual 57, 3) := by decide +kernel
theorem dX6_readComparison_68 : decode cX6_readComparison 68 = .ok (.return_, 1) := by decide +kernel
set_option maxRecDepth 20000 in
theorem ggX6_readSum_X6_readProduct : GoodIn wsX6_readSum wsX6_readProduct := goodIn_r _ [28, 1, 29, 30, 31, 5, 6, 7, 8, 9, 10, 11, 12, 13, 14, 15, 16, 17, 18, 19, 20, 21, 22, 23, 24, 25, 26, 27, 0, 2, 3, 4, 32, 33, 34, 35, 36, 37, 38, 39, 40, 41, 42, 43, 44, 45, 46, 47, 48, 49, 50, 51, 52, 53, 54, 55, 56, 57, 58] (by decide +kernel) (by decide +kernel)
set_option maxRecDepth 20000 in
theorem gX6_readSum_X6_readProduct : GoodIn wsX6_readSum (wsV RX6 61 RX6 yX6_readProduct wsX6_readProduct) := goodIn_app (goodIn_of _ (by decide +kernel)) ggX6_readSum_X6_readProduct
set_option maxRecDepth 20000 in
theorem ggX6_readSum_X6_step : GoodIn wsX6_readSum wsX6_step := goodIn_r _ [9, 10, 1, 11, 12, 13, 14, 15, 16, 17, 51, 52, 53, 54, 55, 56, 57, 58] (by decide +kernel) (by decide +kernel)
set_option maxRecDepth 20000 in
theorem gX6_readSum_X6_step : GoodIn wsX6_readSum (wsV RX6 43 RX6 yX6_step wsX6_step) := goodIn_app (goodIn_of _ (by decide +kernel)) ggX6_readSum_X6_step
set_option maxRecDepth 20000 in
theorem ggX6_readSum_X6_put : GoodIn wsX6_readSum wsX6_put := goodIn_r _ [21, 22, 23, 51, 52, 53, 54, 55, 56] (by decide +kernel) (by decide +kernel)
set_option maxRecDepth 20000 in
theorem gX6_readSum_X6_put : GoodIn wsX6_readSum (wsV RX6 57 RX6 yX6_put wsX6_put) := goodIn_app (goodIn_of _ (by decide +kernel)) ggX6_readSum_X6_put
theorem dX6_readSum_0 : decode cX6_readSum 0 = .ok (.aload_n 0, 1) := by decide +kernel
theorem dX6_readSum_1 : decode cX6_readSum 1 = .ok (.aload_n 1, 1) := by decide +kernel
theorem dX6_readSum_2 : decode cX6_readSum 2 = .ok (.iload_n 2, 1) := by decide +kernel
theorem dX6_readSum_3 : decode cX6_readSum 3 = .ok (.invokevirtual 61, 3) := by decide +kernel
theorem dX6_readSum_6 : decode cX6_readSum 6 = .ok (.iconst 0, 1) := by decide +kernel
theorem dX6_readSum_7 : decode cX6_readSum 7 = .ok (.istore_n 3, 1) := by decide +kernel
theorem dX6_readSum_8 : decode cX6_readSum 8 = .ok (.iload_n 3, 1) := by decide +kernel
theorem dX6_readSum_9 : decode cX6_readSum 9 = .ok (.bipush 40, 2) := by decide +kernel
theorem dX6_readSum_11 : decode cX6_readSum 11 = .ok (.if_icmp .ge 61, 3) := by decide +kernel
theorem dX6_readSum_14 : decode cX6_readSum 14 = .ok (.aload_n 0, 1) := by decide +kernel
theorem dX6_readSum_15 : decode cX6_readSum 15 = .ok (.getfield 54, 3) := by decide +kernel
theorem dX6_readSum_18 : decode cX6_readSum 18 = .ok (.bipush 43, 2) := by decide +kernel
theorem dX6_readSum_20 : decode cX6_readSum 20 = .ok (.if_icmp .eq 12, 3) := by decide +kernel
theorem dX6_readSum_23 : decode cX6_readSum 23 = .ok (.aload_n 0, 1) := by decide +kernel
theorem dX6_readSum_24 : decode cX6_readSum 24 = .ok (.getfield 54, 3) := by decide +kernel
theorem dX6_readSum_27 : decode cX6_readSum 27 = .ok (.bipush 45, 2) := by decide +kernel
theorem dX6_readSum_29 : decode cX6_readSum 29 = .ok (.if_icmp .ne 43, 3) := by decide +kernel
theorem dX6_readSum_32 : decode cX6_readSum 32 = .ok (.aload_n 0, 1) := by decide +kernel
theorem dX6_readSum_33 : decode cX6_readSum 33 = .ok (.getfield 54, 3) := by decide +kernel
theorem dX6_readSum_36 : decode cX6_readSum 36 = .ok (.istore 4, 2) := by decide +kernel
theorem dX6_readSum_38 : decode cX6_readSum 38 = .ok (.aload_n 0, 1) := by decide +kernel
theorem dX6_readSum_39 : decode cX6_readSum 39 = .ok (.aload_n 1, 1) := by decide +kernel
theorem dX6_readSum_40 : decode cX6_readSum 40 = .ok (.invokevirtual 43, 3) := by decide +kernel
theorem dX6_readSum_43 : decode cX6_readSum 43 = .ok (.aload_n 0, 1) := by decide +kernel
theorem dX6_readSum_44 : decode cX6_readSum 44 = .ok (.aload_n 1, 1) := by decide +kernel
theorem dX6_readSum_45 : decode cX6_readSum 45 = .ok (.iload_n 2, 1) := by decide +kernel
theorem dX6_readSum_46 : decode cX6_readSum 46 = .ok (.invokevirtual 61, 3) := by decide +kernel
theorem dX6_readSum_49 : decode cX6_readSum 49 = .ok (.aload_n 0, 1) := by decide +kernel
theorem dX6_readSum_50 : decode cX6_readSum 50 = .ok (.iload 4, 2) := by decide +kernel
theorem dX6_readSum_52 : decode cX6_readSum 52 = .ok (.bipush 43, 2) := by decide +kernel
theorem dX6_readSum_54 : decode cX6_readSum 54 = .ok (.if_icmp .ne 7, 3) := by decide +kernel
theorem dX6_readSum_57 : decode cX6_readSum 57 = .ok (.iconst (-1), 1) := by decide +kernel
theorem dX6_readSum_58 : decode cX6_readSum 58 = .ok (.goto 5, 3) := by decide +kernel
theorem dX6_readSum_61 : decode cX6_readSum 61 = .ok (.bipush (-2), 2) := by decide +kernel
theorem dX6_readSum_63 : decode cX6_readSum 63 = .ok (.invokevirtual 57, 3) := by decide +kernel
theorem dX6_readSum_66 : decode cX6_readSum 66 = .ok (.iinc 3 1, 3) := by decide +kernel
theorem dX6_readSum_69 : decode cX6_readSum 69 = .ok (.goto (-61), 3) := by decide +kernel
theorem dX6_readSum_72 : decode cX6_readSum 72 = .ok (.return_, 1) := by decide +kernel
set_option maxRecDepth 20000 in
theorem ggX6_readProduct_X6_readThing : GoodIn wsX6_readProduct wsX6_readThing := goodIn_r _ [32, 1, 6, 7, 8, 5, 9, 10, 11, 12, 13, 14, 15, 16, 17, 33, 34, 35, 36, 37, 38, 39, 18, 19, 20, 21, 22, 23, 40, 41, 42, 43, 44, 45, 46, 47, 48, 49, 50, 24, 25, 26, 27, 0, 2, 3, 4, 28, 29, 30, 31, 51, 52, 53, 54, 55, 56, 57, 58] (by decide +kernel) (by decide +kernel)
set_option maxRecDepth 20000 in
theorem gX6_readProduct_X6_readThing : GoodIn wsX6_readProduct (wsV RX6 64 RX6 yX6_readThing wsX6_readThing) := goodIn_app (goodIn_of _ (by decide +kernel)) ggX6_readProduct_X6_readThing
set_option maxRecDepth 20000 in
theorem ggX6_readProduct_X6_step : GoodIn wsX6_readProduct wsX6_step := goodIn_r _ [9, 10, 1, 11, 12, 13, 14, 15, 16, 17, 51, 52, 53, 54, 55, 56, 57, 58] (by decide +kernel) (by decide +kernel)
set_option maxRecDepth 20000 in
theorem gX6_readProduct_X6_step : GoodIn wsX6_readProduct (wsV RX6 43 RX6 yX6_step wsX6_step) := goodIn_app (goodIn_of _ (by decide +kernel)) ggX6_readProduct_X6_step
set_option maxRecDepth 20000 in
theorem ggX6_readProduct_X6_put : GoodIn wsX6_readProduct wsX6_put := goodIn_r _ [21, 22, 23, 51, 52, 53, 54, 55, 56] (by decide +kernel) (by decide +kernel)
set_option maxRecDepth 20000 in
theorem gX6_readProduct_X6_put : GoodIn wsX6_readProduct (wsV RX6 57 RX6 yX6_put wsX6_put) := goodIn_app (goodIn_of _ (by decide +kernel)) ggX6_readProduct_X6_put
theorem dX6_readProduct_0 : decode cX6_readProduct 0 = .ok (.aload_n 0, 1) := by decide +kernel
theorem dX6_readProduct_1 : decode cX6_readProduct 1 = .ok (.aload_n 1, 1) := by decide +kernel
theorem dX6_readProduct_2 : decode cX6_readProduct 2 = .ok (.iload_n 2, 1) := by decide +kernel
theorem dX6_readProduct_3 : decode cX6_readProduct 3 = .ok (.invokevirtual 64, 3) := by decide +kernel
theorem dX6_readProduct_6 : decode cX6_readProduct 6 = .ok (.iconst 0, 1) := by decide +kernel
theorem dX6_readProduct_7 : decode cX6_readProduct 7 = .ok (.istore_n 3, 1) := by decide +kernel
theorem dX6_readProduct_8 : decode cX6_readProduct 8 = .ok (.iload_n 3, 1) := by decide +kernel
theorem dX6_readProduct_9 : decode cX6_readProduct 9 = .ok (.bipush 40, 2) := by decide +kernel
theorem dX6_readProduct_11 : decode cX6_readProduct 11 = .ok (.if_icmp .ge 62, 3) := by decide +kernel
theorem dX6_readProduct_14 : decode cX6_readProduct 14 = .ok (.aload_n 0, 1) := by decide +kernel
theorem dX6_readProduct_15 : decode cX6_readProduct 15 = .ok (.getfield 54, 3) := by decide +kernel
theorem dX6_readProduct_18 : decode cX6_readProduct 18 = .ok (.bipush 42, 2) := by decide +kernel
theorem dX6_readProduct_20 : decode cX6_readProduct 20 = .ok (.if_icmp .eq 12, 3) := by decide +kernel
theorem dX6_readProduct_23 : decode cX6_readProduct 23 = .ok (.aload_n 0, 1) := by decide +kernel
theorem dX6_readProduct_24 : decode cX6_readProduct 24 = .ok (.getfield 54, 3) := by decide +kernel
theorem dX6_readProduct_27 : decode cX6_readProduct 27 = .ok (.bipush 47, 2) := by decide +kernel
theorem dX6_readProduct_29 : decode cX6_readProduct 29 = .ok (.if_icmp .ne 44, 3) := by decide +kernel
theorem dX6_readProduct_32 : decode cX6_readProduct 32 = .ok (.aload_n 0, 1) := by decide +kernel
theorem dX6_readProduct_33 : decode cX6_readProduct 33 = .ok (.getfield 54, 3) := by decide +kernel
theorem dX6_readProduct_36 : decode cX6_readProduct 36 = .ok (.istore 4, 2) := by decide +kernel
theorem dX6_readProduct_38 : decode cX6_readProduct 38 = .ok (.aload_n 0, 1) := by decide +kernel
theorem dX6_readProduct_39 : decode cX6_readProduct 39 = .ok (.aload_n 1, 1) := by decide +kernel
theorem dX6_readProduct_40 : decode cX6_readProduct 40 = .ok (.invokevirtual 43, 3) := by decide +kernel
theorem dX6_readProduct_43 : decode cX6_readProduct 43 = .ok (.aload_n 0, 1) := by decide +kernel
theorem dX6_readProduct_44 : decode cX6_readProduct 44 = .ok (.aload_n 1, 1) := by decide +kernel
theorem dX6_readProduct_45 : decode cX6_readProduct 45 = .ok (.iload_n 2, 1) := by decide +kernel
theorem dX6_readProduct_46 : decode cX6_readProduct 46 = .ok (.invokevirtual 64, 3) := by decide +kernel
theorem dX6_readProduct_49 : decode cX6_readProduct 49 = .ok (.aload_n 0, 1) := by decide +kernel
theorem dX6_readProduct_50 : decode cX6_readProduct 50 = .ok (.iload 4, 2) := by decide +kernel
theorem dX6_readProduct_52 : decode cX6_readProduct 52 = .ok (.bipush 42, 2) := by decide +kernel
theorem dX6_readProduct_54 : decode cX6_readProduct 54 = .ok (.if_icmp .ne 8, 3) := by decide +kernel
theorem dX6_readProduct_57 : decode cX6_readProduct 57 = .ok (.bipush (-3), 2) := by decide +kernel
theorem dX6_readProduct_59 : decode cX6_readProduct 59 = .ok (.goto 5, 3) := by decide +kernel
theorem dX6_readProduct_62 : decode cX6_readProduct 62 = .ok (.bipush (-4), 2) := by decide +kernel
theorem dX6_readProduct_64 : decode cX6_readProduct 64 = .ok (.invokevirtual 57, 3) := by decide +kernel
theorem dX6_readProduct_67 : decode cX6_readProduct 67 = .ok (.iinc 3 1, 3) := by decide +kernel
theorem dX6_readProduct_70 : decode cX6_readProduct 70 = .ok (.goto (-62), 3) := by decide +kernel
theorem dX6_readProduct_73 : decode cX6_readProduct 73 = .ok (.return_, 1) := by decide +kernel
set_option maxRecDepth 20000 in
theorem ggX6_readThing_X6_step : GoodIn wsX6_readThing wsX6_step := goodIn_r _ [6, 7, 1, 8, 9, 10, 11, 12, 13, 14, 51, 52, 53, 54, 55, 56, 57, 58] (by decide +kernel) (by decide +kernel)
set_option maxRecDepth 20000 in
theorem gX6_readThing_X6_step : GoodIn wsX6_readThing (wsV RX6 43 RX6 yX6_step wsX6_step) := goodIn_app (goodIn_of _ (by decide +kernel)) ggX6_readThing_X6_step
set_option maxRecDepth 20000 in
theorem ggX6_readThing_X11_isDigit : GoodIn wsX6_readThing wsX11_isDigit := goodIn_r _ [17] (by decide +kernel) (by decide +kernel)
set_option maxRecDepth 20000 in
theorem gX6_readThing_X11_isDigit_n67 : GoodIn wsX6_readThing (wsX11_isDigit) := ggX6_readThing_X11_isDigit
set_option maxRecDepth 20000 in
theorem ggX6_readThing_X6_readNumber : GoodIn wsX6_readThing wsX6_readNumber := goodIn_r _ [21, 1, 15, 16, 17, 2, 3, 4, 5, 6, 7, 8, 9, 10, 11, 12, 13, 14, 22, 23, 24, 25, 26, 27, 51, 52, 53, 54, 55, 56, 57, 58] (by decide +kernel) (by decide +kernel)
set_option maxRecDepth 20000 in
theorem gX6_readThing_X6_readNumber : GoodIn wsX6_readThing (wsV RX6 71 RX6 yX6_readNumber wsX6_readNumber) := goodIn_app (goodIn_of _ (by decide +kernel)) ggX6_readThing_X6_readNumber
set_option maxRecDepth 20000 in
theorem ggX6_readThing_X6_variable : GoodIn wsX6_readThing wsX6_variable := goodIn_r _ [30] (by decide +kernel) (by decide +kernel)
set_option maxRecDepth 20000 in
theorem gX6_readThing_X6_variable : GoodIn wsX6_readThing (va_wsS RX6 74 yX6_variable wsX6_variable) := goodIn_app (goodIn_of _ (by decide +kernel)) ggX6_readThing_X6_variable
set_option maxRecDepth 20000 in
theorem ggX6_readThing_X6_put : GoodIn wsX6_readThing wsX6_put := goodIn_r _ [25, 26, 27, 51, 52, 53, 54, 55, 56] (by decide +kernel) (by decide +kernel)
set_option maxRecDepth 20000 in
theorem gX6_readThing_X6_put : GoodIn wsX6_readThing (wsV RX6 57 RX6 yX6_put wsX6_put) := goodIn_app (goodIn_of _ (by decide +kernel)) ggX6_readThing_X6_put
set_option maxRecDepth 20000 in
theorem ggX6_readThing_X6_readComparison : GoodIn wsX6_readThing wsX6_readComparison := goodIn_r _ [39, 1, 40, 41, 42, 5, 2, 3, 4, 6, 7, 8, 9, 10, 11, 12, 13, 14, 22, 23, 24, 25, 26, 27, 43, 44, 45, 46, 47, 48, 49, 50, 0, 15, 16, 17, 18, 19, 20, 21, 28, 29, 30, 31, 32, 33, 34, 35, 36, 37, 38, 51, 52, 53, 54, 55, 56, 57, 58] (by decide +kernel) (by decide +kernel)
set_option maxRecDepth 20000 in
theorem gX6_readThing_X6_readComparison : GoodIn wsX6_readThing (wsV RX6 47 RX6 yX6_readComparison wsX6_readComparison) := goodIn_app (goodIn_of _ (by decide +kernel)) ggX6_readThing_X6_readComparison
set_option maxRecDepth 20000 in
theorem ggX6_readThing_X6_fail : GoodIn wsX6_readThing wsX6_fail := goodIn_r _ [37, 38, 7, 1, 51, 52, 53, 54, 55, 56] (by decide +kernel) (by decide +kernel)
set_option maxRecDepth 20000 in
theorem gX6_readThing_X6_fail : GoodIn wsX6_readThing (wsV RX6 78 RX6 yX6_fail wsX6_fail) := goodIn_app (goodIn_of _ (by decide +kernel)) ggX6_readThing_X6_fail
theorem dX6_readThing_0 : decode cX6_readThing 0 = .ok (.iconst 0, 1) := by decide +kernel
theorem dX6_readThing_1 : decode cX6_readThing 1 = .ok (.istore_n 3, 1) := by decide +kernel
theorem dX6_readThing_2 : decode cX6_readThing 2 = .ok (.iconst 0, 1) := by decide +kernel
theorem dX6_readThing_3 : decode cX6_readThing 3 = .ok (.istore 4, 2) := by decide +kernel
theorem dX6_readThing_5 : decode cX6_readThing 5 = .ok (.iload 4, 2) := by decide +kernel
theorem dX6_readThing_7 : decode cX6_readThing 7 = .ok (.bipush 40, 2) := by decide +kernel
theorem dX6_readThing_9 : decode cX6_readThing 9 = .ok (.if_icmp .ge 33, 3) := by decide +kernel
theorem dX6_readThing_12 : decode cX6_readThing 12 = .ok (.aload_n 0, 1) := by decide +kernel
theorem dX6_readThing_13 : decode cX6_readThing 13 = .ok (.getfield 54, 3) := by decide +kernel
theorem dX6_readThing_16 : decode cX6_readThing 16 = .ok (.bipush 45, 2) := by decide +kernel
theorem dX6_readThing_18 : decode cX6_readThing 18 = .ok (.if_icmp .ne 24, 3) := by decide +kernel
theorem dX6_readThing_21 : decode cX6_readThing 21 = .ok (.aload_n 0, 1) := by decide +kernel
theorem dX6_readThing_22 : decode cX6_readThing 22 = .ok (.aload_n 1, 1) := by decide +kernel
theorem dX6_readThing_23 : decode cX6_readThing 23 = .ok (.invokevirtual 43, 3) := by decide +kernel
theorem dX6_readThing_26 : decode cX6_readThing 26 = .ok (.iload_n 3, 1) := by decide +kernel
theorem dX6_readThing_27 : decode cX6_readThing 27 = .ok (.ifCond .ne 7, 3) := by decide +kernel
theorem dX6_readThing_30 : decode cX6_readThing 30 = .ok (.iconst 1, 1) := by decide +kernel
theorem dX6_readThing_31 : decode cX6_readThing 31 = .ok (.goto 4, 3) := by decide +kernel
theorem dX6_readThing_34 : decode cX6_readThing 34 = .ok (.iconst 0, 1) := by decide +kernel
theorem dX6_readThing_35 : decode cX6_readThing 35 = .ok (.istore_n 3, 1) := by decide +kernel
theorem dX6_readThing_36 : decode cX6_readThing 36 = .ok (.iinc 4 1, 3) := by decide +kernel
theorem dX6_readThing_39 : decode cX6_readThing 39 = .ok (.goto (-34), 3) := by decide +kernel
theorem dX6_readThing_42 : decode cX6_readThing 42 = .ok (.aload_n 0, 1) := by decide +kernel
theorem dX6_readThing_43 : decode cX6_readThing 43 = .ok (.getfield 54, 3) := by decide +kernel
theorem dX6_readThing_46 : decode cX6_readThing 46 = .ok (.invokestatic 67, 3) := by decide +kernel
theorem dX6_readThing_49 : decode cX6_readThing 49 = .ok (.ifCond .eq 11, 3) := by decide +kernel
theorem dX6_readThing_52 : decode cX6_readThing 52 = .ok (.aload_n 0, 1) := by decide +kernel
theorem dX6_readThing_53 : decode cX6_readThing 53 = .ok (.aload_n 1, 1) := by decide +kernel
theorem dX6_readThing_54 : decode cX6_readThing 54 = .ok (.invokevirtual 71, 3) := by decide +kernel
theorem dX6_readThing_57 : decode cX6_readThing 57 = .ok (.goto 89, 3) := by decide +kernel
theorem dX6_readThing_60 : decode cX6_readThing 60 = .ok (.aload_n 0, 1) := by decide +kernel
theorem dX6_readThing_61 : decode cX6_readThing 61 = .ok (.getfield 54, 3) := by decide +kernel
theorem dX6_readThing_64 : decode cX6_readThing 64 = .ok (.invokestatic 74, 3) := by decide +kernel
theorem dX6_readThing_67 : decode cX6_readThing 67 = .ok (.bipush (-9), 2) := by decide +kernel
theorem dX6_readThing_69 : decode cX6_readThing 69 = .ok (.if_icmp .eq 22, 3) := by decide +kernel
theorem dX6_readThing_72 : decode cX6_readThing 72 = .ok (.aload_n 0, 1) := by decide +kernel
theorem dX6_readThing_73 : decode cX6_readThing 73 = .ok (.aload_n 0, 1) := by decide +kernel
theorem dX6_readThing_74 : decode cX6_readThing 74 = .ok (.getfield 54, 3) := by decide +kernel
theorem dX6_readThing_77 : decode cX6_readThing 77 = .ok (.invokestatic 74, 3) := by decide +kernel
theorem dX6_readThing_80 : decode cX6_readThing 80 = .ok (.invokevirtual 57, 3) := by decide +kernel
theorem dX6_readThing_83 : decode cX6_readThing 83 = .ok (.aload_n 0, 1) := by decide +kernel
theorem dX6_readThing_84 : decode cX6_readThing 84 = .ok (.aload_n 1, 1) := by decide +kernel
theorem dX6_readThing_85 : decode cX6_readThing 85 = .ok (.invokevirtual 43, 3) := by decide +kernel
theorem dX6_readThing_88 : decode cX6_readThing 88 = .ok (.goto 58, 3) := by decide +kernel
theorem dX6_readThing_91 : decode cX6_readThing 91 = .ok (.aload_n 0, 1) := by decide +kernel
theorem dX6_readThing_92 : decode cX6_readThing 92 = .ok (.getfield 54, 3) := by decide +kernel
theorem dX6_readThing_95 : decode cX6_readThing 95 = .ok (.bipush 40, 2) := by decide +kernel
theorem dX6_readThing_97 : decode cX6_readThing 97 = .ok (.if_icmp .ne 45, 3) := by decide +kernel
theorem dX6_readThing_100 : decode cX6_readThing 100 = .ok (.iload_n 2, 1) := by decide +kernel
theorem dX6_readThing_101 : decode cX6_readThing 101 = .ok (.iconst 4, 1) := by decide +kernel
theorem dX6_readThing_102 : decode cX6_readThing 102 = .ok (.if_icmp .ge 40, 3) := by decide +kernel
theorem dX6_readThing_105 : decode cX6_readThing 105 = .ok (.aload_n 0, 1) := by decide +kernel
theorem dX6_readThing_106 : decode cX6_readThing 106 = .ok (.aload_n 1, 1) := by decide +kernel
theorem dX6_readThing_107 : decode cX6_readThing 107 = .ok (.invokevirtual 43, 3) := by decide +kernel
theorem dX6_readThing_110 : decode cX6_readThing 110 = .ok (.aload_n 0, 1) := by decide +kernel
theorem dX6_readThing_111 : decode cX6_readThing 111 = .ok (.aload_n 1, 1) := by decide +kernel
theorem dX6_readThing_112 : decode cX6_readThing 112 = .ok (.iload_n 2, 1) := by decide +kernel
theorem dX6_readThing_113 : decode cX6_readThing 113 = .ok (.iconst 1, 1) := by decide +kernel
theorem dX6_readThing_114 : decode cX6_readThing 114 = .ok (.iadd, 1) := by decide +kernel
theorem dX6_readThing_115 : decode cX6_readThing 115 = .ok (.invokevirtual 47, 3) := by decide +kernel
theorem dX6_readThing_118 : decode cX6_readThing 118 = .ok (.aload_n 0, 1) := by decide +kernel
theorem dX6_readThing_119 : decode cX6_readThing 119 = .ok (.getfield 54, 3) := by decide +kernel
theorem dX6_readThing_122 : decode cX6_readThing 122 = .ok (.bipush 41, 2) := by decide +kernel
theorem dX6_readThing_124 : decode cX6_readThing 124 = .ok (.if_icmp .ne 11, 3) := by decide +kernel
theorem dX6_readThing_127 : decode cX6_readThing 127 = .ok (.aload_n 0, 1) := by decide +kernel
theorem dX6_readThing_128 : decode cX6_readThing 128 = .ok (.aload_n 1, 1) := by decide +kernel
theorem dX6_readThing_129 : decode cX6_readThing 129 = .ok (.invokevirtual 43, 3) := by decide +kernel
theorem dX6_readThing_132 : decode cX6_readThing 132 = .ok (.goto 14, 3) := by decide +kernel
theorem dX6_readThing_135 : decode cX6_readThing 135 = .ok (.aload_n 0, 1) := by decide +kernel
theorem dX6_readThing_136 : decode cX6_readThing 136 = .ok (.invokevirtual 78, 3) := by decide +kernel
theorem dX6_readThing_139 : decode cX6_readThing 139 = .ok (.goto 7, 3) := by decide +kernel
theorem dX6_readThing_142 : decode cX6_readThing 142 = .ok (.aload_n 0, 1) := by decide +kernel
theorem dX6_readThing_143 : decode cX6_readThing 143 = .ok (.invokevirtual 78, 3) := by decide +kernel
theorem dX6_readThing_146 : decode cX6_readThing 146 = .ok (.iload_n 3, 1) := by decide +kernel
theorem dX6_readThing_147 : decode cX6_readThing 147 = .ok (.ifCond .eq 9, 3) := by decide +kernel
theorem dX6_readThing_150 : decode cX6_readThing 150 = .ok (.aload_n 0, 1) := by decide +kernel
theorem dX6_readThing_151 : decode cX6_readThing 151 = .ok (.bipush (-8), 2) := by decide +kernel
theorem dX6_readThing_153 : decode cX6_readThing 153 = .ok (.invokevirtual 57, 3) := by decide +kernel
theorem dX6_readThing_156 : decode cX6_readThing 156 = .ok (.return_, 1) := by decide +kernel
set_option maxRecDepth 20000 in
theorem ggX6_readNumber_X11_isDigit : GoodIn wsX6_readNumber wsX11_isDigit := goodIn_r _ [4] (by decide +kernel) (by decide +kernel)
set_option maxRecDepth 20000 in
theorem gX6_readNumber_X11_isDigit_n67 : GoodIn wsX6_readNumber (wsX11_isDigit) := ggX6_readNumber_X11_isDigit
set_option maxRecDepth 20000 in
theorem ggX6_readNumber_X6_step : GoodIn wsX6_readNumber wsX6_step := goodIn_r _ [9, 10, 1, 11, 12, 13, 14, 15, 16, 17, 24, 25, 26, 27, 28, 29, 30, 31] (by decide +kernel) (by decide +kernel)
set_option maxRecDepth 20000 in
theorem gX6_readNumber_X6_step : GoodIn wsX6_readNumber (wsV RX6 43 RX6 yX6_step wsX6_step) := goodIn_app (goodIn_of _ (by decide +kernel)) ggX6_readNumber_X6_step
set_option maxRecDepth 20000 in
theorem ggX6_readNumber_X6_put : GoodIn wsX6_readNumber wsX6_put := goodIn_r _ [21, 22, 23, 24, 25, 26, 27, 28, 29] (by decide +kernel) (by decide +kernel)
set_option maxRecDepth 20000 in
theorem gX6_readNumber_X6_put : GoodIn wsX6_readNumber (wsV RX6 57 RX6 yX6_put wsX6_put) := goodIn_app (goodIn_of _ (by decide +kernel)) ggX6_readNumber_X6_put
theorem dX6_readNumber_0 : decode cX6_readNumber 0 = .ok (.iconst 0, 1) := by decide +kernel
theorem dX6_readNumber_1 : decode cX6_readNumber 1 = .ok (.istore_n 2, 1) := by decide +kernel
theorem dX6_readNumber_2 : decode cX6_readNumber 2 = .ok (.iconst 0, 1) := by decide +kernel
theorem dX6_readNumber_3 : decode cX6_readNumber 3 = .ok (.istore_n 3, 1) := by decide +kernel
theorem dX6_readNumber_4 : decode cX6_readNumber 4 = .ok (.iload_n 3, 1) := by decide +kernel
theorem dX6_readNumber_5 : decode cX6_readNumber 5 = .ok (.iconst 3, 1) := by decide +kernel
theorem dX6_readNumber_6 : decode cX6_readNumber 6 = .ok (.if_icmp .ge 37, 3) := by decide +kernel
theorem dX6_readNumber_9 : decode cX6_readNumber 9 = .ok (.aload_n 0, 1) := by decide +kernel
theorem dX6_readNumber_10 : decode cX6_readNumber 10 = .ok (.getfield 54, 3) := by decide +kernel
theorem dX6_readNumber_13 : decode cX6_readNumber 13 = .ok (.invokestatic 67, 3) := by decide +kernel
theorem dX6_readNumber_16 : decode cX6_readNumber 16 = .ok (.ifCond .eq 27, 3) := by decide +kernel
theorem dX6_readNumber_19 : decode cX6_readNumber 19 = .ok (.bipush 10, 2) := by decide +kernel
theorem dX6_readNumber_21 : decode cX6_readNumber 21 = .ok (.iload_n 2, 1) := by decide +kernel
theorem dX6_readNumber_22 : decode cX6_readNumber 22 = .ok (.imul, 1) := by decide +kernel
theorem dX6_readNumber_23 : decode cX6_readNumber 23 = .ok (.aload_n 0, 1) := by decide +kernel
theorem dX6_readNumber_24 : decode cX6_readNumber 24 = .ok (.getfield 54, 3) := by decide +kernel
theorem dX6_readNumber_27 : decode cX6_readNumber 27 = .ok (.iadd, 1) := by decide +kernel
theorem dX6_readNumber_28 : decode cX6_readNumber 28 = .ok (.bipush 48, 2) := by decide +kernel
theorem dX6_readNumber_30 : decode cX6_readNumber 30 = .ok (.isub, 1) := by decide +kernel
theorem dX6_readNumber_31 : decode cX6_readNumber 31 = .ok (.istore_n 2, 1) := by decide +kernel
theorem dX6_readNumber_32 : decode cX6_readNumber 32 = .ok (.aload_n 0, 1) := by decide +kernel
theorem dX6_readNumber_33 : decode cX6_readNumber 33 = .ok (.aload_n 1, 1) := by decide +kernel
theorem dX6_readNumber_34 : decode cX6_readNumber 34 = .ok (.invokevirtual 43, 3) := by decide +kernel
theorem dX6_readNumber_37 : decode cX6_readNumber 37 = .ok (.iinc 3 1, 3) := by decide +kernel
theorem dX6_readNumber_40 : decode cX6_readNumber 40 = .ok (.goto (-36), 3) := by decide +kernel
theorem dX6_readNumber_43 : decode cX6_readNumber 43 = .ok (.aload_n 0, 1) := by decide +kernel
theorem dX6_readNumber_44 : decode cX6_readNumber 44 = .ok (.iload_n 2, 1) := by decide +kernel
theorem dX6_readNumber_45 : decode cX6_readNumber 45 = .ok (.invokevirtual 57, 3) := by decide +kernel
theorem dX6_readNumber_48 : decode cX6_readNumber 48 = .ok (.return_, 1) := by decide +kernel
theorem dX6_variable_0 : decode cX6_variable 0 = .ok (.iload_n 0, 1) := by decide +kernel
theorem dX6_variable_1 : decode cX6_variable 1 = .ok (.lookupswitch 59 #[(99, 51), (109, 55), (110, 43), (119, 47)], 43) := by decide +kernel
theorem dX6_variable_44 : decode cX6_variable 44 = .ok (.sipush 1000, 3) := by decide +kernel
theorem dX6_variable_47 : decode cX6_variable 47 = .ok (.ireturn, 1) := by decide +kernel
theorem dX6_variable_48 : decode cX6_variable 48 = .ok (.sipush 1001, 3) := by decide +kernel
theorem dX6_variable_51 : decode cX6_variable 51 = .ok (.ireturn, 1) := by decide +kernel
theorem dX6_variable_52 : decode cX6_variable 52 = .ok (.sipush 1002, 3) := by decide +kernel
theorem dX6_variable_55 : decode cX6_variable 55 = .ok (.ireturn, 1) := by decide +kernel
theorem dX6_variable_56 : decode cX6_variable 56 = .ok (.sipush 1003, 3) := by decide +kernel
theorem dX6_variable_59 : decode cX6_variable 59 = .ok (.ireturn, 1) := by decide +kernel
theorem dX6_variable_60 : decode cX6_variable 60 = .ok (.bipush (-9), 2) := by decide +kernel
theorem dX6_variable_62 : decode cX6_variable 62 = .ok (.ireturn, 1) := by decide +kernel
set_option maxRecDepth 20000 in
theorem ggX6_step_X10_signAt : GoodIn wsX6_step wsX10_signAt := goodIn_r _ [7, 8, 9, 16, 17] (by decide +kernel) (by decide +kernel)
set_option maxRecDepth 20000 in
theorem gX6_step_X10_signAt : GoodIn wsX6_step (wsV RX6 81 RX10 yX10_signAt wsX10_signAt) := goodIn_app (goodIn_of _ (by decide +kernel)) ggX6_step_X10_signAt
theorem dX6_step_0 : decode cX6_step 0 = .ok (.aload_n 0, 1) := by decide +kernel
theorem dX6_step_1 : decode cX6_step 1 = .ok (.dup, 1) := by decide +kernel
theorem dX6_step_2 : decode cX6_step 2 = .ok (.getfield 40, 3) := by decide +kernel
theorem dX6_step_5 : decode cX6_step 5 = .ok (.iconst 1, 1) := by decide +kernel
theorem dX6_step_6 : decode cX6_step 6 = .ok (.iadd, 1) := by decide +kernel
theorem dX6_step_7 : decode cX6_step 7 = .ok (.putfield 40, 3) := by decide +kernel
theorem dX6_step_10 : decode cX6_step 10 = .ok (.aload_n 0, 1) := by decide +kernel
theorem dX6_step_11 : decode cX6_step 11 = .ok (.aload_n 1, 1) := by decide +kernel
theorem dX6_step_12 : decode cX6_step 12 = .ok (.aload_n 0, 1) := by decide +kernel
theorem dX6_step_13 : decode cX6_step 13 = .ok (.getfield 40, 3) := by decide +kernel
theorem dX6_step_16 : decode cX6_step 16 = .ok (.bipush 40, 2) := by decide +kernel
theorem dX6_step_18 : decode cX6_step 18 = .ok (.invokevirtual 81, 3) := by decide +kernel
theorem dX6_step_21 : decode cX6_step 21 = .ok (.putfield 54, 3) := by decide +kernel
theorem dX6_step_24 : decode cX6_step 24 = .ok (.return_, 1) := by decide +kernel
theorem dX6_fail_0 : decode cX6_fail 0 = .ok (.aload_n 0, 1) := by decide +kernel
theorem dX6_fail_1 : decode cX6_fail 1 = .ok (.getfield 37, 3) := by decide +kernel
theorem dX6_fail_4 : decode cX6_fail 4 = .ok (.iconst (-1), 1) := by decide +kernel
theorem dX6_fail_5 : decode cX6_fail 5 = .ok (.if_icmp .ne 11, 3) := by decide +kernel
theorem dX6_fail_8 : decode cX6_fail 8 = .ok (.aload_n 0, 1) := by decide +kernel
theorem dX6_fail_9 : decode cX6_fail 9 = .ok (.aload_n 0, 1) := by decide +kernel
theorem dX6_fail_10 : decode cX6_fail 10 = .ok (.getfield 40, 3) := by decide +kernel
theorem dX6_fail_13 : decode cX6_fail 13 = .ok (.putfield 37, 3) := by decide +kernel
theorem dX6_fail_16 : decode cX6_fail 16 = .ok (.aload_n 0, 1) := by decide +kernel
theorem dX6_fail_17 : decode cX6_fail 17 = .ok (.iconst (-1), 1) := by decide +kernel
theorem dX6_fail_18 : decode cX6_fail 18 = .ok (.putfield 54, 3) := by decide +kernel
theorem dX6_fail_21 : decode cX6_fail 21 = .ok (.return_, 1) := by decide +kernel
theorem dX6_put_0 : decode cX6_put 0 = .ok (.aload_n 0, 1) := by decide +kernel
theorem dX6_put_1 : decode cX6_put 1 = .ok (.getfield 30, 3) := by decide +kernel
theorem dX6_put_4 : decode cX6_put 4 = .ok (.bipush 40, 2) := by decide +kernel
theorem dX6_put_6 : decode cX6_put 6 = .ok (.if_icmp .ge 23, 3) := by decide +kernel
theorem dX6_put_9 : decode cX6_put 9 = .ok (.aload_n 0, 1) := by decide +kernel
theorem dX6_put_10 : decode cX6_put 10 = .ok (.getfield 9, 3) := by decide +kernel
theorem dX6_put_13 : decode cX6_put 13 = .ok (.aload_n 0, 1) := by decide +kernel
theorem dX6_put_14 : decode cX6_put 14 = .ok (.getfield 30, 3) := by decide +kernel
theorem dX6_put_17 : decode cX6_put 17 = .ok (.iload_n 1, 1) := by decide +kernel
theorem dX6_put_18 : decode cX6_put 18 = .ok (.iastore, 1) := by decide +kernel
theorem dX6_put_19 : decode cX6_put 19 = .ok (.aload_n 0, 1) := by decide +kernel
theorem dX6_put_20 : decode cX6_put 20 = .ok (.dup, 1) := by decide +kernel
theorem dX6_put_21 : decode cX6_put 21 = .ok (.getfield 30, 3) := by decide +kernel
theorem dX6_put_24 : decode cX6_put 24 = .ok (.iconst 1, 1) := by decide +kernel
theorem dX6_put_25 : decode cX6_put 25 = .ok (.iadd, 1) := by decide +kernel
theorem dX6_put_26 : decode cX6_put 26 = .ok (.putfield 30, 3) := by decide +kernel
theorem dX6_put_29 : decode cX6_put 29 = .ok (.return_, 1) := by decide +kernel
set_option maxRecDepth 20000 in
theorem ggX6_value_X6_operand : GoodIn wsX6_value wsX6_operand := goodIn_r _ [7] (by decide +kernel) (by decide +kernel)
set_option maxRecDepth 20000 in
theorem gX6_value_X6_operand : GoodIn wsX6_value (va_wsS RX6 85 yX6_operand wsX6_operand) := goodIn_app (goodIn_of _ (by decide +kernel)) ggX6_value_X6_operand
set_option maxRecDepth 20000 in
theorem ggX6_value_X6_joined : GoodIn wsX6_value wsX6_joined := goodIn_r _ [10] (by decide +kernel) (by decide +kernel)
set_option maxRecDepth 20000 in
theorem gX6_value_X6_joined : GoodIn wsX6_value (va_wsS RX6 89 yX6_joined wsX6_joined) := goodIn_app (goodIn_of _ (by decide +kernel)) ggX6_value_X6_joined
set_option maxRecDepth 20000 in
theorem ggX6_value_X11_clamp : GoodIn wsX6_value wsX11_clamp := goodIn_r _ [13, 14, 15, 16, 17, 18, 19, 20] (by decide +kernel) (by decide +kernel)
set_option maxRecDepth 20000 in
theorem gX6_value_X11_clamp_n93 : GoodIn wsX6_value (wsX11_clamp) := ggX6_value_X11_clamp
theorem dX6_value_0 : decode cX6_value 0 = .ok (.iconst 0, 1) := by decide +kernel
theorem dX6_value_1 : decode cX6_value 1 = .ok (.istore 5, 2) := by decide +kernel
theorem dX6_value_3 : decode cX6_value 3 = .ok (.iconst 0, 1) := by decide +kernel
theorem dX6_value_4 : decode cX6_value 4 = .ok (.istore 6, 2) := by decide +kernel
theorem dX6_value_6 : decode cX6_value 6 = .ok (.iload 6, 2) := by decide +kernel
theorem dX6_value_8 : decode cX6_value 8 = .ok (.aload_n 0, 1) := by decide +kernel
theorem dX6_value_9 : decode cX6_value 9 = .ok (.getfield 30, 3) := by decide +kernel
theorem dX6_value_12 : decode cX6_value 12 = .ok (.if_icmp .ge 126, 3) := by decide +kernel
theorem dX6_value_15 : decode cX6_value 15 = .ok (.aload_n 0, 1) := by decide +kernel
theorem dX6_value_16 : decode cX6_value 16 = .ok (.getfield 9, 3) := by decide +kernel
theorem dX6_value_19 : decode cX6_value 19 = .ok (.iload 6, 2) := by decide +kernel
theorem dX6_value_21 : decode cX6_value 21 = .ok (.iaload, 1) := by decide +kernel
theorem dX6_value_22 : decode cX6_value 22 = .ok (.istore 7, 2) := by decide +kernel
theorem dX6_value_24 : decode cX6_value 24 = .ok (.iload 7, 2) := by decide +kernel
theorem dX6_value_26 : decode cX6_value 26 = .ok (.ifCond .lt 33, 3) := by decide +kernel
theorem dX6_value_29 : decode cX6_value 29 = .ok (.iload 5, 2) := by decide +kernel
theorem dX6_value_31 : decode cX6_value 31 = .ok (.bipush 40, 2) := by decide +kernel
theorem dX6_value_33 : decode cX6_value 33 = .ok (.if_icmp .ge 26, 3) := by decide +kernel
theorem dX6_value_36 : decode cX6_value 36 = .ok (.aload_n 0, 1) := by decide +kernel
theorem dX6_value_37 : decode cX6_value 37 = .ok (.getfield 15, 3) := by decide +kernel
theorem dX6_value_40 : decode cX6_value 40 = .ok (.iload 5, 2) := by decide +kernel
theorem dX6_value_42 : decode cX6_value 42 = .ok (.iload 7, 2) := by decide +kernel
theorem dX6_value_44 : decode cX6_value 44 = .ok (.iload_n 1, 1) := by decide +kernel
theorem dX6_value_45 : decode cX6_value 45 = .ok (.iload_n 2, 1) := by decide +kernel
theorem dX6_value_46 : decode cX6_value 46 = .ok (.iload_n 3, 1) := by decide +kernel
theorem dX6_value_47 : decode cX6_value 47 = .ok (.iload 4, 2) := by decide +kernel
theorem dX6_value_49 : decode cX6_value 49 = .ok (.invokestatic 85, 3) := by decide +kernel
theorem dX6_value_52 : decode cX6_value 52 = .ok (.iastore, 1) := by decide +kernel
theorem dX6_value_53 : decode cX6_value 53 = .ok (.iinc 5 1, 3) := by decide +kernel
theorem dX6_value_56 : decode cX6_value 56 = .ok (.goto 76, 3) := by decide +kernel
theorem dX6_value_59 : decode cX6_value 59 = .ok (.iload 7, 2) := by decide +kernel
theorem dX6_value_61 : decode cX6_value 61 = .ok (.bipush (-8), 2) := by decide +kernel
theorem dX6_value_63 : decode cX6_value 63 = .ok (.if_icmp .ne 30, 3) := by decide +kernel
theorem dX6_value_66 : decode cX6_value 66 = .ok (.iload 5, 2) := by decide +kernel
theorem dX6_value_68 : decode cX6_value 68 = .ok (.ifCond .le 25, 3) := by decide +kernel
theorem dX6_value_71 : decode cX6_value 71 = .ok (.aload_n 0, 1) := by decide +kernel
theorem dX6_value_72 : decode cX6_value 72 = .ok (.getfield 15, 3) := by decide +kernel
theorem dX6_value_75 : decode cX6_value 75 = .ok (.iload 5, 2) := by decide +kernel
theorem dX6_value_77 : decode cX6_value 77 = .ok (.iconst 1, 1) := by decide +kernel
theorem dX6_value_78 : decode cX6_value 78 = .ok (.isub, 1) := by decide +kernel
theorem dX6_value_79 : decode cX6_value 79 = .ok (.aload_n 0, 1) := by decide +kernel
theorem dX6_value_80 : decode cX6_value 80 = .ok (.getfield 15, 3) := by decide +kernel
theorem dX6_value_83 : decode cX6_value 83 = .ok (.iload 5, 2) := by decide +kernel
theorem dX6_value_85 : decode cX6_value 85 = .ok (.iconst 1, 1) := by decide +kernel
theorem dX6_value_86 : decode cX6_value 86 = .ok (.isub, 1) := by decide +kernel
theorem dX6_value_87 : decode cX6_value 87 = .ok (.iaload, 1) := by decide +kernel
theorem dX6_value_88 : decode cX6_value 88 = .ok (.ineg, 1) := by decide +kernel
theorem dX6_value_89 : decode cX6_value 89 = .ok (.iastore, 1) := by decide +kernel
theorem dX6_value_90 : decode cX6_value 90 = .ok (.goto 42, 3) := by decide +kernel
theorem dX6_value_93 : decode cX6_value 93 = .ok (.iload 5, 2) := by decide +kernel
theorem dX6_value_95 : decode cX6_value 95 = .ok (.iconst 1, 1) := by decide +kernel
theorem dX6_value_96 : decode cX6_value 96 = .ok (.if_icmp .le 36, 3) := by decide +kernel
theorem dX6_value_99 : decode cX6_value 99 = .ok (.iinc 5 (-1), 3) := by decide +kernel
theorem dX6_value_102 : decode cX6_value 102 = .ok (.aload_n 0, 1) := by decide +kernel
theorem dX6_value_103 : decode cX6_value 103 = .ok (.getfield 15, 3) := by decide +kernel
theorem dX6_value_106 : decode cX6_value 106 = .ok (.iload 5, 2) := by decide +kernel
theorem dX6_value_108 : decode cX6_value 108 = .ok (.iconst 1, 1) := by decide +kernel
theorem dX6_value_109 : decode cX6_value 109 = .ok (.isub, 1) := by decide +kernel
theorem dX6_value_110 : decode cX6_value 110 = .ok (.iload 7, 2) := by decide +kernel
theorem dX6_value_112 : decode cX6_value 112 = .ok (.aload_n 0, 1) := by decide +kernel
theorem dX6_value_113 : decode cX6_value 113 = .ok (.getfield 15, 3) := by decide +kernel
theorem dX6_value_116 : decode cX6_value 116 = .ok (.iload 5, 2) := by decide +kernel
theorem dX6_value_118 : decode cX6_value 118 = .ok (.iconst 1, 1) := by decide +kernel
theorem dX6_value_119 : decode cX6_value 119 = .ok (.isub, 1) := by decide +kernel
theorem dX6_value_120 : decode cX6_value 120 = .ok (.iaload, 1) := by decide +kernel
theorem dX6_value_121 : decode cX6_value 121 = .ok (.aload_n 0, 1) := by decide +kernel
theorem dX6_value_122 : decode cX6_value 122 = .ok (.getfield 15, 3) := by decide +kernel
theorem dX6_value_125 : decode cX6_value 125 = .ok (.iload 5, 2) := by decide +kernel
theorem dX6_value_127 : decode cX6_value 127 = .ok (.iaload, 1) := by decide +kernel
theorem dX6_value_128 : decode cX6_value 128 = .ok (.invokestatic 89, 3) := by decide +kernel
theorem dX6_value_131 : decode cX6_value 131 = .ok (.iastore, 1) := by decide +kernel
theorem dX6_value_132 : decode cX6_value 132 = .ok (.iinc 6 1, 3) := by decide +kernel
theorem dX6_value_135 : decode cX6_value 135 = .ok (.goto (-129), 3) := by decide +kernel
theorem dX6_value_138 : decode cX6_value 138 = .ok (.aload_n 0, 1) := by decide +kernel
theorem dX6_value_139 : decode cX6_value 139 = .ok (.getfield 15, 3) := by decide +kernel
theorem dX6_value_142 : decode cX6_value 142 = .ok (.iconst 0, 1) := by decide +kernel
theorem dX6_value_143 : decode cX6_value 143 = .ok (.iaload, 1) := by decide +kernel
theorem dX6_value_144 : decode cX6_value 144 = .ok (.sipush 999, 3) := by decide +kernel
theorem dX6_value_147 : decode cX6_value 147 = .ok (.invokestatic 93, 3) := by decide +kernel
theorem dX6_value_150 : decode cX6_value 150 = .ok (.ireturn, 1) := by decide +kernel
theorem dX6_operand_0 : decode cX6_operand 0 = .ok (.iload_n 0, 1) := by decide +kernel
theorem dX6_operand_1 : decode cX6_operand 1 = .ok (.tableswitch 40 1000 1003 #[31, 33, 35, 37], 31) := by decide +kernel
theorem dX6_operand_32 : decode cX6_operand 32 = .ok (.iload_n 1, 1) := by decide +kernel
theorem dX6_operand_33 : decode cX6_operand 33 = .ok (.ireturn, 1) := by decide +kernel
theorem dX6_operand_34 : decode cX6_operand 34 = .ok (.iload_n 2, 1) := by decide +kernel
theorem dX6_operand_35 : decode cX6_operand 35 = .ok (.ireturn, 1) := by decide +kernel
theorem dX6_operand_36 : decode cX6_operand 36 = .ok (.iload_n 3, 1) := by decide +kernel
theorem dX6_operand_37 : decode cX6_operand 37 = .ok (.ireturn, 1) := by decide +kernel
theorem dX6_operand_38 : decode cX6_operand 38 = .ok (.iload 4, 2) := by decide +kernel
theorem dX6_operand_40 : decode cX6_operand 40 = .ok (.ireturn, 1) := by decide +kernel
theorem dX6_operand_41 : decode cX6_operand 41 = .ok (.iload_n 0, 1) := by decide +kernel
theorem dX6_operand_42 : decode cX6_operand 42 = .ok (.ireturn, 1) := by decide +kernel
theorem dX6_joined_0 : decode cX6_joined 0 = .ok (.iload_n 0, 1) := by decide +kernel
theorem dX6_joined_1 : decode cX6_joined 1 = .ok (.tableswitch 85 (-6) (-1) #[74, 63, 51, 47, 43, 39], 39) := by decide +kernel
theorem dX6_joined_40 : decode cX6_joined 40 = .ok (.iload_n 1, 1) := by decide +kernel
theorem dX6_joined_41 : decode cX6_joined 41 = .ok (.iload_n 2, 1) := by decide +kernel
theorem dX6_joined_42 : decode cX6_joined 42 = .ok (.iadd, 1) := by decide +kernel
theorem dX6_joined_43 : decode cX6_joined 43 = .ok (.ireturn, 1) := by decide +kernel
theorem dX6_joined_44 : decode cX6_joined 44 = .ok (.iload_n 1, 1) := by decide +kernel
theorem dX6_joined_45 : decode cX6_joined 45 = .ok (.iload_n 2, 1) := by decide +kernel
theorem dX6_joined_46 : decode cX6_joined 46 = .ok (.isub, 1) := by decide +kernel
theorem dX6_joined_47 : decode cX6_joined 47 = .ok (.ireturn, 1) := by decide +kernel
theorem dX6_joined_48 : decode cX6_joined 48 = .ok (.iload_n 1, 1) := by decide +kernel
theorem dX6_joined_49 : decode cX6_joined 49 = .ok (.iload_n 2, 1) := by decide +kernel
theorem dX6_joined_50 : decode cX6_joined 50 = .ok (.imul, 1) := by decide +kernel
theorem dX6_joined_51 : decode cX6_joined 51 = .ok (.ireturn, 1) := by decide +kernel
theorem dX6_joined_52 : decode cX6_joined 52 = .ok (.iload_n 2, 1) := by decide +kernel
theorem dX6_joined_53 : decode cX6_joined 53 = .ok (.ifCond .ne 7, 3) := by decide +kernel
theorem dX6_joined_56 : decode cX6_joined 56 = .ok (.iconst 0, 1) := by decide +kernel
theorem dX6_joined_57 : decode cX6_joined 57 = .ok (.goto 6, 3) := by decide +kernel
theorem dX6_joined_60 : decode cX6_joined 60 = .ok (.iload_n 1, 1) := by decide +kernel
theorem dX6_joined_61 : decode cX6_joined 61 = .ok (.iload_n 2, 1) := by decide +kernel
theorem dX6_joined_62 : decode cX6_joined 62 = .ok (.idiv, 1) := by decide +kernel
theorem dX6_joined_63 : decode cX6_joined 63 = .ok (.ireturn, 1) := by decide +kernel
theorem dX6_joined_64 : decode cX6_joined 64 = .ok (.iload_n 1, 1) := by decide +kernel
theorem dX6_joined_65 : decode cX6_joined 65 = .ok (.iload_n 2, 1) := by decide +kernel
theorem dX6_joined_66 : decode cX6_joined 66 = .ok (.if_icmp .ge 7, 3) := by decide +kernel
theorem dX6_joined_69 : decode cX6_joined 69 = .ok (.iconst 1, 1) := by decide +kernel
theorem dX6_joined_70 : decode cX6_joined 70 = .ok (.goto 4, 3) := by decide +kernel
theorem dX6_joined_73 : decode cX6_joined 73 = .ok (.iconst 0, 1) := by decide +kernel
theorem dX6_joined_74 : decode cX6_joined 74 = .ok (.ireturn, 1) := by decide +kernel
theorem dX6_joined_75 : decode cX6_joined 75 = .ok (.iload_n 1, 1) := by decide +kernel
theorem dX6_joined_76 : decode cX6_joined 76 = .ok (.iload_n 2, 1) := by decide +kernel
theorem dX6_joined_77 : decode cX6_joined 77 = .ok (.if_icmp .le 7, 3) := by decide +kernel
theorem dX6_joined_80 : decode cX6_joined 80 = .ok (.iconst 1, 1) := by decide +kernel
theorem dX6_joined_81 : decode cX6_joined 81 = .ok (.goto 4, 3) := by decide +kernel
theorem dX6_joined_84 : decode cX6_joined 84 = .ok (.iconst 0, 1) := by decide +kernel
theorem dX6_joined_85 : decode cX6_joined 85 = .ok (.ireturn, 1) := by decide +kernel
theorem dX6_joined_86 : decode cX6_joined 86 = .ok (.iload_n 1, 1) := by decide +kernel
theorem dX6_joined_87 : decode cX6_joined 87 = .ok (.iload_n 2, 1) := by decide +kernel
theorem dX6_joined_88 : decode cX6_joined 88 = .ok (.if_icmp .ne 7, 3) := by decide +kernel
theorem dX6_joined_91 : decode cX6_joined 91 = .ok (.iconst 1, 1) := by decide +kernel
theorem dX6_joined_92 : decode cX6_joined 92 = .ok (.goto 4, 3) := by decide +kernel
theorem dX6_joined_95 : decode cX6_joined 95 = .ok (.iconst 0, 1) := by decide +kernel
theorem dX6_joined_96 : decode cX6_joined 96 = .ok (.ireturn, 1) := by decide +kernel
theorem dX0_init_0 : decode cX0_init 0 = .ok (.aload_n 0, 1) := by decide +kernel
theorem dX0_init_1 : decode cX0_init 1 = .ok (.invokespecial 3, 3) := by decide +kernel
theorem dX0_init_4 : decode cX0_init 4 = .ok (.aload_n 0, 1) := by decide +kernel
theorem dX0_init_5 : decode cX0_init 5 = .ok (.bipush 12, 2) := by decide +kernel
theorem dX0_init_7 : decode cX0_init 7 = .ok (.newarray .long, 2) := by decide +kernel
theorem dX0_init_9 : decode cX0_init 9 = .ok (.putfield 9, 3) := by decide +kernel
theorem dX0_init_12 : decode cX0_init 12 = .ok (.aload_n 0, 1) := by decide +kernel
theorem dX0_init_13 : decode cX0_init 13 = .ok (.bipush 10, 2) := by decide +kernel
theorem dX0_init_15 : decode cX0_init 15 = .ok (.newarray .int, 2) := by decide +kernel
theorem dX0_init_17 : decode cX0_init 17 = .ok (.putfield 15, 3) := by decide +kernel
theorem dX0_init_20 : decode cX0_init 20 = .ok (.return_, 1) := by decide +kernel
theorem dX0_draw_0 : decode cX0_draw 0 = .ok (.aload_n 0, 1) := by decide +kernel
theorem dX0_draw_1 : decode cX0_draw 1 = .ok (.aload_n 0, 1) := by decide +kernel
theorem dX0_draw_2 : decode cX0_draw 2 = .ok (.getfield 19, 3) := by decide +kernel
theorem dX0_draw_5 : decode cX0_draw 5 = .ok (.ldc 23, 2) := by decide +kernel
theorem dX0_draw_7 : decode cX0_draw 7 = .ok (.imul, 1) := by decide +kernel
theorem dX0_draw_8 : decode cX0_draw 8 = .ok (.sipush 12345, 3) := by decide +kernel
theorem dX0_draw_11 : decode cX0_draw 11 = .ok (.iadd, 1) := by decide +kernel
theorem dX0_draw_12 : decode cX0_draw 12 = .ok (.putfield 19, 3) := by decide +kernel
theorem dX0_draw_15 : decode cX0_draw 15 = .ok (.iload_n 1, 1) := by decide +kernel
theorem dX0_draw_16 : decode cX0_draw 16 = .ok (.ifCond .le 15, 3) := by decide +kernel
theorem dX0_draw_19 : decode cX0_draw 19 = .ok (.aload_n 0, 1) := by decide +kernel
theorem dX0_draw_20 : decode cX0_draw 20 = .ok (.getfield 19, 3) := by decide +kernel
theorem dX0_draw_23 : decode cX0_draw 23 = .ok (.bipush 16, 2) := by decide +kernel
theorem dX0_draw_25 : decode cX0_draw 25 = .ok (.iushr, 1) := by decide +kernel
theorem dX0_draw_26 : decode cX0_draw 26 = .ok (.iload_n 1, 1) := by decide +kernel
theorem dX0_draw_27 : decode cX0_draw 27 = .ok (.irem, 1) := by decide +kernel
theorem dX0_draw_28 : decode cX0_draw 28 = .ok (.goto 4, 3) := by decide +kernel
theorem dX0_draw_31 : decode cX0_draw 31 = .ok (.iconst 0, 1) := by decide +kernel
theorem dX0_draw_32 : decode cX0_draw 32 = .ok (.ireturn, 1) := by decide +kernel
set_option maxRecDepth 20000 in
theorem ggX0_longRains_J7_fill_d0a16 : GoodIn wsX0_longRains wsJ7_fill_d0a16 := goodIn_r _ [10] (by decide +kernel) (by decide +kernel)
set_option maxRecDepth 20000 in
theorem gX0_longRains_J7_fill_d0a16 : GoodIn wsX0_longRains (va_wsS RX0 24 yJ7_fill_d0a16 wsJ7_fill_d0a16) := goodIn_app (goodIn_of _ (by decide +kernel)) ggX0_longRains_J7_fill_d0a16
theorem dX0_longRains_0 : decode cX0_longRains 0 = .ok (.aload_n 0, 1) := by decide +kernel
theorem dX0_longRains_1 : decode cX0_longRains 1 = .ok (.getfield 9, 3) := by decide +kernel
theorem dX0_longRains_4 : decode cX0_longRains 4 = .ok (.lconst 0, 1) := by decide +kernel
theorem dX0_longRains_5 : decode cX0_longRains 5 = .ok (.invokestatic 24, 3) := by decide +kernel
theorem dX0_longRains_8 : decode cX0_longRains 8 = .ok (.aload_n 0, 1) := by decide +kernel
theorem dX0_longRains_9 : decode cX0_longRains 9 = .ok (.getfield 9, 3) := by decide +kernel
theorem dX0_longRains_12 : decode cX0_longRains 12 = .ok (.iconst 0, 1) := by decide +kernel
theorem dX0_longRains_13 : decode cX0_longRains 13 = .ok (.lconst 1, 1) := by decide +kernel
theorem dX0_longRains_14 : decode cX0_longRains 14 = .ok (.lastore, 1) := by decide +kernel
theorem dX0_longRains_15 : decode cX0_longRains 15 = .ok (.lconst 0, 1) := by decide +kernel
theorem dX0_longRains_16 : decode cX0_longRains 16 = .ok (.lstore 4, 2) := by decide +kernel
theorem dX0_longRains_18 : decode cX0_longRains 18 = .ok (.iconst 0, 1) := by decide +kernel
theorem dX0_longRains_19 : decode cX0_longRains 19 = .ok (.istore 6, 2) := by decide +kernel
theorem dX0_longRains_21 : decode cX0_longRains 21 = .ok (.iload 6, 2) := by decide +kernel
theorem dX0_longRains_23 : decode cX0_longRains 23 = .ok (.iload_n 1, 1) := by decide +kernel
theorem dX0_longRains_24 : decode cX0_longRains 24 = .ok (.if_icmp .ge 134, 3) := by decide +kernel
theorem dX0_longRains_27 : decode cX0_longRains 27 = .ok (.lconst 0, 1) := by decide +kernel
theorem dX0_longRains_28 : decode cX0_longRains 28 = .ok (.lstore 7, 2) := by decide +kernel
theorem dX0_longRains_30 : decode cX0_longRains 30 = .ok (.iconst 0, 1) := by decide +kernel
theorem dX0_longRains_31 : decode cX0_longRains 31 = .ok (.istore 9, 2) := by decide +kernel
theorem dX0_longRains_33 : decode cX0_longRains 33 = .ok (.iload 9, 2) := by decide +kernel
theorem dX0_longRains_35 : decode cX0_longRains 35 = .ok (.iload_n 2, 1) := by decide +kernel
theorem dX0_longRains_36 : decode cX0_longRains 36 = .ok (.if_icmp .ge 28, 3) := by decide +kernel
theorem dX0_longRains_39 : decode cX0_longRains 39 = .ok (.iload 9, 2) := by decide +kernel
theorem dX0_longRains_41 : decode cX0_longRains 41 = .ok (.bipush 12, 2) := by decide +kernel
theorem dX0_longRains_43 : decode cX0_longRains 43 = .ok (.if_icmp .ge 21, 3) := by decide +kernel
theorem dX0_longRains_46 : decode cX0_longRains 46 = .ok (.lload 7, 2) := by decide +kernel
theorem dX0_longRains_48 : decode cX0_longRains 48 = .ok (.aload_n 0, 1) := by decide +kernel
theorem dX0_longRains_49 : decode cX0_longRains 49 = .ok (.getfield 9, 3) := by decide +kernel
theorem dX0_longRains_52 : decode cX0_longRains 52 = .ok (.iload 9, 2) := by decide +kernel
theorem dX0_longRains_54 : decode cX0_longRains 54 = .ok (.laload, 1) := by decide +kernel
theorem dX0_longRains_55 : decode cX0_longRains 55 = .ok (.ladd, 1) := by decide +kernel
theorem dX0_longRains_56 : decode cX0_longRains 56 = .ok (.lstore 7, 2) := by decide +kernel
theorem dX0_longRains_58 : decode cX0_longRains 58 = .ok (.iinc 9 1, 3) := by decide +kernel
theorem dX0_longRains_61 : decode cX0_longRains 61 = .ok (.goto (-28), 3) := by decide +kernel
theorem dX0_longRains_64 : decode cX0_longRains 64 = .ok (.lload 4, 2) := by decide +kernel
theorem dX0_longRains_66 : decode cX0_longRains 66 = .ok (.ldc2_w 30, 3) := by decide +kernel
theorem dX0_longRains_69 : decode cX0_longRains 69 = .ok (.lmul, 1) := by decide +kernel
theorem dX0_longRains_70 : decode cX0_longRains 70 = .ok (.lstore 4, 2) := by decide +kernel
theorem dX0_longRains_72 : decode cX0_longRains 72 = .ok (.iload_n 2, 1) := by decide +kernel
theorem dX0_longRains_73 : decode cX0_longRains 73 = .ok (.bipush 12, 2) := by decide +kernel
theorem dX0_longRains_75 : decode cX0_longRains 75 = .ok (.invokestatic 32, 3) := by decide +kernel
theorem dX0_longRains_78 : decode cX0_longRains 78 = .ok (.iconst 1, 1) := by decide +kernel
theorem dX0_longRains_79 : decode cX0_longRains 79 = .ok (.isub, 1) := by decide +kernel
theorem dX0_longRains_80 : decode cX0_longRains 80 = .ok (.istore 9, 2) := by decide +kernel
theorem dX0_longRains_82 : decode cX0_longRains 82 = .ok (.iload 9, 2) := by decide +kernel
theorem dX0_longRains_84 : decode cX0_longRains 84 = .ok (.ifCond .lt 54, 3) := by decide +kernel
theorem dX0_longRains_87 : decode cX0_longRains 87 = .ok (.iload 9, 2) := by decide +kernel
theorem dX0_longRains_89 : decode cX0_longRains 89 = .ok (.iload_n 2, 1) := by decide +kernel
theorem dX0_longRains_90 : decode cX0_longRains 90 = .ok (.iconst 1, 1) := by decide +kernel
theorem dX0_longRains_91 : decode cX0_longRains 91 = .ok (.isub, 1) := by decide +kernel
theorem dX0_longRains_92 : decode cX0_longRains 92 = .ok (.if_icmp .ne 21, 3) := by decide +kernel
theorem dX0_longRains_95 : decode cX0_longRains 95 = .ok (.lload 4, 2) := by decide +kernel
theorem dX0_longRains_97 : decode cX0_longRains 97 = .ok (.aload_n 0, 1) := by decide +kernel
theorem dX0_longRains_98 : decode cX0_longRains 98 = .ok (.getfield 9, 3) := by decide +kernel
theorem dX0_longRains_101 : decode cX0_longRains 101 = .ok (.iload 9, 2) := by decide +kernel
theorem dX0_longRains_103 : decode cX0_longRains 103 = .ok (.laload, 1) := by decide +kernel
theorem dX0_longRains_104 : decode cX0_longRains 104 = .ok (.iload_n 3, 1) := by decide +kernel
theorem dX0_longRains_105 : decode cX0_longRains 105 = .ok (.i2l, 1) := by decide +kernel
theorem dX0_longRains_106 : decode cX0_longRains 106 = .ok (.lmul, 1) := by decide +kernel
theorem dX0_longRains_107 : decode cX0_longRains 107 = .ok (.ladd, 1) := by decide +kernel
theorem dX0_longRains_108 : decode cX0_longRains 108 = .ok (.lstore 4, 2) := by decide +kernel
theorem dX0_longRains_110 : decode cX0_longRains 110 = .ok (.goto 22, 3) := by decide +kernel
theorem dX0_longRains_113 : decode cX0_longRains 113 = .ok (.aload_n 0, 1) := by decide +kernel
theorem dX0_longRains_114 : decode cX0_longRains 114 = .ok (.getfield 9, 3) := by decide +kernel
theorem dX0_longRains_117 : decode cX0_longRains 117 = .ok (.iload 9, 2) := by decide +kernel
theorem dX0_longRains_119 : decode cX0_longRains 119 = .ok (.iconst 1, 1) := by decide +kernel
theorem dX0_longRains_120 : decode cX0_longRains 120 = .ok (.iadd, 1) := by decide +kernel
theorem dX0_longRains_121 : decode cX0_longRains 121 = .ok (.aload_n 0, 1) := by decide +kernel
theorem dX0_longRains_122 : decode cX0_longRains 122 = .ok (.getfield 9, 3) := by decide +kernel
theorem dX0_longRains_125 : decode cX0_longRains 125 = .ok (.iload 9, 2) := by decide +kernel
theorem dX0_longRains_127 : decode cX0_longRains 127 = .ok (.laload, 1) := by decide +kernel
theorem dX0_longRains_128 : decode cX0_longRains 128 = .ok (.iload_n 3, 1) := by decide +kernel
theorem dX0_longRains_129 : decode cX0_longRains 129 = .ok (.i2l, 1) := by decide +kernel
theorem dX0_longRains_130 : decode cX0_longRains 130 = .ok (.lmul, 1) := by decide +kernel
theorem dX0_longRains_131 : decode cX0_longRains 131 = .ok (.lastore, 1) := by decide +kernel
theorem dX0_longRains_132 : decode cX0_longRains 132 = .ok (.iinc 9 (-1), 3) := by decide +kernel
theorem dX0_longRains_135 : decode cX0_longRains 135 = .ok (.goto (-53), 3) := by decide +kernel
theorem dX0_longRains_138 : decode cX0_longRains 138 = .ok (.aload_n 0, 1) := by decide +kernel
theorem dX0_longRains_139 : decode cX0_longRains 139 = .ok (.getfield 9, 3) := by decide +kernel
theorem dX0_longRains_142 : decode cX0_longRains 142 = .ok (.iconst 0, 1) := by decide +kernel
theorem dX0_longRains_143 : decode cX0_longRains 143 = .ok (.lload 7, 2) := by decide +kernel
theorem dX0_longRains_145 : decode cX0_longRains 145 = .ok (.bipush 10, 2) := by decide +kernel
theorem dX0_longRains_147 : decode cX0_longRains 147 = .ok (.iload_n 3, 1) := by decide +kernel
theorem dX0_longRains_148 : decode cX0_longRains 148 = .ok (.isub, 1) := by decide +kernel
theorem dX0_longRains_149 : decode cX0_longRains 149 = .ok (.i2l, 1) := by decide +kernel
theorem dX0_longRains_150 : decode cX0_longRains 150 = .ok (.lmul, 1) := by decide +kernel
theorem dX0_longRains_151 : decode cX0_longRains 151 = .ok (.lastore, 1) := by decide +kernel
theorem dX0_longRains_152 : decode cX0_longRains 152 = .ok (.iinc 6 1, 3) := by decide +kernel
theorem dX0_longRains_155 : decode cX0_longRains 155 = .ok (.goto (-134), 3) := by decide +kernel
theorem dX0_longRains_158 : decode cX0_longRains 158 = .ok (.lload 4, 2) := by decide +kernel
theorem dX0_longRains_160 : decode cX0_longRains 160 = .ok (.lreturn, 1) := by decide +kernel
set_option maxRecDepth 20000 in
theorem ggX0_weigh_X0_share : GoodIn wsX0_weigh wsX0_share := goodIn_r _ [9] (by decide +kernel) (by decide +kernel)
set_option maxRecDepth 20000 in
theorem gX0_weigh_X0_share : GoodIn wsX0_weigh (va_wsS RX0 38 yX0_share wsX0_share) := goodIn_app (goodIn_of _ (by decide +kernel)) ggX0_weigh_X0_share
theorem dX0_weigh_0 : decode cX0_weigh 0 = .ok (.iconst 0, 1) := by decide +kernel
theorem dX0_weigh_1 : decode cX0_weigh 1 = .ok (.istore_n 3, 1) := by decide +kernel
theorem dX0_weigh_2 : decode cX0_weigh 2 = .ok (.iload_n 3, 1) := by decide +kernel
theorem dX0_weigh_3 : decode cX0_weigh 3 = .ok (.bipush 9, 2) := by decide +kernel
theorem dX0_weigh_5 : decode cX0_weigh 5 = .ok (.if_icmp .gt 61, 3) := by decide +kernel
theorem dX0_weigh_8 : decode cX0_weigh 8 = .ok (.aload_n 0, 1) := by decide +kernel
theorem dX0_weigh_9 : decode cX0_weigh 9 = .ok (.getfield 15, 3) := by decide +kernel
theorem dX0_weigh_12 : decode cX0_weigh 12 = .ok (.iload_n 3, 1) := by decide +kernel
theorem dX0_weigh_13 : decode cX0_weigh 13 = .ok (.iconst 0, 1) := by decide +kernel
theorem dX0_weigh_14 : decode cX0_weigh 14 = .ok (.iload_n 3, 1) := by decide +kernel
theorem dX0_weigh_15 : decode cX0_weigh 15 = .ok (.iload_n 1, 1) := by decide +kernel
theorem dX0_weigh_16 : decode cX0_weigh 16 = .ok (.iload_n 2, 1) := by decide +kernel
theorem dX0_weigh_17 : decode cX0_weigh 17 = .ok (.invokestatic 38, 3) := by decide +kernel
theorem dX0_weigh_20 : decode cX0_weigh 20 = .ok (.iastore, 1) := by decide +kernel
theorem dX0_weigh_21 : decode cX0_weigh 21 = .ok (.iconst 1, 1) := by decide +kernel
theorem dX0_weigh_22 : decode cX0_weigh 22 = .ok (.istore 4, 2) := by decide +kernel
theorem dX0_weigh_24 : decode cX0_weigh 24 = .ok (.iload 4, 2) := by decide +kernel
theorem dX0_weigh_26 : decode cX0_weigh 26 = .ok (.bipush 9, 2) := by decide +kernel
theorem dX0_weigh_28 : decode cX0_weigh 28 = .ok (.if_icmp .gt 32, 3) := by decide +kernel
theorem dX0_weigh_31 : decode cX0_weigh 31 = .ok (.aload_n 0, 1) := by decide +kernel
theorem dX0_weigh_32 : decode cX0_weigh 32 = .ok (.getfield 15, 3) := by decide +kernel
theorem dX0_weigh_35 : decode cX0_weigh 35 = .ok (.iload_n 3, 1) := by decide +kernel
theorem dX0_weigh_36 : decode cX0_weigh 36 = .ok (.aload_n 0, 1) := by decide +kernel
theorem dX0_weigh_37 : decode cX0_weigh 37 = .ok (.getfield 15, 3) := by decide +kernel
theorem dX0_weigh_40 : decode cX0_weigh 40 = .ok (.iload_n 3, 1) := by decide +kernel
theorem dX0_weigh_41 : decode cX0_weigh 41 = .ok (.iaload, 1) := by decide +kernel
theorem dX0_weigh_42 : decode cX0_weigh 42 = .ok (.iload 4, 2) := by decide +kernel
theorem dX0_weigh_44 : decode cX0_weigh 44 = .ok (.iload_n 3, 1) := by decide +kernel
theorem dX0_weigh_45 : decode cX0_weigh 45 = .ok (.iload_n 1, 1) := by decide +kernel
theorem dX0_weigh_46 : decode cX0_weigh 46 = .ok (.iload_n 2, 1) := by decide +kernel
theorem dX0_weigh_47 : decode cX0_weigh 47 = .ok (.invokestatic 38, 3) := by decide +kernel
theorem dX0_weigh_50 : decode cX0_weigh 50 = .ok (.invokestatic 42, 3) := by decide +kernel
theorem dX0_weigh_53 : decode cX0_weigh 53 = .ok (.iastore, 1) := by decide +kernel
theorem dX0_weigh_54 : decode cX0_weigh 54 = .ok (.iinc 4 1, 3) := by decide +kernel
theorem dX0_weigh_57 : decode cX0_weigh 57 = .ok (.goto (-33), 3) := by decide +kernel
theorem dX0_weigh_60 : decode cX0_weigh 60 = .ok (.iinc 3 1, 3) := by decide +kernel
theorem dX0_weigh_63 : decode cX0_weigh 63 = .ok (.goto (-61), 3) := by decide +kernel
theorem dX0_weigh_66 : decode cX0_weigh 66 = .ok (.return_, 1) := by decide +kernel
set_option maxRecDepth 20000 in
theorem ggX0_atRest_X0_share : GoodIn wsX0_atRest wsX0_share := goodIn_r _ [5] (by decide +kernel) (by decide +kernel)
set_option maxRecDepth 20000 in
theorem gX0_atRest_X0_share : GoodIn wsX0_atRest (va_wsS RX0 38 yX0_share wsX0_share) := goodIn_app (goodIn_of _ (by decide +kernel)) ggX0_atRest_X0_share
theorem dX0_atRest_0 : decode cX0_atRest 0 = .ok (.iload_n 1, 1) := by decide +kernel
theorem dX0_atRest_1 : decode cX0_atRest 1 = .ok (.iload_n 2, 1) := by decide +kernel
theorem dX0_atRest_2 : decode cX0_atRest 2 = .ok (.iload_n 3, 1) := by decide +kernel
theorem dX0_atRest_3 : decode cX0_atRest 3 = .ok (.iload 4, 2) := by decide +kernel
theorem dX0_atRest_5 : decode cX0_atRest 5 = .ok (.invokestatic 38, 3) := by decide +kernel
theorem dX0_atRest_8 : decode cX0_atRest 8 = .ok (.aload_n 0, 1) := by decide +kernel
theorem dX0_atRest_9 : decode cX0_atRest 9 = .ok (.getfield 15, 3) := by decide +kernel
theorem dX0_atRest_12 : decode cX0_atRest 12 = .ok (.iload_n 2, 1) := by decide +kernel
theorem dX0_atRest_13 : decode cX0_atRest 13 = .ok (.iaload, 1) := by decide +kernel
theorem dX0_atRest_14 : decode cX0_atRest 14 = .ok (.if_icmp .ne 24, 3) := by decide +kernel
theorem dX0_atRest_17 : decode cX0_atRest 17 = .ok (.iload_n 2, 1) := by decide +kernel
theorem dX0_atRest_18 : decode cX0_atRest 18 = .ok (.iload_n 1, 1) := by decide +kernel
theorem dX0_atRest_19 : decode cX0_atRest 19 = .ok (.iload_n 3, 1) := by decide +kernel
theorem dX0_atRest_20 : decode cX0_atRest 20 = .ok (.iload 4, 2) := by decide +kernel
theorem dX0_atRest_22 : decode cX0_atRest 22 = .ok (.invokestatic 38, 3) := by decide +kernel
theorem dX0_atRest_25 : decode cX0_atRest 25 = .ok (.aload_n 0, 1) := by decide +kernel
theorem dX0_atRest_26 : decode cX0_atRest 26 = .ok (.getfield 15, 3) := by decide +kernel
theorem dX0_atRest_29 : decode cX0_atRest 29 = .ok (.iload_n 1, 1) := by decide +kernel
theorem dX0_atRest_30 : decode cX0_atRest 30 = .ok (.iaload, 1) := by decide +kernel
theorem dX0_atRest_31 : decode cX0_atRest 31 = .ok (.if_icmp .ne 7, 3) := by decide +kernel
theorem dX0_atRest_34 : decode cX0_atRest 34 = .ok (.iconst 1, 1) := by decide +kernel
theorem dX0_atRest_35 : decode cX0_atRest 35 = .ok (.goto 4, 3) := by decide +kernel
theorem dX0_atRest_38 : decode cX0_atRest 38 = .ok (.iconst 0, 1) := by decide +kernel
theorem dX0_atRest_39 : decode cX0_atRest 39 = .ok (.ireturn, 1) := by decide +kernel
theorem dX0_share_0 : decode cX0_share 0 = .ok (.iload_n 0, 1) := by decide +kernel
theorem dX0_share_1 : decode cX0_share 1 = .ok (.iload_n 1, 1) := by decide +kernel
theorem dX0_share_2 : decode cX0_share 2 = .ok (.iadd, 1) := by decide +kernel
theorem dX0_share_3 : decode cX0_share 3 = .ok (.istore 4, 2) := by decide +kernel
theorem dX0_share_5 : decode cX0_share 5 = .ok (.iload 4, 2) := by decide +kernel
theorem dX0_share_7 : decode cX0_share 7 = .ok (.ifCond .le 16, 3) := by decide +kernel
theorem dX0_share_10 : decode cX0_share 10 = .ok (.iload_n 2, 1) := by decide +kernel
theorem dX0_share_11 : decode cX0_share 11 = .ok (.iload_n 0, 1) := by decide +kernel
theorem dX0_share_12 : decode cX0_share 12 = .ok (.imul, 1) := by decide +kernel
theorem dX0_share_13 : decode cX0_share 13 = .ok (.iload 4, 2) := by decide +kernel
theorem dX0_share_15 : decode cX0_share 15 = .ok (.idiv, 1) := by decide +kernel
theorem dX0_share_16 : decode cX0_share 16 = .ok (.iload_n 3, 1) := by decide +kernel
theorem dX0_share_17 : decode cX0_share 17 = .ok (.iload_n 0, 1) := by decide +kernel
theorem dX0_share_18 : decode cX0_share 18 = .ok (.imul, 1) := by decide +kernel
theorem dX0_share_19 : decode cX0_share 19 = .ok (.isub, 1) := by decide +kernel
theorem dX0_share_20 : decode cX0_share 20 = .ok (.goto 4, 3) := by decide +kernel
theorem dX0_share_23 : decode cX0_share 23 = .ok (.iconst 0, 1) := by decide +kernel
theorem dX0_share_24 : decode cX0_share 24 = .ok (.ireturn, 1) := by decide +kernel
theorem dX7_init_0 : decode cX7_init 0 = .ok (.aload_n 0, 1) := by decide +kernel
theorem dX7_init_1 : decode cX7_init 1 = .ok (.invokespecial 3, 3) := by decide +kernel
theorem dX7_init_4 : decode cX7_init 4 = .ok (.aload_n 0, 1) := by decide +kernel
theorem dX7_init_5 : decode cX7_init 5 = .ok (.bipush 8, 2) := by decide +kernel
theorem dX7_init_7 : decode cX7_init 7 = .ok (.newarray .int, 2) := by decide +kernel
theorem dX7_init_9 : decode cX7_init 9 = .ok (.putfield 9, 3) := by decide +kernel
theorem dX7_init_12 : decode cX7_init 12 = .ok (.aload_n 0, 1) := by decide +kernel
theorem dX7_init_13 : decode cX7_init 13 = .ok (.bipush 12, 2) := by decide +kernel
theorem dX7_init_15 : decode cX7_init 15 = .ok (.newarray .int, 2) := by decide +kernel
theorem dX7_init_17 : decode cX7_init 17 = .ok (.putfield 15, 3) := by decide +kernel
theorem dX7_init_20 : decode cX7_init 20 = .ok (.aload_n 0, 1) := by decide +kernel
theorem dX7_init_21 : decode cX7_init 21 = .ok (.bipush 12, 2) := by decide +kernel
theorem dX7_init_23 : decode cX7_init 23 = .ok (.newarray .int, 2) := by decide +kernel
theorem dX7_init_25 : decode cX7_init 25 = .ok (.putfield 18, 3) := by decide +kernel
theorem dX7_init_28 : decode cX7_init 28 = .ok (.aload_n 0, 1) := by decide +kernel
theorem dX7_init_29 : decode cX7_init 29 = .ok (.aload_n 1, 1) := by decide +kernel
theorem dX7_init_30 : decode cX7_init 30 = .ok (.putfield 21, 3) := by decide +kernel
theorem dX7_init_33 : decode cX7_init 33 = .ok (.return_, 1) := by decide +kernel
set_option maxRecDepth 20000 in
theorem ggX7_find_X6_value : GoodIn wsX7_find wsX6_value := goodIn_r _ [11, 12, 13, 14, 15, 16, 10, 17, 18, 19, 20, 21, 22, 23, 24, 25, 26, 27, 28, 29, 30, 64, 65, 66, 67, 68, 69] (by decide +kernel) (by decide +kernel)
set_option maxRecDepth 20000 in
theorem gX7_find_X6_value : GoodIn wsX7_find (wsV RX7 31 RX6 yX6_value wsX6_value) := goodIn_app (goodIn_of _ (by decide +kernel)) ggX7_find_X6_value
set_option maxRecDepth 20000 in
theorem ggX7_find_X7_lasts : GoodIn wsX7_find wsX7_lasts := goodIn_r _ [35, 36, 1, 37, 2, 38, 39, 29, 26, 30, 40, 22, 41, 28, 70, 71, 72, 73, 74, 75, 76, 77, 78, 54, 55, 56, 57, 58, 59, 60, 61, 62, 63] (by decide +kernel) (by decide +kernel)
set_option maxRecDepth 20000 in
theorem gX7_find_X7_lasts : GoodIn wsX7_find (wsV RX7 37 RX7 yX7_lasts wsX7_lasts) := goodIn_app (goodIn_of _ (by decide +kernel)) ggX7_find_X7_lasts
set_option maxRecDepth 20000 in
theorem ggX7_find_J6_bitCount_0f7a4 : GoodIn wsX7_find wsJ6_bitCount_0f7a4 := goodIn_r _ [45, 46, 47, 48] (by decide +kernel) (by decide +kernel)
set_option maxRecDepth 20000 in
theorem gX7_find_J6_bitCount_0f7a4 : GoodIn wsX7_find (va_wsS RX7 41 yJ6_bitCount_0f7a4 wsJ6_bitCount_0f7a4) := goodIn_app (goodIn_of _ (by decide +kernel)) ggX7_find_J6_bitCount_0f7a4
set_option maxRecDepth 20000 in
theorem ggX7_find_X7_firstBreak : GoodIn wsX7_find wsX7_firstBreak := goodIn_r _ [52, 2, 3, 5, 4, 53, 25, 26, 27, 54, 55, 56, 57, 58, 59, 60, 61, 62, 63] (by decide +kernel) (by decide +kernel)
set_option maxRecDepth 20000 in
theorem gX7_find_X7_firstBreak : GoodIn wsX7_find (wsV RX7 47 RX7 yX7_firstBreak wsX7_firstBreak) := goodIn_app (goodIn_of _ (by decide +kernel)) ggX7_find_X7_firstBreak
theorem dX7_find_0 : decode cX7_find 0 = .ok (.iconst 0, 1) := by decide +kernel
theorem dX7_find_1 : decode cX7_find 1 = .ok (.istore 5, 2) := by decide +kernel
theorem dX7_find_3 : decode cX7_find 3 = .ok (.iload 5, 2) := by decide +kernel
theorem dX7_find_5 : decode cX7_find 5 = .ok (.bipush 8, 2) := by decide +kernel
theorem dX7_find_7 : decode cX7_find 7 = .ok (.if_icmp .ge 32, 3) := by decide +kernel
theorem dX7_find_10 : decode cX7_find 10 = .ok (.aload_n 0, 1) := by decide +kernel
theorem dX7_find_11 : decode cX7_find 11 = .ok (.getfield 9, 3) := by decide +kernel
theorem dX7_find_14 : decode cX7_find 14 = .ok (.iload 5, 2) := by decide +kernel
theorem dX7_find_16 : decode cX7_find 16 = .ok (.aload_n 2, 1) := by decide +kernel
theorem dX7_find_17 : decode cX7_find 17 = .ok (.iload 5, 2) := by decide +kernel
theorem dX7_find_19 : decode cX7_find 19 = .ok (.iload_n 3, 1) := by decide +kernel
theorem dX7_find_20 : decode cX7_find 20 = .ok (.aload_n 0, 1) := by decide +kernel
theorem dX7_find_21 : decode cX7_find 21 = .ok (.getfield 21, 3) := by decide +kernel
theorem dX7_find_24 : decode cX7_find 24 = .ok (.getfield 25, 3) := by decide +kernel
theorem dX7_find_27 : decode cX7_find 27 = .ok (.iload 4, 2) := by decide +kernel
theorem dX7_find_29 : decode cX7_find 29 = .ok (.invokevirtual 31, 3) := by decide +kernel
theorem dX7_find_32 : decode cX7_find 32 = .ok (.iastore, 1) := by decide +kernel
theorem dX7_find_33 : decode cX7_find 33 = .ok (.iinc 5 1, 3) := by decide +kernel
theorem dX7_find_36 : decode cX7_find 36 = .ok (.goto (-33), 3) := by decide +kernel
theorem dX7_find_39 : decode cX7_find 39 = .ok (.iconst 0, 1) := by decide +kernel
theorem dX7_find_40 : decode cX7_find 40 = .ok (.istore 5, 2) := by decide +kernel
theorem dX7_find_42 : decode cX7_find 42 = .ok (.iload 5, 2) := by decide +kernel
theorem dX7_find_44 : decode cX7_find 44 = .ok (.aload_n 0, 1) := by decide +kernel
theorem dX7_find_45 : decode cX7_find 45 = .ok (.getfield 21, 3) := by decide +kernel
theorem dX7_find_48 : decode cX7_find 48 = .ok (.getfield 25, 3) := by decide +kernel
theorem dX7_find_51 : decode cX7_find 51 = .ok (.if_icmp .ge 39, 3) := by decide +kernel
theorem dX7_find_54 : decode cX7_find 54 = .ok (.aload_n 0, 1) := by decide +kernel
theorem dX7_find_55 : decode cX7_find 55 = .ok (.getfield 15, 3) := by decide +kernel
theorem dX7_find_58 : decode cX7_find 58 = .ok (.iload 5, 2) := by decide +kernel
theorem dX7_find_60 : decode cX7_find 60 = .ok (.aload_n 0, 1) := by decide +kernel
theorem dX7_find_61 : decode cX7_find 61 = .ok (.aload_n 1, 1) := by decide +kernel
theorem dX7_find_62 : decode cX7_find 62 = .ok (.iload 5, 2) := by decide +kernel
theorem dX7_find_64 : decode cX7_find 64 = .ok (.iconst 0, 1) := by decide +kernel
theorem dX7_find_65 : decode cX7_find 65 = .ok (.invokevirtual 37, 3) := by decide +kernel
theorem dX7_find_68 : decode cX7_find 68 = .ok (.iastore, 1) := by decide +kernel
theorem dX7_find_69 : decode cX7_find 69 = .ok (.aload_n 0, 1) := by decide +kernel
theorem dX7_find_70 : decode cX7_find 70 = .ok (.getfield 18, 3) := by decide +kernel
theorem dX7_find_73 : decode cX7_find 73 = .ok (.iload 5, 2) := by decide +kernel
theorem dX7_find_75 : decode cX7_find 75 = .ok (.aload_n 0, 1) := by decide +kernel
theorem dX7_find_76 : decode cX7_find 76 = .ok (.aload_n 1, 1) := by decide +kernel
theorem dX7_find_77 : decode cX7_find 77 = .ok (.iload 5, 2) := by decide +kernel
theorem dX7_find_79 : decode cX7_find 79 = .ok (.iconst 1, 1) := by decide +kernel
theorem dX7_find_80 : decode cX7_find 80 = .ok (.invokevirtual 37, 3) := by decide +kernel
theorem dX7_find_83 : decode cX7_find 83 = .ok (.iastore, 1) := by decide +kernel
theorem dX7_find_84 : decode cX7_find 84 = .ok (.iinc 5 1, 3) := by decide +kernel
theorem dX7_find_87 : decode cX7_find 87 = .ok (.goto (-45), 3) := by decide +kernel
theorem dX7_find_90 : decode cX7_find 90 = .ok (.iconst 0, 1) := by decide +kernel
theorem dX7_find_91 : decode cX7_find 91 = .ok (.istore 5, 2) := by decide +kernel
theorem dX7_find_93 : decode cX7_find 93 = .ok (.iconst 0, 1) := by decide +kernel
theorem dX7_find_94 : decode cX7_find 94 = .ok (.istore 6, 2) := by decide +kernel
theorem dX7_find_96 : decode cX7_find 96 = .ok (.iload 6, 2) := by decide +kernel
theorem dX7_find_98 : decode cX7_find 98 = .ok (.iconst 1, 1) := by decide +kernel
theorem dX7_find_99 : decode cX7_find 99 = .ok (.aload_n 0, 1) := by decide +kernel
theorem dX7_find_100 : decode cX7_find 100 = .ok (.getfield 21, 3) := by decide +kernel
theorem dX7_find_103 : decode cX7_find 103 = .ok (.getfield 25, 3) := by decide +kernel
theorem dX7_find_106 : decode cX7_find 106 = .ok (.ishl, 1) := by decide +kernel
theorem dX7_find_107 : decode cX7_find 107 = .ok (.if_icmp .ge 44, 3) := by decide +kernel
theorem dX7_find_110 : decode cX7_find 110 = .ok (.iload 6, 2) := by decide +kernel
theorem dX7_find_112 : decode cX7_find 112 = .ok (.invokestatic 41, 3) := by decide +kernel
theorem dX7_find_115 : decode cX7_find 115 = .ok (.iload 4, 2) := by decide +kernel
theorem dX7_find_117 : decode cX7_find 117 = .ok (.if_icmp .ne 28, 3) := by decide +kernel
theorem dX7_find_120 : decode cX7_find 120 = .ok (.aload_n 0, 1) := by decide +kernel
theorem dX7_find_121 : decode cX7_find 121 = .ok (.iload 6, 2) := by decide +kernel
theorem dX7_find_123 : decode cX7_find 123 = .ok (.invokevirtual 47, 3) := by decide +kernel
theorem dX7_find_126 : decode cX7_find 126 = .ok (.istore 7, 2) := by decide +kernel
theorem dX7_find_128 : decode cX7_find 128 = .ok (.iload 7, 2) := by decide +kernel
theorem dX7_find_130 : decode cX7_find 130 = .ok (.iload 5, 2) := by decide +kernel
theorem dX7_find_132 : decode cX7_find 132 = .ok (.if_icmp .le 13, 3) := by decide +kernel
theorem dX7_find_135 : decode cX7_find 135 = .ok (.iload 7, 2) := by decide +kernel
theorem dX7_find_137 : decode cX7_find 137 = .ok (.istore 5, 2) := by decide +kernel
theorem dX7_find_139 : decode cX7_find 139 = .ok (.aload_n 0, 1) := by decide +kernel
theorem dX7_find_140 : decode cX7_find 140 = .ok (.iload 6, 2) := by decide +kernel
theorem dX7_find_142 : decode cX7_find 142 = .ok (.putfield 50, 3) := by decide +kernel
theorem dX7_find_145 : decode cX7_find 145 = .ok (.iinc 6 1, 3) := by decide +kernel
theorem dX7_find_148 : decode cX7_find 148 = .ok (.goto (-52), 3) := by decide +kernel
theorem dX7_find_151 : decode cX7_find 151 = .ok (.iload 5, 2) := by decide +kernel
theorem dX7_find_153 : decode cX7_find 153 = .ok (.ireturn, 1) := by decide +kernel
set_option maxRecDepth 20000 in
theorem ggX7_lasts_X11_wash : GoodIn wsX7_lasts wsX11_wash := goodIn_r _ [12, 13, 7, 8, 9] (by decide +kernel) (by decide +kernel)
set_option maxRecDepth 20000 in
theorem gX7_lasts_X11_wash_n64 : GoodIn wsX7_lasts (wsX11_wash) := ggX7_lasts_X11_wash
theorem dX7_lasts_0 : decode cX7_lasts 0 = .ok (.aload_n 1, 1) := by decide +kernel
theorem dX7_lasts_1 : decode cX7_lasts 1 = .ok (.getfield 53, 3) := by decide +kernel
theorem dX7_lasts_4 : decode cX7_lasts 4 = .ok (.iload_n 2, 1) := by decide +kernel
theorem dX7_lasts_5 : decode cX7_lasts 5 = .ok (.iaload, 1) := by decide +kernel
theorem dX7_lasts_6 : decode cX7_lasts 6 = .ok (.istore 4, 2) := by decide +kernel
theorem dX7_lasts_8 : decode cX7_lasts 8 = .ok (.iconst 1, 1) := by decide +kernel
theorem dX7_lasts_9 : decode cX7_lasts 9 = .ok (.istore 5, 2) := by decide +kernel
theorem dX7_lasts_11 : decode cX7_lasts 11 = .ok (.iload 5, 2) := by decide +kernel
theorem dX7_lasts_13 : decode cX7_lasts 13 = .ok (.bipush 99, 2) := by decide +kernel
theorem dX7_lasts_15 : decode cX7_lasts 15 = .ok (.if_icmp .gt 75, 3) := by decide +kernel
theorem dX7_lasts_18 : decode cX7_lasts 18 = .ok (.aload_n 0, 1) := by decide +kernel
theorem dX7_lasts_19 : decode cX7_lasts 19 = .ok (.getfield 9, 3) := by decide +kernel
theorem dX7_lasts_22 : decode cX7_lasts 22 = .ok (.aload_n 1, 1) := by decide +kernel
theorem dX7_lasts_23 : decode cX7_lasts 23 = .ok (.getfield 58, 3) := by decide +kernel
theorem dX7_lasts_26 : decode cX7_lasts 26 = .ok (.iload 5, 2) := by decide +kernel
theorem dX7_lasts_28 : decode cX7_lasts 28 = .ok (.iadd, 1) := by decide +kernel
theorem dX7_lasts_29 : decode cX7_lasts 29 = .ok (.iconst 1, 1) := by decide +kernel
theorem dX7_lasts_30 : decode cX7_lasts 30 = .ok (.isub, 1) := by decide +kernel
theorem dX7_lasts_31 : decode cX7_lasts 31 = .ok (.bipush 8, 2) := by decide +kernel
theorem dX7_lasts_33 : decode cX7_lasts 33 = .ok (.irem, 1) := by decide +kernel
theorem dX7_lasts_34 : decode cX7_lasts 34 = .ok (.iaload, 1) := by decide +kernel
theorem dX7_lasts_35 : decode cX7_lasts 35 = .ok (.istore 6, 2) := by decide +kernel
theorem dX7_lasts_37 : decode cX7_lasts 37 = .ok (.iload 6, 2) := by decide +kernel
theorem dX7_lasts_39 : decode cX7_lasts 39 = .ok (.bipush 10, 2) := by decide +kernel
theorem dX7_lasts_41 : decode cX7_lasts 41 = .ok (.aload_n 0, 1) := by decide +kernel
theorem dX7_lasts_42 : decode cX7_lasts 42 = .ok (.getfield 21, 3) := by decide +kernel
theorem dX7_lasts_45 : decode cX7_lasts 45 = .ok (.getfield 61, 3) := by decide +kernel
theorem dX7_lasts_48 : decode cX7_lasts 48 = .ok (.iload_n 2, 1) := by decide +kernel
theorem dX7_lasts_49 : decode cX7_lasts 49 = .ok (.iaload, 1) := by decide +kernel
theorem dX7_lasts_50 : decode cX7_lasts 50 = .ok (.imul, 1) := by decide +kernel
theorem dX7_lasts_51 : decode cX7_lasts 51 = .ok (.iload 4, 2) := by decide +kernel
theorem dX7_lasts_53 : decode cX7_lasts 53 = .ok (.iadd, 1) := by decide +kernel
theorem dX7_lasts_54 : decode cX7_lasts 54 = .ok (.if_icmp .le 6, 3) := by decide +kernel
theorem dX7_lasts_57 : decode cX7_lasts 57 = .ok (.iload 5, 2) := by decide +kernel
theorem dX7_lasts_59 : decode cX7_lasts 59 = .ok (.ireturn, 1) := by decide +kernel
theorem dX7_lasts_60 : decode cX7_lasts 60 = .ok (.iconst 0, 1) := by decide +kernel
theorem dX7_lasts_61 : decode cX7_lasts 61 = .ok (.iload 4, 2) := by decide +kernel
theorem dX7_lasts_63 : decode cX7_lasts 63 = .ok (.iload 6, 2) := by decide +kernel
theorem dX7_lasts_65 : decode cX7_lasts 65 = .ok (.aload_n 0, 1) := by decide +kernel
theorem dX7_lasts_66 : decode cX7_lasts 66 = .ok (.getfield 21, 3) := by decide +kernel
theorem dX7_lasts_69 : decode cX7_lasts 69 = .ok (.getfield 61, 3) := by decide +kernel
theorem dX7_lasts_72 : decode cX7_lasts 72 = .ok (.iload_n 2, 1) := by decide +kernel
theorem dX7_lasts_73 : decode cX7_lasts 73 = .ok (.iaload, 1) := by decide +kernel
theorem dX7_lasts_74 : decode cX7_lasts 74 = .ok (.iload_n 3, 1) := by decide +kernel
theorem dX7_lasts_75 : decode cX7_lasts 75 = .ok (.invokestatic 64, 3) := by decide +kernel
theorem dX7_lasts_78 : decode cX7_lasts 78 = .ok (.isub, 1) := by decide +kernel
theorem dX7_lasts_79 : decode cX7_lasts 79 = .ok (.invokestatic 68, 3) := by decide +kernel
theorem dX7_lasts_82 : decode cX7_lasts 82 = .ok (.istore 4, 2) := by decide +kernel
theorem dX7_lasts_84 : decode cX7_lasts 84 = .ok (.iinc 5 1, 3) := by decide +kernel
theorem dX7_lasts_87 : decode cX7_lasts 87 = .ok (.goto (-76), 3) := by decide +kernel
theorem dX7_lasts_90 : decode cX7_lasts 90 = .ok (.bipush 100, 2) := by decide +kernel
theorem dX7_lasts_92 : decode cX7_lasts 92 = .ok (.ireturn, 1) := by decide +kernel
theorem dX7_firstBreak_0 : decode cX7_firstBreak 0 = .ok (.bipush 100, 2) := by decide +kernel
theorem dX7_firstBreak_2 : decode cX7_firstBreak 2 = .ok (.istore_n 2, 1) := by decide +kernel
theorem dX7_firstBreak_3 : decode cX7_firstBreak 3 = .ok (.iconst 0, 1) := by decide +kernel
theorem dX7_firstBreak_4 : decode cX7_firstBreak 4 = .ok (.istore_n 3, 1) := by decide +kernel
theorem dX7_firstBreak_5 : decode cX7_firstBreak 5 = .ok (.iload_n 3, 1) := by decide +kernel
theorem dX7_firstBreak_6 : decode cX7_firstBreak 6 = .ok (.aload_n 0, 1) := by decide +kernel
theorem dX7_firstBreak_7 : decode cX7_firstBreak 7 = .ok (.getfield 21, 3) := by decide +kernel
theorem dX7_firstBreak_10 : decode cX7_firstBreak 10 = .ok (.getfield 25, 3) := by decide +kernel
theorem dX7_firstBreak_13 : decode cX7_firstBreak 13 = .ok (.if_icmp .ge 37, 3) := by decide +kernel
theorem dX7_firstBreak_16 : decode cX7_firstBreak 16 = .ok (.iload_n 2, 1) := by decide +kernel
theorem dX7_firstBreak_17 : decode cX7_firstBreak 17 = .ok (.iload_n 1, 1) := by decide +kernel
theorem dX7_firstBreak_18 : decode cX7_firstBreak 18 = .ok (.iload_n 3, 1) := by decide +kernel
theorem dX7_firstBreak_19 : decode cX7_firstBreak 19 = .ok (.ishr, 1) := by decide +kernel
theorem dX7_firstBreak_20 : decode cX7_firstBreak 20 = .ok (.iconst 1, 1) := by decide +kernel
theorem dX7_firstBreak_21 : decode cX7_firstBreak 21 = .ok (.iand, 1) := by decide +kernel
theorem dX7_firstBreak_22 : decode cX7_firstBreak 22 = .ok (.ifCond .eq 12, 3) := by decide +kernel
theorem dX7_firstBreak_25 : decode cX7_firstBreak 25 = .ok (.aload_n 0, 1) := by decide +kernel
theorem dX7_firstBreak_26 : decode cX7_firstBreak 26 = .ok (.getfield 18, 3) := by decide +kernel
theorem dX7_firstBreak_29 : decode cX7_firstBreak 29 = .ok (.iload_n 3, 1) := by decide +kernel
theorem dX7_firstBreak_30 : decode cX7_firstBreak 30 = .ok (.iaload, 1) := by decide +kernel
theorem dX7_firstBreak_31 : decode cX7_firstBreak 31 = .ok (.goto 9, 3) := by decide +kernel
theorem dX7_firstBreak_34 : decode cX7_firstBreak 34 = .ok (.aload_n 0, 1) := by decide +kernel
theorem dX7_firstBreak_35 : decode cX7_firstBreak 35 = .ok (.getfield 15, 3) := by decide +kernel
theorem dX7_firstBreak_38 : decode cX7_firstBreak 38 = .ok (.iload_n 3, 1) := by decide +kernel
theorem dX7_firstBreak_39 : decode cX7_firstBreak 39 = .ok (.iaload, 1) := by decide +kernel
theorem dX7_firstBreak_40 : decode cX7_firstBreak 40 = .ok (.invokestatic 74, 3) := by decide +kernel
theorem dX7_firstBreak_43 : decode cX7_firstBreak 43 = .ok (.istore_n 2, 1) := by decide +kernel
theorem dX7_firstBreak_44 : decode cX7_firstBreak 44 = .ok (.iinc 3 1, 3) := by decide +kernel
theorem dX7_firstBreak_47 : decode cX7_firstBreak 47 = .ok (.goto (-42), 3) := by decide +kernel
theorem dX7_firstBreak_50 : decode cX7_firstBreak 50 = .ok (.iload_n 2, 1) := by decide +kernel
theorem dX7_firstBreak_51 : decode cX7_firstBreak 51 = .ok (.ireturn, 1) := by decide +kernel
