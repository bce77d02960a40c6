theorem dX11_buildAndTell_10 : decode cX11_buildAndTell 10 = .ok (.iconst (-1), 1) := by decide +kernel
theorem dX11_buildAndTell_11 : decode cX11_buildAndTell 11 = .ok (.ireturn, 1) := by decide +kernel
theorem dX11_buildAndTell_12 : decode cX11_buildAndTell 12 = .ok (.aload_n 0, 1) := by decide +kernel
theorem dX11_buildAndTell_13 : decode cX11_buildAndTell 13 = .ok (.getfield 56, 3) := by decide +kernel
theorem dX11_buildAndTell_16 : decode cX11_buildAndTell 16 = .ok (.invokevirtual 333, 3) := by decide +kernel
theorem dX11_buildAndTell_19 : decode cX11_buildAndTell 19 = .ok (.istore_n 2, 1) := by decide +kernel
theorem dX11_buildAndTell_20 : decode cX11_buildAndTell 20 = .ok (.aload_n 0, 1) := by decide +kernel
theorem dX11_buildAndTell_21 : decode cX11_buildAndTell 21 = .ok (.getfield 56, 3) := by decide +kernel
theorem dX11_buildAndTell_24 : decode cX11_buildAndTell 24 = .ok (.invokevirtual 330, 3) := by decide +kernel
theorem dX11_buildAndTell_27 : decode cX11_buildAndTell 27 = .ok (.istore_n 3, 1) := by decide +kernel
theorem dX11_buildAndTell_28 : decode cX11_buildAndTell 28 = .ok (.aload_n 0, 1) := by decide +kernel
theorem dX11_buildAndTell_29 : decode cX11_buildAndTell 29 = .ok (.getfield 56, 3) := by decide +kernel
theorem dX11_buildAndTell_32 : decode cX11_buildAndTell 32 = .ok (.iload_n 1, 1) := by decide +kernel
theorem dX11_buildAndTell_33 : decode cX11_buildAndTell 33 = .ok (.invokevirtual 309, 3) := by decide +kernel
theorem dX11_buildAndTell_36 : decode cX11_buildAndTell 36 = .ok (.aload_n 0, 1) := by decide +kernel
theorem dX11_buildAndTell_37 : decode cX11_buildAndTell 37 = .ok (.getfield 19, 3) := by decide +kernel
theorem dX11_buildAndTell_40 : decode cX11_buildAndTell 40 = .ok (.aload_n 0, 1) := by decide +kernel
theorem dX11_buildAndTell_41 : decode cX11_buildAndTell 41 = .ok (.getfield 56, 3) := by decide +kernel
theorem dX11_buildAndTell_44 : decode cX11_buildAndTell 44 = .ok (.invokevirtual 330, 3) := by decide +kernel
theorem dX11_buildAndTell_47 : decode cX11_buildAndTell 47 = .ok (.iload_n 3, 1) := by decide +kernel
theorem dX11_buildAndTell_48 : decode cX11_buildAndTell 48 = .ok (.iconst (-1), 1) := by decide +kernel
theorem dX11_buildAndTell_49 : decode cX11_buildAndTell 49 = .ok (.ixor, 1) := by decide +kernel
theorem dX11_buildAndTell_50 : decode cX11_buildAndTell 50 = .ok (.iand, 1) := by decide +kernel
theorem dX11_buildAndTell_51 : decode cX11_buildAndTell 51 = .ok (.i2l, 1) := by decide +kernel
theorem dX11_buildAndTell_52 : decode cX11_buildAndTell 52 = .ok (.invokevirtual 279, 3) := by decide +kernel
theorem dX11_buildAndTell_55 : decode cX11_buildAndTell 55 = .ok (.aload_n 0, 1) := by decide +kernel
theorem dX11_buildAndTell_56 : decode cX11_buildAndTell 56 = .ok (.getfield 56, 3) := by decide +kernel
theorem dX11_buildAndTell_59 : decode cX11_buildAndTell 59 = .ok (.invokevirtual 333, 3) := by decide +kernel
theorem dX11_buildAndTell_62 : decode cX11_buildAndTell 62 = .ok (.iload_n 2, 1) := by decide +kernel
theorem dX11_buildAndTell_63 : decode cX11_buildAndTell 63 = .ok (.isub, 1) := by decide +kernel
theorem dX11_buildAndTell_64 : decode cX11_buildAndTell 64 = .ok (.ireturn, 1) := by decide +kernel
set_option maxRecDepth 20000 in
theorem ggX11_surgeAndTell_X9_water : GoodIn wsX11_surgeAndTell wsX9_water := goodIn_r _ [8, 9, 10, 11, 105, 106, 107, 108, 109, 110, 111, 112, 113, 114, 115, 116, 117, 118] (by decide +kernel) (by decide +kernel)
set_option maxRecDepth 20000 in
theorem gX11_surgeAndTell_X9_water : GoodIn wsX11_surgeAndTell (wsV RX11 292 RX9 yX9_water wsX9_water) := goodIn_app (goodIn_of _ (by decide +kernel)) ggX11_surgeAndTell_X9_water
set_option maxRecDepth 20000 in
theorem ggX11_surgeAndTell_X11_heightOf : GoodIn wsX11_surgeAndTell wsX11_heightOf := goodIn_r _ [16, 17, 18, 19, 20, 21, 22, 23, 24, 25, 26, 27, 28, 29, 30, 31, 32, 33, 34, 35, 36, 37, 38, 39, 40, 41, 42, 43, 15, 44, 45, 46, 47, 48, 49, 50, 51, 105, 106, 107, 108, 109, 110, 111, 112, 113, 88, 89, 90, 91, 92, 93, 94, 95, 96, 97, 98, 99, 100, 101, 102, 103, 104, 114, 115, 116, 117, 118, 119, 120, 121, 122, 123, 124] (by decide +kernel) (by decide +kernel)
set_option maxRecDepth 20000 in
theorem gX11_surgeAndTell_X11_heightOf : GoodIn wsX11_surgeAndTell (wsV RX11 272 RX11 yX11_heightOf wsX11_heightOf) := goodIn_app (goodIn_of _ (by decide +kernel)) ggX11_surgeAndTell_X11_heightOf
set_option maxRecDepth 20000 in
theorem ggX11_surgeAndTell_X9_surge : GoodIn wsX11_surgeAndTell wsX9_surge := goodIn_r _ [55, 9, 10, 11, 56, 46, 47, 48, 57, 58, 59, 60, 50, 51, 61, 62, 63, 64, 7, 65, 66, 15, 67, 49, 68, 69, 70, 71, 72, 105, 106, 107, 108, 109, 110, 111, 112, 113, 114, 115, 116, 117, 118] (by decide +kernel) (by decide +kernel)
set_option maxRecDepth 20000 in
theorem gX11_surgeAndTell_X9_surge : GoodIn wsX11_surgeAndTell (wsV RX11 285 RX9 yX9_surge wsX9_surge) := goodIn_app (goodIn_of _ (by decide +kernel)) ggX11_surgeAndTell_X9_surge
set_option maxRecDepth 20000 in
theorem ggX11_surgeAndTell_X8_tell_ : GoodIn wsX11_surgeAndTell wsX8_tell_ := goodIn_r _ [77, 78, 79, 80, 76, 81, 82, 83, 84, 85, 86, 87, 125, 126] (by decide +kernel) (by decide +kernel)
set_option maxRecDepth 20000 in
theorem gX11_surgeAndTell_X8_tell_ : GoodIn wsX11_surgeAndTell (wsV RX11 264 RX8 yX8_tell_ wsX8_tell_) := goodIn_app (goodIn_of _ (by decide +kernel)) ggX11_surgeAndTell_X8_tell_
theorem dX11_surgeAndTell_0 : decode cX11_surgeAndTell 0 = .ok (.aload_n 0, 1) := by decide +kernel
theorem dX11_surgeAndTell_1 : decode cX11_surgeAndTell 1 = .ok (.getfield 56, 3) := by decide +kernel
theorem dX11_surgeAndTell_4 : decode cX11_surgeAndTell 4 = .ok (.invokevirtual 292, 3) := by decide +kernel
theorem dX11_surgeAndTell_7 : decode cX11_surgeAndTell 7 = .ok (.istore_n 1, 1) := by decide +kernel
theorem dX11_surgeAndTell_8 : decode cX11_surgeAndTell 8 = .ok (.aload_n 0, 1) := by decide +kernel
theorem dX11_surgeAndTell_9 : decode cX11_surgeAndTell 9 = .ok (.aload_n 0, 1) := by decide +kernel
theorem dX11_surgeAndTell_10 : decode cX11_surgeAndTell 10 = .ok (.getfield 40, 3) := by decide +kernel
theorem dX11_surgeAndTell_13 : decode cX11_surgeAndTell 13 = .ok (.aload_n 0, 1) := by decide +kernel
theorem dX11_surgeAndTell_14 : decode cX11_surgeAndTell 14 = .ok (.getfield 56, 3) := by decide +kernel
theorem dX11_surgeAndTell_17 : decode cX11_surgeAndTell 17 = .ok (.iconst 0, 1) := by decide +kernel
theorem dX11_surgeAndTell_18 : decode cX11_surgeAndTell 18 = .ok (.invokevirtual 272, 3) := by decide +kernel
theorem dX11_surgeAndTell_21 : decode cX11_surgeAndTell 21 = .ok (.istore_n 2, 1) := by decide +kernel
theorem dX11_surgeAndTell_22 : decode cX11_surgeAndTell 22 = .ok (.aload_n 0, 1) := by decide +kernel
theorem dX11_surgeAndTell_23 : decode cX11_surgeAndTell 23 = .ok (.getfield 56, 3) := by decide +kernel
theorem dX11_surgeAndTell_26 : decode cX11_surgeAndTell 26 = .ok (.iload_n 2, 1) := by decide +kernel
theorem dX11_surgeAndTell_27 : decode cX11_surgeAndTell 27 = .ok (.invokevirtual 285, 3) := by decide +kernel
theorem dX11_surgeAndTell_30 : decode cX11_surgeAndTell 30 = .ok (.istore_n 3, 1) := by decide +kernel
theorem dX11_surgeAndTell_31 : decode cX11_surgeAndTell 31 = .ok (.aload_n 0, 1) := by decide +kernel
theorem dX11_surgeAndTell_32 : decode cX11_surgeAndTell 32 = .ok (.getfield 19, 3) := by decide +kernel
theorem dX11_surgeAndTell_35 : decode cX11_surgeAndTell 35 = .ok (.iload_n 2, 1) := by decide +kernel
theorem dX11_surgeAndTell_36 : decode cX11_surgeAndTell 36 = .ok (.i2l, 1) := by decide +kernel
theorem dX11_surgeAndTell_37 : decode cX11_surgeAndTell 37 = .ok (.aload_n 0, 1) := by decide +kernel
theorem dX11_surgeAndTell_38 : decode cX11_surgeAndTell 38 = .ok (.getfield 56, 3) := by decide +kernel
theorem dX11_surgeAndTell_41 : decode cX11_surgeAndTell 41 = .ok (.invokevirtual 292, 3) := by decide +kernel
theorem dX11_surgeAndTell_44 : decode cX11_surgeAndTell 44 = .ok (.iload_n 1, 1) := by decide +kernel
theorem dX11_surgeAndTell_45 : decode cX11_surgeAndTell 45 = .ok (.isub, 1) := by decide +kernel
theorem dX11_surgeAndTell_46 : decode cX11_surgeAndTell 46 = .ok (.i2l, 1) := by decide +kernel
theorem dX11_surgeAndTell_47 : decode cX11_surgeAndTell 47 = .ok (.invokevirtual 264, 3) := by decide +kernel
theorem dX11_surgeAndTell_50 : decode cX11_surgeAndTell 50 = .ok (.iload_n 3, 1) := by decide +kernel
theorem dX11_surgeAndTell_51 : decode cX11_surgeAndTell 51 = .ok (.ireturn, 1) := by decide +kernel
set_option maxRecDepth 20000 in
theorem ggX11_faultOfTale_X11_wordsOf : GoodIn wsX11_faultOfTale wsX11_wordsOf := goodIn_r _ [11] (by decide +kernel) (by decide +kernel)
set_option maxRecDepth 20000 in
theorem gX11_faultOfTale_X11_wordsOf : GoodIn wsX11_faultOfTale (va_wsS RX11 244 yX11_wordsOf wsX11_wordsOf) := goodIn_app (goodIn_of _ (by decide +kernel)) ggX11_faultOfTale_X11_wordsOf
set_option maxRecDepth 20000 in
theorem ggX11_faultOfTale_X11_wordFits : GoodIn wsX11_faultOfTale wsX11_wordFits := goodIn_r _ [14, 15, 16, 10, 17, 18, 19, 20] (by decide +kernel) (by decide +kernel)
set_option maxRecDepth 20000 in
theorem gX11_faultOfTale_X11_wordFits : GoodIn wsX11_faultOfTale (va_wsS RX11 418 yX11_wordFits wsX11_wordFits) := goodIn_app (goodIn_of _ (by decide +kernel)) ggX11_faultOfTale_X11_wordFits
theorem dX11_faultOfTale_0 : decode cX11_faultOfTale 0 = .ok (.aload_n 0, 1) := by decide +kernel
theorem dX11_faultOfTale_1 : decode cX11_faultOfTale 1 = .ok (.getfield 10, 3) := by decide +kernel
theorem dX11_faultOfTale_4 : decode cX11_faultOfTale 4 = .ok (.getfield 114, 3) := by decide +kernel
theorem dX11_faultOfTale_7 : decode cX11_faultOfTale 7 = .ok (.bipush 60, 2) := by decide +kernel
theorem dX11_faultOfTale_9 : decode cX11_faultOfTale 9 = .ok (.invokestatic 415, 3) := by decide +kernel
theorem dX11_faultOfTale_12 : decode cX11_faultOfTale 12 = .ok (.istore_n 1, 1) := by decide +kernel
theorem dX11_faultOfTale_13 : decode cX11_faultOfTale 13 = .ok (.iconst 0, 1) := by decide +kernel
theorem dX11_faultOfTale_14 : decode cX11_faultOfTale 14 = .ok (.istore_n 2, 1) := by decide +kernel
theorem dX11_faultOfTale_15 : decode cX11_faultOfTale 15 = .ok (.iload_n 2, 1) := by decide +kernel
theorem dX11_faultOfTale_16 : decode cX11_faultOfTale 16 = .ok (.iload_n 1, 1) := by decide +kernel
theorem dX11_faultOfTale_17 : decode cX11_faultOfTale 17 = .ok (.if_icmp .ge 76, 3) := by decide +kernel
theorem dX11_faultOfTale_20 : decode cX11_faultOfTale 20 = .ok (.aload_n 0, 1) := by decide +kernel
theorem dX11_faultOfTale_21 : decode cX11_faultOfTale 21 = .ok (.getfield 10, 3) := by decide +kernel
theorem dX11_faultOfTale_24 : decode cX11_faultOfTale 24 = .ok (.getfield 240, 3) := by decide +kernel
theorem dX11_faultOfTale_27 : decode cX11_faultOfTale 27 = .ok (.iload_n 2, 1) := by decide +kernel
theorem dX11_faultOfTale_28 : decode cX11_faultOfTale 28 = .ok (.caload, 1) := by decide +kernel
theorem dX11_faultOfTale_29 : decode cX11_faultOfTale 29 = .ok (.istore_n 3, 1) := by decide +kernel
theorem dX11_faultOfTale_30 : decode cX11_faultOfTale 30 = .ok (.iload_n 3, 1) := by decide +kernel
theorem dX11_faultOfTale_31 : decode cX11_faultOfTale 31 = .ok (.invokestatic 244, 3) := by decide +kernel
theorem dX11_faultOfTale_34 : decode cX11_faultOfTale 34 = .ok (.istore 4, 2) := by decide +kernel
theorem dX11_faultOfTale_36 : decode cX11_faultOfTale 36 = .ok (.iload 4, 2) := by decide +kernel
theorem dX11_faultOfTale_38 : decode cX11_faultOfTale 38 = .ok (.ifCond .ge 5, 3) := by decide +kernel
theorem dX11_faultOfTale_41 : decode cX11_faultOfTale 41 = .ok (.iload_n 2, 1) := by decide +kernel
theorem dX11_faultOfTale_42 : decode cX11_faultOfTale 42 = .ok (.ireturn, 1) := by decide +kernel
theorem dX11_faultOfTale_43 : decode cX11_faultOfTale 43 = .ok (.iinc 2 1, 3) := by decide +kernel
theorem dX11_faultOfTale_46 : decode cX11_faultOfTale 46 = .ok (.iconst 0, 1) := by decide +kernel
theorem dX11_faultOfTale_47 : decode cX11_faultOfTale 47 = .ok (.istore 5, 2) := by decide +kernel
theorem dX11_faultOfTale_49 : decode cX11_faultOfTale 49 = .ok (.iload 5, 2) := by decide +kernel
theorem dX11_faultOfTale_51 : decode cX11_faultOfTale 51 = .ok (.iload 4, 2) := by decide +kernel
theorem dX11_faultOfTale_53 : decode cX11_faultOfTale 53 = .ok (.if_icmp .ge 37, 3) := by decide +kernel
theorem dX11_faultOfTale_56 : decode cX11_faultOfTale 56 = .ok (.iload_n 2, 1) := by decide +kernel
theorem dX11_faultOfTale_57 : decode cX11_faultOfTale 57 = .ok (.iload_n 1, 1) := by decide +kernel
theorem dX11_faultOfTale_58 : decode cX11_faultOfTale 58 = .ok (.if_icmp .ge 21, 3) := by decide +kernel
theorem dX11_faultOfTale_61 : decode cX11_faultOfTale 61 = .ok (.iload_n 3, 1) := by decide +kernel
theorem dX11_faultOfTale_62 : decode cX11_faultOfTale 62 = .ok (.iload 5, 2) := by decide +kernel
theorem dX11_faultOfTale_64 : decode cX11_faultOfTale 64 = .ok (.aload_n 0, 1) := by decide +kernel
theorem dX11_faultOfTale_65 : decode cX11_faultOfTale 65 = .ok (.getfield 10, 3) := by decide +kernel
theorem dX11_faultOfTale_68 : decode cX11_faultOfTale 68 = .ok (.getfield 240, 3) := by decide +kernel
theorem dX11_faultOfTale_71 : decode cX11_faultOfTale 71 = .ok (.iload_n 2, 1) := by decide +kernel
theorem dX11_faultOfTale_72 : decode cX11_faultOfTale 72 = .ok (.caload, 1) := by decide +kernel
theorem dX11_faultOfTale_73 : decode cX11_faultOfTale 73 = .ok (.invokestatic 418, 3) := by decide +kernel
theorem dX11_faultOfTale_76 : decode cX11_faultOfTale 76 = .ok (.ifCond .ne 5, 3) := by decide +kernel
theorem dX11_faultOfTale_79 : decode cX11_faultOfTale 79 = .ok (.iload_n 2, 1) := by decide +kernel
theorem dX11_faultOfTale_80 : decode cX11_faultOfTale 80 = .ok (.ireturn, 1) := by decide +kernel
theorem dX11_faultOfTale_81 : decode cX11_faultOfTale 81 = .ok (.iinc 2 1, 3) := by decide +kernel
theorem dX11_faultOfTale_84 : decode cX11_faultOfTale 84 = .ok (.iinc 5 1, 3) := by decide +kernel
theorem dX11_faultOfTale_87 : decode cX11_faultOfTale 87 = .ok (.goto (-38), 3) := by decide +kernel
theorem dX11_faultOfTale_90 : decode cX11_faultOfTale 90 = .ok (.goto (-75), 3) := by decide +kernel
theorem dX11_faultOfTale_93 : decode cX11_faultOfTale 93 = .ok (.aload_n 0, 1) := by decide +kernel
theorem dX11_faultOfTale_94 : decode cX11_faultOfTale 94 = .ok (.getfield 10, 3) := by decide +kernel
theorem dX11_faultOfTale_97 : decode cX11_faultOfTale 97 = .ok (.getfield 114, 3) := by decide +kernel
theorem dX11_faultOfTale_100 : decode cX11_faultOfTale 100 = .ok (.iload_n 1, 1) := by decide +kernel
theorem dX11_faultOfTale_101 : decode cX11_faultOfTale 101 = .ok (.if_icmp .le 7, 3) := by decide +kernel
theorem dX11_faultOfTale_104 : decode cX11_faultOfTale 104 = .ok (.iload_n 1, 1) := by decide +kernel
theorem dX11_faultOfTale_105 : decode cX11_faultOfTale 105 = .ok (.goto 4, 3) := by decide +kernel
theorem dX11_faultOfTale_108 : decode cX11_faultOfTale 108 = .ok (.iconst (-1), 1) := by decide +kernel
theorem dX11_faultOfTale_109 : decode cX11_faultOfTale 109 = .ok (.ireturn, 1) := by decide +kernel
theorem dX11_wordsOf_0 : decode cX11_wordsOf 0 = .ok (.iload_n 0, 1) := by decide +kernel
theorem dX11_wordsOf_1 : decode cX11_wordsOf 1 = .ok (.tableswitch 109 98 119 #[105, 109, 109, 109, 109, 103, 105, 109, 109, 109, 109, 105, 109, 109, 109, 109, 109, 105, 105, 109, 109, 107], 103) := by decide +kernel
theorem dX11_wordsOf_104 : decode cX11_wordsOf 104 = .ok (.iconst 2, 1) := by decide +kernel
theorem dX11_wordsOf_105 : decode cX11_wordsOf 105 = .ok (.ireturn, 1) := by decide +kernel
theorem dX11_wordsOf_106 : decode cX11_wordsOf 106 = .ok (.iconst 1, 1) := by decide +kernel
theorem dX11_wordsOf_107 : decode cX11_wordsOf 107 = .ok (.ireturn, 1) := by decide +kernel
theorem dX11_wordsOf_108 : decode cX11_wordsOf 108 = .ok (.iconst 0, 1) := by decide +kernel
theorem dX11_wordsOf_109 : decode cX11_wordsOf 109 = .ok (.ireturn, 1) := by decide +kernel
theorem dX11_wordsOf_110 : decode cX11_wordsOf 110 = .ok (.iconst (-1), 1) := by decide +kernel
theorem dX11_wordsOf_111 : decode cX11_wordsOf 111 = .ok (.ireturn, 1) := by decide +kernel
set_option maxRecDepth 20000 in
theorem ggX11_wordFits_X11_isDigit : GoodIn wsX11_wordFits wsX11_isDigit := goodIn_r _ [4] (by decide +kernel) (by decide +kernel)
set_option maxRecDepth 20000 in
theorem gX11_wordFits_X11_isDigit : GoodIn wsX11_wordFits (va_wsS RX11 421 yX11_isDigit wsX11_isDigit) := goodIn_app (goodIn_of _ (by decide +kernel)) ggX11_wordFits_X11_isDigit
set_option maxRecDepth 20000 in
theorem ggX11_wordFits_X11_within : GoodIn wsX11_wordFits wsX11_within := goodIn_r _ [7] (by decide +kernel) (by decide +kernel)
set_option maxRecDepth 20000 in
theorem gX11_wordFits_X11_within : GoodIn wsX11_wordFits (va_wsS RX11 203 yX11_within wsX11_within) := goodIn_app (goodIn_of _ (by decide +kernel)) ggX11_wordFits_X11_within
theorem dX11_wordFits_0 : decode cX11_wordFits 0 = .ok (.iload_n 0, 1) := by decide +kernel
theorem dX11_wordFits_1 : decode cX11_wordFits 1 = .ok (.bipush 98, 2) := by decide +kernel
theorem dX11_wordFits_3 : decode cX11_wordFits 3 = .ok (.if_icmp .ne 8, 3) := by decide +kernel
theorem dX11_wordFits_6 : decode cX11_wordFits 6 = .ok (.iload_n 2, 1) := by decide +kernel
theorem dX11_wordFits_7 : decode cX11_wordFits 7 = .ok (.invokestatic 421, 3) := by decide +kernel
theorem dX11_wordFits_10 : decode cX11_wordFits 10 = .ok (.ireturn, 1) := by decide +kernel
theorem dX11_wordFits_11 : decode cX11_wordFits 11 = .ok (.iload_n 0, 1) := by decide +kernel
theorem dX11_wordFits_12 : decode cX11_wordFits 12 = .ok (.bipush 109, 2) := by decide +kernel
theorem dX11_wordFits_14 : decode cX11_wordFits 14 = .ok (.if_icmp .eq 8, 3) := by decide +kernel
theorem dX11_wordFits_17 : decode cX11_wordFits 17 = .ok (.iload_n 1, 1) := by decide +kernel
theorem dX11_wordFits_18 : decode cX11_wordFits 18 = .ok (.iconst 1, 1) := by decide +kernel
theorem dX11_wordFits_19 : decode cX11_wordFits 19 = .ok (.if_icmp .ne 7, 3) := by decide +kernel
theorem dX11_wordFits_22 : decode cX11_wordFits 22 = .ok (.iconst 1, 1) := by decide +kernel
theorem dX11_wordFits_23 : decode cX11_wordFits 23 = .ok (.goto 4, 3) := by decide +kernel
theorem dX11_wordFits_26 : decode cX11_wordFits 26 = .ok (.iconst 0, 1) := by decide +kernel
theorem dX11_wordFits_27 : decode cX11_wordFits 27 = .ok (.istore_n 3, 1) := by decide +kernel
theorem dX11_wordFits_28 : decode cX11_wordFits 28 = .ok (.iload_n 2, 1) := by decide +kernel
theorem dX11_wordFits_29 : decode cX11_wordFits 29 = .ok (.bipush 97, 2) := by decide +kernel
theorem dX11_wordFits_31 : decode cX11_wordFits 31 = .ok (.iload_n 3, 1) := by decide +kernel
theorem dX11_wordFits_32 : decode cX11_wordFits 32 = .ok (.ifCond .eq 8, 3) := by decide +kernel
theorem dX11_wordFits_35 : decode cX11_wordFits 35 = .ok (.bipush 108, 2) := by decide +kernel
theorem dX11_wordFits_37 : decode cX11_wordFits 37 = .ok (.goto 5, 3) := by decide +kernel
theorem dX11_wordFits_40 : decode cX11_wordFits 40 = .ok (.bipush 104, 2) := by decide +kernel
theorem dX11_wordFits_42 : decode cX11_wordFits 42 = .ok (.invokestatic 203, 3) := by decide +kernel
theorem dX11_wordFits_45 : decode cX11_wordFits 45 = .ok (.ireturn, 1) := by decide +kernel
set_option maxRecDepth 20000 in
theorem ggX11_wordAt_X11_within : GoodIn wsX11_wordAt wsX11_within := goodIn_r _ [6] (by decide +kernel) (by decide +kernel)
set_option maxRecDepth 20000 in
theorem gX11_wordAt_X11_within : GoodIn wsX11_wordAt (va_wsS RX11 203 yX11_within wsX11_within) := goodIn_app (goodIn_of _ (by decide +kernel)) ggX11_wordAt_X11_within
set_option maxRecDepth 20000 in
theorem ggX11_wordAt_X11_isDigit : GoodIn wsX11_wordAt wsX11_isDigit := goodIn_r _ [9] (by decide +kernel) (by decide +kernel)
set_option maxRecDepth 20000 in
theorem gX11_wordAt_X11_isDigit : GoodIn wsX11_wordAt (va_wsS RX11 421 yX11_isDigit wsX11_isDigit) := goodIn_app (goodIn_of _ (by decide +kernel)) ggX11_wordAt_X11_isDigit
theorem dX11_wordAt_0 : decode cX11_wordAt 0 = .ok (.iload_n 1, 1) := by decide +kernel
theorem dX11_wordAt_1 : decode cX11_wordAt 1 = .ok (.iconst 0, 1) := by decide +kernel
theorem dX11_wordAt_2 : decode cX11_wordAt 2 = .ok (.bipush 79, 2) := by decide +kernel
theorem dX11_wordAt_4 : decode cX11_wordAt 4 = .ok (.invokestatic 203, 3) := by decide +kernel
theorem dX11_wordAt_7 : decode cX11_wordAt 7 = .ok (.ifCond .ne 5, 3) := by decide +kernel
theorem dX11_wordAt_10 : decode cX11_wordAt 10 = .ok (.iconst (-1), 1) := by decide +kernel
theorem dX11_wordAt_11 : decode cX11_wordAt 11 = .ok (.ireturn, 1) := by decide +kernel
theorem dX11_wordAt_12 : decode cX11_wordAt 12 = .ok (.aload_n 0, 1) := by decide +kernel
theorem dX11_wordAt_13 : decode cX11_wordAt 13 = .ok (.getfield 10, 3) := by decide +kernel
theorem dX11_wordAt_16 : decode cX11_wordAt 16 = .ok (.getfield 240, 3) := by decide +kernel
theorem dX11_wordAt_19 : decode cX11_wordAt 19 = .ok (.iload_n 1, 1) := by decide +kernel
theorem dX11_wordAt_20 : decode cX11_wordAt 20 = .ok (.caload, 1) := by decide +kernel
theorem dX11_wordAt_21 : decode cX11_wordAt 21 = .ok (.istore_n 2, 1) := by decide +kernel
theorem dX11_wordAt_22 : decode cX11_wordAt 22 = .ok (.iload_n 2, 1) := by decide +kernel
theorem dX11_wordAt_23 : decode cX11_wordAt 23 = .ok (.invokestatic 421, 3) := by decide +kernel
theorem dX11_wordAt_26 : decode cX11_wordAt 26 = .ok (.ifCond .eq 10, 3) := by decide +kernel
theorem dX11_wordAt_29 : decode cX11_wordAt 29 = .ok (.iload_n 2, 1) := by decide +kernel
theorem dX11_wordAt_30 : decode cX11_wordAt 30 = .ok (.bipush 48, 2) := by decide +kernel
theorem dX11_wordAt_32 : decode cX11_wordAt 32 = .ok (.isub, 1) := by decide +kernel
theorem dX11_wordAt_33 : decode cX11_wordAt 33 = .ok (.goto 7, 3) := by decide +kernel
theorem dX11_wordAt_36 : decode cX11_wordAt 36 = .ok (.iload_n 2, 1) := by decide +kernel
theorem dX11_wordAt_37 : decode cX11_wordAt 37 = .ok (.bipush 97, 2) := by decide +kernel
theorem dX11_wordAt_39 : decode cX11_wordAt 39 = .ok (.isub, 1) := by decide +kernel
theorem dX11_wordAt_40 : decode cX11_wordAt 40 = .ok (.ireturn, 1) := by decide +kernel
set_option maxRecDepth 20000 in
theorem ggX11_heightOf_J6_bitCount_0f7a4 : GoodIn wsX11_heightOf wsJ6_bitCount_0f7a4 := goodIn_r _ [9, 10, 11, 12] (by decide +kernel) (by decide +kernel)
set_option maxRecDepth 20000 in
theorem gX11_heightOf_J6_bitCount_0f7a4 : GoodIn wsX11_heightOf (va_wsS RX11 210 yJ6_bitCount_0f7a4 wsJ6_bitCount_0f7a4) := goodIn_app (goodIn_of _ (by decide +kernel)) ggX11_heightOf_J6_bitCount_0f7a4
set_option maxRecDepth 20000 in
theorem ggX11_heightOf_X6_value : GoodIn wsX11_heightOf wsX6_value := goodIn_r _ [17, 18, 19, 20, 21, 22, 16, 23, 24, 25, 26, 27, 28, 29, 30, 31, 32, 33, 34, 35, 36, 68, 69, 70, 71, 72, 73] (by decide +kernel) (by decide +kernel)
set_option maxRecDepth 20000 in
theorem gX11_heightOf_X6_value : GoodIn wsX11_heightOf (wsV RX11 424 RX6 yX6_value wsX6_value) := goodIn_app (goodIn_of _ (by decide +kernel)) ggX11_heightOf_X6_value
theorem dX11_heightOf_0 : decode cX11_heightOf 0 = .ok (.aload_n 1, 1) := by decide +kernel
theorem dX11_heightOf_1 : decode cX11_heightOf 1 = .ok (.aload_n 2, 1) := by decide +kernel
theorem dX11_heightOf_2 : decode cX11_heightOf 2 = .ok (.getfield 380, 3) := by decide +kernel
theorem dX11_heightOf_5 : decode cX11_heightOf 5 = .ok (.iload_n 3, 1) := by decide +kernel
theorem dX11_heightOf_6 : decode cX11_heightOf 6 = .ok (.iadd, 1) := by decide +kernel
theorem dX11_heightOf_7 : decode cX11_heightOf 7 = .ok (.bipush 8, 2) := by decide +kernel
theorem dX11_heightOf_9 : decode cX11_heightOf 9 = .ok (.irem, 1) := by decide +kernel
theorem dX11_heightOf_10 : decode cX11_heightOf 10 = .ok (.aload_n 0, 1) := by decide +kernel
theorem dX11_heightOf_11 : decode cX11_heightOf 11 = .ok (.getfield 207, 3) := by decide +kernel
theorem dX11_heightOf_14 : decode cX11_heightOf 14 = .ok (.aload_n 0, 1) := by decide +kernel
theorem dX11_heightOf_15 : decode cX11_heightOf 15 = .ok (.getfield 26, 3) := by decide +kernel
theorem dX11_heightOf_18 : decode cX11_heightOf 18 = .ok (.getfield 131, 3) := by decide +kernel
theorem dX11_heightOf_21 : decode cX11_heightOf 21 = .ok (.aload_n 2, 1) := by decide +kernel
theorem dX11_heightOf_22 : decode cX11_heightOf 22 = .ok (.getfield 159, 3) := by decide +kernel
theorem dX11_heightOf_25 : decode cX11_heightOf 25 = .ok (.invokestatic 210, 3) := by decide +kernel
theorem dX11_heightOf_28 : decode cX11_heightOf 28 = .ok (.invokevirtual 424, 3) := by decide +kernel
theorem dX11_heightOf_31 : decode cX11_heightOf 31 = .ok (.ireturn, 1) := by decide +kernel
set_option maxRecDepth 20000 in
theorem ggX11_breaksOf_X9_copy : GoodIn wsX11_breaksOf wsX9_copy := goodIn_r _ [7, 8, 9, 10, 11, 12, 13, 14, 15, 16, 17, 18, 96, 97, 98, 99, 100, 101, 102, 103, 104] (by decide +kernel) (by decide +kernel)
set_option maxRecDepth 20000 in
theorem gX11_breaksOf_X9_copy : GoodIn wsX11_breaksOf (wsV RX11 282 RX9 yX9_copy wsX9_copy) := goodIn_app (goodIn_of _ (by decide +kernel)) ggX11_breaksOf_X9_copy
set_option maxRecDepth 20000 in
theorem ggX11_breaksOf_X11_heightOf : GoodIn wsX11_breaksOf wsX11_heightOf := goodIn_r _ [23, 24, 25, 26, 27, 28, 29, 30, 31, 32, 33, 34, 35, 36, 37, 38, 39, 40, 41, 42, 43, 44, 45, 46, 47, 48, 49, 50, 22, 51, 52, 53, 54, 55, 56, 57, 58, 96, 97, 98, 99, 100, 101, 102, 103, 104, 79, 80, 81, 82, 83, 84, 85, 86, 87, 88, 89, 90, 91, 92, 93, 94, 95, 105, 106, 107, 108, 109, 110, 111, 112, 113, 114, 115] (by decide +kernel) (by decide +kernel)
set_option maxRecDepth 20000 in
theorem gX11_breaksOf_X11_heightOf : GoodIn wsX11_breaksOf (wsV RX11 272 RX11 yX11_heightOf wsX11_heightOf) := goodIn_app (goodIn_of _ (by decide +kernel)) ggX11_breaksOf_X11_heightOf
set_option maxRecDepth 20000 in
theorem ggX11_breaksOf_X9_surge : GoodIn wsX11_breaksOf wsX9_surge := goodIn_r _ [62, 63, 64, 13, 65, 53, 54, 55, 8, 16, 66, 67, 57, 58, 18, 68, 69, 70, 6, 71, 72, 22, 73, 56, 74, 75, 76, 77, 78, 96, 97, 98, 99, 100, 101, 102, 103, 104, 105, 106, 107, 108, 109] (by decide +kernel) (by decide +kernel)
set_option maxRecDepth 20000 in
theorem gX11_breaksOf_X9_surge : GoodIn wsX11_breaksOf (wsV RX11 285 RX9 yX9_surge wsX9_surge) := goodIn_app (goodIn_of _ (by decide +kernel)) ggX11_breaksOf_X9_surge
theorem dX11_breaksOf_0 : decode cX11_breaksOf 0 = .ok (.aload_n 0, 1) := by decide +kernel
theorem dX11_breaksOf_1 : decode cX11_breaksOf 1 = .ok (.getfield 60, 3) := by decide +kernel
theorem dX11_breaksOf_4 : decode cX11_breaksOf 4 = .ok (.aload_n 0, 1) := by decide +kernel
theorem dX11_breaksOf_5 : decode cX11_breaksOf 5 = .ok (.getfield 56, 3) := by decide +kernel
theorem dX11_breaksOf_8 : decode cX11_breaksOf 8 = .ok (.invokevirtual 282, 3) := by decide +kernel
theorem dX11_breaksOf_11 : decode cX11_breaksOf 11 = .ok (.iconst 0, 1) := by decide +kernel
theorem dX11_breaksOf_12 : decode cX11_breaksOf 12 = .ok (.istore_n 3, 1) := by decide +kernel
theorem dX11_breaksOf_13 : decode cX11_breaksOf 13 = .ok (.iconst 0, 1) := by decide +kernel
theorem dX11_breaksOf_14 : decode cX11_breaksOf 14 = .ok (.istore 4, 2) := by decide +kernel
theorem dX11_breaksOf_16 : decode cX11_breaksOf 16 = .ok (.iload 4, 2) := by decide +kernel
theorem dX11_breaksOf_18 : decode cX11_breaksOf 18 = .ok (.iload_n 2, 1) := by decide +kernel
theorem dX11_breaksOf_19 : decode cX11_breaksOf 19 = .ok (.if_icmp .ge 32, 3) := by decide +kernel
theorem dX11_breaksOf_22 : decode cX11_breaksOf 22 = .ok (.aload_n 0, 1) := by decide +kernel
theorem dX11_breaksOf_23 : decode cX11_breaksOf 23 = .ok (.getfield 60, 3) := by decide +kernel
theorem dX11_breaksOf_26 : decode cX11_breaksOf 26 = .ok (.aload_n 0, 1) := by decide +kernel
theorem dX11_breaksOf_27 : decode cX11_breaksOf 27 = .ok (.aload_n 1, 1) := by decide +kernel
theorem dX11_breaksOf_28 : decode cX11_breaksOf 28 = .ok (.aload_n 0, 1) := by decide +kernel
theorem dX11_breaksOf_29 : decode cX11_breaksOf 29 = .ok (.getfield 60, 3) := by decide +kernel
theorem dX11_breaksOf_32 : decode cX11_breaksOf 32 = .ok (.iconst 0, 1) := by decide +kernel
theorem dX11_breaksOf_33 : decode cX11_breaksOf 33 = .ok (.invokevirtual 272, 3) := by decide +kernel
theorem dX11_breaksOf_36 : decode cX11_breaksOf 36 = .ok (.invokevirtual 285, 3) := by decide +kernel
theorem dX11_breaksOf_39 : decode cX11_breaksOf 39 = .ok (.ifCond .eq 6, 3) := by decide +kernel
theorem dX11_breaksOf_42 : decode cX11_breaksOf 42 = .ok (.iinc 3 1, 3) := by decide +kernel
theorem dX11_breaksOf_45 : decode cX11_breaksOf 45 = .ok (.iinc 4 1, 3) := by decide +kernel
theorem dX11_breaksOf_48 : decode cX11_breaksOf 48 = .ok (.goto (-32), 3) := by decide +kernel
theorem dX11_breaksOf_51 : decode cX11_breaksOf 51 = .ok (.iload_n 3, 1) := by decide +kernel
theorem dX11_breaksOf_52 : decode cX11_breaksOf 52 = .ok (.ireturn, 1) := by decide +kernel
set_option maxRecDepth 20000 in
theorem ggX11_bestForSpade_X9_buckets : GoodIn wsX11_bestForSpade wsX9_buckets := goodIn_r _ [9, 10, 11, 12, 13, 14, 15, 16, 17, 18, 19, 8, 20, 21, 22, 23, 24, 25, 26, 27, 28, 46, 47, 48, 49, 50, 51, 52, 53, 54, 55, 56, 57, 58, 59] (by decide +kernel) (by decide +kernel)
set_option maxRecDepth 20000 in
theorem gX11_bestForSpade_X9_buckets : GoodIn wsX11_bestForSpade (wsV RX11 198 RX9 yX9_buckets wsX9_buckets) := goodIn_app (goodIn_of _ (by decide +kernel)) ggX11_bestForSpade_X9_buckets
theorem dX11_bestForSpade_0 : decode cX11_bestForSpade 0 = .ok (.aload_n 0, 1) := by decide +kernel
theorem dX11_bestForSpade_1 : decode cX11_bestForSpade 1 = .ok (.getfield 60, 3) := by decide +kernel
theorem dX11_bestForSpade_4 : decode cX11_bestForSpade 4 = .ok (.getfield 192, 3) := by decide +kernel
theorem dX11_bestForSpade_7 : decode cX11_bestForSpade 7 = .ok (.istore_n 1, 1) := by decide +kernel
theorem dX11_bestForSpade_8 : decode cX11_bestForSpade 8 = .ok (.iconst 0, 1) := by decide +kernel
theorem dX11_bestForSpade_9 : decode cX11_bestForSpade 9 = .ok (.istore_n 2, 1) := by decide +kernel
theorem dX11_bestForSpade_10 : decode cX11_bestForSpade 10 = .ok (.iconst 0, 1) := by decide +kernel
theorem dX11_bestForSpade_11 : decode cX11_bestForSpade 11 = .ok (.istore_n 3, 1) := by decide +kernel
theorem dX11_bestForSpade_12 : decode cX11_bestForSpade 12 = .ok (.iconst 0, 1) := by decide +kernel
theorem dX11_bestForSpade_13 : decode cX11_bestForSpade 13 = .ok (.istore 4, 2) := by decide +kernel
theorem dX11_bestForSpade_15 : decode cX11_bestForSpade 15 = .ok (.iload 4, 2) := by decide +kernel
theorem dX11_bestForSpade_17 : decode cX11_bestForSpade 17 = .ok (.aload_n 0, 1) := by decide +kernel
theorem dX11_bestForSpade_18 : decode cX11_bestForSpade 18 = .ok (.getfield 33, 3) := by decide +kernel
theorem dX11_bestForSpade_21 : decode cX11_bestForSpade 21 = .ok (.getfield 134, 3) := by decide +kernel
theorem dX11_bestForSpade_24 : decode cX11_bestForSpade 24 = .ok (.if_icmp .ge 69, 3) := by decide +kernel
theorem dX11_bestForSpade_27 : decode cX11_bestForSpade 27 = .ok (.aload_n 0, 1) := by decide +kernel
theorem dX11_bestForSpade_28 : decode cX11_bestForSpade 28 = .ok (.getfield 60, 3) := by decide +kernel
theorem dX11_bestForSpade_31 : decode cX11_bestForSpade 31 = .ok (.iload 4, 2) := by decide +kernel
theorem dX11_bestForSpade_33 : decode cX11_bestForSpade 33 = .ok (.invokevirtual 198, 3) := by decide +kernel
theorem dX11_bestForSpade_36 : decode cX11_bestForSpade 36 = .ok (.istore 5, 2) := by decide +kernel
theorem dX11_bestForSpade_38 : decode cX11_bestForSpade 38 = .ok (.aload_n 0, 1) := by decide +kernel
theorem dX11_bestForSpade_39 : decode cX11_bestForSpade 39 = .ok (.getfield 60, 3) := by decide +kernel
theorem dX11_bestForSpade_42 : decode cX11_bestForSpade 42 = .ok (.iload_n 1, 1) := by decide +kernel
theorem dX11_bestForSpade_43 : decode cX11_bestForSpade 43 = .ok (.iconst 1, 1) := by decide +kernel
theorem dX11_bestForSpade_44 : decode cX11_bestForSpade 44 = .ok (.iload 4, 2) := by decide +kernel
theorem dX11_bestForSpade_46 : decode cX11_bestForSpade 46 = .ok (.ishl, 1) := by decide +kernel
theorem dX11_bestForSpade_47 : decode cX11_bestForSpade 47 = .ok (.ior, 1) := by decide +kernel
theorem dX11_bestForSpade_48 : decode cX11_bestForSpade 48 = .ok (.putfield 192, 3) := by decide +kernel
theorem dX11_bestForSpade_51 : decode cX11_bestForSpade 51 = .ok (.aload_n 0, 1) := by decide +kernel
theorem dX11_bestForSpade_52 : decode cX11_bestForSpade 52 = .ok (.getfield 60, 3) := by decide +kernel
theorem dX11_bestForSpade_55 : decode cX11_bestForSpade 55 = .ok (.iload 4, 2) := by decide +kernel
theorem dX11_bestForSpade_57 : decode cX11_bestForSpade 57 = .ok (.invokevirtual 198, 3) := by decide +kernel
theorem dX11_bestForSpade_60 : decode cX11_bestForSpade 60 = .ok (.iload 5, 2) := by decide +kernel
theorem dX11_bestForSpade_62 : decode cX11_bestForSpade 62 = .ok (.isub, 1) := by decide +kernel
theorem dX11_bestForSpade_63 : decode cX11_bestForSpade 63 = .ok (.istore 6, 2) := by decide +kernel
theorem dX11_bestForSpade_65 : decode cX11_bestForSpade 65 = .ok (.aload_n 0, 1) := by decide +kernel
theorem dX11_bestForSpade_66 : decode cX11_bestForSpade 66 = .ok (.getfield 60, 3) := by decide +kernel
theorem dX11_bestForSpade_69 : decode cX11_bestForSpade 69 = .ok (.iload_n 1, 1) := by decide +kernel
theorem dX11_bestForSpade_70 : decode cX11_bestForSpade 70 = .ok (.putfield 192, 3) := by decide +kernel
theorem dX11_bestForSpade_73 : decode cX11_bestForSpade 73 = .ok (.iload 6, 2) := by decide +kernel
theorem dX11_bestForSpade_75 : decode cX11_bestForSpade 75 = .ok (.iload_n 3, 1) := by decide +kernel
theorem dX11_bestForSpade_76 : decode cX11_bestForSpade 76 = .ok (.if_icmp .le 11, 3) := by decide +kernel
theorem dX11_bestForSpade_79 : decode cX11_bestForSpade 79 = .ok (.iload 6, 2) := by decide +kernel
theorem dX11_bestForSpade_81 : decode cX11_bestForSpade 81 = .ok (.istore_n 3, 1) := by decide +kernel
theorem dX11_bestForSpade_82 : decode cX11_bestForSpade 82 = .ok (.iconst 1, 1) := by decide +kernel
theorem dX11_bestForSpade_83 : decode cX11_bestForSpade 83 = .ok (.iload 4, 2) := by decide +kernel
theorem dX11_bestForSpade_85 : decode cX11_bestForSpade 85 = .ok (.ishl, 1) := by decide +kernel
theorem dX11_bestForSpade_86 : decode cX11_bestForSpade 86 = .ok (.istore_n 2, 1) := by decide +kernel
theorem dX11_bestForSpade_87 : decode cX11_bestForSpade 87 = .ok (.iinc 4 1, 3) := by decide +kernel
theorem dX11_bestForSpade_90 : decode cX11_bestForSpade 90 = .ok (.goto (-75), 3) := by decide +kernel
theorem dX11_bestForSpade_93 : decode cX11_bestForSpade 93 = .ok (.iload_n 2, 1) := by decide +kernel
theorem dX11_bestForSpade_94 : decode cX11_bestForSpade 94 = .ok (.ireturn, 1) := by decide +kernel
set_option maxRecDepth 20000 in
theorem ggX11_sendDrawn_X0_draw : GoodIn wsX11_sendDrawn wsX0_draw := goodIn_r _ [13, 14, 15, 64, 65, 66] (by decide +kernel) (by decide +kernel)
set_option maxRecDepth 20000 in
theorem gX11_sendDrawn_X0_draw : GoodIn wsX11_sendDrawn (wsV RX11 374 RX0 yX0_draw wsX0_draw) := goodIn_app (goodIn_of _ (by decide +kernel)) ggX11_sendDrawn_X0_draw
set_option maxRecDepth 20000 in
theorem ggX11_sendDrawn_X2_has : GoodIn wsX11_sendDrawn wsX2_has := goodIn_r _ [20, 21, 45, 46, 47, 48, 49] (by decide +kernel) (by decide +kernel)
set_option maxRecDepth 20000 in
theorem gX11_sendDrawn_X2_has : GoodIn wsX11_sendDrawn (wsV RX11 177 RX2 yX2_has wsX2_has) := goodIn_app (goodIn_of _ (by decide +kernel)) ggX11_sendDrawn_X2_has
set_option maxRecDepth 20000 in
theorem ggX11_sendDrawn_X5_has : GoodIn wsX11_sendDrawn wsX5_has := goodIn_r _ [26, 27, 50, 51, 52, 53, 54] (by decide +kernel) (by decide +kernel)
set_option maxRecDepth 20000 in
theorem gX11_sendDrawn_X5_has : GoodIn wsX11_sendDrawn (wsV RX11 143 RX5 yX5_has wsX5_has) := goodIn_app (goodIn_of _ (by decide +kernel)) ggX11_sendDrawn_X5_has
theorem dX11_sendDrawn_0 : decode cX11_sendDrawn 0 = .ok (.aload_n 0, 1) := by decide +kernel
theorem dX11_sendDrawn_1 : decode cX11_sendDrawn 1 = .ok (.getfield 33, 3) := by decide +kernel
theorem dX11_sendDrawn_4 : decode cX11_sendDrawn 4 = .ok (.getfield 134, 3) := by decide +kernel
theorem dX11_sendDrawn_7 : decode cX11_sendDrawn 7 = .ok (.ifCond .ne 4, 3) := by decide +kernel
theorem dX11_sendDrawn_10 : decode cX11_sendDrawn 10 = .ok (.return_, 1) := by decide +kernel
theorem dX11_sendDrawn_11 : decode cX11_sendDrawn 11 = .ok (.aload_n 0, 1) := by decide +kernel
theorem dX11_sendDrawn_12 : decode cX11_sendDrawn 12 = .ok (.getfield 106, 3) := by decide +kernel
theorem dX11_sendDrawn_15 : decode cX11_sendDrawn 15 = .ok (.aload_n 0, 1) := by decide +kernel
theorem dX11_sendDrawn_16 : decode cX11_sendDrawn 16 = .ok (.getfield 33, 3) := by decide +kernel
theorem dX11_sendDrawn_19 : decode cX11_sendDrawn 19 = .ok (.getfield 134, 3) := by decide +kernel
theorem dX11_sendDrawn_22 : decode cX11_sendDrawn 22 = .ok (.invokevirtual 374, 3) := by decide +kernel
theorem dX11_sendDrawn_25 : decode cX11_sendDrawn 25 = .ok (.istore_n 1, 1) := by decide +kernel
theorem dX11_sendDrawn_26 : decode cX11_sendDrawn 26 = .ok (.aload_n 0, 1) := by decide +kernel
theorem dX11_sendDrawn_27 : decode cX11_sendDrawn 27 = .ok (.getfield 106, 3) := by decide +kernel
theorem dX11_sendDrawn_30 : decode cX11_sendDrawn 30 = .ok (.aload_n 0, 1) := by decide +kernel
theorem dX11_sendDrawn_31 : decode cX11_sendDrawn 31 = .ok (.getfield 26, 3) := by decide +kernel
theorem dX11_sendDrawn_34 : decode cX11_sendDrawn 34 = .ok (.getfield 131, 3) := by decide +kernel
theorem dX11_sendDrawn_37 : decode cX11_sendDrawn 37 = .ok (.invokevirtual 374, 3) := by decide +kernel
theorem dX11_sendDrawn_40 : decode cX11_sendDrawn 40 = .ok (.istore_n 2, 1) := by decide +kernel
theorem dX11_sendDrawn_41 : decode cX11_sendDrawn 41 = .ok (.aload_n 0, 1) := by decide +kernel
theorem dX11_sendDrawn_42 : decode cX11_sendDrawn 42 = .ok (.getfield 33, 3) := by decide +kernel
theorem dX11_sendDrawn_45 : decode cX11_sendDrawn 45 = .ok (.iload_n 1, 1) := by decide +kernel
theorem dX11_sendDrawn_46 : decode cX11_sendDrawn 46 = .ok (.invokevirtual 177, 3) := by decide +kernel
theorem dX11_sendDrawn_49 : decode cX11_sendDrawn 49 = .ok (.ifCond .eq 36, 3) := by decide +kernel
theorem dX11_sendDrawn_52 : decode cX11_sendDrawn 52 = .ok (.aload_n 0, 1) := by decide +kernel
theorem dX11_sendDrawn_53 : decode cX11_sendDrawn 53 = .ok (.getfield 26, 3) := by decide +kernel
theorem dX11_sendDrawn_56 : decode cX11_sendDrawn 56 = .ok (.iload_n 2, 1) := by decide +kernel
theorem dX11_sendDrawn_57 : decode cX11_sendDrawn 57 = .ok (.invokevirtual 143, 3) := by decide +kernel
theorem dX11_sendDrawn_60 : decode cX11_sendDrawn 60 = .ok (.ifCond .eq 25, 3) := by decide +kernel
theorem dX11_sendDrawn_63 : decode cX11_sendDrawn 63 = .ok (.aload_n 0, 1) := by decide +kernel
theorem dX11_sendDrawn_64 : decode cX11_sendDrawn 64 = .ok (.getfield 60, 3) := by decide +kernel
theorem dX11_sendDrawn_67 : decode cX11_sendDrawn 67 = .ok (.getfield 189, 3) := by decide +kernel
theorem dX11_sendDrawn_70 : decode cX11_sendDrawn 70 = .ok (.iload_n 1, 1) := by decide +kernel
theorem dX11_sendDrawn_71 : decode cX11_sendDrawn 71 = .ok (.iaload, 1) := by decide +kernel
theorem dX11_sendDrawn_72 : decode cX11_sendDrawn 72 = .ok (.ifCond .eq 13, 3) := by decide +kernel
theorem dX11_sendDrawn_75 : decode cX11_sendDrawn 75 = .ok (.aload_n 0, 1) := by decide +kernel
theorem dX11_sendDrawn_76 : decode cX11_sendDrawn 76 = .ok (.getfield 60, 3) := by decide +kernel
theorem dX11_sendDrawn_79 : decode cX11_sendDrawn 79 = .ok (.getfield 195, 3) := by decide +kernel
theorem dX11_sendDrawn_82 : decode cX11_sendDrawn 82 = .ok (.iload_n 1, 1) := by decide +kernel
theorem dX11_sendDrawn_83 : decode cX11_sendDrawn 83 = .ok (.iload_n 2, 1) := by decide +kernel
theorem dX11_sendDrawn_84 : decode cX11_sendDrawn 84 = .ok (.iastore, 1) := by decide +kernel
theorem dX11_sendDrawn_85 : decode cX11_sendDrawn 85 = .ok (.return_, 1) := by decide +kernel
theorem dX11_narrowed_0 : decode cX11_narrowed 0 = .ok (.iload_n 0, 1) := by decide +kernel
theorem dX11_narrowed_1 : decode cX11_narrowed 1 = .ok (.ifCond .ne 6, 3) := by decide +kernel
theorem dX11_narrowed_4 : decode cX11_narrowed 4 = .ok (.iload_n 1, 1) := by decide +kernel
theorem dX11_narrowed_5 : decode cX11_narrowed 5 = .ok (.i2b, 1) := by decide +kernel
theorem dX11_narrowed_6 : decode cX11_narrowed 6 = .ok (.ireturn, 1) := by decide +kernel
theorem dX11_narrowed_7 : decode cX11_narrowed 7 = .ok (.iload_n 0, 1) := by decide +kernel
theorem dX11_narrowed_8 : decode cX11_narrowed 8 = .ok (.iconst 1, 1) := by decide +kernel
theorem dX11_narrowed_9 : decode cX11_narrowed 9 = .ok (.if_icmp .ne 8, 3) := by decide +kernel
theorem dX11_narrowed_12 : decode cX11_narrowed 12 = .ok (.iload_n 1, 1) := by decide +kernel
theorem dX11_narrowed_13 : decode cX11_narrowed 13 = .ok (.i2s, 1) := by decide +kernel
theorem dX11_narrowed_14 : decode cX11_narrowed 14 = .ok (.goto 4, 3) := by decide +kernel
theorem dX11_narrowed_17 : decode cX11_narrowed 17 = .ok (.iload_n 1, 1) := by decide +kernel
theorem dX11_narrowed_18 : decode cX11_narrowed 18 = .ok (.ireturn, 1) := by decide +kernel
theorem dX11_divisor_0 : decode cX11_divisor 0 = .ok (.lload_n 0, 1) := by decide +kernel
theorem dX11_divisor_1 : decode cX11_divisor 1 = .ok (.lstore 4, 2) := by decide +kernel
theorem dX11_divisor_3 : decode cX11_divisor 3 = .ok (.lload_n 2, 1) := by decide +kernel
theorem dX11_divisor_4 : decode cX11_divisor 4 = .ok (.lstore 6, 2) := by decide +kernel
theorem dX11_divisor_6 : decode cX11_divisor 6 = .ok (.iconst 0, 1) := by decide +kernel
theorem dX11_divisor_7 : decode cX11_divisor 7 = .ok (.istore 8, 2) := by decide +kernel
theorem dX11_divisor_9 : decode cX11_divisor 9 = .ok (.iload 8, 2) := by decide +kernel
theorem dX11_divisor_11 : decode cX11_divisor 11 = .ok (.bipush 100, 2) := by decide +kernel
theorem dX11_divisor_13 : decode cX11_divisor 13 = .ok (.if_icmp .ge 31, 3) := by decide +kernel
theorem dX11_divisor_16 : decode cX11_divisor 16 = .ok (.lload 6, 2) := by decide +kernel
theorem dX11_divisor_18 : decode cX11_divisor 18 = .ok (.lconst 0, 1) := by decide +kernel
theorem dX11_divisor_19 : decode cX11_divisor 19 = .ok (.lcmp, 1) := by decide +kernel
theorem dX11_divisor_20 : decode cX11_divisor 20 = .ok (.ifCond .eq 24, 3) := by decide +kernel
theorem dX11_divisor_23 : decode cX11_divisor 23 = .ok (.lload 4, 2) := by decide +kernel
theorem dX11_divisor_25 : decode cX11_divisor 25 = .ok (.lload 6, 2) := by decide +kernel
theorem dX11_divisor_27 : decode cX11_divisor 27 = .ok (.lrem, 1) := by decide +kernel
theorem dX11_divisor_28 : decode cX11_divisor 28 = .ok (.lstore 9, 2) := by decide +kernel
theorem dX11_divisor_30 : decode cX11_divisor 30 = .ok (.lload 6, 2) := by decide +kernel
theorem dX11_divisor_32 : decode cX11_divisor 32 = .ok (.lstore 4, 2) := by decide +kernel
theorem dX11_divisor_34 : decode cX11_divisor 34 = .ok (.lload 9, 2) := by decide +kernel
theorem dX11_divisor_36 : decode cX11_divisor 36 = .ok (.lstore 6, 2) := by decide +kernel
theorem dX11_divisor_38 : decode cX11_divisor 38 = .ok (.iinc 8 1, 3) := by decide +kernel
theorem dX11_divisor_41 : decode cX11_divisor 41 = .ok (.goto (-32), 3) := by decide +kernel
theorem dX11_divisor_44 : decode cX11_divisor 44 = .ok (.lload 4, 2) := by decide +kernel
theorem dX11_divisor_46 : decode cX11_divisor 46 = .ok (.lreturn, 1) := by decide +kernel
