theorem dX0_init_0 : decode cX0_init 0 = .ok (.aload_n 0, 1) := by decide +kernel
theorem dX0_init_1 : decode cX0_init 1 = .ok (.invokespecial 1, 3) := by decide +kernel
theorem dX0_init_4 : decode cX0_init 4 = .ok (.aload_n 0, 1) := by decide +kernel
theorem dX0_init_5 : decode cX0_init 5 = .ok (.aload_n 1, 1) := by decide +kernel
theorem dX0_init_6 : decode cX0_init 6 = .ok (.putfield 7, 3) := by decide +kernel
theorem dX0_init_9 : decode cX0_init 9 = .ok (.aload_n 0, 1) := by decide +kernel
theorem dX0_init_10 : decode cX0_init 10 = .ok (.iload_n 2, 1) := by decide +kernel
theorem dX0_init_11 : decode cX0_init 11 = .ok (.putfield 13, 3) := by decide +kernel
theorem dX0_init_14 : decode cX0_init 14 = .ok (.aload_n 0, 1) := by decide +kernel
theorem dX0_init_15 : decode cX0_init 15 = .ok (.iload_n 3, 1) := by decide +kernel
theorem dX0_init_16 : decode cX0_init 16 = .ok (.putfield 17, 3) := by decide +kernel
theorem dX0_init_19 : decode cX0_init 19 = .ok (.return_, 1) := by decide +kernel
theorem dX0_canBeMissing_0 : decode cX0_canBeMissing 0 = .ok (.aload_n 0, 1) := by decide +kernel
theorem dX0_canBeMissing_1 : decode cX0_canBeMissing 1 = .ok (.getfield 13, 3) := by decide +kernel
theorem dX0_canBeMissing_4 : decode cX0_canBeMissing 4 = .ok (.ifCond .ne 10, 3) := by decide +kernel
theorem dX0_canBeMissing_7 : decode cX0_canBeMissing 7 = .ok (.aload_n 0, 1) := by decide +kernel
theorem dX0_canBeMissing_8 : decode cX0_canBeMissing 8 = .ok (.getfield 17, 3) := by decide +kernel
theorem dX0_canBeMissing_11 : decode cX0_canBeMissing 11 = .ok (.ifCond .eq 7, 3) := by decide +kernel
theorem dX0_canBeMissing_14 : decode cX0_canBeMissing 14 = .ok (.iconst 1, 1) := by decide +kernel
theorem dX0_canBeMissing_15 : decode cX0_canBeMissing 15 = .ok (.goto 4, 3) := by decide +kernel
theorem dX0_canBeMissing_18 : decode cX0_canBeMissing 18 = .ok (.iconst 0, 1) := by decide +kernel
theorem dX0_canBeMissing_19 : decode cX0_canBeMissing 19 = .ok (.ireturn, 1) := by decide +kernel
set_option maxRecDepth 20000 in
theorem ggX0_isSameAs_X9_isSameAs : GoodIn wsX0_isSameAs wsX9_isSameAs := goodIn_r _ [8, 9, 10, 11, 12, 7, 13, 14, 15, 16, 17, 18, 19, 20, 21, 25, 26, 27, 28, 29] rfl (by decide +kernel)
set_option maxRecDepth 20000 in
theorem gX0_isSameAs_X9_isSameAs : GoodIn wsX0_isSameAs (wsV RX0 20 RX9 yX9_isSameAs wsX9_isSameAs) := goodIn_app (goodIn_of _ (by decide +kernel)) ggX0_isSameAs_X9_isSameAs
theorem dX0_isSameAs_0 : decode cX0_isSameAs 0 = .ok (.aload_n 0, 1) := by decide +kernel
theorem dX0_isSameAs_1 : decode cX0_isSameAs 1 = .ok (.getfield 13, 3) := by decide +kernel
theorem dX0_isSameAs_4 : decode cX0_isSameAs 4 = .ok (.aload_n 1, 1) := by decide +kernel
theorem dX0_isSameAs_5 : decode cX0_isSameAs 5 = .ok (.getfield 13, 3) := by decide +kernel
theorem dX0_isSameAs_8 : decode cX0_isSameAs 8 = .ok (.if_icmp .ne 32, 3) := by decide +kernel
theorem dX0_isSameAs_11 : decode cX0_isSameAs 11 = .ok (.aload_n 0, 1) := by decide +kernel
theorem dX0_isSameAs_12 : decode cX0_isSameAs 12 = .ok (.getfield 17, 3) := by decide +kernel
theorem dX0_isSameAs_15 : decode cX0_isSameAs 15 = .ok (.aload_n 1, 1) := by decide +kernel
theorem dX0_isSameAs_16 : decode cX0_isSameAs 16 = .ok (.getfield 17, 3) := by decide +kernel
theorem dX0_isSameAs_19 : decode cX0_isSameAs 19 = .ok (.if_icmp .ne 21, 3) := by decide +kernel
theorem dX0_isSameAs_22 : decode cX0_isSameAs 22 = .ok (.aload_n 0, 1) := by decide +kernel
theorem dX0_isSameAs_23 : decode cX0_isSameAs 23 = .ok (.getfield 7, 3) := by decide +kernel
theorem dX0_isSameAs_26 : decode cX0_isSameAs 26 = .ok (.aload_n 1, 1) := by decide +kernel
theorem dX0_isSameAs_27 : decode cX0_isSameAs 27 = .ok (.getfield 7, 3) := by decide +kernel
theorem dX0_isSameAs_30 : decode cX0_isSameAs 30 = .ok (.invokevirtual 20, 3) := by decide +kernel
theorem dX0_isSameAs_33 : decode cX0_isSameAs 33 = .ok (.ifCond .eq 7, 3) := by decide +kernel
theorem dX0_isSameAs_36 : decode cX0_isSameAs 36 = .ok (.iconst 1, 1) := by decide +kernel
theorem dX0_isSameAs_37 : decode cX0_isSameAs 37 = .ok (.goto 4, 3) := by decide +kernel
theorem dX0_isSameAs_40 : decode cX0_isSameAs 40 = .ok (.iconst 0, 1) := by decide +kernel
theorem dX0_isSameAs_41 : decode cX0_isSameAs 41 = .ok (.ireturn, 1) := by decide +kernel
set_option maxRecDepth 20000 in
theorem ggX1_convert_X0_canBeMissing : GoodIn wsX1_convert wsX0_canBeMissing := goodIn_r _ [10, 11, 12, 140, 141, 142] rfl (by decide +kernel)
set_option maxRecDepth 20000 in
theorem gX1_convert_X0_canBeMissing : GoodIn wsX1_convert (wsV RX1 15 RX0 yX0_canBeMissing wsX0_canBeMissing) := goodIn_app (goodIn_of _ (by decide +kernel)) ggX1_convert_X0_canBeMissing
set_option maxRecDepth 20000 in
theorem ggX1_convert_X8_become : GoodIn wsX1_convert wsX8_become := goodIn_r _ [17, 18, 19, 20, 21, 22, 23, 24, 133, 134, 135, 136, 137, 138, 139, 148, 149] rfl (by decide +kernel)
set_option maxRecDepth 20000 in
theorem gX1_convert_X8_become : GoodIn wsX1_convert (wsV RX1 21 RX8 yX8_become wsX8_become) := goodIn_app (goodIn_of _ (by decide +kernel)) ggX1_convert_X8_become
set_option maxRecDepth 20000 in
theorem ggX1_convert_X8_isUndefinedOrNull : GoodIn wsX1_convert wsX8_isUndefinedOrNull := goodIn_r _ [28, 18, 133, 134, 135, 136, 137, 138, 139] rfl (by decide +kernel)
set_option maxRecDepth 20000 in
theorem gX1_convert_X8_isUndefinedOrNull : GoodIn wsX1_convert (wsV RX1 38 RX8 yX8_isUndefinedOrNull wsX8_isUndefinedOrNull) := goodIn_app (goodIn_of _ (by decide +kernel)) ggX1_convert_X8_isUndefinedOrNull
set_option maxRecDepth 20000 in
theorem ggX1_convert_X1_convertPlain : GoodIn wsX1_convert wsX1_convertPlain := goodIn_r _ [32, 4, 33, 34, 35, 36, 37, 38, 25, 26, 27, 16, 28, 18, 13, 14, 15, 17, 19, 20, 21, 22, 23, 24, 39, 40, 41, 42, 43, 44, 45, 46, 47, 48, 49, 50, 51, 52, 53, 54, 55, 56, 57, 58, 59, 60, 61, 62, 63, 64, 65, 66, 67, 68, 69, 70, 71, 72, 73, 74, 75, 76, 77, 78, 79, 80, 31, 81, 82, 83, 84, 85, 86, 87, 88, 89, 90, 91, 92, 93, 94, 95, 96, 97, 98, 99, 100, 101, 102, 103, 104, 105, 106, 107, 108, 109, 110, 111, 112, 113, 114, 115, 116, 117, 118, 119, 120, 121, 122, 123, 124, 125, 126, 127, 128, 129, 130, 143, 144, 145, 146, 147, 133, 134, 135, 136, 137, 138, 139, 148, 149] rfl (by decide +kernel)
set_option maxRecDepth 20000 in
theorem gX1_convert_X1_convertPlain : GoodIn wsX1_convert (va_wsS RX1 41 yX1_convertPlain wsX1_convertPlain) := goodIn_app (goodIn_of _ (by decide +kernel)) ggX1_convert_X1_convertPlain
set_option maxRecDepth 20000 in
theorem ggX1_convert_X8_itemAt : GoodIn wsX1_convert wsX8_itemAt := goodIn_r _ [62, 22, 63, 64, 65, 66, 133, 134, 135, 136, 137, 138, 139] rfl (by decide +kernel)
set_option maxRecDepth 20000 in
theorem gX1_convert_X8_itemAt : GoodIn wsX1_convert (wsV RX1 50 RX8 yX8_itemAt wsX8_itemAt) := goodIn_app (goodIn_of _ (by decide +kernel)) ggX1_convert_X8_itemAt
set_option maxRecDepth 20000 in
theorem ggX1_convert_X8_nextItem : GoodIn wsX1_convert wsX8_nextItem := goodIn_r _ [70, 63, 22, 64, 65, 66, 133, 134, 135, 136, 137, 138, 139] rfl (by decide +kernel)
set_option maxRecDepth 20000 in
theorem gX1_convert_X8_nextItem : GoodIn wsX1_convert (wsV RX1 54 RX8 yX8_nextItem wsX8_nextItem) := goodIn_app (goodIn_of _ (by decide +kernel)) ggX1_convert_X8_nextItem
theorem dX1_convert_0 : decode cX1_convert 0 = .ok (.aload_n 1, 1) := by decide +kernel
theorem dX1_convert_1 : decode cX1_convert 1 = .ok (.getfield 9, 3) := by decide +kernel
theorem dX1_convert_4 : decode cX1_convert 4 = .ok (.bipush 7, 2) := by decide +kernel
theorem dX1_convert_6 : decode cX1_convert 6 = .ok (.if_icmp .ne 17, 3) := by decide +kernel
theorem dX1_convert_9 : decode cX1_convert 9 = .ok (.aload_n 0, 1) := by decide +kernel
theorem dX1_convert_10 : decode cX1_convert 10 = .ok (.invokevirtual 15, 3) := by decide +kernel
theorem dX1_convert_13 : decode cX1_convert 13 = .ok (.ifCond .eq 10, 3) := by decide +kernel
theorem dX1_convert_16 : decode cX1_convert 16 = .ok (.aload_n 2, 1) := by decide +kernel
theorem dX1_convert_17 : decode cX1_convert 17 = .ok (.iconst 0, 1) := by decide +kernel
theorem dX1_convert_18 : decode cX1_convert 18 = .ok (.invokevirtual 21, 3) := by decide +kernel
theorem dX1_convert_21 : decode cX1_convert 21 = .ok (.iconst 1, 1) := by decide +kernel
theorem dX1_convert_22 : decode cX1_convert 22 = .ok (.ireturn, 1) := by decide +kernel
theorem dX1_convert_23 : decode cX1_convert 23 = .ok (.aload_n 0, 1) := by decide +kernel
theorem dX1_convert_24 : decode cX1_convert 24 = .ok (.getfield 25, 3) := by decide +kernel
theorem dX1_convert_27 : decode cX1_convert 27 = .ok (.astore_n 3, 1) := by decide +kernel
theorem dX1_convert_28 : decode cX1_convert 28 = .ok (.aload_n 3, 1) := by decide +kernel
theorem dX1_convert_29 : decode cX1_convert 29 = .ok (.getfield 29, 3) := by decide +kernel
theorem dX1_convert_32 : decode cX1_convert 32 = .ok (.astore 4, 2) := by decide +kernel
theorem dX1_convert_34 : decode cX1_convert 34 = .ok (.aload 4, 2) := by decide +kernel
theorem dX1_convert_36 : decode cX1_convert 36 = .ok (.ifnull 17, 3) := by decide +kernel
theorem dX1_convert_39 : decode cX1_convert 39 = .ok (.aload_n 3, 1) := by decide +kernel
theorem dX1_convert_40 : decode cX1_convert 40 = .ok (.getfield 34, 3) := by decide +kernel
theorem dX1_convert_43 : decode cX1_convert 43 = .ok (.ifCond .eq 17, 3) := by decide +kernel
theorem dX1_convert_46 : decode cX1_convert 46 = .ok (.aload_n 1, 1) := by decide +kernel
theorem dX1_convert_47 : decode cX1_convert 47 = .ok (.invokevirtual 38, 3) := by decide +kernel
theorem dX1_convert_50 : decode cX1_convert 50 = .ok (.ifCond .eq 10, 3) := by decide +kernel
theorem dX1_convert_53 : decode cX1_convert 53 = .ok (.aload_n 3, 1) := by decide +kernel
theorem dX1_convert_54 : decode cX1_convert 54 = .ok (.aload_n 1, 1) := by decide +kernel
theorem dX1_convert_55 : decode cX1_convert 55 = .ok (.aload_n 2, 1) := by decide +kernel
theorem dX1_convert_56 : decode cX1_convert 56 = .ok (.invokestatic 41, 3) := by decide +kernel
theorem dX1_convert_59 : decode cX1_convert 59 = .ok (.ireturn, 1) := by decide +kernel
theorem dX1_convert_60 : decode cX1_convert 60 = .ok (.aload_n 1, 1) := by decide +kernel
theorem dX1_convert_61 : decode cX1_convert 61 = .ok (.getfield 9, 3) := by decide +kernel
theorem dX1_convert_64 : decode cX1_convert 64 = .ok (.bipush 6, 2) := by decide +kernel
theorem dX1_convert_66 : decode cX1_convert 66 = .ok (.if_icmp .eq 5, 3) := by decide +kernel
theorem dX1_convert_69 : decode cX1_convert 69 = .ok (.iconst 0, 1) := by decide +kernel
theorem dX1_convert_70 : decode cX1_convert 70 = .ok (.ireturn, 1) := by decide +kernel
theorem dX1_convert_71 : decode cX1_convert 71 = .ok (.aload_n 2, 1) := by decide +kernel
theorem dX1_convert_72 : decode cX1_convert 72 = .ok (.bipush 6, 2) := by decide +kernel
theorem dX1_convert_74 : decode cX1_convert 74 = .ok (.invokevirtual 21, 3) := by decide +kernel
theorem dX1_convert_77 : decode cX1_convert 77 = .ok (.iconst 0, 1) := by decide +kernel
theorem dX1_convert_78 : decode cX1_convert 78 = .ok (.istore 5, 2) := by decide +kernel
theorem dX1_convert_80 : decode cX1_convert 80 = .ok (.iload 5, 2) := by decide +kernel
theorem dX1_convert_82 : decode cX1_convert 82 = .ok (.aload_n 1, 1) := by decide +kernel
theorem dX1_convert_83 : decode cX1_convert 83 = .ok (.getfield 47, 3) := by decide +kernel
theorem dX1_convert_86 : decode cX1_convert 86 = .ok (.if_icmp .ge 47, 3) := by decide +kernel
theorem dX1_convert_89 : decode cX1_convert 89 = .ok (.aload_n 1, 1) := by decide +kernel
theorem dX1_convert_90 : decode cX1_convert 90 = .ok (.iload 5, 2) := by decide +kernel
theorem dX1_convert_92 : decode cX1_convert 92 = .ok (.invokevirtual 50, 3) := by decide +kernel
theorem dX1_convert_95 : decode cX1_convert 95 = .ok (.astore 6, 2) := by decide +kernel
theorem dX1_convert_97 : decode cX1_convert 97 = .ok (.aload_n 2, 1) := by decide +kernel
theorem dX1_convert_98 : decode cX1_convert 98 = .ok (.invokevirtual 54, 3) := by decide +kernel
theorem dX1_convert_101 : decode cX1_convert 101 = .ok (.astore 7, 2) := by decide +kernel
theorem dX1_convert_103 : decode cX1_convert 103 = .ok (.aload 6, 2) := by decide +kernel
theorem dX1_convert_105 : decode cX1_convert 105 = .ok (.ifnull 20, 3) := by decide +kernel
theorem dX1_convert_108 : decode cX1_convert 108 = .ok (.aload 7, 2) := by decide +kernel
theorem dX1_convert_110 : decode cX1_convert 110 = .ok (.ifnull 15, 3) := by decide +kernel
theorem dX1_convert_113 : decode cX1_convert 113 = .ok (.aload 4, 2) := by decide +kernel
theorem dX1_convert_115 : decode cX1_convert 115 = .ok (.aload 6, 2) := by decide +kernel
theorem dX1_convert_117 : decode cX1_convert 117 = .ok (.aload 7, 2) := by decide +kernel
theorem dX1_convert_119 : decode cX1_convert 119 = .ok (.invokestatic 41, 3) := by decide +kernel
theorem dX1_convert_122 : decode cX1_convert 122 = .ok (.ifCond .ne 5, 3) := by decide +kernel
theorem dX1_convert_125 : decode cX1_convert 125 = .ok (.iconst 0, 1) := by decide +kernel
theorem dX1_convert_126 : decode cX1_convert 126 = .ok (.ireturn, 1) := by decide +kernel
theorem dX1_convert_127 : decode cX1_convert 127 = .ok (.iinc 5 1, 3) := by decide +kernel
theorem dX1_convert_130 : decode cX1_convert 130 = .ok (.goto (-50), 3) := by decide +kernel
theorem dX1_convert_133 : decode cX1_convert 133 = .ok (.iconst 1, 1) := by decide +kernel
theorem dX1_convert_134 : decode cX1_convert 134 = .ok (.ireturn, 1) := by decide +kernel
set_option maxRecDepth 20000 in
theorem ggX1_convertPlain_X8_isUndefinedOrNull : GoodIn wsX1_convertPlain wsX8_isUndefinedOrNull := goodIn_r _ [12, 13, 122, 123, 124, 125, 126, 127, 128] rfl (by decide +kernel)
set_option maxRecDepth 20000 in
theorem gX1_convertPlain_X8_isUndefinedOrNull : GoodIn wsX1_convertPlain (wsV RX1 38 RX8 yX8_isUndefinedOrNull wsX8_isUndefinedOrNull) := goodIn_app (goodIn_of _ (by decide +kernel)) ggX1_convertPlain_X8_isUndefinedOrNull
set_option maxRecDepth 20000 in
theorem ggX1_convertPlain_X8_become : GoodIn wsX1_convertPlain wsX8_become := goodIn_r _ [17, 13, 18, 19, 20, 21, 22, 23, 122, 123, 124, 125, 126, 127, 128, 129, 130] rfl (by decide +kernel)
set_option maxRecDepth 20000 in
theorem gX1_convertPlain_X8_become : GoodIn wsX1_convertPlain (wsV RX1 21 RX8 yX8_become wsX8_become) := goodIn_app (goodIn_of _ (by decide +kernel)) ggX1_convertPlain_X8_become
set_option maxRecDepth 20000 in
theorem ggX1_convertPlain_X8_copyAll : GoodIn wsX1_convertPlain wsX8_copyAll := goodIn_r _ [27, 21, 28, 29, 30, 11, 31, 13, 18, 20, 19, 22, 32, 15, 16, 17, 23, 33, 34, 35, 36, 37, 38, 39, 40, 41, 42, 43, 44, 45, 46, 47, 48, 49, 50, 51, 52, 53, 54, 55, 122, 123, 124, 125, 126, 127, 128, 129, 130] rfl (by decide +kernel)
set_option maxRecDepth 20000 in
theorem gX1_convertPlain_X8_copyAll : GoodIn wsX1_convertPlain (wsV RX1 67 RX8 yX8_copyAll wsX8_copyAll) := goodIn_app (goodIn_of _ (by decide +kernel)) ggX1_convertPlain_X8_copyAll
set_option maxRecDepth 20000 in
theorem ggX1_convertPlain_X8_isTrue : GoodIn wsX1_convertPlain wsX8_isTrue := goodIn_r _ [59, 13, 19, 22, 23, 122, 123, 124, 125, 126, 127, 128, 129, 130] rfl (by decide +kernel)
set_option maxRecDepth 20000 in
theorem gX1_convertPlain_X8_isTrue : GoodIn wsX1_convertPlain (wsV RX1 74 RX8 yX8_isTrue wsX8_isTrue) := goodIn_app (goodIn_of _ (by decide +kernel)) ggX1_convertPlain_X8_isTrue
set_option maxRecDepth 20000 in
theorem ggX1_convertPlain_X8_becomeWhole : GoodIn wsX1_convertPlain wsX8_becomeWhole := goodIn_r _ [63, 18, 32, 15, 16, 11, 17, 13, 19, 20, 21, 22, 23, 122, 123, 124, 125, 126, 127, 128, 129, 130] rfl (by decide +kernel)
set_option maxRecDepth 20000 in
theorem gX1_convertPlain_X8_becomeWhole : GoodIn wsX1_convertPlain (wsV RX1 77 RX8 yX8_becomeWhole wsX8_becomeWhole) := goodIn_app (goodIn_of _ (by decide +kernel)) ggX1_convertPlain_X8_becomeWhole
set_option maxRecDepth 20000 in
theorem ggX1_convertPlain_X1_convertNumber : GoodIn wsX1_convertPlain wsX1_convertNumber := goodIn_r _ [67, 2, 68, 69, 70, 71, 72, 73, 74, 75, 76, 77, 78, 79, 80, 81, 82, 83, 11, 84, 32, 15, 16, 17, 13, 18, 19, 20, 21, 22, 23, 33, 34, 35, 36, 85, 86, 66, 87, 88, 89, 90, 91, 60, 61, 62, 63, 117, 118, 119, 120, 121, 122, 123, 124, 125, 126, 127, 128, 129, 130] rfl (by decide +kernel)
set_option maxRecDepth 20000 in
theorem gX1_convertPlain_X1_convertNumber : GoodIn wsX1_convertPlain (va_wsS RX1 84 yX1_convertNumber wsX1_convertNumber) := goodIn_app (goodIn_of _ (by decide +kernel)) ggX1_convertPlain_X1_convertNumber
set_option maxRecDepth 20000 in
theorem ggX1_convertPlain_X7_wordCode : GoodIn wsX1_convertPlain wsX7_wordCode := goodIn_r _ [95, 42, 96, 97, 98, 40, 99, 43, 100, 101, 102, 103, 104, 105, 106, 129, 130] rfl (by decide +kernel)
set_option maxRecDepth 20000 in
theorem gX1_convertPlain_X7_wordCode : GoodIn wsX1_convertPlain (wsV RX1 94 RX7 yX7_wordCode wsX7_wordCode) := goodIn_app (goodIn_of _ (by decide +kernel)) ggX1_convertPlain_X7_wordCode
set_option maxRecDepth 20000 in
theorem ggX1_convertPlain_X9_hasWord : GoodIn wsX1_convertPlain wsX9_hasWord := goodIn_r _ [111, 112, 117, 118, 119, 120, 121] rfl (by decide +kernel)
set_option maxRecDepth 20000 in
theorem gX1_convertPlain_X9_hasWord : GoodIn wsX1_convertPlain (wsV RX1 100 RX9 yX9_hasWord wsX9_hasWord) := goodIn_app (goodIn_of _ (by decide +kernel)) ggX1_convertPlain_X9_hasWord
set_option maxRecDepth 20000 in
theorem ggX1_convertPlain_X8_becomeText : GoodIn wsX1_convertPlain wsX8_becomeText := goodIn_r _ [116, 22, 32, 15, 16, 11, 17, 13, 18, 19, 20, 21, 23, 37, 38, 39, 40, 41, 42, 43, 122, 123, 124, 125, 126, 127, 128, 129, 130] rfl (by decide +kernel)
set_option maxRecDepth 20000 in
theorem gX1_convertPlain_X8_becomeText : GoodIn wsX1_convertPlain (wsV RX1 104 RX8 yX8_becomeText wsX8_becomeText) := goodIn_app (goodIn_of _ (by decide +kernel)) ggX1_convertPlain_X8_becomeText
theorem dX1_convertPlain_0 : decode cX1_convertPlain 0 = .ok (.aload_n 0, 1) := by decide +kernel
theorem dX1_convertPlain_1 : decode cX1_convertPlain 1 = .ok (.getfield 34, 3) := by decide +kernel
theorem dX1_convertPlain_4 : decode cX1_convertPlain 4 = .ok (.ifCond .eq 17, 3) := by decide +kernel
theorem dX1_convertPlain_7 : decode cX1_convertPlain 7 = .ok (.aload_n 1, 1) := by decide +kernel
theorem dX1_convertPlain_8 : decode cX1_convertPlain 8 = .ok (.invokevirtual 38, 3) := by decide +kernel
theorem dX1_convertPlain_11 : decode cX1_convertPlain 11 = .ok (.ifCond .eq 10, 3) := by decide +kernel
theorem dX1_convertPlain_14 : decode cX1_convertPlain 14 = .ok (.aload_n 2, 1) := by decide +kernel
theorem dX1_convertPlain_15 : decode cX1_convertPlain 15 = .ok (.iconst 1, 1) := by decide +kernel
theorem dX1_convertPlain_16 : decode cX1_convertPlain 16 = .ok (.invokevirtual 21, 3) := by decide +kernel
theorem dX1_convertPlain_19 : decode cX1_convertPlain 19 = .ok (.iconst 1, 1) := by decide +kernel
theorem dX1_convertPlain_20 : decode cX1_convertPlain 20 = .ok (.ireturn, 1) := by decide +kernel
theorem dX1_convertPlain_21 : decode cX1_convertPlain 21 = .ok (.aload_n 0, 1) := by decide +kernel
theorem dX1_convertPlain_22 : decode cX1_convertPlain 22 = .ok (.getfield 58, 3) := by decide +kernel
theorem dX1_convertPlain_25 : decode cX1_convertPlain 25 = .ok (.getstatic 62, 3) := by decide +kernel
theorem dX1_convertPlain_28 : decode cX1_convertPlain 28 = .ok (.if_acmp .ne 10, 3) := by decide +kernel
theorem dX1_convertPlain_31 : decode cX1_convertPlain 31 = .ok (.aload_n 2, 1) := by decide +kernel
theorem dX1_convertPlain_32 : decode cX1_convertPlain 32 = .ok (.aload_n 1, 1) := by decide +kernel
theorem dX1_convertPlain_33 : decode cX1_convertPlain 33 = .ok (.invokevirtual 67, 3) := by decide +kernel
theorem dX1_convertPlain_36 : decode cX1_convertPlain 36 = .ok (.iconst 1, 1) := by decide +kernel
theorem dX1_convertPlain_37 : decode cX1_convertPlain 37 = .ok (.ireturn, 1) := by decide +kernel
theorem dX1_convertPlain_38 : decode cX1_convertPlain 38 = .ok (.aload_n 0, 1) := by decide +kernel
theorem dX1_convertPlain_39 : decode cX1_convertPlain 39 = .ok (.getfield 58, 3) := by decide +kernel
theorem dX1_convertPlain_42 : decode cX1_convertPlain 42 = .ok (.getstatic 71, 3) := by decide +kernel
theorem dX1_convertPlain_45 : decode cX1_convertPlain 45 = .ok (.if_acmp .ne 22, 3) := by decide +kernel
theorem dX1_convertPlain_48 : decode cX1_convertPlain 48 = .ok (.aload_n 2, 1) := by decide +kernel
theorem dX1_convertPlain_49 : decode cX1_convertPlain 49 = .ok (.iconst 2, 1) := by decide +kernel
theorem dX1_convertPlain_50 : decode cX1_convertPlain 50 = .ok (.aload_n 1, 1) := by decide +kernel
theorem dX1_convertPlain_51 : decode cX1_convertPlain 51 = .ok (.invokevirtual 74, 3) := by decide +kernel
theorem dX1_convertPlain_54 : decode cX1_convertPlain 54 = .ok (.ifCond .eq 7, 3) := by decide +kernel
theorem dX1_convertPlain_57 : decode cX1_convertPlain 57 = .ok (.lconst 1, 1) := by decide +kernel
theorem dX1_convertPlain_58 : decode cX1_convertPlain 58 = .ok (.goto 4, 3) := by decide +kernel
theorem dX1_convertPlain_61 : decode cX1_convertPlain 61 = .ok (.lconst 0, 1) := by decide +kernel
theorem dX1_convertPlain_62 : decode cX1_convertPlain 62 = .ok (.invokevirtual 77, 3) := by decide +kernel
theorem dX1_convertPlain_65 : decode cX1_convertPlain 65 = .ok (.iconst 1, 1) := by decide +kernel
theorem dX1_convertPlain_66 : decode cX1_convertPlain 66 = .ok (.ireturn, 1) := by decide +kernel
theorem dX1_convertPlain_67 : decode cX1_convertPlain 67 = .ok (.aload_n 0, 1) := by decide +kernel
theorem dX1_convertPlain_68 : decode cX1_convertPlain 68 = .ok (.getfield 58, 3) := by decide +kernel
theorem dX1_convertPlain_71 : decode cX1_convertPlain 71 = .ok (.getfield 81, 3) := by decide +kernel
theorem dX1_convertPlain_74 : decode cX1_convertPlain 74 = .ok (.iconst 2, 1) := by decide +kernel
theorem dX1_convertPlain_75 : decode cX1_convertPlain 75 = .ok (.if_icmp .ne 10, 3) := by decide +kernel
theorem dX1_convertPlain_78 : decode cX1_convertPlain 78 = .ok (.aload_n 0, 1) := by decide +kernel
theorem dX1_convertPlain_79 : decode cX1_convertPlain 79 = .ok (.aload_n 1, 1) := by decide +kernel
theorem dX1_convertPlain_80 : decode cX1_convertPlain 80 = .ok (.aload_n 2, 1) := by decide +kernel
theorem dX1_convertPlain_81 : decode cX1_convertPlain 81 = .ok (.invokestatic 84, 3) := by decide +kernel
theorem dX1_convertPlain_84 : decode cX1_convertPlain 84 = .ok (.ireturn, 1) := by decide +kernel
theorem dX1_convertPlain_85 : decode cX1_convertPlain 85 = .ok (.aload_n 0, 1) := by decide +kernel
theorem dX1_convertPlain_86 : decode cX1_convertPlain 86 = .ok (.getfield 58, 3) := by decide +kernel
theorem dX1_convertPlain_89 : decode cX1_convertPlain 89 = .ok (.getstatic 87, 3) := by decide +kernel
theorem dX1_convertPlain_92 : decode cX1_convertPlain 92 = .ok (.if_acmp .ne 19, 3) := by decide +kernel
theorem dX1_convertPlain_95 : decode cX1_convertPlain 95 = .ok (.aload_n 0, 1) := by decide +kernel
theorem dX1_convertPlain_96 : decode cX1_convertPlain 96 = .ok (.aload_n 1, 1) := by decide +kernel
theorem dX1_convertPlain_97 : decode cX1_convertPlain 97 = .ok (.getfield 90, 3) := by decide +kernel
theorem dX1_convertPlain_100 : decode cX1_convertPlain 100 = .ok (.invokevirtual 94, 3) := by decide +kernel
theorem dX1_convertPlain_103 : decode cX1_convertPlain 103 = .ok (.invokevirtual 100, 3) := by decide +kernel
theorem dX1_convertPlain_106 : decode cX1_convertPlain 106 = .ok (.ifCond .ne 5, 3) := by decide +kernel
theorem dX1_convertPlain_109 : decode cX1_convertPlain 109 = .ok (.iconst 0, 1) := by decide +kernel
theorem dX1_convertPlain_110 : decode cX1_convertPlain 110 = .ok (.ireturn, 1) := by decide +kernel
theorem dX1_convertPlain_111 : decode cX1_convertPlain 111 = .ok (.aload_n 2, 1) := by decide +kernel
theorem dX1_convertPlain_112 : decode cX1_convertPlain 112 = .ok (.aload_n 1, 1) := by decide +kernel
theorem dX1_convertPlain_113 : decode cX1_convertPlain 113 = .ok (.getfield 90, 3) := by decide +kernel
theorem dX1_convertPlain_116 : decode cX1_convertPlain 116 = .ok (.invokevirtual 104, 3) := by decide +kernel
theorem dX1_convertPlain_119 : decode cX1_convertPlain 119 = .ok (.iconst 1, 1) := by decide +kernel
theorem dX1_convertPlain_120 : decode cX1_convertPlain 120 = .ok (.ireturn, 1) := by decide +kernel
set_option maxRecDepth 20000 in
theorem ggX1_convertNumber_X8_becomeDouble : GoodIn wsX1_convertNumber wsX8_becomeDouble := goodIn_r _ [19, 20, 21, 22, 18, 23, 24, 25, 26, 27, 28, 29, 30, 31, 32, 33, 34, 52, 53, 54, 55, 56, 57, 58, 59, 60] rfl (by decide +kernel)
set_option maxRecDepth 20000 in
theorem gX1_convertNumber_X8_becomeDouble : GoodIn wsX1_convertNumber (wsV RX1 121 RX8 yX8_becomeDouble wsX8_becomeDouble) := goodIn_app (goodIn_of _ (by decide +kernel)) ggX1_convertNumber_X8_becomeDouble
set_option maxRecDepth 20000 in
theorem ggX1_convertNumber_X1_rounded : GoodIn wsX1_convertNumber wsX1_rounded := goodIn_r _ [38, 39] rfl (by decide +kernel)
set_option maxRecDepth 20000 in
theorem gX1_convertNumber_X1_rounded : GoodIn wsX1_convertNumber (va_wsS RX1 132 yX1_rounded wsX1_rounded) := goodIn_app (goodIn_of _ (by decide +kernel)) ggX1_convertNumber_X1_rounded
set_option maxRecDepth 20000 in
theorem ggX1_convertNumber_X1_wrapped : GoodIn wsX1_convertNumber wsX1_wrapped := goodIn_r _ [42] rfl (by decide +kernel)
set_option maxRecDepth 20000 in
theorem gX1_convertNumber_X1_wrapped : GoodIn wsX1_convertNumber (va_wsS RX1 145 yX1_wrapped wsX1_wrapped) := goodIn_app (goodIn_of _ (by decide +kernel)) ggX1_convertNumber_X1_wrapped
set_option maxRecDepth 20000 in
theorem ggX1_convertNumber_X8_becomeWhole : GoodIn wsX1_convertNumber wsX8_becomeWhole := goodIn_r _ [46, 25, 20, 21, 22, 18, 23, 24, 26, 27, 28, 29, 30, 52, 53, 54, 55, 56, 57, 58, 59, 60] rfl (by decide +kernel)
set_option maxRecDepth 20000 in
theorem gX1_convertNumber_X8_becomeWhole : GoodIn wsX1_convertNumber (wsV RX1 77 RX8 yX8_becomeWhole wsX8_becomeWhole) := goodIn_app (goodIn_of _ (by decide +kernel)) ggX1_convertNumber_X8_becomeWhole
theorem dX1_convertNumber_0 : decode cX1_convertNumber 0 = .ok (.aload_n 0, 1) := by decide +kernel
theorem dX1_convertNumber_1 : decode cX1_convertNumber 1 = .ok (.getfield 58, 3) := by decide +kernel
theorem dX1_convertNumber_4 : decode cX1_convertNumber 4 = .ok (.astore_n 3, 1) := by decide +kernel
theorem dX1_convertNumber_5 : decode cX1_convertNumber 5 = .ok (.aload_n 1, 1) := by decide +kernel
theorem dX1_convertNumber_6 : decode cX1_convertNumber 6 = .ok (.getfield 108, 3) := by decide +kernel
theorem dX1_convertNumber_9 : decode cX1_convertNumber 9 = .ok (.ifCond .ne 20, 3) := by decide +kernel
theorem dX1_convertNumber_12 : decode cX1_convertNumber 12 = .ok (.aload_n 3, 1) := by decide +kernel
theorem dX1_convertNumber_13 : decode cX1_convertNumber 13 = .ok (.getstatic 111, 3) := by decide +kernel
theorem dX1_convertNumber_16 : decode cX1_convertNumber 16 = .ok (.if_acmp .eq 11, 3) := by decide +kernel
theorem dX1_convertNumber_19 : decode cX1_convertNumber 19 = .ok (.aload_n 0, 1) := by decide +kernel
theorem dX1_convertNumber_20 : decode cX1_convertNumber 20 = .ok (.getfield 114, 3) := by decide +kernel
theorem dX1_convertNumber_23 : decode cX1_convertNumber 23 = .ok (.iconst 2, 1) := by decide +kernel
theorem dX1_convertNumber_24 : decode cX1_convertNumber 24 = .ok (.if_icmp .ne 5, 3) := by decide +kernel
theorem dX1_convertNumber_27 : decode cX1_convertNumber 27 = .ok (.iconst 0, 1) := by decide +kernel
theorem dX1_convertNumber_28 : decode cX1_convertNumber 28 = .ok (.ireturn, 1) := by decide +kernel
theorem dX1_convertNumber_29 : decode cX1_convertNumber 29 = .ok (.aload_n 1, 1) := by decide +kernel
theorem dX1_convertNumber_30 : decode cX1_convertNumber 30 = .ok (.getfield 108, 3) := by decide +kernel
theorem dX1_convertNumber_33 : decode cX1_convertNumber 33 = .ok (.ifCond .eq 10, 3) := by decide +kernel
theorem dX1_convertNumber_36 : decode cX1_convertNumber 36 = .ok (.aload_n 1, 1) := by decide +kernel
theorem dX1_convertNumber_37 : decode cX1_convertNumber 37 = .ok (.getfield 117, 3) := by decide +kernel
theorem dX1_convertNumber_40 : decode cX1_convertNumber 40 = .ok (.goto 4, 3) := by decide +kernel
theorem dX1_convertNumber_43 : decode cX1_convertNumber 43 = .ok (.dconst 0, 1) := by decide +kernel
theorem dX1_convertNumber_44 : decode cX1_convertNumber 44 = .ok (.dstore 4, 2) := by decide +kernel
theorem dX1_convertNumber_46 : decode cX1_convertNumber 46 = .ok (.aload_n 3, 1) := by decide +kernel
theorem dX1_convertNumber_47 : decode cX1_convertNumber 47 = .ok (.getstatic 111, 3) := by decide +kernel
theorem dX1_convertNumber_50 : decode cX1_convertNumber 50 = .ok (.if_acmp .ne 11, 3) := by decide +kernel
theorem dX1_convertNumber_53 : decode cX1_convertNumber 53 = .ok (.aload_n 2, 1) := by decide +kernel
theorem dX1_convertNumber_54 : decode cX1_convertNumber 54 = .ok (.dload 4, 2) := by decide +kernel
theorem dX1_convertNumber_56 : decode cX1_convertNumber 56 = .ok (.invokevirtual 121, 3) := by decide +kernel
theorem dX1_convertNumber_59 : decode cX1_convertNumber 59 = .ok (.iconst 1, 1) := by decide +kernel
theorem dX1_convertNumber_60 : decode cX1_convertNumber 60 = .ok (.ireturn, 1) := by decide +kernel
theorem dX1_convertNumber_61 : decode cX1_convertNumber 61 = .ok (.dload 4, 2) := by decide +kernel
theorem dX1_convertNumber_63 : decode cX1_convertNumber 63 = .ok (.d2l, 1) := by decide +kernel
theorem dX1_convertNumber_64 : decode cX1_convertNumber 64 = .ok (.lstore 6, 2) := by decide +kernel
theorem dX1_convertNumber_66 : decode cX1_convertNumber 66 = .ok (.aload_n 0, 1) := by decide +kernel
theorem dX1_convertNumber_67 : decode cX1_convertNumber 67 = .ok (.getfield 114, 3) := by decide +kernel
theorem dX1_convertNumber_70 : decode cX1_convertNumber 70 = .ok (.iconst 2, 1) := by decide +kernel
theorem dX1_convertNumber_71 : decode cX1_convertNumber 71 = .ok (.if_icmp .ne 25, 3) := by decide +kernel
theorem dX1_convertNumber_74 : decode cX1_convertNumber 74 = .ok (.lload 6, 2) := by decide +kernel
theorem dX1_convertNumber_76 : decode cX1_convertNumber 76 = .ok (.aload_n 3, 1) := by decide +kernel
theorem dX1_convertNumber_77 : decode cX1_convertNumber 77 = .ok (.getfield 125, 3) := by decide +kernel
theorem dX1_convertNumber_80 : decode cX1_convertNumber 80 = .ok (.lcmp, 1) := by decide +kernel
theorem dX1_convertNumber_81 : decode cX1_convertNumber 81 = .ok (.ifCond .lt 13, 3) := by decide +kernel
theorem dX1_convertNumber_84 : decode cX1_convertNumber 84 = .ok (.lload 6, 2) := by decide +kernel
theorem dX1_convertNumber_86 : decode cX1_convertNumber 86 = .ok (.aload_n 3, 1) := by decide +kernel
theorem dX1_convertNumber_87 : decode cX1_convertNumber 87 = .ok (.getfield 129, 3) := by decide +kernel
theorem dX1_convertNumber_90 : decode cX1_convertNumber 90 = .ok (.lcmp, 1) := by decide +kernel
theorem dX1_convertNumber_91 : decode cX1_convertNumber 91 = .ok (.ifCond .le 5, 3) := by decide +kernel
theorem dX1_convertNumber_94 : decode cX1_convertNumber 94 = .ok (.iconst 0, 1) := by decide +kernel
theorem dX1_convertNumber_95 : decode cX1_convertNumber 95 = .ok (.ireturn, 1) := by decide +kernel
theorem dX1_convertNumber_96 : decode cX1_convertNumber 96 = .ok (.aload_n 0, 1) := by decide +kernel
theorem dX1_convertNumber_97 : decode cX1_convertNumber 97 = .ok (.getfield 114, 3) := by decide +kernel
theorem dX1_convertNumber_100 : decode cX1_convertNumber 100 = .ok (.iconst 1, 1) := by decide +kernel
theorem dX1_convertNumber_101 : decode cX1_convertNumber 101 = .ok (.if_icmp .ne 25, 3) := by decide +kernel
theorem dX1_convertNumber_104 : decode cX1_convertNumber 104 = .ok (.aload_n 3, 1) := by decide +kernel
theorem dX1_convertNumber_105 : decode cX1_convertNumber 105 = .ok (.getfield 125, 3) := by decide +kernel
theorem dX1_convertNumber_108 : decode cX1_convertNumber 108 = .ok (.aload_n 3, 1) := by decide +kernel
theorem dX1_convertNumber_109 : decode cX1_convertNumber 109 = .ok (.getfield 129, 3) := by decide +kernel
theorem dX1_convertNumber_112 : decode cX1_convertNumber 112 = .ok (.dload 4, 2) := by decide +kernel
theorem dX1_convertNumber_114 : decode cX1_convertNumber 114 = .ok (.invokestatic 132, 3) := by decide +kernel
theorem dX1_convertNumber_117 : decode cX1_convertNumber 117 = .ok (.invokestatic 136, 3) := by decide +kernel
theorem dX1_convertNumber_120 : decode cX1_convertNumber 120 = .ok (.invokestatic 142, 3) := by decide +kernel
theorem dX1_convertNumber_123 : decode cX1_convertNumber 123 = .ok (.goto 16, 3) := by decide +kernel
theorem dX1_convertNumber_126 : decode cX1_convertNumber 126 = .ok (.lload 6, 2) := by decide +kernel
theorem dX1_convertNumber_128 : decode cX1_convertNumber 128 = .ok (.aload_n 3, 1) := by decide +kernel
theorem dX1_convertNumber_129 : decode cX1_convertNumber 129 = .ok (.getfield 125, 3) := by decide +kernel
theorem dX1_convertNumber_132 : decode cX1_convertNumber 132 = .ok (.aload_n 3, 1) := by decide +kernel
theorem dX1_convertNumber_133 : decode cX1_convertNumber 133 = .ok (.getfield 129, 3) := by decide +kernel
theorem dX1_convertNumber_136 : decode cX1_convertNumber 136 = .ok (.invokestatic 145, 3) := by decide +kernel
theorem dX1_convertNumber_139 : decode cX1_convertNumber 139 = .ok (.lstore 8, 2) := by decide +kernel
theorem dX1_convertNumber_141 : decode cX1_convertNumber 141 = .ok (.aload_n 2, 1) := by decide +kernel
theorem dX1_convertNumber_142 : decode cX1_convertNumber 142 = .ok (.iconst 3, 1) := by decide +kernel
theorem dX1_convertNumber_143 : decode cX1_convertNumber 143 = .ok (.lload 8, 2) := by decide +kernel
theorem dX1_convertNumber_145 : decode cX1_convertNumber 145 = .ok (.invokevirtual 77, 3) := by decide +kernel
theorem dX1_convertNumber_148 : decode cX1_convertNumber 148 = .ok (.iconst 1, 1) := by decide +kernel
theorem dX1_convertNumber_149 : decode cX1_convertNumber 149 = .ok (.ireturn, 1) := by decide +kernel
theorem dX1_wrapped_0 : decode cX1_wrapped 0 = .ok (.lload_n 0, 1) := by decide +kernel
theorem dX1_wrapped_1 : decode cX1_wrapped 1 = .ok (.lload_n 2, 1) := by decide +kernel
theorem dX1_wrapped_2 : decode cX1_wrapped 2 = .ok (.lsub, 1) := by decide +kernel
theorem dX1_wrapped_3 : decode cX1_wrapped 3 = .ok (.lload 4, 2) := by decide +kernel
theorem dX1_wrapped_5 : decode cX1_wrapped 5 = .ok (.lload_n 2, 1) := by decide +kernel
theorem dX1_wrapped_6 : decode cX1_wrapped 6 = .ok (.lsub, 1) := by decide +kernel
theorem dX1_wrapped_7 : decode cX1_wrapped 7 = .ok (.land, 1) := by decide +kernel
theorem dX1_wrapped_8 : decode cX1_wrapped 8 = .ok (.lload_n 2, 1) := by decide +kernel
theorem dX1_wrapped_9 : decode cX1_wrapped 9 = .ok (.ladd, 1) := by decide +kernel
theorem dX1_wrapped_10 : decode cX1_wrapped 10 = .ok (.lreturn, 1) := by decide +kernel
theorem dX1_rounded_0 : decode cX1_rounded 0 = .ok (.dload_n 0, 1) := by decide +kernel
theorem dX1_rounded_1 : decode cX1_rounded 1 = .ok (.d2l, 1) := by decide +kernel
theorem dX1_rounded_2 : decode cX1_rounded 2 = .ok (.lstore_n 2, 1) := by decide +kernel
theorem dX1_rounded_3 : decode cX1_rounded 3 = .ok (.dload_n 0, 1) := by decide +kernel
theorem dX1_rounded_4 : decode cX1_rounded 4 = .ok (.lload_n 2, 1) := by decide +kernel
theorem dX1_rounded_5 : decode cX1_rounded 5 = .ok (.l2d, 1) := by decide +kernel
theorem dX1_rounded_6 : decode cX1_rounded 6 = .ok (.dsub, 1) := by decide +kernel
theorem dX1_rounded_7 : decode cX1_rounded 7 = .ok (.dstore 4, 2) := by decide +kernel
theorem dX1_rounded_9 : decode cX1_rounded 9 = .ok (.dload 4, 2) := by decide +kernel
theorem dX1_rounded_11 : decode cX1_rounded 11 = .ok (.dconst 0, 1) := by decide +kernel
theorem dX1_rounded_12 : decode cX1_rounded 12 = .ok (.dcmp .g, 1) := by decide +kernel
theorem dX1_rounded_13 : decode cX1_rounded 13 = .ok (.ifCond .ge 9, 3) := by decide +kernel
theorem dX1_rounded_16 : decode cX1_rounded 16 = .ok (.dload 4, 2) := by decide +kernel
theorem dX1_rounded_18 : decode cX1_rounded 18 = .ok (.dneg, 1) := by decide +kernel
theorem dX1_rounded_19 : decode cX1_rounded 19 = .ok (.goto 5, 3) := by decide +kernel
theorem dX1_rounded_22 : decode cX1_rounded 22 = .ok (.dload 4, 2) := by decide +kernel
theorem dX1_rounded_24 : decode cX1_rounded 24 = .ok (.dstore 6, 2) := by decide +kernel
theorem dX1_rounded_26 : decode cX1_rounded 26 = .ok (.dload 6, 2) := by decide +kernel
theorem dX1_rounded_28 : decode cX1_rounded 28 = .ok (.ldc2_w 149, 3) := by decide +kernel
theorem dX1_rounded_31 : decode cX1_rounded 31 = .ok (.dcmp .l, 1) := by decide +kernel
theorem dX1_rounded_32 : decode cX1_rounded 32 = .ok (.ifCond .gt 20, 3) := by decide +kernel
theorem dX1_rounded_35 : decode cX1_rounded 35 = .ok (.dload 6, 2) := by decide +kernel
theorem dX1_rounded_37 : decode cX1_rounded 37 = .ok (.ldc2_w 149, 3) := by decide +kernel
theorem dX1_rounded_40 : decode cX1_rounded 40 = .ok (.dcmp .l, 1) := by decide +kernel
theorem dX1_rounded_41 : decode cX1_rounded 41 = .ok (.ifCond .ne 28, 3) := by decide +kernel
theorem dX1_rounded_44 : decode cX1_rounded 44 = .ok (.lload_n 2, 1) := by decide +kernel
theorem dX1_rounded_45 : decode cX1_rounded 45 = .ok (.lconst 1, 1) := by decide +kernel
theorem dX1_rounded_46 : decode cX1_rounded 46 = .ok (.land, 1) := by decide +kernel
theorem dX1_rounded_47 : decode cX1_rounded 47 = .ok (.lconst 0, 1) := by decide +kernel
theorem dX1_rounded_48 : decode cX1_rounded 48 = .ok (.lcmp, 1) := by decide +kernel
theorem dX1_rounded_49 : decode cX1_rounded 49 = .ok (.ifCond .eq 20, 3) := by decide +kernel
theorem dX1_rounded_52 : decode cX1_rounded 52 = .ok (.dload 4, 2) := by decide +kernel
theorem dX1_rounded_54 : decode cX1_rounded 54 = .ok (.dconst 0, 1) := by decide +kernel
theorem dX1_rounded_55 : decode cX1_rounded 55 = .ok (.dcmp .g, 1) := by decide +kernel
theorem dX1_rounded_56 : decode cX1_rounded 56 = .ok (.ifCond .ge 9, 3) := by decide +kernel
theorem dX1_rounded_59 : decode cX1_rounded 59 = .ok (.lload_n 2, 1) := by decide +kernel
theorem dX1_rounded_60 : decode cX1_rounded 60 = .ok (.lconst 1, 1) := by decide +kernel
theorem dX1_rounded_61 : decode cX1_rounded 61 = .ok (.lsub, 1) := by decide +kernel
theorem dX1_rounded_62 : decode cX1_rounded 62 = .ok (.goto 6, 3) := by decide +kernel
theorem dX1_rounded_65 : decode cX1_rounded 65 = .ok (.lload_n 2, 1) := by decide +kernel
theorem dX1_rounded_66 : decode cX1_rounded 66 = .ok (.lconst 1, 1) := by decide +kernel
theorem dX1_rounded_67 : decode cX1_rounded 67 = .ok (.ladd, 1) := by decide +kernel
theorem dX1_rounded_68 : decode cX1_rounded 68 = .ok (.lreturn, 1) := by decide +kernel
theorem dX1_rounded_69 : decode cX1_rounded 69 = .ok (.lload_n 2, 1) := by decide +kernel
theorem dX1_rounded_70 : decode cX1_rounded 70 = .ok (.lreturn, 1) := by decide +kernel
theorem dX2_init_0 : decode cX2_init 0 = .ok (.aload_n 0, 1) := by decide +kernel
theorem dX2_init_1 : decode cX2_init 1 = .ok (.invokespecial 3, 3) := by decide +kernel
theorem dX2_init_4 : decode cX2_init 4 = .ok (.aload_n 0, 1) := by decide +kernel
theorem dX2_init_5 : decode cX2_init 5 = .ok (.iconst (-1), 1) := by decide +kernel
theorem dX2_init_6 : decode cX2_init 6 = .ok (.putfield 9, 3) := by decide +kernel
theorem dX2_init_9 : decode cX2_init 9 = .ok (.aload_n 0, 1) := by decide +kernel
theorem dX2_init_10 : decode cX2_init 10 = .ok (.iconst 5, 1) := by decide +kernel
theorem dX2_init_11 : decode cX2_init 11 = .ok (.anewarray 15, 3) := by decide +kernel
theorem dX2_init_14 : decode cX2_init 14 = .ok (.putfield 17, 3) := by decide +kernel
theorem dX2_init_17 : decode cX2_init 17 = .ok (.aload_n 0, 1) := by decide +kernel
theorem dX2_init_18 : decode cX2_init 18 = .ok (.iconst 0, 1) := by decide +kernel
theorem dX2_init_19 : decode cX2_init 19 = .ok (.putfield 21, 3) := by decide +kernel
theorem dX2_init_22 : decode cX2_init 22 = .ok (.aload_n 0, 1) := by decide +kernel
theorem dX2_init_23 : decode cX2_init 23 = .ok (.iconst 0, 1) := by decide +kernel
theorem dX2_init_24 : decode cX2_init 24 = .ok (.putfield 24, 3) := by decide +kernel
theorem dX2_init_27 : decode cX2_init 27 = .ok (.aload_n 0, 1) := by decide +kernel
theorem dX2_init_28 : decode cX2_init 28 = .ok (.iload_n 1, 1) := by decide +kernel
theorem dX2_init_29 : decode cX2_init 29 = .ok (.putfield 28, 3) := by decide +kernel
theorem dX2_init_32 : decode cX2_init 32 = .ok (.return_, 1) := by decide +kernel
theorem dX2_append_0 : decode cX2_append 0 = .ok (.aload_n 0, 1) := by decide +kernel
theorem dX2_append_1 : decode cX2_append 1 = .ok (.getfield 21, 3) := by decide +kernel
theorem dX2_append_4 : decode cX2_append 4 = .ok (.ifCond .lt 43, 3) := by decide +kernel
theorem dX2_append_7 : decode cX2_append 7 = .ok (.aload_n 0, 1) := by decide +kernel
theorem dX2_append_8 : decode cX2_append 8 = .ok (.getfield 21, 3) := by decide +kernel
theorem dX2_append_11 : decode cX2_append 11 = .ok (.aload_n 0, 1) := by decide +kernel
theorem dX2_append_12 : decode cX2_append 12 = .ok (.getfield 17, 3) := by decide +kernel
theorem dX2_append_15 : decode cX2_append 15 = .ok (.arraylength, 1) := by decide +kernel
theorem dX2_append_16 : decode cX2_append 16 = .ok (.if_icmp .ge 31, 3) := by decide +kernel
theorem dX2_append_19 : decode cX2_append 19 = .ok (.aload_n 0, 1) := by decide +kernel
theorem dX2_append_20 : decode cX2_append 20 = .ok (.getfield 17, 3) := by decide +kernel
theorem dX2_append_23 : decode cX2_append 23 = .ok (.aload_n 0, 1) := by decide +kernel
theorem dX2_append_24 : decode cX2_append 24 = .ok (.getfield 21, 3) := by decide +kernel
theorem dX2_append_27 : decode cX2_append 27 = .ok (.aload_n 1, 1) := by decide +kernel
theorem dX2_append_28 : decode cX2_append 28 = .ok (.aastore, 1) := by decide +kernel
theorem dX2_append_29 : decode cX2_append 29 = .ok (.aload_n 0, 1) := by decide +kernel
theorem dX2_append_30 : decode cX2_append 30 = .ok (.dup, 1) := by decide +kernel
theorem dX2_append_31 : decode cX2_append 31 = .ok (.getfield 21, 3) := by decide +kernel
theorem dX2_append_34 : decode cX2_append 34 = .ok (.iconst 1, 1) := by decide +kernel
theorem dX2_append_35 : decode cX2_append 35 = .ok (.iadd, 1) := by decide +kernel
theorem dX2_append_36 : decode cX2_append 36 = .ok (.putfield 21, 3) := by decide +kernel
theorem dX2_append_39 : decode cX2_append 39 = .ok (.aload_n 0, 1) := by decide +kernel
theorem dX2_append_40 : decode cX2_append 40 = .ok (.aload_n 1, 1) := by decide +kernel
theorem dX2_append_41 : decode cX2_append 41 = .ok (.getfield 31, 3) := by decide +kernel
theorem dX2_append_44 : decode cX2_append 44 = .ok (.putfield 24, 3) := by decide +kernel
theorem dX2_append_47 : decode cX2_append 47 = .ok (.return_, 1) := by decide +kernel
theorem dX2_argumentAt_0 : decode cX2_argumentAt 0 = .ok (.aload_n 0, 1) := by decide +kernel
theorem dX2_argumentAt_1 : decode cX2_argumentAt 1 = .ok (.getfield 24, 3) := by decide +kernel
theorem dX2_argumentAt_4 : decode cX2_argumentAt 4 = .ok (.ifCond .eq 16, 3) := by decide +kernel
theorem dX2_argumentAt_7 : decode cX2_argumentAt 7 = .ok (.iload_n 1, 1) := by decide +kernel
theorem dX2_argumentAt_8 : decode cX2_argumentAt 8 = .ok (.aload_n 0, 1) := by decide +kernel
theorem dX2_argumentAt_9 : decode cX2_argumentAt 9 = .ok (.getfield 21, 3) := by decide +kernel
theorem dX2_argumentAt_12 : decode cX2_argumentAt 12 = .ok (.iconst 1, 1) := by decide +kernel
theorem dX2_argumentAt_13 : decode cX2_argumentAt 13 = .ok (.isub, 1) := by decide +kernel
theorem dX2_argumentAt_14 : decode cX2_argumentAt 14 = .ok (.invokestatic 32, 3) := by decide +kernel
theorem dX2_argumentAt_17 : decode cX2_argumentAt 17 = .ok (.goto 4, 3) := by decide +kernel
theorem dX2_argumentAt_20 : decode cX2_argumentAt 20 = .ok (.iload_n 1, 1) := by decide +kernel
theorem dX2_argumentAt_21 : decode cX2_argumentAt 21 = .ok (.istore_n 2, 1) := by decide +kernel
theorem dX2_argumentAt_22 : decode cX2_argumentAt 22 = .ok (.iload_n 2, 1) := by decide +kernel
theorem dX2_argumentAt_23 : decode cX2_argumentAt 23 = .ok (.ifCond .lt 29, 3) := by decide +kernel
theorem dX2_argumentAt_26 : decode cX2_argumentAt 26 = .ok (.iload_n 2, 1) := by decide +kernel
theorem dX2_argumentAt_27 : decode cX2_argumentAt 27 = .ok (.aload_n 0, 1) := by decide +kernel
theorem dX2_argumentAt_28 : decode cX2_argumentAt 28 = .ok (.getfield 21, 3) := by decide +kernel
theorem dX2_argumentAt_31 : decode cX2_argumentAt 31 = .ok (.if_icmp .ge 21, 3) := by decide +kernel
theorem dX2_argumentAt_34 : decode cX2_argumentAt 34 = .ok (.iload_n 2, 1) := by decide +kernel
theorem dX2_argumentAt_35 : decode cX2_argumentAt 35 = .ok (.aload_n 0, 1) := by decide +kernel
theorem dX2_argumentAt_36 : decode cX2_argumentAt 36 = .ok (.getfield 17, 3) := by decide +kernel
theorem dX2_argumentAt_39 : decode cX2_argumentAt 39 = .ok (.arraylength, 1) := by decide +kernel
theorem dX2_argumentAt_40 : decode cX2_argumentAt 40 = .ok (.if_icmp .ge 12, 3) := by decide +kernel
theorem dX2_argumentAt_43 : decode cX2_argumentAt 43 = .ok (.aload_n 0, 1) := by decide +kernel
theorem dX2_argumentAt_44 : decode cX2_argumentAt 44 = .ok (.getfield 17, 3) := by decide +kernel
theorem dX2_argumentAt_47 : decode cX2_argumentAt 47 = .ok (.iload_n 2, 1) := by decide +kernel
theorem dX2_argumentAt_48 : decode cX2_argumentAt 48 = .ok (.aaload, 1) := by decide +kernel
theorem dX2_argumentAt_49 : decode cX2_argumentAt 49 = .ok (.goto 4, 3) := by decide +kernel
theorem dX2_argumentAt_52 : decode cX2_argumentAt 52 = .ok (.aconst_null, 1) := by decide +kernel
theorem dX2_argumentAt_53 : decode cX2_argumentAt 53 = .ok (.areturn, 1) := by decide +kernel
set_option maxRecDepth 20000 in
theorem ggX2_leastArguments_X2_argumentAt : GoodIn wsX2_leastArguments wsX2_argumentAt := goodIn_r _ [6, 7, 1, 8, 9, 10, 11, 12, 20, 21, 22, 23, 24] rfl (by decide +kernel)
set_option maxRecDepth 20000 in
theorem gX2_leastArguments_X2_argumentAt : GoodIn wsX2_leastArguments (wsV RX2 38 RX2 yX2_argumentAt wsX2_argumentAt) := goodIn_app (goodIn_of _ (by decide +kernel)) ggX2_leastArguments_X2_argumentAt
set_option maxRecDepth 20000 in
theorem ggX2_leastArguments_X0_canBeMissing : GoodIn wsX2_leastArguments wsX0_canBeMissing := goodIn_r _ [17, 18, 19, 25, 26, 27] rfl (by decide +kernel)
set_option maxRecDepth 20000 in
theorem gX2_leastArguments_X0_canBeMissing : GoodIn wsX2_leastArguments (wsV RX2 42 RX0 yX0_canBeMissing wsX0_canBeMissing) := goodIn_app (goodIn_of _ (by decide +kernel)) ggX2_leastArguments_X0_canBeMissing
theorem dX2_leastArguments_0 : decode cX2_leastArguments 0 = .ok (.aload_n 0, 1) := by decide +kernel
theorem dX2_leastArguments_1 : decode cX2_leastArguments 1 = .ok (.getfield 21, 3) := by decide +kernel
theorem dX2_leastArguments_4 : decode cX2_leastArguments 4 = .ok (.istore_n 1, 1) := by decide +kernel
theorem dX2_leastArguments_5 : decode cX2_leastArguments 5 = .ok (.iload_n 1, 1) := by decide +kernel
theorem dX2_leastArguments_6 : decode cX2_leastArguments 6 = .ok (.ifCond .le 30, 3) := by decide +kernel
theorem dX2_leastArguments_9 : decode cX2_leastArguments 9 = .ok (.aload_n 0, 1) := by decide +kernel
theorem dX2_leastArguments_10 : decode cX2_leastArguments 10 = .ok (.iload_n 1, 1) := by decide +kernel
theorem dX2_leastArguments_11 : decode cX2_leastArguments 11 = .ok (.iconst 1, 1) := by decide +kernel
theorem dX2_leastArguments_12 : decode cX2_leastArguments 12 = .ok (.isub, 1) := by decide +kernel
theorem dX2_leastArguments_13 : decode cX2_leastArguments 13 = .ok (.invokevirtual 38, 3) := by decide +kernel
theorem dX2_leastArguments_16 : decode cX2_leastArguments 16 = .ok (.astore_n 2, 1) := by decide +kernel
theorem dX2_leastArguments_17 : decode cX2_leastArguments 17 = .ok (.aload_n 2, 1) := by decide +kernel
theorem dX2_leastArguments_18 : decode cX2_leastArguments 18 = .ok (.ifnull 10, 3) := by decide +kernel
theorem dX2_leastArguments_21 : decode cX2_leastArguments 21 = .ok (.aload_n 2, 1) := by decide +kernel
theorem dX2_leastArguments_22 : decode cX2_leastArguments 22 = .ok (.invokevirtual 42, 3) := by decide +kernel
theorem dX2_leastArguments_25 : decode cX2_leastArguments 25 = .ok (.ifCond .ne 5, 3) := by decide +kernel
theorem dX2_leastArguments_28 : decode cX2_leastArguments 28 = .ok (.iload_n 1, 1) := by decide +kernel
theorem dX2_leastArguments_29 : decode cX2_leastArguments 29 = .ok (.ireturn, 1) := by decide +kernel
theorem dX2_leastArguments_30 : decode cX2_leastArguments 30 = .ok (.iinc 1 (-1), 3) := by decide +kernel
theorem dX2_leastArguments_33 : decode cX2_leastArguments 33 = .ok (.goto (-28), 3) := by decide +kernel
theorem dX2_leastArguments_36 : decode cX2_leastArguments 36 = .ok (.iconst 0, 1) := by decide +kernel
theorem dX2_leastArguments_37 : decode cX2_leastArguments 37 = .ok (.ireturn, 1) := by decide +kernel
theorem dX2_mostArguments_0 : decode cX2_mostArguments 0 = .ok (.aload_n 0, 1) := by decide +kernel
theorem dX2_mostArguments_1 : decode cX2_mostArguments 1 = .ok (.getfield 24, 3) := by decide +kernel
theorem dX2_mostArguments_4 : decode cX2_mostArguments 4 = .ok (.ifCond .eq 8, 3) := by decide +kernel
theorem dX2_mostArguments_7 : decode cX2_mostArguments 7 = .ok (.bipush 8, 2) := by decide +kernel
theorem dX2_mostArguments_9 : decode cX2_mostArguments 9 = .ok (.goto 7, 3) := by decide +kernel
theorem dX2_mostArguments_12 : decode cX2_mostArguments 12 = .ok (.aload_n 0, 1) := by decide +kernel
theorem dX2_mostArguments_13 : decode cX2_mostArguments 13 = .ok (.getfield 21, 3) := by decide +kernel
theorem dX2_mostArguments_16 : decode cX2_mostArguments 16 = .ok (.ireturn, 1) := by decide +kernel
set_option maxRecDepth 20000 in
theorem ggX2_canBeCalledWith_X2_leastArguments : GoodIn wsX2_canBeCalledWith wsX2_leastArguments := goodIn_r _ [5, 6, 7, 8, 9, 4, 10, 11, 12, 13, 14, 15, 16, 17, 18, 19, 20, 21, 22, 23, 28, 29, 30, 31, 32, 33, 34, 35] rfl (by decide +kernel)
set_option maxRecDepth 20000 in
theorem gX2_canBeCalledWith_X2_leastArguments : GoodIn wsX2_canBeCalledWith (wsV RX2 46 RX2 yX2_leastArguments wsX2_leastArguments) := goodIn_app (goodIn_of _ (by decide +kernel)) ggX2_canBeCalledWith_X2_leastArguments
set_option maxRecDepth 20000 in
theorem ggX2_canBeCalledWith_X2_mostArguments : GoodIn wsX2_canBeCalledWith wsX2_mostArguments := goodIn_r _ [27, 11, 6, 28, 29, 30, 31, 32] rfl (by decide +kernel)
set_option maxRecDepth 20000 in
theorem gX2_canBeCalledWith_X2_mostArguments : GoodIn wsX2_canBeCalledWith (wsV RX2 50 RX2 yX2_mostArguments wsX2_mostArguments) := goodIn_app (goodIn_of _ (by decide +kernel)) ggX2_canBeCalledWith_X2_mostArguments
theorem dX2_canBeCalledWith_0 : decode cX2_canBeCalledWith 0 = .ok (.iload_n 1, 1) := by decide +kernel
theorem dX2_canBeCalledWith_1 : decode cX2_canBeCalledWith 1 = .ok (.aload_n 0, 1) := by decide +kernel
theorem dX2_canBeCalledWith_2 : decode cX2_canBeCalledWith 2 = .ok (.invokevirtual 46, 3) := by decide +kernel
theorem dX2_canBeCalledWith_5 : decode cX2_canBeCalledWith 5 = .ok (.if_icmp .lt 15, 3) := by decide +kernel
theorem dX2_canBeCalledWith_8 : decode cX2_canBeCalledWith 8 = .ok (.iload_n 1, 1) := by decide +kernel
theorem dX2_canBeCalledWith_9 : decode cX2_canBeCalledWith 9 = .ok (.aload_n 0, 1) := by decide +kernel
theorem dX2_canBeCalledWith_10 : decode cX2_canBeCalledWith 10 = .ok (.invokevirtual 50, 3) := by decide +kernel
theorem dX2_canBeCalledWith_13 : decode cX2_canBeCalledWith 13 = .ok (.if_icmp .gt 7, 3) := by decide +kernel
theorem dX2_canBeCalledWith_16 : decode cX2_canBeCalledWith 16 = .ok (.iconst 1, 1) := by decide +kernel
theorem dX2_canBeCalledWith_17 : decode cX2_canBeCalledWith 17 = .ok (.goto 4, 3) := by decide +kernel
theorem dX2_canBeCalledWith_20 : decode cX2_canBeCalledWith 20 = .ok (.iconst 0, 1) := by decide +kernel
theorem dX2_canBeCalledWith_21 : decode cX2_canBeCalledWith 21 = .ok (.ireturn, 1) := by decide +kernel
theorem dX3_hasBounds_0 : decode cX3_hasBounds 0 = .ok (.aload_n 0, 1) := by decide +kernel
theorem dX3_hasBounds_1 : decode cX3_hasBounds 1 = .ok (.getfield 63, 3) := by decide +kernel
theorem dX3_hasBounds_4 : decode cX3_hasBounds 4 = .ok (.aload_n 0, 1) := by decide +kernel
theorem dX3_hasBounds_5 : decode cX3_hasBounds 5 = .ok (.getfield 67, 3) := by decide +kernel
theorem dX3_hasBounds_8 : decode cX3_hasBounds 8 = .ok (.lcmp, 1) := by decide +kernel
theorem dX3_hasBounds_9 : decode cX3_hasBounds 9 = .ok (.ifCond .ge 7, 3) := by decide +kernel
theorem dX3_hasBounds_12 : decode cX3_hasBounds 12 = .ok (.iconst 1, 1) := by decide +kernel
theorem dX3_hasBounds_13 : decode cX3_hasBounds 13 = .ok (.goto 4, 3) := by decide +kernel
theorem dX3_hasBounds_16 : decode cX3_hasBounds 16 = .ok (.iconst 0, 1) := by decide +kernel
theorem dX3_hasBounds_17 : decode cX3_hasBounds 17 = .ok (.ireturn, 1) := by decide +kernel
theorem dX4_init_0 : decode cX4_init 0 = .ok (.aload_n 0, 1) := by decide +kernel
theorem dX4_init_1 : decode cX4_init 1 = .ok (.invokespecial 3, 3) := by decide +kernel
theorem dX4_init_4 : decode cX4_init 4 = .ok (.aload_n 0, 1) := by decide +kernel
theorem dX4_init_5 : decode cX4_init 5 = .ok (.dconst 0, 1) := by decide +kernel
theorem dX4_init_6 : decode cX4_init 6 = .ok (.putfield 9, 3) := by decide +kernel
theorem dX4_init_9 : decode cX4_init 9 = .ok (.return_, 1) := by decide +kernel
set_option maxRecDepth 20000 in
theorem ggX4_read_X7_at : GoodIn wsX4_read wsX7_at := goodIn_r _ [7, 8, 9, 29, 30] rfl (by decide +kernel)
set_option maxRecDepth 20000 in
theorem gX4_read_X7_at : GoodIn wsX4_read (wsV RX4 21 RX7 yX7_at wsX7_at) := goodIn_app (goodIn_of _ (by decide +kernel)) ggX4_read_X7_at
set_option maxRecDepth 20000 in
theorem ggX4_read_X4_readHexadecimal : GoodIn wsX4_read wsX4_readHexadecimal := goodIn_r _ [14, 15, 1, 3, 4, 5, 6, 7, 8, 9, 16, 17, 13, 18, 19, 20, 21, 28, 29, 30] rfl (by decide +kernel)
set_option maxRecDepth 20000 in
theorem gX4_read_X4_readHexadecimal : GoodIn wsX4_read (wsV RX4 25 RX4 yX4_readHexadecimal wsX4_readHexadecimal) := goodIn_app (goodIn_of _ (by decide +kernel)) ggX4_read_X4_readHexadecimal
set_option maxRecDepth 20000 in
theorem ggX4_read_X4_readDecimal : GoodIn wsX4_read wsX4_readDecimal := goodIn_r _ [25, 26, 27, 1, 3, 4, 5, 6, 7, 8, 9, 19, 20, 13, 21, 28, 29, 30] rfl (by decide +kernel)
set_option maxRecDepth 20000 in
theorem gX4_read_X4_readDecimal : GoodIn wsX4_read (wsV RX4 29 RX4 yX4_readDecimal wsX4_readDecimal) := goodIn_app (goodIn_of _ (by decide +kernel)) ggX4_read_X4_readDecimal
theorem dX4_read_0 : decode cX4_read 0 = .ok (.aload_n 0, 1) := by decide +kernel
theorem dX4_read_1 : decode cX4_read 1 = .ok (.dconst 0, 1) := by decide +kernel
theorem dX4_read_2 : decode cX4_read 2 = .ok (.putfield 9, 3) := by decide +kernel
theorem dX4_read_5 : decode cX4_read 5 = .ok (.iconst 0, 1) := by decide +kernel
theorem dX4_read_6 : decode cX4_read 6 = .ok (.istore_n 2, 1) := by decide +kernel
theorem dX4_read_7 : decode cX4_read 7 = .ok (.aload_n 1, 1) := by decide +kernel
theorem dX4_read_8 : decode cX4_read 8 = .ok (.getfield 15, 3) := by decide +kernel
theorem dX4_read_11 : decode cX4_read 11 = .ok (.istore_n 3, 1) := by decide +kernel
theorem dX4_read_12 : decode cX4_read 12 = .ok (.iload_n 2, 1) := by decide +kernel
theorem dX4_read_13 : decode cX4_read 13 = .ok (.iload_n 3, 1) := by decide +kernel
theorem dX4_read_14 : decode cX4_read 14 = .ok (.if_icmp .ge 19, 3) := by decide +kernel
theorem dX4_read_17 : decode cX4_read 17 = .ok (.aload_n 1, 1) := by decide +kernel
theorem dX4_read_18 : decode cX4_read 18 = .ok (.iload_n 2, 1) := by decide +kernel
theorem dX4_read_19 : decode cX4_read 19 = .ok (.invokevirtual 21, 3) := by decide +kernel
theorem dX4_read_22 : decode cX4_read 22 = .ok (.bipush 32, 2) := by decide +kernel
theorem dX4_read_24 : decode cX4_read 24 = .ok (.if_icmp .ne 9, 3) := by decide +kernel
theorem dX4_read_27 : decode cX4_read 27 = .ok (.iinc 2 1, 3) := by decide +kernel
theorem dX4_read_30 : decode cX4_read 30 = .ok (.goto (-18), 3) := by decide +kernel
theorem dX4_read_33 : decode cX4_read 33 = .ok (.iload_n 3, 1) := by decide +kernel
theorem dX4_read_34 : decode cX4_read 34 = .ok (.iload_n 2, 1) := by decide +kernel
theorem dX4_read_35 : decode cX4_read 35 = .ok (.if_icmp .le 21, 3) := by decide +kernel
theorem dX4_read_38 : decode cX4_read 38 = .ok (.aload_n 1, 1) := by decide +kernel
theorem dX4_read_39 : decode cX4_read 39 = .ok (.iload_n 3, 1) := by decide +kernel
theorem dX4_read_40 : decode cX4_read 40 = .ok (.iconst 1, 1) := by decide +kernel
theorem dX4_read_41 : decode cX4_read 41 = .ok (.isub, 1) := by decide +kernel
theorem dX4_read_42 : decode cX4_read 42 = .ok (.invokevirtual 21, 3) := by decide +kernel
theorem dX4_read_45 : decode cX4_read 45 = .ok (.bipush 32, 2) := by decide +kernel
theorem dX4_read_47 : decode cX4_read 47 = .ok (.if_icmp .ne 9, 3) := by decide +kernel
theorem dX4_read_50 : decode cX4_read 50 = .ok (.iinc 3 (-1), 3) := by decide +kernel
theorem dX4_read_53 : decode cX4_read 53 = .ok (.goto (-20), 3) := by decide +kernel
theorem dX4_read_56 : decode cX4_read 56 = .ok (.iload_n 2, 1) := by decide +kernel
theorem dX4_read_57 : decode cX4_read 57 = .ok (.iload_n 3, 1) := by decide +kernel
theorem dX4_read_58 : decode cX4_read 58 = .ok (.if_icmp .ne 5, 3) := by decide +kernel
theorem dX4_read_61 : decode cX4_read 61 = .ok (.iconst 1, 1) := by decide +kernel
theorem dX4_read_62 : decode cX4_read 62 = .ok (.ireturn, 1) := by decide +kernel
theorem dX4_read_63 : decode cX4_read 63 = .ok (.aload_n 1, 1) := by decide +kernel
theorem dX4_read_64 : decode cX4_read 64 = .ok (.iload_n 2, 1) := by decide +kernel
theorem dX4_read_65 : decode cX4_read 65 = .ok (.invokevirtual 21, 3) := by decide +kernel
theorem dX4_read_68 : decode cX4_read 68 = .ok (.bipush 48, 2) := by decide +kernel
theorem dX4_read_70 : decode cX4_read 70 = .ok (.if_icmp .ne 25, 3) := by decide +kernel
theorem dX4_read_73 : decode cX4_read 73 = .ok (.aload_n 1, 1) := by decide +kernel
theorem dX4_read_74 : decode cX4_read 74 = .ok (.iload_n 2, 1) := by decide +kernel
theorem dX4_read_75 : decode cX4_read 75 = .ok (.iconst 1, 1) := by decide +kernel
theorem dX4_read_76 : decode cX4_read 76 = .ok (.iadd, 1) := by decide +kernel
theorem dX4_read_77 : decode cX4_read 77 = .ok (.invokevirtual 21, 3) := by decide +kernel
theorem dX4_read_80 : decode cX4_read 80 = .ok (.bipush 120, 2) := by decide +kernel
theorem dX4_read_82 : decode cX4_read 82 = .ok (.if_icmp .ne 13, 3) := by decide +kernel
theorem dX4_read_85 : decode cX4_read 85 = .ok (.aload_n 0, 1) := by decide +kernel
theorem dX4_read_86 : decode cX4_read 86 = .ok (.aload_n 1, 1) := by decide +kernel
theorem dX4_read_87 : decode cX4_read 87 = .ok (.iload_n 2, 1) := by decide +kernel
theorem dX4_read_88 : decode cX4_read 88 = .ok (.iconst 2, 1) := by decide +kernel
theorem dX4_read_89 : decode cX4_read 89 = .ok (.iadd, 1) := by decide +kernel
theorem dX4_read_90 : decode cX4_read 90 = .ok (.iload_n 3, 1) := by decide +kernel
theorem dX4_read_91 : decode cX4_read 91 = .ok (.invokevirtual 25, 3) := by decide +kernel
theorem dX4_read_94 : decode cX4_read 94 = .ok (.ireturn, 1) := by decide +kernel
theorem dX4_read_95 : decode cX4_read 95 = .ok (.aload_n 1, 1) := by decide +kernel
theorem dX4_read_96 : decode cX4_read 96 = .ok (.iload_n 2, 1) := by decide +kernel
theorem dX4_read_97 : decode cX4_read 97 = .ok (.invokevirtual 21, 3) := by decide +kernel
theorem dX4_read_100 : decode cX4_read 100 = .ok (.bipush 45, 2) := by decide +kernel
theorem dX4_read_102 : decode cX4_read 102 = .ok (.if_icmp .ne 7, 3) := by decide +kernel
theorem dX4_read_105 : decode cX4_read 105 = .ok (.iconst 1, 1) := by decide +kernel
theorem dX4_read_106 : decode cX4_read 106 = .ok (.goto 4, 3) := by decide +kernel
theorem dX4_read_109 : decode cX4_read 109 = .ok (.iconst 0, 1) := by decide +kernel
theorem dX4_read_110 : decode cX4_read 110 = .ok (.istore 4, 2) := by decide +kernel
theorem dX4_read_112 : decode cX4_read 112 = .ok (.iload 4, 2) := by decide +kernel
theorem dX4_read_114 : decode cX4_read 114 = .ok (.ifCond .ne 13, 3) := by decide +kernel
theorem dX4_read_117 : decode cX4_read 117 = .ok (.aload_n 1, 1) := by decide +kernel
theorem dX4_read_118 : decode cX4_read 118 = .ok (.iload_n 2, 1) := by decide +kernel
theorem dX4_read_119 : decode cX4_read 119 = .ok (.invokevirtual 21, 3) := by decide +kernel
theorem dX4_read_122 : decode cX4_read 122 = .ok (.bipush 43, 2) := by decide +kernel
theorem dX4_read_124 : decode cX4_read 124 = .ok (.if_icmp .ne 7, 3) := by decide +kernel
theorem dX4_read_127 : decode cX4_read 127 = .ok (.iconst 1, 1) := by decide +kernel
theorem dX4_read_128 : decode cX4_read 128 = .ok (.goto 4, 3) := by decide +kernel
theorem dX4_read_131 : decode cX4_read 131 = .ok (.iconst 0, 1) := by decide +kernel
theorem dX4_read_132 : decode cX4_read 132 = .ok (.istore 5, 2) := by decide +kernel
theorem dX4_read_134 : decode cX4_read 134 = .ok (.aload_n 0, 1) := by decide +kernel
theorem dX4_read_135 : decode cX4_read 135 = .ok (.aload_n 1, 1) := by decide +kernel
theorem dX4_read_136 : decode cX4_read 136 = .ok (.iload 5, 2) := by decide +kernel
theorem dX4_read_138 : decode cX4_read 138 = .ok (.ifCond .eq 9, 3) := by decide +kernel
theorem dX4_read_141 : decode cX4_read 141 = .ok (.iload_n 2, 1) := by decide +kernel
theorem dX4_read_142 : decode cX4_read 142 = .ok (.iconst 1, 1) := by decide +kernel
theorem dX4_read_143 : decode cX4_read 143 = .ok (.iadd, 1) := by decide +kernel
theorem dX4_read_144 : decode cX4_read 144 = .ok (.goto 4, 3) := by decide +kernel
theorem dX4_read_147 : decode cX4_read 147 = .ok (.iload_n 2, 1) := by decide +kernel
theorem dX4_read_148 : decode cX4_read 148 = .ok (.iload_n 3, 1) := by decide +kernel
theorem dX4_read_149 : decode cX4_read 149 = .ok (.invokevirtual 29, 3) := by decide +kernel
theorem dX4_read_152 : decode cX4_read 152 = .ok (.ifCond .ne 5, 3) := by decide +kernel
theorem dX4_read_155 : decode cX4_read 155 = .ok (.iconst 0, 1) := by decide +kernel
theorem dX4_read_156 : decode cX4_read 156 = .ok (.ireturn, 1) := by decide +kernel
theorem dX4_read_157 : decode cX4_read 157 = .ok (.aload_n 0, 1) := by decide +kernel
theorem dX4_read_158 : decode cX4_read 158 = .ok (.iload 4, 2) := by decide +kernel
theorem dX4_read_160 : decode cX4_read 160 = .ok (.ifCond .eq 12, 3) := by decide +kernel
theorem dX4_read_163 : decode cX4_read 163 = .ok (.dconst 0, 1) := by decide +kernel
theorem dX4_read_164 : decode cX4_read 164 = .ok (.aload_n 0, 1) := by decide +kernel
theorem dX4_read_165 : decode cX4_read 165 = .ok (.getfield 9, 3) := by decide +kernel
theorem dX4_read_168 : decode cX4_read 168 = .ok (.dsub, 1) := by decide +kernel
theorem dX4_read_169 : decode cX4_read 169 = .ok (.goto 7, 3) := by decide +kernel
theorem dX4_read_172 : decode cX4_read 172 = .ok (.aload_n 0, 1) := by decide +kernel
theorem dX4_read_173 : decode cX4_read 173 = .ok (.getfield 9, 3) := by decide +kernel
theorem dX4_read_176 : decode cX4_read 176 = .ok (.putfield 9, 3) := by decide +kernel
theorem dX4_read_179 : decode cX4_read 179 = .ok (.iconst 1, 1) := by decide +kernel
theorem dX4_read_180 : decode cX4_read 180 = .ok (.ireturn, 1) := by decide +kernel
set_option maxRecDepth 20000 in
theorem ggX4_readHexadecimal_X7_at : GoodIn wsX4_readHexadecimal wsX7_at := goodIn_r _ [7, 8, 9, 18, 19] rfl (by decide +kernel)
set_option maxRecDepth 20000 in
theorem gX4_readHexadecimal_X7_at : GoodIn wsX4_readHexadecimal (wsV RX4 21 RX7 yX7_at wsX7_at) := goodIn_app (goodIn_of _ (by decide +kernel)) ggX4_readHexadecimal_X7_at
set_option maxRecDepth 20000 in
theorem ggX4_readHexadecimal_X4_digitOf : GoodIn wsX4_readHexadecimal wsX4_digitOf := goodIn_r _ [13, 14, 15, 12, 16] rfl (by decide +kernel)
set_option maxRecDepth 20000 in
theorem gX4_readHexadecimal_X4_digitOf : GoodIn wsX4_readHexadecimal (va_wsS RX4 32 yX4_digitOf wsX4_digitOf) := goodIn_app (goodIn_of _ (by decide +kernel)) ggX4_readHexadecimal_X4_digitOf
theorem dX4_readHexadecimal_0 : decode cX4_readHexadecimal 0 = .ok (.iload_n 3, 1) := by decide +kernel
theorem dX4_readHexadecimal_1 : decode cX4_readHexadecimal 1 = .ok (.iload_n 2, 1) := by decide +kernel
theorem dX4_readHexadecimal_2 : decode cX4_readHexadecimal 2 = .ok (.isub, 1) := by decide +kernel
theorem dX4_readHexadecimal_3 : decode cX4_readHexadecimal 3 = .ok (.iconst 1, 1) := by decide +kernel
theorem dX4_readHexadecimal_4 : decode cX4_readHexadecimal 4 = .ok (.if_icmp .lt 11, 3) := by decide +kernel
theorem dX4_readHexadecimal_7 : decode cX4_readHexadecimal 7 = .ok (.iload_n 3, 1) := by decide +kernel
theorem dX4_readHexadecimal_8 : decode cX4_readHexadecimal 8 = .ok (.iload_n 2, 1) := by decide +kernel
theorem dX4_readHexadecimal_9 : decode cX4_readHexadecimal 9 = .ok (.isub, 1) := by decide +kernel
theorem dX4_readHexadecimal_10 : decode cX4_readHexadecimal 10 = .ok (.bipush 8, 2) := by decide +kernel
theorem dX4_readHexadecimal_12 : decode cX4_readHexadecimal 12 = .ok (.if_icmp .le 5, 3) := by decide +kernel
theorem dX4_readHexadecimal_15 : decode cX4_readHexadecimal 15 = .ok (.iconst 0, 1) := by decide +kernel
theorem dX4_readHexadecimal_16 : decode cX4_readHexadecimal 16 = .ok (.ireturn, 1) := by decide +kernel
theorem dX4_readHexadecimal_17 : decode cX4_readHexadecimal 17 = .ok (.lconst 0, 1) := by decide +kernel
theorem dX4_readHexadecimal_18 : decode cX4_readHexadecimal 18 = .ok (.lstore 4, 2) := by decide +kernel
theorem dX4_readHexadecimal_20 : decode cX4_readHexadecimal 20 = .ok (.iload_n 2, 1) := by decide +kernel
theorem dX4_readHexadecimal_21 : decode cX4_readHexadecimal 21 = .ok (.istore 6, 2) := by decide +kernel
theorem dX4_readHexadecimal_23 : decode cX4_readHexadecimal 23 = .ok (.iload 6, 2) := by decide +kernel
theorem dX4_readHexadecimal_25 : decode cX4_readHexadecimal 25 = .ok (.iload_n 3, 1) := by decide +kernel
theorem dX4_readHexadecimal_26 : decode cX4_readHexadecimal 26 = .ok (.if_icmp .ge 39, 3) := by decide +kernel
theorem dX4_readHexadecimal_29 : decode cX4_readHexadecimal 29 = .ok (.aload_n 1, 1) := by decide +kernel
theorem dX4_readHexadecimal_30 : decode cX4_readHexadecimal 30 = .ok (.iload 6, 2) := by decide +kernel
theorem dX4_readHexadecimal_32 : decode cX4_readHexadecimal 32 = .ok (.invokevirtual 21, 3) := by decide +kernel
theorem dX4_readHexadecimal_35 : decode cX4_readHexadecimal 35 = .ok (.invokestatic 32, 3) := by decide +kernel
theorem dX4_readHexadecimal_38 : decode cX4_readHexadecimal 38 = .ok (.istore 7, 2) := by decide +kernel
theorem dX4_readHexadecimal_40 : decode cX4_readHexadecimal 40 = .ok (.iload 7, 2) := by decide +kernel
theorem dX4_readHexadecimal_42 : decode cX4_readHexadecimal 42 = .ok (.ifCond .ge 5, 3) := by decide +kernel
theorem dX4_readHexadecimal_45 : decode cX4_readHexadecimal 45 = .ok (.iconst 0, 1) := by decide +kernel
theorem dX4_readHexadecimal_46 : decode cX4_readHexadecimal 46 = .ok (.ireturn, 1) := by decide +kernel
theorem dX4_readHexadecimal_47 : decode cX4_readHexadecimal 47 = .ok (.lload 4, 2) := by decide +kernel
theorem dX4_readHexadecimal_49 : decode cX4_readHexadecimal 49 = .ok (.ldc2_w 36, 3) := by decide +kernel
theorem dX4_readHexadecimal_52 : decode cX4_readHexadecimal 52 = .ok (.lmul, 1) := by decide +kernel
theorem dX4_readHexadecimal_53 : decode cX4_readHexadecimal 53 = .ok (.iload 7, 2) := by decide +kernel
theorem dX4_readHexadecimal_55 : decode cX4_readHexadecimal 55 = .ok (.i2l, 1) := by decide +kernel
theorem dX4_readHexadecimal_56 : decode cX4_readHexadecimal 56 = .ok (.ladd, 1) := by decide +kernel
theorem dX4_readHexadecimal_57 : decode cX4_readHexadecimal 57 = .ok (.lstore 4, 2) := by decide +kernel
theorem dX4_readHexadecimal_59 : decode cX4_readHexadecimal 59 = .ok (.iinc 6 1, 3) := by decide +kernel
theorem dX4_readHexadecimal_62 : decode cX4_readHexadecimal 62 = .ok (.goto (-39), 3) := by decide +kernel
theorem dX4_readHexadecimal_65 : decode cX4_readHexadecimal 65 = .ok (.aload_n 0, 1) := by decide +kernel
theorem dX4_readHexadecimal_66 : decode cX4_readHexadecimal 66 = .ok (.lload 4, 2) := by decide +kernel
theorem dX4_readHexadecimal_68 : decode cX4_readHexadecimal 68 = .ok (.l2d, 1) := by decide +kernel
theorem dX4_readHexadecimal_69 : decode cX4_readHexadecimal 69 = .ok (.putfield 9, 3) := by decide +kernel
theorem dX4_readHexadecimal_72 : decode cX4_readHexadecimal 72 = .ok (.iconst 1, 1) := by decide +kernel
theorem dX4_readHexadecimal_73 : decode cX4_readHexadecimal 73 = .ok (.ireturn, 1) := by decide +kernel
set_option maxRecDepth 20000 in
theorem ggX4_digitOf_X4_isDigit : GoodIn wsX4_digitOf wsX4_isDigit := goodIn_r _ [4] rfl (by decide +kernel)
set_option maxRecDepth 20000 in
theorem gX4_digitOf_X4_isDigit : GoodIn wsX4_digitOf (va_wsS RX4 38 yX4_isDigit wsX4_isDigit) := goodIn_app (goodIn_of _ (by decide +kernel)) ggX4_digitOf_X4_isDigit
theorem dX4_digitOf_0 : decode cX4_digitOf 0 = .ok (.iload_n 0, 1) := by decide +kernel
theorem dX4_digitOf_1 : decode cX4_digitOf 1 = .ok (.invokestatic 38, 3) := by decide +kernel
theorem dX4_digitOf_4 : decode cX4_digitOf 4 = .ok (.ifCond .eq 8, 3) := by decide +kernel
theorem dX4_digitOf_7 : decode cX4_digitOf 7 = .ok (.iload_n 0, 1) := by decide +kernel
theorem dX4_digitOf_8 : decode cX4_digitOf 8 = .ok (.bipush 48, 2) := by decide +kernel
theorem dX4_digitOf_10 : decode cX4_digitOf 10 = .ok (.isub, 1) := by decide +kernel
theorem dX4_digitOf_11 : decode cX4_digitOf 11 = .ok (.ireturn, 1) := by decide +kernel
theorem dX4_digitOf_12 : decode cX4_digitOf 12 = .ok (.iload_n 0, 1) := by decide +kernel
theorem dX4_digitOf_13 : decode cX4_digitOf 13 = .ok (.bipush 97, 2) := by decide +kernel
theorem dX4_digitOf_15 : decode cX4_digitOf 15 = .ok (.if_icmp .lt 17, 3) := by decide +kernel
theorem dX4_digitOf_18 : decode cX4_digitOf 18 = .ok (.iload_n 0, 1) := by decide +kernel
theorem dX4_digitOf_19 : decode cX4_digitOf 19 = .ok (.bipush 102, 2) := by decide +kernel
theorem dX4_digitOf_21 : decode cX4_digitOf 21 = .ok (.if_icmp .gt 11, 3) := by decide +kernel
theorem dX4_digitOf_24 : decode cX4_digitOf 24 = .ok (.iload_n 0, 1) := by decide +kernel
theorem dX4_digitOf_25 : decode cX4_digitOf 25 = .ok (.bipush 97, 2) := by decide +kernel
theorem dX4_digitOf_27 : decode cX4_digitOf 27 = .ok (.isub, 1) := by decide +kernel
theorem dX4_digitOf_28 : decode cX4_digitOf 28 = .ok (.bipush 10, 2) := by decide +kernel
theorem dX4_digitOf_30 : decode cX4_digitOf 30 = .ok (.iadd, 1) := by decide +kernel
theorem dX4_digitOf_31 : decode cX4_digitOf 31 = .ok (.ireturn, 1) := by decide +kernel
theorem dX4_digitOf_32 : decode cX4_digitOf 32 = .ok (.iload_n 0, 1) := by decide +kernel
theorem dX4_digitOf_33 : decode cX4_digitOf 33 = .ok (.bipush 65, 2) := by decide +kernel
theorem dX4_digitOf_35 : decode cX4_digitOf 35 = .ok (.if_icmp .lt 19, 3) := by decide +kernel
theorem dX4_digitOf_38 : decode cX4_digitOf 38 = .ok (.iload_n 0, 1) := by decide +kernel
theorem dX4_digitOf_39 : decode cX4_digitOf 39 = .ok (.bipush 70, 2) := by decide +kernel
theorem dX4_digitOf_41 : decode cX4_digitOf 41 = .ok (.if_icmp .gt 13, 3) := by decide +kernel
theorem dX4_digitOf_44 : decode cX4_digitOf 44 = .ok (.iload_n 0, 1) := by decide +kernel
theorem dX4_digitOf_45 : decode cX4_digitOf 45 = .ok (.bipush 65, 2) := by decide +kernel
theorem dX4_digitOf_47 : decode cX4_digitOf 47 = .ok (.isub, 1) := by decide +kernel
theorem dX4_digitOf_48 : decode cX4_digitOf 48 = .ok (.bipush 10, 2) := by decide +kernel
theorem dX4_digitOf_50 : decode cX4_digitOf 50 = .ok (.iadd, 1) := by decide +kernel
theorem dX4_digitOf_51 : decode cX4_digitOf 51 = .ok (.goto 4, 3) := by decide +kernel
theorem dX4_digitOf_54 : decode cX4_digitOf 54 = .ok (.iconst (-1), 1) := by decide +kernel
theorem dX4_digitOf_55 : decode cX4_digitOf 55 = .ok (.ireturn, 1) := by decide +kernel
theorem dX4_isDigit_0 : decode cX4_isDigit 0 = .ok (.iload_n 0, 1) := by decide +kernel
theorem dX4_isDigit_1 : decode cX4_isDigit 1 = .ok (.bipush 48, 2) := by decide +kernel
theorem dX4_isDigit_3 : decode cX4_isDigit 3 = .ok (.if_icmp .lt 13, 3) := by decide +kernel
theorem dX4_isDigit_6 : decode cX4_isDigit 6 = .ok (.iload_n 0, 1) := by decide +kernel
theorem dX4_isDigit_7 : decode cX4_isDigit 7 = .ok (.bipush 57, 2) := by decide +kernel
theorem dX4_isDigit_9 : decode cX4_isDigit 9 = .ok (.if_icmp .gt 7, 3) := by decide +kernel
theorem dX4_isDigit_12 : decode cX4_isDigit 12 = .ok (.iconst 1, 1) := by decide +kernel
theorem dX4_isDigit_13 : decode cX4_isDigit 13 = .ok (.goto 4, 3) := by decide +kernel
theorem dX4_isDigit_16 : decode cX4_isDigit 16 = .ok (.iconst 0, 1) := by decide +kernel
theorem dX4_isDigit_17 : decode cX4_isDigit 17 = .ok (.ireturn, 1) := by decide +kernel
set_option maxRecDepth 20000 in
theorem ggX4_readDecimal_X7_at : GoodIn wsX4_readDecimal wsX7_at := goodIn_r _ [8, 9, 10, 16, 17] rfl (by decide +kernel)
set_option maxRecDepth 20000 in
theorem gX4_readDecimal_X7_at : GoodIn wsX4_readDecimal (wsV RX4 21 RX7 yX7_at wsX7_at) := goodIn_app (goodIn_of _ (by decide +kernel)) ggX4_readDecimal_X7_at
set_option maxRecDepth 20000 in
theorem ggX4_readDecimal_X4_isDigit : GoodIn wsX4_readDecimal wsX4_isDigit := goodIn_r _ [14] rfl (by decide +kernel)
set_option maxRecDepth 20000 in
theorem gX4_readDecimal_X4_isDigit : GoodIn wsX4_readDecimal (va_wsS RX4 38 yX4_isDigit wsX4_isDigit) := goodIn_app (goodIn_of _ (by decide +kernel)) ggX4_readDecimal_X4_isDigit
theorem dX4_readDecimal_0 : decode cX4_readDecimal 0 = .ok (.iload_n 2, 1) := by decide +kernel
theorem dX4_readDecimal_1 : decode cX4_readDecimal 1 = .ok (.iload_n 3, 1) := by decide +kernel
theorem dX4_readDecimal_2 : decode cX4_readDecimal 2 = .ok (.if_icmp .ge 27, 3) := by decide +kernel
theorem dX4_readDecimal_5 : decode cX4_readDecimal 5 = .ok (.aload_n 1, 1) := by decide +kernel
theorem dX4_readDecimal_6 : decode cX4_readDecimal 6 = .ok (.iload_n 2, 1) := by decide +kernel
theorem dX4_readDecimal_7 : decode cX4_readDecimal 7 = .ok (.invokevirtual 21, 3) := by decide +kernel
theorem dX4_readDecimal_10 : decode cX4_readDecimal 10 = .ok (.invokestatic 38, 3) := by decide +kernel
theorem dX4_readDecimal_13 : decode cX4_readDecimal 13 = .ok (.ifCond .eq 16, 3) := by decide +kernel
theorem dX4_readDecimal_16 : decode cX4_readDecimal 16 = .ok (.aload_n 1, 1) := by decide +kernel
theorem dX4_readDecimal_17 : decode cX4_readDecimal 17 = .ok (.iload_n 3, 1) := by decide +kernel
theorem dX4_readDecimal_18 : decode cX4_readDecimal 18 = .ok (.iconst 1, 1) := by decide +kernel
theorem dX4_readDecimal_19 : decode cX4_readDecimal 19 = .ok (.isub, 1) := by decide +kernel
theorem dX4_readDecimal_20 : decode cX4_readDecimal 20 = .ok (.invokevirtual 21, 3) := by decide +kernel
theorem dX4_readDecimal_23 : decode cX4_readDecimal 23 = .ok (.invokestatic 38, 3) := by decide +kernel
theorem dX4_readDecimal_26 : decode cX4_readDecimal 26 = .ok (.ifCond .ne 5, 3) := by decide +kernel
theorem dX4_readDecimal_29 : decode cX4_readDecimal 29 = .ok (.iconst 0, 1) := by decide +kernel
theorem dX4_readDecimal_30 : decode cX4_readDecimal 30 = .ok (.ireturn, 1) := by decide +kernel
theorem dX4_readDecimal_31 : decode cX4_readDecimal 31 = .ok (.lconst 0, 1) := by decide +kernel
theorem dX4_readDecimal_32 : decode cX4_readDecimal 32 = .ok (.lstore 4, 2) := by decide +kernel
theorem dX4_readDecimal_34 : decode cX4_readDecimal 34 = .ok (.dconst 1, 1) := by decide +kernel
theorem dX4_readDecimal_35 : decode cX4_readDecimal 35 = .ok (.dstore 6, 2) := by decide +kernel
theorem dX4_readDecimal_37 : decode cX4_readDecimal 37 = .ok (.iconst 0, 1) := by decide +kernel
theorem dX4_readDecimal_38 : decode cX4_readDecimal 38 = .ok (.istore 8, 2) := by decide +kernel
theorem dX4_readDecimal_40 : decode cX4_readDecimal 40 = .ok (.iload_n 2, 1) := by decide +kernel
theorem dX4_readDecimal_41 : decode cX4_readDecimal 41 = .ok (.istore 9, 2) := by decide +kernel
theorem dX4_readDecimal_43 : decode cX4_readDecimal 43 = .ok (.iload 9, 2) := by decide +kernel
theorem dX4_readDecimal_45 : decode cX4_readDecimal 45 = .ok (.iload_n 3, 1) := by decide +kernel
theorem dX4_readDecimal_46 : decode cX4_readDecimal 46 = .ok (.if_icmp .ge 81, 3) := by decide +kernel
theorem dX4_readDecimal_49 : decode cX4_readDecimal 49 = .ok (.aload_n 1, 1) := by decide +kernel
theorem dX4_readDecimal_50 : decode cX4_readDecimal 50 = .ok (.iload 9, 2) := by decide +kernel
theorem dX4_readDecimal_52 : decode cX4_readDecimal 52 = .ok (.invokevirtual 21, 3) := by decide +kernel
theorem dX4_readDecimal_55 : decode cX4_readDecimal 55 = .ok (.istore 10, 2) := by decide +kernel
theorem dX4_readDecimal_57 : decode cX4_readDecimal 57 = .ok (.iload 10, 2) := by decide +kernel
theorem dX4_readDecimal_59 : decode cX4_readDecimal 59 = .ok (.bipush 46, 2) := by decide +kernel
theorem dX4_readDecimal_61 : decode cX4_readDecimal 61 = .ok (.if_icmp .ne 14, 3) := by decide +kernel
theorem dX4_readDecimal_64 : decode cX4_readDecimal 64 = .ok (.iload 8, 2) := by decide +kernel
theorem dX4_readDecimal_66 : decode cX4_readDecimal 66 = .ok (.ifCond .ne 9, 3) := by decide +kernel
theorem dX4_readDecimal_69 : decode cX4_readDecimal 69 = .ok (.iconst 1, 1) := by decide +kernel
theorem dX4_readDecimal_70 : decode cX4_readDecimal 70 = .ok (.istore 8, 2) := by decide +kernel
theorem dX4_readDecimal_72 : decode cX4_readDecimal 72 = .ok (.goto 49, 3) := by decide +kernel
theorem dX4_readDecimal_75 : decode cX4_readDecimal 75 = .ok (.iload 10, 2) := by decide +kernel
theorem dX4_readDecimal_77 : decode cX4_readDecimal 77 = .ok (.invokestatic 38, 3) := by decide +kernel
theorem dX4_readDecimal_80 : decode cX4_readDecimal 80 = .ok (.ifCond .eq 39, 3) := by decide +kernel
theorem dX4_readDecimal_83 : decode cX4_readDecimal 83 = .ok (.lload 4, 2) := by decide +kernel
theorem dX4_readDecimal_85 : decode cX4_readDecimal 85 = .ok (.ldc2_w 42, 3) := by decide +kernel
theorem dX4_readDecimal_88 : decode cX4_readDecimal 88 = .ok (.lmul, 1) := by decide +kernel
theorem dX4_readDecimal_89 : decode cX4_readDecimal 89 = .ok (.iload 10, 2) := by decide +kernel
theorem dX4_readDecimal_91 : decode cX4_readDecimal 91 = .ok (.bipush 48, 2) := by decide +kernel
theorem dX4_readDecimal_93 : decode cX4_readDecimal 93 = .ok (.isub, 1) := by decide +kernel
theorem dX4_readDecimal_94 : decode cX4_readDecimal 94 = .ok (.i2l, 1) := by decide +kernel
theorem dX4_readDecimal_95 : decode cX4_readDecimal 95 = .ok (.ladd, 1) := by decide +kernel
theorem dX4_readDecimal_96 : decode cX4_readDecimal 96 = .ok (.lstore 4, 2) := by decide +kernel
theorem dX4_readDecimal_98 : decode cX4_readDecimal 98 = .ok (.iload 8, 2) := by decide +kernel
theorem dX4_readDecimal_100 : decode cX4_readDecimal 100 = .ok (.ifCond .eq 12, 3) := by decide +kernel
theorem dX4_readDecimal_103 : decode cX4_readDecimal 103 = .ok (.dload 6, 2) := by decide +kernel
theorem dX4_readDecimal_105 : decode cX4_readDecimal 105 = .ok (.ldc2_w 44, 3) := by decide +kernel
theorem dX4_readDecimal_108 : decode cX4_readDecimal 108 = .ok (.dmul, 1) := by decide +kernel
theorem dX4_readDecimal_109 : decode cX4_readDecimal 109 = .ok (.goto 5, 3) := by decide +kernel
theorem dX4_readDecimal_112 : decode cX4_readDecimal 112 = .ok (.dload 6, 2) := by decide +kernel
theorem dX4_readDecimal_114 : decode cX4_readDecimal 114 = .ok (.dstore 6, 2) := by decide +kernel
theorem dX4_readDecimal_116 : decode cX4_readDecimal 116 = .ok (.goto 5, 3) := by decide +kernel
theorem dX4_readDecimal_119 : decode cX4_readDecimal 119 = .ok (.iconst 0, 1) := by decide +kernel
theorem dX4_readDecimal_120 : decode cX4_readDecimal 120 = .ok (.ireturn, 1) := by decide +kernel
theorem dX4_readDecimal_121 : decode cX4_readDecimal 121 = .ok (.iinc 9 1, 3) := by decide +kernel
theorem dX4_readDecimal_124 : decode cX4_readDecimal 124 = .ok (.goto (-81), 3) := by decide +kernel
theorem dX4_readDecimal_127 : decode cX4_readDecimal 127 = .ok (.aload_n 0, 1) := by decide +kernel
theorem dX4_readDecimal_128 : decode cX4_readDecimal 128 = .ok (.lload 4, 2) := by decide +kernel
theorem dX4_readDecimal_130 : decode cX4_readDecimal 130 = .ok (.l2d, 1) := by decide +kernel
theorem dX4_readDecimal_131 : decode cX4_readDecimal 131 = .ok (.dload 6, 2) := by decide +kernel
theorem dX4_readDecimal_133 : decode cX4_readDecimal 133 = .ok (.ddiv, 1) := by decide +kernel
theorem dX4_readDecimal_134 : decode cX4_readDecimal 134 = .ok (.putfield 9, 3) := by decide +kernel
theorem dX4_readDecimal_137 : decode cX4_readDecimal 137 = .ok (.iconst 1, 1) := by decide +kernel
theorem dX4_readDecimal_138 : decode cX4_readDecimal 138 = .ok (.ireturn, 1) := by decide +kernel
theorem dX5_init_0 : decode cX5_init 0 = .ok (.aload_n 0, 1) := by decide +kernel
theorem dX5_init_1 : decode cX5_init 1 = .ok (.invokespecial 3, 3) := by decide +kernel
theorem dX5_init_4 : decode cX5_init 4 = .ok (.aload_n 0, 1) := by decide +kernel
theorem dX5_init_5 : decode cX5_init 5 = .ok (.bipush 6, 2) := by decide +kernel
theorem dX5_init_7 : decode cX5_init 7 = .ok (.anewarray 9, 3) := by decide +kernel
theorem dX5_init_10 : decode cX5_init 10 = .ok (.putfield 11, 3) := by decide +kernel
theorem dX5_init_13 : decode cX5_init 13 = .ok (.aload_n 0, 1) := by decide +kernel
theorem dX5_init_14 : decode cX5_init 14 = .ok (.iconst 0, 1) := by decide +kernel
theorem dX5_init_15 : decode cX5_init 15 = .ok (.putfield 17, 3) := by decide +kernel
theorem dX5_init_18 : decode cX5_init 18 = .ok (.aload_n 0, 1) := by decide +kernel
theorem dX5_init_19 : decode cX5_init 19 = .ok (.bipush 7, 2) := by decide +kernel
theorem dX5_init_21 : decode cX5_init 21 = .ok (.anewarray 9, 3) := by decide +kernel
theorem dX5_init_24 : decode cX5_init 24 = .ok (.putfield 21, 3) := by decide +kernel
theorem dX5_init_27 : decode cX5_init 27 = .ok (.aload_n 0, 1) := by decide +kernel
theorem dX5_init_28 : decode cX5_init 28 = .ok (.iconst 0, 1) := by decide +kernel
theorem dX5_init_29 : decode cX5_init 29 = .ok (.putfield 24, 3) := by decide +kernel
theorem dX5_init_32 : decode cX5_init 32 = .ok (.return_, 1) := by decide +kernel
theorem dX5_clear_0 : decode cX5_clear 0 = .ok (.aload_n 0, 1) := by decide +kernel
theorem dX5_clear_1 : decode cX5_clear 1 = .ok (.iconst 0, 1) := by decide +kernel
theorem dX5_clear_2 : decode cX5_clear 2 = .ok (.putfield 17, 3) := by decide +kernel
theorem dX5_clear_5 : decode cX5_clear 5 = .ok (.return_, 1) := by decide +kernel
theorem dX5_append_0 : decode cX5_append 0 = .ok (.aload_n 0, 1) := by decide +kernel
theorem dX5_append_1 : decode cX5_append 1 = .ok (.getfield 17, 3) := by decide +kernel
theorem dX5_append_4 : decode cX5_append 4 = .ok (.ifCond .lt 15, 3) := by decide +kernel
theorem dX5_append_7 : decode cX5_append 7 = .ok (.aload_n 0, 1) := by decide +kernel
theorem dX5_append_8 : decode cX5_append 8 = .ok (.getfield 17, 3) := by decide +kernel
theorem dX5_append_11 : decode cX5_append 11 = .ok (.aload_n 0, 1) := by decide +kernel
theorem dX5_append_12 : decode cX5_append 12 = .ok (.getfield 11, 3) := by decide +kernel
theorem dX5_append_15 : decode cX5_append 15 = .ok (.arraylength, 1) := by decide +kernel
theorem dX5_append_16 : decode cX5_append 16 = .ok (.if_icmp .lt 6, 3) := by decide +kernel
theorem dX5_append_19 : decode cX5_append 19 = .ok (.bipush (-4), 2) := by decide +kernel
theorem dX5_append_21 : decode cX5_append 21 = .ok (.ireturn, 1) := by decide +kernel
theorem dX5_append_22 : decode cX5_append 22 = .ok (.aload_n 1, 1) := by decide +kernel
theorem dX5_append_23 : decode cX5_append 23 = .ok (.aload_n 0, 1) := by decide +kernel
theorem dX5_append_24 : decode cX5_append 24 = .ok (.getfield 17, 3) := by decide +kernel
theorem dX5_append_27 : decode cX5_append 27 = .ok (.putfield 27, 3) := by decide +kernel
theorem dX5_append_30 : decode cX5_append 30 = .ok (.aload_n 0, 1) := by decide +kernel
theorem dX5_append_31 : decode cX5_append 31 = .ok (.getfield 11, 3) := by decide +kernel
theorem dX5_append_34 : decode cX5_append 34 = .ok (.aload_n 0, 1) := by decide +kernel
theorem dX5_append_35 : decode cX5_append 35 = .ok (.getfield 17, 3) := by decide +kernel
theorem dX5_append_38 : decode cX5_append 38 = .ok (.aload_n 1, 1) := by decide +kernel
theorem dX5_append_39 : decode cX5_append 39 = .ok (.aastore, 1) := by decide +kernel
theorem dX5_append_40 : decode cX5_append 40 = .ok (.aload_n 0, 1) := by decide +kernel
theorem dX5_append_41 : decode cX5_append 41 = .ok (.dup, 1) := by decide +kernel
theorem dX5_append_42 : decode cX5_append 42 = .ok (.getfield 17, 3) := by decide +kernel
theorem dX5_append_45 : decode cX5_append 45 = .ok (.iconst 1, 1) := by decide +kernel
theorem dX5_append_46 : decode cX5_append 46 = .ok (.iadd, 1) := by decide +kernel
theorem dX5_append_47 : decode cX5_append 47 = .ok (.putfield 17, 3) := by decide +kernel
theorem dX5_append_50 : decode cX5_append 50 = .ok (.aload_n 1, 1) := by decide +kernel
theorem dX5_append_51 : decode cX5_append 51 = .ok (.getfield 27, 3) := by decide +kernel
theorem dX5_append_54 : decode cX5_append 54 = .ok (.ireturn, 1) := by decide +kernel
theorem dX5_formAt_0 : decode cX5_formAt 0 = .ok (.iload_n 1, 1) := by decide +kernel
theorem dX5_formAt_1 : decode cX5_formAt 1 = .ok (.ifCond .lt 29, 3) := by decide +kernel
theorem dX5_formAt_4 : decode cX5_formAt 4 = .ok (.iload_n 1, 1) := by decide +kernel
theorem dX5_formAt_5 : decode cX5_formAt 5 = .ok (.aload_n 0, 1) := by decide +kernel
theorem dX5_formAt_6 : decode cX5_formAt 6 = .ok (.getfield 17, 3) := by decide +kernel
theorem dX5_formAt_9 : decode cX5_formAt 9 = .ok (.if_icmp .ge 21, 3) := by decide +kernel
theorem dX5_formAt_12 : decode cX5_formAt 12 = .ok (.iload_n 1, 1) := by decide +kernel
theorem dX5_formAt_13 : decode cX5_formAt 13 = .ok (.aload_n 0, 1) := by decide +kernel
theorem dX5_formAt_14 : decode cX5_formAt 14 = .ok (.getfield 11, 3) := by decide +kernel
theorem dX5_formAt_17 : decode cX5_formAt 17 = .ok (.arraylength, 1) := by decide +kernel
theorem dX5_formAt_18 : decode cX5_formAt 18 = .ok (.if_icmp .ge 12, 3) := by decide +kernel
theorem dX5_formAt_21 : decode cX5_formAt 21 = .ok (.aload_n 0, 1) := by decide +kernel
theorem dX5_formAt_22 : decode cX5_formAt 22 = .ok (.getfield 11, 3) := by decide +kernel
theorem dX5_formAt_25 : decode cX5_formAt 25 = .ok (.iload_n 1, 1) := by decide +kernel
theorem dX5_formAt_26 : decode cX5_formAt 26 = .ok (.aaload, 1) := by decide +kernel
theorem dX5_formAt_27 : decode cX5_formAt 27 = .ok (.goto 4, 3) := by decide +kernel
theorem dX5_formAt_30 : decode cX5_formAt 30 = .ok (.aconst_null, 1) := by decide +kernel
theorem dX5_formAt_31 : decode cX5_formAt 31 = .ok (.areturn, 1) := by decide +kernel
theorem dX5_ableAt_0 : decode cX5_ableAt 0 = .ok (.iload_n 1, 1) := by decide +kernel
theorem dX5_ableAt_1 : decode cX5_ableAt 1 = .ok (.ifCond .lt 29, 3) := by decide +kernel
theorem dX5_ableAt_4 : decode cX5_ableAt 4 = .ok (.iload_n 1, 1) := by decide +kernel
theorem dX5_ableAt_5 : decode cX5_ableAt 5 = .ok (.aload_n 0, 1) := by decide +kernel
theorem dX5_ableAt_6 : decode cX5_ableAt 6 = .ok (.getfield 24, 3) := by decide +kernel
theorem dX5_ableAt_9 : decode cX5_ableAt 9 = .ok (.if_icmp .ge 21, 3) := by decide +kernel
theorem dX5_ableAt_12 : decode cX5_ableAt 12 = .ok (.iload_n 1, 1) := by decide +kernel
theorem dX5_ableAt_13 : decode cX5_ableAt 13 = .ok (.aload_n 0, 1) := by decide +kernel
theorem dX5_ableAt_14 : decode cX5_ableAt 14 = .ok (.getfield 21, 3) := by decide +kernel
theorem dX5_ableAt_17 : decode cX5_ableAt 17 = .ok (.arraylength, 1) := by decide +kernel
theorem dX5_ableAt_18 : decode cX5_ableAt 18 = .ok (.if_icmp .ge 12, 3) := by decide +kernel
theorem dX5_ableAt_21 : decode cX5_ableAt 21 = .ok (.aload_n 0, 1) := by decide +kernel
theorem dX5_ableAt_22 : decode cX5_ableAt 22 = .ok (.getfield 21, 3) := by decide +kernel
theorem dX5_ableAt_25 : decode cX5_ableAt 25 = .ok (.iload_n 1, 1) := by decide +kernel
theorem dX5_ableAt_26 : decode cX5_ableAt 26 = .ok (.aaload, 1) := by decide +kernel
theorem dX5_ableAt_27 : decode cX5_ableAt 27 = .ok (.goto 4, 3) := by decide +kernel
theorem dX5_ableAt_30 : decode cX5_ableAt 30 = .ok (.aconst_null, 1) := by decide +kernel
theorem dX5_ableAt_31 : decode cX5_ableAt 31 = .ok (.areturn, 1) := by decide +kernel
set_option maxRecDepth 20000 in
theorem ggX5_mostArguments_X5_formAt : GoodIn wsX5_mostArguments wsX5_formAt := goodIn_r _ [10, 1, 11, 19, 20, 21, 22] rfl (by decide +kernel)
set_option maxRecDepth 20000 in
theorem gX5_mostArguments_X5_formAt : GoodIn wsX5_mostArguments (wsV RX5 30 RX5 yX5_formAt wsX5_formAt) := goodIn_app (goodIn_of _ (by decide +kernel)) ggX5_mostArguments_X5_formAt
set_option maxRecDepth 20000 in
theorem ggX5_mostArguments_X2_mostArguments : GoodIn wsX5_mostArguments wsX2_mostArguments := goodIn_r _ [16, 17, 18, 23, 24, 25, 26, 27] rfl (by decide +kernel)
set_option maxRecDepth 20000 in
theorem gX5_mostArguments_X2_mostArguments : GoodIn wsX5_mostArguments (wsV RX5 34 RX2 yX2_mostArguments wsX2_mostArguments) := goodIn_app (goodIn_of _ (by decide +kernel)) ggX5_mostArguments_X2_mostArguments
theorem dX5_mostArguments_0 : decode cX5_mostArguments 0 = .ok (.iconst (-1), 1) := by decide +kernel
theorem dX5_mostArguments_1 : decode cX5_mostArguments 1 = .ok (.istore_n 1, 1) := by decide +kernel
theorem dX5_mostArguments_2 : decode cX5_mostArguments 2 = .ok (.iconst 0, 1) := by decide +kernel
theorem dX5_mostArguments_3 : decode cX5_mostArguments 3 = .ok (.istore_n 2, 1) := by decide +kernel
theorem dX5_mostArguments_4 : decode cX5_mostArguments 4 = .ok (.iload_n 2, 1) := by decide +kernel
theorem dX5_mostArguments_5 : decode cX5_mostArguments 5 = .ok (.aload_n 0, 1) := by decide +kernel
theorem dX5_mostArguments_6 : decode cX5_mostArguments 6 = .ok (.getfield 17, 3) := by decide +kernel
theorem dX5_mostArguments_9 : decode cX5_mostArguments 9 = .ok (.if_icmp .ge 28, 3) := by decide +kernel
theorem dX5_mostArguments_12 : decode cX5_mostArguments 12 = .ok (.aload_n 0, 1) := by decide +kernel
theorem dX5_mostArguments_13 : decode cX5_mostArguments 13 = .ok (.iload_n 2, 1) := by decide +kernel
theorem dX5_mostArguments_14 : decode cX5_mostArguments 14 = .ok (.invokevirtual 30, 3) := by decide +kernel
theorem dX5_mostArguments_17 : decode cX5_mostArguments 17 = .ok (.astore_n 3, 1) := by decide +kernel
theorem dX5_mostArguments_18 : decode cX5_mostArguments 18 = .ok (.aload_n 3, 1) := by decide +kernel
theorem dX5_mostArguments_19 : decode cX5_mostArguments 19 = .ok (.ifnull 12, 3) := by decide +kernel
theorem dX5_mostArguments_22 : decode cX5_mostArguments 22 = .ok (.iload_n 1, 1) := by decide +kernel
theorem dX5_mostArguments_23 : decode cX5_mostArguments 23 = .ok (.aload_n 3, 1) := by decide +kernel
theorem dX5_mostArguments_24 : decode cX5_mostArguments 24 = .ok (.invokevirtual 34, 3) := by decide +kernel
theorem dX5_mostArguments_27 : decode cX5_mostArguments 27 = .ok (.invokestatic 38, 3) := by decide +kernel
theorem dX5_mostArguments_30 : decode cX5_mostArguments 30 = .ok (.istore_n 1, 1) := by decide +kernel
theorem dX5_mostArguments_31 : decode cX5_mostArguments 31 = .ok (.iinc 2 1, 3) := by decide +kernel
theorem dX5_mostArguments_34 : decode cX5_mostArguments 34 = .ok (.goto (-30), 3) := by decide +kernel
theorem dX5_mostArguments_37 : decode cX5_mostArguments 37 = .ok (.iload_n 1, 1) := by decide +kernel
theorem dX5_mostArguments_38 : decode cX5_mostArguments 38 = .ok (.ireturn, 1) := by decide +kernel
set_option maxRecDepth 20000 in
theorem ggX5_leastArguments_X5_formAt : GoodIn wsX5_leastArguments wsX5_formAt := goodIn_r _ [10, 1, 11, 32, 33, 34, 35] rfl (by decide +kernel)
set_option maxRecDepth 20000 in
theorem gX5_leastArguments_X5_formAt : GoodIn wsX5_leastArguments (wsV RX5 30 RX5 yX5_formAt wsX5_formAt) := goodIn_app (goodIn_of _ (by decide +kernel)) ggX5_leastArguments_X5_formAt
set_option maxRecDepth 20000 in
theorem ggX5_leastArguments_X2_leastArguments : GoodIn wsX5_leastArguments wsX2_leastArguments := goodIn_r _ [16, 17, 18, 19, 20, 15, 21, 22, 23, 3, 4, 5, 24, 25, 26, 27, 28, 29, 30, 31, 36, 37, 38, 39, 40, 41, 42, 43] rfl (by decide +kernel)
set_option maxRecDepth 20000 in
theorem gX5_leastArguments_X2_leastArguments : GoodIn wsX5_leastArguments (wsV RX5 44 RX2 yX2_leastArguments wsX2_leastArguments) := goodIn_app (goodIn_of _ (by decide +kernel)) ggX5_leastArguments_X2_leastArguments
theorem dX5_leastArguments_0 : decode cX5_leastArguments 0 = .ok (.iconst (-1), 1) := by decide +kernel
theorem dX5_leastArguments_1 : decode cX5_leastArguments 1 = .ok (.istore_n 1, 1) := by decide +kernel
theorem dX5_leastArguments_2 : decode cX5_leastArguments 2 = .ok (.iconst 0, 1) := by decide +kernel
theorem dX5_leastArguments_3 : decode cX5_leastArguments 3 = .ok (.istore_n 2, 1) := by decide +kernel
theorem dX5_leastArguments_4 : decode cX5_leastArguments 4 = .ok (.iload_n 2, 1) := by decide +kernel
theorem dX5_leastArguments_5 : decode cX5_leastArguments 5 = .ok (.aload_n 0, 1) := by decide +kernel
theorem dX5_leastArguments_6 : decode cX5_leastArguments 6 = .ok (.getfield 17, 3) := by decide +kernel
theorem dX5_leastArguments_9 : decode cX5_leastArguments 9 = .ok (.if_icmp .ge 42, 3) := by decide +kernel
theorem dX5_leastArguments_12 : decode cX5_leastArguments 12 = .ok (.aload_n 0, 1) := by decide +kernel
theorem dX5_leastArguments_13 : decode cX5_leastArguments 13 = .ok (.iload_n 2, 1) := by decide +kernel
theorem dX5_leastArguments_14 : decode cX5_leastArguments 14 = .ok (.invokevirtual 30, 3) := by decide +kernel
theorem dX5_leastArguments_17 : decode cX5_leastArguments 17 = .ok (.astore_n 3, 1) := by decide +kernel
theorem dX5_leastArguments_18 : decode cX5_leastArguments 18 = .ok (.aload_n 3, 1) := by decide +kernel
theorem dX5_leastArguments_19 : decode cX5_leastArguments 19 = .ok (.ifnull 26, 3) := by decide +kernel
theorem dX5_leastArguments_22 : decode cX5_leastArguments 22 = .ok (.aload_n 3, 1) := by decide +kernel
theorem dX5_leastArguments_23 : decode cX5_leastArguments 23 = .ok (.invokevirtual 44, 3) := by decide +kernel
theorem dX5_leastArguments_26 : decode cX5_leastArguments 26 = .ok (.istore 4, 2) := by decide +kernel
theorem dX5_leastArguments_28 : decode cX5_leastArguments 28 = .ok (.iload_n 1, 1) := by decide +kernel
theorem dX5_leastArguments_29 : decode cX5_leastArguments 29 = .ok (.iconst (-1), 1) := by decide +kernel
theorem dX5_leastArguments_30 : decode cX5_leastArguments 30 = .ok (.if_icmp .ne 8, 3) := by decide +kernel
theorem dX5_leastArguments_33 : decode cX5_leastArguments 33 = .ok (.iload 4, 2) := by decide +kernel
theorem dX5_leastArguments_35 : decode cX5_leastArguments 35 = .ok (.goto 9, 3) := by decide +kernel
theorem dX5_leastArguments_38 : decode cX5_leastArguments 38 = .ok (.iload_n 1, 1) := by decide +kernel
theorem dX5_leastArguments_39 : decode cX5_leastArguments 39 = .ok (.iload 4, 2) := by decide +kernel
theorem dX5_leastArguments_41 : decode cX5_leastArguments 41 = .ok (.invokestatic 47, 3) := by decide +kernel
theorem dX5_leastArguments_44 : decode cX5_leastArguments 44 = .ok (.istore_n 1, 1) := by decide +kernel
theorem dX5_leastArguments_45 : decode cX5_leastArguments 45 = .ok (.iinc 2 1, 3) := by decide +kernel
theorem dX5_leastArguments_48 : decode cX5_leastArguments 48 = .ok (.goto (-44), 3) := by decide +kernel
theorem dX5_leastArguments_51 : decode cX5_leastArguments 51 = .ok (.iload_n 1, 1) := by decide +kernel
theorem dX5_leastArguments_52 : decode cX5_leastArguments 52 = .ok (.ireturn, 1) := by decide +kernel
set_option maxRecDepth 20000 in
theorem ggX5_gather_X5_formAt : GoodIn wsX5_gather wsX5_formAt := goodIn_r _ [7, 2, 8, 45, 46, 47, 48] rfl (by decide +kernel)
set_option maxRecDepth 20000 in
theorem gX5_gather_X5_formAt : GoodIn wsX5_gather (wsV RX5 30 RX5 yX5_formAt wsX5_formAt) := goodIn_app (goodIn_of _ (by decide +kernel)) ggX5_gather_X5_formAt
set_option maxRecDepth 20000 in
theorem ggX5_gather_X5_gatherOne : GoodIn wsX5_gather wsX5_gatherOne := goodIn_r _ [12, 1, 13, 14, 15, 16, 17, 18, 19, 20, 21, 22, 23, 24, 25, 26, 27, 28, 29, 30, 31, 32, 33, 34, 35, 36, 37, 38, 39, 40, 41, 42, 43, 44, 45, 46, 47, 48, 49, 50, 51, 52, 53, 54, 55, 56] rfl (by decide +kernel)
set_option maxRecDepth 20000 in
theorem gX5_gather_X5_gatherOne : GoodIn wsX5_gather (wsV RX5 50 RX5 yX5_gatherOne wsX5_gatherOne) := goodIn_app (goodIn_of _ (by decide +kernel)) ggX5_gather_X5_gatherOne
theorem dX5_gather_0 : decode cX5_gather 0 = .ok (.aload_n 0, 1) := by decide +kernel
theorem dX5_gather_1 : decode cX5_gather 1 = .ok (.iconst 0, 1) := by decide +kernel
theorem dX5_gather_2 : decode cX5_gather 2 = .ok (.putfield 24, 3) := by decide +kernel
theorem dX5_gather_5 : decode cX5_gather 5 = .ok (.iconst 0, 1) := by decide +kernel
theorem dX5_gather_6 : decode cX5_gather 6 = .ok (.istore_n 3, 1) := by decide +kernel
theorem dX5_gather_7 : decode cX5_gather 7 = .ok (.iload_n 3, 1) := by decide +kernel
theorem dX5_gather_8 : decode cX5_gather 8 = .ok (.aload_n 0, 1) := by decide +kernel
theorem dX5_gather_9 : decode cX5_gather 9 = .ok (.getfield 17, 3) := by decide +kernel
theorem dX5_gather_12 : decode cX5_gather 12 = .ok (.if_icmp .ge 19, 3) := by decide +kernel
theorem dX5_gather_15 : decode cX5_gather 15 = .ok (.aload_n 0, 1) := by decide +kernel
theorem dX5_gather_16 : decode cX5_gather 16 = .ok (.iload_n 1, 1) := by decide +kernel
theorem dX5_gather_17 : decode cX5_gather 17 = .ok (.aload_n 0, 1) := by decide +kernel
theorem dX5_gather_18 : decode cX5_gather 18 = .ok (.iload_n 3, 1) := by decide +kernel
theorem dX5_gather_19 : decode cX5_gather 19 = .ok (.invokevirtual 30, 3) := by decide +kernel
theorem dX5_gather_22 : decode cX5_gather 22 = .ok (.invokevirtual 50, 3) := by decide +kernel
theorem dX5_gather_25 : decode cX5_gather 25 = .ok (.iinc 3 1, 3) := by decide +kernel
theorem dX5_gather_28 : decode cX5_gather 28 = .ok (.goto (-21), 3) := by decide +kernel
theorem dX5_gather_31 : decode cX5_gather 31 = .ok (.aload_n 0, 1) := by decide +kernel
theorem dX5_gather_32 : decode cX5_gather 32 = .ok (.iload_n 1, 1) := by decide +kernel
theorem dX5_gather_33 : decode cX5_gather 33 = .ok (.aload_n 2, 1) := by decide +kernel
theorem dX5_gather_34 : decode cX5_gather 34 = .ok (.invokevirtual 50, 3) := by decide +kernel
theorem dX5_gather_37 : decode cX5_gather 37 = .ok (.return_, 1) := by decide +kernel
set_option maxRecDepth 20000 in
theorem ggX5_gatherOne_X2_canBeCalledWith : GoodIn wsX5_gatherOne wsX2_canBeCalledWith := goodIn_r _ [7, 8, 9, 10, 6, 11, 12, 13, 14, 15, 16, 17, 18, 19, 20, 21, 22, 23, 24, 25, 26, 27, 28, 29, 30, 31, 32, 33, 38, 39, 40, 41, 42, 43, 44, 45] rfl (by decide +kernel)
set_option maxRecDepth 20000 in
theorem gX5_gatherOne_X2_canBeCalledWith : GoodIn wsX5_gatherOne (wsV RX5 54 RX2 yX2_canBeCalledWith wsX2_canBeCalledWith) := goodIn_app (goodIn_of _ (by decide +kernel)) ggX5_gatherOne_X2_canBeCalledWith
theorem dX5_gatherOne_0 : decode cX5_gatherOne 0 = .ok (.aload_n 2, 1) := by decide +kernel
theorem dX5_gatherOne_1 : decode cX5_gatherOne 1 = .ok (.ifnull 50, 3) := by decide +kernel
theorem dX5_gatherOne_4 : decode cX5_gatherOne 4 = .ok (.aload_n 2, 1) := by decide +kernel
theorem dX5_gatherOne_5 : decode cX5_gatherOne 5 = .ok (.iload_n 1, 1) := by decide +kernel
theorem dX5_gatherOne_6 : decode cX5_gatherOne 6 = .ok (.invokevirtual 54, 3) := by decide +kernel
theorem dX5_gatherOne_9 : decode cX5_gatherOne 9 = .ok (.ifCond .eq 42, 3) := by decide +kernel
theorem dX5_gatherOne_12 : decode cX5_gatherOne 12 = .ok (.aload_n 0, 1) := by decide +kernel
theorem dX5_gatherOne_13 : decode cX5_gatherOne 13 = .ok (.getfield 24, 3) := by decide +kernel
theorem dX5_gatherOne_16 : decode cX5_gatherOne 16 = .ok (.ifCond .lt 35, 3) := by decide +kernel
theorem dX5_gatherOne_19 : decode cX5_gatherOne 19 = .ok (.aload_n 0, 1) := by decide +kernel
theorem dX5_gatherOne_20 : decode cX5_gatherOne 20 = .ok (.getfield 24, 3) := by decide +kernel
theorem dX5_gatherOne_23 : decode cX5_gatherOne 23 = .ok (.aload_n 0, 1) := by decide +kernel
theorem dX5_gatherOne_24 : decode cX5_gatherOne 24 = .ok (.getfield 21, 3) := by decide +kernel
theorem dX5_gatherOne_27 : decode cX5_gatherOne 27 = .ok (.arraylength, 1) := by decide +kernel
theorem dX5_gatherOne_28 : decode cX5_gatherOne 28 = .ok (.if_icmp .ge 23, 3) := by decide +kernel
theorem dX5_gatherOne_31 : decode cX5_gatherOne 31 = .ok (.aload_n 0, 1) := by decide +kernel
theorem dX5_gatherOne_32 : decode cX5_gatherOne 32 = .ok (.getfield 21, 3) := by decide +kernel
theorem dX5_gatherOne_35 : decode cX5_gatherOne 35 = .ok (.aload_n 0, 1) := by decide +kernel
theorem dX5_gatherOne_36 : decode cX5_gatherOne 36 = .ok (.getfield 24, 3) := by decide +kernel
theorem dX5_gatherOne_39 : decode cX5_gatherOne 39 = .ok (.aload_n 2, 1) := by decide +kernel
theorem dX5_gatherOne_40 : decode cX5_gatherOne 40 = .ok (.aastore, 1) := by decide +kernel
theorem dX5_gatherOne_41 : decode cX5_gatherOne 41 = .ok (.aload_n 0, 1) := by decide +kernel
theorem dX5_gatherOne_42 : decode cX5_gatherOne 42 = .ok (.dup, 1) := by decide +kernel
theorem dX5_gatherOne_43 : decode cX5_gatherOne 43 = .ok (.getfield 24, 3) := by decide +kernel
theorem dX5_gatherOne_46 : decode cX5_gatherOne 46 = .ok (.iconst 1, 1) := by decide +kernel
theorem dX5_gatherOne_47 : decode cX5_gatherOne 47 = .ok (.iadd, 1) := by decide +kernel
theorem dX5_gatherOne_48 : decode cX5_gatherOne 48 = .ok (.putfield 24, 3) := by decide +kernel
theorem dX5_gatherOne_51 : decode cX5_gatherOne 51 = .ok (.return_, 1) := by decide +kernel
set_option maxRecDepth 20000 in
theorem ggX5_decidingFor_X5_areDistinctAt : GoodIn wsX5_decidingFor wsX5_areDistinctAt := goodIn_r _ [6, 1, 7, 8, 9, 5, 10, 11, 12, 13, 14, 15, 16, 17, 18, 19, 20, 21, 22, 23, 24, 25, 26, 27, 28, 29, 30, 31, 32, 33, 34, 35, 36, 37, 38, 39, 40, 68, 69, 70, 71, 72, 73, 74, 75, 76, 77, 78, 79, 80, 81, 82, 83, 84] rfl (by decide +kernel)
set_option maxRecDepth 20000 in
theorem gX5_decidingFor_X5_areDistinctAt : GoodIn wsX5_decidingFor (wsV RX5 58 RX5 yX5_areDistinctAt wsX5_areDistinctAt) := goodIn_app (goodIn_of _ (by decide +kernel)) ggX5_decidingFor_X5_areDistinctAt
set_option maxRecDepth 20000 in
theorem ggX5_decidingFor_X5_areSameAt : GoodIn wsX5_decidingFor wsX5_areSameAt := goodIn_r _ [44, 1, 12, 13, 14, 5, 15, 16, 17, 18, 19, 20, 21, 22, 23, 24, 25, 26, 27, 28, 29, 30, 31, 32, 45, 46, 47, 48, 49, 50, 51, 52, 53, 54, 55, 36, 56, 57, 58, 59, 60, 61, 38, 62, 40, 63, 64, 65, 66, 67, 68, 69, 70, 71, 75, 76, 77, 78, 79, 72, 73, 74, 80, 81, 82, 83, 84] rfl (by decide +kernel)
set_option maxRecDepth 20000 in
theorem gX5_decidingFor_X5_areSameAt : GoodIn wsX5_decidingFor (wsV RX5 61 RX5 yX5_areSameAt wsX5_areSameAt) := goodIn_app (goodIn_of _ (by decide +kernel)) ggX5_decidingFor_X5_areSameAt
theorem dX5_decidingFor_0 : decode cX5_decidingFor 0 = .ok (.aload_n 0, 1) := by decide +kernel
theorem dX5_decidingFor_1 : decode cX5_decidingFor 1 = .ok (.getfield 24, 3) := by decide +kernel
theorem dX5_decidingFor_4 : decode cX5_decidingFor 4 = .ok (.iconst 2, 1) := by decide +kernel
theorem dX5_decidingFor_5 : decode cX5_decidingFor 5 = .ok (.if_icmp .ge 5, 3) := by decide +kernel
theorem dX5_decidingFor_8 : decode cX5_decidingFor 8 = .ok (.iconst (-1), 1) := by decide +kernel
theorem dX5_decidingFor_9 : decode cX5_decidingFor 9 = .ok (.ireturn, 1) := by decide +kernel
theorem dX5_decidingFor_10 : decode cX5_decidingFor 10 = .ok (.iconst 0, 1) := by decide +kernel
theorem dX5_decidingFor_11 : decode cX5_decidingFor 11 = .ok (.istore_n 2, 1) := by decide +kernel
theorem dX5_decidingFor_12 : decode cX5_decidingFor 12 = .ok (.iload_n 2, 1) := by decide +kernel
theorem dX5_decidingFor_13 : decode cX5_decidingFor 13 = .ok (.iload_n 1, 1) := by decide +kernel
theorem dX5_decidingFor_14 : decode cX5_decidingFor 14 = .ok (.if_icmp .ge 29, 3) := by decide +kernel
theorem dX5_decidingFor_17 : decode cX5_decidingFor 17 = .ok (.aload_n 0, 1) := by decide +kernel
theorem dX5_decidingFor_18 : decode cX5_decidingFor 18 = .ok (.iload_n 2, 1) := by decide +kernel
theorem dX5_decidingFor_19 : decode cX5_decidingFor 19 = .ok (.invokevirtual 58, 3) := by decide +kernel
theorem dX5_decidingFor_22 : decode cX5_decidingFor 22 = .ok (.ifCond .eq 5, 3) := by decide +kernel
theorem dX5_decidingFor_25 : decode cX5_decidingFor 25 = .ok (.iload_n 2, 1) := by decide +kernel
theorem dX5_decidingFor_26 : decode cX5_decidingFor 26 = .ok (.ireturn, 1) := by decide +kernel
theorem dX5_decidingFor_27 : decode cX5_decidingFor 27 = .ok (.aload_n 0, 1) := by decide +kernel
theorem dX5_decidingFor_28 : decode cX5_decidingFor 28 = .ok (.iload_n 2, 1) := by decide +kernel
theorem dX5_decidingFor_29 : decode cX5_decidingFor 29 = .ok (.invokevirtual 61, 3) := by decide +kernel
theorem dX5_decidingFor_32 : decode cX5_decidingFor 32 = .ok (.ifCond .ne 5, 3) := by decide +kernel
theorem dX5_decidingFor_35 : decode cX5_decidingFor 35 = .ok (.iconst (-1), 1) := by decide +kernel
theorem dX5_decidingFor_36 : decode cX5_decidingFor 36 = .ok (.ireturn, 1) := by decide +kernel
theorem dX5_decidingFor_37 : decode cX5_decidingFor 37 = .ok (.iinc 2 1, 3) := by decide +kernel
theorem dX5_decidingFor_40 : decode cX5_decidingFor 40 = .ok (.goto (-28), 3) := by decide +kernel
theorem dX5_decidingFor_43 : decode cX5_decidingFor 43 = .ok (.iconst (-1), 1) := by decide +kernel
theorem dX5_decidingFor_44 : decode cX5_decidingFor 44 = .ok (.ireturn, 1) := by decide +kernel
set_option maxRecDepth 20000 in
theorem ggX5_areDistinctAt_X5_typeAt : GoodIn wsX5_areDistinctAt wsX5_typeAt := goodIn_r _ [6, 7, 8, 9, 10, 5, 11, 12, 13, 14, 15, 1, 16, 17, 18, 19, 20, 21, 22, 23, 24, 25, 26, 27, 28, 41, 42, 43, 37, 38, 39, 40, 44, 45, 46, 47, 48] rfl (by decide +kernel)
set_option maxRecDepth 20000 in
theorem gX5_areDistinctAt_X5_typeAt : GoodIn wsX5_areDistinctAt (wsV RX5 64 RX5 yX5_typeAt wsX5_typeAt) := goodIn_app (goodIn_of _ (by decide +kernel)) ggX5_areDistinctAt_X5_typeAt
set_option maxRecDepth 20000 in
theorem ggX5_areDistinctAt_X9_isDistinctFrom : GoodIn wsX5_areDistinctAt wsX9_isDistinctFrom := goodIn_r _ [33, 34, 35, 36, 49, 50, 51, 52, 53] rfl (by decide +kernel)
set_option maxRecDepth 20000 in
theorem gX5_areDistinctAt_X9_isDistinctFrom : GoodIn wsX5_areDistinctAt (wsV RX5 68 RX9 yX9_isDistinctFrom wsX9_isDistinctFrom) := goodIn_app (goodIn_of _ (by decide +kernel)) ggX5_areDistinctAt_X9_isDistinctFrom
theorem dX5_areDistinctAt_0 : decode cX5_areDistinctAt 0 = .ok (.iconst 0, 1) := by decide +kernel
theorem dX5_areDistinctAt_1 : decode cX5_areDistinctAt 1 = .ok (.istore_n 2, 1) := by decide +kernel
theorem dX5_areDistinctAt_2 : decode cX5_areDistinctAt 2 = .ok (.iload_n 2, 1) := by decide +kernel
theorem dX5_areDistinctAt_3 : decode cX5_areDistinctAt 3 = .ok (.aload_n 0, 1) := by decide +kernel
theorem dX5_areDistinctAt_4 : decode cX5_areDistinctAt 4 = .ok (.getfield 24, 3) := by decide +kernel
theorem dX5_areDistinctAt_7 : decode cX5_areDistinctAt 7 = .ok (.if_icmp .ge 60, 3) := by decide +kernel
theorem dX5_areDistinctAt_10 : decode cX5_areDistinctAt 10 = .ok (.iconst 0, 1) := by decide +kernel
theorem dX5_areDistinctAt_11 : decode cX5_areDistinctAt 11 = .ok (.istore_n 3, 1) := by decide +kernel
theorem dX5_areDistinctAt_12 : decode cX5_areDistinctAt 12 = .ok (.iload_n 3, 1) := by decide +kernel
theorem dX5_areDistinctAt_13 : decode cX5_areDistinctAt 13 = .ok (.iload_n 2, 1) := by decide +kernel
theorem dX5_areDistinctAt_14 : decode cX5_areDistinctAt 14 = .ok (.if_icmp .ge 47, 3) := by decide +kernel
theorem dX5_areDistinctAt_17 : decode cX5_areDistinctAt 17 = .ok (.aload_n 0, 1) := by decide +kernel
theorem dX5_areDistinctAt_18 : decode cX5_areDistinctAt 18 = .ok (.iload_n 2, 1) := by decide +kernel
theorem dX5_areDistinctAt_19 : decode cX5_areDistinctAt 19 = .ok (.iload_n 1, 1) := by decide +kernel
theorem dX5_areDistinctAt_20 : decode cX5_areDistinctAt 20 = .ok (.invokevirtual 64, 3) := by decide +kernel
theorem dX5_areDistinctAt_23 : decode cX5_areDistinctAt 23 = .ok (.astore 4, 2) := by decide +kernel
theorem dX5_areDistinctAt_25 : decode cX5_areDistinctAt 25 = .ok (.aload_n 0, 1) := by decide +kernel
theorem dX5_areDistinctAt_26 : decode cX5_areDistinctAt 26 = .ok (.iload_n 3, 1) := by decide +kernel
theorem dX5_areDistinctAt_27 : decode cX5_areDistinctAt 27 = .ok (.iload_n 1, 1) := by decide +kernel
theorem dX5_areDistinctAt_28 : decode cX5_areDistinctAt 28 = .ok (.invokevirtual 64, 3) := by decide +kernel
theorem dX5_areDistinctAt_31 : decode cX5_areDistinctAt 31 = .ok (.astore 5, 2) := by decide +kernel
theorem dX5_areDistinctAt_33 : decode cX5_areDistinctAt 33 = .ok (.aload 4, 2) := by decide +kernel
theorem dX5_areDistinctAt_35 : decode cX5_areDistinctAt 35 = .ok (.ifnull 18, 3) := by decide +kernel
theorem dX5_areDistinctAt_38 : decode cX5_areDistinctAt 38 = .ok (.aload 5, 2) := by decide +kernel
theorem dX5_areDistinctAt_40 : decode cX5_areDistinctAt 40 = .ok (.ifnull 13, 3) := by decide +kernel
theorem dX5_areDistinctAt_43 : decode cX5_areDistinctAt 43 = .ok (.aload 4, 2) := by decide +kernel
theorem dX5_areDistinctAt_45 : decode cX5_areDistinctAt 45 = .ok (.aload 5, 2) := by decide +kernel
theorem dX5_areDistinctAt_47 : decode cX5_areDistinctAt 47 = .ok (.invokevirtual 68, 3) := by decide +kernel
theorem dX5_areDistinctAt_50 : decode cX5_areDistinctAt 50 = .ok (.ifCond .ne 5, 3) := by decide +kernel
theorem dX5_areDistinctAt_53 : decode cX5_areDistinctAt 53 = .ok (.iconst 0, 1) := by decide +kernel
theorem dX5_areDistinctAt_54 : decode cX5_areDistinctAt 54 = .ok (.ireturn, 1) := by decide +kernel
theorem dX5_areDistinctAt_55 : decode cX5_areDistinctAt 55 = .ok (.iinc 3 1, 3) := by decide +kernel
theorem dX5_areDistinctAt_58 : decode cX5_areDistinctAt 58 = .ok (.goto (-46), 3) := by decide +kernel
theorem dX5_areDistinctAt_61 : decode cX5_areDistinctAt 61 = .ok (.iinc 2 1, 3) := by decide +kernel
theorem dX5_areDistinctAt_64 : decode cX5_areDistinctAt 64 = .ok (.goto (-62), 3) := by decide +kernel
theorem dX5_areDistinctAt_67 : decode cX5_areDistinctAt 67 = .ok (.iconst 1, 1) := by decide +kernel
theorem dX5_areDistinctAt_68 : decode cX5_areDistinctAt 68 = .ok (.ireturn, 1) := by decide +kernel
set_option maxRecDepth 20000 in
theorem ggX5_areSameAt_X5_argumentAt : GoodIn wsX5_areSameAt wsX5_argumentAt := goodIn_r _ [6, 7, 8, 9, 5, 10, 1, 11, 12, 13, 14, 15, 16, 17, 18, 19, 20, 21, 22, 23, 50, 51, 52, 53, 54, 55, 56, 57, 58] rfl (by decide +kernel)
set_option maxRecDepth 20000 in
theorem gX5_areSameAt_X5_argumentAt : GoodIn wsX5_areSameAt (wsV RX5 74 RX5 yX5_argumentAt wsX5_argumentAt) := goodIn_app (goodIn_of _ (by decide +kernel)) ggX5_areSameAt_X5_argumentAt
set_option maxRecDepth 20000 in
theorem ggX5_areSameAt_X0_isSameAs : GoodIn wsX5_areSameAt wsX0_isSameAs := goodIn_r _ [28, 29, 30, 31, 32, 33, 34, 35, 36, 37, 38, 39, 40, 41, 42, 43, 44, 45, 46, 47, 48, 49, 59, 60, 61, 62, 63, 64, 65, 66] rfl (by decide +kernel)
set_option maxRecDepth 20000 in
theorem gX5_areSameAt_X0_isSameAs : GoodIn wsX5_areSameAt (wsV RX5 78 RX0 yX0_isSameAs wsX0_isSameAs) := goodIn_app (goodIn_of _ (by decide +kernel)) ggX5_areSameAt_X0_isSameAs
theorem dX5_areSameAt_0 : decode cX5_areSameAt 0 = .ok (.aload_n 0, 1) := by decide +kernel
theorem dX5_areSameAt_1 : decode cX5_areSameAt 1 = .ok (.iconst 0, 1) := by decide +kernel
theorem dX5_areSameAt_2 : decode cX5_areSameAt 2 = .ok (.iload_n 1, 1) := by decide +kernel
theorem dX5_areSameAt_3 : decode cX5_areSameAt 3 = .ok (.invokevirtual 74, 3) := by decide +kernel
theorem dX5_areSameAt_6 : decode cX5_areSameAt 6 = .ok (.astore_n 2, 1) := by decide +kernel
theorem dX5_areSameAt_7 : decode cX5_areSameAt 7 = .ok (.iconst 1, 1) := by decide +kernel
theorem dX5_areSameAt_8 : decode cX5_areSameAt 8 = .ok (.istore_n 3, 1) := by decide +kernel
theorem dX5_areSameAt_9 : decode cX5_areSameAt 9 = .ok (.iload_n 3, 1) := by decide +kernel
theorem dX5_areSameAt_10 : decode cX5_areSameAt 10 = .ok (.aload_n 0, 1) := by decide +kernel
theorem dX5_areSameAt_11 : decode cX5_areSameAt 11 = .ok (.getfield 24, 3) := by decide +kernel
theorem dX5_areSameAt_14 : decode cX5_areSameAt 14 = .ok (.if_icmp .ge 37, 3) := by decide +kernel
theorem dX5_areSameAt_17 : decode cX5_areSameAt 17 = .ok (.aload_n 0, 1) := by decide +kernel
theorem dX5_areSameAt_18 : decode cX5_areSameAt 18 = .ok (.iload_n 3, 1) := by decide +kernel
theorem dX5_areSameAt_19 : decode cX5_areSameAt 19 = .ok (.iload_n 1, 1) := by decide +kernel
theorem dX5_areSameAt_20 : decode cX5_areSameAt 20 = .ok (.invokevirtual 74, 3) := by decide +kernel
theorem dX5_areSameAt_23 : decode cX5_areSameAt 23 = .ok (.astore 4, 2) := by decide +kernel
theorem dX5_areSameAt_25 : decode cX5_areSameAt 25 = .ok (.aload_n 2, 1) := by decide +kernel
theorem dX5_areSameAt_26 : decode cX5_areSameAt 26 = .ok (.ifnull 17, 3) := by decide +kernel
theorem dX5_areSameAt_29 : decode cX5_areSameAt 29 = .ok (.aload 4, 2) := by decide +kernel
theorem dX5_areSameAt_31 : decode cX5_areSameAt 31 = .ok (.ifnull 12, 3) := by decide +kernel
theorem dX5_areSameAt_34 : decode cX5_areSameAt 34 = .ok (.aload 4, 2) := by decide +kernel
theorem dX5_areSameAt_36 : decode cX5_areSameAt 36 = .ok (.aload_n 2, 1) := by decide +kernel
theorem dX5_areSameAt_37 : decode cX5_areSameAt 37 = .ok (.invokevirtual 78, 3) := by decide +kernel
theorem dX5_areSameAt_40 : decode cX5_areSameAt 40 = .ok (.ifCond .ne 5, 3) := by decide +kernel
theorem dX5_areSameAt_43 : decode cX5_areSameAt 43 = .ok (.iconst 0, 1) := by decide +kernel
theorem dX5_areSameAt_44 : decode cX5_areSameAt 44 = .ok (.ireturn, 1) := by decide +kernel
theorem dX5_areSameAt_45 : decode cX5_areSameAt 45 = .ok (.iinc 3 1, 3) := by decide +kernel
theorem dX5_areSameAt_48 : decode cX5_areSameAt 48 = .ok (.goto (-39), 3) := by decide +kernel
theorem dX5_areSameAt_51 : decode cX5_areSameAt 51 = .ok (.iconst 1, 1) := by decide +kernel
theorem dX5_areSameAt_52 : decode cX5_areSameAt 52 = .ok (.ireturn, 1) := by decide +kernel
set_option maxRecDepth 20000 in
theorem ggX5_argumentAt_X5_ableAt : GoodIn wsX5_argumentAt wsX5_ableAt := goodIn_r _ [5, 6, 7, 20, 21, 22, 23] rfl (by decide +kernel)
set_option maxRecDepth 20000 in
theorem gX5_argumentAt_X5_ableAt : GoodIn wsX5_argumentAt (wsV RX5 84 RX5 yX5_ableAt wsX5_ableAt) := goodIn_app (goodIn_of _ (by decide +kernel)) ggX5_argumentAt_X5_ableAt
set_option maxRecDepth 20000 in
theorem ggX5_argumentAt_X2_argumentAt : GoodIn wsX5_argumentAt wsX2_argumentAt := goodIn_r _ [12, 13, 14, 15, 16, 17, 18, 19, 24, 25, 26, 27, 28] rfl (by decide +kernel)
set_option maxRecDepth 20000 in
theorem gX5_argumentAt_X2_argumentAt : GoodIn wsX5_argumentAt (wsV RX5 87 RX2 yX2_argumentAt wsX2_argumentAt) := goodIn_app (goodIn_of _ (by decide +kernel)) ggX5_argumentAt_X2_argumentAt
theorem dX5_argumentAt_0 : decode cX5_argumentAt 0 = .ok (.aload_n 0, 1) := by decide +kernel
theorem dX5_argumentAt_1 : decode cX5_argumentAt 1 = .ok (.iload_n 1, 1) := by decide +kernel
theorem dX5_argumentAt_2 : decode cX5_argumentAt 2 = .ok (.invokevirtual 84, 3) := by decide +kernel
theorem dX5_argumentAt_5 : decode cX5_argumentAt 5 = .ok (.astore_n 3, 1) := by decide +kernel
theorem dX5_argumentAt_6 : decode cX5_argumentAt 6 = .ok (.aload_n 3, 1) := by decide +kernel
theorem dX5_argumentAt_7 : decode cX5_argumentAt 7 = .ok (.ifnonnull 7, 3) := by decide +kernel
theorem dX5_argumentAt_10 : decode cX5_argumentAt 10 = .ok (.aconst_null, 1) := by decide +kernel
theorem dX5_argumentAt_11 : decode cX5_argumentAt 11 = .ok (.goto 8, 3) := by decide +kernel
theorem dX5_argumentAt_14 : decode cX5_argumentAt 14 = .ok (.aload_n 3, 1) := by decide +kernel
theorem dX5_argumentAt_15 : decode cX5_argumentAt 15 = .ok (.iload_n 2, 1) := by decide +kernel
theorem dX5_argumentAt_16 : decode cX5_argumentAt 16 = .ok (.invokevirtual 87, 3) := by decide +kernel
theorem dX5_argumentAt_19 : decode cX5_argumentAt 19 = .ok (.areturn, 1) := by decide +kernel
set_option maxRecDepth 20000 in
theorem ggX5_typeAt_X5_argumentAt : GoodIn wsX5_typeAt wsX5_argumentAt := goodIn_r _ [6, 7, 8, 9, 5, 10, 11, 12, 13, 14, 15, 16, 17, 18, 19, 20, 21, 22, 23, 24, 28, 29, 30, 31, 32, 33, 34, 35, 36] rfl (by decide +kernel)
set_option maxRecDepth 20000 in
theorem gX5_typeAt_X5_argumentAt : GoodIn wsX5_typeAt (wsV RX5 74 RX5 yX5_argumentAt wsX5_argumentAt) := goodIn_app (goodIn_of _ (by decide +kernel)) ggX5_typeAt_X5_argumentAt
theorem dX5_typeAt_0 : decode cX5_typeAt 0 = .ok (.aload_n 0, 1) := by decide +kernel
theorem dX5_typeAt_1 : decode cX5_typeAt 1 = .ok (.iload_n 1, 1) := by decide +kernel
theorem dX5_typeAt_2 : decode cX5_typeAt 2 = .ok (.iload_n 2, 1) := by decide +kernel
theorem dX5_typeAt_3 : decode cX5_typeAt 3 = .ok (.invokevirtual 74, 3) := by decide +kernel
theorem dX5_typeAt_6 : decode cX5_typeAt 6 = .ok (.astore_n 3, 1) := by decide +kernel
theorem dX5_typeAt_7 : decode cX5_typeAt 7 = .ok (.aload_n 3, 1) := by decide +kernel
theorem dX5_typeAt_8 : decode cX5_typeAt 8 = .ok (.ifnonnull 7, 3) := by decide +kernel
theorem dX5_typeAt_11 : decode cX5_typeAt 11 = .ok (.aconst_null, 1) := by decide +kernel
theorem dX5_typeAt_12 : decode cX5_typeAt 12 = .ok (.goto 7, 3) := by decide +kernel
theorem dX5_typeAt_15 : decode cX5_typeAt 15 = .ok (.aload_n 3, 1) := by decide +kernel
theorem dX5_typeAt_16 : decode cX5_typeAt 16 = .ok (.getfield 90, 3) := by decide +kernel
theorem dX5_typeAt_19 : decode cX5_typeAt 19 = .ok (.areturn, 1) := by decide +kernel
set_option maxRecDepth 20000 in
theorem ggX5_clashOf_X2_canBeCalledWith : GoodIn wsX5_clashOf wsX2_canBeCalledWith := goodIn_r _ [6, 7, 8, 9, 5, 10, 11, 12, 13, 14, 15, 16, 17, 18, 19, 20, 21, 22, 23, 24, 25, 26, 27, 28, 29, 30, 31, 32, 107, 108, 109, 110, 111, 112, 113, 114] rfl (by decide +kernel)
set_option maxRecDepth 20000 in
theorem gX5_clashOf_X2_canBeCalledWith : GoodIn wsX5_clashOf (wsV RX5 54 RX2 yX2_canBeCalledWith wsX2_canBeCalledWith) := goodIn_app (goodIn_of _ (by decide +kernel)) ggX5_clashOf_X2_canBeCalledWith
set_option maxRecDepth 20000 in
theorem ggX5_clashOf_X5_gather : GoodIn wsX5_clashOf wsX5_gather := goodIn_r _ [37, 1, 38, 39, 40, 41, 36, 42, 43, 44, 45, 46, 47, 48, 2, 3, 4, 5, 6, 7, 8, 9, 10, 11, 12, 13, 14, 15, 16, 17, 18, 19, 20, 21, 22, 23, 24, 25, 26, 27, 28, 29, 30, 31, 32, 103, 104, 105, 106, 107, 108, 109, 110, 111, 112, 113, 114] rfl (by decide +kernel)
set_option maxRecDepth 20000 in
theorem gX5_clashOf_X5_gather : GoodIn wsX5_clashOf (wsV RX5 94 RX5 yX5_gather wsX5_gather) := goodIn_app (goodIn_of _ (by decide +kernel)) ggX5_clashOf_X5_gather
set_option maxRecDepth 20000 in
theorem ggX5_clashOf_X5_decidingFor : GoodIn wsX5_clashOf wsX5_decidingFor := goodIn_r _ [52, 1, 53, 54, 55, 36, 56, 57, 58, 59, 60, 61, 62, 63, 64, 65, 66, 67, 68, 69, 48, 70, 13, 14, 5, 15, 16, 11, 17, 18, 19, 20, 21, 71, 72, 73, 74, 75, 76, 77, 78, 79, 80, 81, 82, 83, 84, 85, 25, 86, 27, 28, 87, 88, 89, 90, 91, 92, 93, 94, 95, 96, 97, 98, 99, 100, 101, 102, 103, 104, 105, 106, 112, 113, 114, 107, 108, 109, 110, 111, 115, 116, 117, 118, 119] rfl (by decide +kernel)
set_option maxRecDepth 20000 in
theorem gX5_clashOf_X5_decidingFor : GoodIn wsX5_clashOf (wsV RX5 97 RX5 yX5_decidingFor wsX5_decidingFor) := goodIn_app (goodIn_of _ (by decide +kernel)) ggX5_clashOf_X5_decidingFor
theorem dX5_clashOf_0 : decode cX5_clashOf 0 = .ok (.iconst 0, 1) := by decide +kernel
theorem dX5_clashOf_1 : decode cX5_clashOf 1 = .ok (.istore_n 2, 1) := by decide +kernel
theorem dX5_clashOf_2 : decode cX5_clashOf 2 = .ok (.iload_n 2, 1) := by decide +kernel
theorem dX5_clashOf_3 : decode cX5_clashOf 3 = .ok (.bipush 8, 2) := by decide +kernel
theorem dX5_clashOf_5 : decode cX5_clashOf 5 = .ok (.if_icmp .gt 42, 3) := by decide +kernel
theorem dX5_clashOf_8 : decode cX5_clashOf 8 = .ok (.aload_n 1, 1) := by decide +kernel
theorem dX5_clashOf_9 : decode cX5_clashOf 9 = .ok (.iload_n 2, 1) := by decide +kernel
theorem dX5_clashOf_10 : decode cX5_clashOf 10 = .ok (.invokevirtual 54, 3) := by decide +kernel
theorem dX5_clashOf_13 : decode cX5_clashOf 13 = .ok (.ifCond .eq 28, 3) := by decide +kernel
theorem dX5_clashOf_16 : decode cX5_clashOf 16 = .ok (.aload_n 0, 1) := by decide +kernel
theorem dX5_clashOf_17 : decode cX5_clashOf 17 = .ok (.iload_n 2, 1) := by decide +kernel
theorem dX5_clashOf_18 : decode cX5_clashOf 18 = .ok (.aload_n 1, 1) := by decide +kernel
theorem dX5_clashOf_19 : decode cX5_clashOf 19 = .ok (.invokevirtual 94, 3) := by decide +kernel
theorem dX5_clashOf_22 : decode cX5_clashOf 22 = .ok (.aload_n 0, 1) := by decide +kernel
theorem dX5_clashOf_23 : decode cX5_clashOf 23 = .ok (.getfield 24, 3) := by decide +kernel
theorem dX5_clashOf_26 : decode cX5_clashOf 26 = .ok (.iconst 1, 1) := by decide +kernel
theorem dX5_clashOf_27 : decode cX5_clashOf 27 = .ok (.if_icmp .le 14, 3) := by decide +kernel
theorem dX5_clashOf_30 : decode cX5_clashOf 30 = .ok (.aload_n 0, 1) := by decide +kernel
theorem dX5_clashOf_31 : decode cX5_clashOf 31 = .ok (.iload_n 2, 1) := by decide +kernel
theorem dX5_clashOf_32 : decode cX5_clashOf 32 = .ok (.invokevirtual 97, 3) := by decide +kernel
theorem dX5_clashOf_35 : decode cX5_clashOf 35 = .ok (.iconst (-1), 1) := by decide +kernel
theorem dX5_clashOf_36 : decode cX5_clashOf 36 = .ok (.if_icmp .ne 5, 3) := by decide +kernel
theorem dX5_clashOf_39 : decode cX5_clashOf 39 = .ok (.iload_n 2, 1) := by decide +kernel
theorem dX5_clashOf_40 : decode cX5_clashOf 40 = .ok (.ireturn, 1) := by decide +kernel
theorem dX5_clashOf_41 : decode cX5_clashOf 41 = .ok (.iinc 2 1, 3) := by decide +kernel
theorem dX5_clashOf_44 : decode cX5_clashOf 44 = .ok (.goto (-42), 3) := by decide +kernel
theorem dX5_clashOf_47 : decode cX5_clashOf 47 = .ok (.iconst (-1), 1) := by decide +kernel
theorem dX5_clashOf_48 : decode cX5_clashOf 48 = .ok (.ireturn, 1) := by decide +kernel
set_option maxRecDepth 20000 in
theorem ggX5_choose_X5_firstThatMayMiss : GoodIn wsX5_choose wsX5_firstThatMayMiss := goodIn_r _ [6, 7, 8, 9, 10, 5, 11, 12, 13, 14, 15, 16, 17, 18, 19, 20, 21, 22, 23, 24, 25, 26, 27, 28, 29, 30, 31, 32, 33, 34, 35, 68, 69, 70, 71, 72, 73, 74, 75, 76, 77, 78, 79] rfl (by decide +kernel)
set_option maxRecDepth 20000 in
theorem gX5_choose_X5_firstThatMayMiss : GoodIn wsX5_choose (wsV RX5 106 RX5 yX5_firstThatMayMiss wsX5_firstThatMayMiss) := goodIn_app (goodIn_of _ (by decide +kernel)) ggX5_choose_X5_firstThatMayMiss
set_option maxRecDepth 20000 in
theorem ggX5_choose_X8_isUndefinedOrNull : GoodIn wsX5_choose wsX8_isUndefinedOrNull := goodIn_r _ [40, 41, 61, 62, 63, 64, 65, 66, 67] rfl (by decide +kernel)
set_option maxRecDepth 20000 in
theorem gX5_choose_X8_isUndefinedOrNull : GoodIn wsX5_choose (wsV RX5 109 RX8 yX8_isUndefinedOrNull wsX8_isUndefinedOrNull) := goodIn_app (goodIn_of _ (by decide +kernel)) ggX5_choose_X8_isUndefinedOrNull
set_option maxRecDepth 20000 in
theorem ggX5_choose_X5_firstNullable : GoodIn wsX5_choose wsX5_firstNullable := goodIn_r _ [45, 7, 46, 47, 48, 49, 5, 50, 51, 8, 9, 10, 11, 12, 13, 14, 15, 16, 17, 18, 19, 20, 21, 22, 23, 24, 25, 26, 27, 28, 68, 69, 70, 71, 80, 81, 82, 83, 84, 77, 78, 79, 72, 73, 74, 75, 76] rfl (by decide +kernel)
set_option maxRecDepth 20000 in
theorem gX5_choose_X5_firstNullable : GoodIn wsX5_choose (wsV RX5 113 RX5 yX5_firstNullable wsX5_firstNullable) := goodIn_app (goodIn_of _ (by decide +kernel)) ggX5_choose_X5_firstNullable
set_option maxRecDepth 20000 in
theorem ggX5_choose_X5_sortOf : GoodIn wsX5_choose wsX5_sortOf := goodIn_r _ [54, 1, 61, 62, 63, 64, 65, 66, 67] rfl (by decide +kernel)
set_option maxRecDepth 20000 in
theorem gX5_choose_X5_sortOf : GoodIn wsX5_choose (va_wsS RX5 116 yX5_sortOf wsX5_sortOf) := goodIn_app (goodIn_of _ (by decide +kernel)) ggX5_choose_X5_sortOf
set_option maxRecDepth 20000 in
theorem ggX5_choose_X5_firstOfSort : GoodIn wsX5_choose wsX5_firstOfSort := goodIn_r _ [58, 7, 59, 60, 47, 48, 49, 5, 50, 51, 8, 9, 10, 11, 12, 13, 14, 15, 16, 17, 18, 19, 20, 21, 22, 23, 24, 25, 26, 27, 28, 68, 69, 70, 71, 80, 81, 82, 83, 84, 77, 78, 79, 72, 73, 74, 75, 76] rfl (by decide +kernel)
set_option maxRecDepth 20000 in
theorem gX5_choose_X5_firstOfSort : GoodIn wsX5_choose (wsV RX5 120 RX5 yX5_firstOfSort wsX5_firstOfSort) := goodIn_app (goodIn_of _ (by decide +kernel)) ggX5_choose_X5_firstOfSort
theorem dX5_choose_0 : decode cX5_choose 0 = .ok (.aload_n 2, 1) := by decide +kernel
theorem dX5_choose_1 : decode cX5_choose 1 = .ok (.ifnonnull 5, 3) := by decide +kernel
theorem dX5_choose_4 : decode cX5_choose 4 = .ok (.aconst_null, 1) := by decide +kernel
theorem dX5_choose_5 : decode cX5_choose 5 = .ok (.areturn, 1) := by decide +kernel
theorem dX5_choose_6 : decode cX5_choose 6 = .ok (.aload_n 2, 1) := by decide +kernel
theorem dX5_choose_7 : decode cX5_choose 7 = .ok (.getfield 101, 3) := by decide +kernel
theorem dX5_choose_10 : decode cX5_choose 10 = .ok (.bipush 7, 2) := by decide +kernel
theorem dX5_choose_12 : decode cX5_choose 12 = .ok (.if_icmp .ne 11, 3) := by decide +kernel
theorem dX5_choose_15 : decode cX5_choose 15 = .ok (.aload_n 0, 1) := by decide +kernel
theorem dX5_choose_16 : decode cX5_choose 16 = .ok (.iload_n 1, 1) := by decide +kernel
theorem dX5_choose_17 : decode cX5_choose 17 = .ok (.invokevirtual 106, 3) := by decide +kernel
theorem dX5_choose_20 : decode cX5_choose 20 = .ok (.goto 4, 3) := by decide +kernel
theorem dX5_choose_23 : decode cX5_choose 23 = .ok (.aconst_null, 1) := by decide +kernel
theorem dX5_choose_24 : decode cX5_choose 24 = .ok (.astore_n 3, 1) := by decide +kernel
theorem dX5_choose_25 : decode cX5_choose 25 = .ok (.aload_n 3, 1) := by decide +kernel
theorem dX5_choose_26 : decode cX5_choose 26 = .ok (.ifnonnull 16, 3) := by decide +kernel
theorem dX5_choose_29 : decode cX5_choose 29 = .ok (.aload_n 2, 1) := by decide +kernel
theorem dX5_choose_30 : decode cX5_choose 30 = .ok (.invokevirtual 109, 3) := by decide +kernel
theorem dX5_choose_33 : decode cX5_choose 33 = .ok (.ifCond .eq 9, 3) := by decide +kernel
theorem dX5_choose_36 : decode cX5_choose 36 = .ok (.aload_n 0, 1) := by decide +kernel
theorem dX5_choose_37 : decode cX5_choose 37 = .ok (.iload_n 1, 1) := by decide +kernel
theorem dX5_choose_38 : decode cX5_choose 38 = .ok (.invokevirtual 113, 3) := by decide +kernel
theorem dX5_choose_41 : decode cX5_choose 41 = .ok (.astore_n 3, 1) := by decide +kernel
theorem dX5_choose_42 : decode cX5_choose 42 = .ok (.aload_n 3, 1) := by decide +kernel
theorem dX5_choose_43 : decode cX5_choose 43 = .ok (.ifnonnull 13, 3) := by decide +kernel
theorem dX5_choose_46 : decode cX5_choose 46 = .ok (.aload_n 0, 1) := by decide +kernel
theorem dX5_choose_47 : decode cX5_choose 47 = .ok (.iload_n 1, 1) := by decide +kernel
theorem dX5_choose_48 : decode cX5_choose 48 = .ok (.aload_n 2, 1) := by decide +kernel
theorem dX5_choose_49 : decode cX5_choose 49 = .ok (.invokestatic 116, 3) := by decide +kernel
theorem dX5_choose_52 : decode cX5_choose 52 = .ok (.invokevirtual 120, 3) := by decide +kernel
theorem dX5_choose_55 : decode cX5_choose 55 = .ok (.astore_n 3, 1) := by decide +kernel
theorem dX5_choose_56 : decode cX5_choose 56 = .ok (.aload_n 3, 1) := by decide +kernel
theorem dX5_choose_57 : decode cX5_choose 57 = .ok (.ifnonnull 10, 3) := by decide +kernel
theorem dX5_choose_60 : decode cX5_choose 60 = .ok (.aload_n 0, 1) := by decide +kernel
theorem dX5_choose_61 : decode cX5_choose 61 = .ok (.iload_n 1, 1) := by decide +kernel
theorem dX5_choose_62 : decode cX5_choose 62 = .ok (.iconst 3, 1) := by decide +kernel
theorem dX5_choose_63 : decode cX5_choose 63 = .ok (.invokevirtual 120, 3) := by decide +kernel
theorem dX5_choose_66 : decode cX5_choose 66 = .ok (.astore_n 3, 1) := by decide +kernel
theorem dX5_choose_67 : decode cX5_choose 67 = .ok (.aload_n 3, 1) := by decide +kernel
theorem dX5_choose_68 : decode cX5_choose 68 = .ok (.ifnonnull 10, 3) := by decide +kernel
theorem dX5_choose_71 : decode cX5_choose 71 = .ok (.aload_n 0, 1) := by decide +kernel
theorem dX5_choose_72 : decode cX5_choose 72 = .ok (.iload_n 1, 1) := by decide +kernel
