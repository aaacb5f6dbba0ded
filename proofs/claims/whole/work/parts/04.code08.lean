theorem dX11_readName_79 : decode cX11_readName 79 = .ok (.return_, 1) := by decide +kernel
theorem dX11_readName_80 : decode cX11_readName 80 = .ok (.aload_n 0, 1) := by decide +kernel
theorem dX11_readName_81 : decode cX11_readName 81 = .ok (.getfield 31, 3) := by decide +kernel
theorem dX11_readName_84 : decode cX11_readName 84 = .ok (.iload_n 1, 1) := by decide +kernel
theorem dX11_readName_85 : decode cX11_readName 85 = .ok (.aload_n 0, 1) := by decide +kernel
theorem dX11_readName_86 : decode cX11_readName 86 = .ok (.invokevirtual 155, 3) := by decide +kernel
theorem dX11_readName_89 : decode cX11_readName 89 = .ok (.iastore, 1) := by decide +kernel
theorem dX11_readName_90 : decode cX11_readName 90 = .ok (.aload_n 0, 1) := by decide +kernel
theorem dX11_readName_91 : decode cX11_readName 91 = .ok (.getfield 40, 3) := by decide +kernel
theorem dX11_readName_94 : decode cX11_readName 94 = .ok (.iload_n 1, 1) := by decide +kernel
theorem dX11_readName_95 : decode cX11_readName 95 = .ok (.iconst 0, 1) := by decide +kernel
theorem dX11_readName_96 : decode cX11_readName 96 = .ok (.iastore, 1) := by decide +kernel
theorem dX11_readName_97 : decode cX11_readName 97 = .ok (.aload_n 0, 1) := by decide +kernel
theorem dX11_readName_98 : decode cX11_readName 98 = .ok (.getfield 31, 3) := by decide +kernel
theorem dX11_readName_101 : decode cX11_readName 101 = .ok (.iload_n 1, 1) := by decide +kernel
theorem dX11_readName_102 : decode cX11_readName 102 = .ok (.iaload, 1) := by decide +kernel
theorem dX11_readName_103 : decode cX11_readName 103 = .ok (.ifCond .lt 41, 3) := by decide +kernel
theorem dX11_readName_106 : decode cX11_readName 106 = .ok (.aload_n 0, 1) := by decide +kernel
theorem dX11_readName_107 : decode cX11_readName 107 = .ok (.getfield 31, 3) := by decide +kernel
theorem dX11_readName_110 : decode cX11_readName 110 = .ok (.iload_n 1, 1) := by decide +kernel
theorem dX11_readName_111 : decode cX11_readName 111 = .ok (.iaload, 1) := by decide +kernel
theorem dX11_readName_112 : decode cX11_readName 112 = .ok (.bipush 9, 2) := by decide +kernel
theorem dX11_readName_114 : decode cX11_readName 114 = .ok (.if_icmp .ne 7, 3) := by decide +kernel
theorem dX11_readName_117 : decode cX11_readName 117 = .ok (.iload_n 2, 1) := by decide +kernel
theorem dX11_readName_118 : decode cX11_readName 118 = .ok (.ifCond .eq 26, 3) := by decide +kernel
theorem dX11_readName_121 : decode cX11_readName 121 = .ok (.aload_n 0, 1) := by decide +kernel
theorem dX11_readName_122 : decode cX11_readName 122 = .ok (.getfield 34, 3) := by decide +kernel
theorem dX11_readName_125 : decode cX11_readName 125 = .ok (.iload_n 1, 1) := by decide +kernel
theorem dX11_readName_126 : decode cX11_readName 126 = .ok (.iaload, 1) := by decide +kernel
theorem dX11_readName_127 : decode cX11_readName 127 = .ok (.ifCond .le 26, 3) := by decide +kernel
theorem dX11_readName_130 : decode cX11_readName 130 = .ok (.aload_n 0, 1) := by decide +kernel
theorem dX11_readName_131 : decode cX11_readName 131 = .ok (.getfield 31, 3) := by decide +kernel
theorem dX11_readName_134 : decode cX11_readName 134 = .ok (.iload_n 1, 1) := by decide +kernel
theorem dX11_readName_135 : decode cX11_readName 135 = .ok (.iaload, 1) := by decide +kernel
theorem dX11_readName_136 : decode cX11_readName 136 = .ok (.iconst 1, 1) := by decide +kernel
theorem dX11_readName_137 : decode cX11_readName 137 = .ok (.iconst 4, 1) := by decide +kernel
theorem dX11_readName_138 : decode cX11_readName 138 = .ok (.invokestatic 158, 3) := by decide +kernel
theorem dX11_readName_141 : decode cX11_readName 141 = .ok (.ifCond .ne 12, 3) := by decide +kernel
theorem dX11_readName_144 : decode cX11_readName 144 = .ok (.aload_n 0, 1) := by decide +kernel
theorem dX11_readName_145 : decode cX11_readName 145 = .ok (.aload_n 0, 1) := by decide +kernel
theorem dX11_readName_146 : decode cX11_readName 146 = .ok (.getfield 92, 3) := by decide +kernel
theorem dX11_readName_149 : decode cX11_readName 149 = .ok (.invokevirtual 107, 3) := by decide +kernel
theorem dX11_readName_152 : decode cX11_readName 152 = .ok (.return_, 1) := by decide +kernel
theorem dX11_readName_153 : decode cX11_readName 153 = .ok (.aload_n 0, 1) := by decide +kernel
theorem dX11_readName_154 : decode cX11_readName 154 = .ok (.aload_n 0, 1) := by decide +kernel
theorem dX11_readName_155 : decode cX11_readName 155 = .ok (.invokevirtual 114, 3) := by decide +kernel
theorem dX11_readName_158 : decode cX11_readName 158 = .ok (.putfield 92, 3) := by decide +kernel
theorem dX11_readName_161 : decode cX11_readName 161 = .ok (.aload_n 0, 1) := by decide +kernel
theorem dX11_readName_162 : decode cX11_readName 162 = .ok (.getfield 31, 3) := by decide +kernel
theorem dX11_readName_165 : decode cX11_readName 165 = .ok (.iload_n 1, 1) := by decide +kernel
theorem dX11_readName_166 : decode cX11_readName 166 = .ok (.iaload, 1) := by decide +kernel
theorem dX11_readName_167 : decode cX11_readName 167 = .ok (.bipush 8, 2) := by decide +kernel
theorem dX11_readName_169 : decode cX11_readName 169 = .ok (.if_icmp .ne 8, 3) := by decide +kernel
theorem dX11_readName_172 : decode cX11_readName 172 = .ok (.aload_n 0, 1) := by decide +kernel
theorem dX11_readName_173 : decode cX11_readName 173 = .ok (.iload_n 1, 1) := by decide +kernel
theorem dX11_readName_174 : decode cX11_readName 174 = .ok (.invokevirtual 162, 3) := by decide +kernel
theorem dX11_readName_177 : decode cX11_readName 177 = .ok (.return_, 1) := by decide +kernel
set_option maxRecDepth 20000 in
theorem ggX11_readMark_X11_takes : GoodIn wsX11_readMark wsX11_takes := goodIn_r _ [8, 2, 9, 10, 11, 12, 7, 13, 14, 15, 16, 17, 18, 19, 20, 21, 22, 23, 24, 25, 26, 27, 28, 29, 30, 31, 32, 33, 34, 35, 36, 37, 38, 39, 40, 41, 42, 43] (by decide +kernel) (by decide +kernel)
set_option maxRecDepth 20000 in
theorem gX11_readMark_X11_takes : GoodIn wsX11_readMark (wsV RX11 103 RX11 yX11_takes wsX11_takes) := goodIn_app (goodIn_of _ (by decide +kernel)) ggX11_readMark_X11_takes
theorem dX11_readMark_0 : decode cX11_readMark 0 = .ok (.aload_n 0, 1) := by decide +kernel
theorem dX11_readMark_1 : decode cX11_readMark 1 = .ok (.getfield 37, 3) := by decide +kernel
theorem dX11_readMark_4 : decode cX11_readMark 4 = .ok (.iload_n 1, 1) := by decide +kernel
theorem dX11_readMark_5 : decode cX11_readMark 5 = .ok (.aload_n 0, 1) := by decide +kernel
theorem dX11_readMark_6 : decode cX11_readMark 6 = .ok (.getfield 95, 3) := by decide +kernel
theorem dX11_readMark_9 : decode cX11_readMark 9 = .ok (.ifCond .ne 27, 3) := by decide +kernel
theorem dX11_readMark_12 : decode cX11_readMark 12 = .ok (.aload_n 0, 1) := by decide +kernel
theorem dX11_readMark_13 : decode cX11_readMark 13 = .ok (.getfield 31, 3) := by decide +kernel
theorem dX11_readMark_16 : decode cX11_readMark 16 = .ok (.iload_n 1, 1) := by decide +kernel
theorem dX11_readMark_17 : decode cX11_readMark 17 = .ok (.iaload, 1) := by decide +kernel
theorem dX11_readMark_18 : decode cX11_readMark 18 = .ok (.bipush 7, 2) := by decide +kernel
theorem dX11_readMark_20 : decode cX11_readMark 20 = .ok (.if_icmp .eq 16, 3) := by decide +kernel
theorem dX11_readMark_23 : decode cX11_readMark 23 = .ok (.aload_n 0, 1) := by decide +kernel
theorem dX11_readMark_24 : decode cX11_readMark 24 = .ok (.bipush 63, 2) := by decide +kernel
theorem dX11_readMark_26 : decode cX11_readMark 26 = .ok (.invokevirtual 103, 3) := by decide +kernel
theorem dX11_readMark_29 : decode cX11_readMark 29 = .ok (.ifCond .eq 7, 3) := by decide +kernel
theorem dX11_readMark_32 : decode cX11_readMark 32 = .ok (.iconst 1, 1) := by decide +kernel
theorem dX11_readMark_33 : decode cX11_readMark 33 = .ok (.goto 4, 3) := by decide +kernel
theorem dX11_readMark_36 : decode cX11_readMark 36 = .ok (.iconst 0, 1) := by decide +kernel
theorem dX11_readMark_37 : decode cX11_readMark 37 = .ok (.bastore, 1) := by decide +kernel
theorem dX11_readMark_38 : decode cX11_readMark 38 = .ok (.return_, 1) := by decide +kernel
set_option maxRecDepth 20000 in
theorem ggX11_readArgument_X11_isWord : GoodIn wsX11_readArgument wsX11_isWord := goodIn_r _ [11, 4, 12, 13, 14, 15, 16, 10, 17, 18, 19, 20, 21, 22, 23, 24, 25, 80, 81, 82, 83, 84, 85, 86, 87, 88, 89, 90, 91, 92, 93, 94, 95, 96, 97, 98, 99, 100, 101, 102, 103, 104, 105, 106, 107] (by decide +kernel) (by decide +kernel)
set_option maxRecDepth 20000 in
theorem gX11_readArgument_X11_isWord : GoodIn wsX11_readArgument (wsV RX11 122 RX11 yX11_isWord wsX11_isWord) := goodIn_app (goodIn_of _ (by decide +kernel)) ggX11_readArgument_X11_isWord
set_option maxRecDepth 20000 in
theorem ggX11_readArgument_X11_wordEnd : GoodIn wsX11_readArgument wsX11_wordEnd := goodIn_r _ [17, 4, 18, 12, 19, 20, 21, 10, 22, 23, 24, 25, 80, 81, 82, 83, 84, 85, 86, 87, 88, 89, 90, 91, 92, 93, 94, 95, 96, 97, 98, 99, 100, 101, 102, 103, 104, 105, 106, 107] (by decide +kernel) (by decide +kernel)
set_option maxRecDepth 20000 in
theorem gX11_readArgument_X11_wordEnd : GoodIn wsX11_readArgument (wsV RX11 114 RX11 yX11_wordEnd wsX11_wordEnd) := goodIn_app (goodIn_of _ (by decide +kernel)) ggX11_readArgument_X11_wordEnd
set_option maxRecDepth 20000 in
theorem ggX11_readArgument_X11_readName : GoodIn wsX11_readArgument wsX11_readName := goodIn_r _ [29, 30, 4, 5, 6, 31, 32, 33, 34, 10, 35, 19, 20, 21, 22, 18, 12, 36, 37, 38, 39, 40, 41, 42, 43, 44, 45, 46, 47, 48, 49, 50, 51, 52, 53, 54, 55, 56, 57, 58, 7, 8, 9, 11, 13, 14, 15, 16, 17, 23, 24, 25, 59, 60, 61, 62, 63, 64, 65, 66, 67, 68, 69, 70, 71, 72, 73, 74, 80, 81, 82, 83, 84, 85, 86, 87, 88, 89, 90, 91, 92, 93, 94, 95, 96, 97, 98, 99, 100, 101, 102, 103, 104, 105, 106, 107] (by decide +kernel) (by decide +kernel)
set_option maxRecDepth 20000 in
theorem gX11_readArgument_X11_readName : GoodIn wsX11_readArgument (wsV RX11 167 RX11 yX11_readName wsX11_readName) := goodIn_app (goodIn_of _ (by decide +kernel)) ggX11_readArgument_X11_readName
set_option maxRecDepth 20000 in
theorem ggX11_readArgument_X11_want : GoodIn wsX11_readArgument wsX11_want := goodIn_r _ [44, 4, 32, 33, 34, 10, 35, 5, 19, 20, 21, 22, 18, 12, 36, 37, 38, 39, 40, 80, 81, 82, 83, 84, 85, 86, 87, 88, 89, 90, 91, 92, 93, 94, 95, 96, 97, 98, 99, 100, 101, 102, 103, 104, 105, 106, 107] (by decide +kernel) (by decide +kernel)
set_option maxRecDepth 20000 in
theorem gX11_readArgument_X11_want : GoodIn wsX11_readArgument (wsV RX11 148 RX11 yX11_want wsX11_want) := goodIn_app (goodIn_of _ (by decide +kernel)) ggX11_readArgument_X11_want
set_option maxRecDepth 20000 in
theorem ggX11_readArgument_X11_readMark : GoodIn wsX11_readArgument wsX11_readMark := goodIn_r _ [78, 79, 5, 6, 32, 33, 34, 10, 35, 4, 19, 20, 21, 22, 18, 12, 80, 81, 82, 83, 84, 85, 86, 87, 88, 89, 90, 91, 92, 93, 94, 95, 96, 97, 98, 99, 100, 101, 102, 103, 104, 105, 106, 107] (by decide +kernel) (by decide +kernel)
set_option maxRecDepth 20000 in
theorem gX11_readArgument_X11_readMark : GoodIn wsX11_readArgument (wsV RX11 171 RX11 yX11_readMark wsX11_readMark) := goodIn_app (goodIn_of _ (by decide +kernel)) ggX11_readArgument_X11_readMark
set_option maxRecDepth 20000 in
theorem ggX11_readArgument_X11_takes : GoodIn wsX11_readArgument wsX11_takes := goodIn_r _ [35, 5, 4, 19, 20, 21, 10, 22, 18, 12, 80, 81, 82, 83, 84, 85, 86, 87, 88, 89, 90, 91, 92, 93, 94, 95, 96, 97, 98, 99, 100, 101, 102, 103, 104, 105, 106, 107] (by decide +kernel) (by decide +kernel)
set_option maxRecDepth 20000 in
theorem gX11_readArgument_X11_takes : GoodIn wsX11_readArgument (wsV RX11 103 RX11 yX11_takes wsX11_takes) := goodIn_app (goodIn_of _ (by decide +kernel)) ggX11_readArgument_X11_takes
theorem dX11_readArgument_0 : decode cX11_readArgument 0 = .ok (.aload_n 0, 1) := by decide +kernel
theorem dX11_readArgument_1 : decode cX11_readArgument 1 = .ok (.getfield 24, 3) := by decide +kernel
theorem dX11_readArgument_4 : decode cX11_readArgument 4 = .ok (.iload_n 1, 1) := by decide +kernel
theorem dX11_readArgument_5 : decode cX11_readArgument 5 = .ok (.iconst 0, 1) := by decide +kernel
theorem dX11_readArgument_6 : decode cX11_readArgument 6 = .ok (.bastore, 1) := by decide +kernel
theorem dX11_readArgument_7 : decode cX11_readArgument 7 = .ok (.aload_n 0, 1) := by decide +kernel
theorem dX11_readArgument_8 : decode cX11_readArgument 8 = .ok (.getfield 28, 3) := by decide +kernel
theorem dX11_readArgument_11 : decode cX11_readArgument 11 = .ok (.iload_n 1, 1) := by decide +kernel
theorem dX11_readArgument_12 : decode cX11_readArgument 12 = .ok (.iconst 0, 1) := by decide +kernel
theorem dX11_readArgument_13 : decode cX11_readArgument 13 = .ok (.bastore, 1) := by decide +kernel
theorem dX11_readArgument_14 : decode cX11_readArgument 14 = .ok (.aload_n 0, 1) := by decide +kernel
theorem dX11_readArgument_15 : decode cX11_readArgument 15 = .ok (.ldc2_w 165, 3) := by decide +kernel
theorem dX11_readArgument_18 : decode cX11_readArgument 18 = .ok (.invokevirtual 122, 3) := by decide +kernel
theorem dX11_readArgument_21 : decode cX11_readArgument 21 = .ok (.ifCond .eq 18, 3) := by decide +kernel
theorem dX11_readArgument_24 : decode cX11_readArgument 24 = .ok (.aload_n 0, 1) := by decide +kernel
theorem dX11_readArgument_25 : decode cX11_readArgument 25 = .ok (.getfield 24, 3) := by decide +kernel
theorem dX11_readArgument_28 : decode cX11_readArgument 28 = .ok (.iload_n 1, 1) := by decide +kernel
theorem dX11_readArgument_29 : decode cX11_readArgument 29 = .ok (.iconst 1, 1) := by decide +kernel
theorem dX11_readArgument_30 : decode cX11_readArgument 30 = .ok (.bastore, 1) := by decide +kernel
theorem dX11_readArgument_31 : decode cX11_readArgument 31 = .ok (.aload_n 0, 1) := by decide +kernel
theorem dX11_readArgument_32 : decode cX11_readArgument 32 = .ok (.aload_n 0, 1) := by decide +kernel
theorem dX11_readArgument_33 : decode cX11_readArgument 33 = .ok (.invokevirtual 114, 3) := by decide +kernel
theorem dX11_readArgument_36 : decode cX11_readArgument 36 = .ok (.putfield 92, 3) := by decide +kernel
theorem dX11_readArgument_39 : decode cX11_readArgument 39 = .ok (.iconst 2, 1) := by decide +kernel
theorem dX11_readArgument_40 : decode cX11_readArgument 40 = .ok (.iload_n 1, 1) := by decide +kernel
theorem dX11_readArgument_41 : decode cX11_readArgument 41 = .ok (.imul, 1) := by decide +kernel
theorem dX11_readArgument_42 : decode cX11_readArgument 42 = .ok (.istore_n 2, 1) := by decide +kernel
theorem dX11_readArgument_43 : decode cX11_readArgument 43 = .ok (.aload_n 0, 1) := by decide +kernel
theorem dX11_readArgument_44 : decode cX11_readArgument 44 = .ok (.iload_n 2, 1) := by decide +kernel
theorem dX11_readArgument_45 : decode cX11_readArgument 45 = .ok (.iconst 1, 1) := by decide +kernel
theorem dX11_readArgument_46 : decode cX11_readArgument 46 = .ok (.invokevirtual 167, 3) := by decide +kernel
theorem dX11_readArgument_49 : decode cX11_readArgument 49 = .ok (.aload_n 0, 1) := by decide +kernel
theorem dX11_readArgument_50 : decode cX11_readArgument 50 = .ok (.getfield 95, 3) := by decide +kernel
theorem dX11_readArgument_53 : decode cX11_readArgument 53 = .ok (.ifCond .ne 41, 3) := by decide +kernel
theorem dX11_readArgument_56 : decode cX11_readArgument 56 = .ok (.aload_n 0, 1) := by decide +kernel
theorem dX11_readArgument_57 : decode cX11_readArgument 57 = .ok (.getfield 31, 3) := by decide +kernel
theorem dX11_readArgument_60 : decode cX11_readArgument 60 = .ok (.iload_n 2, 1) := by decide +kernel
theorem dX11_readArgument_61 : decode cX11_readArgument 61 = .ok (.iaload, 1) := by decide +kernel
theorem dX11_readArgument_62 : decode cX11_readArgument 62 = .ok (.bipush 9, 2) := by decide +kernel
theorem dX11_readArgument_64 : decode cX11_readArgument 64 = .ok (.if_icmp .ne 30, 3) := by decide +kernel
theorem dX11_readArgument_67 : decode cX11_readArgument 67 = .ok (.aload_n 0, 1) := by decide +kernel
theorem dX11_readArgument_68 : decode cX11_readArgument 68 = .ok (.bipush 60, 2) := by decide +kernel
theorem dX11_readArgument_70 : decode cX11_readArgument 70 = .ok (.invokevirtual 148, 3) := by decide +kernel
theorem dX11_readArgument_73 : decode cX11_readArgument 73 = .ok (.aload_n 0, 1) := by decide +kernel
theorem dX11_readArgument_74 : decode cX11_readArgument 74 = .ok (.iload_n 2, 1) := by decide +kernel
theorem dX11_readArgument_75 : decode cX11_readArgument 75 = .ok (.iconst 1, 1) := by decide +kernel
theorem dX11_readArgument_76 : decode cX11_readArgument 76 = .ok (.iadd, 1) := by decide +kernel
theorem dX11_readArgument_77 : decode cX11_readArgument 77 = .ok (.iconst 0, 1) := by decide +kernel
theorem dX11_readArgument_78 : decode cX11_readArgument 78 = .ok (.invokevirtual 167, 3) := by decide +kernel
theorem dX11_readArgument_81 : decode cX11_readArgument 81 = .ok (.aload_n 0, 1) := by decide +kernel
theorem dX11_readArgument_82 : decode cX11_readArgument 82 = .ok (.iload_n 2, 1) := by decide +kernel
theorem dX11_readArgument_83 : decode cX11_readArgument 83 = .ok (.iconst 1, 1) := by decide +kernel
theorem dX11_readArgument_84 : decode cX11_readArgument 84 = .ok (.iadd, 1) := by decide +kernel
theorem dX11_readArgument_85 : decode cX11_readArgument 85 = .ok (.invokevirtual 171, 3) := by decide +kernel
theorem dX11_readArgument_88 : decode cX11_readArgument 88 = .ok (.aload_n 0, 1) := by decide +kernel
theorem dX11_readArgument_89 : decode cX11_readArgument 89 = .ok (.bipush 62, 2) := by decide +kernel
theorem dX11_readArgument_91 : decode cX11_readArgument 91 = .ok (.invokevirtual 148, 3) := by decide +kernel
theorem dX11_readArgument_94 : decode cX11_readArgument 94 = .ok (.aload_n 0, 1) := by decide +kernel
theorem dX11_readArgument_95 : decode cX11_readArgument 95 = .ok (.iload_n 2, 1) := by decide +kernel
theorem dX11_readArgument_96 : decode cX11_readArgument 96 = .ok (.invokevirtual 171, 3) := by decide +kernel
theorem dX11_readArgument_99 : decode cX11_readArgument 99 = .ok (.aload_n 0, 1) := by decide +kernel
theorem dX11_readArgument_100 : decode cX11_readArgument 100 = .ok (.getfield 95, 3) := by decide +kernel
theorem dX11_readArgument_103 : decode cX11_readArgument 103 = .ok (.ifCond .ne 40, 3) := by decide +kernel
theorem dX11_readArgument_106 : decode cX11_readArgument 106 = .ok (.aload_n 0, 1) := by decide +kernel
theorem dX11_readArgument_107 : decode cX11_readArgument 107 = .ok (.getfield 24, 3) := by decide +kernel
theorem dX11_readArgument_110 : decode cX11_readArgument 110 = .ok (.iload_n 1, 1) := by decide +kernel
theorem dX11_readArgument_111 : decode cX11_readArgument 111 = .ok (.baload, 1) := by decide +kernel
theorem dX11_readArgument_112 : decode cX11_readArgument 112 = .ok (.ifCond .ne 31, 3) := by decide +kernel
theorem dX11_readArgument_115 : decode cX11_readArgument 115 = .ok (.aload_n 0, 1) := by decide +kernel
theorem dX11_readArgument_116 : decode cX11_readArgument 116 = .ok (.bipush 46, 2) := by decide +kernel
theorem dX11_readArgument_118 : decode cX11_readArgument 118 = .ok (.invokevirtual 103, 3) := by decide +kernel
theorem dX11_readArgument_121 : decode cX11_readArgument 121 = .ok (.ifCond .eq 22, 3) := by decide +kernel
theorem dX11_readArgument_124 : decode cX11_readArgument 124 = .ok (.aload_n 0, 1) := by decide +kernel
theorem dX11_readArgument_125 : decode cX11_readArgument 125 = .ok (.bipush 46, 2) := by decide +kernel
theorem dX11_readArgument_127 : decode cX11_readArgument 127 = .ok (.invokevirtual 148, 3) := by decide +kernel
theorem dX11_readArgument_130 : decode cX11_readArgument 130 = .ok (.aload_n 0, 1) := by decide +kernel
theorem dX11_readArgument_131 : decode cX11_readArgument 131 = .ok (.bipush 46, 2) := by decide +kernel
theorem dX11_readArgument_133 : decode cX11_readArgument 133 = .ok (.invokevirtual 148, 3) := by decide +kernel
theorem dX11_readArgument_136 : decode cX11_readArgument 136 = .ok (.aload_n 0, 1) := by decide +kernel
theorem dX11_readArgument_137 : decode cX11_readArgument 137 = .ok (.getfield 28, 3) := by decide +kernel
theorem dX11_readArgument_140 : decode cX11_readArgument 140 = .ok (.iload_n 1, 1) := by decide +kernel
theorem dX11_readArgument_141 : decode cX11_readArgument 141 = .ok (.iconst 1, 1) := by decide +kernel
theorem dX11_readArgument_142 : decode cX11_readArgument 142 = .ok (.bastore, 1) := by decide +kernel
theorem dX11_readArgument_143 : decode cX11_readArgument 143 = .ok (.return_, 1) := by decide +kernel
set_option maxRecDepth 20000 in
theorem ggX11_read_X11_next : GoodIn wsX11_read wsX11_next := goodIn_r _ [10, 1, 11, 12, 85, 86, 87, 88, 89, 90, 91, 92, 93, 94, 95, 96, 97, 98, 99, 100, 101, 102, 103, 104, 105, 106, 107, 108, 109, 110, 111, 112] (by decide +kernel) (by decide +kernel)
set_option maxRecDepth 20000 in
theorem gX11_read_X11_next : GoodIn wsX11_read (wsV RX11 99 RX11 yX11_next wsX11_next) := goodIn_app (goodIn_of _ (by decide +kernel)) ggX11_read_X11_next
set_option maxRecDepth 20000 in
theorem ggX11_read_X11_wrong : GoodIn wsX11_read wsX11_wrong := goodIn_r _ [16, 3, 17, 85, 86, 87, 88, 89, 90, 91, 92, 93, 94, 95, 96, 97, 98, 99, 100, 101, 102, 103, 104, 105, 106, 107, 108, 109, 110, 111, 112] (by decide +kernel) (by decide +kernel)
set_option maxRecDepth 20000 in
theorem gX11_read_X11_wrong : GoodIn wsX11_read (wsV RX11 107 RX11 yX11_wrong wsX11_wrong) := goodIn_app (goodIn_of _ (by decide +kernel)) ggX11_read_X11_wrong
set_option maxRecDepth 20000 in
theorem ggX11_read_X11_want : GoodIn wsX11_read wsX11_want := goodIn_r _ [21, 1, 22, 23, 24, 9, 25, 3, 6, 7, 8, 10, 11, 12, 13, 14, 15, 16, 17, 85, 86, 87, 88, 89, 90, 91, 92, 93, 94, 95, 96, 97, 98, 99, 100, 101, 102, 103, 104, 105, 106, 107, 108, 109, 110, 111, 112] (by decide +kernel) (by decide +kernel)
set_option maxRecDepth 20000 in
theorem gX11_read_X11_want : GoodIn wsX11_read (wsV RX11 148 RX11 yX11_want wsX11_want) := goodIn_app (goodIn_of _ (by decide +kernel)) ggX11_read_X11_want
set_option maxRecDepth 20000 in
theorem ggX11_read_X11_readArgument : GoodIn wsX11_read wsX11_readArgument := goodIn_r _ [29, 4, 5, 30, 1, 3, 31, 32, 33, 34, 9, 35, 12, 36, 37, 38, 39, 40, 11, 6, 7, 8, 10, 41, 42, 43, 44, 45, 46, 47, 48, 49, 22, 23, 24, 25, 13, 14, 15, 16, 17, 18, 19, 20, 21, 50, 51, 52, 53, 54, 55, 56, 57, 58, 59, 60, 61, 62, 63, 64, 65, 66, 67, 68, 69, 70, 71, 72, 73, 74, 75, 76, 77, 78, 79, 80, 81, 82, 83, 84, 85, 86, 87, 88, 89, 90, 91, 92, 93, 94, 95, 96, 97, 98, 99, 100, 101, 102, 103, 104, 105, 106, 107, 108, 109, 110, 111, 112] (by decide +kernel) (by decide +kernel)
set_option maxRecDepth 20000 in
theorem gX11_read_X11_readArgument : GoodIn wsX11_read (wsV RX11 174 RX11 yX11_readArgument wsX11_readArgument) := goodIn_app (goodIn_of _ (by decide +kernel)) ggX11_read_X11_readArgument
set_option maxRecDepth 20000 in
theorem ggX11_read_X11_takes : GoodIn wsX11_read wsX11_takes := goodIn_r _ [25, 3, 1, 6, 7, 8, 9, 10, 11, 12, 85, 86, 87, 88, 89, 90, 91, 92, 93, 94, 95, 96, 97, 98, 99, 100, 101, 102, 103, 104, 105, 106, 107, 108, 109, 110, 111, 112] (by decide +kernel) (by decide +kernel)
set_option maxRecDepth 20000 in
theorem gX11_read_X11_takes : GoodIn wsX11_read (wsV RX11 103 RX11 yX11_takes wsX11_takes) := goodIn_app (goodIn_of _ (by decide +kernel)) ggX11_read_X11_takes
theorem dX11_read_0 : decode cX11_read 0 = .ok (.aload_n 0, 1) := by decide +kernel
theorem dX11_read_1 : decode cX11_read 1 = .ok (.invokevirtual 99, 3) := by decide +kernel
theorem dX11_read_4 : decode cX11_read 4 = .ok (.istore_n 1, 1) := by decide +kernel
theorem dX11_read_5 : decode cX11_read 5 = .ok (.iload_n 1, 1) := by decide +kernel
theorem dX11_read_6 : decode cX11_read 6 = .ok (.bipush 97, 2) := by decide +kernel
theorem dX11_read_8 : decode cX11_read 8 = .ok (.if_icmp .lt 9, 3) := by decide +kernel
theorem dX11_read_11 : decode cX11_read 11 = .ok (.iload_n 1, 1) := by decide +kernel
theorem dX11_read_12 : decode cX11_read 12 = .ok (.bipush 102, 2) := by decide +kernel
theorem dX11_read_14 : decode cX11_read 14 = .ok (.if_icmp .le 13, 3) := by decide +kernel
theorem dX11_read_17 : decode cX11_read 17 = .ok (.aload_n 0, 1) := by decide +kernel
theorem dX11_read_18 : decode cX11_read 18 = .ok (.aload_n 0, 1) := by decide +kernel
theorem dX11_read_19 : decode cX11_read 19 = .ok (.getfield 92, 3) := by decide +kernel
theorem dX11_read_22 : decode cX11_read 22 = .ok (.invokevirtual 107, 3) := by decide +kernel
theorem dX11_read_25 : decode cX11_read 25 = .ok (.iconst 0, 1) := by decide +kernel
theorem dX11_read_26 : decode cX11_read 26 = .ok (.ireturn, 1) := by decide +kernel
theorem dX11_read_27 : decode cX11_read 27 = .ok (.aload_n 0, 1) := by decide +kernel
theorem dX11_read_28 : decode cX11_read 28 = .ok (.dup, 1) := by decide +kernel
theorem dX11_read_29 : decode cX11_read 29 = .ok (.getfield 92, 3) := by decide +kernel
theorem dX11_read_32 : decode cX11_read 32 = .ok (.iconst 1, 1) := by decide +kernel
theorem dX11_read_33 : decode cX11_read 33 = .ok (.iadd, 1) := by decide +kernel
theorem dX11_read_34 : decode cX11_read 34 = .ok (.putfield 92, 3) := by decide +kernel
theorem dX11_read_37 : decode cX11_read 37 = .ok (.aload_n 0, 1) := by decide +kernel
theorem dX11_read_38 : decode cX11_read 38 = .ok (.bipush 40, 2) := by decide +kernel
theorem dX11_read_40 : decode cX11_read 40 = .ok (.invokevirtual 148, 3) := by decide +kernel
theorem dX11_read_43 : decode cX11_read 43 = .ok (.aload_n 0, 1) := by decide +kernel
theorem dX11_read_44 : decode cX11_read 44 = .ok (.getfield 21, 3) := by decide +kernel
theorem dX11_read_47 : decode cX11_read 47 = .ok (.bipush 36, 2) := by decide +kernel
theorem dX11_read_49 : decode cX11_read 49 = .ok (.iconst 0, 1) := by decide +kernel
theorem dX11_read_50 : decode cX11_read 50 = .ok (.iastore, 1) := by decide +kernel
theorem dX11_read_51 : decode cX11_read 51 = .ok (.aload_n 0, 1) := by decide +kernel
theorem dX11_read_52 : decode cX11_read 52 = .ok (.getfield 95, 3) := by decide +kernel
theorem dX11_read_55 : decode cX11_read 55 = .ok (.ifCond .ne 16, 3) := by decide +kernel
theorem dX11_read_58 : decode cX11_read 58 = .ok (.aload_n 0, 1) := by decide +kernel
theorem dX11_read_59 : decode cX11_read 59 = .ok (.invokevirtual 99, 3) := by decide +kernel
theorem dX11_read_62 : decode cX11_read 62 = .ok (.bipush 41, 2) := by decide +kernel
theorem dX11_read_64 : decode cX11_read 64 = .ok (.if_icmp .eq 7, 3) := by decide +kernel
theorem dX11_read_67 : decode cX11_read 67 = .ok (.iconst 1, 1) := by decide +kernel
theorem dX11_read_68 : decode cX11_read 68 = .ok (.goto 4, 3) := by decide +kernel
theorem dX11_read_71 : decode cX11_read 71 = .ok (.iconst 0, 1) := by decide +kernel
theorem dX11_read_72 : decode cX11_read 72 = .ok (.istore_n 2, 1) := by decide +kernel
theorem dX11_read_73 : decode cX11_read 73 = .ok (.iload_n 2, 1) := by decide +kernel
theorem dX11_read_74 : decode cX11_read 74 = .ok (.ifCond .eq 147, 3) := by decide +kernel
theorem dX11_read_77 : decode cX11_read 77 = .ok (.sipush 180, 3) := by decide +kernel
theorem dX11_read_80 : decode cX11_read 80 = .ok (.aload_n 0, 1) := by decide +kernel
theorem dX11_read_81 : decode cX11_read 81 = .ok (.getfield 21, 3) := by decide +kernel
theorem dX11_read_84 : decode cX11_read 84 = .ok (.bipush 36, 2) := by decide +kernel
theorem dX11_read_86 : decode cX11_read 86 = .ok (.iaload, 1) := by decide +kernel
theorem dX11_read_87 : decode cX11_read 87 = .ok (.iadd, 1) := by decide +kernel
theorem dX11_read_88 : decode cX11_read 88 = .ok (.istore_n 3, 1) := by decide +kernel
theorem dX11_read_89 : decode cX11_read 89 = .ok (.aload_n 0, 1) := by decide +kernel
theorem dX11_read_90 : decode cX11_read 90 = .ok (.getfield 21, 3) := by decide +kernel
theorem dX11_read_93 : decode cX11_read 93 = .ok (.bipush 36, 2) := by decide +kernel
theorem dX11_read_95 : decode cX11_read 95 = .ok (.iaload, 1) := by decide +kernel
theorem dX11_read_96 : decode cX11_read 96 = .ok (.ifCond .le 18, 3) := by decide +kernel
theorem dX11_read_99 : decode cX11_read 99 = .ok (.aload_n 0, 1) := by decide +kernel
theorem dX11_read_100 : decode cX11_read 100 = .ok (.getfield 24, 3) := by decide +kernel
theorem dX11_read_103 : decode cX11_read 103 = .ok (.iload_n 3, 1) := by decide +kernel
theorem dX11_read_104 : decode cX11_read 104 = .ok (.iconst 1, 1) := by decide +kernel
theorem dX11_read_105 : decode cX11_read 105 = .ok (.isub, 1) := by decide +kernel
theorem dX11_read_106 : decode cX11_read 106 = .ok (.baload, 1) := by decide +kernel
theorem dX11_read_107 : decode cX11_read 107 = .ok (.ifCond .eq 7, 3) := by decide +kernel
theorem dX11_read_110 : decode cX11_read 110 = .ok (.iconst 1, 1) := by decide +kernel
theorem dX11_read_111 : decode cX11_read 111 = .ok (.goto 4, 3) := by decide +kernel
theorem dX11_read_114 : decode cX11_read 114 = .ok (.iconst 0, 1) := by decide +kernel
theorem dX11_read_115 : decode cX11_read 115 = .ok (.istore 4, 2) := by decide +kernel
theorem dX11_read_117 : decode cX11_read 117 = .ok (.aload_n 0, 1) := by decide +kernel
theorem dX11_read_118 : decode cX11_read 118 = .ok (.iload_n 3, 1) := by decide +kernel
theorem dX11_read_119 : decode cX11_read 119 = .ok (.invokevirtual 174, 3) := by decide +kernel
theorem dX11_read_122 : decode cX11_read 122 = .ok (.aload_n 0, 1) := by decide +kernel
theorem dX11_read_123 : decode cX11_read 123 = .ok (.getfield 95, 3) := by decide +kernel
theorem dX11_read_126 : decode cX11_read 126 = .ok (.ifCond .ne 39, 3) := by decide +kernel
theorem dX11_read_129 : decode cX11_read 129 = .ok (.iload 4, 2) := by decide +kernel
theorem dX11_read_131 : decode cX11_read 131 = .ok (.ifCond .eq 34, 3) := by decide +kernel
theorem dX11_read_134 : decode cX11_read 134 = .ok (.aload_n 0, 1) := by decide +kernel
theorem dX11_read_135 : decode cX11_read 135 = .ok (.getfield 24, 3) := by decide +kernel
theorem dX11_read_138 : decode cX11_read 138 = .ok (.iload_n 3, 1) := by decide +kernel
theorem dX11_read_139 : decode cX11_read 139 = .ok (.baload, 1) := by decide +kernel
theorem dX11_read_140 : decode cX11_read 140 = .ok (.ifCond .ne 25, 3) := by decide +kernel
theorem dX11_read_143 : decode cX11_read 143 = .ok (.aload_n 0, 1) := by decide +kernel
theorem dX11_read_144 : decode cX11_read 144 = .ok (.getfield 28, 3) := by decide +kernel
theorem dX11_read_147 : decode cX11_read 147 = .ok (.iload_n 3, 1) := by decide +kernel
theorem dX11_read_148 : decode cX11_read 148 = .ok (.baload, 1) := by decide +kernel
theorem dX11_read_149 : decode cX11_read 149 = .ok (.ifCond .ne 16, 3) := by decide +kernel
theorem dX11_read_152 : decode cX11_read 152 = .ok (.aload_n 0, 1) := by decide +kernel
theorem dX11_read_153 : decode cX11_read 153 = .ok (.invokevirtual 99, 3) := by decide +kernel
theorem dX11_read_156 : decode cX11_read 156 = .ok (.pop, 1) := by decide +kernel
theorem dX11_read_157 : decode cX11_read 157 = .ok (.aload_n 0, 1) := by decide +kernel
theorem dX11_read_158 : decode cX11_read 158 = .ok (.aload_n 0, 1) := by decide +kernel
theorem dX11_read_159 : decode cX11_read 159 = .ok (.getfield 92, 3) := by decide +kernel
theorem dX11_read_162 : decode cX11_read 162 = .ok (.invokevirtual 107, 3) := by decide +kernel
theorem dX11_read_165 : decode cX11_read 165 = .ok (.aload_n 0, 1) := by decide +kernel
theorem dX11_read_166 : decode cX11_read 166 = .ok (.getfield 21, 3) := by decide +kernel
theorem dX11_read_169 : decode cX11_read 169 = .ok (.bipush 36, 2) := by decide +kernel
theorem dX11_read_171 : decode cX11_read 171 = .ok (.dup2, 1) := by decide +kernel
theorem dX11_read_172 : decode cX11_read 172 = .ok (.iaload, 1) := by decide +kernel
theorem dX11_read_173 : decode cX11_read 173 = .ok (.iconst 1, 1) := by decide +kernel
theorem dX11_read_174 : decode cX11_read 174 = .ok (.iadd, 1) := by decide +kernel
theorem dX11_read_175 : decode cX11_read 175 = .ok (.iastore, 1) := by decide +kernel
theorem dX11_read_176 : decode cX11_read 176 = .ok (.aload_n 0, 1) := by decide +kernel
theorem dX11_read_177 : decode cX11_read 177 = .ok (.getfield 95, 3) := by decide +kernel
theorem dX11_read_180 : decode cX11_read 180 = .ok (.ifCond .ne 36, 3) := by decide +kernel
theorem dX11_read_183 : decode cX11_read 183 = .ok (.aload_n 0, 1) := by decide +kernel
theorem dX11_read_184 : decode cX11_read 184 = .ok (.getfield 21, 3) := by decide +kernel
theorem dX11_read_187 : decode cX11_read 187 = .ok (.bipush 36, 2) := by decide +kernel
theorem dX11_read_189 : decode cX11_read 189 = .ok (.iaload, 1) := by decide +kernel
theorem dX11_read_190 : decode cX11_read 190 = .ok (.iconst 5, 1) := by decide +kernel
theorem dX11_read_191 : decode cX11_read 191 = .ok (.if_icmp .ge 25, 3) := by decide +kernel
theorem dX11_read_194 : decode cX11_read 194 = .ok (.aload_n 0, 1) := by decide +kernel
theorem dX11_read_195 : decode cX11_read 195 = .ok (.getfield 28, 3) := by decide +kernel
theorem dX11_read_198 : decode cX11_read 198 = .ok (.iload_n 3, 1) := by decide +kernel
theorem dX11_read_199 : decode cX11_read 199 = .ok (.baload, 1) := by decide +kernel
theorem dX11_read_200 : decode cX11_read 200 = .ok (.ifCond .ne 16, 3) := by decide +kernel
theorem dX11_read_203 : decode cX11_read 203 = .ok (.aload_n 0, 1) := by decide +kernel
theorem dX11_read_204 : decode cX11_read 204 = .ok (.bipush 44, 2) := by decide +kernel
theorem dX11_read_206 : decode cX11_read 206 = .ok (.invokevirtual 103, 3) := by decide +kernel
theorem dX11_read_209 : decode cX11_read 209 = .ok (.ifCond .eq 7, 3) := by decide +kernel
theorem dX11_read_212 : decode cX11_read 212 = .ok (.iconst 1, 1) := by decide +kernel
theorem dX11_read_213 : decode cX11_read 213 = .ok (.goto 4, 3) := by decide +kernel
theorem dX11_read_216 : decode cX11_read 216 = .ok (.iconst 0, 1) := by decide +kernel
theorem dX11_read_217 : decode cX11_read 217 = .ok (.istore_n 2, 1) := by decide +kernel
theorem dX11_read_218 : decode cX11_read 218 = .ok (.goto (-145), 3) := by decide +kernel
theorem dX11_read_221 : decode cX11_read 221 = .ok (.aload_n 0, 1) := by decide +kernel
theorem dX11_read_222 : decode cX11_read 222 = .ok (.bipush 41, 2) := by decide +kernel
theorem dX11_read_224 : decode cX11_read 224 = .ok (.invokevirtual 148, 3) := by decide +kernel
theorem dX11_read_227 : decode cX11_read 227 = .ok (.aload_n 0, 1) := by decide +kernel
theorem dX11_read_228 : decode cX11_read 228 = .ok (.getfield 95, 3) := by decide +kernel
theorem dX11_read_231 : decode cX11_read 231 = .ok (.ifCond .ne 18, 3) := by decide +kernel
theorem dX11_read_234 : decode cX11_read 234 = .ok (.aload_n 0, 1) := by decide +kernel
theorem dX11_read_235 : decode cX11_read 235 = .ok (.invokevirtual 99, 3) := by decide +kernel
theorem dX11_read_238 : decode cX11_read 238 = .ok (.ifCond .eq 11, 3) := by decide +kernel
theorem dX11_read_241 : decode cX11_read 241 = .ok (.aload_n 0, 1) := by decide +kernel
theorem dX11_read_242 : decode cX11_read 242 = .ok (.aload_n 0, 1) := by decide +kernel
theorem dX11_read_243 : decode cX11_read 243 = .ok (.getfield 92, 3) := by decide +kernel
theorem dX11_read_246 : decode cX11_read 246 = .ok (.invokevirtual 107, 3) := by decide +kernel
theorem dX11_read_249 : decode cX11_read 249 = .ok (.iload_n 1, 1) := by decide +kernel
theorem dX11_read_250 : decode cX11_read 250 = .ok (.bipush 97, 2) := by decide +kernel
theorem dX11_read_252 : decode cX11_read 252 = .ok (.isub, 1) := by decide +kernel
theorem dX11_read_253 : decode cX11_read 253 = .ok (.ireturn, 1) := by decide +kernel
theorem dX11_least_0 : decode cX11_least 0 = .ok (.aload_n 0, 1) := by decide +kernel
theorem dX11_least_1 : decode cX11_least 1 = .ok (.getfield 21, 3) := by decide +kernel
theorem dX11_least_4 : decode cX11_least 4 = .ok (.iload_n 1, 1) := by decide +kernel
theorem dX11_least_5 : decode cX11_least 5 = .ok (.iaload, 1) := by decide +kernel
theorem dX11_least_6 : decode cX11_least 6 = .ok (.istore_n 2, 1) := by decide +kernel
theorem dX11_least_7 : decode cX11_least 7 = .ok (.iload_n 2, 1) := by decide +kernel
theorem dX11_least_8 : decode cX11_least 8 = .ok (.ifCond .le 39, 3) := by decide +kernel
theorem dX11_least_11 : decode cX11_least 11 = .ok (.aload_n 0, 1) := by decide +kernel
theorem dX11_least_12 : decode cX11_least 12 = .ok (.getfield 24, 3) := by decide +kernel
theorem dX11_least_15 : decode cX11_least 15 = .ok (.iconst 5, 1) := by decide +kernel
theorem dX11_least_16 : decode cX11_least 16 = .ok (.iload_n 1, 1) := by decide +kernel
theorem dX11_least_17 : decode cX11_least 17 = .ok (.imul, 1) := by decide +kernel
theorem dX11_least_18 : decode cX11_least 18 = .ok (.iload_n 2, 1) := by decide +kernel
theorem dX11_least_19 : decode cX11_least 19 = .ok (.iadd, 1) := by decide +kernel
theorem dX11_least_20 : decode cX11_least 20 = .ok (.iconst 1, 1) := by decide +kernel
theorem dX11_least_21 : decode cX11_least 21 = .ok (.isub, 1) := by decide +kernel
theorem dX11_least_22 : decode cX11_least 22 = .ok (.baload, 1) := by decide +kernel
theorem dX11_least_23 : decode cX11_least 23 = .ok (.ifCond .ne 18, 3) := by decide +kernel
theorem dX11_least_26 : decode cX11_least 26 = .ok (.aload_n 0, 1) := by decide +kernel
theorem dX11_least_27 : decode cX11_least 27 = .ok (.getfield 28, 3) := by decide +kernel
theorem dX11_least_30 : decode cX11_least 30 = .ok (.iconst 5, 1) := by decide +kernel
theorem dX11_least_31 : decode cX11_least 31 = .ok (.iload_n 1, 1) := by decide +kernel
theorem dX11_least_32 : decode cX11_least 32 = .ok (.imul, 1) := by decide +kernel
theorem dX11_least_33 : decode cX11_least 33 = .ok (.iload_n 2, 1) := by decide +kernel
theorem dX11_least_34 : decode cX11_least 34 = .ok (.iadd, 1) := by decide +kernel
theorem dX11_least_35 : decode cX11_least 35 = .ok (.iconst 1, 1) := by decide +kernel
theorem dX11_least_36 : decode cX11_least 36 = .ok (.isub, 1) := by decide +kernel
theorem dX11_least_37 : decode cX11_least 37 = .ok (.baload, 1) := by decide +kernel
theorem dX11_least_38 : decode cX11_least 38 = .ok (.ifCond .eq 9, 3) := by decide +kernel
theorem dX11_least_41 : decode cX11_least 41 = .ok (.iinc 2 (-1), 3) := by decide +kernel
theorem dX11_least_44 : decode cX11_least 44 = .ok (.goto (-37), 3) := by decide +kernel
theorem dX11_least_47 : decode cX11_least 47 = .ok (.iload_n 2, 1) := by decide +kernel
theorem dX11_least_48 : decode cX11_least 48 = .ok (.ireturn, 1) := by decide +kernel
theorem dX11_most_0 : decode cX11_most 0 = .ok (.aload_n 0, 1) := by decide +kernel
theorem dX11_most_1 : decode cX11_most 1 = .ok (.getfield 21, 3) := by decide +kernel
theorem dX11_most_4 : decode cX11_most 4 = .ok (.iload_n 1, 1) := by decide +kernel
theorem dX11_most_5 : decode cX11_most 5 = .ok (.iaload, 1) := by decide +kernel
theorem dX11_most_6 : decode cX11_most 6 = .ok (.ifCond .le 28, 3) := by decide +kernel
theorem dX11_most_9 : decode cX11_most 9 = .ok (.aload_n 0, 1) := by decide +kernel
theorem dX11_most_10 : decode cX11_most 10 = .ok (.getfield 28, 3) := by decide +kernel
theorem dX11_most_13 : decode cX11_most 13 = .ok (.iconst 5, 1) := by decide +kernel
theorem dX11_most_14 : decode cX11_most 14 = .ok (.iload_n 1, 1) := by decide +kernel
theorem dX11_most_15 : decode cX11_most 15 = .ok (.imul, 1) := by decide +kernel
theorem dX11_most_16 : decode cX11_most 16 = .ok (.aload_n 0, 1) := by decide +kernel
theorem dX11_most_17 : decode cX11_most 17 = .ok (.getfield 21, 3) := by decide +kernel
theorem dX11_most_20 : decode cX11_most 20 = .ok (.iload_n 1, 1) := by decide +kernel
theorem dX11_most_21 : decode cX11_most 21 = .ok (.iaload, 1) := by decide +kernel
theorem dX11_most_22 : decode cX11_most 22 = .ok (.iadd, 1) := by decide +kernel
theorem dX11_most_23 : decode cX11_most 23 = .ok (.iconst 1, 1) := by decide +kernel
theorem dX11_most_24 : decode cX11_most 24 = .ok (.isub, 1) := by decide +kernel
theorem dX11_most_25 : decode cX11_most 25 = .ok (.baload, 1) := by decide +kernel
theorem dX11_most_26 : decode cX11_most 26 = .ok (.ifCond .eq 8, 3) := by decide +kernel
theorem dX11_most_29 : decode cX11_most 29 = .ok (.bipush 8, 2) := by decide +kernel
theorem dX11_most_31 : decode cX11_most 31 = .ok (.goto 9, 3) := by decide +kernel
theorem dX11_most_34 : decode cX11_most 34 = .ok (.aload_n 0, 1) := by decide +kernel
theorem dX11_most_35 : decode cX11_most 35 = .ok (.getfield 21, 3) := by decide +kernel
theorem dX11_most_38 : decode cX11_most 38 = .ok (.iload_n 1, 1) := by decide +kernel
theorem dX11_most_39 : decode cX11_most 39 = .ok (.iaload, 1) := by decide +kernel
theorem dX11_most_40 : decode cX11_most 40 = .ok (.ireturn, 1) := by decide +kernel
set_option maxRecDepth 20000 in
theorem ggX11_takesMany_X11_least : GoodIn wsX11_takesMany wsX11_least := goodIn_r _ [5, 6, 7, 8, 13, 14, 15, 16, 17, 18, 19, 20, 21, 22, 23, 24, 25, 26, 27, 28, 29, 30, 31, 32, 33, 34, 35, 36, 37, 38, 39, 40] (by decide +kernel) (by decide +kernel)
set_option maxRecDepth 20000 in
theorem gX11_takesMany_X11_least : GoodIn wsX11_takesMany (wsV RX11 177 RX11 yX11_least wsX11_least) := goodIn_app (goodIn_of _ (by decide +kernel)) ggX11_takesMany_X11_least
set_option maxRecDepth 20000 in
theorem ggX11_takesMany_X11_most : GoodIn wsX11_takesMany wsX11_most := goodIn_r _ [12, 6, 8, 13, 14, 15, 16, 17, 18, 19, 20, 21, 22, 23, 24, 25, 26, 27, 28, 29, 30, 31, 32, 33, 34, 35, 36, 37, 38, 39, 40] (by decide +kernel) (by decide +kernel)
set_option maxRecDepth 20000 in
theorem gX11_takesMany_X11_most : GoodIn wsX11_takesMany (wsV RX11 181 RX11 yX11_most wsX11_most) := goodIn_app (goodIn_of _ (by decide +kernel)) ggX11_takesMany_X11_most
theorem dX11_takesMany_0 : decode cX11_takesMany 0 = .ok (.iload_n 2, 1) := by decide +kernel
theorem dX11_takesMany_1 : decode cX11_takesMany 1 = .ok (.aload_n 0, 1) := by decide +kernel
theorem dX11_takesMany_2 : decode cX11_takesMany 2 = .ok (.iload_n 1, 1) := by decide +kernel
theorem dX11_takesMany_3 : decode cX11_takesMany 3 = .ok (.invokevirtual 177, 3) := by decide +kernel
theorem dX11_takesMany_6 : decode cX11_takesMany 6 = .ok (.if_icmp .lt 16, 3) := by decide +kernel
theorem dX11_takesMany_9 : decode cX11_takesMany 9 = .ok (.iload_n 2, 1) := by decide +kernel
theorem dX11_takesMany_10 : decode cX11_takesMany 10 = .ok (.aload_n 0, 1) := by decide +kernel
theorem dX11_takesMany_11 : decode cX11_takesMany 11 = .ok (.iload_n 1, 1) := by decide +kernel
theorem dX11_takesMany_12 : decode cX11_takesMany 12 = .ok (.invokevirtual 181, 3) := by decide +kernel
theorem dX11_takesMany_15 : decode cX11_takesMany 15 = .ok (.if_icmp .gt 7, 3) := by decide +kernel
theorem dX11_takesMany_18 : decode cX11_takesMany 18 = .ok (.iconst 1, 1) := by decide +kernel
theorem dX11_takesMany_19 : decode cX11_takesMany 19 = .ok (.goto 4, 3) := by decide +kernel
theorem dX11_takesMany_22 : decode cX11_takesMany 22 = .ok (.iconst 0, 1) := by decide +kernel
theorem dX11_takesMany_23 : decode cX11_takesMany 23 = .ok (.ireturn, 1) := by decide +kernel
theorem dX11_argumentOf_0 : decode cX11_argumentOf 0 = .ok (.iconst 5, 1) := by decide +kernel
theorem dX11_argumentOf_1 : decode cX11_argumentOf 1 = .ok (.iload_n 1, 1) := by decide +kernel
theorem dX11_argumentOf_2 : decode cX11_argumentOf 2 = .ok (.imul, 1) := by decide +kernel
theorem dX11_argumentOf_3 : decode cX11_argumentOf 3 = .ok (.iload_n 2, 1) := by decide +kernel
theorem dX11_argumentOf_4 : decode cX11_argumentOf 4 = .ok (.aload_n 0, 1) := by decide +kernel
theorem dX11_argumentOf_5 : decode cX11_argumentOf 5 = .ok (.getfield 21, 3) := by decide +kernel
theorem dX11_argumentOf_8 : decode cX11_argumentOf 8 = .ok (.iload_n 1, 1) := by decide +kernel
theorem dX11_argumentOf_9 : decode cX11_argumentOf 9 = .ok (.iaload, 1) := by decide +kernel
theorem dX11_argumentOf_10 : decode cX11_argumentOf 10 = .ok (.if_icmp .ge 7, 3) := by decide +kernel
theorem dX11_argumentOf_13 : decode cX11_argumentOf 13 = .ok (.iload_n 2, 1) := by decide +kernel
theorem dX11_argumentOf_14 : decode cX11_argumentOf 14 = .ok (.goto 11, 3) := by decide +kernel
theorem dX11_argumentOf_17 : decode cX11_argumentOf 17 = .ok (.aload_n 0, 1) := by decide +kernel
theorem dX11_argumentOf_18 : decode cX11_argumentOf 18 = .ok (.getfield 21, 3) := by decide +kernel
theorem dX11_argumentOf_21 : decode cX11_argumentOf 21 = .ok (.iload_n 1, 1) := by decide +kernel
theorem dX11_argumentOf_22 : decode cX11_argumentOf 22 = .ok (.iaload, 1) := by decide +kernel
theorem dX11_argumentOf_23 : decode cX11_argumentOf 23 = .ok (.iconst 1, 1) := by decide +kernel
theorem dX11_argumentOf_24 : decode cX11_argumentOf 24 = .ok (.isub, 1) := by decide +kernel
theorem dX11_argumentOf_25 : decode cX11_argumentOf 25 = .ok (.iadd, 1) := by decide +kernel
theorem dX11_argumentOf_26 : decode cX11_argumentOf 26 = .ok (.ireturn, 1) := by decide +kernel
set_option maxRecDepth 20000 in
theorem ggX11_isSameName_X11_isSameWord : GoodIn wsX11_isSameName wsX11_isSameWord := goodIn_r _ [9, 10, 11, 12, 13, 14, 15, 16, 17, 18, 19, 20, 21, 22, 23, 24, 25, 26, 27, 28, 29, 30, 31, 32, 33, 34, 35, 36, 37, 38] (by decide +kernel) (by decide +kernel)
set_option maxRecDepth 20000 in
theorem gX11_isSameName_X11_isSameWord : GoodIn wsX11_isSameName (wsV RX11 144 RX11 yX11_isSameWord wsX11_isSameWord) := goodIn_app (goodIn_of _ (by decide +kernel)) ggX11_isSameName_X11_isSameWord
theorem dX11_isSameName_0 : decode cX11_isSameName 0 = .ok (.aload_n 0, 1) := by decide +kernel
theorem dX11_isSameName_1 : decode cX11_isSameName 1 = .ok (.getfield 31, 3) := by decide +kernel
theorem dX11_isSameName_4 : decode cX11_isSameName 4 = .ok (.iload_n 1, 1) := by decide +kernel
theorem dX11_isSameName_5 : decode cX11_isSameName 5 = .ok (.iaload, 1) := by decide +kernel
theorem dX11_isSameName_6 : decode cX11_isSameName 6 = .ok (.aload_n 0, 1) := by decide +kernel
theorem dX11_isSameName_7 : decode cX11_isSameName 7 = .ok (.getfield 31, 3) := by decide +kernel
theorem dX11_isSameName_10 : decode cX11_isSameName 10 = .ok (.iload_n 2, 1) := by decide +kernel
theorem dX11_isSameName_11 : decode cX11_isSameName 11 = .ok (.iaload, 1) := by decide +kernel
theorem dX11_isSameName_12 : decode cX11_isSameName 12 = .ok (.if_icmp .ne 37, 3) := by decide +kernel
theorem dX11_isSameName_15 : decode cX11_isSameName 15 = .ok (.aload_n 0, 1) := by decide +kernel
theorem dX11_isSameName_16 : decode cX11_isSameName 16 = .ok (.getfield 34, 3) := by decide +kernel
theorem dX11_isSameName_19 : decode cX11_isSameName 19 = .ok (.iload_n 1, 1) := by decide +kernel
theorem dX11_isSameName_20 : decode cX11_isSameName 20 = .ok (.iaload, 1) := by decide +kernel
theorem dX11_isSameName_21 : decode cX11_isSameName 21 = .ok (.aload_n 0, 1) := by decide +kernel
theorem dX11_isSameName_22 : decode cX11_isSameName 22 = .ok (.getfield 34, 3) := by decide +kernel
theorem dX11_isSameName_25 : decode cX11_isSameName 25 = .ok (.iload_n 2, 1) := by decide +kernel
theorem dX11_isSameName_26 : decode cX11_isSameName 26 = .ok (.iaload, 1) := by decide +kernel
theorem dX11_isSameName_27 : decode cX11_isSameName 27 = .ok (.if_icmp .ne 22, 3) := by decide +kernel
theorem dX11_isSameName_30 : decode cX11_isSameName 30 = .ok (.aload_n 0, 1) := by decide +kernel
theorem dX11_isSameName_31 : decode cX11_isSameName 31 = .ok (.getfield 37, 3) := by decide +kernel
theorem dX11_isSameName_34 : decode cX11_isSameName 34 = .ok (.iload_n 1, 1) := by decide +kernel
theorem dX11_isSameName_35 : decode cX11_isSameName 35 = .ok (.baload, 1) := by decide +kernel
theorem dX11_isSameName_36 : decode cX11_isSameName 36 = .ok (.aload_n 0, 1) := by decide +kernel
theorem dX11_isSameName_37 : decode cX11_isSameName 37 = .ok (.getfield 37, 3) := by decide +kernel
theorem dX11_isSameName_40 : decode cX11_isSameName 40 = .ok (.iload_n 2, 1) := by decide +kernel
theorem dX11_isSameName_41 : decode cX11_isSameName 41 = .ok (.baload, 1) := by decide +kernel
theorem dX11_isSameName_42 : decode cX11_isSameName 42 = .ok (.if_icmp .ne 7, 3) := by decide +kernel
theorem dX11_isSameName_45 : decode cX11_isSameName 45 = .ok (.iconst 1, 1) := by decide +kernel
theorem dX11_isSameName_46 : decode cX11_isSameName 46 = .ok (.goto 4, 3) := by decide +kernel
theorem dX11_isSameName_49 : decode cX11_isSameName 49 = .ok (.iconst 0, 1) := by decide +kernel
theorem dX11_isSameName_50 : decode cX11_isSameName 50 = .ok (.istore_n 3, 1) := by decide +kernel
theorem dX11_isSameName_51 : decode cX11_isSameName 51 = .ok (.iload_n 3, 1) := by decide +kernel
theorem dX11_isSameName_52 : decode cX11_isSameName 52 = .ok (.ifCond .eq 76, 3) := by decide +kernel
theorem dX11_isSameName_55 : decode cX11_isSameName 55 = .ok (.aload_n 0, 1) := by decide +kernel
theorem dX11_isSameName_56 : decode cX11_isSameName 56 = .ok (.getfield 31, 3) := by decide +kernel
theorem dX11_isSameName_59 : decode cX11_isSameName 59 = .ok (.iload_n 1, 1) := by decide +kernel
theorem dX11_isSameName_60 : decode cX11_isSameName 60 = .ok (.iaload, 1) := by decide +kernel
theorem dX11_isSameName_61 : decode cX11_isSameName 61 = .ok (.bipush 8, 2) := by decide +kernel
theorem dX11_isSameName_63 : decode cX11_isSameName 63 = .ok (.if_icmp .ne 65, 3) := by decide +kernel
theorem dX11_isSameName_66 : decode cX11_isSameName 66 = .ok (.aload_n 0, 1) := by decide +kernel
theorem dX11_isSameName_67 : decode cX11_isSameName 67 = .ok (.getfield 40, 3) := by decide +kernel
theorem dX11_isSameName_70 : decode cX11_isSameName 70 = .ok (.iload_n 1, 1) := by decide +kernel
theorem dX11_isSameName_71 : decode cX11_isSameName 71 = .ok (.iaload, 1) := by decide +kernel
theorem dX11_isSameName_72 : decode cX11_isSameName 72 = .ok (.aload_n 0, 1) := by decide +kernel
theorem dX11_isSameName_73 : decode cX11_isSameName 73 = .ok (.getfield 40, 3) := by decide +kernel
theorem dX11_isSameName_76 : decode cX11_isSameName 76 = .ok (.iload_n 2, 1) := by decide +kernel
theorem dX11_isSameName_77 : decode cX11_isSameName 77 = .ok (.iaload, 1) := by decide +kernel
theorem dX11_isSameName_78 : decode cX11_isSameName 78 = .ok (.if_icmp .ne 7, 3) := by decide +kernel
theorem dX11_isSameName_81 : decode cX11_isSameName 81 = .ok (.iconst 1, 1) := by decide +kernel
theorem dX11_isSameName_82 : decode cX11_isSameName 82 = .ok (.goto 4, 3) := by decide +kernel
theorem dX11_isSameName_85 : decode cX11_isSameName 85 = .ok (.iconst 0, 1) := by decide +kernel
theorem dX11_isSameName_86 : decode cX11_isSameName 86 = .ok (.istore_n 3, 1) := by decide +kernel
theorem dX11_isSameName_87 : decode cX11_isSameName 87 = .ok (.iconst 0, 1) := by decide +kernel
theorem dX11_isSameName_88 : decode cX11_isSameName 88 = .ok (.istore 4, 2) := by decide +kernel
theorem dX11_isSameName_90 : decode cX11_isSameName 90 = .ok (.iload 4, 2) := by decide +kernel
theorem dX11_isSameName_92 : decode cX11_isSameName 92 = .ok (.aload_n 0, 1) := by decide +kernel
theorem dX11_isSameName_93 : decode cX11_isSameName 93 = .ok (.getfield 40, 3) := by decide +kernel
theorem dX11_isSameName_96 : decode cX11_isSameName 96 = .ok (.iload_n 1, 1) := by decide +kernel
theorem dX11_isSameName_97 : decode cX11_isSameName 97 = .ok (.iaload, 1) := by decide +kernel
theorem dX11_isSameName_98 : decode cX11_isSameName 98 = .ok (.if_icmp .ge 30, 3) := by decide +kernel
theorem dX11_isSameName_101 : decode cX11_isSameName 101 = .ok (.iload_n 3, 1) := by decide +kernel
theorem dX11_isSameName_102 : decode cX11_isSameName 102 = .ok (.ifCond .eq 26, 3) := by decide +kernel
theorem dX11_isSameName_105 : decode cX11_isSameName 105 = .ok (.aload_n 0, 1) := by decide +kernel
theorem dX11_isSameName_106 : decode cX11_isSameName 106 = .ok (.iconst 5, 1) := by decide +kernel
theorem dX11_isSameName_107 : decode cX11_isSameName 107 = .ok (.iload_n 1, 1) := by decide +kernel
theorem dX11_isSameName_108 : decode cX11_isSameName 108 = .ok (.imul, 1) := by decide +kernel
theorem dX11_isSameName_109 : decode cX11_isSameName 109 = .ok (.iload 4, 2) := by decide +kernel
theorem dX11_isSameName_111 : decode cX11_isSameName 111 = .ok (.iadd, 1) := by decide +kernel
theorem dX11_isSameName_112 : decode cX11_isSameName 112 = .ok (.iconst 5, 1) := by decide +kernel
theorem dX11_isSameName_113 : decode cX11_isSameName 113 = .ok (.iload_n 2, 1) := by decide +kernel
theorem dX11_isSameName_114 : decode cX11_isSameName 114 = .ok (.imul, 1) := by decide +kernel
theorem dX11_isSameName_115 : decode cX11_isSameName 115 = .ok (.iload 4, 2) := by decide +kernel
theorem dX11_isSameName_117 : decode cX11_isSameName 117 = .ok (.iadd, 1) := by decide +kernel
theorem dX11_isSameName_118 : decode cX11_isSameName 118 = .ok (.invokevirtual 144, 3) := by decide +kernel
theorem dX11_isSameName_121 : decode cX11_isSameName 121 = .ok (.istore_n 3, 1) := by decide +kernel
theorem dX11_isSameName_122 : decode cX11_isSameName 122 = .ok (.iinc 4 1, 3) := by decide +kernel
theorem dX11_isSameName_125 : decode cX11_isSameName 125 = .ok (.goto (-35), 3) := by decide +kernel
theorem dX11_isSameName_128 : decode cX11_isSameName 128 = .ok (.iload_n 3, 1) := by decide +kernel
theorem dX11_isSameName_129 : decode cX11_isSameName 129 = .ok (.ireturn, 1) := by decide +kernel
set_option maxRecDepth 20000 in
theorem ggX11_isSame_X11_isSameName : GoodIn wsX11_isSame wsX11_isSameName := goodIn_r _ [8, 3, 9, 10, 11, 12, 13, 14, 7, 15, 16, 17, 18, 19, 20, 21, 22, 23, 24, 25, 26, 27, 28, 29, 30, 31, 32, 33, 34, 35, 36, 37, 38, 39, 40, 41, 42, 43, 44] (by decide +kernel) (by decide +kernel)
set_option maxRecDepth 20000 in
theorem gX11_isSame_X11_isSameName : GoodIn wsX11_isSame (wsV RX11 184 RX11 yX11_isSameName wsX11_isSameName) := goodIn_app (goodIn_of _ (by decide +kernel)) ggX11_isSame_X11_isSameName
theorem dX11_isSame_0 : decode cX11_isSame 0 = .ok (.aload_n 0, 1) := by decide +kernel
theorem dX11_isSame_1 : decode cX11_isSame 1 = .ok (.getfield 24, 3) := by decide +kernel
theorem dX11_isSame_4 : decode cX11_isSame 4 = .ok (.iload_n 1, 1) := by decide +kernel
theorem dX11_isSame_5 : decode cX11_isSame 5 = .ok (.baload, 1) := by decide +kernel
theorem dX11_isSame_6 : decode cX11_isSame 6 = .ok (.aload_n 0, 1) := by decide +kernel
theorem dX11_isSame_7 : decode cX11_isSame 7 = .ok (.getfield 24, 3) := by decide +kernel
theorem dX11_isSame_10 : decode cX11_isSame 10 = .ok (.iload_n 2, 1) := by decide +kernel
theorem dX11_isSame_11 : decode cX11_isSame 11 = .ok (.baload, 1) := by decide +kernel
theorem dX11_isSame_12 : decode cX11_isSame 12 = .ok (.if_icmp .ne 35, 3) := by decide +kernel
theorem dX11_isSame_15 : decode cX11_isSame 15 = .ok (.aload_n 0, 1) := by decide +kernel
theorem dX11_isSame_16 : decode cX11_isSame 16 = .ok (.getfield 28, 3) := by decide +kernel
theorem dX11_isSame_19 : decode cX11_isSame 19 = .ok (.iload_n 1, 1) := by decide +kernel
theorem dX11_isSame_20 : decode cX11_isSame 20 = .ok (.baload, 1) := by decide +kernel
theorem dX11_isSame_21 : decode cX11_isSame 21 = .ok (.aload_n 0, 1) := by decide +kernel
theorem dX11_isSame_22 : decode cX11_isSame 22 = .ok (.getfield 28, 3) := by decide +kernel
theorem dX11_isSame_25 : decode cX11_isSame 25 = .ok (.iload_n 2, 1) := by decide +kernel
theorem dX11_isSame_26 : decode cX11_isSame 26 = .ok (.baload, 1) := by decide +kernel
theorem dX11_isSame_27 : decode cX11_isSame 27 = .ok (.if_icmp .ne 20, 3) := by decide +kernel
theorem dX11_isSame_30 : decode cX11_isSame 30 = .ok (.aload_n 0, 1) := by decide +kernel
theorem dX11_isSame_31 : decode cX11_isSame 31 = .ok (.iconst 2, 1) := by decide +kernel
theorem dX11_isSame_32 : decode cX11_isSame 32 = .ok (.iload_n 1, 1) := by decide +kernel
theorem dX11_isSame_33 : decode cX11_isSame 33 = .ok (.imul, 1) := by decide +kernel
theorem dX11_isSame_34 : decode cX11_isSame 34 = .ok (.iconst 2, 1) := by decide +kernel
theorem dX11_isSame_35 : decode cX11_isSame 35 = .ok (.iload_n 2, 1) := by decide +kernel
theorem dX11_isSame_36 : decode cX11_isSame 36 = .ok (.imul, 1) := by decide +kernel
theorem dX11_isSame_37 : decode cX11_isSame 37 = .ok (.invokevirtual 184, 3) := by decide +kernel
theorem dX11_isSame_40 : decode cX11_isSame 40 = .ok (.ifCond .eq 7, 3) := by decide +kernel
theorem dX11_isSame_43 : decode cX11_isSame 43 = .ok (.iconst 1, 1) := by decide +kernel
theorem dX11_isSame_44 : decode cX11_isSame 44 = .ok (.goto 4, 3) := by decide +kernel
theorem dX11_isSame_47 : decode cX11_isSame 47 = .ok (.iconst 0, 1) := by decide +kernel
theorem dX11_isSame_48 : decode cX11_isSame 48 = .ok (.istore_n 3, 1) := by decide +kernel
theorem dX11_isSame_49 : decode cX11_isSame 49 = .ok (.iload_n 3, 1) := by decide +kernel
theorem dX11_isSame_50 : decode cX11_isSame 50 = .ok (.ifCond .eq 37, 3) := by decide +kernel
theorem dX11_isSame_53 : decode cX11_isSame 53 = .ok (.aload_n 0, 1) := by decide +kernel
theorem dX11_isSame_54 : decode cX11_isSame 54 = .ok (.getfield 31, 3) := by decide +kernel
theorem dX11_isSame_57 : decode cX11_isSame 57 = .ok (.iconst 2, 1) := by decide +kernel
theorem dX11_isSame_58 : decode cX11_isSame 58 = .ok (.iload_n 1, 1) := by decide +kernel
theorem dX11_isSame_59 : decode cX11_isSame 59 = .ok (.imul, 1) := by decide +kernel
theorem dX11_isSame_60 : decode cX11_isSame 60 = .ok (.iaload, 1) := by decide +kernel
theorem dX11_isSame_61 : decode cX11_isSame 61 = .ok (.bipush 9, 2) := by decide +kernel
theorem dX11_isSame_63 : decode cX11_isSame 63 = .ok (.if_icmp .ne 20, 3) := by decide +kernel
theorem dX11_isSame_66 : decode cX11_isSame 66 = .ok (.aload_n 0, 1) := by decide +kernel
theorem dX11_isSame_67 : decode cX11_isSame 67 = .ok (.iconst 2, 1) := by decide +kernel
theorem dX11_isSame_68 : decode cX11_isSame 68 = .ok (.iload_n 1, 1) := by decide +kernel
theorem dX11_isSame_69 : decode cX11_isSame 69 = .ok (.imul, 1) := by decide +kernel
theorem dX11_isSame_70 : decode cX11_isSame 70 = .ok (.iconst 1, 1) := by decide +kernel
theorem dX11_isSame_71 : decode cX11_isSame 71 = .ok (.iadd, 1) := by decide +kernel
theorem dX11_isSame_72 : decode cX11_isSame 72 = .ok (.iconst 2, 1) := by decide +kernel
theorem dX11_isSame_73 : decode cX11_isSame 73 = .ok (.iload_n 2, 1) := by decide +kernel
theorem dX11_isSame_74 : decode cX11_isSame 74 = .ok (.imul, 1) := by decide +kernel
theorem dX11_isSame_75 : decode cX11_isSame 75 = .ok (.iconst 1, 1) := by decide +kernel
theorem dX11_isSame_76 : decode cX11_isSame 76 = .ok (.iadd, 1) := by decide +kernel
theorem dX11_isSame_77 : decode cX11_isSame 77 = .ok (.invokevirtual 184, 3) := by decide +kernel
theorem dX11_isSame_80 : decode cX11_isSame 80 = .ok (.ifCond .eq 7, 3) := by decide +kernel
theorem dX11_isSame_83 : decode cX11_isSame 83 = .ok (.iconst 1, 1) := by decide +kernel
theorem dX11_isSame_84 : decode cX11_isSame 84 = .ok (.goto 4, 3) := by decide +kernel
theorem dX11_isSame_87 : decode cX11_isSame 87 = .ok (.iconst 0, 1) := by decide +kernel
theorem dX11_isSame_88 : decode cX11_isSame 88 = .ok (.ireturn, 1) := by decide +kernel
theorem dX11_family_0 : decode cX11_family 0 = .ok (.iload_n 0, 1) := by decide +kernel
theorem dX11_family_1 : decode cX11_family 1 = .ok (.ifCond .ne 7, 3) := by decide +kernel
theorem dX11_family_4 : decode cX11_family 4 = .ok (.iconst 0, 1) := by decide +kernel
theorem dX11_family_5 : decode cX11_family 5 = .ok (.goto 39, 3) := by decide +kernel
theorem dX11_family_8 : decode cX11_family 8 = .ok (.iload_n 0, 1) := by decide +kernel
theorem dX11_family_9 : decode cX11_family 9 = .ok (.iconst 5, 1) := by decide +kernel
theorem dX11_family_10 : decode cX11_family 10 = .ok (.if_icmp .gt 7, 3) := by decide +kernel
theorem dX11_family_13 : decode cX11_family 13 = .ok (.iconst 1, 1) := by decide +kernel
theorem dX11_family_14 : decode cX11_family 14 = .ok (.goto 30, 3) := by decide +kernel
theorem dX11_family_17 : decode cX11_family 17 = .ok (.iload_n 0, 1) := by decide +kernel
theorem dX11_family_18 : decode cX11_family 18 = .ok (.bipush 6, 2) := by decide +kernel
theorem dX11_family_20 : decode cX11_family 20 = .ok (.if_icmp .eq 9, 3) := by decide +kernel
theorem dX11_family_23 : decode cX11_family 23 = .ok (.iload_n 0, 1) := by decide +kernel
theorem dX11_family_24 : decode cX11_family 24 = .ok (.bipush 8, 2) := by decide +kernel
theorem dX11_family_26 : decode cX11_family 26 = .ok (.if_icmp .ne 7, 3) := by decide +kernel
theorem dX11_family_29 : decode cX11_family 29 = .ok (.iconst 2, 1) := by decide +kernel
theorem dX11_family_30 : decode cX11_family 30 = .ok (.goto 14, 3) := by decide +kernel
theorem dX11_family_33 : decode cX11_family 33 = .ok (.iload_n 0, 1) := by decide +kernel
theorem dX11_family_34 : decode cX11_family 34 = .ok (.bipush 9, 2) := by decide +kernel
theorem dX11_family_36 : decode cX11_family 36 = .ok (.if_icmp .ne 7, 3) := by decide +kernel
theorem dX11_family_39 : decode cX11_family 39 = .ok (.iconst 3, 1) := by decide +kernel
theorem dX11_family_40 : decode cX11_family 40 = .ok (.goto 4, 3) := by decide +kernel
theorem dX11_family_43 : decode cX11_family 43 = .ok (.iconst 4, 1) := by decide +kernel
theorem dX11_family_44 : decode cX11_family 44 = .ok (.ireturn, 1) := by decide +kernel
set_option maxRecDepth 20000 in
theorem ggX11_isDistinct_X11_family : GoodIn wsX11_isDistinct wsX11_family := goodIn_r _ [6] (by decide +kernel) (by decide +kernel)
set_option maxRecDepth 20000 in
theorem gX11_isDistinct_X11_family : GoodIn wsX11_isDistinct (va_wsS RX11 187 yX11_family wsX11_family) := goodIn_app (goodIn_of _ (by decide +kernel)) ggX11_isDistinct_X11_family
theorem dX11_isDistinct_0 : decode cX11_isDistinct 0 = .ok (.iconst 2, 1) := by decide +kernel
theorem dX11_isDistinct_1 : decode cX11_isDistinct 1 = .ok (.iload_n 1, 1) := by decide +kernel
theorem dX11_isDistinct_2 : decode cX11_isDistinct 2 = .ok (.imul, 1) := by decide +kernel
theorem dX11_isDistinct_3 : decode cX11_isDistinct 3 = .ok (.istore_n 3, 1) := by decide +kernel
theorem dX11_isDistinct_4 : decode cX11_isDistinct 4 = .ok (.iconst 2, 1) := by decide +kernel
theorem dX11_isDistinct_5 : decode cX11_isDistinct 5 = .ok (.iload_n 2, 1) := by decide +kernel
theorem dX11_isDistinct_6 : decode cX11_isDistinct 6 = .ok (.imul, 1) := by decide +kernel
theorem dX11_isDistinct_7 : decode cX11_isDistinct 7 = .ok (.istore 4, 2) := by decide +kernel
theorem dX11_isDistinct_9 : decode cX11_isDistinct 9 = .ok (.aload_n 0, 1) := by decide +kernel
theorem dX11_isDistinct_10 : decode cX11_isDistinct 10 = .ok (.getfield 31, 3) := by decide +kernel
theorem dX11_isDistinct_13 : decode cX11_isDistinct 13 = .ok (.iload_n 3, 1) := by decide +kernel
theorem dX11_isDistinct_14 : decode cX11_isDistinct 14 = .ok (.iaload, 1) := by decide +kernel
theorem dX11_isDistinct_15 : decode cX11_isDistinct 15 = .ok (.bipush 7, 2) := by decide +kernel
theorem dX11_isDistinct_17 : decode cX11_isDistinct 17 = .ok (.if_icmp .eq 60, 3) := by decide +kernel
theorem dX11_isDistinct_20 : decode cX11_isDistinct 20 = .ok (.aload_n 0, 1) := by decide +kernel
theorem dX11_isDistinct_21 : decode cX11_isDistinct 21 = .ok (.getfield 31, 3) := by decide +kernel
theorem dX11_isDistinct_24 : decode cX11_isDistinct 24 = .ok (.iload 4, 2) := by decide +kernel
theorem dX11_isDistinct_26 : decode cX11_isDistinct 26 = .ok (.iaload, 1) := by decide +kernel
theorem dX11_isDistinct_27 : decode cX11_isDistinct 27 = .ok (.bipush 7, 2) := by decide +kernel
theorem dX11_isDistinct_29 : decode cX11_isDistinct 29 = .ok (.if_icmp .eq 48, 3) := by decide +kernel
theorem dX11_isDistinct_32 : decode cX11_isDistinct 32 = .ok (.aload_n 0, 1) := by decide +kernel
theorem dX11_isDistinct_33 : decode cX11_isDistinct 33 = .ok (.getfield 37, 3) := by decide +kernel
theorem dX11_isDistinct_36 : decode cX11_isDistinct 36 = .ok (.iload_n 3, 1) := by decide +kernel
theorem dX11_isDistinct_37 : decode cX11_isDistinct 37 = .ok (.baload, 1) := by decide +kernel
theorem dX11_isDistinct_38 : decode cX11_isDistinct 38 = .ok (.ifCond .eq 13, 3) := by decide +kernel
theorem dX11_isDistinct_41 : decode cX11_isDistinct 41 = .ok (.aload_n 0, 1) := by decide +kernel
theorem dX11_isDistinct_42 : decode cX11_isDistinct 42 = .ok (.getfield 37, 3) := by decide +kernel
theorem dX11_isDistinct_45 : decode cX11_isDistinct 45 = .ok (.iload 4, 2) := by decide +kernel
theorem dX11_isDistinct_47 : decode cX11_isDistinct 47 = .ok (.baload, 1) := by decide +kernel
theorem dX11_isDistinct_48 : decode cX11_isDistinct 48 = .ok (.ifCond .ne 29, 3) := by decide +kernel
theorem dX11_isDistinct_51 : decode cX11_isDistinct 51 = .ok (.aload_n 0, 1) := by decide +kernel
theorem dX11_isDistinct_52 : decode cX11_isDistinct 52 = .ok (.getfield 31, 3) := by decide +kernel
theorem dX11_isDistinct_55 : decode cX11_isDistinct 55 = .ok (.iload_n 3, 1) := by decide +kernel
theorem dX11_isDistinct_56 : decode cX11_isDistinct 56 = .ok (.iaload, 1) := by decide +kernel
theorem dX11_isDistinct_57 : decode cX11_isDistinct 57 = .ok (.invokestatic 187, 3) := by decide +kernel
theorem dX11_isDistinct_60 : decode cX11_isDistinct 60 = .ok (.aload_n 0, 1) := by decide +kernel
theorem dX11_isDistinct_61 : decode cX11_isDistinct 61 = .ok (.getfield 31, 3) := by decide +kernel
theorem dX11_isDistinct_64 : decode cX11_isDistinct 64 = .ok (.iload 4, 2) := by decide +kernel
theorem dX11_isDistinct_66 : decode cX11_isDistinct 66 = .ok (.iaload, 1) := by decide +kernel
theorem dX11_isDistinct_67 : decode cX11_isDistinct 67 = .ok (.invokestatic 187, 3) := by decide +kernel
theorem dX11_isDistinct_70 : decode cX11_isDistinct 70 = .ok (.if_icmp .eq 7, 3) := by decide +kernel
theorem dX11_isDistinct_73 : decode cX11_isDistinct 73 = .ok (.iconst 1, 1) := by decide +kernel
theorem dX11_isDistinct_74 : decode cX11_isDistinct 74 = .ok (.goto 4, 3) := by decide +kernel
theorem dX11_isDistinct_77 : decode cX11_isDistinct 77 = .ok (.iconst 0, 1) := by decide +kernel
theorem dX11_isDistinct_78 : decode cX11_isDistinct 78 = .ok (.ireturn, 1) := by decide +kernel
set_option maxRecDepth 20000 in
theorem ggX11_differAt_X11_argumentOf : GoodIn wsX11_differAt wsX11_argumentOf := goodIn_r _ [5, 6, 26, 27, 28, 29, 30, 31, 32, 33, 34, 35, 36, 37, 38, 39, 40, 41, 42, 43, 44, 45, 46, 47, 48, 49, 50, 51, 52, 53] (by decide +kernel) (by decide +kernel)
set_option maxRecDepth 20000 in
theorem gX11_differAt_X11_argumentOf : GoodIn wsX11_differAt (wsV RX11 190 RX11 yX11_argumentOf wsX11_argumentOf) := goodIn_app (goodIn_of _ (by decide +kernel)) ggX11_differAt_X11_argumentOf
set_option maxRecDepth 20000 in
theorem ggX11_differAt_X11_isSame : GoodIn wsX11_differAt wsX11_isSame := goodIn_r _ [10, 11, 12, 13, 14, 15, 16, 4, 17, 18, 19, 20, 21, 22, 23, 24, 25, 26, 27, 28, 29, 30, 31, 32, 33, 34, 35, 36, 37, 38, 39, 40, 41, 42, 43, 44, 45, 46, 47, 48, 49, 50, 51, 52, 53] (by decide +kernel) (by decide +kernel)
set_option maxRecDepth 20000 in
theorem gX11_differAt_X11_isSame : GoodIn wsX11_differAt (wsV RX11 194 RX11 yX11_isSame wsX11_isSame) := goodIn_app (goodIn_of _ (by decide +kernel)) ggX11_differAt_X11_isSame
theorem dX11_differAt_0 : decode cX11_differAt 0 = .ok (.iconst 0, 1) := by decide +kernel
theorem dX11_differAt_1 : decode cX11_differAt 1 = .ok (.istore 4, 2) := by decide +kernel
theorem dX11_differAt_3 : decode cX11_differAt 3 = .ok (.iload 4, 2) := by decide +kernel
theorem dX11_differAt_5 : decode cX11_differAt 5 = .ok (.iload_n 3, 1) := by decide +kernel
theorem dX11_differAt_6 : decode cX11_differAt 6 = .ok (.if_icmp .ge 30, 3) := by decide +kernel
theorem dX11_differAt_9 : decode cX11_differAt 9 = .ok (.aload_n 0, 1) := by decide +kernel
theorem dX11_differAt_10 : decode cX11_differAt 10 = .ok (.aload_n 0, 1) := by decide +kernel
theorem dX11_differAt_11 : decode cX11_differAt 11 = .ok (.iload_n 1, 1) := by decide +kernel
theorem dX11_differAt_12 : decode cX11_differAt 12 = .ok (.iload 4, 2) := by decide +kernel
theorem dX11_differAt_14 : decode cX11_differAt 14 = .ok (.invokevirtual 190, 3) := by decide +kernel
theorem dX11_differAt_17 : decode cX11_differAt 17 = .ok (.aload_n 0, 1) := by decide +kernel
theorem dX11_differAt_18 : decode cX11_differAt 18 = .ok (.iload_n 2, 1) := by decide +kernel
theorem dX11_differAt_19 : decode cX11_differAt 19 = .ok (.iload 4, 2) := by decide +kernel
theorem dX11_differAt_21 : decode cX11_differAt 21 = .ok (.invokevirtual 190, 3) := by decide +kernel
theorem dX11_differAt_24 : decode cX11_differAt 24 = .ok (.invokevirtual 194, 3) := by decide +kernel
theorem dX11_differAt_27 : decode cX11_differAt 27 = .ok (.ifCond .eq 9, 3) := by decide +kernel
theorem dX11_differAt_30 : decode cX11_differAt 30 = .ok (.iinc 4 1, 3) := by decide +kernel
theorem dX11_differAt_33 : decode cX11_differAt 33 = .ok (.goto (-30), 3) := by decide +kernel
theorem dX11_differAt_36 : decode cX11_differAt 36 = .ok (.iload 4, 2) := by decide +kernel
theorem dX11_differAt_38 : decode cX11_differAt 38 = .ok (.ireturn, 1) := by decide +kernel
set_option maxRecDepth 20000 in
theorem ggX11_deciding_X11_takesMany : GoodIn wsX11_deciding wsX11_takesMany := goodIn_r _ [6, 7, 8, 9, 5, 10, 11, 12, 13, 14, 15, 16, 17, 50, 51, 52, 53, 54, 55, 56, 57, 58, 59, 60, 61, 62, 63, 64, 65, 66, 67, 68, 69, 70, 71, 72, 73, 74, 75, 76, 77] (by decide +kernel) (by decide +kernel)
set_option maxRecDepth 20000 in
theorem gX11_deciding_X11_takesMany : GoodIn wsX11_deciding (wsV RX11 197 RX11 yX11_takesMany wsX11_takesMany) := goodIn_app (goodIn_of _ (by decide +kernel)) ggX11_deciding_X11_takesMany
set_option maxRecDepth 20000 in
theorem ggX11_deciding_X11_differAt : GoodIn wsX11_deciding wsX11_differAt := goodIn_r _ [21, 22, 23, 24, 5, 25, 11, 26, 27, 28, 29, 12, 13, 30, 31, 32, 33, 34, 35, 36, 37, 38, 39, 40, 41, 42, 50, 51, 52, 53, 54, 55, 56, 57, 58, 59, 60, 61, 62, 63, 64, 65, 66, 67, 68, 69, 70, 71, 72, 73, 74, 75, 76, 77] (by decide +kernel) (by decide +kernel)
set_option maxRecDepth 20000 in
theorem gX11_deciding_X11_differAt : GoodIn wsX11_deciding (wsV RX11 200 RX11 yX11_differAt wsX11_differAt) := goodIn_app (goodIn_of _ (by decide +kernel)) ggX11_deciding_X11_differAt
set_option maxRecDepth 20000 in
theorem ggX11_deciding_X11_argumentOf : GoodIn wsX11_deciding wsX11_argumentOf := goodIn_r _ [25, 11, 50, 51, 52, 53, 54, 55, 56, 57, 58, 59, 60, 61, 62, 63, 64, 65, 66, 67, 68, 69, 70, 71, 72, 73, 74, 75, 76, 77] (by decide +kernel) (by decide +kernel)
set_option maxRecDepth 20000 in
theorem gX11_deciding_X11_argumentOf : GoodIn wsX11_deciding (wsV RX11 190 RX11 yX11_argumentOf wsX11_argumentOf) := goodIn_app (goodIn_of _ (by decide +kernel)) ggX11_deciding_X11_argumentOf
set_option maxRecDepth 20000 in
theorem ggX11_deciding_X11_isDistinct : GoodIn wsX11_deciding wsX11_isDistinct := goodIn_r _ [46, 30, 36, 47, 48, 5, 49, 50, 51, 52, 53, 54, 55, 56, 57, 58, 59, 60, 61, 62, 63, 64, 65, 66, 67, 68, 69, 70, 71, 72, 73, 74, 75, 76, 77] (by decide +kernel) (by decide +kernel)
set_option maxRecDepth 20000 in
theorem gX11_deciding_X11_isDistinct : GoodIn wsX11_deciding (wsV RX11 204 RX11 yX11_isDistinct wsX11_isDistinct) := goodIn_app (goodIn_of _ (by decide +kernel)) ggX11_deciding_X11_isDistinct
