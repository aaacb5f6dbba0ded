theorem dX11_sayWord_0 : decode cX11_sayWord 0 = .ok (.bipush 56, 2) := by decide +kernel
theorem dX11_sayWord_2 : decode cX11_sayWord 2 = .ok (.istore_n 3, 1) := by decide +kernel
theorem dX11_sayWord_3 : decode cX11_sayWord 3 = .ok (.iload_n 3, 1) := by decide +kernel
theorem dX11_sayWord_4 : decode cX11_sayWord 4 = .ok (.ifCond .lt 36, 3) := by decide +kernel
theorem dX11_sayWord_7 : decode cX11_sayWord 7 = .ok (.lload_n 1, 1) := by decide +kernel
theorem dX11_sayWord_8 : decode cX11_sayWord 8 = .ok (.iload_n 3, 1) := by decide +kernel
theorem dX11_sayWord_9 : decode cX11_sayWord 9 = .ok (.lshr, 1) := by decide +kernel
theorem dX11_sayWord_10 : decode cX11_sayWord 10 = .ok (.ldc2_w 118, 3) := by decide +kernel
theorem dX11_sayWord_13 : decode cX11_sayWord 13 = .ok (.land, 1) := by decide +kernel
theorem dX11_sayWord_14 : decode cX11_sayWord 14 = .ok (.lconst 0, 1) := by decide +kernel
theorem dX11_sayWord_15 : decode cX11_sayWord 15 = .ok (.lcmp, 1) := by decide +kernel
theorem dX11_sayWord_16 : decode cX11_sayWord 16 = .ok (.ifCond .eq 16, 3) := by decide +kernel
theorem dX11_sayWord_19 : decode cX11_sayWord 19 = .ok (.aload_n 0, 1) := by decide +kernel
theorem dX11_sayWord_20 : decode cX11_sayWord 20 = .ok (.lload_n 1, 1) := by decide +kernel
theorem dX11_sayWord_21 : decode cX11_sayWord 21 = .ok (.iload_n 3, 1) := by decide +kernel
theorem dX11_sayWord_22 : decode cX11_sayWord 22 = .ok (.lshr, 1) := by decide +kernel
theorem dX11_sayWord_23 : decode cX11_sayWord 23 = .ok (.ldc2_w 118, 3) := by decide +kernel
theorem dX11_sayWord_26 : decode cX11_sayWord 26 = .ok (.land, 1) := by decide +kernel
theorem dX11_sayWord_27 : decode cX11_sayWord 27 = .ok (.l2i, 1) := by decide +kernel
theorem dX11_sayWord_28 : decode cX11_sayWord 28 = .ok (.i2c, 1) := by decide +kernel
theorem dX11_sayWord_29 : decode cX11_sayWord 29 = .ok (.invokevirtual 230, 3) := by decide +kernel
theorem dX11_sayWord_32 : decode cX11_sayWord 32 = .ok (.iload_n 3, 1) := by decide +kernel
theorem dX11_sayWord_33 : decode cX11_sayWord 33 = .ok (.bipush 8, 2) := by decide +kernel
theorem dX11_sayWord_35 : decode cX11_sayWord 35 = .ok (.isub, 1) := by decide +kernel
theorem dX11_sayWord_36 : decode cX11_sayWord 36 = .ok (.istore_n 3, 1) := by decide +kernel
theorem dX11_sayWord_37 : decode cX11_sayWord 37 = .ok (.goto (-34), 3) := by decide +kernel
theorem dX11_sayWord_40 : decode cX11_sayWord 40 = .ok (.return_, 1) := by decide +kernel
set_option maxRecDepth 20000 in
theorem ggX11_sayNumber_X11_say : GoodIn wsX11_sayNumber wsX11_say := goodIn_r _ [10, 11, 12, 13, 14, 15, 16, 17, 18, 19, 20, 21, 22, 23, 24, 25, 26, 27, 28, 29, 30, 31, 32, 33, 34, 35, 36, 37, 38, 39, 40] (by decide +kernel) (by decide +kernel)
set_option maxRecDepth 20000 in
theorem gX11_sayNumber_X11_say : GoodIn wsX11_sayNumber (wsV RX11 230 RX11 yX11_say wsX11_say) := goodIn_app (goodIn_of _ (by decide +kernel)) ggX11_sayNumber_X11_say
theorem dX11_sayNumber_0 : decode cX11_sayNumber 0 = .ok (.dload_n 1, 1) := by decide +kernel
theorem dX11_sayNumber_1 : decode cX11_sayNumber 1 = .ok (.dstore_n 3, 1) := by decide +kernel
theorem dX11_sayNumber_2 : decode cX11_sayNumber 2 = .ok (.dload_n 3, 1) := by decide +kernel
theorem dX11_sayNumber_3 : decode cX11_sayNumber 3 = .ok (.dconst 0, 1) := by decide +kernel
theorem dX11_sayNumber_4 : decode cX11_sayNumber 4 = .ok (.dcmp .g, 1) := by decide +kernel
theorem dX11_sayNumber_5 : decode cX11_sayNumber 5 = .ok (.ifCond .ge 12, 3) := by decide +kernel
theorem dX11_sayNumber_8 : decode cX11_sayNumber 8 = .ok (.aload_n 0, 1) := by decide +kernel
theorem dX11_sayNumber_9 : decode cX11_sayNumber 9 = .ok (.bipush 45, 2) := by decide +kernel
theorem dX11_sayNumber_11 : decode cX11_sayNumber 11 = .ok (.invokevirtual 230, 3) := by decide +kernel
theorem dX11_sayNumber_14 : decode cX11_sayNumber 14 = .ok (.dload_n 3, 1) := by decide +kernel
theorem dX11_sayNumber_15 : decode cX11_sayNumber 15 = .ok (.dneg, 1) := by decide +kernel
theorem dX11_sayNumber_16 : decode cX11_sayNumber 16 = .ok (.dstore_n 3, 1) := by decide +kernel
theorem dX11_sayNumber_17 : decode cX11_sayNumber 17 = .ok (.dload_n 3, 1) := by decide +kernel
theorem dX11_sayNumber_18 : decode cX11_sayNumber 18 = .ok (.d2l, 1) := by decide +kernel
theorem dX11_sayNumber_19 : decode cX11_sayNumber 19 = .ok (.lstore 5, 2) := by decide +kernel
theorem dX11_sayNumber_21 : decode cX11_sayNumber 21 = .ok (.lconst 1, 1) := by decide +kernel
theorem dX11_sayNumber_22 : decode cX11_sayNumber 22 = .ok (.lstore 7, 2) := by decide +kernel
theorem dX11_sayNumber_24 : decode cX11_sayNumber 24 = .ok (.lload 5, 2) := by decide +kernel
theorem dX11_sayNumber_26 : decode cX11_sayNumber 26 = .ok (.lload 7, 2) := by decide +kernel
theorem dX11_sayNumber_28 : decode cX11_sayNumber 28 = .ok (.ldiv, 1) := by decide +kernel
theorem dX11_sayNumber_29 : decode cX11_sayNumber 29 = .ok (.ldc2_w 233, 3) := by decide +kernel
theorem dX11_sayNumber_32 : decode cX11_sayNumber 32 = .ok (.lcmp, 1) := by decide +kernel
theorem dX11_sayNumber_33 : decode cX11_sayNumber 33 = .ok (.ifCond .le 14, 3) := by decide +kernel
theorem dX11_sayNumber_36 : decode cX11_sayNumber 36 = .ok (.lload 7, 2) := by decide +kernel
theorem dX11_sayNumber_38 : decode cX11_sayNumber 38 = .ok (.ldc2_w 235, 3) := by decide +kernel
theorem dX11_sayNumber_41 : decode cX11_sayNumber 41 = .ok (.lmul, 1) := by decide +kernel
theorem dX11_sayNumber_42 : decode cX11_sayNumber 42 = .ok (.lstore 7, 2) := by decide +kernel
theorem dX11_sayNumber_44 : decode cX11_sayNumber 44 = .ok (.goto (-20), 3) := by decide +kernel
theorem dX11_sayNumber_47 : decode cX11_sayNumber 47 = .ok (.lload 7, 2) := by decide +kernel
theorem dX11_sayNumber_49 : decode cX11_sayNumber 49 = .ok (.lstore 9, 2) := by decide +kernel
theorem dX11_sayNumber_51 : decode cX11_sayNumber 51 = .ok (.lload 9, 2) := by decide +kernel
theorem dX11_sayNumber_53 : decode cX11_sayNumber 53 = .ok (.lconst 0, 1) := by decide +kernel
theorem dX11_sayNumber_54 : decode cX11_sayNumber 54 = .ok (.lcmp, 1) := by decide +kernel
theorem dX11_sayNumber_55 : decode cX11_sayNumber 55 = .ok (.ifCond .le 33, 3) := by decide +kernel
theorem dX11_sayNumber_58 : decode cX11_sayNumber 58 = .ok (.aload_n 0, 1) := by decide +kernel
theorem dX11_sayNumber_59 : decode cX11_sayNumber 59 = .ok (.ldc2_w 237, 3) := by decide +kernel
theorem dX11_sayNumber_62 : decode cX11_sayNumber 62 = .ok (.lload 5, 2) := by decide +kernel
theorem dX11_sayNumber_64 : decode cX11_sayNumber 64 = .ok (.lload 9, 2) := by decide +kernel
theorem dX11_sayNumber_66 : decode cX11_sayNumber 66 = .ok (.ldiv, 1) := by decide +kernel
theorem dX11_sayNumber_67 : decode cX11_sayNumber 67 = .ok (.ldc2_w 235, 3) := by decide +kernel
theorem dX11_sayNumber_70 : decode cX11_sayNumber 70 = .ok (.lrem, 1) := by decide +kernel
theorem dX11_sayNumber_71 : decode cX11_sayNumber 71 = .ok (.ladd, 1) := by decide +kernel
theorem dX11_sayNumber_72 : decode cX11_sayNumber 72 = .ok (.l2i, 1) := by decide +kernel
theorem dX11_sayNumber_73 : decode cX11_sayNumber 73 = .ok (.i2c, 1) := by decide +kernel
theorem dX11_sayNumber_74 : decode cX11_sayNumber 74 = .ok (.invokevirtual 230, 3) := by decide +kernel
theorem dX11_sayNumber_77 : decode cX11_sayNumber 77 = .ok (.lload 9, 2) := by decide +kernel
theorem dX11_sayNumber_79 : decode cX11_sayNumber 79 = .ok (.ldc2_w 235, 3) := by decide +kernel
theorem dX11_sayNumber_82 : decode cX11_sayNumber 82 = .ok (.ldiv, 1) := by decide +kernel
theorem dX11_sayNumber_83 : decode cX11_sayNumber 83 = .ok (.lstore 9, 2) := by decide +kernel
theorem dX11_sayNumber_85 : decode cX11_sayNumber 85 = .ok (.goto (-34), 3) := by decide +kernel
theorem dX11_sayNumber_88 : decode cX11_sayNumber 88 = .ok (.dload_n 3, 1) := by decide +kernel
theorem dX11_sayNumber_89 : decode cX11_sayNumber 89 = .ok (.lload 5, 2) := by decide +kernel
theorem dX11_sayNumber_91 : decode cX11_sayNumber 91 = .ok (.l2d, 1) := by decide +kernel
theorem dX11_sayNumber_92 : decode cX11_sayNumber 92 = .ok (.dsub, 1) := by decide +kernel
theorem dX11_sayNumber_93 : decode cX11_sayNumber 93 = .ok (.ldc2_w 239, 3) := by decide +kernel
theorem dX11_sayNumber_96 : decode cX11_sayNumber 96 = .ok (.dmul, 1) := by decide +kernel
theorem dX11_sayNumber_97 : decode cX11_sayNumber 97 = .ok (.d2l, 1) := by decide +kernel
theorem dX11_sayNumber_98 : decode cX11_sayNumber 98 = .ok (.lstore 9, 2) := by decide +kernel
theorem dX11_sayNumber_100 : decode cX11_sayNumber 100 = .ok (.lload 9, 2) := by decide +kernel
theorem dX11_sayNumber_102 : decode cX11_sayNumber 102 = .ok (.lconst 0, 1) := by decide +kernel
theorem dX11_sayNumber_103 : decode cX11_sayNumber 103 = .ok (.lcmp, 1) := by decide +kernel
theorem dX11_sayNumber_104 : decode cX11_sayNumber 104 = .ok (.ifCond .le 61, 3) := by decide +kernel
theorem dX11_sayNumber_107 : decode cX11_sayNumber 107 = .ok (.aload_n 0, 1) := by decide +kernel
theorem dX11_sayNumber_108 : decode cX11_sayNumber 108 = .ok (.bipush 46, 2) := by decide +kernel
theorem dX11_sayNumber_110 : decode cX11_sayNumber 110 = .ok (.invokevirtual 230, 3) := by decide +kernel
theorem dX11_sayNumber_113 : decode cX11_sayNumber 113 = .ok (.ldc2_w 241, 3) := by decide +kernel
theorem dX11_sayNumber_116 : decode cX11_sayNumber 116 = .ok (.lstore 11, 2) := by decide +kernel
theorem dX11_sayNumber_118 : decode cX11_sayNumber 118 = .ok (.lload 11, 2) := by decide +kernel
theorem dX11_sayNumber_120 : decode cX11_sayNumber 120 = .ok (.lconst 0, 1) := by decide +kernel
theorem dX11_sayNumber_121 : decode cX11_sayNumber 121 = .ok (.lcmp, 1) := by decide +kernel
theorem dX11_sayNumber_122 : decode cX11_sayNumber 122 = .ok (.ifCond .le 43, 3) := by decide +kernel
theorem dX11_sayNumber_125 : decode cX11_sayNumber 125 = .ok (.lload 9, 2) := by decide +kernel
theorem dX11_sayNumber_127 : decode cX11_sayNumber 127 = .ok (.lconst 0, 1) := by decide +kernel
theorem dX11_sayNumber_128 : decode cX11_sayNumber 128 = .ok (.lcmp, 1) := by decide +kernel
theorem dX11_sayNumber_129 : decode cX11_sayNumber 129 = .ok (.ifCond .le 36, 3) := by decide +kernel
theorem dX11_sayNumber_132 : decode cX11_sayNumber 132 = .ok (.aload_n 0, 1) := by decide +kernel
theorem dX11_sayNumber_133 : decode cX11_sayNumber 133 = .ok (.ldc2_w 237, 3) := by decide +kernel
theorem dX11_sayNumber_136 : decode cX11_sayNumber 136 = .ok (.lload 9, 2) := by decide +kernel
theorem dX11_sayNumber_138 : decode cX11_sayNumber 138 = .ok (.lload 11, 2) := by decide +kernel
theorem dX11_sayNumber_140 : decode cX11_sayNumber 140 = .ok (.ldiv, 1) := by decide +kernel
theorem dX11_sayNumber_141 : decode cX11_sayNumber 141 = .ok (.ladd, 1) := by decide +kernel
theorem dX11_sayNumber_142 : decode cX11_sayNumber 142 = .ok (.l2i, 1) := by decide +kernel
theorem dX11_sayNumber_143 : decode cX11_sayNumber 143 = .ok (.i2c, 1) := by decide +kernel
theorem dX11_sayNumber_144 : decode cX11_sayNumber 144 = .ok (.invokevirtual 230, 3) := by decide +kernel
theorem dX11_sayNumber_147 : decode cX11_sayNumber 147 = .ok (.lload 9, 2) := by decide +kernel
theorem dX11_sayNumber_149 : decode cX11_sayNumber 149 = .ok (.lload 11, 2) := by decide +kernel
theorem dX11_sayNumber_151 : decode cX11_sayNumber 151 = .ok (.lrem, 1) := by decide +kernel
theorem dX11_sayNumber_152 : decode cX11_sayNumber 152 = .ok (.lstore 9, 2) := by decide +kernel
theorem dX11_sayNumber_154 : decode cX11_sayNumber 154 = .ok (.lload 11, 2) := by decide +kernel
theorem dX11_sayNumber_156 : decode cX11_sayNumber 156 = .ok (.ldc2_w 235, 3) := by decide +kernel
theorem dX11_sayNumber_159 : decode cX11_sayNumber 159 = .ok (.ldiv, 1) := by decide +kernel
theorem dX11_sayNumber_160 : decode cX11_sayNumber 160 = .ok (.lstore 11, 2) := by decide +kernel
theorem dX11_sayNumber_162 : decode cX11_sayNumber 162 = .ok (.goto (-44), 3) := by decide +kernel
theorem dX11_sayNumber_165 : decode cX11_sayNumber 165 = .ok (.return_, 1) := by decide +kernel
set_option maxRecDepth 20000 in
theorem ggX11_sayOne_X11_sayWord : GoodIn wsX11_sayOne wsX11_sayWord := goodIn_r _ [15, 16, 17, 18, 19, 14, 20, 21, 22, 32, 33, 34, 35, 36, 37, 38, 39, 40, 41, 42, 43, 44, 45, 46, 47, 48, 49, 50, 51, 52, 53, 54, 55, 56, 57, 58, 59] (by decide +kernel) (by decide +kernel)
set_option maxRecDepth 20000 in
theorem gX11_sayOne_X11_sayWord : GoodIn wsX11_sayOne (wsV RX11 245 RX11 yX11_sayWord wsX11_sayWord) := goodIn_app (goodIn_of _ (by decide +kernel)) ggX11_sayOne_X11_sayWord
set_option maxRecDepth 20000 in
theorem ggX11_sayOne_X11_sayNumber : GoodIn wsX11_sayOne wsX11_sayNumber := goodIn_r _ [26, 27, 28, 29, 30, 31, 17, 18, 19, 14, 20, 21, 22, 32, 33, 34, 35, 36, 37, 38, 39, 40, 41, 42, 43, 44, 45, 46, 47, 48, 49, 50, 51, 52, 53, 54, 55, 56, 57, 58, 59] (by decide +kernel) (by decide +kernel)
set_option maxRecDepth 20000 in
theorem gX11_sayOne_X11_sayNumber : GoodIn wsX11_sayOne (wsV RX11 257 RX11 yX11_sayNumber wsX11_sayNumber) := goodIn_app (goodIn_of _ (by decide +kernel)) ggX11_sayOne_X11_sayNumber
set_option maxRecDepth 20000 in
theorem ggX11_sayOne_X11_say : GoodIn wsX11_sayOne wsX11_say := goodIn_r _ [20, 21, 22, 32, 33, 34, 35, 36, 37, 38, 39, 40, 41, 42, 43, 44, 45, 46, 47, 48, 49, 50, 51, 52, 53, 54, 55, 56, 57, 58, 59] (by decide +kernel) (by decide +kernel)
set_option maxRecDepth 20000 in
theorem gX11_sayOne_X11_say : GoodIn wsX11_sayOne (wsV RX11 230 RX11 yX11_say wsX11_say) := goodIn_app (goodIn_of _ (by decide +kernel)) ggX11_sayOne_X11_say
theorem dX11_sayOne_0 : decode cX11_sayOne 0 = .ok (.aload_n 0, 1) := by decide +kernel
theorem dX11_sayOne_1 : decode cX11_sayOne 1 = .ok (.getfield 46, 3) := by decide +kernel
theorem dX11_sayOne_4 : decode cX11_sayOne 4 = .ok (.iload_n 1, 1) := by decide +kernel
theorem dX11_sayOne_5 : decode cX11_sayOne 5 = .ok (.iaload, 1) := by decide +kernel
theorem dX11_sayOne_6 : decode cX11_sayOne 6 = .ok (.tableswitch 95 0 3 #[30, 47, 57, 82], 30) := by decide +kernel
theorem dX11_sayOne_36 : decode cX11_sayOne 36 = .ok (.aload_n 0, 1) := by decide +kernel
theorem dX11_sayOne_37 : decode cX11_sayOne 37 = .ok (.ldc2_w 243, 3) := by decide +kernel
theorem dX11_sayOne_40 : decode cX11_sayOne 40 = .ok (.invokevirtual 245, 3) := by decide +kernel
theorem dX11_sayOne_43 : decode cX11_sayOne 43 = .ok (.aload_n 0, 1) := by decide +kernel
theorem dX11_sayOne_44 : decode cX11_sayOne 44 = .ok (.ldc2_w 249, 3) := by decide +kernel
theorem dX11_sayOne_47 : decode cX11_sayOne 47 = .ok (.invokevirtual 245, 3) := by decide +kernel
theorem dX11_sayOne_50 : decode cX11_sayOne 50 = .ok (.goto 84, 3) := by decide +kernel
theorem dX11_sayOne_53 : decode cX11_sayOne 53 = .ok (.aload_n 0, 1) := by decide +kernel
theorem dX11_sayOne_54 : decode cX11_sayOne 54 = .ok (.ldc2_w 251, 3) := by decide +kernel
theorem dX11_sayOne_57 : decode cX11_sayOne 57 = .ok (.invokevirtual 245, 3) := by decide +kernel
theorem dX11_sayOne_60 : decode cX11_sayOne 60 = .ok (.goto 74, 3) := by decide +kernel
theorem dX11_sayOne_63 : decode cX11_sayOne 63 = .ok (.aload_n 0, 1) := by decide +kernel
theorem dX11_sayOne_64 : decode cX11_sayOne 64 = .ok (.aload_n 0, 1) := by decide +kernel
theorem dX11_sayOne_65 : decode cX11_sayOne 65 = .ok (.getfield 49, 3) := by decide +kernel
theorem dX11_sayOne_68 : decode cX11_sayOne 68 = .ok (.iload_n 1, 1) := by decide +kernel
theorem dX11_sayOne_69 : decode cX11_sayOne 69 = .ok (.baload, 1) := by decide +kernel
theorem dX11_sayOne_70 : decode cX11_sayOne 70 = .ok (.ifCond .eq 9, 3) := by decide +kernel
theorem dX11_sayOne_73 : decode cX11_sayOne 73 = .ok (.ldc2_w 253, 3) := by decide +kernel
theorem dX11_sayOne_76 : decode cX11_sayOne 76 = .ok (.goto 6, 3) := by decide +kernel
theorem dX11_sayOne_79 : decode cX11_sayOne 79 = .ok (.ldc2_w 255, 3) := by decide +kernel
theorem dX11_sayOne_82 : decode cX11_sayOne 82 = .ok (.invokevirtual 245, 3) := by decide +kernel
theorem dX11_sayOne_85 : decode cX11_sayOne 85 = .ok (.goto 49, 3) := by decide +kernel
theorem dX11_sayOne_88 : decode cX11_sayOne 88 = .ok (.aload_n 0, 1) := by decide +kernel
theorem dX11_sayOne_89 : decode cX11_sayOne 89 = .ok (.aload_n 0, 1) := by decide +kernel
theorem dX11_sayOne_90 : decode cX11_sayOne 90 = .ok (.getfield 52, 3) := by decide +kernel
theorem dX11_sayOne_93 : decode cX11_sayOne 93 = .ok (.iload_n 1, 1) := by decide +kernel
theorem dX11_sayOne_94 : decode cX11_sayOne 94 = .ok (.daload, 1) := by decide +kernel
theorem dX11_sayOne_95 : decode cX11_sayOne 95 = .ok (.invokevirtual 257, 3) := by decide +kernel
theorem dX11_sayOne_98 : decode cX11_sayOne 98 = .ok (.goto 36, 3) := by decide +kernel
theorem dX11_sayOne_101 : decode cX11_sayOne 101 = .ok (.iconst 0, 1) := by decide +kernel
theorem dX11_sayOne_102 : decode cX11_sayOne 102 = .ok (.istore_n 2, 1) := by decide +kernel
theorem dX11_sayOne_103 : decode cX11_sayOne 103 = .ok (.iload_n 2, 1) := by decide +kernel
theorem dX11_sayOne_104 : decode cX11_sayOne 104 = .ok (.aload_n 0, 1) := by decide +kernel
theorem dX11_sayOne_105 : decode cX11_sayOne 105 = .ok (.getfield 56, 3) := by decide +kernel
theorem dX11_sayOne_108 : decode cX11_sayOne 108 = .ok (.iload_n 1, 1) := by decide +kernel
theorem dX11_sayOne_109 : decode cX11_sayOne 109 = .ok (.iaload, 1) := by decide +kernel
theorem dX11_sayOne_110 : decode cX11_sayOne 110 = .ok (.if_icmp .ge 24, 3) := by decide +kernel
theorem dX11_sayOne_113 : decode cX11_sayOne 113 = .ok (.aload_n 0, 1) := by decide +kernel
theorem dX11_sayOne_114 : decode cX11_sayOne 114 = .ok (.aload_n 0, 1) := by decide +kernel
theorem dX11_sayOne_115 : decode cX11_sayOne 115 = .ok (.getfield 59, 3) := by decide +kernel
theorem dX11_sayOne_118 : decode cX11_sayOne 118 = .ok (.bipush 12, 2) := by decide +kernel
theorem dX11_sayOne_120 : decode cX11_sayOne 120 = .ok (.iload_n 1, 1) := by decide +kernel
theorem dX11_sayOne_121 : decode cX11_sayOne 121 = .ok (.imul, 1) := by decide +kernel
theorem dX11_sayOne_122 : decode cX11_sayOne 122 = .ok (.iload_n 2, 1) := by decide +kernel
theorem dX11_sayOne_123 : decode cX11_sayOne 123 = .ok (.iadd, 1) := by decide +kernel
theorem dX11_sayOne_124 : decode cX11_sayOne 124 = .ok (.caload, 1) := by decide +kernel
theorem dX11_sayOne_125 : decode cX11_sayOne 125 = .ok (.invokevirtual 230, 3) := by decide +kernel
theorem dX11_sayOne_128 : decode cX11_sayOne 128 = .ok (.iinc 2 1, 3) := by decide +kernel
theorem dX11_sayOne_131 : decode cX11_sayOne 131 = .ok (.goto (-28), 3) := by decide +kernel
theorem dX11_sayOne_134 : decode cX11_sayOne 134 = .ok (.return_, 1) := by decide +kernel
set_option maxRecDepth 20000 in
theorem ggX11_sayAll_X11_sayOne : GoodIn wsX11_sayAll wsX11_sayOne := goodIn_r _ [8, 2, 9, 10, 11, 12, 13, 14, 15, 3, 16, 17, 18, 19, 7, 20, 21, 22, 23, 24, 25, 26, 1, 27, 28, 29, 30, 31, 32, 33, 34, 35, 39, 40, 41, 42, 43, 44, 45, 46, 47, 48, 49, 50, 51, 52, 53, 54, 55, 56, 57, 58, 59, 60, 61, 62, 63, 64, 65, 66] (by decide +kernel) (by decide +kernel)
set_option maxRecDepth 20000 in
theorem gX11_sayAll_X11_sayOne : GoodIn wsX11_sayAll (wsV RX11 261 RX11 yX11_sayOne wsX11_sayOne) := goodIn_app (goodIn_of _ (by decide +kernel)) ggX11_sayAll_X11_sayOne
set_option maxRecDepth 20000 in
theorem ggX11_sayAll_X11_itemOf : GoodIn wsX11_sayAll wsX11_itemOf := goodIn_r _ [38] (by decide +kernel) (by decide +kernel)
set_option maxRecDepth 20000 in
theorem gX11_sayAll_X11_itemOf : GoodIn wsX11_sayAll (va_wsS RX11 224 yX11_itemOf wsX11_itemOf) := goodIn_app (goodIn_of _ (by decide +kernel)) ggX11_sayAll_X11_itemOf
set_option maxRecDepth 20000 in
theorem ggX11_sayAll_X11_say : GoodIn wsX11_sayAll wsX11_say := goodIn_r _ [25, 26, 1, 39, 40, 41, 42, 43, 44, 45, 46, 47, 48, 49, 50, 51, 52, 53, 54, 55, 56, 57, 58, 59, 60, 61, 62, 63, 64, 65, 66] (by decide +kernel) (by decide +kernel)
set_option maxRecDepth 20000 in
theorem gX11_sayAll_X11_say : GoodIn wsX11_sayAll (wsV RX11 230 RX11 yX11_say wsX11_say) := goodIn_app (goodIn_of _ (by decide +kernel)) ggX11_sayAll_X11_say
theorem dX11_sayAll_0 : decode cX11_sayAll 0 = .ok (.aload_n 0, 1) := by decide +kernel
theorem dX11_sayAll_1 : decode cX11_sayAll 1 = .ok (.iconst 0, 1) := by decide +kernel
theorem dX11_sayAll_2 : decode cX11_sayAll 2 = .ok (.putfield 227, 3) := by decide +kernel
theorem dX11_sayAll_5 : decode cX11_sayAll 5 = .ok (.aload_n 0, 1) := by decide +kernel
theorem dX11_sayAll_6 : decode cX11_sayAll 6 = .ok (.getfield 46, 3) := by decide +kernel
theorem dX11_sayAll_9 : decode cX11_sayAll 9 = .ok (.iload_n 1, 1) := by decide +kernel
theorem dX11_sayAll_10 : decode cX11_sayAll 10 = .ok (.iaload, 1) := by decide +kernel
theorem dX11_sayAll_11 : decode cX11_sayAll 11 = .ok (.iconst 5, 1) := by decide +kernel
theorem dX11_sayAll_12 : decode cX11_sayAll 12 = .ok (.if_icmp .eq 9, 3) := by decide +kernel
theorem dX11_sayAll_15 : decode cX11_sayAll 15 = .ok (.aload_n 0, 1) := by decide +kernel
theorem dX11_sayAll_16 : decode cX11_sayAll 16 = .ok (.iload_n 1, 1) := by decide +kernel
theorem dX11_sayAll_17 : decode cX11_sayAll 17 = .ok (.invokevirtual 261, 3) := by decide +kernel
theorem dX11_sayAll_20 : decode cX11_sayAll 20 = .ok (.return_, 1) := by decide +kernel
theorem dX11_sayAll_21 : decode cX11_sayAll 21 = .ok (.iconst 0, 1) := by decide +kernel
theorem dX11_sayAll_22 : decode cX11_sayAll 22 = .ok (.istore_n 2, 1) := by decide +kernel
theorem dX11_sayAll_23 : decode cX11_sayAll 23 = .ok (.iload_n 2, 1) := by decide +kernel
theorem dX11_sayAll_24 : decode cX11_sayAll 24 = .ok (.aload_n 0, 1) := by decide +kernel
theorem dX11_sayAll_25 : decode cX11_sayAll 25 = .ok (.getfield 56, 3) := by decide +kernel
theorem dX11_sayAll_28 : decode cX11_sayAll 28 = .ok (.iload_n 1, 1) := by decide +kernel
theorem dX11_sayAll_29 : decode cX11_sayAll 29 = .ok (.iaload, 1) := by decide +kernel
theorem dX11_sayAll_30 : decode cX11_sayAll 30 = .ok (.if_icmp .ge 49, 3) := by decide +kernel
theorem dX11_sayAll_33 : decode cX11_sayAll 33 = .ok (.iload_n 1, 1) := by decide +kernel
theorem dX11_sayAll_34 : decode cX11_sayAll 34 = .ok (.iload_n 2, 1) := by decide +kernel
theorem dX11_sayAll_35 : decode cX11_sayAll 35 = .ok (.invokestatic 224, 3) := by decide +kernel
theorem dX11_sayAll_38 : decode cX11_sayAll 38 = .ok (.istore_n 3, 1) := by decide +kernel
theorem dX11_sayAll_39 : decode cX11_sayAll 39 = .ok (.iload_n 2, 1) := by decide +kernel
theorem dX11_sayAll_40 : decode cX11_sayAll 40 = .ok (.ifCond .le 9, 3) := by decide +kernel
theorem dX11_sayAll_43 : decode cX11_sayAll 43 = .ok (.aload_n 0, 1) := by decide +kernel
theorem dX11_sayAll_44 : decode cX11_sayAll 44 = .ok (.bipush 44, 2) := by decide +kernel
theorem dX11_sayAll_46 : decode cX11_sayAll 46 = .ok (.invokevirtual 230, 3) := by decide +kernel
theorem dX11_sayAll_49 : decode cX11_sayAll 49 = .ok (.aload_n 0, 1) := by decide +kernel
theorem dX11_sayAll_50 : decode cX11_sayAll 50 = .ok (.getfield 46, 3) := by decide +kernel
theorem dX11_sayAll_53 : decode cX11_sayAll 53 = .ok (.iload_n 3, 1) := by decide +kernel
theorem dX11_sayAll_54 : decode cX11_sayAll 54 = .ok (.iaload, 1) := by decide +kernel
theorem dX11_sayAll_55 : decode cX11_sayAll 55 = .ok (.ifCond .eq 18, 3) := by decide +kernel
theorem dX11_sayAll_58 : decode cX11_sayAll 58 = .ok (.aload_n 0, 1) := by decide +kernel
theorem dX11_sayAll_59 : decode cX11_sayAll 59 = .ok (.getfield 46, 3) := by decide +kernel
theorem dX11_sayAll_62 : decode cX11_sayAll 62 = .ok (.iload_n 3, 1) := by decide +kernel
theorem dX11_sayAll_63 : decode cX11_sayAll 63 = .ok (.iaload, 1) := by decide +kernel
theorem dX11_sayAll_64 : decode cX11_sayAll 64 = .ok (.iconst 1, 1) := by decide +kernel
theorem dX11_sayAll_65 : decode cX11_sayAll 65 = .ok (.if_icmp .eq 8, 3) := by decide +kernel
theorem dX11_sayAll_68 : decode cX11_sayAll 68 = .ok (.aload_n 0, 1) := by decide +kernel
theorem dX11_sayAll_69 : decode cX11_sayAll 69 = .ok (.iload_n 3, 1) := by decide +kernel
theorem dX11_sayAll_70 : decode cX11_sayAll 70 = .ok (.invokevirtual 261, 3) := by decide +kernel
theorem dX11_sayAll_73 : decode cX11_sayAll 73 = .ok (.iinc 2 1, 3) := by decide +kernel
theorem dX11_sayAll_76 : decode cX11_sayAll 76 = .ok (.goto (-53), 3) := by decide +kernel
theorem dX11_sayAll_79 : decode cX11_sayAll 79 = .ok (.return_, 1) := by decide +kernel
theorem dX11_digitOf_0 : decode cX11_digitOf 0 = .ok (.iload_n 0, 1) := by decide +kernel
theorem dX11_digitOf_1 : decode cX11_digitOf 1 = .ok (.bipush 48, 2) := by decide +kernel
theorem dX11_digitOf_3 : decode cX11_digitOf 3 = .ok (.if_icmp .lt 16, 3) := by decide +kernel
theorem dX11_digitOf_6 : decode cX11_digitOf 6 = .ok (.iload_n 0, 1) := by decide +kernel
theorem dX11_digitOf_7 : decode cX11_digitOf 7 = .ok (.bipush 57, 2) := by decide +kernel
theorem dX11_digitOf_9 : decode cX11_digitOf 9 = .ok (.if_icmp .gt 10, 3) := by decide +kernel
theorem dX11_digitOf_12 : decode cX11_digitOf 12 = .ok (.iload_n 0, 1) := by decide +kernel
theorem dX11_digitOf_13 : decode cX11_digitOf 13 = .ok (.bipush 48, 2) := by decide +kernel
theorem dX11_digitOf_15 : decode cX11_digitOf 15 = .ok (.isub, 1) := by decide +kernel
theorem dX11_digitOf_16 : decode cX11_digitOf 16 = .ok (.goto 49, 3) := by decide +kernel
theorem dX11_digitOf_19 : decode cX11_digitOf 19 = .ok (.iload_n 0, 1) := by decide +kernel
theorem dX11_digitOf_20 : decode cX11_digitOf 20 = .ok (.bipush 97, 2) := by decide +kernel
theorem dX11_digitOf_22 : decode cX11_digitOf 22 = .ok (.if_icmp .lt 19, 3) := by decide +kernel
theorem dX11_digitOf_25 : decode cX11_digitOf 25 = .ok (.iload_n 0, 1) := by decide +kernel
theorem dX11_digitOf_26 : decode cX11_digitOf 26 = .ok (.bipush 102, 2) := by decide +kernel
theorem dX11_digitOf_28 : decode cX11_digitOf 28 = .ok (.if_icmp .gt 13, 3) := by decide +kernel
theorem dX11_digitOf_31 : decode cX11_digitOf 31 = .ok (.iload_n 0, 1) := by decide +kernel
theorem dX11_digitOf_32 : decode cX11_digitOf 32 = .ok (.bipush 97, 2) := by decide +kernel
theorem dX11_digitOf_34 : decode cX11_digitOf 34 = .ok (.isub, 1) := by decide +kernel
theorem dX11_digitOf_35 : decode cX11_digitOf 35 = .ok (.bipush 10, 2) := by decide +kernel
theorem dX11_digitOf_37 : decode cX11_digitOf 37 = .ok (.iadd, 1) := by decide +kernel
theorem dX11_digitOf_38 : decode cX11_digitOf 38 = .ok (.goto 27, 3) := by decide +kernel
theorem dX11_digitOf_41 : decode cX11_digitOf 41 = .ok (.iload_n 0, 1) := by decide +kernel
theorem dX11_digitOf_42 : decode cX11_digitOf 42 = .ok (.bipush 65, 2) := by decide +kernel
theorem dX11_digitOf_44 : decode cX11_digitOf 44 = .ok (.if_icmp .lt 19, 3) := by decide +kernel
theorem dX11_digitOf_47 : decode cX11_digitOf 47 = .ok (.iload_n 0, 1) := by decide +kernel
theorem dX11_digitOf_48 : decode cX11_digitOf 48 = .ok (.bipush 70, 2) := by decide +kernel
theorem dX11_digitOf_50 : decode cX11_digitOf 50 = .ok (.if_icmp .gt 13, 3) := by decide +kernel
theorem dX11_digitOf_53 : decode cX11_digitOf 53 = .ok (.iload_n 0, 1) := by decide +kernel
theorem dX11_digitOf_54 : decode cX11_digitOf 54 = .ok (.bipush 65, 2) := by decide +kernel
theorem dX11_digitOf_56 : decode cX11_digitOf 56 = .ok (.isub, 1) := by decide +kernel
theorem dX11_digitOf_57 : decode cX11_digitOf 57 = .ok (.bipush 10, 2) := by decide +kernel
theorem dX11_digitOf_59 : decode cX11_digitOf 59 = .ok (.iadd, 1) := by decide +kernel
theorem dX11_digitOf_60 : decode cX11_digitOf 60 = .ok (.goto 5, 3) := by decide +kernel
theorem dX11_digitOf_63 : decode cX11_digitOf 63 = .ok (.bipush 99, 2) := by decide +kernel
theorem dX11_digitOf_65 : decode cX11_digitOf 65 = .ok (.ireturn, 1) := by decide +kernel
set_option maxRecDepth 20000 in
theorem ggX11_numberOfSaid_X11_hexadecimal : GoodIn wsX11_numberOfSaid wsX11_hexadecimal := goodIn_r _ [9, 3, 2, 10, 11, 12, 8, 13, 14, 15, 16, 17, 18, 19, 20, 21, 22, 23, 24, 25, 26, 27, 28, 29, 30, 31, 32, 33, 34, 35, 36, 37, 38, 39, 40, 41] (by decide +kernel) (by decide +kernel)
set_option maxRecDepth 20000 in
theorem gX11_numberOfSaid_X11_hexadecimal : GoodIn wsX11_numberOfSaid (wsV RX11 267 RX11 yX11_hexadecimal wsX11_hexadecimal) := goodIn_app (goodIn_of _ (by decide +kernel)) ggX11_numberOfSaid_X11_hexadecimal
set_option maxRecDepth 20000 in
theorem ggX11_numberOfSaid_X11_digitOf : GoodIn wsX11_numberOfSaid wsX11_digitOf := goodIn_r _ [13] (by decide +kernel) (by decide +kernel)
set_option maxRecDepth 20000 in
theorem gX11_numberOfSaid_X11_digitOf : GoodIn wsX11_numberOfSaid (va_wsS RX11 271 yX11_digitOf wsX11_digitOf) := goodIn_app (goodIn_of _ (by decide +kernel)) ggX11_numberOfSaid_X11_digitOf
theorem dX11_numberOfSaid_0 : decode cX11_numberOfSaid 0 = .ok (.iconst 0, 1) := by decide +kernel
theorem dX11_numberOfSaid_1 : decode cX11_numberOfSaid 1 = .ok (.istore_n 1, 1) := by decide +kernel
theorem dX11_numberOfSaid_2 : decode cX11_numberOfSaid 2 = .ok (.aload_n 0, 1) := by decide +kernel
theorem dX11_numberOfSaid_3 : decode cX11_numberOfSaid 3 = .ok (.getfield 227, 3) := by decide +kernel
theorem dX11_numberOfSaid_6 : decode cX11_numberOfSaid 6 = .ok (.istore_n 2, 1) := by decide +kernel
theorem dX11_numberOfSaid_7 : decode cX11_numberOfSaid 7 = .ok (.iload_n 1, 1) := by decide +kernel
theorem dX11_numberOfSaid_8 : decode cX11_numberOfSaid 8 = .ok (.iload_n 2, 1) := by decide +kernel
theorem dX11_numberOfSaid_9 : decode cX11_numberOfSaid 9 = .ok (.if_icmp .ge 20, 3) := by decide +kernel
theorem dX11_numberOfSaid_12 : decode cX11_numberOfSaid 12 = .ok (.aload_n 0, 1) := by decide +kernel
theorem dX11_numberOfSaid_13 : decode cX11_numberOfSaid 13 = .ok (.getfield 75, 3) := by decide +kernel
theorem dX11_numberOfSaid_16 : decode cX11_numberOfSaid 16 = .ok (.iload_n 1, 1) := by decide +kernel
theorem dX11_numberOfSaid_17 : decode cX11_numberOfSaid 17 = .ok (.caload, 1) := by decide +kernel
theorem dX11_numberOfSaid_18 : decode cX11_numberOfSaid 18 = .ok (.bipush 32, 2) := by decide +kernel
theorem dX11_numberOfSaid_20 : decode cX11_numberOfSaid 20 = .ok (.if_icmp .ne 9, 3) := by decide +kernel
theorem dX11_numberOfSaid_23 : decode cX11_numberOfSaid 23 = .ok (.iinc 1 1, 3) := by decide +kernel
theorem dX11_numberOfSaid_26 : decode cX11_numberOfSaid 26 = .ok (.goto (-19), 3) := by decide +kernel
theorem dX11_numberOfSaid_29 : decode cX11_numberOfSaid 29 = .ok (.iload_n 1, 1) := by decide +kernel
theorem dX11_numberOfSaid_30 : decode cX11_numberOfSaid 30 = .ok (.iload_n 2, 1) := by decide +kernel
theorem dX11_numberOfSaid_31 : decode cX11_numberOfSaid 31 = .ok (.if_icmp .ge 22, 3) := by decide +kernel
theorem dX11_numberOfSaid_34 : decode cX11_numberOfSaid 34 = .ok (.aload_n 0, 1) := by decide +kernel
theorem dX11_numberOfSaid_35 : decode cX11_numberOfSaid 35 = .ok (.getfield 75, 3) := by decide +kernel
theorem dX11_numberOfSaid_38 : decode cX11_numberOfSaid 38 = .ok (.iload_n 2, 1) := by decide +kernel
theorem dX11_numberOfSaid_39 : decode cX11_numberOfSaid 39 = .ok (.iconst 1, 1) := by decide +kernel
theorem dX11_numberOfSaid_40 : decode cX11_numberOfSaid 40 = .ok (.isub, 1) := by decide +kernel
theorem dX11_numberOfSaid_41 : decode cX11_numberOfSaid 41 = .ok (.caload, 1) := by decide +kernel
theorem dX11_numberOfSaid_42 : decode cX11_numberOfSaid 42 = .ok (.bipush 32, 2) := by decide +kernel
theorem dX11_numberOfSaid_44 : decode cX11_numberOfSaid 44 = .ok (.if_icmp .ne 9, 3) := by decide +kernel
theorem dX11_numberOfSaid_47 : decode cX11_numberOfSaid 47 = .ok (.iinc 2 (-1), 3) := by decide +kernel
theorem dX11_numberOfSaid_50 : decode cX11_numberOfSaid 50 = .ok (.goto (-21), 3) := by decide +kernel
theorem dX11_numberOfSaid_53 : decode cX11_numberOfSaid 53 = .ok (.aload_n 0, 1) := by decide +kernel
theorem dX11_numberOfSaid_54 : decode cX11_numberOfSaid 54 = .ok (.iconst 1, 1) := by decide +kernel
theorem dX11_numberOfSaid_55 : decode cX11_numberOfSaid 55 = .ok (.putfield 264, 3) := by decide +kernel
theorem dX11_numberOfSaid_58 : decode cX11_numberOfSaid 58 = .ok (.iload_n 1, 1) := by decide +kernel
theorem dX11_numberOfSaid_59 : decode cX11_numberOfSaid 59 = .ok (.iload_n 2, 1) := by decide +kernel
theorem dX11_numberOfSaid_60 : decode cX11_numberOfSaid 60 = .ok (.if_icmp .ne 5, 3) := by decide +kernel
theorem dX11_numberOfSaid_63 : decode cX11_numberOfSaid 63 = .ok (.dconst 0, 1) := by decide +kernel
theorem dX11_numberOfSaid_64 : decode cX11_numberOfSaid 64 = .ok (.dreturn, 1) := by decide +kernel
theorem dX11_numberOfSaid_65 : decode cX11_numberOfSaid 65 = .ok (.iload_n 2, 1) := by decide +kernel
theorem dX11_numberOfSaid_66 : decode cX11_numberOfSaid 66 = .ok (.iload_n 1, 1) := by decide +kernel
theorem dX11_numberOfSaid_67 : decode cX11_numberOfSaid 67 = .ok (.isub, 1) := by decide +kernel
theorem dX11_numberOfSaid_68 : decode cX11_numberOfSaid 68 = .ok (.iconst 2, 1) := by decide +kernel
theorem dX11_numberOfSaid_69 : decode cX11_numberOfSaid 69 = .ok (.if_icmp .le 36, 3) := by decide +kernel
theorem dX11_numberOfSaid_72 : decode cX11_numberOfSaid 72 = .ok (.aload_n 0, 1) := by decide +kernel
theorem dX11_numberOfSaid_73 : decode cX11_numberOfSaid 73 = .ok (.getfield 75, 3) := by decide +kernel
theorem dX11_numberOfSaid_76 : decode cX11_numberOfSaid 76 = .ok (.iload_n 1, 1) := by decide +kernel
theorem dX11_numberOfSaid_77 : decode cX11_numberOfSaid 77 = .ok (.caload, 1) := by decide +kernel
theorem dX11_numberOfSaid_78 : decode cX11_numberOfSaid 78 = .ok (.bipush 48, 2) := by decide +kernel
theorem dX11_numberOfSaid_80 : decode cX11_numberOfSaid 80 = .ok (.if_icmp .ne 25, 3) := by decide +kernel
theorem dX11_numberOfSaid_83 : decode cX11_numberOfSaid 83 = .ok (.aload_n 0, 1) := by decide +kernel
theorem dX11_numberOfSaid_84 : decode cX11_numberOfSaid 84 = .ok (.getfield 75, 3) := by decide +kernel
theorem dX11_numberOfSaid_87 : decode cX11_numberOfSaid 87 = .ok (.iload_n 1, 1) := by decide +kernel
theorem dX11_numberOfSaid_88 : decode cX11_numberOfSaid 88 = .ok (.iconst 1, 1) := by decide +kernel
theorem dX11_numberOfSaid_89 : decode cX11_numberOfSaid 89 = .ok (.iadd, 1) := by decide +kernel
theorem dX11_numberOfSaid_90 : decode cX11_numberOfSaid 90 = .ok (.caload, 1) := by decide +kernel
theorem dX11_numberOfSaid_91 : decode cX11_numberOfSaid 91 = .ok (.bipush 120, 2) := by decide +kernel
theorem dX11_numberOfSaid_93 : decode cX11_numberOfSaid 93 = .ok (.if_icmp .ne 12, 3) := by decide +kernel
theorem dX11_numberOfSaid_96 : decode cX11_numberOfSaid 96 = .ok (.aload_n 0, 1) := by decide +kernel
theorem dX11_numberOfSaid_97 : decode cX11_numberOfSaid 97 = .ok (.iload_n 1, 1) := by decide +kernel
theorem dX11_numberOfSaid_98 : decode cX11_numberOfSaid 98 = .ok (.iconst 2, 1) := by decide +kernel
theorem dX11_numberOfSaid_99 : decode cX11_numberOfSaid 99 = .ok (.iadd, 1) := by decide +kernel
theorem dX11_numberOfSaid_100 : decode cX11_numberOfSaid 100 = .ok (.iload_n 2, 1) := by decide +kernel
theorem dX11_numberOfSaid_101 : decode cX11_numberOfSaid 101 = .ok (.invokevirtual 267, 3) := by decide +kernel
theorem dX11_numberOfSaid_104 : decode cX11_numberOfSaid 104 = .ok (.dreturn, 1) := by decide +kernel
theorem dX11_numberOfSaid_105 : decode cX11_numberOfSaid 105 = .ok (.aload_n 0, 1) := by decide +kernel
theorem dX11_numberOfSaid_106 : decode cX11_numberOfSaid 106 = .ok (.getfield 75, 3) := by decide +kernel
theorem dX11_numberOfSaid_109 : decode cX11_numberOfSaid 109 = .ok (.iload_n 1, 1) := by decide +kernel
theorem dX11_numberOfSaid_110 : decode cX11_numberOfSaid 110 = .ok (.caload, 1) := by decide +kernel
theorem dX11_numberOfSaid_111 : decode cX11_numberOfSaid 111 = .ok (.bipush 45, 2) := by decide +kernel
theorem dX11_numberOfSaid_113 : decode cX11_numberOfSaid 113 = .ok (.if_icmp .ne 7, 3) := by decide +kernel
theorem dX11_numberOfSaid_116 : decode cX11_numberOfSaid 116 = .ok (.iconst 1, 1) := by decide +kernel
theorem dX11_numberOfSaid_117 : decode cX11_numberOfSaid 117 = .ok (.goto 4, 3) := by decide +kernel
theorem dX11_numberOfSaid_120 : decode cX11_numberOfSaid 120 = .ok (.iconst 0, 1) := by decide +kernel
theorem dX11_numberOfSaid_121 : decode cX11_numberOfSaid 121 = .ok (.istore_n 3, 1) := by decide +kernel
theorem dX11_numberOfSaid_122 : decode cX11_numberOfSaid 122 = .ok (.iload_n 3, 1) := by decide +kernel
theorem dX11_numberOfSaid_123 : decode cX11_numberOfSaid 123 = .ok (.ifCond .ne 14, 3) := by decide +kernel
theorem dX11_numberOfSaid_126 : decode cX11_numberOfSaid 126 = .ok (.aload_n 0, 1) := by decide +kernel
theorem dX11_numberOfSaid_127 : decode cX11_numberOfSaid 127 = .ok (.getfield 75, 3) := by decide +kernel
theorem dX11_numberOfSaid_130 : decode cX11_numberOfSaid 130 = .ok (.iload_n 1, 1) := by decide +kernel
theorem dX11_numberOfSaid_131 : decode cX11_numberOfSaid 131 = .ok (.caload, 1) := by decide +kernel
theorem dX11_numberOfSaid_132 : decode cX11_numberOfSaid 132 = .ok (.bipush 43, 2) := by decide +kernel
theorem dX11_numberOfSaid_134 : decode cX11_numberOfSaid 134 = .ok (.if_icmp .ne 9, 3) := by decide +kernel
theorem dX11_numberOfSaid_137 : decode cX11_numberOfSaid 137 = .ok (.iload_n 1, 1) := by decide +kernel
theorem dX11_numberOfSaid_138 : decode cX11_numberOfSaid 138 = .ok (.iconst 1, 1) := by decide +kernel
theorem dX11_numberOfSaid_139 : decode cX11_numberOfSaid 139 = .ok (.iadd, 1) := by decide +kernel
theorem dX11_numberOfSaid_140 : decode cX11_numberOfSaid 140 = .ok (.goto 4, 3) := by decide +kernel
theorem dX11_numberOfSaid_143 : decode cX11_numberOfSaid 143 = .ok (.iload_n 1, 1) := by decide +kernel
theorem dX11_numberOfSaid_144 : decode cX11_numberOfSaid 144 = .ok (.istore 4, 2) := by decide +kernel
theorem dX11_numberOfSaid_146 : decode cX11_numberOfSaid 146 = .ok (.lconst 0, 1) := by decide +kernel
theorem dX11_numberOfSaid_147 : decode cX11_numberOfSaid 147 = .ok (.lstore 5, 2) := by decide +kernel
theorem dX11_numberOfSaid_149 : decode cX11_numberOfSaid 149 = .ok (.lconst 1, 1) := by decide +kernel
theorem dX11_numberOfSaid_150 : decode cX11_numberOfSaid 150 = .ok (.lstore 7, 2) := by decide +kernel
theorem dX11_numberOfSaid_152 : decode cX11_numberOfSaid 152 = .ok (.iconst (-1), 1) := by decide +kernel
theorem dX11_numberOfSaid_153 : decode cX11_numberOfSaid 153 = .ok (.istore 9, 2) := by decide +kernel
theorem dX11_numberOfSaid_155 : decode cX11_numberOfSaid 155 = .ok (.iconst (-1), 1) := by decide +kernel
theorem dX11_numberOfSaid_156 : decode cX11_numberOfSaid 156 = .ok (.istore 10, 2) := by decide +kernel
theorem dX11_numberOfSaid_158 : decode cX11_numberOfSaid 158 = .ok (.iload 4, 2) := by decide +kernel
theorem dX11_numberOfSaid_160 : decode cX11_numberOfSaid 160 = .ok (.istore 11, 2) := by decide +kernel
theorem dX11_numberOfSaid_162 : decode cX11_numberOfSaid 162 = .ok (.iload 11, 2) := by decide +kernel
theorem dX11_numberOfSaid_164 : decode cX11_numberOfSaid 164 = .ok (.iload_n 2, 1) := by decide +kernel
theorem dX11_numberOfSaid_165 : decode cX11_numberOfSaid 165 = .ok (.if_icmp .ge 91, 3) := by decide +kernel
theorem dX11_numberOfSaid_168 : decode cX11_numberOfSaid 168 = .ok (.aload_n 0, 1) := by decide +kernel
theorem dX11_numberOfSaid_169 : decode cX11_numberOfSaid 169 = .ok (.getfield 75, 3) := by decide +kernel
theorem dX11_numberOfSaid_172 : decode cX11_numberOfSaid 172 = .ok (.iload 11, 2) := by decide +kernel
theorem dX11_numberOfSaid_174 : decode cX11_numberOfSaid 174 = .ok (.caload, 1) := by decide +kernel
theorem dX11_numberOfSaid_175 : decode cX11_numberOfSaid 175 = .ok (.istore 12, 2) := by decide +kernel
theorem dX11_numberOfSaid_177 : decode cX11_numberOfSaid 177 = .ok (.iload 12, 2) := by decide +kernel
theorem dX11_numberOfSaid_179 : decode cX11_numberOfSaid 179 = .ok (.bipush 46, 2) := by decide +kernel
theorem dX11_numberOfSaid_181 : decode cX11_numberOfSaid 181 = .ok (.if_icmp .ne 15, 3) := by decide +kernel
theorem dX11_numberOfSaid_184 : decode cX11_numberOfSaid 184 = .ok (.iload 9, 2) := by decide +kernel
theorem dX11_numberOfSaid_186 : decode cX11_numberOfSaid 186 = .ok (.ifCond .ge 10, 3) := by decide +kernel
theorem dX11_numberOfSaid_189 : decode cX11_numberOfSaid 189 = .ok (.iload 11, 2) := by decide +kernel
theorem dX11_numberOfSaid_191 : decode cX11_numberOfSaid 191 = .ok (.istore 9, 2) := by decide +kernel
theorem dX11_numberOfSaid_193 : decode cX11_numberOfSaid 193 = .ok (.goto 57, 3) := by decide +kernel
theorem dX11_numberOfSaid_196 : decode cX11_numberOfSaid 196 = .ok (.iload 12, 2) := by decide +kernel
theorem dX11_numberOfSaid_198 : decode cX11_numberOfSaid 198 = .ok (.invokestatic 271, 3) := by decide +kernel
theorem dX11_numberOfSaid_201 : decode cX11_numberOfSaid 201 = .ok (.bipush 9, 2) := by decide +kernel
theorem dX11_numberOfSaid_203 : decode cX11_numberOfSaid 203 = .ok (.if_icmp .le 10, 3) := by decide +kernel
theorem dX11_numberOfSaid_206 : decode cX11_numberOfSaid 206 = .ok (.aload_n 0, 1) := by decide +kernel
theorem dX11_numberOfSaid_207 : decode cX11_numberOfSaid 207 = .ok (.iconst 0, 1) := by decide +kernel
theorem dX11_numberOfSaid_208 : decode cX11_numberOfSaid 208 = .ok (.putfield 264, 3) := by decide +kernel
theorem dX11_numberOfSaid_211 : decode cX11_numberOfSaid 211 = .ok (.dconst 0, 1) := by decide +kernel
theorem dX11_numberOfSaid_212 : decode cX11_numberOfSaid 212 = .ok (.dreturn, 1) := by decide +kernel
theorem dX11_numberOfSaid_213 : decode cX11_numberOfSaid 213 = .ok (.ldc2_w 235, 3) := by decide +kernel
theorem dX11_numberOfSaid_216 : decode cX11_numberOfSaid 216 = .ok (.lload 5, 2) := by decide +kernel
theorem dX11_numberOfSaid_218 : decode cX11_numberOfSaid 218 = .ok (.lmul, 1) := by decide +kernel
theorem dX11_numberOfSaid_219 : decode cX11_numberOfSaid 219 = .ok (.iload 12, 2) := by decide +kernel
theorem dX11_numberOfSaid_221 : decode cX11_numberOfSaid 221 = .ok (.invokestatic 271, 3) := by decide +kernel
theorem dX11_numberOfSaid_224 : decode cX11_numberOfSaid 224 = .ok (.i2l, 1) := by decide +kernel
theorem dX11_numberOfSaid_225 : decode cX11_numberOfSaid 225 = .ok (.ladd, 1) := by decide +kernel
theorem dX11_numberOfSaid_226 : decode cX11_numberOfSaid 226 = .ok (.lstore 5, 2) := by decide +kernel
theorem dX11_numberOfSaid_228 : decode cX11_numberOfSaid 228 = .ok (.iload 9, 2) := by decide +kernel
theorem dX11_numberOfSaid_230 : decode cX11_numberOfSaid 230 = .ok (.ifCond .lt 12, 3) := by decide +kernel
theorem dX11_numberOfSaid_233 : decode cX11_numberOfSaid 233 = .ok (.ldc2_w 235, 3) := by decide +kernel
theorem dX11_numberOfSaid_236 : decode cX11_numberOfSaid 236 = .ok (.lload 7, 2) := by decide +kernel
theorem dX11_numberOfSaid_238 : decode cX11_numberOfSaid 238 = .ok (.lmul, 1) := by decide +kernel
theorem dX11_numberOfSaid_239 : decode cX11_numberOfSaid 239 = .ok (.goto 5, 3) := by decide +kernel
theorem dX11_numberOfSaid_242 : decode cX11_numberOfSaid 242 = .ok (.lload 7, 2) := by decide +kernel
theorem dX11_numberOfSaid_244 : decode cX11_numberOfSaid 244 = .ok (.lstore 7, 2) := by decide +kernel
theorem dX11_numberOfSaid_246 : decode cX11_numberOfSaid 246 = .ok (.iload 11, 2) := by decide +kernel
theorem dX11_numberOfSaid_248 : decode cX11_numberOfSaid 248 = .ok (.istore 10, 2) := by decide +kernel
theorem dX11_numberOfSaid_250 : decode cX11_numberOfSaid 250 = .ok (.iinc 11 1, 3) := by decide +kernel
theorem dX11_numberOfSaid_253 : decode cX11_numberOfSaid 253 = .ok (.goto (-91), 3) := by decide +kernel
theorem dX11_numberOfSaid_256 : decode cX11_numberOfSaid 256 = .ok (.iload 10, 2) := by decide +kernel
theorem dX11_numberOfSaid_258 : decode cX11_numberOfSaid 258 = .ok (.ifCond .lt 23, 3) := by decide +kernel
theorem dX11_numberOfSaid_261 : decode cX11_numberOfSaid 261 = .ok (.iload 9, 2) := by decide +kernel
theorem dX11_numberOfSaid_263 : decode cX11_numberOfSaid 263 = .ok (.ifCond .lt 25, 3) := by decide +kernel
theorem dX11_numberOfSaid_266 : decode cX11_numberOfSaid 266 = .ok (.iload 9, 2) := by decide +kernel
theorem dX11_numberOfSaid_268 : decode cX11_numberOfSaid 268 = .ok (.iload 4, 2) := by decide +kernel
theorem dX11_numberOfSaid_270 : decode cX11_numberOfSaid 270 = .ok (.if_icmp .eq 11, 3) := by decide +kernel
theorem dX11_numberOfSaid_273 : decode cX11_numberOfSaid 273 = .ok (.iload 9, 2) := by decide +kernel
theorem dX11_numberOfSaid_275 : decode cX11_numberOfSaid 275 = .ok (.iload_n 2, 1) := by decide +kernel
theorem dX11_numberOfSaid_276 : decode cX11_numberOfSaid 276 = .ok (.iconst 1, 1) := by decide +kernel
theorem dX11_numberOfSaid_277 : decode cX11_numberOfSaid 277 = .ok (.isub, 1) := by decide +kernel
theorem dX11_numberOfSaid_278 : decode cX11_numberOfSaid 278 = .ok (.if_icmp .ne 10, 3) := by decide +kernel
theorem dX11_numberOfSaid_281 : decode cX11_numberOfSaid 281 = .ok (.aload_n 0, 1) := by decide +kernel
theorem dX11_numberOfSaid_282 : decode cX11_numberOfSaid 282 = .ok (.iconst 0, 1) := by decide +kernel
theorem dX11_numberOfSaid_283 : decode cX11_numberOfSaid 283 = .ok (.putfield 264, 3) := by decide +kernel
theorem dX11_numberOfSaid_286 : decode cX11_numberOfSaid 286 = .ok (.dconst 0, 1) := by decide +kernel
theorem dX11_numberOfSaid_287 : decode cX11_numberOfSaid 287 = .ok (.dreturn, 1) := by decide +kernel
theorem dX11_numberOfSaid_288 : decode cX11_numberOfSaid 288 = .ok (.lload 5, 2) := by decide +kernel
theorem dX11_numberOfSaid_290 : decode cX11_numberOfSaid 290 = .ok (.l2d, 1) := by decide +kernel
theorem dX11_numberOfSaid_291 : decode cX11_numberOfSaid 291 = .ok (.lload 7, 2) := by decide +kernel
theorem dX11_numberOfSaid_293 : decode cX11_numberOfSaid 293 = .ok (.l2d, 1) := by decide +kernel
theorem dX11_numberOfSaid_294 : decode cX11_numberOfSaid 294 = .ok (.ddiv, 1) := by decide +kernel
theorem dX11_numberOfSaid_295 : decode cX11_numberOfSaid 295 = .ok (.dstore 11, 2) := by decide +kernel
theorem dX11_numberOfSaid_297 : decode cX11_numberOfSaid 297 = .ok (.iload_n 3, 1) := by decide +kernel
theorem dX11_numberOfSaid_298 : decode cX11_numberOfSaid 298 = .ok (.ifCond .eq 16, 3) := by decide +kernel
theorem dX11_numberOfSaid_301 : decode cX11_numberOfSaid 301 = .ok (.lload 5, 2) := by decide +kernel
theorem dX11_numberOfSaid_303 : decode cX11_numberOfSaid 303 = .ok (.lconst 0, 1) := by decide +kernel
theorem dX11_numberOfSaid_304 : decode cX11_numberOfSaid 304 = .ok (.lcmp, 1) := by decide +kernel
theorem dX11_numberOfSaid_305 : decode cX11_numberOfSaid 305 = .ok (.ifCond .le 9, 3) := by decide +kernel
theorem dX11_numberOfSaid_308 : decode cX11_numberOfSaid 308 = .ok (.dload 11, 2) := by decide +kernel
theorem dX11_numberOfSaid_310 : decode cX11_numberOfSaid 310 = .ok (.dneg, 1) := by decide +kernel
theorem dX11_numberOfSaid_311 : decode cX11_numberOfSaid 311 = .ok (.goto 5, 3) := by decide +kernel
theorem dX11_numberOfSaid_314 : decode cX11_numberOfSaid 314 = .ok (.dload 11, 2) := by decide +kernel
theorem dX11_numberOfSaid_316 : decode cX11_numberOfSaid 316 = .ok (.dreturn, 1) := by decide +kernel
set_option maxRecDepth 20000 in
theorem ggX11_hexadecimal_X11_digitOf : GoodIn wsX11_hexadecimal wsX11_digitOf := goodIn_r _ [7] (by decide +kernel) (by decide +kernel)
set_option maxRecDepth 20000 in
theorem gX11_hexadecimal_X11_digitOf : GoodIn wsX11_hexadecimal (va_wsS RX11 271 yX11_digitOf wsX11_digitOf) := goodIn_app (goodIn_of _ (by decide +kernel)) ggX11_hexadecimal_X11_digitOf
theorem dX11_hexadecimal_0 : decode cX11_hexadecimal 0 = .ok (.lconst 0, 1) := by decide +kernel
theorem dX11_hexadecimal_1 : decode cX11_hexadecimal 1 = .ok (.lstore_n 3, 1) := by decide +kernel
theorem dX11_hexadecimal_2 : decode cX11_hexadecimal 2 = .ok (.aload_n 0, 1) := by decide +kernel
theorem dX11_hexadecimal_3 : decode cX11_hexadecimal 3 = .ok (.iload_n 2, 1) := by decide +kernel
theorem dX11_hexadecimal_4 : decode cX11_hexadecimal 4 = .ok (.iload_n 1, 1) := by decide +kernel
theorem dX11_hexadecimal_5 : decode cX11_hexadecimal 5 = .ok (.isub, 1) := by decide +kernel
theorem dX11_hexadecimal_6 : decode cX11_hexadecimal 6 = .ok (.bipush 8, 2) := by decide +kernel
theorem dX11_hexadecimal_8 : decode cX11_hexadecimal 8 = .ok (.if_icmp .gt 7, 3) := by decide +kernel
theorem dX11_hexadecimal_11 : decode cX11_hexadecimal 11 = .ok (.iconst 1, 1) := by decide +kernel
theorem dX11_hexadecimal_12 : decode cX11_hexadecimal 12 = .ok (.goto 4, 3) := by decide +kernel
theorem dX11_hexadecimal_15 : decode cX11_hexadecimal 15 = .ok (.iconst 0, 1) := by decide +kernel
theorem dX11_hexadecimal_16 : decode cX11_hexadecimal 16 = .ok (.putfield 264, 3) := by decide +kernel
theorem dX11_hexadecimal_19 : decode cX11_hexadecimal 19 = .ok (.iload_n 1, 1) := by decide +kernel
theorem dX11_hexadecimal_20 : decode cX11_hexadecimal 20 = .ok (.istore 5, 2) := by decide +kernel
theorem dX11_hexadecimal_22 : decode cX11_hexadecimal 22 = .ok (.iload 5, 2) := by decide +kernel
theorem dX11_hexadecimal_24 : decode cX11_hexadecimal 24 = .ok (.iload_n 2, 1) := by decide +kernel
theorem dX11_hexadecimal_25 : decode cX11_hexadecimal 25 = .ok (.if_icmp .ge 58, 3) := by decide +kernel
theorem dX11_hexadecimal_28 : decode cX11_hexadecimal 28 = .ok (.aload_n 0, 1) := by decide +kernel
theorem dX11_hexadecimal_29 : decode cX11_hexadecimal 29 = .ok (.getfield 264, 3) := by decide +kernel
theorem dX11_hexadecimal_32 : decode cX11_hexadecimal 32 = .ok (.ifCond .eq 51, 3) := by decide +kernel
theorem dX11_hexadecimal_35 : decode cX11_hexadecimal 35 = .ok (.aload_n 0, 1) := by decide +kernel
theorem dX11_hexadecimal_36 : decode cX11_hexadecimal 36 = .ok (.aload_n 0, 1) := by decide +kernel
theorem dX11_hexadecimal_37 : decode cX11_hexadecimal 37 = .ok (.getfield 75, 3) := by decide +kernel
theorem dX11_hexadecimal_40 : decode cX11_hexadecimal 40 = .ok (.iload 5, 2) := by decide +kernel
theorem dX11_hexadecimal_42 : decode cX11_hexadecimal 42 = .ok (.caload, 1) := by decide +kernel
theorem dX11_hexadecimal_43 : decode cX11_hexadecimal 43 = .ok (.invokestatic 271, 3) := by decide +kernel
theorem dX11_hexadecimal_46 : decode cX11_hexadecimal 46 = .ok (.bipush 16, 2) := by decide +kernel
theorem dX11_hexadecimal_48 : decode cX11_hexadecimal 48 = .ok (.if_icmp .ge 7, 3) := by decide +kernel
theorem dX11_hexadecimal_51 : decode cX11_hexadecimal 51 = .ok (.iconst 1, 1) := by decide +kernel
theorem dX11_hexadecimal_52 : decode cX11_hexadecimal 52 = .ok (.goto 4, 3) := by decide +kernel
theorem dX11_hexadecimal_55 : decode cX11_hexadecimal 55 = .ok (.iconst 0, 1) := by decide +kernel
theorem dX11_hexadecimal_56 : decode cX11_hexadecimal 56 = .ok (.putfield 264, 3) := by decide +kernel
theorem dX11_hexadecimal_59 : decode cX11_hexadecimal 59 = .ok (.ldc2_w 275, 3) := by decide +kernel
theorem dX11_hexadecimal_62 : decode cX11_hexadecimal 62 = .ok (.lload_n 3, 1) := by decide +kernel
theorem dX11_hexadecimal_63 : decode cX11_hexadecimal 63 = .ok (.lmul, 1) := by decide +kernel
theorem dX11_hexadecimal_64 : decode cX11_hexadecimal 64 = .ok (.aload_n 0, 1) := by decide +kernel
theorem dX11_hexadecimal_65 : decode cX11_hexadecimal 65 = .ok (.getfield 75, 3) := by decide +kernel
theorem dX11_hexadecimal_68 : decode cX11_hexadecimal 68 = .ok (.iload 5, 2) := by decide +kernel
theorem dX11_hexadecimal_70 : decode cX11_hexadecimal 70 = .ok (.caload, 1) := by decide +kernel
theorem dX11_hexadecimal_71 : decode cX11_hexadecimal 71 = .ok (.invokestatic 271, 3) := by decide +kernel
theorem dX11_hexadecimal_74 : decode cX11_hexadecimal 74 = .ok (.i2l, 1) := by decide +kernel
theorem dX11_hexadecimal_75 : decode cX11_hexadecimal 75 = .ok (.ladd, 1) := by decide +kernel
theorem dX11_hexadecimal_76 : decode cX11_hexadecimal 76 = .ok (.lstore_n 3, 1) := by decide +kernel
theorem dX11_hexadecimal_77 : decode cX11_hexadecimal 77 = .ok (.iinc 5 1, 3) := by decide +kernel
theorem dX11_hexadecimal_80 : decode cX11_hexadecimal 80 = .ok (.goto (-58), 3) := by decide +kernel
theorem dX11_hexadecimal_83 : decode cX11_hexadecimal 83 = .ok (.aload_n 0, 1) := by decide +kernel
theorem dX11_hexadecimal_84 : decode cX11_hexadecimal 84 = .ok (.getfield 264, 3) := by decide +kernel
theorem dX11_hexadecimal_87 : decode cX11_hexadecimal 87 = .ok (.ifCond .eq 8, 3) := by decide +kernel
theorem dX11_hexadecimal_90 : decode cX11_hexadecimal 90 = .ok (.lload_n 3, 1) := by decide +kernel
theorem dX11_hexadecimal_91 : decode cX11_hexadecimal 91 = .ok (.l2d, 1) := by decide +kernel
theorem dX11_hexadecimal_92 : decode cX11_hexadecimal 92 = .ok (.goto 4, 3) := by decide +kernel
theorem dX11_hexadecimal_95 : decode cX11_hexadecimal 95 = .ok (.dconst 0, 1) := by decide +kernel
theorem dX11_hexadecimal_96 : decode cX11_hexadecimal 96 = .ok (.dreturn, 1) := by decide +kernel
set_option maxRecDepth 20000 in
theorem ggX11_numberOf_X11_sayAll : GoodIn wsX11_numberOf wsX11_sayAll := goodIn_r _ [9, 10, 2, 11, 12, 13, 14, 8, 15, 16, 17, 18, 3, 19, 20, 4, 21, 22, 23, 24, 25, 26, 27, 28, 29, 30, 31, 32, 33, 34, 35, 36, 37, 38, 39, 40, 41, 42, 43, 56, 57, 58, 59, 60, 61, 62, 63, 64, 65, 66, 67, 68, 69, 70, 71, 72, 73, 74, 75, 76, 77, 78, 79, 80, 81, 82, 83] (by decide +kernel) (by decide +kernel)
set_option maxRecDepth 20000 in
theorem gX11_numberOf_X11_sayAll : GoodIn wsX11_numberOf (wsV RX11 277 RX11 yX11_sayAll wsX11_sayAll) := goodIn_app (goodIn_of _ (by decide +kernel)) ggX11_numberOf_X11_sayAll
set_option maxRecDepth 20000 in
theorem ggX11_numberOf_X11_numberOfSaid : GoodIn wsX11_numberOf wsX11_numberOfSaid := goodIn_r _ [47, 10, 31, 1, 37, 48, 49, 50, 8, 51, 52, 53, 54, 55, 56, 57, 58, 59, 60, 61, 62, 63, 64, 65, 66, 67, 68, 69, 70, 71, 72, 73, 74, 75, 76, 77, 78, 79, 80, 81, 82, 83] (by decide +kernel) (by decide +kernel)
set_option maxRecDepth 20000 in
theorem gX11_numberOf_X11_numberOfSaid : GoodIn wsX11_numberOf (wsV RX11 280 RX11 yX11_numberOfSaid wsX11_numberOfSaid) := goodIn_app (goodIn_of _ (by decide +kernel)) ggX11_numberOf_X11_numberOfSaid
theorem dX11_numberOf_0 : decode cX11_numberOf 0 = .ok (.aload_n 0, 1) := by decide +kernel
theorem dX11_numberOf_1 : decode cX11_numberOf 1 = .ok (.iconst 1, 1) := by decide +kernel
theorem dX11_numberOf_2 : decode cX11_numberOf 2 = .ok (.putfield 264, 3) := by decide +kernel
theorem dX11_numberOf_5 : decode cX11_numberOf 5 = .ok (.aload_n 0, 1) := by decide +kernel
theorem dX11_numberOf_6 : decode cX11_numberOf 6 = .ok (.getfield 46, 3) := by decide +kernel
theorem dX11_numberOf_9 : decode cX11_numberOf 9 = .ok (.iload_n 1, 1) := by decide +kernel
theorem dX11_numberOf_10 : decode cX11_numberOf 10 = .ok (.iaload, 1) := by decide +kernel
theorem dX11_numberOf_11 : decode cX11_numberOf 11 = .ok (.tableswitch 60 0 3 #[29, 36, 38, 53], 29) := by decide +kernel
theorem dX11_numberOf_40 : decode cX11_numberOf 40 = .ok (.aload_n 0, 1) := by decide +kernel
theorem dX11_numberOf_41 : decode cX11_numberOf 41 = .ok (.iconst 0, 1) := by decide +kernel
theorem dX11_numberOf_42 : decode cX11_numberOf 42 = .ok (.putfield 264, 3) := by decide +kernel
theorem dX11_numberOf_45 : decode cX11_numberOf 45 = .ok (.dconst 0, 1) := by decide +kernel
theorem dX11_numberOf_46 : decode cX11_numberOf 46 = .ok (.dreturn, 1) := by decide +kernel
theorem dX11_numberOf_47 : decode cX11_numberOf 47 = .ok (.dconst 0, 1) := by decide +kernel
theorem dX11_numberOf_48 : decode cX11_numberOf 48 = .ok (.dreturn, 1) := by decide +kernel
theorem dX11_numberOf_49 : decode cX11_numberOf 49 = .ok (.aload_n 0, 1) := by decide +kernel
theorem dX11_numberOf_50 : decode cX11_numberOf 50 = .ok (.getfield 49, 3) := by decide +kernel
theorem dX11_numberOf_53 : decode cX11_numberOf 53 = .ok (.iload_n 1, 1) := by decide +kernel
theorem dX11_numberOf_54 : decode cX11_numberOf 54 = .ok (.baload, 1) := by decide +kernel
theorem dX11_numberOf_55 : decode cX11_numberOf 55 = .ok (.ifCond .eq 7, 3) := by decide +kernel
theorem dX11_numberOf_58 : decode cX11_numberOf 58 = .ok (.dconst 1, 1) := by decide +kernel
theorem dX11_numberOf_59 : decode cX11_numberOf 59 = .ok (.goto 4, 3) := by decide +kernel
theorem dX11_numberOf_62 : decode cX11_numberOf 62 = .ok (.dconst 0, 1) := by decide +kernel
theorem dX11_numberOf_63 : decode cX11_numberOf 63 = .ok (.dreturn, 1) := by decide +kernel
theorem dX11_numberOf_64 : decode cX11_numberOf 64 = .ok (.aload_n 0, 1) := by decide +kernel
theorem dX11_numberOf_65 : decode cX11_numberOf 65 = .ok (.getfield 52, 3) := by decide +kernel
theorem dX11_numberOf_68 : decode cX11_numberOf 68 = .ok (.iload_n 1, 1) := by decide +kernel
theorem dX11_numberOf_69 : decode cX11_numberOf 69 = .ok (.daload, 1) := by decide +kernel
theorem dX11_numberOf_70 : decode cX11_numberOf 70 = .ok (.dreturn, 1) := by decide +kernel
theorem dX11_numberOf_71 : decode cX11_numberOf 71 = .ok (.aload_n 0, 1) := by decide +kernel
theorem dX11_numberOf_72 : decode cX11_numberOf 72 = .ok (.iload_n 1, 1) := by decide +kernel
theorem dX11_numberOf_73 : decode cX11_numberOf 73 = .ok (.invokevirtual 277, 3) := by decide +kernel
theorem dX11_numberOf_76 : decode cX11_numberOf 76 = .ok (.aload_n 0, 1) := by decide +kernel
theorem dX11_numberOf_77 : decode cX11_numberOf 77 = .ok (.invokevirtual 280, 3) := by decide +kernel
theorem dX11_numberOf_80 : decode cX11_numberOf 80 = .ok (.dreturn, 1) := by decide +kernel
theorem dX11_make_0 : decode cX11_make 0 = .ok (.aload_n 0, 1) := by decide +kernel
theorem dX11_make_1 : decode cX11_make 1 = .ok (.getfield 62, 3) := by decide +kernel
theorem dX11_make_4 : decode cX11_make 4 = .ok (.iload_n 1, 1) := by decide +kernel
theorem dX11_make_5 : decode cX11_make 5 = .ok (.iload_n 2, 1) := by decide +kernel
theorem dX11_make_6 : decode cX11_make 6 = .ok (.iastore, 1) := by decide +kernel
theorem dX11_make_7 : decode cX11_make 7 = .ok (.aload_n 0, 1) := by decide +kernel
theorem dX11_make_8 : decode cX11_make 8 = .ok (.getfield 65, 3) := by decide +kernel
theorem dX11_make_11 : decode cX11_make 11 = .ok (.iload_n 1, 1) := by decide +kernel
theorem dX11_make_12 : decode cX11_make 12 = .ok (.lload_n 3, 1) := by decide +kernel
theorem dX11_make_13 : decode cX11_make 13 = .ok (.lastore, 1) := by decide +kernel
theorem dX11_make_14 : decode cX11_make 14 = .ok (.aload_n 0, 1) := by decide +kernel
theorem dX11_make_15 : decode cX11_make 15 = .ok (.getfield 69, 3) := by decide +kernel
theorem dX11_make_18 : decode cX11_make 18 = .ok (.iload_n 1, 1) := by decide +kernel
theorem dX11_make_19 : decode cX11_make 19 = .ok (.dload 5, 2) := by decide +kernel
theorem dX11_make_21 : decode cX11_make 21 = .ok (.dastore, 1) := by decide +kernel
theorem dX11_make_22 : decode cX11_make 22 = .ok (.return_, 1) := by decide +kernel
set_option maxRecDepth 20000 in
theorem ggX11_makeText_X11_make : GoodIn wsX11_makeText wsX11_make := goodIn_r _ [8, 9, 10, 11, 12, 13, 14, 15, 16, 17, 18, 19, 20, 21, 22, 23, 24, 25, 26, 27, 28, 29, 30, 31, 32, 33, 34, 35, 36, 37, 38, 39] (by decide +kernel) (by decide +kernel)
set_option maxRecDepth 20000 in
theorem gX11_makeText_X11_make : GoodIn wsX11_makeText (wsV RX11 284 RX11 yX11_make wsX11_make) := goodIn_app (goodIn_of _ (by decide +kernel)) ggX11_makeText_X11_make
theorem dX11_makeText_0 : decode cX11_makeText 0 = .ok (.aload_n 0, 1) := by decide +kernel
theorem dX11_makeText_1 : decode cX11_makeText 1 = .ok (.iload_n 1, 1) := by decide +kernel
theorem dX11_makeText_2 : decode cX11_makeText 2 = .ok (.iconst 5, 1) := by decide +kernel
theorem dX11_makeText_3 : decode cX11_makeText 3 = .ok (.aload_n 0, 1) := by decide +kernel
theorem dX11_makeText_4 : decode cX11_makeText 4 = .ok (.getfield 227, 3) := by decide +kernel
theorem dX11_makeText_7 : decode cX11_makeText 7 = .ok (.i2l, 1) := by decide +kernel
theorem dX11_makeText_8 : decode cX11_makeText 8 = .ok (.dconst 0, 1) := by decide +kernel
theorem dX11_makeText_9 : decode cX11_makeText 9 = .ok (.invokevirtual 284, 3) := by decide +kernel
theorem dX11_makeText_12 : decode cX11_makeText 12 = .ok (.iconst 0, 1) := by decide +kernel
theorem dX11_makeText_13 : decode cX11_makeText 13 = .ok (.istore_n 2, 1) := by decide +kernel
theorem dX11_makeText_14 : decode cX11_makeText 14 = .ok (.iload_n 2, 1) := by decide +kernel
theorem dX11_makeText_15 : decode cX11_makeText 15 = .ok (.aload_n 0, 1) := by decide +kernel
theorem dX11_makeText_16 : decode cX11_makeText 16 = .ok (.getfield 227, 3) := by decide +kernel
theorem dX11_makeText_19 : decode cX11_makeText 19 = .ok (.if_icmp .ge 26, 3) := by decide +kernel
theorem dX11_makeText_22 : decode cX11_makeText 22 = .ok (.aload_n 0, 1) := by decide +kernel
theorem dX11_makeText_23 : decode cX11_makeText 23 = .ok (.getfield 72, 3) := by decide +kernel
theorem dX11_makeText_26 : decode cX11_makeText 26 = .ok (.bipush 80, 2) := by decide +kernel
theorem dX11_makeText_28 : decode cX11_makeText 28 = .ok (.iload_n 1, 1) := by decide +kernel
theorem dX11_makeText_29 : decode cX11_makeText 29 = .ok (.imul, 1) := by decide +kernel
theorem dX11_makeText_30 : decode cX11_makeText 30 = .ok (.iload_n 2, 1) := by decide +kernel
theorem dX11_makeText_31 : decode cX11_makeText 31 = .ok (.iadd, 1) := by decide +kernel
theorem dX11_makeText_32 : decode cX11_makeText 32 = .ok (.aload_n 0, 1) := by decide +kernel
theorem dX11_makeText_33 : decode cX11_makeText 33 = .ok (.getfield 75, 3) := by decide +kernel
theorem dX11_makeText_36 : decode cX11_makeText 36 = .ok (.iload_n 2, 1) := by decide +kernel
theorem dX11_makeText_37 : decode cX11_makeText 37 = .ok (.caload, 1) := by decide +kernel
theorem dX11_makeText_38 : decode cX11_makeText 38 = .ok (.castore, 1) := by decide +kernel
theorem dX11_makeText_39 : decode cX11_makeText 39 = .ok (.iinc 2 1, 3) := by decide +kernel
theorem dX11_makeText_42 : decode cX11_makeText 42 = .ok (.goto (-28), 3) := by decide +kernel
theorem dX11_makeText_45 : decode cX11_makeText 45 = .ok (.return_, 1) := by decide +kernel
theorem dX11_lowest_0 : decode cX11_lowest 0 = .ok (.iload_n 0, 1) := by decide +kernel
theorem dX11_lowest_1 : decode cX11_lowest 1 = .ok (.iconst 1, 1) := by decide +kernel
theorem dX11_lowest_2 : decode cX11_lowest 2 = .ok (.if_icmp .ne 9, 3) := by decide +kernel
theorem dX11_lowest_5 : decode cX11_lowest 5 = .ok (.ldc2_w 288, 3) := by decide +kernel
theorem dX11_lowest_8 : decode cX11_lowest 8 = .ok (.goto 26, 3) := by decide +kernel
theorem dX11_lowest_11 : decode cX11_lowest 11 = .ok (.iload_n 0, 1) := by decide +kernel
theorem dX11_lowest_12 : decode cX11_lowest 12 = .ok (.iconst 2, 1) := by decide +kernel
theorem dX11_lowest_13 : decode cX11_lowest 13 = .ok (.if_icmp .ne 7, 3) := by decide +kernel
theorem dX11_lowest_16 : decode cX11_lowest 16 = .ok (.lconst 0, 1) := by decide +kernel
theorem dX11_lowest_17 : decode cX11_lowest 17 = .ok (.goto 17, 3) := by decide +kernel
theorem dX11_lowest_20 : decode cX11_lowest 20 = .ok (.iload_n 0, 1) := by decide +kernel
theorem dX11_lowest_21 : decode cX11_lowest 21 = .ok (.iconst 3, 1) := by decide +kernel
theorem dX11_lowest_22 : decode cX11_lowest 22 = .ok (.if_icmp .ne 9, 3) := by decide +kernel
theorem dX11_lowest_25 : decode cX11_lowest 25 = .ok (.ldc2_w 290, 3) := by decide +kernel
theorem dX11_lowest_28 : decode cX11_lowest 28 = .ok (.goto 6, 3) := by decide +kernel
theorem dX11_lowest_31 : decode cX11_lowest 31 = .ok (.ldc2_w 292, 3) := by decide +kernel
theorem dX11_lowest_34 : decode cX11_lowest 34 = .ok (.lreturn, 1) := by decide +kernel
theorem dX11_highest_0 : decode cX11_highest 0 = .ok (.iload_n 0, 1) := by decide +kernel
theorem dX11_highest_1 : decode cX11_highest 1 = .ok (.iconst 1, 1) := by decide +kernel
theorem dX11_highest_2 : decode cX11_highest 2 = .ok (.if_icmp .ne 9, 3) := by decide +kernel
theorem dX11_highest_5 : decode cX11_highest 5 = .ok (.ldc2_w 294, 3) := by decide +kernel
theorem dX11_highest_8 : decode cX11_highest 8 = .ok (.goto 28, 3) := by decide +kernel
theorem dX11_highest_11 : decode cX11_highest 11 = .ok (.iload_n 0, 1) := by decide +kernel
theorem dX11_highest_12 : decode cX11_highest 12 = .ok (.iconst 2, 1) := by decide +kernel
theorem dX11_highest_13 : decode cX11_highest 13 = .ok (.if_icmp .ne 9, 3) := by decide +kernel
theorem dX11_highest_16 : decode cX11_highest 16 = .ok (.ldc2_w 118, 3) := by decide +kernel
theorem dX11_highest_19 : decode cX11_highest 19 = .ok (.goto 17, 3) := by decide +kernel
theorem dX11_highest_22 : decode cX11_highest 22 = .ok (.iload_n 0, 1) := by decide +kernel
theorem dX11_highest_23 : decode cX11_highest 23 = .ok (.iconst 3, 1) := by decide +kernel
theorem dX11_highest_24 : decode cX11_highest 24 = .ok (.if_icmp .ne 9, 3) := by decide +kernel
theorem dX11_highest_27 : decode cX11_highest 27 = .ok (.ldc2_w 296, 3) := by decide +kernel
theorem dX11_highest_30 : decode cX11_highest 30 = .ok (.goto 6, 3) := by decide +kernel
theorem dX11_highest_33 : decode cX11_highest 33 = .ok (.ldc2_w 298, 3) := by decide +kernel
theorem dX11_highest_36 : decode cX11_highest 36 = .ok (.lreturn, 1) := by decide +kernel
theorem dX11_rounded_0 : decode cX11_rounded 0 = .ok (.dload_n 0, 1) := by decide +kernel
theorem dX11_rounded_1 : decode cX11_rounded 1 = .ok (.d2l, 1) := by decide +kernel
theorem dX11_rounded_2 : decode cX11_rounded 2 = .ok (.lstore_n 2, 1) := by decide +kernel
theorem dX11_rounded_3 : decode cX11_rounded 3 = .ok (.lload_n 2, 1) := by decide +kernel
theorem dX11_rounded_4 : decode cX11_rounded 4 = .ok (.l2d, 1) := by decide +kernel
theorem dX11_rounded_5 : decode cX11_rounded 5 = .ok (.dload_n 0, 1) := by decide +kernel
theorem dX11_rounded_6 : decode cX11_rounded 6 = .ok (.dcmp .l, 1) := by decide +kernel
theorem dX11_rounded_7 : decode cX11_rounded 7 = .ok (.ifCond .le 7, 3) := by decide +kernel
theorem dX11_rounded_10 : decode cX11_rounded 10 = .ok (.lload_n 2, 1) := by decide +kernel
theorem dX11_rounded_11 : decode cX11_rounded 11 = .ok (.lconst 1, 1) := by decide +kernel
theorem dX11_rounded_12 : decode cX11_rounded 12 = .ok (.lsub, 1) := by decide +kernel
theorem dX11_rounded_13 : decode cX11_rounded 13 = .ok (.lstore_n 2, 1) := by decide +kernel
theorem dX11_rounded_14 : decode cX11_rounded 14 = .ok (.dload_n 0, 1) := by decide +kernel
theorem dX11_rounded_15 : decode cX11_rounded 15 = .ok (.lload_n 2, 1) := by decide +kernel
theorem dX11_rounded_16 : decode cX11_rounded 16 = .ok (.l2d, 1) := by decide +kernel
theorem dX11_rounded_17 : decode cX11_rounded 17 = .ok (.dsub, 1) := by decide +kernel
theorem dX11_rounded_18 : decode cX11_rounded 18 = .ok (.dstore 4, 2) := by decide +kernel
theorem dX11_rounded_20 : decode cX11_rounded 20 = .ok (.dload 4, 2) := by decide +kernel
theorem dX11_rounded_22 : decode cX11_rounded 22 = .ok (.ldc2_w 300, 3) := by decide +kernel
theorem dX11_rounded_25 : decode cX11_rounded 25 = .ok (.dcmp .l, 1) := by decide +kernel
theorem dX11_rounded_26 : decode cX11_rounded 26 = .ok (.ifCond .gt 22, 3) := by decide +kernel
theorem dX11_rounded_29 : decode cX11_rounded 29 = .ok (.dload 4, 2) := by decide +kernel
theorem dX11_rounded_31 : decode cX11_rounded 31 = .ok (.ldc2_w 300, 3) := by decide +kernel
theorem dX11_rounded_34 : decode cX11_rounded 34 = .ok (.dcmp .l, 1) := by decide +kernel
theorem dX11_rounded_35 : decode cX11_rounded 35 = .ok (.ifCond .ne 19, 3) := by decide +kernel
theorem dX11_rounded_38 : decode cX11_rounded 38 = .ok (.lload_n 2, 1) := by decide +kernel
theorem dX11_rounded_39 : decode cX11_rounded 39 = .ok (.ldc2_w 302, 3) := by decide +kernel
theorem dX11_rounded_42 : decode cX11_rounded 42 = .ok (.lrem, 1) := by decide +kernel
theorem dX11_rounded_43 : decode cX11_rounded 43 = .ok (.lconst 0, 1) := by decide +kernel
theorem dX11_rounded_44 : decode cX11_rounded 44 = .ok (.lcmp, 1) := by decide +kernel
theorem dX11_rounded_45 : decode cX11_rounded 45 = .ok (.ifCond .eq 9, 3) := by decide +kernel
theorem dX11_rounded_48 : decode cX11_rounded 48 = .ok (.lload_n 2, 1) := by decide +kernel
theorem dX11_rounded_49 : decode cX11_rounded 49 = .ok (.lconst 1, 1) := by decide +kernel
theorem dX11_rounded_50 : decode cX11_rounded 50 = .ok (.ladd, 1) := by decide +kernel
theorem dX11_rounded_51 : decode cX11_rounded 51 = .ok (.goto 4, 3) := by decide +kernel
theorem dX11_rounded_54 : decode cX11_rounded 54 = .ok (.lload_n 2, 1) := by decide +kernel
theorem dX11_rounded_55 : decode cX11_rounded 55 = .ok (.lreturn, 1) := by decide +kernel
set_option maxRecDepth 20000 in
theorem ggX11_makeWhole_X11_numberOf : GoodIn wsX11_makeWhole wsX11_numberOf := goodIn_r _ [8, 1, 9, 10, 11, 12, 13, 14, 7, 15, 16, 17, 18, 19, 20, 21, 22, 23, 24, 25, 26, 27, 28, 29, 30, 31, 32, 33, 34, 35, 36, 37, 38, 39, 40, 41, 42, 43, 44, 45, 46, 47, 48, 49, 50, 51, 52, 53, 54, 55, 56, 57, 58, 59, 60, 61, 86, 87, 88, 89, 90, 91, 92, 93, 94, 95, 96, 97, 98, 99, 100, 101, 102, 103, 104, 105, 106, 107, 108, 109, 110, 111, 112, 113] (by decide +kernel) (by decide +kernel)
set_option maxRecDepth 20000 in
theorem gX11_makeWhole_X11_numberOf : GoodIn wsX11_makeWhole (wsV RX11 304 RX11 yX11_numberOf wsX11_numberOf) := goodIn_app (goodIn_of _ (by decide +kernel)) ggX11_makeWhole_X11_numberOf
set_option maxRecDepth 20000 in
theorem ggX11_makeWhole_X11_lowest : GoodIn wsX11_makeWhole wsX11_lowest := goodIn_r _ [64, 65, 66, 67] (by decide +kernel) (by decide +kernel)
set_option maxRecDepth 20000 in
theorem gX11_makeWhole_X11_lowest : GoodIn wsX11_makeWhole (va_wsS RX11 308 yX11_lowest wsX11_lowest) := goodIn_app (goodIn_of _ (by decide +kernel)) ggX11_makeWhole_X11_lowest
set_option maxRecDepth 20000 in
theorem ggX11_makeWhole_X11_highest : GoodIn wsX11_makeWhole wsX11_highest := goodIn_r _ [70, 71, 32, 72, 73] (by decide +kernel) (by decide +kernel)
set_option maxRecDepth 20000 in
theorem gX11_makeWhole_X11_highest : GoodIn wsX11_makeWhole (va_wsS RX11 312 yX11_highest wsX11_highest) := goodIn_app (goodIn_of _ (by decide +kernel)) ggX11_makeWhole_X11_highest
set_option maxRecDepth 20000 in
theorem ggX11_makeWhole_X11_rounded : GoodIn wsX11_makeWhole wsX11_rounded := goodIn_r _ [76, 77, 78] (by decide +kernel) (by decide +kernel)
set_option maxRecDepth 20000 in
theorem gX11_makeWhole_X11_rounded : GoodIn wsX11_makeWhole (va_wsS RX11 315 yX11_rounded wsX11_rounded) := goodIn_app (goodIn_of _ (by decide +kernel)) ggX11_makeWhole_X11_rounded
set_option maxRecDepth 20000 in
theorem ggX11_makeWhole_X11_make : GoodIn wsX11_makeWhole wsX11_make := goodIn_r _ [82, 83, 84, 85, 86, 87, 88, 89, 90, 91, 92, 93, 94, 95, 96, 97, 98, 99, 100, 101, 102, 103, 104, 105, 106, 107, 108, 109, 110, 111, 112, 113] (by decide +kernel) (by decide +kernel)
set_option maxRecDepth 20000 in
theorem gX11_makeWhole_X11_make : GoodIn wsX11_makeWhole (wsV RX11 284 RX11 yX11_make wsX11_make) := goodIn_app (goodIn_of _ (by decide +kernel)) ggX11_makeWhole_X11_make
