theorem dX11_choose_171 : decode cX11_choose 171 = .ok (.iload 5, 2) := by decide +kernel
theorem dX11_choose_173 : decode cX11_choose 173 = .ok (.ifCond .ge 14, 3) := by decide +kernel
theorem dX11_choose_176 : decode cX11_choose 176 = .ok (.aload_n 0, 1) := by decide +kernel
theorem dX11_choose_177 : decode cX11_choose 177 = .ok (.iload_n 1, 1) := by decide +kernel
theorem dX11_choose_178 : decode cX11_choose 178 = .ok (.iload_n 2, 1) := by decide +kernel
theorem dX11_choose_179 : decode cX11_choose 179 = .ok (.iload_n 3, 1) := by decide +kernel
theorem dX11_choose_180 : decode cX11_choose 180 = .ok (.iconst 2, 1) := by decide +kernel
theorem dX11_choose_181 : decode cX11_choose 181 = .ok (.invokevirtual 334, 3) := by decide +kernel
theorem dX11_choose_184 : decode cX11_choose 184 = .ok (.goto 5, 3) := by decide +kernel
theorem dX11_choose_187 : decode cX11_choose 187 = .ok (.iload 5, 2) := by decide +kernel
theorem dX11_choose_189 : decode cX11_choose 189 = .ok (.ireturn, 1) := by decide +kernel
theorem dX11_fail_0 : decode cX11_fail 0 = .ok (.aload_n 0, 1) := by decide +kernel
theorem dX11_fail_1 : decode cX11_fail 1 = .ok (.iload_n 1, 1) := by decide +kernel
theorem dX11_fail_2 : decode cX11_fail 2 = .ok (.putfield 13, 3) := by decide +kernel
theorem dX11_fail_5 : decode cX11_fail 5 = .ok (.bipush (-5), 2) := by decide +kernel
theorem dX11_fail_7 : decode cX11_fail 7 = .ok (.ireturn, 1) := by decide +kernel
set_option maxRecDepth 20000 in
theorem ggX11_call_X11_isIn : GoodIn wsX11_call wsX11_isIn := goodIn_r _ [7] rfl (by decide +kernel)
set_option maxRecDepth 20000 in
theorem gX11_call_X11_isIn : GoodIn wsX11_call (va_wsS RX11 158 yX11_isIn wsX11_isIn) := goodIn_app (goodIn_of _ (by decide +kernel)) ggX11_call_X11_isIn
set_option maxRecDepth 20000 in
theorem ggX11_call_X11_refused : GoodIn wsX11_call wsX11_refused := goodIn_r _ [11, 12, 191, 192, 193, 194, 195, 196, 197, 198, 199, 200, 201, 202, 203, 204, 205, 206, 207, 208, 209, 210, 211, 212, 213, 214, 215, 216, 217, 218] rfl (by decide +kernel)
set_option maxRecDepth 20000 in
theorem gX11_call_X11_refused : GoodIn wsX11_call (wsV RX11 88 RX11 yX11_refused wsX11_refused) := goodIn_app (goodIn_of _ (by decide +kernel)) ggX11_call_X11_refused
set_option maxRecDepth 20000 in
theorem ggX11_call_X11_bound : GoodIn wsX11_call wsX11_bound := goodIn_r _ [16, 2, 17, 18, 19, 6, 20, 3, 21, 22, 23, 24, 25, 26, 191, 192, 193, 194, 195, 196, 197, 198, 199, 200, 201, 202, 203, 204, 205, 206, 207, 208, 209, 210, 211, 212, 213, 214, 215, 216, 217, 218] rfl (by decide +kernel)
set_option maxRecDepth 20000 in
theorem gX11_call_X11_bound : GoodIn wsX11_call (wsV RX11 338 RX11 yX11_bound wsX11_bound) := goodIn_app (goodIn_of _ (by decide +kernel)) ggX11_call_X11_bound
set_option maxRecDepth 20000 in
theorem ggX11_call_X11_takesMany : GoodIn wsX11_call wsX11_takesMany := goodIn_r _ [30, 22, 23, 24, 6, 25, 3, 26, 21, 17, 18, 19, 20, 191, 192, 193, 194, 195, 196, 197, 198, 199, 200, 201, 202, 203, 204, 205, 206, 207, 208, 209, 210, 211, 212, 213, 214, 215, 216, 217, 218] rfl (by decide +kernel)
set_option maxRecDepth 20000 in
theorem gX11_call_X11_takesMany : GoodIn wsX11_call (wsV RX11 197 RX11 yX11_takesMany wsX11_takesMany) := goodIn_app (goodIn_of _ (by decide +kernel)) ggX11_call_X11_takesMany
set_option maxRecDepth 20000 in
theorem ggX11_call_X11_fail : GoodIn wsX11_call wsX11_fail := goodIn_r _ [34, 1, 191, 192, 193, 194, 195, 196, 197, 198, 199, 200, 201, 202, 203, 204, 205, 206, 207, 208, 209, 210, 211, 212, 213, 214, 215, 216, 217, 218] rfl (by decide +kernel)
set_option maxRecDepth 20000 in
theorem gX11_call_X11_fail : GoodIn wsX11_call (wsV RX11 342 RX11 yX11_fail wsX11_fail) := goodIn_app (goodIn_of _ (by decide +kernel)) ggX11_call_X11_fail
set_option maxRecDepth 20000 in
theorem ggX11_call_X11_deciding : GoodIn wsX11_call wsX11_deciding := goodIn_r _ [38, 2, 27, 28, 29, 6, 30, 22, 23, 24, 25, 3, 26, 21, 17, 18, 19, 20, 39, 40, 41, 42, 43, 44, 45, 46, 47, 48, 49, 50, 51, 52, 53, 54, 55, 56, 57, 58, 59, 60, 61, 62, 63, 64, 65, 66, 67, 68, 69, 70, 191, 192, 193, 194, 195, 196, 197, 198, 199, 200, 201, 202, 203, 204, 205, 206, 207, 208, 209, 210, 211, 212, 213, 214, 215, 216, 217, 218] rfl (by decide +kernel)
set_option maxRecDepth 20000 in
theorem gX11_call_X11_deciding : GoodIn wsX11_call (wsV RX11 210 RX11 yX11_deciding wsX11_deciding) := goodIn_app (goodIn_of _ (by decide +kernel)) ggX11_call_X11_deciding
set_option maxRecDepth 20000 in
theorem ggX11_call_X11_argumentOf : GoodIn wsX11_call wsX11_argumentOf := goodIn_r _ [46, 3, 191, 192, 193, 194, 195, 196, 197, 198, 199, 200, 201, 202, 203, 204, 205, 206, 207, 208, 209, 210, 211, 212, 213, 214, 215, 216, 217, 218] rfl (by decide +kernel)
set_option maxRecDepth 20000 in
theorem gX11_call_X11_argumentOf : GoodIn wsX11_call (wsV RX11 190 RX11 yX11_argumentOf wsX11_argumentOf) := goodIn_app (goodIn_of _ (by decide +kernel)) ggX11_call_X11_argumentOf
set_option maxRecDepth 20000 in
theorem ggX11_call_X11_convert : GoodIn wsX11_call wsX11_convert := goodIn_r _ [74, 75, 26, 21, 51, 76, 77, 78, 79, 6, 80, 81, 82, 83, 84, 85, 86, 87, 57, 88, 89, 90, 91, 92, 93, 94, 95, 96, 97, 98, 99, 100, 101, 102, 103, 104, 105, 106, 107, 108, 109, 110, 111, 112, 113, 114, 115, 116, 117, 118, 119, 120, 121, 122, 123, 124, 125, 126, 127, 128, 129, 130, 131, 132, 133, 134, 135, 136, 137, 138, 139, 140, 58, 63, 141, 142, 143, 144, 145, 146, 147, 148, 149, 150, 151, 152, 153, 154, 155, 156, 157, 158, 159, 160, 56, 161, 162, 163, 164, 165, 166, 167, 168, 169, 170, 171, 172, 173, 174, 175, 176, 177, 191, 192, 193, 194, 195, 196, 197, 198, 199, 200, 201, 202, 203, 204, 205, 206, 207, 208, 209, 210, 211, 212, 213, 214, 215, 216, 217, 218] rfl (by decide +kernel)
set_option maxRecDepth 20000 in
theorem gX11_call_X11_convert : GoodIn wsX11_call (wsV RX11 345 RX11 yX11_convert wsX11_convert) := goodIn_app (goodIn_of _ (by decide +kernel)) ggX11_call_X11_convert
set_option maxRecDepth 20000 in
theorem ggX11_call_X11_choose : GoodIn wsX11_call wsX11_choose := goodIn_r _ [181, 75, 182, 183, 184, 6, 185, 2, 26, 21, 57, 51, 27, 28, 29, 30, 22, 23, 24, 25, 3, 17, 18, 19, 20, 43, 44, 45, 46, 68, 69, 70, 191, 192, 193, 194, 195, 196, 197, 198, 199, 200, 201, 202, 203, 204, 205, 206, 207, 208, 209, 210, 211, 212, 213, 214, 215, 216, 217, 218] rfl (by decide +kernel)
set_option maxRecDepth 20000 in
theorem gX11_call_X11_choose : GoodIn wsX11_call (wsV RX11 348 RX11 yX11_choose wsX11_choose) := goodIn_app (goodIn_of _ (by decide +kernel)) ggX11_call_X11_choose
set_option maxRecDepth 20000 in
theorem ggX11_call_X11_finish : GoodIn wsX11_call wsX11_finish := goodIn_r _ [189, 190, 81, 82, 83, 136, 77, 78, 79, 6, 80, 191, 192, 193, 194, 195, 196, 197, 198, 199, 200, 201, 202, 203, 204, 205, 206, 207, 208, 209, 210, 211, 212, 213, 214, 215, 216, 217, 218] rfl (by decide +kernel)
set_option maxRecDepth 20000 in
theorem gX11_call_X11_finish : GoodIn wsX11_call (wsV RX11 351 RX11 yX11_finish wsX11_finish) := goodIn_app (goodIn_of _ (by decide +kernel)) ggX11_call_X11_finish
theorem dX11_call_0 : decode cX11_call 0 = .ok (.aload_n 0, 1) := by decide +kernel
theorem dX11_call_1 : decode cX11_call 1 = .ok (.iload_n 1, 1) := by decide +kernel
theorem dX11_call_2 : decode cX11_call 2 = .ok (.iconst 0, 1) := by decide +kernel
theorem dX11_call_3 : decode cX11_call 3 = .ok (.iconst 5, 1) := by decide +kernel
theorem dX11_call_4 : decode cX11_call 4 = .ok (.invokestatic 158, 3) := by decide +kernel
theorem dX11_call_7 : decode cX11_call 7 = .ok (.ifCond .eq 17, 3) := by decide +kernel
theorem dX11_call_10 : decode cX11_call 10 = .ok (.iload_n 2, 1) := by decide +kernel
theorem dX11_call_11 : decode cX11_call 11 = .ok (.iconst 0, 1) := by decide +kernel
theorem dX11_call_12 : decode cX11_call 12 = .ok (.bipush 8, 2) := by decide +kernel
theorem dX11_call_14 : decode cX11_call 14 = .ok (.invokestatic 158, 3) := by decide +kernel
theorem dX11_call_17 : decode cX11_call 17 = .ok (.ifCond .eq 7, 3) := by decide +kernel
theorem dX11_call_20 : decode cX11_call 20 = .ok (.iconst 0, 1) := by decide +kernel
theorem dX11_call_21 : decode cX11_call 21 = .ok (.goto 4, 3) := by decide +kernel
theorem dX11_call_24 : decode cX11_call 24 = .ok (.iconst 1, 1) := by decide +kernel
theorem dX11_call_25 : decode cX11_call 25 = .ok (.invokevirtual 88, 3) := by decide +kernel
theorem dX11_call_28 : decode cX11_call 28 = .ok (.ifCond .eq 5, 3) := by decide +kernel
theorem dX11_call_31 : decode cX11_call 31 = .ok (.iconst 0, 1) := by decide +kernel
theorem dX11_call_32 : decode cX11_call 32 = .ok (.ireturn, 1) := by decide +kernel
theorem dX11_call_33 : decode cX11_call 33 = .ok (.aload_n 0, 1) := by decide +kernel
theorem dX11_call_34 : decode cX11_call 34 = .ok (.iconst (-1), 1) := by decide +kernel
theorem dX11_call_35 : decode cX11_call 35 = .ok (.putfield 13, 3) := by decide +kernel
theorem dX11_call_38 : decode cX11_call 38 = .ok (.aload_n 0, 1) := by decide +kernel
theorem dX11_call_39 : decode cX11_call 39 = .ok (.iload_n 1, 1) := by decide +kernel
theorem dX11_call_40 : decode cX11_call 40 = .ok (.iconst 1, 1) := by decide +kernel
theorem dX11_call_41 : decode cX11_call 41 = .ok (.invokevirtual 338, 3) := by decide +kernel
theorem dX11_call_44 : decode cX11_call 44 = .ok (.istore_n 3, 1) := by decide +kernel
theorem dX11_call_45 : decode cX11_call 45 = .ok (.iload_n 2, 1) := by decide +kernel
theorem dX11_call_46 : decode cX11_call 46 = .ok (.iload_n 3, 1) := by decide +kernel
theorem dX11_call_47 : decode cX11_call 47 = .ok (.if_icmp .le 11, 3) := by decide +kernel
theorem dX11_call_50 : decode cX11_call 50 = .ok (.iload_n 3, 1) := by decide +kernel
theorem dX11_call_51 : decode cX11_call 51 = .ok (.ifCond .lt 7, 3) := by decide +kernel
theorem dX11_call_54 : decode cX11_call 54 = .ok (.iload_n 3, 1) := by decide +kernel
theorem dX11_call_55 : decode cX11_call 55 = .ok (.goto 4, 3) := by decide +kernel
theorem dX11_call_58 : decode cX11_call 58 = .ok (.iload_n 2, 1) := by decide +kernel
theorem dX11_call_59 : decode cX11_call 59 = .ok (.istore 4, 2) := by decide +kernel
theorem dX11_call_61 : decode cX11_call 61 = .ok (.iconst (-1), 1) := by decide +kernel
theorem dX11_call_62 : decode cX11_call 62 = .ok (.istore 5, 2) := by decide +kernel
theorem dX11_call_64 : decode cX11_call 64 = .ok (.iconst 0, 1) := by decide +kernel
theorem dX11_call_65 : decode cX11_call 65 = .ok (.istore 6, 2) := by decide +kernel
theorem dX11_call_67 : decode cX11_call 67 = .ok (.aload_n 0, 1) := by decide +kernel
theorem dX11_call_68 : decode cX11_call 68 = .ok (.getfield 17, 3) := by decide +kernel
theorem dX11_call_71 : decode cX11_call 71 = .ok (.iload_n 1, 1) := by decide +kernel
theorem dX11_call_72 : decode cX11_call 72 = .ok (.iaload, 1) := by decide +kernel
theorem dX11_call_73 : decode cX11_call 73 = .ok (.iconst 1, 1) := by decide +kernel
theorem dX11_call_74 : decode cX11_call 74 = .ok (.isub, 1) := by decide +kernel
theorem dX11_call_75 : decode cX11_call 75 = .ok (.istore 7, 2) := by decide +kernel
theorem dX11_call_77 : decode cX11_call 77 = .ok (.iload 7, 2) := by decide +kernel
theorem dX11_call_79 : decode cX11_call 79 = .ok (.ifCond .lt 32, 3) := by decide +kernel
theorem dX11_call_82 : decode cX11_call 82 = .ok (.aload_n 0, 1) := by decide +kernel
theorem dX11_call_83 : decode cX11_call 83 = .ok (.bipush 6, 2) := by decide +kernel
theorem dX11_call_85 : decode cX11_call 85 = .ok (.iload_n 1, 1) := by decide +kernel
theorem dX11_call_86 : decode cX11_call 86 = .ok (.imul, 1) := by decide +kernel
theorem dX11_call_87 : decode cX11_call 87 = .ok (.iload 7, 2) := by decide +kernel
theorem dX11_call_89 : decode cX11_call 89 = .ok (.iadd, 1) := by decide +kernel
theorem dX11_call_90 : decode cX11_call 90 = .ok (.iload 4, 2) := by decide +kernel
theorem dX11_call_92 : decode cX11_call 92 = .ok (.invokevirtual 197, 3) := by decide +kernel
theorem dX11_call_95 : decode cX11_call 95 = .ok (.ifCond .eq 10, 3) := by decide +kernel
theorem dX11_call_98 : decode cX11_call 98 = .ok (.iload 7, 2) := by decide +kernel
theorem dX11_call_100 : decode cX11_call 100 = .ok (.istore 5, 2) := by decide +kernel
theorem dX11_call_102 : decode cX11_call 102 = .ok (.iinc 6 1, 3) := by decide +kernel
theorem dX11_call_105 : decode cX11_call 105 = .ok (.iinc 7 (-1), 3) := by decide +kernel
theorem dX11_call_108 : decode cX11_call 108 = .ok (.goto (-31), 3) := by decide +kernel
theorem dX11_call_111 : decode cX11_call 111 = .ok (.iload 6, 2) := by decide +kernel
theorem dX11_call_113 : decode cX11_call 113 = .ok (.ifCond .ne 9, 3) := by decide +kernel
theorem dX11_call_116 : decode cX11_call 116 = .ok (.aload_n 0, 1) := by decide +kernel
theorem dX11_call_117 : decode cX11_call 117 = .ok (.iload_n 2, 1) := by decide +kernel
theorem dX11_call_118 : decode cX11_call 118 = .ok (.invokevirtual 342, 3) := by decide +kernel
theorem dX11_call_121 : decode cX11_call 121 = .ok (.ireturn, 1) := by decide +kernel
theorem dX11_call_122 : decode cX11_call 122 = .ok (.iconst 0, 1) := by decide +kernel
theorem dX11_call_123 : decode cX11_call 123 = .ok (.istore 7, 2) := by decide +kernel
theorem dX11_call_125 : decode cX11_call 125 = .ok (.iload 6, 2) := by decide +kernel
theorem dX11_call_127 : decode cX11_call 127 = .ok (.iconst 1, 1) := by decide +kernel
theorem dX11_call_128 : decode cX11_call 128 = .ok (.if_icmp .le 78, 3) := by decide +kernel
theorem dX11_call_131 : decode cX11_call 131 = .ok (.aload_n 0, 1) := by decide +kernel
theorem dX11_call_132 : decode cX11_call 132 = .ok (.iload_n 1, 1) := by decide +kernel
theorem dX11_call_133 : decode cX11_call 133 = .ok (.iload 4, 2) := by decide +kernel
theorem dX11_call_135 : decode cX11_call 135 = .ok (.iconst 0, 1) := by decide +kernel
theorem dX11_call_136 : decode cX11_call 136 = .ok (.invokevirtual 210, 3) := by decide +kernel
theorem dX11_call_139 : decode cX11_call 139 = .ok (.istore 8, 2) := by decide +kernel
theorem dX11_call_141 : decode cX11_call 141 = .ok (.iload 7, 2) := by decide +kernel
theorem dX11_call_143 : decode cX11_call 143 = .ok (.iload 8, 2) := by decide +kernel
theorem dX11_call_145 : decode cX11_call 145 = .ok (.if_icmp .ge 38, 3) := by decide +kernel
theorem dX11_call_148 : decode cX11_call 148 = .ok (.aload_n 0, 1) := by decide +kernel
theorem dX11_call_149 : decode cX11_call 149 = .ok (.iload 7, 2) := by decide +kernel
theorem dX11_call_151 : decode cX11_call 151 = .ok (.aload_n 0, 1) := by decide +kernel
theorem dX11_call_152 : decode cX11_call 152 = .ok (.bipush 6, 2) := by decide +kernel
theorem dX11_call_154 : decode cX11_call 154 = .ok (.iload_n 1, 1) := by decide +kernel
theorem dX11_call_155 : decode cX11_call 155 = .ok (.imul, 1) := by decide +kernel
theorem dX11_call_156 : decode cX11_call 156 = .ok (.iload 5, 2) := by decide +kernel
theorem dX11_call_158 : decode cX11_call 158 = .ok (.iadd, 1) := by decide +kernel
theorem dX11_call_159 : decode cX11_call 159 = .ok (.iload 7, 2) := by decide +kernel
theorem dX11_call_161 : decode cX11_call 161 = .ok (.invokevirtual 190, 3) := by decide +kernel
theorem dX11_call_164 : decode cX11_call 164 = .ok (.invokevirtual 345, 3) := by decide +kernel
theorem dX11_call_167 : decode cX11_call 167 = .ok (.ifCond .ne 10, 3) := by decide +kernel
theorem dX11_call_170 : decode cX11_call 170 = .ok (.aload_n 0, 1) := by decide +kernel
theorem dX11_call_171 : decode cX11_call 171 = .ok (.iload 7, 2) := by decide +kernel
theorem dX11_call_173 : decode cX11_call 173 = .ok (.invokevirtual 342, 3) := by decide +kernel
theorem dX11_call_176 : decode cX11_call 176 = .ok (.ireturn, 1) := by decide +kernel
theorem dX11_call_177 : decode cX11_call 177 = .ok (.iinc 7 1, 3) := by decide +kernel
theorem dX11_call_180 : decode cX11_call 180 = .ok (.goto (-39), 3) := by decide +kernel
theorem dX11_call_183 : decode cX11_call 183 = .ok (.aload_n 0, 1) := by decide +kernel
theorem dX11_call_184 : decode cX11_call 184 = .ok (.iload_n 1, 1) := by decide +kernel
theorem dX11_call_185 : decode cX11_call 185 = .ok (.iload 4, 2) := by decide +kernel
theorem dX11_call_187 : decode cX11_call 187 = .ok (.iload 8, 2) := by decide +kernel
theorem dX11_call_189 : decode cX11_call 189 = .ok (.invokevirtual 348, 3) := by decide +kernel
theorem dX11_call_192 : decode cX11_call 192 = .ok (.istore 5, 2) := by decide +kernel
theorem dX11_call_194 : decode cX11_call 194 = .ok (.iload 5, 2) := by decide +kernel
theorem dX11_call_196 : decode cX11_call 196 = .ok (.ifCond .ge 10, 3) := by decide +kernel
theorem dX11_call_199 : decode cX11_call 199 = .ok (.aload_n 0, 1) := by decide +kernel
theorem dX11_call_200 : decode cX11_call 200 = .ok (.iload 8, 2) := by decide +kernel
theorem dX11_call_202 : decode cX11_call 202 = .ok (.invokevirtual 342, 3) := by decide +kernel
theorem dX11_call_205 : decode cX11_call 205 = .ok (.ireturn, 1) := by decide +kernel
theorem dX11_call_206 : decode cX11_call 206 = .ok (.bipush 6, 2) := by decide +kernel
theorem dX11_call_208 : decode cX11_call 208 = .ok (.iload_n 1, 1) := by decide +kernel
theorem dX11_call_209 : decode cX11_call 209 = .ok (.imul, 1) := by decide +kernel
theorem dX11_call_210 : decode cX11_call 210 = .ok (.iload 5, 2) := by decide +kernel
theorem dX11_call_212 : decode cX11_call 212 = .ok (.iadd, 1) := by decide +kernel
theorem dX11_call_213 : decode cX11_call 213 = .ok (.istore 8, 2) := by decide +kernel
theorem dX11_call_215 : decode cX11_call 215 = .ok (.iload 7, 2) := by decide +kernel
theorem dX11_call_217 : decode cX11_call 217 = .ok (.iload 4, 2) := by decide +kernel
theorem dX11_call_219 : decode cX11_call 219 = .ok (.if_icmp .ge 33, 3) := by decide +kernel
theorem dX11_call_222 : decode cX11_call 222 = .ok (.aload_n 0, 1) := by decide +kernel
theorem dX11_call_223 : decode cX11_call 223 = .ok (.iload 7, 2) := by decide +kernel
theorem dX11_call_225 : decode cX11_call 225 = .ok (.aload_n 0, 1) := by decide +kernel
theorem dX11_call_226 : decode cX11_call 226 = .ok (.iload 8, 2) := by decide +kernel
theorem dX11_call_228 : decode cX11_call 228 = .ok (.iload 7, 2) := by decide +kernel
theorem dX11_call_230 : decode cX11_call 230 = .ok (.invokevirtual 190, 3) := by decide +kernel
theorem dX11_call_233 : decode cX11_call 233 = .ok (.invokevirtual 345, 3) := by decide +kernel
theorem dX11_call_236 : decode cX11_call 236 = .ok (.ifCond .ne 10, 3) := by decide +kernel
theorem dX11_call_239 : decode cX11_call 239 = .ok (.aload_n 0, 1) := by decide +kernel
theorem dX11_call_240 : decode cX11_call 240 = .ok (.iload 7, 2) := by decide +kernel
theorem dX11_call_242 : decode cX11_call 242 = .ok (.invokevirtual 342, 3) := by decide +kernel
theorem dX11_call_245 : decode cX11_call 245 = .ok (.ireturn, 1) := by decide +kernel
theorem dX11_call_246 : decode cX11_call 246 = .ok (.iinc 7 1, 3) := by decide +kernel
theorem dX11_call_249 : decode cX11_call 249 = .ok (.goto (-34), 3) := by decide +kernel
theorem dX11_call_252 : decode cX11_call 252 = .ok (.aload_n 0, 1) := by decide +kernel
theorem dX11_call_253 : decode cX11_call 253 = .ok (.iload 4, 2) := by decide +kernel
theorem dX11_call_255 : decode cX11_call 255 = .ok (.aload_n 0, 1) := by decide +kernel
theorem dX11_call_256 : decode cX11_call 256 = .ok (.getfield 21, 3) := by decide +kernel
theorem dX11_call_259 : decode cX11_call 259 = .ok (.iload 8, 2) := by decide +kernel
theorem dX11_call_261 : decode cX11_call 261 = .ok (.iaload, 1) := by decide +kernel
theorem dX11_call_262 : decode cX11_call 262 = .ok (.invokevirtual 351, 3) := by decide +kernel
theorem dX11_call_265 : decode cX11_call 265 = .ok (.iload 5, 2) := by decide +kernel
theorem dX11_call_267 : decode cX11_call 267 = .ok (.ireturn, 1) := by decide +kernel
set_option maxRecDepth 20000 in
theorem ggX11_finish_X11_make : GoodIn wsX11_finish wsX11_make := goodIn_r _ [10, 2, 3, 4, 11, 12, 13, 14, 15, 16, 17, 18, 19, 20, 21, 22, 23, 24, 25, 26, 27, 28, 29, 30, 31, 32, 33, 34, 35, 36, 37, 38] rfl (by decide +kernel)
set_option maxRecDepth 20000 in
theorem gX11_finish_X11_make : GoodIn wsX11_finish (wsV RX11 284 RX11 yX11_make wsX11_make) := goodIn_app (goodIn_of _ (by decide +kernel)) ggX11_finish_X11_make
theorem dX11_finish_0 : decode cX11_finish 0 = .ok (.aload_n 0, 1) := by decide +kernel
theorem dX11_finish_1 : decode cX11_finish 1 = .ok (.iload_n 1, 1) := by decide +kernel
theorem dX11_finish_2 : decode cX11_finish 2 = .ok (.iload_n 2, 1) := by decide +kernel
theorem dX11_finish_3 : decode cX11_finish 3 = .ok (.if_icmp .le 7, 3) := by decide +kernel
theorem dX11_finish_6 : decode cX11_finish 6 = .ok (.iload_n 1, 1) := by decide +kernel
theorem dX11_finish_7 : decode cX11_finish 7 = .ok (.goto 4, 3) := by decide +kernel
theorem dX11_finish_10 : decode cX11_finish 10 = .ok (.iload_n 2, 1) := by decide +kernel
theorem dX11_finish_11 : decode cX11_finish 11 = .ok (.putfield 354, 3) := by decide +kernel
theorem dX11_finish_14 : decode cX11_finish 14 = .ok (.iload_n 1, 1) := by decide +kernel
theorem dX11_finish_15 : decode cX11_finish 15 = .ok (.istore_n 3, 1) := by decide +kernel
theorem dX11_finish_16 : decode cX11_finish 16 = .ok (.iload_n 3, 1) := by decide +kernel
theorem dX11_finish_17 : decode cX11_finish 17 = .ok (.aload_n 0, 1) := by decide +kernel
theorem dX11_finish_18 : decode cX11_finish 18 = .ok (.getfield 354, 3) := by decide +kernel
theorem dX11_finish_21 : decode cX11_finish 21 = .ok (.if_icmp .ge 20, 3) := by decide +kernel
theorem dX11_finish_24 : decode cX11_finish 24 = .ok (.aload_n 0, 1) := by decide +kernel
theorem dX11_finish_25 : decode cX11_finish 25 = .ok (.bipush 48, 2) := by decide +kernel
theorem dX11_finish_27 : decode cX11_finish 27 = .ok (.iload_n 3, 1) := by decide +kernel
theorem dX11_finish_28 : decode cX11_finish 28 = .ok (.iadd, 1) := by decide +kernel
theorem dX11_finish_29 : decode cX11_finish 29 = .ok (.iconst 0, 1) := by decide +kernel
theorem dX11_finish_30 : decode cX11_finish 30 = .ok (.lconst 0, 1) := by decide +kernel
theorem dX11_finish_31 : decode cX11_finish 31 = .ok (.dconst 0, 1) := by decide +kernel
theorem dX11_finish_32 : decode cX11_finish 32 = .ok (.invokevirtual 284, 3) := by decide +kernel
theorem dX11_finish_35 : decode cX11_finish 35 = .ok (.iinc 3 1, 3) := by decide +kernel
theorem dX11_finish_38 : decode cX11_finish 38 = .ok (.goto (-22), 3) := by decide +kernel
theorem dX11_finish_41 : decode cX11_finish 41 = .ok (.iconst 0, 1) := by decide +kernel
theorem dX11_finish_42 : decode cX11_finish 42 = .ok (.istore_n 3, 1) := by decide +kernel
theorem dX11_finish_43 : decode cX11_finish 43 = .ok (.iload_n 3, 1) := by decide +kernel
theorem dX11_finish_44 : decode cX11_finish 44 = .ok (.bipush 48, 2) := by decide +kernel
theorem dX11_finish_46 : decode cX11_finish 46 = .ok (.if_icmp .ge 97, 3) := by decide +kernel
theorem dX11_finish_49 : decode cX11_finish 49 = .ok (.aload_n 0, 1) := by decide +kernel
theorem dX11_finish_50 : decode cX11_finish 50 = .ok (.getfield 62, 3) := by decide +kernel
theorem dX11_finish_53 : decode cX11_finish 53 = .ok (.iload_n 3, 1) := by decide +kernel
theorem dX11_finish_54 : decode cX11_finish 54 = .ok (.aload_n 0, 1) := by decide +kernel
theorem dX11_finish_55 : decode cX11_finish 55 = .ok (.getfield 62, 3) := by decide +kernel
theorem dX11_finish_58 : decode cX11_finish 58 = .ok (.bipush 48, 2) := by decide +kernel
theorem dX11_finish_60 : decode cX11_finish 60 = .ok (.iload_n 3, 1) := by decide +kernel
theorem dX11_finish_61 : decode cX11_finish 61 = .ok (.iadd, 1) := by decide +kernel
theorem dX11_finish_62 : decode cX11_finish 62 = .ok (.iaload, 1) := by decide +kernel
theorem dX11_finish_63 : decode cX11_finish 63 = .ok (.iastore, 1) := by decide +kernel
theorem dX11_finish_64 : decode cX11_finish 64 = .ok (.aload_n 0, 1) := by decide +kernel
theorem dX11_finish_65 : decode cX11_finish 65 = .ok (.getfield 65, 3) := by decide +kernel
theorem dX11_finish_68 : decode cX11_finish 68 = .ok (.iload_n 3, 1) := by decide +kernel
theorem dX11_finish_69 : decode cX11_finish 69 = .ok (.aload_n 0, 1) := by decide +kernel
theorem dX11_finish_70 : decode cX11_finish 70 = .ok (.getfield 65, 3) := by decide +kernel
theorem dX11_finish_73 : decode cX11_finish 73 = .ok (.bipush 48, 2) := by decide +kernel
theorem dX11_finish_75 : decode cX11_finish 75 = .ok (.iload_n 3, 1) := by decide +kernel
theorem dX11_finish_76 : decode cX11_finish 76 = .ok (.iadd, 1) := by decide +kernel
theorem dX11_finish_77 : decode cX11_finish 77 = .ok (.laload, 1) := by decide +kernel
theorem dX11_finish_78 : decode cX11_finish 78 = .ok (.lastore, 1) := by decide +kernel
theorem dX11_finish_79 : decode cX11_finish 79 = .ok (.aload_n 0, 1) := by decide +kernel
theorem dX11_finish_80 : decode cX11_finish 80 = .ok (.getfield 69, 3) := by decide +kernel
theorem dX11_finish_83 : decode cX11_finish 83 = .ok (.iload_n 3, 1) := by decide +kernel
theorem dX11_finish_84 : decode cX11_finish 84 = .ok (.aload_n 0, 1) := by decide +kernel
theorem dX11_finish_85 : decode cX11_finish 85 = .ok (.getfield 69, 3) := by decide +kernel
theorem dX11_finish_88 : decode cX11_finish 88 = .ok (.bipush 48, 2) := by decide +kernel
theorem dX11_finish_90 : decode cX11_finish 90 = .ok (.iload_n 3, 1) := by decide +kernel
theorem dX11_finish_91 : decode cX11_finish 91 = .ok (.iadd, 1) := by decide +kernel
theorem dX11_finish_92 : decode cX11_finish 92 = .ok (.daload, 1) := by decide +kernel
theorem dX11_finish_93 : decode cX11_finish 93 = .ok (.dastore, 1) := by decide +kernel
theorem dX11_finish_94 : decode cX11_finish 94 = .ok (.iconst 0, 1) := by decide +kernel
theorem dX11_finish_95 : decode cX11_finish 95 = .ok (.istore 4, 2) := by decide +kernel
theorem dX11_finish_97 : decode cX11_finish 97 = .ok (.iload 4, 2) := by decide +kernel
theorem dX11_finish_99 : decode cX11_finish 99 = .ok (.bipush 80, 2) := by decide +kernel
theorem dX11_finish_101 : decode cX11_finish 101 = .ok (.if_icmp .ge 36, 3) := by decide +kernel
theorem dX11_finish_104 : decode cX11_finish 104 = .ok (.aload_n 0, 1) := by decide +kernel
theorem dX11_finish_105 : decode cX11_finish 105 = .ok (.getfield 72, 3) := by decide +kernel
theorem dX11_finish_108 : decode cX11_finish 108 = .ok (.bipush 80, 2) := by decide +kernel
theorem dX11_finish_110 : decode cX11_finish 110 = .ok (.iload_n 3, 1) := by decide +kernel
theorem dX11_finish_111 : decode cX11_finish 111 = .ok (.imul, 1) := by decide +kernel
theorem dX11_finish_112 : decode cX11_finish 112 = .ok (.iload 4, 2) := by decide +kernel
theorem dX11_finish_114 : decode cX11_finish 114 = .ok (.iadd, 1) := by decide +kernel
theorem dX11_finish_115 : decode cX11_finish 115 = .ok (.aload_n 0, 1) := by decide +kernel
theorem dX11_finish_116 : decode cX11_finish 116 = .ok (.getfield 72, 3) := by decide +kernel
theorem dX11_finish_119 : decode cX11_finish 119 = .ok (.bipush 80, 2) := by decide +kernel
theorem dX11_finish_121 : decode cX11_finish 121 = .ok (.bipush 48, 2) := by decide +kernel
theorem dX11_finish_123 : decode cX11_finish 123 = .ok (.iload_n 3, 1) := by decide +kernel
theorem dX11_finish_124 : decode cX11_finish 124 = .ok (.iadd, 1) := by decide +kernel
theorem dX11_finish_125 : decode cX11_finish 125 = .ok (.imul, 1) := by decide +kernel
theorem dX11_finish_126 : decode cX11_finish 126 = .ok (.iload 4, 2) := by decide +kernel
theorem dX11_finish_128 : decode cX11_finish 128 = .ok (.iadd, 1) := by decide +kernel
theorem dX11_finish_129 : decode cX11_finish 129 = .ok (.caload, 1) := by decide +kernel
theorem dX11_finish_130 : decode cX11_finish 130 = .ok (.castore, 1) := by decide +kernel
theorem dX11_finish_131 : decode cX11_finish 131 = .ok (.iinc 4 1, 3) := by decide +kernel
theorem dX11_finish_134 : decode cX11_finish 134 = .ok (.goto (-37), 3) := by decide +kernel
theorem dX11_finish_137 : decode cX11_finish 137 = .ok (.iinc 3 1, 3) := by decide +kernel
theorem dX11_finish_140 : decode cX11_finish 140 = .ok (.goto (-97), 3) := by decide +kernel
theorem dX11_finish_143 : decode cX11_finish 143 = .ok (.return_, 1) := by decide +kernel
set_option maxRecDepth 20000 in
theorem ggX11_operation_X11_isIn : GoodIn wsX11_operation wsX11_isIn := goodIn_r _ [5] rfl (by decide +kernel)
set_option maxRecDepth 20000 in
theorem gX11_operation_X11_isIn : GoodIn wsX11_operation (va_wsS RX11 158 yX11_isIn wsX11_isIn) := goodIn_app (goodIn_of _ (by decide +kernel)) ggX11_operation_X11_isIn
set_option maxRecDepth 20000 in
theorem ggX11_operation_X11_refused : GoodIn wsX11_operation wsX11_refused := goodIn_r _ [9, 10, 66, 67, 68, 69, 70, 71, 72, 73, 74, 75, 76, 77, 78, 79, 80, 81, 82, 83, 84, 85, 86, 87, 88, 89, 90, 91, 92, 93] rfl (by decide +kernel)
set_option maxRecDepth 20000 in
theorem gX11_operation_X11_refused : GoodIn wsX11_operation (wsV RX11 88 RX11 yX11_refused wsX11_refused) := goodIn_app (goodIn_of _ (by decide +kernel)) ggX11_operation_X11_refused
set_option maxRecDepth 20000 in
theorem ggX11_operation_X11_bound : GoodIn wsX11_operation wsX11_bound := goodIn_r _ [14, 1, 15, 16, 17, 4, 18, 19, 20, 21, 22, 23, 24, 25, 66, 67, 68, 69, 70, 71, 72, 73, 74, 75, 76, 77, 78, 79, 80, 81, 82, 83, 84, 85, 86, 87, 88, 89, 90, 91, 92, 93] rfl (by decide +kernel)
set_option maxRecDepth 20000 in
theorem gX11_operation_X11_bound : GoodIn wsX11_operation (wsV RX11 338 RX11 yX11_bound wsX11_bound) := goodIn_app (goodIn_of _ (by decide +kernel)) ggX11_operation_X11_bound
set_option maxRecDepth 20000 in
theorem ggX11_operation_X11_deciding : GoodIn wsX11_operation wsX11_deciding := goodIn_r _ [29, 1, 30, 31, 32, 4, 33, 21, 22, 23, 24, 19, 25, 20, 15, 16, 17, 18, 34, 35, 36, 37, 38, 39, 40, 41, 42, 43, 44, 45, 46, 47, 48, 49, 50, 51, 52, 53, 54, 55, 56, 57, 58, 59, 60, 61, 62, 63, 64, 65, 66, 67, 68, 69, 70, 71, 72, 73, 74, 75, 76, 77, 78, 79, 80, 81, 82, 83, 84, 85, 86, 87, 88, 89, 90, 91, 92, 93] rfl (by decide +kernel)
set_option maxRecDepth 20000 in
theorem gX11_operation_X11_deciding : GoodIn wsX11_operation (wsV RX11 210 RX11 yX11_deciding wsX11_deciding) := goodIn_app (goodIn_of _ (by decide +kernel)) ggX11_operation_X11_deciding
theorem dX11_operation_0 : decode cX11_operation 0 = .ok (.aload_n 0, 1) := by decide +kernel
theorem dX11_operation_1 : decode cX11_operation 1 = .ok (.iload_n 1, 1) := by decide +kernel
theorem dX11_operation_2 : decode cX11_operation 2 = .ok (.iconst 0, 1) := by decide +kernel
theorem dX11_operation_3 : decode cX11_operation 3 = .ok (.iconst 5, 1) := by decide +kernel
theorem dX11_operation_4 : decode cX11_operation 4 = .ok (.invokestatic 158, 3) := by decide +kernel
theorem dX11_operation_7 : decode cX11_operation 7 = .ok (.ifCond .eq 17, 3) := by decide +kernel
theorem dX11_operation_10 : decode cX11_operation 10 = .ok (.iload_n 2, 1) := by decide +kernel
theorem dX11_operation_11 : decode cX11_operation 11 = .ok (.iconst 0, 1) := by decide +kernel
theorem dX11_operation_12 : decode cX11_operation 12 = .ok (.bipush 11, 2) := by decide +kernel
theorem dX11_operation_14 : decode cX11_operation 14 = .ok (.invokestatic 158, 3) := by decide +kernel
theorem dX11_operation_17 : decode cX11_operation 17 = .ok (.ifCond .eq 7, 3) := by decide +kernel
theorem dX11_operation_20 : decode cX11_operation 20 = .ok (.iconst 0, 1) := by decide +kernel
theorem dX11_operation_21 : decode cX11_operation 21 = .ok (.goto 4, 3) := by decide +kernel
theorem dX11_operation_24 : decode cX11_operation 24 = .ok (.iconst 1, 1) := by decide +kernel
theorem dX11_operation_25 : decode cX11_operation 25 = .ok (.invokevirtual 88, 3) := by decide +kernel
theorem dX11_operation_28 : decode cX11_operation 28 = .ok (.ifCond .eq 5, 3) := by decide +kernel
theorem dX11_operation_31 : decode cX11_operation 31 = .ok (.iconst 0, 1) := by decide +kernel
theorem dX11_operation_32 : decode cX11_operation 32 = .ok (.ireturn, 1) := by decide +kernel
theorem dX11_operation_33 : decode cX11_operation 33 = .ok (.iload_n 2, 1) := by decide +kernel
theorem dX11_operation_34 : decode cX11_operation 34 = .ok (.ifCond .ne 10, 3) := by decide +kernel
theorem dX11_operation_37 : decode cX11_operation 37 = .ok (.aload_n 0, 1) := by decide +kernel
theorem dX11_operation_38 : decode cX11_operation 38 = .ok (.getfield 17, 3) := by decide +kernel
theorem dX11_operation_41 : decode cX11_operation 41 = .ok (.iload_n 1, 1) := by decide +kernel
theorem dX11_operation_42 : decode cX11_operation 42 = .ok (.iaload, 1) := by decide +kernel
theorem dX11_operation_43 : decode cX11_operation 43 = .ok (.ireturn, 1) := by decide +kernel
theorem dX11_operation_44 : decode cX11_operation 44 = .ok (.iload_n 2, 1) := by decide +kernel
theorem dX11_operation_45 : decode cX11_operation 45 = .ok (.iconst 3, 1) := by decide +kernel
theorem dX11_operation_46 : decode cX11_operation 46 = .ok (.if_icmp .ge 19, 3) := by decide +kernel
theorem dX11_operation_49 : decode cX11_operation 49 = .ok (.aload_n 0, 1) := by decide +kernel
theorem dX11_operation_50 : decode cX11_operation 50 = .ok (.iload_n 1, 1) := by decide +kernel
theorem dX11_operation_51 : decode cX11_operation 51 = .ok (.iload_n 2, 1) := by decide +kernel
theorem dX11_operation_52 : decode cX11_operation 52 = .ok (.iconst 1, 1) := by decide +kernel
theorem dX11_operation_53 : decode cX11_operation 53 = .ok (.if_icmp .ne 7, 3) := by decide +kernel
theorem dX11_operation_56 : decode cX11_operation 56 = .ok (.iconst 1, 1) := by decide +kernel
theorem dX11_operation_57 : decode cX11_operation 57 = .ok (.goto 4, 3) := by decide +kernel
theorem dX11_operation_60 : decode cX11_operation 60 = .ok (.iconst 0, 1) := by decide +kernel
theorem dX11_operation_61 : decode cX11_operation 61 = .ok (.invokevirtual 338, 3) := by decide +kernel
theorem dX11_operation_64 : decode cX11_operation 64 = .ok (.ireturn, 1) := by decide +kernel
theorem dX11_operation_65 : decode cX11_operation 65 = .ok (.aload_n 0, 1) := by decide +kernel
theorem dX11_operation_66 : decode cX11_operation 66 = .ok (.iload_n 1, 1) := by decide +kernel
theorem dX11_operation_67 : decode cX11_operation 67 = .ok (.iload_n 2, 1) := by decide +kernel
theorem dX11_operation_68 : decode cX11_operation 68 = .ok (.iconst 3, 1) := by decide +kernel
theorem dX11_operation_69 : decode cX11_operation 69 = .ok (.isub, 1) := by decide +kernel
theorem dX11_operation_70 : decode cX11_operation 70 = .ok (.iconst 0, 1) := by decide +kernel
theorem dX11_operation_71 : decode cX11_operation 71 = .ok (.invokevirtual 210, 3) := by decide +kernel
theorem dX11_operation_74 : decode cX11_operation 74 = .ok (.ireturn, 1) := by decide +kernel
set_option maxRecDepth 20000 in
theorem ggX11_rowOf_X11_isIn : GoodIn wsX11_rowOf wsX11_isIn := goodIn_r _ [7] rfl (by decide +kernel)
set_option maxRecDepth 20000 in
theorem gX11_rowOf_X11_isIn : GoodIn wsX11_rowOf (va_wsS RX11 158 yX11_isIn wsX11_isIn) := goodIn_app (goodIn_of _ (by decide +kernel)) ggX11_rowOf_X11_isIn
set_option maxRecDepth 20000 in
theorem ggX11_rowOf_X11_itemOf : GoodIn wsX11_rowOf wsX11_itemOf := goodIn_r _ [10] rfl (by decide +kernel)
set_option maxRecDepth 20000 in
theorem gX11_rowOf_X11_itemOf : GoodIn wsX11_rowOf (va_wsS RX11 224 yX11_itemOf wsX11_itemOf) := goodIn_app (goodIn_of _ (by decide +kernel)) ggX11_rowOf_X11_itemOf
theorem dX11_rowOf_0 : decode cX11_rowOf 0 = .ok (.iload_n 1, 1) := by decide +kernel
theorem dX11_rowOf_1 : decode cX11_rowOf 1 = .ok (.iconst 0, 1) := by decide +kernel
theorem dX11_rowOf_2 : decode cX11_rowOf 2 = .ok (.aload_n 0, 1) := by decide +kernel
theorem dX11_rowOf_3 : decode cX11_rowOf 3 = .ok (.getfield 354, 3) := by decide +kernel
theorem dX11_rowOf_6 : decode cX11_rowOf 6 = .ok (.iconst 1, 1) := by decide +kernel
theorem dX11_rowOf_7 : decode cX11_rowOf 7 = .ok (.isub, 1) := by decide +kernel
theorem dX11_rowOf_8 : decode cX11_rowOf 8 = .ok (.invokestatic 158, 3) := by decide +kernel
theorem dX11_rowOf_11 : decode cX11_rowOf 11 = .ok (.ifCond .ne 5, 3) := by decide +kernel
theorem dX11_rowOf_14 : decode cX11_rowOf 14 = .ok (.iconst (-1), 1) := by decide +kernel
theorem dX11_rowOf_15 : decode cX11_rowOf 15 = .ok (.ireturn, 1) := by decide +kernel
theorem dX11_rowOf_16 : decode cX11_rowOf 16 = .ok (.iload_n 2, 1) := by decide +kernel
theorem dX11_rowOf_17 : decode cX11_rowOf 17 = .ok (.iconst (-1), 1) := by decide +kernel
theorem dX11_rowOf_18 : decode cX11_rowOf 18 = .ok (.if_icmp .ne 5, 3) := by decide +kernel
theorem dX11_rowOf_21 : decode cX11_rowOf 21 = .ok (.iload_n 1, 1) := by decide +kernel
theorem dX11_rowOf_22 : decode cX11_rowOf 22 = .ok (.ireturn, 1) := by decide +kernel
theorem dX11_rowOf_23 : decode cX11_rowOf 23 = .ok (.aload_n 0, 1) := by decide +kernel
theorem dX11_rowOf_24 : decode cX11_rowOf 24 = .ok (.getfield 62, 3) := by decide +kernel
theorem dX11_rowOf_27 : decode cX11_rowOf 27 = .ok (.iload_n 1, 1) := by decide +kernel
theorem dX11_rowOf_28 : decode cX11_rowOf 28 = .ok (.iaload, 1) := by decide +kernel
theorem dX11_rowOf_29 : decode cX11_rowOf 29 = .ok (.bipush 6, 2) := by decide +kernel
theorem dX11_rowOf_31 : decode cX11_rowOf 31 = .ok (.if_icmp .ne 27, 3) := by decide +kernel
theorem dX11_rowOf_34 : decode cX11_rowOf 34 = .ok (.iload_n 2, 1) := by decide +kernel
theorem dX11_rowOf_35 : decode cX11_rowOf 35 = .ok (.ifCond .lt 23, 3) := by decide +kernel
theorem dX11_rowOf_38 : decode cX11_rowOf 38 = .ok (.iload_n 2, 1) := by decide +kernel
theorem dX11_rowOf_39 : decode cX11_rowOf 39 = .ok (.i2l, 1) := by decide +kernel
theorem dX11_rowOf_40 : decode cX11_rowOf 40 = .ok (.aload_n 0, 1) := by decide +kernel
theorem dX11_rowOf_41 : decode cX11_rowOf 41 = .ok (.getfield 65, 3) := by decide +kernel
theorem dX11_rowOf_44 : decode cX11_rowOf 44 = .ok (.iload_n 1, 1) := by decide +kernel
theorem dX11_rowOf_45 : decode cX11_rowOf 45 = .ok (.laload, 1) := by decide +kernel
theorem dX11_rowOf_46 : decode cX11_rowOf 46 = .ok (.lcmp, 1) := by decide +kernel
theorem dX11_rowOf_47 : decode cX11_rowOf 47 = .ok (.ifCond .ge 11, 3) := by decide +kernel
theorem dX11_rowOf_50 : decode cX11_rowOf 50 = .ok (.iload_n 1, 1) := by decide +kernel
theorem dX11_rowOf_51 : decode cX11_rowOf 51 = .ok (.iload_n 2, 1) := by decide +kernel
theorem dX11_rowOf_52 : decode cX11_rowOf 52 = .ok (.invokestatic 224, 3) := by decide +kernel
theorem dX11_rowOf_55 : decode cX11_rowOf 55 = .ok (.goto 4, 3) := by decide +kernel
theorem dX11_rowOf_58 : decode cX11_rowOf 58 = .ok (.iconst (-1), 1) := by decide +kernel
theorem dX11_rowOf_59 : decode cX11_rowOf 59 = .ok (.ireturn, 1) := by decide +kernel
set_option maxRecDepth 20000 in
theorem ggX11_kind_X11_rowOf : GoodIn wsX11_kind wsX11_rowOf := goodIn_r _ [7, 8, 2, 9, 10, 11, 6, 12, 13, 14, 15, 16, 17, 18, 19, 20, 21, 22, 23, 24, 25, 26, 27, 28, 29, 30, 31, 32, 33, 34, 35, 36, 37, 38, 39, 40, 41, 42, 43] rfl (by decide +kernel)
set_option maxRecDepth 20000 in
theorem gX11_kind_X11_rowOf : GoodIn wsX11_kind (wsV RX11 357 RX11 yX11_rowOf wsX11_rowOf) := goodIn_app (goodIn_of _ (by decide +kernel)) ggX11_kind_X11_rowOf
theorem dX11_kind_0 : decode cX11_kind 0 = .ok (.aload_n 0, 1) := by decide +kernel
theorem dX11_kind_1 : decode cX11_kind 1 = .ok (.iconst 0, 1) := by decide +kernel
theorem dX11_kind_2 : decode cX11_kind 2 = .ok (.putfield 78, 3) := by decide +kernel
theorem dX11_kind_5 : decode cX11_kind 5 = .ok (.aload_n 0, 1) := by decide +kernel
theorem dX11_kind_6 : decode cX11_kind 6 = .ok (.iload_n 1, 1) := by decide +kernel
theorem dX11_kind_7 : decode cX11_kind 7 = .ok (.iconst (-1), 1) := by decide +kernel
theorem dX11_kind_8 : decode cX11_kind 8 = .ok (.invokevirtual 357, 3) := by decide +kernel
theorem dX11_kind_11 : decode cX11_kind 11 = .ok (.istore_n 2, 1) := by decide +kernel
theorem dX11_kind_12 : decode cX11_kind 12 = .ok (.iload_n 2, 1) := by decide +kernel
theorem dX11_kind_13 : decode cX11_kind 13 = .ok (.ifCond .ge 7, 3) := by decide +kernel
theorem dX11_kind_16 : decode cX11_kind 16 = .ok (.iconst (-1), 1) := by decide +kernel
theorem dX11_kind_17 : decode cX11_kind 17 = .ok (.goto 9, 3) := by decide +kernel
theorem dX11_kind_20 : decode cX11_kind 20 = .ok (.aload_n 0, 1) := by decide +kernel
theorem dX11_kind_21 : decode cX11_kind 21 = .ok (.getfield 62, 3) := by decide +kernel
theorem dX11_kind_24 : decode cX11_kind 24 = .ok (.iload_n 2, 1) := by decide +kernel
theorem dX11_kind_25 : decode cX11_kind 25 = .ok (.iaload, 1) := by decide +kernel
theorem dX11_kind_26 : decode cX11_kind 26 = .ok (.ireturn, 1) := by decide +kernel
set_option maxRecDepth 20000 in
theorem ggX11_item_X11_rowOf : GoodIn wsX11_item wsX11_rowOf := goodIn_r _ [7, 8, 2, 9, 10, 11, 6, 12, 13, 14, 15, 16, 17, 18, 19, 20, 21, 22, 23, 24, 25, 26, 27, 28, 29, 30, 31, 32, 33, 34, 35, 36, 37, 38, 39, 40, 41, 42, 43] rfl (by decide +kernel)
set_option maxRecDepth 20000 in
theorem gX11_item_X11_rowOf : GoodIn wsX11_item (wsV RX11 357 RX11 yX11_rowOf wsX11_rowOf) := goodIn_app (goodIn_of _ (by decide +kernel)) ggX11_item_X11_rowOf
theorem dX11_item_0 : decode cX11_item 0 = .ok (.aload_n 0, 1) := by decide +kernel
theorem dX11_item_1 : decode cX11_item 1 = .ok (.iconst 0, 1) := by decide +kernel
theorem dX11_item_2 : decode cX11_item 2 = .ok (.putfield 78, 3) := by decide +kernel
theorem dX11_item_5 : decode cX11_item 5 = .ok (.iload_n 2, 1) := by decide +kernel
theorem dX11_item_6 : decode cX11_item 6 = .ok (.ifCond .ge 7, 3) := by decide +kernel
theorem dX11_item_9 : decode cX11_item 9 = .ok (.iconst (-1), 1) := by decide +kernel
theorem dX11_item_10 : decode cX11_item 10 = .ok (.goto 9, 3) := by decide +kernel
theorem dX11_item_13 : decode cX11_item 13 = .ok (.aload_n 0, 1) := by decide +kernel
theorem dX11_item_14 : decode cX11_item 14 = .ok (.iload_n 1, 1) := by decide +kernel
theorem dX11_item_15 : decode cX11_item 15 = .ok (.iload_n 2, 1) := by decide +kernel
theorem dX11_item_16 : decode cX11_item 16 = .ok (.invokevirtual 357, 3) := by decide +kernel
theorem dX11_item_19 : decode cX11_item 19 = .ok (.istore_n 3, 1) := by decide +kernel
theorem dX11_item_20 : decode cX11_item 20 = .ok (.iload_n 3, 1) := by decide +kernel
theorem dX11_item_21 : decode cX11_item 21 = .ok (.ifCond .ge 7, 3) := by decide +kernel
theorem dX11_item_24 : decode cX11_item 24 = .ok (.iconst (-1), 1) := by decide +kernel
theorem dX11_item_25 : decode cX11_item 25 = .ok (.goto 9, 3) := by decide +kernel
theorem dX11_item_28 : decode cX11_item 28 = .ok (.aload_n 0, 1) := by decide +kernel
theorem dX11_item_29 : decode cX11_item 29 = .ok (.getfield 62, 3) := by decide +kernel
theorem dX11_item_32 : decode cX11_item 32 = .ok (.iload_n 3, 1) := by decide +kernel
theorem dX11_item_33 : decode cX11_item 33 = .ok (.iaload, 1) := by decide +kernel
theorem dX11_item_34 : decode cX11_item 34 = .ok (.ireturn, 1) := by decide +kernel
set_option maxRecDepth 20000 in
theorem ggX11_whole_X11_rowOf : GoodIn wsX11_whole wsX11_rowOf := goodIn_r _ [7, 8, 9, 2, 10, 11, 6, 12, 13, 14, 15, 16, 17, 18, 19, 20, 21, 22, 23, 24, 25, 26, 27, 28, 29, 30, 31, 32, 33, 34, 35, 36, 37, 38, 39, 40, 41, 42, 43] rfl (by decide +kernel)
set_option maxRecDepth 20000 in
theorem gX11_whole_X11_rowOf : GoodIn wsX11_whole (wsV RX11 357 RX11 yX11_rowOf wsX11_rowOf) := goodIn_app (goodIn_of _ (by decide +kernel)) ggX11_whole_X11_rowOf
theorem dX11_whole_0 : decode cX11_whole 0 = .ok (.aload_n 0, 1) := by decide +kernel
theorem dX11_whole_1 : decode cX11_whole 1 = .ok (.iconst 0, 1) := by decide +kernel
theorem dX11_whole_2 : decode cX11_whole 2 = .ok (.putfield 78, 3) := by decide +kernel
theorem dX11_whole_5 : decode cX11_whole 5 = .ok (.aload_n 0, 1) := by decide +kernel
theorem dX11_whole_6 : decode cX11_whole 6 = .ok (.iload_n 1, 1) := by decide +kernel
theorem dX11_whole_7 : decode cX11_whole 7 = .ok (.iload_n 2, 1) := by decide +kernel
theorem dX11_whole_8 : decode cX11_whole 8 = .ok (.invokevirtual 357, 3) := by decide +kernel
theorem dX11_whole_11 : decode cX11_whole 11 = .ok (.istore_n 3, 1) := by decide +kernel
theorem dX11_whole_12 : decode cX11_whole 12 = .ok (.iload_n 3, 1) := by decide +kernel
theorem dX11_whole_13 : decode cX11_whole 13 = .ok (.ifCond .ge 7, 3) := by decide +kernel
theorem dX11_whole_16 : decode cX11_whole 16 = .ok (.lconst 0, 1) := by decide +kernel
theorem dX11_whole_17 : decode cX11_whole 17 = .ok (.goto 9, 3) := by decide +kernel
theorem dX11_whole_20 : decode cX11_whole 20 = .ok (.aload_n 0, 1) := by decide +kernel
theorem dX11_whole_21 : decode cX11_whole 21 = .ok (.getfield 65, 3) := by decide +kernel
theorem dX11_whole_24 : decode cX11_whole 24 = .ok (.iload_n 3, 1) := by decide +kernel
theorem dX11_whole_25 : decode cX11_whole 25 = .ok (.laload, 1) := by decide +kernel
theorem dX11_whole_26 : decode cX11_whole 26 = .ok (.lreturn, 1) := by decide +kernel
set_option maxRecDepth 20000 in
theorem ggX11_real_X11_rowOf : GoodIn wsX11_real wsX11_rowOf := goodIn_r _ [7, 8, 9, 10, 11, 12, 6, 13, 14, 15, 16, 17, 18, 19, 20, 21, 22, 23, 24, 25, 26, 27, 28, 29, 30, 31, 32, 33, 34, 35, 36, 37, 38, 39, 40, 41, 42, 43, 44] rfl (by decide +kernel)
set_option maxRecDepth 20000 in
theorem gX11_real_X11_rowOf : GoodIn wsX11_real (wsV RX11 357 RX11 yX11_rowOf wsX11_rowOf) := goodIn_app (goodIn_of _ (by decide +kernel)) ggX11_real_X11_rowOf
theorem dX11_real_0 : decode cX11_real 0 = .ok (.aload_n 0, 1) := by decide +kernel
theorem dX11_real_1 : decode cX11_real 1 = .ok (.iconst 0, 1) := by decide +kernel
theorem dX11_real_2 : decode cX11_real 2 = .ok (.putfield 78, 3) := by decide +kernel
theorem dX11_real_5 : decode cX11_real 5 = .ok (.aload_n 0, 1) := by decide +kernel
theorem dX11_real_6 : decode cX11_real 6 = .ok (.iload_n 1, 1) := by decide +kernel
theorem dX11_real_7 : decode cX11_real 7 = .ok (.iload_n 2, 1) := by decide +kernel
theorem dX11_real_8 : decode cX11_real 8 = .ok (.invokevirtual 357, 3) := by decide +kernel
theorem dX11_real_11 : decode cX11_real 11 = .ok (.istore_n 3, 1) := by decide +kernel
theorem dX11_real_12 : decode cX11_real 12 = .ok (.iload_n 3, 1) := by decide +kernel
theorem dX11_real_13 : decode cX11_real 13 = .ok (.ifCond .ge 7, 3) := by decide +kernel
theorem dX11_real_16 : decode cX11_real 16 = .ok (.dconst 0, 1) := by decide +kernel
theorem dX11_real_17 : decode cX11_real 17 = .ok (.goto 9, 3) := by decide +kernel
theorem dX11_real_20 : decode cX11_real 20 = .ok (.aload_n 0, 1) := by decide +kernel
theorem dX11_real_21 : decode cX11_real 21 = .ok (.getfield 69, 3) := by decide +kernel
theorem dX11_real_24 : decode cX11_real 24 = .ok (.iload_n 3, 1) := by decide +kernel
theorem dX11_real_25 : decode cX11_real 25 = .ok (.daload, 1) := by decide +kernel
theorem dX11_real_26 : decode cX11_real 26 = .ok (.dreturn, 1) := by decide +kernel
set_option maxRecDepth 20000 in
theorem ggX11_sign_X11_rowOf : GoodIn wsX11_sign wsX11_rowOf := goodIn_r _ [9, 10, 2, 3, 11, 12, 8, 13, 14, 15, 16, 17, 18, 19, 20, 21, 22, 23, 24, 25, 26, 27, 28, 29, 30, 31, 32, 33, 34, 35, 36, 37, 38, 39, 40, 41, 42, 43, 44] rfl (by decide +kernel)
set_option maxRecDepth 20000 in
theorem gX11_sign_X11_rowOf : GoodIn wsX11_sign (wsV RX11 357 RX11 yX11_rowOf wsX11_rowOf) := goodIn_app (goodIn_of _ (by decide +kernel)) ggX11_sign_X11_rowOf
theorem dX11_sign_0 : decode cX11_sign 0 = .ok (.aload_n 0, 1) := by decide +kernel
theorem dX11_sign_1 : decode cX11_sign 1 = .ok (.iconst 0, 1) := by decide +kernel
theorem dX11_sign_2 : decode cX11_sign 2 = .ok (.putfield 78, 3) := by decide +kernel
theorem dX11_sign_5 : decode cX11_sign 5 = .ok (.aload_n 0, 1) := by decide +kernel
theorem dX11_sign_6 : decode cX11_sign 6 = .ok (.iload_n 1, 1) := by decide +kernel
theorem dX11_sign_7 : decode cX11_sign 7 = .ok (.iload_n 2, 1) := by decide +kernel
theorem dX11_sign_8 : decode cX11_sign 8 = .ok (.invokevirtual 357, 3) := by decide +kernel
theorem dX11_sign_11 : decode cX11_sign 11 = .ok (.istore 4, 2) := by decide +kernel
theorem dX11_sign_13 : decode cX11_sign 13 = .ok (.iload 4, 2) := by decide +kernel
theorem dX11_sign_15 : decode cX11_sign 15 = .ok (.ifCond .lt 46, 3) := by decide +kernel
theorem dX11_sign_18 : decode cX11_sign 18 = .ok (.aload_n 0, 1) := by decide +kernel
theorem dX11_sign_19 : decode cX11_sign 19 = .ok (.getfield 62, 3) := by decide +kernel
theorem dX11_sign_22 : decode cX11_sign 22 = .ok (.iload 4, 2) := by decide +kernel
theorem dX11_sign_24 : decode cX11_sign 24 = .ok (.iaload, 1) := by decide +kernel
theorem dX11_sign_25 : decode cX11_sign 25 = .ok (.iconst 5, 1) := by decide +kernel
theorem dX11_sign_26 : decode cX11_sign 26 = .ok (.if_icmp .ne 35, 3) := by decide +kernel
theorem dX11_sign_29 : decode cX11_sign 29 = .ok (.iload_n 3, 1) := by decide +kernel
theorem dX11_sign_30 : decode cX11_sign 30 = .ok (.ifCond .lt 31, 3) := by decide +kernel
theorem dX11_sign_33 : decode cX11_sign 33 = .ok (.iload_n 3, 1) := by decide +kernel
theorem dX11_sign_34 : decode cX11_sign 34 = .ok (.i2l, 1) := by decide +kernel
theorem dX11_sign_35 : decode cX11_sign 35 = .ok (.aload_n 0, 1) := by decide +kernel
theorem dX11_sign_36 : decode cX11_sign 36 = .ok (.getfield 65, 3) := by decide +kernel
theorem dX11_sign_39 : decode cX11_sign 39 = .ok (.iload 4, 2) := by decide +kernel
theorem dX11_sign_41 : decode cX11_sign 41 = .ok (.laload, 1) := by decide +kernel
theorem dX11_sign_42 : decode cX11_sign 42 = .ok (.lcmp, 1) := by decide +kernel
theorem dX11_sign_43 : decode cX11_sign 43 = .ok (.ifCond .ge 18, 3) := by decide +kernel
theorem dX11_sign_46 : decode cX11_sign 46 = .ok (.aload_n 0, 1) := by decide +kernel
theorem dX11_sign_47 : decode cX11_sign 47 = .ok (.getfield 72, 3) := by decide +kernel
theorem dX11_sign_50 : decode cX11_sign 50 = .ok (.bipush 80, 2) := by decide +kernel
theorem dX11_sign_52 : decode cX11_sign 52 = .ok (.iload 4, 2) := by decide +kernel
theorem dX11_sign_54 : decode cX11_sign 54 = .ok (.imul, 1) := by decide +kernel
theorem dX11_sign_55 : decode cX11_sign 55 = .ok (.iload_n 3, 1) := by decide +kernel
theorem dX11_sign_56 : decode cX11_sign 56 = .ok (.iadd, 1) := by decide +kernel
theorem dX11_sign_57 : decode cX11_sign 57 = .ok (.caload, 1) := by decide +kernel
theorem dX11_sign_58 : decode cX11_sign 58 = .ok (.goto 5, 3) := by decide +kernel
theorem dX11_sign_61 : decode cX11_sign 61 = .ok (.bipush 32, 2) := by decide +kernel
theorem dX11_sign_63 : decode cX11_sign 63 = .ok (.ireturn, 1) := by decide +kernel
theorem dJ9_max_7cf53_0 : decode cJ9_max_7cf53 0 = .ok (.iload_n 0, 1) := by decide +kernel
theorem dJ9_max_7cf53_1 : decode cJ9_max_7cf53 1 = .ok (.iload_n 1, 1) := by decide +kernel
theorem dJ9_max_7cf53_2 : decode cJ9_max_7cf53 2 = .ok (.if_icmp .lt 7, 3) := by decide +kernel
theorem dJ9_max_7cf53_5 : decode cJ9_max_7cf53 5 = .ok (.iload_n 0, 1) := by decide +kernel
theorem dJ9_max_7cf53_6 : decode cJ9_max_7cf53 6 = .ok (.goto 4, 3) := by decide +kernel
theorem dJ9_max_7cf53_9 : decode cJ9_max_7cf53 9 = .ok (.iload_n 1, 1) := by decide +kernel
theorem dJ9_max_7cf53_10 : decode cJ9_max_7cf53 10 = .ok (.ireturn, 1) := by decide +kernel
theorem dJ9_max_f86c9_0 : decode cJ9_max_f86c9 0 = .ok (.lload_n 0, 1) := by decide +kernel
theorem dJ9_max_f86c9_1 : decode cJ9_max_f86c9 1 = .ok (.lload_n 2, 1) := by decide +kernel
theorem dJ9_max_f86c9_2 : decode cJ9_max_f86c9 2 = .ok (.lcmp, 1) := by decide +kernel
theorem dJ9_max_f86c9_3 : decode cJ9_max_f86c9 3 = .ok (.ifCond .lt 7, 3) := by decide +kernel
theorem dJ9_max_f86c9_6 : decode cJ9_max_f86c9 6 = .ok (.lload_n 0, 1) := by decide +kernel
theorem dJ9_max_f86c9_7 : decode cJ9_max_f86c9 7 = .ok (.goto 4, 3) := by decide +kernel
theorem dJ9_max_f86c9_10 : decode cJ9_max_f86c9 10 = .ok (.lload_n 2, 1) := by decide +kernel
theorem dJ9_max_f86c9_11 : decode cJ9_max_f86c9 11 = .ok (.lreturn, 1) := by decide +kernel
theorem dJ9_min_7cf53_0 : decode cJ9_min_7cf53 0 = .ok (.iload_n 0, 1) := by decide +kernel
theorem dJ9_min_7cf53_1 : decode cJ9_min_7cf53 1 = .ok (.iload_n 1, 1) := by decide +kernel
theorem dJ9_min_7cf53_2 : decode cJ9_min_7cf53 2 = .ok (.if_icmp .gt 7, 3) := by decide +kernel
theorem dJ9_min_7cf53_5 : decode cJ9_min_7cf53 5 = .ok (.iload_n 0, 1) := by decide +kernel
theorem dJ9_min_7cf53_6 : decode cJ9_min_7cf53 6 = .ok (.goto 4, 3) := by decide +kernel
theorem dJ9_min_7cf53_9 : decode cJ9_min_7cf53 9 = .ok (.iload_n 1, 1) := by decide +kernel
theorem dJ9_min_7cf53_10 : decode cJ9_min_7cf53 10 = .ok (.ireturn, 1) := by decide +kernel
theorem dJ9_min_f86c9_0 : decode cJ9_min_f86c9 0 = .ok (.lload_n 0, 1) := by decide +kernel
theorem dJ9_min_f86c9_1 : decode cJ9_min_f86c9 1 = .ok (.lload_n 2, 1) := by decide +kernel
theorem dJ9_min_f86c9_2 : decode cJ9_min_f86c9 2 = .ok (.lcmp, 1) := by decide +kernel
theorem dJ9_min_f86c9_3 : decode cJ9_min_f86c9 3 = .ok (.ifCond .gt 7, 3) := by decide +kernel
theorem dJ9_min_f86c9_6 : decode cJ9_min_f86c9 6 = .ok (.lload_n 0, 1) := by decide +kernel
theorem dJ9_min_f86c9_7 : decode cJ9_min_f86c9 7 = .ok (.goto 4, 3) := by decide +kernel
theorem dJ9_min_f86c9_10 : decode cJ9_min_f86c9 10 = .ok (.lload_n 2, 1) := by decide +kernel
theorem dJ9_min_f86c9_11 : decode cJ9_min_f86c9 11 = .ok (.lreturn, 1) := by decide +kernel
set_option maxRecDepth 20000 in
theorem ggJ0_length_8abf5_J0_coder_7d493 : GoodIn wsJ0_length_8abf5 wsJ0_coder_7d493 := goodIn_r _ [6, 7, 8] rfl (by decide +kernel)
set_option maxRecDepth 20000 in
theorem gJ0_length_8abf5_J0_coder_7d493 : GoodIn wsJ0_length_8abf5 (wsV RJ0 335 RJ0 yJ0_coder_7d493 wsJ0_coder_7d493) := goodIn_app (goodIn_of _ (by decide +kernel)) ggJ0_length_8abf5_J0_coder_7d493
theorem dJ0_length_8abf5_0 : decode cJ0_length_8abf5 0 = .ok (.aload_n 0, 1) := by decide +kernel
theorem dJ0_length_8abf5_1 : decode cJ0_length_8abf5 1 = .ok (.getfield 9, 3) := by decide +kernel
theorem dJ0_length_8abf5_4 : decode cJ0_length_8abf5 4 = .ok (.arraylength, 1) := by decide +kernel
theorem dJ0_length_8abf5_5 : decode cJ0_length_8abf5 5 = .ok (.aload_n 0, 1) := by decide +kernel
theorem dJ0_length_8abf5_6 : decode cJ0_length_8abf5 6 = .ok (.invokevirtual 335, 3) := by decide +kernel
theorem dJ0_length_8abf5_9 : decode cJ0_length_8abf5 9 = .ok (.ishr, 1) := by decide +kernel
theorem dJ0_length_8abf5_10 : decode cJ0_length_8abf5 10 = .ok (.ireturn, 1) := by decide +kernel
set_option maxRecDepth 20000 in
theorem ggJ0_charAt_5068e_J0_isLatin1_aae02 : GoodIn wsJ0_charAt_5068e wsJ0_isLatin1_aae02 := goodIn_r _ [6, 7, 8] rfl (by decide +kernel)
set_option maxRecDepth 20000 in
theorem gJ0_charAt_5068e_J0_isLatin1_aae02 : GoodIn wsJ0_charAt_5068e (wsV RJ0 492 RJ0 yJ0_isLatin1_aae02 wsJ0_isLatin1_aae02) := goodIn_app (goodIn_of _ (by decide +kernel)) ggJ0_charAt_5068e_J0_isLatin1_aae02
set_option maxRecDepth 20000 in
theorem ggJ0_charAt_5068e_J1_charAt_3b067 : GoodIn wsJ0_charAt_5068e wsJ1_charAt_3b067 := goodIn_r _ [12, 13, 14, 5, 15, 16, 17, 18, 19, 20] rfl (by decide +kernel)
set_option maxRecDepth 20000 in
theorem gJ0_charAt_5068e_J1_charAt_3b067 : GoodIn wsJ0_charAt_5068e (va_wsS RJ0 495 yJ1_charAt_3b067 wsJ1_charAt_3b067) := goodIn_app (goodIn_of _ (by decide +kernel)) ggJ0_charAt_5068e_J1_charAt_3b067
set_option maxRecDepth 20000 in
theorem ggJ0_charAt_5068e_J2_charAt_3b067 : GoodIn wsJ0_charAt_5068e wsJ2_charAt_3b067 := goodIn_r _ [24, 25, 26, 23, 27, 28, 29, 30, 31, 14, 5, 15, 16, 17, 18, 19, 20, 32, 33, 34, 35, 36, 37] rfl (by decide +kernel)
set_option maxRecDepth 20000 in
theorem gJ0_charAt_5068e_J2_charAt_3b067 : GoodIn wsJ0_charAt_5068e (va_wsS RJ0 498 yJ2_charAt_3b067 wsJ2_charAt_3b067) := goodIn_app (goodIn_of _ (by decide +kernel)) ggJ0_charAt_5068e_J2_charAt_3b067
theorem dJ0_charAt_5068e_0 : decode cJ0_charAt_5068e 0 = .ok (.aload_n 0, 1) := by decide +kernel
theorem dJ0_charAt_5068e_1 : decode cJ0_charAt_5068e 1 = .ok (.invokevirtual 492, 3) := by decide +kernel
theorem dJ0_charAt_5068e_4 : decode cJ0_charAt_5068e 4 = .ok (.ifCond .eq 12, 3) := by decide +kernel
theorem dJ0_charAt_5068e_7 : decode cJ0_charAt_5068e 7 = .ok (.aload_n 0, 1) := by decide +kernel
theorem dJ0_charAt_5068e_8 : decode cJ0_charAt_5068e 8 = .ok (.getfield 9, 3) := by decide +kernel
theorem dJ0_charAt_5068e_11 : decode cJ0_charAt_5068e 11 = .ok (.iload_n 1, 1) := by decide +kernel
theorem dJ0_charAt_5068e_12 : decode cJ0_charAt_5068e 12 = .ok (.invokestatic 495, 3) := by decide +kernel
theorem dJ0_charAt_5068e_15 : decode cJ0_charAt_5068e 15 = .ok (.ireturn, 1) := by decide +kernel
theorem dJ0_charAt_5068e_16 : decode cJ0_charAt_5068e 16 = .ok (.aload_n 0, 1) := by decide +kernel
theorem dJ0_charAt_5068e_17 : decode cJ0_charAt_5068e 17 = .ok (.getfield 9, 3) := by decide +kernel
theorem dJ0_charAt_5068e_20 : decode cJ0_charAt_5068e 20 = .ok (.iload_n 1, 1) := by decide +kernel
theorem dJ0_charAt_5068e_21 : decode cJ0_charAt_5068e 21 = .ok (.invokestatic 498, 3) := by decide +kernel
theorem dJ0_charAt_5068e_24 : decode cJ0_charAt_5068e 24 = .ok (.ireturn, 1) := by decide +kernel
theorem dJ0_coder_7d493_0 : decode cJ0_coder_7d493 0 = .ok (.getstatic 38, 3) := by decide +kernel
theorem dJ0_coder_7d493_3 : decode cJ0_coder_7d493 3 = .ok (.ifCond .eq 10, 3) := by decide +kernel
theorem dJ0_coder_7d493_6 : decode cJ0_coder_7d493 6 = .ok (.aload_n 0, 1) := by decide +kernel
theorem dJ0_coder_7d493_7 : decode cJ0_coder_7d493 7 = .ok (.getfield 15, 3) := by decide +kernel
theorem dJ0_coder_7d493_10 : decode cJ0_coder_7d493 10 = .ok (.goto 4, 3) := by decide +kernel
theorem dJ0_coder_7d493_13 : decode cJ0_coder_7d493 13 = .ok (.iconst 1, 1) := by decide +kernel
theorem dJ0_coder_7d493_14 : decode cJ0_coder_7d493 14 = .ok (.ireturn, 1) := by decide +kernel
theorem dJ0_isLatin1_aae02_0 : decode cJ0_isLatin1_aae02 0 = .ok (.getstatic 38, 3) := by decide +kernel
theorem dJ0_isLatin1_aae02_3 : decode cJ0_isLatin1_aae02 3 = .ok (.ifCond .eq 14, 3) := by decide +kernel
theorem dJ0_isLatin1_aae02_6 : decode cJ0_isLatin1_aae02 6 = .ok (.aload_n 0, 1) := by decide +kernel
theorem dJ0_isLatin1_aae02_7 : decode cJ0_isLatin1_aae02 7 = .ok (.getfield 15, 3) := by decide +kernel
theorem dJ0_isLatin1_aae02_10 : decode cJ0_isLatin1_aae02 10 = .ok (.ifCond .ne 7, 3) := by decide +kernel
theorem dJ0_isLatin1_aae02_13 : decode cJ0_isLatin1_aae02 13 = .ok (.iconst 1, 1) := by decide +kernel
theorem dJ0_isLatin1_aae02_14 : decode cJ0_isLatin1_aae02 14 = .ok (.goto 4, 3) := by decide +kernel
theorem dJ0_isLatin1_aae02_17 : decode cJ0_isLatin1_aae02 17 = .ok (.iconst 0, 1) := by decide +kernel
theorem dJ0_isLatin1_aae02_18 : decode cJ0_isLatin1_aae02 18 = .ok (.ireturn, 1) := by decide +kernel
set_option maxRecDepth 20000 in
theorem ggJ0_checkIndex_df160_J3_checkIndex_8e157 : GoodIn wsJ0_checkIndex_df160 wsJ3_checkIndex_8e157 := goodIn_r _ [5] rfl (by decide +kernel)
set_option maxRecDepth 20000 in
theorem gJ0_checkIndex_df160_J3_checkIndex_8e157 : GoodIn wsJ0_checkIndex_df160 (va_wsS RJ0 1059 yJ3_checkIndex_8e157 wsJ3_checkIndex_8e157) := goodIn_app (goodIn_of _ (by decide +kernel)) ggJ0_checkIndex_df160_J3_checkIndex_8e157
theorem dJ0_checkIndex_df160_0 : decode cJ0_checkIndex_df160 0 = .ok (.iload_n 0, 1) := by decide +kernel
theorem dJ0_checkIndex_df160_1 : decode cJ0_checkIndex_df160 1 = .ok (.iload_n 1, 1) := by decide +kernel
theorem dJ0_checkIndex_df160_2 : decode cJ0_checkIndex_df160 2 = .ok (.getstatic 1053, 3) := by decide +kernel
theorem dJ0_checkIndex_df160_5 : decode cJ0_checkIndex_df160 5 = .ok (.invokestatic 1059, 3) := by decide +kernel
theorem dJ0_checkIndex_df160_8 : decode cJ0_checkIndex_df160 8 = .ok (.pop, 1) := by decide +kernel
theorem dJ0_checkIndex_df160_9 : decode cJ0_checkIndex_df160 9 = .ok (.return_, 1) := by decide +kernel
set_option maxRecDepth 20000 in
theorem ggJ1_charAt_3b067_J0_checkIndex_df160 : GoodIn wsJ1_charAt_3b067 wsJ0_checkIndex_df160 := goodIn_r _ [4, 5, 6, 7, 8, 9] rfl (by decide +kernel)
set_option maxRecDepth 20000 in
theorem gJ1_charAt_3b067_J0_checkIndex_df160 : GoodIn wsJ1_charAt_3b067 (va_wsS RJ1 9 yJ0_checkIndex_df160 wsJ0_checkIndex_df160) := goodIn_app (goodIn_of _ (by decide +kernel)) ggJ1_charAt_3b067_J0_checkIndex_df160
theorem dJ1_charAt_3b067_0 : decode cJ1_charAt_3b067 0 = .ok (.iload_n 1, 1) := by decide +kernel
theorem dJ1_charAt_3b067_1 : decode cJ1_charAt_3b067 1 = .ok (.aload_n 0, 1) := by decide +kernel
theorem dJ1_charAt_3b067_2 : decode cJ1_charAt_3b067 2 = .ok (.arraylength, 1) := by decide +kernel
theorem dJ1_charAt_3b067_3 : decode cJ1_charAt_3b067 3 = .ok (.invokestatic 9, 3) := by decide +kernel
theorem dJ1_charAt_3b067_6 : decode cJ1_charAt_3b067 6 = .ok (.aload_n 0, 1) := by decide +kernel
theorem dJ1_charAt_3b067_7 : decode cJ1_charAt_3b067 7 = .ok (.iload_n 1, 1) := by decide +kernel
theorem dJ1_charAt_3b067_8 : decode cJ1_charAt_3b067 8 = .ok (.baload, 1) := by decide +kernel
theorem dJ1_charAt_3b067_9 : decode cJ1_charAt_3b067 9 = .ok (.sipush 255, 3) := by decide +kernel
theorem dJ1_charAt_3b067_12 : decode cJ1_charAt_3b067 12 = .ok (.iand, 1) := by decide +kernel
theorem dJ1_charAt_3b067_13 : decode cJ1_charAt_3b067 13 = .ok (.i2c, 1) := by decide +kernel
theorem dJ1_charAt_3b067_14 : decode cJ1_charAt_3b067 14 = .ok (.ireturn, 1) := by decide +kernel
set_option maxRecDepth 20000 in
theorem ggJ2_getChar_3b067_J2_length_9d52b : GoodIn wsJ2_getChar_3b067 wsJ2_length_9d52b := goodIn_r _ [7] rfl (by decide +kernel)
set_option maxRecDepth 20000 in
theorem gJ2_getChar_3b067_J2_length_9d52b : GoodIn wsJ2_getChar_3b067 (va_wsS RJ2 48 yJ2_length_9d52b wsJ2_length_9d52b) := goodIn_app (goodIn_of _ (by decide +kernel)) ggJ2_getChar_3b067_J2_length_9d52b
theorem dJ2_getChar_3b067_0 : decode cJ2_getChar_3b067 0 = .ok (.getstatic 44, 3) := by decide +kernel
theorem dJ2_getChar_3b067_3 : decode cJ2_getChar_3b067 3 = .ok (.ifCond .ne 25, 3) := by decide +kernel
theorem dJ2_getChar_3b067_6 : decode cJ2_getChar_3b067 6 = .ok (.iload_n 1, 1) := by decide +kernel
theorem dJ2_getChar_3b067_7 : decode cJ2_getChar_3b067 7 = .ok (.ifCond .lt 11, 3) := by decide +kernel
theorem dJ2_getChar_3b067_10 : decode cJ2_getChar_3b067 10 = .ok (.iload_n 1, 1) := by decide +kernel
theorem dJ2_getChar_3b067_11 : decode cJ2_getChar_3b067 11 = .ok (.aload_n 0, 1) := by decide +kernel
theorem dJ2_getChar_3b067_12 : decode cJ2_getChar_3b067 12 = .ok (.invokestatic 48, 3) := by decide +kernel
theorem dJ2_getChar_3b067_15 : decode cJ2_getChar_3b067 15 = .ok (.if_icmp .lt 13, 3) := by decide +kernel
theorem dJ2_getChar_3b067_18 : decode cJ2_getChar_3b067 18 = .ok (.new 52, 3) := by decide +kernel
theorem dJ2_getChar_3b067_21 : decode cJ2_getChar_3b067 21 = .ok (.dup, 1) := by decide +kernel
theorem dJ2_getChar_3b067_22 : decode cJ2_getChar_3b067 22 = .ok (.ldc 54, 2) := by decide +kernel
theorem dJ2_getChar_3b067_24 : decode cJ2_getChar_3b067 24 = .ok (.invokespecial 56, 3) := by decide +kernel
theorem dJ2_getChar_3b067_27 : decode cJ2_getChar_3b067 27 = .ok (.athrow, 1) := by decide +kernel
theorem dJ2_getChar_3b067_28 : decode cJ2_getChar_3b067 28 = .ok (.iload_n 1, 1) := by decide +kernel
theorem dJ2_getChar_3b067_29 : decode cJ2_getChar_3b067 29 = .ok (.iconst 1, 1) := by decide +kernel
theorem dJ2_getChar_3b067_30 : decode cJ2_getChar_3b067 30 = .ok (.ishl, 1) := by decide +kernel
theorem dJ2_getChar_3b067_31 : decode cJ2_getChar_3b067 31 = .ok (.istore_n 1, 1) := by decide +kernel
theorem dJ2_getChar_3b067_32 : decode cJ2_getChar_3b067 32 = .ok (.aload_n 0, 1) := by decide +kernel
theorem dJ2_getChar_3b067_33 : decode cJ2_getChar_3b067 33 = .ok (.iload_n 1, 1) := by decide +kernel
theorem dJ2_getChar_3b067_34 : decode cJ2_getChar_3b067 34 = .ok (.iinc 1 1, 3) := by decide +kernel
theorem dJ2_getChar_3b067_37 : decode cJ2_getChar_3b067 37 = .ok (.baload, 1) := by decide +kernel
theorem dJ2_getChar_3b067_38 : decode cJ2_getChar_3b067 38 = .ok (.sipush 255, 3) := by decide +kernel
theorem dJ2_getChar_3b067_41 : decode cJ2_getChar_3b067 41 = .ok (.iand, 1) := by decide +kernel
theorem dJ2_getChar_3b067_42 : decode cJ2_getChar_3b067 42 = .ok (.getstatic 59, 3) := by decide +kernel
theorem dJ2_getChar_3b067_45 : decode cJ2_getChar_3b067 45 = .ok (.ishl, 1) := by decide +kernel
theorem dJ2_getChar_3b067_46 : decode cJ2_getChar_3b067 46 = .ok (.aload_n 0, 1) := by decide +kernel
theorem dJ2_getChar_3b067_47 : decode cJ2_getChar_3b067 47 = .ok (.iload_n 1, 1) := by decide +kernel
theorem dJ2_getChar_3b067_48 : decode cJ2_getChar_3b067 48 = .ok (.baload, 1) := by decide +kernel
theorem dJ2_getChar_3b067_49 : decode cJ2_getChar_3b067 49 = .ok (.sipush 255, 3) := by decide +kernel
theorem dJ2_getChar_3b067_52 : decode cJ2_getChar_3b067 52 = .ok (.iand, 1) := by decide +kernel
theorem dJ2_getChar_3b067_53 : decode cJ2_getChar_3b067 53 = .ok (.getstatic 63, 3) := by decide +kernel
theorem dJ2_getChar_3b067_56 : decode cJ2_getChar_3b067 56 = .ok (.ishl, 1) := by decide +kernel
theorem dJ2_getChar_3b067_57 : decode cJ2_getChar_3b067 57 = .ok (.ior, 1) := by decide +kernel
theorem dJ2_getChar_3b067_58 : decode cJ2_getChar_3b067 58 = .ok (.i2c, 1) := by decide +kernel
theorem dJ2_getChar_3b067_59 : decode cJ2_getChar_3b067 59 = .ok (.ireturn, 1) := by decide +kernel
theorem dJ2_length_9d52b_0 : decode cJ2_length_9d52b 0 = .ok (.aload_n 0, 1) := by decide +kernel
theorem dJ2_length_9d52b_1 : decode cJ2_length_9d52b 1 = .ok (.arraylength, 1) := by decide +kernel
theorem dJ2_length_9d52b_2 : decode cJ2_length_9d52b 2 = .ok (.iconst 1, 1) := by decide +kernel
theorem dJ2_length_9d52b_3 : decode cJ2_length_9d52b 3 = .ok (.ishr, 1) := by decide +kernel
theorem dJ2_length_9d52b_4 : decode cJ2_length_9d52b 4 = .ok (.ireturn, 1) := by decide +kernel
set_option maxRecDepth 20000 in
theorem ggJ2_charAt_3b067_J2_checkIndex_2214a : GoodIn wsJ2_charAt_3b067 wsJ2_checkIndex_2214a := goodIn_r _ [4, 5, 6, 3, 7, 8, 9, 10, 11, 12, 13, 14, 15, 16] rfl (by decide +kernel)
set_option maxRecDepth 20000 in
theorem gJ2_charAt_3b067_J2_checkIndex_2214a : GoodIn wsJ2_charAt_3b067 (va_wsS RJ2 67 yJ2_checkIndex_2214a wsJ2_checkIndex_2214a) := goodIn_app (goodIn_of _ (by decide +kernel)) ggJ2_charAt_3b067_J2_checkIndex_2214a
set_option maxRecDepth 20000 in
theorem ggJ2_charAt_3b067_J2_getChar_3b067 : GoodIn wsJ2_charAt_3b067 wsJ2_getChar_3b067 := goodIn_r _ [19, 20, 21, 22, 5, 6, 3, 7] rfl (by decide +kernel)
set_option maxRecDepth 20000 in
theorem gJ2_charAt_3b067_J2_getChar_3b067 : GoodIn wsJ2_charAt_3b067 (va_wsS RJ2 71 yJ2_getChar_3b067 wsJ2_getChar_3b067) := goodIn_app (goodIn_of _ (by decide +kernel)) ggJ2_charAt_3b067_J2_getChar_3b067
theorem dJ2_charAt_3b067_0 : decode cJ2_charAt_3b067 0 = .ok (.iload_n 1, 1) := by decide +kernel
theorem dJ2_charAt_3b067_1 : decode cJ2_charAt_3b067 1 = .ok (.aload_n 0, 1) := by decide +kernel
theorem dJ2_charAt_3b067_2 : decode cJ2_charAt_3b067 2 = .ok (.invokestatic 67, 3) := by decide +kernel
theorem dJ2_charAt_3b067_5 : decode cJ2_charAt_3b067 5 = .ok (.aload_n 0, 1) := by decide +kernel
theorem dJ2_charAt_3b067_6 : decode cJ2_charAt_3b067 6 = .ok (.iload_n 1, 1) := by decide +kernel
theorem dJ2_charAt_3b067_7 : decode cJ2_charAt_3b067 7 = .ok (.invokestatic 71, 3) := by decide +kernel
theorem dJ2_charAt_3b067_10 : decode cJ2_charAt_3b067 10 = .ok (.ireturn, 1) := by decide +kernel
set_option maxRecDepth 20000 in
theorem ggJ2_checkIndex_2214a_J2_length_9d52b : GoodIn wsJ2_checkIndex_2214a wsJ2_length_9d52b := goodIn_r _ [4] rfl (by decide +kernel)
set_option maxRecDepth 20000 in
theorem gJ2_checkIndex_2214a_J2_length_9d52b : GoodIn wsJ2_checkIndex_2214a (va_wsS RJ2 48 yJ2_length_9d52b wsJ2_length_9d52b) := goodIn_app (goodIn_of _ (by decide +kernel)) ggJ2_checkIndex_2214a_J2_length_9d52b
set_option maxRecDepth 20000 in
theorem ggJ2_checkIndex_2214a_J0_checkIndex_df160 : GoodIn wsJ2_checkIndex_2214a wsJ0_checkIndex_df160 := goodIn_r _ [8, 9, 10, 11, 12, 13] rfl (by decide +kernel)
set_option maxRecDepth 20000 in
theorem gJ2_checkIndex_2214a_J0_checkIndex_df160 : GoodIn wsJ2_checkIndex_2214a (va_wsS RJ2 414 yJ0_checkIndex_df160 wsJ0_checkIndex_df160) := goodIn_app (goodIn_of _ (by decide +kernel)) ggJ2_checkIndex_2214a_J0_checkIndex_df160
theorem dJ2_checkIndex_2214a_0 : decode cJ2_checkIndex_2214a 0 = .ok (.iload_n 0, 1) := by decide +kernel
theorem dJ2_checkIndex_2214a_1 : decode cJ2_checkIndex_2214a 1 = .ok (.aload_n 1, 1) := by decide +kernel
theorem dJ2_checkIndex_2214a_2 : decode cJ2_checkIndex_2214a 2 = .ok (.invokestatic 48, 3) := by decide +kernel
theorem dJ2_checkIndex_2214a_5 : decode cJ2_checkIndex_2214a 5 = .ok (.invokestatic 414, 3) := by decide +kernel
theorem dJ2_checkIndex_2214a_8 : decode cJ2_checkIndex_2214a 8 = .ok (.return_, 1) := by decide +kernel
theorem dJ3_checkIndex_8e157_0 : decode cJ3_checkIndex_8e157 0 = .ok (.iload_n 0, 1) := by decide +kernel
theorem dJ3_checkIndex_8e157_1 : decode cJ3_checkIndex_8e157 1 = .ok (.ifCond .lt 8, 3) := by decide +kernel
theorem dJ3_checkIndex_8e157_4 : decode cJ3_checkIndex_8e157 4 = .ok (.iload_n 0, 1) := by decide +kernel
theorem dJ3_checkIndex_8e157_5 : decode cJ3_checkIndex_8e157 5 = .ok (.iload_n 1, 1) := by decide +kernel
theorem dJ3_checkIndex_8e157_6 : decode cJ3_checkIndex_8e157 6 = .ok (.if_icmp .lt 10, 3) := by decide +kernel
theorem dJ3_checkIndex_8e157_9 : decode cJ3_checkIndex_8e157 9 = .ok (.aload_n 2, 1) := by decide +kernel
theorem dJ3_checkIndex_8e157_10 : decode cJ3_checkIndex_8e157 10 = .ok (.iload_n 0, 1) := by decide +kernel
theorem dJ3_checkIndex_8e157_11 : decode cJ3_checkIndex_8e157 11 = .ok (.iload_n 1, 1) := by decide +kernel
theorem dJ3_checkIndex_8e157_12 : decode cJ3_checkIndex_8e157 12 = .ok (.invokestatic 95, 3) := by decide +kernel
theorem dJ3_checkIndex_8e157_15 : decode cJ3_checkIndex_8e157 15 = .ok (.athrow, 1) := by decide +kernel
theorem dJ3_checkIndex_8e157_16 : decode cJ3_checkIndex_8e157 16 = .ok (.iload_n 0, 1) := by decide +kernel
theorem dJ3_checkIndex_8e157_17 : decode cJ3_checkIndex_8e157 17 = .ok (.ireturn, 1) := by decide +kernel
