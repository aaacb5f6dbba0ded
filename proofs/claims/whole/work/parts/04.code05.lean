theorem dX11_read_149 : decode cX11_read 149 = .ok (.ifCond .ne 16, 3) := by decide +kernel
theorem dX11_read_152 : decode cX11_read 152 = .ok (.aload_n 0, 1) := by decide +kernel
theorem dX11_read_153 : decode cX11_read 153 = .ok (.invokevirtual 99, 3) := by decide +kernel
theorem dX11_read_156 : decode cX11_read 156 = .ok (.pop, 1) := by decide +kernel
theorem dX11_read_157 : decode cX11_read 157 = .ok (.aload_n 0, 1) := by decide +kernel
theorem dX11_read_158 : decode cX11_read 158 = .ok (.aload_n 0, 1) := by decide +kernel
theorem dX11_read_159 : decode cX11_read 159 = .ok (.getfield 92, 3) := by decide +kernel
theorem dX11_read_162 : decode cX11_read 162 = .ok (.invokevirtual 107, 3) := by decide +kernel
theorem dX11_read_165 : decode cX11_read 165 = .ok (.aload_n 0, 1) := by decide +kernel
theorem dX11_read_166 : decode cX11_read 166 = .ok (.getfield 21, 3) := by decide +kernel
theorem dX11_read_169 : decode cX11_read 169 = .ok (.bipush 36, 2) := by decide +kernel
theorem dX11_read_171 : decode cX11_read 171 = .ok (.dup2, 1) := by decide +kernel
theorem dX11_read_172 : decode cX11_read 172 = .ok (.iaload, 1) := by decide +kernel
theorem dX11_read_173 : decode cX11_read 173 = .ok (.iconst 1, 1) := by decide +kernel
theorem dX11_read_174 : decode cX11_read 174 = .ok (.iadd, 1) := by decide +kernel
theorem dX11_read_175 : decode cX11_read 175 = .ok (.iastore, 1) := by decide +kernel
theorem dX11_read_176 : decode cX11_read 176 = .ok (.aload_n 0, 1) := by decide +kernel
theorem dX11_read_177 : decode cX11_read 177 = .ok (.getfield 95, 3) := by decide +kernel
theorem dX11_read_180 : decode cX11_read 180 = .ok (.ifCond .ne 36, 3) := by decide +kernel
theorem dX11_read_183 : decode cX11_read 183 = .ok (.aload_n 0, 1) := by decide +kernel
theorem dX11_read_184 : decode cX11_read 184 = .ok (.getfield 21, 3) := by decide +kernel
theorem dX11_read_187 : decode cX11_read 187 = .ok (.bipush 36, 2) := by decide +kernel
theorem dX11_read_189 : decode cX11_read 189 = .ok (.iaload, 1) := by decide +kernel
theorem dX11_read_190 : decode cX11_read 190 = .ok (.iconst 5, 1) := by decide +kernel
theorem dX11_read_191 : decode cX11_read 191 = .ok (.if_icmp .ge 25, 3) := by decide +kernel
theorem dX11_read_194 : decode cX11_read 194 = .ok (.aload_n 0, 1) := by decide +kernel
theorem dX11_read_195 : decode cX11_read 195 = .ok (.getfield 28, 3) := by decide +kernel
theorem dX11_read_198 : decode cX11_read 198 = .ok (.iload_n 3, 1) := by decide +kernel
theorem dX11_read_199 : decode cX11_read 199 = .ok (.baload, 1) := by decide +kernel
theorem dX11_read_200 : decode cX11_read 200 = .ok (.ifCond .ne 16, 3) := by decide +kernel
theorem dX11_read_203 : decode cX11_read 203 = .ok (.aload_n 0, 1) := by decide +kernel
theorem dX11_read_204 : decode cX11_read 204 = .ok (.bipush 44, 2) := by decide +kernel
theorem dX11_read_206 : decode cX11_read 206 = .ok (.invokevirtual 103, 3) := by decide +kernel
theorem dX11_read_209 : decode cX11_read 209 = .ok (.ifCond .eq 7, 3) := by decide +kernel
theorem dX11_read_212 : decode cX11_read 212 = .ok (.iconst 1, 1) := by decide +kernel
theorem dX11_read_213 : decode cX11_read 213 = .ok (.goto 4, 3) := by decide +kernel
theorem dX11_read_216 : decode cX11_read 216 = .ok (.iconst 0, 1) := by decide +kernel
theorem dX11_read_217 : decode cX11_read 217 = .ok (.istore_n 2, 1) := by decide +kernel
theorem dX11_read_218 : decode cX11_read 218 = .ok (.goto (-145), 3) := by decide +kernel
theorem dX11_read_221 : decode cX11_read 221 = .ok (.aload_n 0, 1) := by decide +kernel
theorem dX11_read_222 : decode cX11_read 222 = .ok (.bipush 41, 2) := by decide +kernel
theorem dX11_read_224 : decode cX11_read 224 = .ok (.invokevirtual 148, 3) := by decide +kernel
theorem dX11_read_227 : decode cX11_read 227 = .ok (.aload_n 0, 1) := by decide +kernel
theorem dX11_read_228 : decode cX11_read 228 = .ok (.getfield 95, 3) := by decide +kernel
theorem dX11_read_231 : decode cX11_read 231 = .ok (.ifCond .ne 18, 3) := by decide +kernel
theorem dX11_read_234 : decode cX11_read 234 = .ok (.aload_n 0, 1) := by decide +kernel
theorem dX11_read_235 : decode cX11_read 235 = .ok (.invokevirtual 99, 3) := by decide +kernel
theorem dX11_read_238 : decode cX11_read 238 = .ok (.ifCond .eq 11, 3) := by decide +kernel
theorem dX11_read_241 : decode cX11_read 241 = .ok (.aload_n 0, 1) := by decide +kernel
theorem dX11_read_242 : decode cX11_read 242 = .ok (.aload_n 0, 1) := by decide +kernel
theorem dX11_read_243 : decode cX11_read 243 = .ok (.getfield 92, 3) := by decide +kernel
theorem dX11_read_246 : decode cX11_read 246 = .ok (.invokevirtual 107, 3) := by decide +kernel
theorem dX11_read_249 : decode cX11_read 249 = .ok (.iload_n 1, 1) := by decide +kernel
theorem dX11_read_250 : decode cX11_read 250 = .ok (.bipush 97, 2) := by decide +kernel
theorem dX11_read_252 : decode cX11_read 252 = .ok (.isub, 1) := by decide +kernel
theorem dX11_read_253 : decode cX11_read 253 = .ok (.ireturn, 1) := by decide +kernel
theorem dX11_least_0 : decode cX11_least 0 = .ok (.aload_n 0, 1) := by decide +kernel
theorem dX11_least_1 : decode cX11_least 1 = .ok (.getfield 21, 3) := by decide +kernel
theorem dX11_least_4 : decode cX11_least 4 = .ok (.iload_n 1, 1) := by decide +kernel
theorem dX11_least_5 : decode cX11_least 5 = .ok (.iaload, 1) := by decide +kernel
theorem dX11_least_6 : decode cX11_least 6 = .ok (.istore_n 2, 1) := by decide +kernel
theorem dX11_least_7 : decode cX11_least 7 = .ok (.iload_n 2, 1) := by decide +kernel
theorem dX11_least_8 : decode cX11_least 8 = .ok (.ifCond .le 39, 3) := by decide +kernel
theorem dX11_least_11 : decode cX11_least 11 = .ok (.aload_n 0, 1) := by decide +kernel
theorem dX11_least_12 : decode cX11_least 12 = .ok (.getfield 24, 3) := by decide +kernel
theorem dX11_least_15 : decode cX11_least 15 = .ok (.iconst 5, 1) := by decide +kernel
theorem dX11_least_16 : decode cX11_least 16 = .ok (.iload_n 1, 1) := by decide +kernel
theorem dX11_least_17 : decode cX11_least 17 = .ok (.imul, 1) := by decide +kernel
theorem dX11_least_18 : decode cX11_least 18 = .ok (.iload_n 2, 1) := by decide +kernel
theorem dX11_least_19 : decode cX11_least 19 = .ok (.iadd, 1) := by decide +kernel
theorem dX11_least_20 : decode cX11_least 20 = .ok (.iconst 1, 1) := by decide +kernel
theorem dX11_least_21 : decode cX11_least 21 = .ok (.isub, 1) := by decide +kernel
theorem dX11_least_22 : decode cX11_least 22 = .ok (.baload, 1) := by decide +kernel
theorem dX11_least_23 : decode cX11_least 23 = .ok (.ifCond .ne 18, 3) := by decide +kernel
theorem dX11_least_26 : decode cX11_least 26 = .ok (.aload_n 0, 1) := by decide +kernel
theorem dX11_least_27 : decode cX11_least 27 = .ok (.getfield 28, 3) := by decide +kernel
theorem dX11_least_30 : decode cX11_least 30 = .ok (.iconst 5, 1) := by decide +kernel
theorem dX11_least_31 : decode cX11_least 31 = .ok (.iload_n 1, 1) := by decide +kernel
theorem dX11_least_32 : decode cX11_least 32 = .ok (.imul, 1) := by decide +kernel
theorem dX11_least_33 : decode cX11_least 33 = .ok (.iload_n 2, 1) := by decide +kernel
theorem dX11_least_34 : decode cX11_least 34 = .ok (.iadd, 1) := by decide +kernel
theorem dX11_least_35 : decode cX11_least 35 = .ok (.iconst 1, 1) := by decide +kernel
theorem dX11_least_36 : decode cX11_least 36 = .ok (.isub, 1) := by decide +kernel
theorem dX11_least_37 : decode cX11_least 37 = .ok (.baload, 1) := by decide +kernel
theorem dX11_least_38 : decode cX11_least 38 = .ok (.ifCond .eq 9, 3) := by decide +kernel
theorem dX11_least_41 : decode cX11_least 41 = .ok (.iinc 2 (-1), 3) := by decide +kernel
theorem dX11_least_44 : decode cX11_least 44 = .ok (.goto (-37), 3) := by decide +kernel
theorem dX11_least_47 : decode cX11_least 47 = .ok (.iload_n 2, 1) := by decide +kernel
theorem dX11_least_48 : decode cX11_least 48 = .ok (.ireturn, 1) := by decide +kernel
theorem dX11_most_0 : decode cX11_most 0 = .ok (.aload_n 0, 1) := by decide +kernel
theorem dX11_most_1 : decode cX11_most 1 = .ok (.getfield 21, 3) := by decide +kernel
theorem dX11_most_4 : decode cX11_most 4 = .ok (.iload_n 1, 1) := by decide +kernel
theorem dX11_most_5 : decode cX11_most 5 = .ok (.iaload, 1) := by decide +kernel
theorem dX11_most_6 : decode cX11_most 6 = .ok (.ifCond .le 28, 3) := by decide +kernel
theorem dX11_most_9 : decode cX11_most 9 = .ok (.aload_n 0, 1) := by decide +kernel
theorem dX11_most_10 : decode cX11_most 10 = .ok (.getfield 28, 3) := by decide +kernel
theorem dX11_most_13 : decode cX11_most 13 = .ok (.iconst 5, 1) := by decide +kernel
theorem dX11_most_14 : decode cX11_most 14 = .ok (.iload_n 1, 1) := by decide +kernel
theorem dX11_most_15 : decode cX11_most 15 = .ok (.imul, 1) := by decide +kernel
theorem dX11_most_16 : decode cX11_most 16 = .ok (.aload_n 0, 1) := by decide +kernel
theorem dX11_most_17 : decode cX11_most 17 = .ok (.getfield 21, 3) := by decide +kernel
theorem dX11_most_20 : decode cX11_most 20 = .ok (.iload_n 1, 1) := by decide +kernel
theorem dX11_most_21 : decode cX11_most 21 = .ok (.iaload, 1) := by decide +kernel
theorem dX11_most_22 : decode cX11_most 22 = .ok (.iadd, 1) := by decide +kernel
theorem dX11_most_23 : decode cX11_most 23 = .ok (.iconst 1, 1) := by decide +kernel
theorem dX11_most_24 : decode cX11_most 24 = .ok (.isub, 1) := by decide +kernel
theorem dX11_most_25 : decode cX11_most 25 = .ok (.baload, 1) := by decide +kernel
theorem dX11_most_26 : decode cX11_most 26 = .ok (.ifCond .eq 8, 3) := by decide +kernel
theorem dX11_most_29 : decode cX11_most 29 = .ok (.bipush 8, 2) := by decide +kernel
theorem dX11_most_31 : decode cX11_most 31 = .ok (.goto 9, 3) := by decide +kernel
theorem dX11_most_34 : decode cX11_most 34 = .ok (.aload_n 0, 1) := by decide +kernel
theorem dX11_most_35 : decode cX11_most 35 = .ok (.getfield 21, 3) := by decide +kernel
theorem dX11_most_38 : decode cX11_most 38 = .ok (.iload_n 1, 1) := by decide +kernel
theorem dX11_most_39 : decode cX11_most 39 = .ok (.iaload, 1) := by decide +kernel
theorem dX11_most_40 : decode cX11_most 40 = .ok (.ireturn, 1) := by decide +kernel
set_option maxRecDepth 20000 in
theorem ggX11_takesMany_X11_least : GoodIn wsX11_takesMany wsX11_least := goodIn_r _ [5, 6, 7, 8, 13, 14, 15, 16, 17, 18, 19, 20, 21, 22, 23, 24, 25, 26, 27, 28, 29, 30, 31, 32, 33, 34, 35, 36, 37, 38, 39, 40] rfl (by decide +kernel)
set_option maxRecDepth 20000 in
theorem gX11_takesMany_X11_least : GoodIn wsX11_takesMany (wsV RX11 177 RX11 yX11_least wsX11_least) := goodIn_app (goodIn_of _ (by decide +kernel)) ggX11_takesMany_X11_least
set_option maxRecDepth 20000 in
theorem ggX11_takesMany_X11_most : GoodIn wsX11_takesMany wsX11_most := goodIn_r _ [12, 6, 8, 13, 14, 15, 16, 17, 18, 19, 20, 21, 22, 23, 24, 25, 26, 27, 28, 29, 30, 31, 32, 33, 34, 35, 36, 37, 38, 39, 40] rfl (by decide +kernel)
set_option maxRecDepth 20000 in
theorem gX11_takesMany_X11_most : GoodIn wsX11_takesMany (wsV RX11 181 RX11 yX11_most wsX11_most) := goodIn_app (goodIn_of _ (by decide +kernel)) ggX11_takesMany_X11_most
theorem dX11_takesMany_0 : decode cX11_takesMany 0 = .ok (.iload_n 2, 1) := by decide +kernel
theorem dX11_takesMany_1 : decode cX11_takesMany 1 = .ok (.aload_n 0, 1) := by decide +kernel
theorem dX11_takesMany_2 : decode cX11_takesMany 2 = .ok (.iload_n 1, 1) := by decide +kernel
theorem dX11_takesMany_3 : decode cX11_takesMany 3 = .ok (.invokevirtual 177, 3) := by decide +kernel
theorem dX11_takesMany_6 : decode cX11_takesMany 6 = .ok (.if_icmp .lt 16, 3) := by decide +kernel
theorem dX11_takesMany_9 : decode cX11_takesMany 9 = .ok (.iload_n 2, 1) := by decide +kernel
theorem dX11_takesMany_10 : decode cX11_takesMany 10 = .ok (.aload_n 0, 1) := by decide +kernel
theorem dX11_takesMany_11 : decode cX11_takesMany 11 = .ok (.iload_n 1, 1) := by decide +kernel
theorem dX11_takesMany_12 : decode cX11_takesMany 12 = .ok (.invokevirtual 181, 3) := by decide +kernel
theorem dX11_takesMany_15 : decode cX11_takesMany 15 = .ok (.if_icmp .gt 7, 3) := by decide +kernel
theorem dX11_takesMany_18 : decode cX11_takesMany 18 = .ok (.iconst 1, 1) := by decide +kernel
theorem dX11_takesMany_19 : decode cX11_takesMany 19 = .ok (.goto 4, 3) := by decide +kernel
theorem dX11_takesMany_22 : decode cX11_takesMany 22 = .ok (.iconst 0, 1) := by decide +kernel
theorem dX11_takesMany_23 : decode cX11_takesMany 23 = .ok (.ireturn, 1) := by decide +kernel
theorem dX11_argumentOf_0 : decode cX11_argumentOf 0 = .ok (.iconst 5, 1) := by decide +kernel
theorem dX11_argumentOf_1 : decode cX11_argumentOf 1 = .ok (.iload_n 1, 1) := by decide +kernel
theorem dX11_argumentOf_2 : decode cX11_argumentOf 2 = .ok (.imul, 1) := by decide +kernel
theorem dX11_argumentOf_3 : decode cX11_argumentOf 3 = .ok (.iload_n 2, 1) := by decide +kernel
theorem dX11_argumentOf_4 : decode cX11_argumentOf 4 = .ok (.aload_n 0, 1) := by decide +kernel
theorem dX11_argumentOf_5 : decode cX11_argumentOf 5 = .ok (.getfield 21, 3) := by decide +kernel
theorem dX11_argumentOf_8 : decode cX11_argumentOf 8 = .ok (.iload_n 1, 1) := by decide +kernel
theorem dX11_argumentOf_9 : decode cX11_argumentOf 9 = .ok (.iaload, 1) := by decide +kernel
theorem dX11_argumentOf_10 : decode cX11_argumentOf 10 = .ok (.if_icmp .ge 7, 3) := by decide +kernel
theorem dX11_argumentOf_13 : decode cX11_argumentOf 13 = .ok (.iload_n 2, 1) := by decide +kernel
theorem dX11_argumentOf_14 : decode cX11_argumentOf 14 = .ok (.goto 11, 3) := by decide +kernel
theorem dX11_argumentOf_17 : decode cX11_argumentOf 17 = .ok (.aload_n 0, 1) := by decide +kernel
theorem dX11_argumentOf_18 : decode cX11_argumentOf 18 = .ok (.getfield 21, 3) := by decide +kernel
theorem dX11_argumentOf_21 : decode cX11_argumentOf 21 = .ok (.iload_n 1, 1) := by decide +kernel
theorem dX11_argumentOf_22 : decode cX11_argumentOf 22 = .ok (.iaload, 1) := by decide +kernel
theorem dX11_argumentOf_23 : decode cX11_argumentOf 23 = .ok (.iconst 1, 1) := by decide +kernel
theorem dX11_argumentOf_24 : decode cX11_argumentOf 24 = .ok (.isub, 1) := by decide +kernel
theorem dX11_argumentOf_25 : decode cX11_argumentOf 25 = .ok (.iadd, 1) := by decide +kernel
theorem dX11_argumentOf_26 : decode cX11_argumentOf 26 = .ok (.ireturn, 1) := by decide +kernel
set_option maxRecDepth 20000 in
theorem ggX11_isSameName_X11_isSameWord : GoodIn wsX11_isSameName wsX11_isSameWord := goodIn_r _ [9, 10, 11, 12, 13, 14, 15, 16, 17, 18, 19, 20, 21, 22, 23, 24, 25, 26, 27, 28, 29, 30, 31, 32, 33, 34, 35, 36, 37, 38] rfl (by decide +kernel)
set_option maxRecDepth 20000 in
theorem gX11_isSameName_X11_isSameWord : GoodIn wsX11_isSameName (wsV RX11 144 RX11 yX11_isSameWord wsX11_isSameWord) := goodIn_app (goodIn_of _ (by decide +kernel)) ggX11_isSameName_X11_isSameWord
theorem dX11_isSameName_0 : decode cX11_isSameName 0 = .ok (.aload_n 0, 1) := by decide +kernel
theorem dX11_isSameName_1 : decode cX11_isSameName 1 = .ok (.getfield 31, 3) := by decide +kernel
theorem dX11_isSameName_4 : decode cX11_isSameName 4 = .ok (.iload_n 1, 1) := by decide +kernel
theorem dX11_isSameName_5 : decode cX11_isSameName 5 = .ok (.iaload, 1) := by decide +kernel
theorem dX11_isSameName_6 : decode cX11_isSameName 6 = .ok (.aload_n 0, 1) := by decide +kernel
theorem dX11_isSameName_7 : decode cX11_isSameName 7 = .ok (.getfield 31, 3) := by decide +kernel
theorem dX11_isSameName_10 : decode cX11_isSameName 10 = .ok (.iload_n 2, 1) := by decide +kernel
theorem dX11_isSameName_11 : decode cX11_isSameName 11 = .ok (.iaload, 1) := by decide +kernel
theorem dX11_isSameName_12 : decode cX11_isSameName 12 = .ok (.if_icmp .ne 37, 3) := by decide +kernel
theorem dX11_isSameName_15 : decode cX11_isSameName 15 = .ok (.aload_n 0, 1) := by decide +kernel
theorem dX11_isSameName_16 : decode cX11_isSameName 16 = .ok (.getfield 34, 3) := by decide +kernel
theorem dX11_isSameName_19 : decode cX11_isSameName 19 = .ok (.iload_n 1, 1) := by decide +kernel
theorem dX11_isSameName_20 : decode cX11_isSameName 20 = .ok (.iaload, 1) := by decide +kernel
theorem dX11_isSameName_21 : decode cX11_isSameName 21 = .ok (.aload_n 0, 1) := by decide +kernel
theorem dX11_isSameName_22 : decode cX11_isSameName 22 = .ok (.getfield 34, 3) := by decide +kernel
theorem dX11_isSameName_25 : decode cX11_isSameName 25 = .ok (.iload_n 2, 1) := by decide +kernel
theorem dX11_isSameName_26 : decode cX11_isSameName 26 = .ok (.iaload, 1) := by decide +kernel
theorem dX11_isSameName_27 : decode cX11_isSameName 27 = .ok (.if_icmp .ne 22, 3) := by decide +kernel
theorem dX11_isSameName_30 : decode cX11_isSameName 30 = .ok (.aload_n 0, 1) := by decide +kernel
theorem dX11_isSameName_31 : decode cX11_isSameName 31 = .ok (.getfield 37, 3) := by decide +kernel
theorem dX11_isSameName_34 : decode cX11_isSameName 34 = .ok (.iload_n 1, 1) := by decide +kernel
theorem dX11_isSameName_35 : decode cX11_isSameName 35 = .ok (.baload, 1) := by decide +kernel
theorem dX11_isSameName_36 : decode cX11_isSameName 36 = .ok (.aload_n 0, 1) := by decide +kernel
theorem dX11_isSameName_37 : decode cX11_isSameName 37 = .ok (.getfield 37, 3) := by decide +kernel
theorem dX11_isSameName_40 : decode cX11_isSameName 40 = .ok (.iload_n 2, 1) := by decide +kernel
theorem dX11_isSameName_41 : decode cX11_isSameName 41 = .ok (.baload, 1) := by decide +kernel
theorem dX11_isSameName_42 : decode cX11_isSameName 42 = .ok (.if_icmp .ne 7, 3) := by decide +kernel
theorem dX11_isSameName_45 : decode cX11_isSameName 45 = .ok (.iconst 1, 1) := by decide +kernel
theorem dX11_isSameName_46 : decode cX11_isSameName 46 = .ok (.goto 4, 3) := by decide +kernel
theorem dX11_isSameName_49 : decode cX11_isSameName 49 = .ok (.iconst 0, 1) := by decide +kernel
theorem dX11_isSameName_50 : decode cX11_isSameName 50 = .ok (.istore_n 3, 1) := by decide +kernel
theorem dX11_isSameName_51 : decode cX11_isSameName 51 = .ok (.iload_n 3, 1) := by decide +kernel
theorem dX11_isSameName_52 : decode cX11_isSameName 52 = .ok (.ifCond .eq 76, 3) := by decide +kernel
theorem dX11_isSameName_55 : decode cX11_isSameName 55 = .ok (.aload_n 0, 1) := by decide +kernel
theorem dX11_isSameName_56 : decode cX11_isSameName 56 = .ok (.getfield 31, 3) := by decide +kernel
theorem dX11_isSameName_59 : decode cX11_isSameName 59 = .ok (.iload_n 1, 1) := by decide +kernel
theorem dX11_isSameName_60 : decode cX11_isSameName 60 = .ok (.iaload, 1) := by decide +kernel
theorem dX11_isSameName_61 : decode cX11_isSameName 61 = .ok (.bipush 8, 2) := by decide +kernel
theorem dX11_isSameName_63 : decode cX11_isSameName 63 = .ok (.if_icmp .ne 65, 3) := by decide +kernel
theorem dX11_isSameName_66 : decode cX11_isSameName 66 = .ok (.aload_n 0, 1) := by decide +kernel
theorem dX11_isSameName_67 : decode cX11_isSameName 67 = .ok (.getfield 40, 3) := by decide +kernel
theorem dX11_isSameName_70 : decode cX11_isSameName 70 = .ok (.iload_n 1, 1) := by decide +kernel
theorem dX11_isSameName_71 : decode cX11_isSameName 71 = .ok (.iaload, 1) := by decide +kernel
theorem dX11_isSameName_72 : decode cX11_isSameName 72 = .ok (.aload_n 0, 1) := by decide +kernel
theorem dX11_isSameName_73 : decode cX11_isSameName 73 = .ok (.getfield 40, 3) := by decide +kernel
theorem dX11_isSameName_76 : decode cX11_isSameName 76 = .ok (.iload_n 2, 1) := by decide +kernel
theorem dX11_isSameName_77 : decode cX11_isSameName 77 = .ok (.iaload, 1) := by decide +kernel
theorem dX11_isSameName_78 : decode cX11_isSameName 78 = .ok (.if_icmp .ne 7, 3) := by decide +kernel
theorem dX11_isSameName_81 : decode cX11_isSameName 81 = .ok (.iconst 1, 1) := by decide +kernel
theorem dX11_isSameName_82 : decode cX11_isSameName 82 = .ok (.goto 4, 3) := by decide +kernel
theorem dX11_isSameName_85 : decode cX11_isSameName 85 = .ok (.iconst 0, 1) := by decide +kernel
theorem dX11_isSameName_86 : decode cX11_isSameName 86 = .ok (.istore_n 3, 1) := by decide +kernel
theorem dX11_isSameName_87 : decode cX11_isSameName 87 = .ok (.iconst 0, 1) := by decide +kernel
theorem dX11_isSameName_88 : decode cX11_isSameName 88 = .ok (.istore 4, 2) := by decide +kernel
theorem dX11_isSameName_90 : decode cX11_isSameName 90 = .ok (.iload 4, 2) := by decide +kernel
theorem dX11_isSameName_92 : decode cX11_isSameName 92 = .ok (.aload_n 0, 1) := by decide +kernel
theorem dX11_isSameName_93 : decode cX11_isSameName 93 = .ok (.getfield 40, 3) := by decide +kernel
theorem dX11_isSameName_96 : decode cX11_isSameName 96 = .ok (.iload_n 1, 1) := by decide +kernel
theorem dX11_isSameName_97 : decode cX11_isSameName 97 = .ok (.iaload, 1) := by decide +kernel
theorem dX11_isSameName_98 : decode cX11_isSameName 98 = .ok (.if_icmp .ge 30, 3) := by decide +kernel
theorem dX11_isSameName_101 : decode cX11_isSameName 101 = .ok (.iload_n 3, 1) := by decide +kernel
theorem dX11_isSameName_102 : decode cX11_isSameName 102 = .ok (.ifCond .eq 26, 3) := by decide +kernel
theorem dX11_isSameName_105 : decode cX11_isSameName 105 = .ok (.aload_n 0, 1) := by decide +kernel
theorem dX11_isSameName_106 : decode cX11_isSameName 106 = .ok (.iconst 5, 1) := by decide +kernel
theorem dX11_isSameName_107 : decode cX11_isSameName 107 = .ok (.iload_n 1, 1) := by decide +kernel
theorem dX11_isSameName_108 : decode cX11_isSameName 108 = .ok (.imul, 1) := by decide +kernel
theorem dX11_isSameName_109 : decode cX11_isSameName 109 = .ok (.iload 4, 2) := by decide +kernel
theorem dX11_isSameName_111 : decode cX11_isSameName 111 = .ok (.iadd, 1) := by decide +kernel
theorem dX11_isSameName_112 : decode cX11_isSameName 112 = .ok (.iconst 5, 1) := by decide +kernel
theorem dX11_isSameName_113 : decode cX11_isSameName 113 = .ok (.iload_n 2, 1) := by decide +kernel
theorem dX11_isSameName_114 : decode cX11_isSameName 114 = .ok (.imul, 1) := by decide +kernel
theorem dX11_isSameName_115 : decode cX11_isSameName 115 = .ok (.iload 4, 2) := by decide +kernel
theorem dX11_isSameName_117 : decode cX11_isSameName 117 = .ok (.iadd, 1) := by decide +kernel
theorem dX11_isSameName_118 : decode cX11_isSameName 118 = .ok (.invokevirtual 144, 3) := by decide +kernel
theorem dX11_isSameName_121 : decode cX11_isSameName 121 = .ok (.istore_n 3, 1) := by decide +kernel
theorem dX11_isSameName_122 : decode cX11_isSameName 122 = .ok (.iinc 4 1, 3) := by decide +kernel
theorem dX11_isSameName_125 : decode cX11_isSameName 125 = .ok (.goto (-35), 3) := by decide +kernel
theorem dX11_isSameName_128 : decode cX11_isSameName 128 = .ok (.iload_n 3, 1) := by decide +kernel
theorem dX11_isSameName_129 : decode cX11_isSameName 129 = .ok (.ireturn, 1) := by decide +kernel
set_option maxRecDepth 20000 in
theorem ggX11_isSame_X11_isSameName : GoodIn wsX11_isSame wsX11_isSameName := goodIn_r _ [8, 3, 9, 10, 11, 12, 13, 14, 7, 15, 16, 17, 18, 19, 20, 21, 22, 23, 24, 25, 26, 27, 28, 29, 30, 31, 32, 33, 34, 35, 36, 37, 38, 39, 40, 41, 42, 43, 44] rfl (by decide +kernel)
set_option maxRecDepth 20000 in
theorem gX11_isSame_X11_isSameName : GoodIn wsX11_isSame (wsV RX11 184 RX11 yX11_isSameName wsX11_isSameName) := goodIn_app (goodIn_of _ (by decide +kernel)) ggX11_isSame_X11_isSameName
theorem dX11_isSame_0 : decode cX11_isSame 0 = .ok (.aload_n 0, 1) := by decide +kernel
theorem dX11_isSame_1 : decode cX11_isSame 1 = .ok (.getfield 24, 3) := by decide +kernel
theorem dX11_isSame_4 : decode cX11_isSame 4 = .ok (.iload_n 1, 1) := by decide +kernel
theorem dX11_isSame_5 : decode cX11_isSame 5 = .ok (.baload, 1) := by decide +kernel
theorem dX11_isSame_6 : decode cX11_isSame 6 = .ok (.aload_n 0, 1) := by decide +kernel
theorem dX11_isSame_7 : decode cX11_isSame 7 = .ok (.getfield 24, 3) := by decide +kernel
theorem dX11_isSame_10 : decode cX11_isSame 10 = .ok (.iload_n 2, 1) := by decide +kernel
theorem dX11_isSame_11 : decode cX11_isSame 11 = .ok (.baload, 1) := by decide +kernel
theorem dX11_isSame_12 : decode cX11_isSame 12 = .ok (.if_icmp .ne 35, 3) := by decide +kernel
theorem dX11_isSame_15 : decode cX11_isSame 15 = .ok (.aload_n 0, 1) := by decide +kernel
theorem dX11_isSame_16 : decode cX11_isSame 16 = .ok (.getfield 28, 3) := by decide +kernel
theorem dX11_isSame_19 : decode cX11_isSame 19 = .ok (.iload_n 1, 1) := by decide +kernel
theorem dX11_isSame_20 : decode cX11_isSame 20 = .ok (.baload, 1) := by decide +kernel
theorem dX11_isSame_21 : decode cX11_isSame 21 = .ok (.aload_n 0, 1) := by decide +kernel
theorem dX11_isSame_22 : decode cX11_isSame 22 = .ok (.getfield 28, 3) := by decide +kernel
theorem dX11_isSame_25 : decode cX11_isSame 25 = .ok (.iload_n 2, 1) := by decide +kernel
theorem dX11_isSame_26 : decode cX11_isSame 26 = .ok (.baload, 1) := by decide +kernel
theorem dX11_isSame_27 : decode cX11_isSame 27 = .ok (.if_icmp .ne 20, 3) := by decide +kernel
theorem dX11_isSame_30 : decode cX11_isSame 30 = .ok (.aload_n 0, 1) := by decide +kernel
theorem dX11_isSame_31 : decode cX11_isSame 31 = .ok (.iconst 2, 1) := by decide +kernel
theorem dX11_isSame_32 : decode cX11_isSame 32 = .ok (.iload_n 1, 1) := by decide +kernel
theorem dX11_isSame_33 : decode cX11_isSame 33 = .ok (.imul, 1) := by decide +kernel
theorem dX11_isSame_34 : decode cX11_isSame 34 = .ok (.iconst 2, 1) := by decide +kernel
theorem dX11_isSame_35 : decode cX11_isSame 35 = .ok (.iload_n 2, 1) := by decide +kernel
theorem dX11_isSame_36 : decode cX11_isSame 36 = .ok (.imul, 1) := by decide +kernel
theorem dX11_isSame_37 : decode cX11_isSame 37 = .ok (.invokevirtual 184, 3) := by decide +kernel
theorem dX11_isSame_40 : decode cX11_isSame 40 = .ok (.ifCond .eq 7, 3) := by decide +kernel
theorem dX11_isSame_43 : decode cX11_isSame 43 = .ok (.iconst 1, 1) := by decide +kernel
theorem dX11_isSame_44 : decode cX11_isSame 44 = .ok (.goto 4, 3) := by decide +kernel
theorem dX11_isSame_47 : decode cX11_isSame 47 = .ok (.iconst 0, 1) := by decide +kernel
theorem dX11_isSame_48 : decode cX11_isSame 48 = .ok (.istore_n 3, 1) := by decide +kernel
theorem dX11_isSame_49 : decode cX11_isSame 49 = .ok (.iload_n 3, 1) := by decide +kernel
theorem dX11_isSame_50 : decode cX11_isSame 50 = .ok (.ifCond .eq 37, 3) := by decide +kernel
theorem dX11_isSame_53 : decode cX11_isSame 53 = .ok (.aload_n 0, 1) := by decide +kernel
theorem dX11_isSame_54 : decode cX11_isSame 54 = .ok (.getfield 31, 3) := by decide +kernel
theorem dX11_isSame_57 : decode cX11_isSame 57 = .ok (.iconst 2, 1) := by decide +kernel
theorem dX11_isSame_58 : decode cX11_isSame 58 = .ok (.iload_n 1, 1) := by decide +kernel
theorem dX11_isSame_59 : decode cX11_isSame 59 = .ok (.imul, 1) := by decide +kernel
theorem dX11_isSame_60 : decode cX11_isSame 60 = .ok (.iaload, 1) := by decide +kernel
theorem dX11_isSame_61 : decode cX11_isSame 61 = .ok (.bipush 9, 2) := by decide +kernel
theorem dX11_isSame_63 : decode cX11_isSame 63 = .ok (.if_icmp .ne 20, 3) := by decide +kernel
theorem dX11_isSame_66 : decode cX11_isSame 66 = .ok (.aload_n 0, 1) := by decide +kernel
theorem dX11_isSame_67 : decode cX11_isSame 67 = .ok (.iconst 2, 1) := by decide +kernel
theorem dX11_isSame_68 : decode cX11_isSame 68 = .ok (.iload_n 1, 1) := by decide +kernel
theorem dX11_isSame_69 : decode cX11_isSame 69 = .ok (.imul, 1) := by decide +kernel
theorem dX11_isSame_70 : decode cX11_isSame 70 = .ok (.iconst 1, 1) := by decide +kernel
theorem dX11_isSame_71 : decode cX11_isSame 71 = .ok (.iadd, 1) := by decide +kernel
theorem dX11_isSame_72 : decode cX11_isSame 72 = .ok (.iconst 2, 1) := by decide +kernel
theorem dX11_isSame_73 : decode cX11_isSame 73 = .ok (.iload_n 2, 1) := by decide +kernel
theorem dX11_isSame_74 : decode cX11_isSame 74 = .ok (.imul, 1) := by decide +kernel
theorem dX11_isSame_75 : decode cX11_isSame 75 = .ok (.iconst 1, 1) := by decide +kernel
theorem dX11_isSame_76 : decode cX11_isSame 76 = .ok (.iadd, 1) := by decide +kernel
theorem dX11_isSame_77 : decode cX11_isSame 77 = .ok (.invokevirtual 184, 3) := by decide +kernel
theorem dX11_isSame_80 : decode cX11_isSame 80 = .ok (.ifCond .eq 7, 3) := by decide +kernel
theorem dX11_isSame_83 : decode cX11_isSame 83 = .ok (.iconst 1, 1) := by decide +kernel
theorem dX11_isSame_84 : decode cX11_isSame 84 = .ok (.goto 4, 3) := by decide +kernel
theorem dX11_isSame_87 : decode cX11_isSame 87 = .ok (.iconst 0, 1) := by decide +kernel
theorem dX11_isSame_88 : decode cX11_isSame 88 = .ok (.ireturn, 1) := by decide +kernel
theorem dX11_family_0 : decode cX11_family 0 = .ok (.iload_n 0, 1) := by decide +kernel
theorem dX11_family_1 : decode cX11_family 1 = .ok (.ifCond .ne 7, 3) := by decide +kernel
theorem dX11_family_4 : decode cX11_family 4 = .ok (.iconst 0, 1) := by decide +kernel
theorem dX11_family_5 : decode cX11_family 5 = .ok (.goto 39, 3) := by decide +kernel
theorem dX11_family_8 : decode cX11_family 8 = .ok (.iload_n 0, 1) := by decide +kernel
theorem dX11_family_9 : decode cX11_family 9 = .ok (.iconst 5, 1) := by decide +kernel
theorem dX11_family_10 : decode cX11_family 10 = .ok (.if_icmp .gt 7, 3) := by decide +kernel
theorem dX11_family_13 : decode cX11_family 13 = .ok (.iconst 1, 1) := by decide +kernel
theorem dX11_family_14 : decode cX11_family 14 = .ok (.goto 30, 3) := by decide +kernel
theorem dX11_family_17 : decode cX11_family 17 = .ok (.iload_n 0, 1) := by decide +kernel
theorem dX11_family_18 : decode cX11_family 18 = .ok (.bipush 6, 2) := by decide +kernel
theorem dX11_family_20 : decode cX11_family 20 = .ok (.if_icmp .eq 9, 3) := by decide +kernel
theorem dX11_family_23 : decode cX11_family 23 = .ok (.iload_n 0, 1) := by decide +kernel
theorem dX11_family_24 : decode cX11_family 24 = .ok (.bipush 8, 2) := by decide +kernel
theorem dX11_family_26 : decode cX11_family 26 = .ok (.if_icmp .ne 7, 3) := by decide +kernel
theorem dX11_family_29 : decode cX11_family 29 = .ok (.iconst 2, 1) := by decide +kernel
theorem dX11_family_30 : decode cX11_family 30 = .ok (.goto 14, 3) := by decide +kernel
theorem dX11_family_33 : decode cX11_family 33 = .ok (.iload_n 0, 1) := by decide +kernel
theorem dX11_family_34 : decode cX11_family 34 = .ok (.bipush 9, 2) := by decide +kernel
theorem dX11_family_36 : decode cX11_family 36 = .ok (.if_icmp .ne 7, 3) := by decide +kernel
theorem dX11_family_39 : decode cX11_family 39 = .ok (.iconst 3, 1) := by decide +kernel
theorem dX11_family_40 : decode cX11_family 40 = .ok (.goto 4, 3) := by decide +kernel
theorem dX11_family_43 : decode cX11_family 43 = .ok (.iconst 4, 1) := by decide +kernel
theorem dX11_family_44 : decode cX11_family 44 = .ok (.ireturn, 1) := by decide +kernel
set_option maxRecDepth 20000 in
theorem ggX11_isDistinct_X11_family : GoodIn wsX11_isDistinct wsX11_family := goodIn_r _ [6] rfl (by decide +kernel)
set_option maxRecDepth 20000 in
theorem gX11_isDistinct_X11_family : GoodIn wsX11_isDistinct (va_wsS RX11 187 yX11_family wsX11_family) := goodIn_app (goodIn_of _ (by decide +kernel)) ggX11_isDistinct_X11_family
theorem dX11_isDistinct_0 : decode cX11_isDistinct 0 = .ok (.iconst 2, 1) := by decide +kernel
theorem dX11_isDistinct_1 : decode cX11_isDistinct 1 = .ok (.iload_n 1, 1) := by decide +kernel
theorem dX11_isDistinct_2 : decode cX11_isDistinct 2 = .ok (.imul, 1) := by decide +kernel
theorem dX11_isDistinct_3 : decode cX11_isDistinct 3 = .ok (.istore_n 3, 1) := by decide +kernel
theorem dX11_isDistinct_4 : decode cX11_isDistinct 4 = .ok (.iconst 2, 1) := by decide +kernel
theorem dX11_isDistinct_5 : decode cX11_isDistinct 5 = .ok (.iload_n 2, 1) := by decide +kernel
theorem dX11_isDistinct_6 : decode cX11_isDistinct 6 = .ok (.imul, 1) := by decide +kernel
theorem dX11_isDistinct_7 : decode cX11_isDistinct 7 = .ok (.istore 4, 2) := by decide +kernel
theorem dX11_isDistinct_9 : decode cX11_isDistinct 9 = .ok (.aload_n 0, 1) := by decide +kernel
theorem dX11_isDistinct_10 : decode cX11_isDistinct 10 = .ok (.getfield 31, 3) := by decide +kernel
theorem dX11_isDistinct_13 : decode cX11_isDistinct 13 = .ok (.iload_n 3, 1) := by decide +kernel
theorem dX11_isDistinct_14 : decode cX11_isDistinct 14 = .ok (.iaload, 1) := by decide +kernel
theorem dX11_isDistinct_15 : decode cX11_isDistinct 15 = .ok (.bipush 7, 2) := by decide +kernel
theorem dX11_isDistinct_17 : decode cX11_isDistinct 17 = .ok (.if_icmp .eq 60, 3) := by decide +kernel
theorem dX11_isDistinct_20 : decode cX11_isDistinct 20 = .ok (.aload_n 0, 1) := by decide +kernel
theorem dX11_isDistinct_21 : decode cX11_isDistinct 21 = .ok (.getfield 31, 3) := by decide +kernel
theorem dX11_isDistinct_24 : decode cX11_isDistinct 24 = .ok (.iload 4, 2) := by decide +kernel
theorem dX11_isDistinct_26 : decode cX11_isDistinct 26 = .ok (.iaload, 1) := by decide +kernel
theorem dX11_isDistinct_27 : decode cX11_isDistinct 27 = .ok (.bipush 7, 2) := by decide +kernel
theorem dX11_isDistinct_29 : decode cX11_isDistinct 29 = .ok (.if_icmp .eq 48, 3) := by decide +kernel
theorem dX11_isDistinct_32 : decode cX11_isDistinct 32 = .ok (.aload_n 0, 1) := by decide +kernel
theorem dX11_isDistinct_33 : decode cX11_isDistinct 33 = .ok (.getfield 37, 3) := by decide +kernel
theorem dX11_isDistinct_36 : decode cX11_isDistinct 36 = .ok (.iload_n 3, 1) := by decide +kernel
theorem dX11_isDistinct_37 : decode cX11_isDistinct 37 = .ok (.baload, 1) := by decide +kernel
theorem dX11_isDistinct_38 : decode cX11_isDistinct 38 = .ok (.ifCond .eq 13, 3) := by decide +kernel
theorem dX11_isDistinct_41 : decode cX11_isDistinct 41 = .ok (.aload_n 0, 1) := by decide +kernel
theorem dX11_isDistinct_42 : decode cX11_isDistinct 42 = .ok (.getfield 37, 3) := by decide +kernel
theorem dX11_isDistinct_45 : decode cX11_isDistinct 45 = .ok (.iload 4, 2) := by decide +kernel
theorem dX11_isDistinct_47 : decode cX11_isDistinct 47 = .ok (.baload, 1) := by decide +kernel
theorem dX11_isDistinct_48 : decode cX11_isDistinct 48 = .ok (.ifCond .ne 29, 3) := by decide +kernel
theorem dX11_isDistinct_51 : decode cX11_isDistinct 51 = .ok (.aload_n 0, 1) := by decide +kernel
theorem dX11_isDistinct_52 : decode cX11_isDistinct 52 = .ok (.getfield 31, 3) := by decide +kernel
theorem dX11_isDistinct_55 : decode cX11_isDistinct 55 = .ok (.iload_n 3, 1) := by decide +kernel
theorem dX11_isDistinct_56 : decode cX11_isDistinct 56 = .ok (.iaload, 1) := by decide +kernel
theorem dX11_isDistinct_57 : decode cX11_isDistinct 57 = .ok (.invokestatic 187, 3) := by decide +kernel
theorem dX11_isDistinct_60 : decode cX11_isDistinct 60 = .ok (.aload_n 0, 1) := by decide +kernel
theorem dX11_isDistinct_61 : decode cX11_isDistinct 61 = .ok (.getfield 31, 3) := by decide +kernel
theorem dX11_isDistinct_64 : decode cX11_isDistinct 64 = .ok (.iload 4, 2) := by decide +kernel
theorem dX11_isDistinct_66 : decode cX11_isDistinct 66 = .ok (.iaload, 1) := by decide +kernel
theorem dX11_isDistinct_67 : decode cX11_isDistinct 67 = .ok (.invokestatic 187, 3) := by decide +kernel
theorem dX11_isDistinct_70 : decode cX11_isDistinct 70 = .ok (.if_icmp .eq 7, 3) := by decide +kernel
theorem dX11_isDistinct_73 : decode cX11_isDistinct 73 = .ok (.iconst 1, 1) := by decide +kernel
theorem dX11_isDistinct_74 : decode cX11_isDistinct 74 = .ok (.goto 4, 3) := by decide +kernel
theorem dX11_isDistinct_77 : decode cX11_isDistinct 77 = .ok (.iconst 0, 1) := by decide +kernel
theorem dX11_isDistinct_78 : decode cX11_isDistinct 78 = .ok (.ireturn, 1) := by decide +kernel
set_option maxRecDepth 20000 in
theorem ggX11_differAt_X11_argumentOf : GoodIn wsX11_differAt wsX11_argumentOf := goodIn_r _ [5, 6, 26, 27, 28, 29, 30, 31, 32, 33, 34, 35, 36, 37, 38, 39, 40, 41, 42, 43, 44, 45, 46, 47, 48, 49, 50, 51, 52, 53] rfl (by decide +kernel)
set_option maxRecDepth 20000 in
theorem gX11_differAt_X11_argumentOf : GoodIn wsX11_differAt (wsV RX11 190 RX11 yX11_argumentOf wsX11_argumentOf) := goodIn_app (goodIn_of _ (by decide +kernel)) ggX11_differAt_X11_argumentOf
set_option maxRecDepth 20000 in
theorem ggX11_differAt_X11_isSame : GoodIn wsX11_differAt wsX11_isSame := goodIn_r _ [10, 11, 12, 13, 14, 15, 16, 4, 17, 18, 19, 20, 21, 22, 23, 24, 25, 26, 27, 28, 29, 30, 31, 32, 33, 34, 35, 36, 37, 38, 39, 40, 41, 42, 43, 44, 45, 46, 47, 48, 49, 50, 51, 52, 53] rfl (by decide +kernel)
set_option maxRecDepth 20000 in
theorem gX11_differAt_X11_isSame : GoodIn wsX11_differAt (wsV RX11 194 RX11 yX11_isSame wsX11_isSame) := goodIn_app (goodIn_of _ (by decide +kernel)) ggX11_differAt_X11_isSame
theorem dX11_differAt_0 : decode cX11_differAt 0 = .ok (.iconst 0, 1) := by decide +kernel
theorem dX11_differAt_1 : decode cX11_differAt 1 = .ok (.istore 4, 2) := by decide +kernel
theorem dX11_differAt_3 : decode cX11_differAt 3 = .ok (.iload 4, 2) := by decide +kernel
theorem dX11_differAt_5 : decode cX11_differAt 5 = .ok (.iload_n 3, 1) := by decide +kernel
theorem dX11_differAt_6 : decode cX11_differAt 6 = .ok (.if_icmp .ge 30, 3) := by decide +kernel
theorem dX11_differAt_9 : decode cX11_differAt 9 = .ok (.aload_n 0, 1) := by decide +kernel
theorem dX11_differAt_10 : decode cX11_differAt 10 = .ok (.aload_n 0, 1) := by decide +kernel
theorem dX11_differAt_11 : decode cX11_differAt 11 = .ok (.iload_n 1, 1) := by decide +kernel
theorem dX11_differAt_12 : decode cX11_differAt 12 = .ok (.iload 4, 2) := by decide +kernel
theorem dX11_differAt_14 : decode cX11_differAt 14 = .ok (.invokevirtual 190, 3) := by decide +kernel
theorem dX11_differAt_17 : decode cX11_differAt 17 = .ok (.aload_n 0, 1) := by decide +kernel
theorem dX11_differAt_18 : decode cX11_differAt 18 = .ok (.iload_n 2, 1) := by decide +kernel
theorem dX11_differAt_19 : decode cX11_differAt 19 = .ok (.iload 4, 2) := by decide +kernel
theorem dX11_differAt_21 : decode cX11_differAt 21 = .ok (.invokevirtual 190, 3) := by decide +kernel
theorem dX11_differAt_24 : decode cX11_differAt 24 = .ok (.invokevirtual 194, 3) := by decide +kernel
theorem dX11_differAt_27 : decode cX11_differAt 27 = .ok (.ifCond .eq 9, 3) := by decide +kernel
theorem dX11_differAt_30 : decode cX11_differAt 30 = .ok (.iinc 4 1, 3) := by decide +kernel
theorem dX11_differAt_33 : decode cX11_differAt 33 = .ok (.goto (-30), 3) := by decide +kernel
theorem dX11_differAt_36 : decode cX11_differAt 36 = .ok (.iload 4, 2) := by decide +kernel
theorem dX11_differAt_38 : decode cX11_differAt 38 = .ok (.ireturn, 1) := by decide +kernel
set_option maxRecDepth 20000 in
theorem ggX11_deciding_X11_takesMany : GoodIn wsX11_deciding wsX11_takesMany := goodIn_r _ [6, 7, 8, 9, 5, 10, 11, 12, 13, 14, 15, 16, 17, 50, 51, 52, 53, 54, 55, 56, 57, 58, 59, 60, 61, 62, 63, 64, 65, 66, 67, 68, 69, 70, 71, 72, 73, 74, 75, 76, 77] rfl (by decide +kernel)
set_option maxRecDepth 20000 in
theorem gX11_deciding_X11_takesMany : GoodIn wsX11_deciding (wsV RX11 197 RX11 yX11_takesMany wsX11_takesMany) := goodIn_app (goodIn_of _ (by decide +kernel)) ggX11_deciding_X11_takesMany
set_option maxRecDepth 20000 in
theorem ggX11_deciding_X11_differAt : GoodIn wsX11_deciding wsX11_differAt := goodIn_r _ [21, 22, 23, 24, 5, 25, 11, 26, 27, 28, 29, 12, 13, 30, 31, 32, 33, 34, 35, 36, 37, 38, 39, 40, 41, 42, 50, 51, 52, 53, 54, 55, 56, 57, 58, 59, 60, 61, 62, 63, 64, 65, 66, 67, 68, 69, 70, 71, 72, 73, 74, 75, 76, 77] rfl (by decide +kernel)
set_option maxRecDepth 20000 in
theorem gX11_deciding_X11_differAt : GoodIn wsX11_deciding (wsV RX11 200 RX11 yX11_differAt wsX11_differAt) := goodIn_app (goodIn_of _ (by decide +kernel)) ggX11_deciding_X11_differAt
set_option maxRecDepth 20000 in
theorem ggX11_deciding_X11_argumentOf : GoodIn wsX11_deciding wsX11_argumentOf := goodIn_r _ [25, 11, 50, 51, 52, 53, 54, 55, 56, 57, 58, 59, 60, 61, 62, 63, 64, 65, 66, 67, 68, 69, 70, 71, 72, 73, 74, 75, 76, 77] rfl (by decide +kernel)
set_option maxRecDepth 20000 in
theorem gX11_deciding_X11_argumentOf : GoodIn wsX11_deciding (wsV RX11 190 RX11 yX11_argumentOf wsX11_argumentOf) := goodIn_app (goodIn_of _ (by decide +kernel)) ggX11_deciding_X11_argumentOf
set_option maxRecDepth 20000 in
theorem ggX11_deciding_X11_isDistinct : GoodIn wsX11_deciding wsX11_isDistinct := goodIn_r _ [46, 30, 36, 47, 48, 5, 49, 50, 51, 52, 53, 54, 55, 56, 57, 58, 59, 60, 61, 62, 63, 64, 65, 66, 67, 68, 69, 70, 71, 72, 73, 74, 75, 76, 77] rfl (by decide +kernel)
set_option maxRecDepth 20000 in
theorem gX11_deciding_X11_isDistinct : GoodIn wsX11_deciding (wsV RX11 204 RX11 yX11_isDistinct wsX11_isDistinct) := goodIn_app (goodIn_of _ (by decide +kernel)) ggX11_deciding_X11_isDistinct
theorem dX11_deciding_0 : decode cX11_deciding 0 = .ok (.iconst (-1), 1) := by decide +kernel
theorem dX11_deciding_1 : decode cX11_deciding 1 = .ok (.istore 4, 2) := by decide +kernel
theorem dX11_deciding_3 : decode cX11_deciding 3 = .ok (.aload_n 0, 1) := by decide +kernel
theorem dX11_deciding_4 : decode cX11_deciding 4 = .ok (.getfield 17, 3) := by decide +kernel
theorem dX11_deciding_7 : decode cX11_deciding 7 = .ok (.iload_n 1, 1) := by decide +kernel
theorem dX11_deciding_8 : decode cX11_deciding 8 = .ok (.iaload, 1) := by decide +kernel
theorem dX11_deciding_9 : decode cX11_deciding 9 = .ok (.iload_n 3, 1) := by decide +kernel
theorem dX11_deciding_10 : decode cX11_deciding 10 = .ok (.ifCond .eq 7, 3) := by decide +kernel
theorem dX11_deciding_13 : decode cX11_deciding 13 = .ok (.iconst 1, 1) := by decide +kernel
theorem dX11_deciding_14 : decode cX11_deciding 14 = .ok (.goto 4, 3) := by decide +kernel
theorem dX11_deciding_17 : decode cX11_deciding 17 = .ok (.iconst 0, 1) := by decide +kernel
theorem dX11_deciding_18 : decode cX11_deciding 18 = .ok (.iadd, 1) := by decide +kernel
theorem dX11_deciding_19 : decode cX11_deciding 19 = .ok (.istore 5, 2) := by decide +kernel
theorem dX11_deciding_21 : decode cX11_deciding 21 = .ok (.iconst 0, 1) := by decide +kernel
theorem dX11_deciding_22 : decode cX11_deciding 22 = .ok (.istore 6, 2) := by decide +kernel
theorem dX11_deciding_24 : decode cX11_deciding 24 = .ok (.iload 6, 2) := by decide +kernel
theorem dX11_deciding_26 : decode cX11_deciding 26 = .ok (.iload 5, 2) := by decide +kernel
theorem dX11_deciding_28 : decode cX11_deciding 28 = .ok (.if_icmp .ge 141, 3) := by decide +kernel
theorem dX11_deciding_31 : decode cX11_deciding 31 = .ok (.iload 6, 2) := by decide +kernel
theorem dX11_deciding_33 : decode cX11_deciding 33 = .ok (.aload_n 0, 1) := by decide +kernel
theorem dX11_deciding_34 : decode cX11_deciding 34 = .ok (.getfield 17, 3) := by decide +kernel
theorem dX11_deciding_37 : decode cX11_deciding 37 = .ok (.iload_n 1, 1) := by decide +kernel
theorem dX11_deciding_38 : decode cX11_deciding 38 = .ok (.iaload, 1) := by decide +kernel
theorem dX11_deciding_39 : decode cX11_deciding 39 = .ok (.if_icmp .ge 13, 3) := by decide +kernel
theorem dX11_deciding_42 : decode cX11_deciding 42 = .ok (.bipush 6, 2) := by decide +kernel
theorem dX11_deciding_44 : decode cX11_deciding 44 = .ok (.iload_n 1, 1) := by decide +kernel
theorem dX11_deciding_45 : decode cX11_deciding 45 = .ok (.imul, 1) := by decide +kernel
theorem dX11_deciding_46 : decode cX11_deciding 46 = .ok (.iload 6, 2) := by decide +kernel
theorem dX11_deciding_48 : decode cX11_deciding 48 = .ok (.iadd, 1) := by decide +kernel
theorem dX11_deciding_49 : decode cX11_deciding 49 = .ok (.goto 5, 3) := by decide +kernel
theorem dX11_deciding_52 : decode cX11_deciding 52 = .ok (.bipush 36, 2) := by decide +kernel
theorem dX11_deciding_54 : decode cX11_deciding 54 = .ok (.istore 7, 2) := by decide +kernel
theorem dX11_deciding_56 : decode cX11_deciding 56 = .ok (.iconst 0, 1) := by decide +kernel
theorem dX11_deciding_57 : decode cX11_deciding 57 = .ok (.istore 8, 2) := by decide +kernel
theorem dX11_deciding_59 : decode cX11_deciding 59 = .ok (.iload 8, 2) := by decide +kernel
theorem dX11_deciding_61 : decode cX11_deciding 61 = .ok (.iload 6, 2) := by decide +kernel
theorem dX11_deciding_63 : decode cX11_deciding 63 = .ok (.if_icmp .ge 100, 3) := by decide +kernel
theorem dX11_deciding_66 : decode cX11_deciding 66 = .ok (.bipush 6, 2) := by decide +kernel
theorem dX11_deciding_68 : decode cX11_deciding 68 = .ok (.iload_n 1, 1) := by decide +kernel
theorem dX11_deciding_69 : decode cX11_deciding 69 = .ok (.imul, 1) := by decide +kernel
theorem dX11_deciding_70 : decode cX11_deciding 70 = .ok (.iload 8, 2) := by decide +kernel
theorem dX11_deciding_72 : decode cX11_deciding 72 = .ok (.iadd, 1) := by decide +kernel
theorem dX11_deciding_73 : decode cX11_deciding 73 = .ok (.istore 9, 2) := by decide +kernel
theorem dX11_deciding_75 : decode cX11_deciding 75 = .ok (.aload_n 0, 1) := by decide +kernel
theorem dX11_deciding_76 : decode cX11_deciding 76 = .ok (.iload 7, 2) := by decide +kernel
theorem dX11_deciding_78 : decode cX11_deciding 78 = .ok (.iload_n 2, 1) := by decide +kernel
theorem dX11_deciding_79 : decode cX11_deciding 79 = .ok (.invokevirtual 197, 3) := by decide +kernel
theorem dX11_deciding_82 : decode cX11_deciding 82 = .ok (.ifCond .eq 75, 3) := by decide +kernel
theorem dX11_deciding_85 : decode cX11_deciding 85 = .ok (.aload_n 0, 1) := by decide +kernel
theorem dX11_deciding_86 : decode cX11_deciding 86 = .ok (.iload 9, 2) := by decide +kernel
theorem dX11_deciding_88 : decode cX11_deciding 88 = .ok (.iload_n 2, 1) := by decide +kernel
theorem dX11_deciding_89 : decode cX11_deciding 89 = .ok (.invokevirtual 197, 3) := by decide +kernel
theorem dX11_deciding_92 : decode cX11_deciding 92 = .ok (.ifCond .ne 6, 3) := by decide +kernel
theorem dX11_deciding_95 : decode cX11_deciding 95 = .ok (.goto 62, 3) := by decide +kernel
theorem dX11_deciding_98 : decode cX11_deciding 98 = .ok (.aload_n 0, 1) := by decide +kernel
theorem dX11_deciding_99 : decode cX11_deciding 99 = .ok (.iload 7, 2) := by decide +kernel
theorem dX11_deciding_101 : decode cX11_deciding 101 = .ok (.iload 9, 2) := by decide +kernel
theorem dX11_deciding_103 : decode cX11_deciding 103 = .ok (.iload_n 2, 1) := by decide +kernel
theorem dX11_deciding_104 : decode cX11_deciding 104 = .ok (.invokevirtual 200, 3) := by decide +kernel
theorem dX11_deciding_107 : decode cX11_deciding 107 = .ok (.istore 10, 2) := by decide +kernel
theorem dX11_deciding_109 : decode cX11_deciding 109 = .ok (.iload 10, 2) := by decide +kernel
theorem dX11_deciding_111 : decode cX11_deciding 111 = .ok (.iload_n 2, 1) := by decide +kernel
theorem dX11_deciding_112 : decode cX11_deciding 112 = .ok (.if_icmp .eq 38, 3) := by decide +kernel
theorem dX11_deciding_115 : decode cX11_deciding 115 = .ok (.aload_n 0, 1) := by decide +kernel
theorem dX11_deciding_116 : decode cX11_deciding 116 = .ok (.aload_n 0, 1) := by decide +kernel
theorem dX11_deciding_117 : decode cX11_deciding 117 = .ok (.iload 7, 2) := by decide +kernel
theorem dX11_deciding_119 : decode cX11_deciding 119 = .ok (.iload 10, 2) := by decide +kernel
theorem dX11_deciding_121 : decode cX11_deciding 121 = .ok (.invokevirtual 190, 3) := by decide +kernel
theorem dX11_deciding_124 : decode cX11_deciding 124 = .ok (.aload_n 0, 1) := by decide +kernel
theorem dX11_deciding_125 : decode cX11_deciding 125 = .ok (.iload 9, 2) := by decide +kernel
theorem dX11_deciding_127 : decode cX11_deciding 127 = .ok (.iload 10, 2) := by decide +kernel
theorem dX11_deciding_129 : decode cX11_deciding 129 = .ok (.invokevirtual 190, 3) := by decide +kernel
theorem dX11_deciding_132 : decode cX11_deciding 132 = .ok (.invokevirtual 204, 3) := by decide +kernel
theorem dX11_deciding_135 : decode cX11_deciding 135 = .ok (.ifCond .eq 15, 3) := by decide +kernel
theorem dX11_deciding_138 : decode cX11_deciding 138 = .ok (.iload 4, 2) := by decide +kernel
theorem dX11_deciding_140 : decode cX11_deciding 140 = .ok (.ifCond .lt 13, 3) := by decide +kernel
theorem dX11_deciding_143 : decode cX11_deciding 143 = .ok (.iload 4, 2) := by decide +kernel
theorem dX11_deciding_145 : decode cX11_deciding 145 = .ok (.iload 10, 2) := by decide +kernel
theorem dX11_deciding_147 : decode cX11_deciding 147 = .ok (.if_icmp .eq 6, 3) := by decide +kernel
theorem dX11_deciding_150 : decode cX11_deciding 150 = .ok (.bipush (-2), 2) := by decide +kernel
theorem dX11_deciding_152 : decode cX11_deciding 152 = .ok (.ireturn, 1) := by decide +kernel
theorem dX11_deciding_153 : decode cX11_deciding 153 = .ok (.iload 10, 2) := by decide +kernel
theorem dX11_deciding_155 : decode cX11_deciding 155 = .ok (.istore 4, 2) := by decide +kernel
theorem dX11_deciding_157 : decode cX11_deciding 157 = .ok (.iinc 8 1, 3) := by decide +kernel
theorem dX11_deciding_160 : decode cX11_deciding 160 = .ok (.goto (-101), 3) := by decide +kernel
theorem dX11_deciding_163 : decode cX11_deciding 163 = .ok (.iinc 6 1, 3) := by decide +kernel
theorem dX11_deciding_166 : decode cX11_deciding 166 = .ok (.goto (-142), 3) := by decide +kernel
theorem dX11_deciding_169 : decode cX11_deciding 169 = .ok (.iload 4, 2) := by decide +kernel
theorem dX11_deciding_171 : decode cX11_deciding 171 = .ok (.ireturn, 1) := by decide +kernel
theorem dX11_copyType_0 : decode cX11_copyType 0 = .ok (.aload_n 0, 1) := by decide +kernel
theorem dX11_copyType_1 : decode cX11_copyType 1 = .ok (.getfield 31, 3) := by decide +kernel
theorem dX11_copyType_4 : decode cX11_copyType 4 = .ok (.iload_n 1, 1) := by decide +kernel
theorem dX11_copyType_5 : decode cX11_copyType 5 = .ok (.aload_n 0, 1) := by decide +kernel
theorem dX11_copyType_6 : decode cX11_copyType 6 = .ok (.getfield 31, 3) := by decide +kernel
theorem dX11_copyType_9 : decode cX11_copyType 9 = .ok (.iload_n 2, 1) := by decide +kernel
theorem dX11_copyType_10 : decode cX11_copyType 10 = .ok (.iaload, 1) := by decide +kernel
theorem dX11_copyType_11 : decode cX11_copyType 11 = .ok (.iastore, 1) := by decide +kernel
theorem dX11_copyType_12 : decode cX11_copyType 12 = .ok (.aload_n 0, 1) := by decide +kernel
theorem dX11_copyType_13 : decode cX11_copyType 13 = .ok (.getfield 34, 3) := by decide +kernel
theorem dX11_copyType_16 : decode cX11_copyType 16 = .ok (.iload_n 1, 1) := by decide +kernel
theorem dX11_copyType_17 : decode cX11_copyType 17 = .ok (.aload_n 0, 1) := by decide +kernel
theorem dX11_copyType_18 : decode cX11_copyType 18 = .ok (.getfield 34, 3) := by decide +kernel
theorem dX11_copyType_21 : decode cX11_copyType 21 = .ok (.iload_n 2, 1) := by decide +kernel
theorem dX11_copyType_22 : decode cX11_copyType 22 = .ok (.iaload, 1) := by decide +kernel
theorem dX11_copyType_23 : decode cX11_copyType 23 = .ok (.iastore, 1) := by decide +kernel
theorem dX11_copyType_24 : decode cX11_copyType 24 = .ok (.aload_n 0, 1) := by decide +kernel
theorem dX11_copyType_25 : decode cX11_copyType 25 = .ok (.getfield 37, 3) := by decide +kernel
theorem dX11_copyType_28 : decode cX11_copyType 28 = .ok (.iload_n 1, 1) := by decide +kernel
theorem dX11_copyType_29 : decode cX11_copyType 29 = .ok (.aload_n 0, 1) := by decide +kernel
theorem dX11_copyType_30 : decode cX11_copyType 30 = .ok (.getfield 37, 3) := by decide +kernel
theorem dX11_copyType_33 : decode cX11_copyType 33 = .ok (.iload_n 2, 1) := by decide +kernel
theorem dX11_copyType_34 : decode cX11_copyType 34 = .ok (.baload, 1) := by decide +kernel
theorem dX11_copyType_35 : decode cX11_copyType 35 = .ok (.bastore, 1) := by decide +kernel
theorem dX11_copyType_36 : decode cX11_copyType 36 = .ok (.aload_n 0, 1) := by decide +kernel
theorem dX11_copyType_37 : decode cX11_copyType 37 = .ok (.getfield 40, 3) := by decide +kernel
theorem dX11_copyType_40 : decode cX11_copyType 40 = .ok (.iload_n 1, 1) := by decide +kernel
theorem dX11_copyType_41 : decode cX11_copyType 41 = .ok (.aload_n 0, 1) := by decide +kernel
theorem dX11_copyType_42 : decode cX11_copyType 42 = .ok (.getfield 40, 3) := by decide +kernel
theorem dX11_copyType_45 : decode cX11_copyType 45 = .ok (.iload_n 2, 1) := by decide +kernel
theorem dX11_copyType_46 : decode cX11_copyType 46 = .ok (.iaload, 1) := by decide +kernel
theorem dX11_copyType_47 : decode cX11_copyType 47 = .ok (.iastore, 1) := by decide +kernel
theorem dX11_copyType_48 : decode cX11_copyType 48 = .ok (.iconst 0, 1) := by decide +kernel
theorem dX11_copyType_49 : decode cX11_copyType 49 = .ok (.istore_n 3, 1) := by decide +kernel
theorem dX11_copyType_50 : decode cX11_copyType 50 = .ok (.iload_n 3, 1) := by decide +kernel
theorem dX11_copyType_51 : decode cX11_copyType 51 = .ok (.bipush 40, 2) := by decide +kernel
theorem dX11_copyType_53 : decode cX11_copyType 53 = .ok (.if_icmp .ge 31, 3) := by decide +kernel
theorem dX11_copyType_56 : decode cX11_copyType 56 = .ok (.aload_n 0, 1) := by decide +kernel
theorem dX11_copyType_57 : decode cX11_copyType 57 = .ok (.getfield 43, 3) := by decide +kernel
theorem dX11_copyType_60 : decode cX11_copyType 60 = .ok (.bipush 40, 2) := by decide +kernel
theorem dX11_copyType_62 : decode cX11_copyType 62 = .ok (.iload_n 1, 1) := by decide +kernel
theorem dX11_copyType_63 : decode cX11_copyType 63 = .ok (.imul, 1) := by decide +kernel
theorem dX11_copyType_64 : decode cX11_copyType 64 = .ok (.iload_n 3, 1) := by decide +kernel
theorem dX11_copyType_65 : decode cX11_copyType 65 = .ok (.iadd, 1) := by decide +kernel
theorem dX11_copyType_66 : decode cX11_copyType 66 = .ok (.aload_n 0, 1) := by decide +kernel
theorem dX11_copyType_67 : decode cX11_copyType 67 = .ok (.getfield 43, 3) := by decide +kernel
theorem dX11_copyType_70 : decode cX11_copyType 70 = .ok (.bipush 40, 2) := by decide +kernel
theorem dX11_copyType_72 : decode cX11_copyType 72 = .ok (.iload_n 2, 1) := by decide +kernel
theorem dX11_copyType_73 : decode cX11_copyType 73 = .ok (.imul, 1) := by decide +kernel
theorem dX11_copyType_74 : decode cX11_copyType 74 = .ok (.iload_n 3, 1) := by decide +kernel
theorem dX11_copyType_75 : decode cX11_copyType 75 = .ok (.iadd, 1) := by decide +kernel
theorem dX11_copyType_76 : decode cX11_copyType 76 = .ok (.caload, 1) := by decide +kernel
theorem dX11_copyType_77 : decode cX11_copyType 77 = .ok (.castore, 1) := by decide +kernel
theorem dX11_copyType_78 : decode cX11_copyType 78 = .ok (.iinc 3 1, 3) := by decide +kernel
theorem dX11_copyType_81 : decode cX11_copyType 81 = .ok (.goto (-31), 3) := by decide +kernel
theorem dX11_copyType_84 : decode cX11_copyType 84 = .ok (.return_, 1) := by decide +kernel
set_option maxRecDepth 20000 in
theorem ggX11_define_X11_read : GoodIn wsX11_define wsX11_read := goodIn_r _ [13, 4, 6, 3, 7, 8, 14, 15, 16, 12, 17, 18, 19, 20, 21, 22, 23, 2, 24, 25, 26, 27, 28, 29, 30, 31, 32, 33, 34, 35, 36, 37, 38, 39, 40, 41, 42, 43, 44, 45, 46, 47, 48, 49, 50, 51, 52, 53, 54, 55, 56, 57, 58, 59, 60, 61, 62, 63, 64, 65, 66, 67, 68, 69, 70, 71, 72, 73, 74, 75, 76, 77, 78, 79, 80, 81, 82, 83, 84, 85, 86, 87, 88, 89, 90, 134, 135, 136, 137, 138, 139, 140, 141, 142, 143, 144, 145, 146, 147, 148, 149, 150, 151, 152, 153, 154, 155, 156, 157, 158, 159, 160, 161] rfl (by decide +kernel)
set_option maxRecDepth 20000 in
theorem gX11_define_X11_read : GoodIn wsX11_define (wsV RX11 207 RX11 yX11_read wsX11_read) := goodIn_app (goodIn_of _ (by decide +kernel)) ggX11_define_X11_read
set_option maxRecDepth 20000 in
theorem ggX11_define_X11_deciding : GoodIn wsX11_define wsX11_deciding := goodIn_r _ [94, 5, 95, 96, 97, 12, 98, 99, 100, 101, 102, 6, 7, 8, 103, 104, 105, 106, 107, 108, 109, 110, 111, 112, 113, 114, 115, 116, 117, 118, 37, 119, 120, 121, 122, 54, 90, 55, 82, 83, 84, 85, 81, 123, 124, 125, 126, 127, 128, 129, 134, 135, 136, 137, 138, 139, 140, 141, 142, 143, 144, 145, 146, 147, 148, 149, 150, 151, 152, 153, 154, 155, 156, 157, 158, 159, 160, 161] rfl (by decide +kernel)
set_option maxRecDepth 20000 in
theorem gX11_define_X11_deciding : GoodIn wsX11_define (wsV RX11 210 RX11 yX11_deciding wsX11_deciding) := goodIn_app (goodIn_of _ (by decide +kernel)) ggX11_define_X11_deciding
set_option maxRecDepth 20000 in
theorem ggX11_define_X11_copyType : GoodIn wsX11_define wsX11_copyType := goodIn_r _ [133, 37, 54, 90, 55, 81, 134, 135, 136, 137, 138, 139, 140, 141, 142, 143, 144, 145, 146, 147, 148, 149, 150, 151, 152, 153, 154, 155, 156, 157, 158, 159, 160, 161] rfl (by decide +kernel)
set_option maxRecDepth 20000 in
theorem gX11_define_X11_copyType : GoodIn wsX11_define (wsV RX11 214 RX11 yX11_copyType wsX11_copyType) := goodIn_app (goodIn_of _ (by decide +kernel)) ggX11_define_X11_copyType
theorem dX11_define_0 : decode cX11_define 0 = .ok (.aload_n 0, 1) := by decide +kernel
theorem dX11_define_1 : decode cX11_define 1 = .ok (.iconst 0, 1) := by decide +kernel
theorem dX11_define_2 : decode cX11_define 2 = .ok (.putfield 78, 3) := by decide +kernel
theorem dX11_define_5 : decode cX11_define 5 = .ok (.aload_n 0, 1) := by decide +kernel
theorem dX11_define_6 : decode cX11_define 6 = .ok (.iconst (-1), 1) := by decide +kernel
theorem dX11_define_7 : decode cX11_define 7 = .ok (.putfield 13, 3) := by decide +kernel
theorem dX11_define_10 : decode cX11_define 10 = .ok (.aload_n 0, 1) := by decide +kernel
theorem dX11_define_11 : decode cX11_define 11 = .ok (.iconst 0, 1) := by decide +kernel
theorem dX11_define_12 : decode cX11_define 12 = .ok (.putfield 95, 3) := by decide +kernel
theorem dX11_define_15 : decode cX11_define 15 = .ok (.aload_n 0, 1) := by decide +kernel
theorem dX11_define_16 : decode cX11_define 16 = .ok (.iconst 0, 1) := by decide +kernel
theorem dX11_define_17 : decode cX11_define 17 = .ok (.putfield 92, 3) := by decide +kernel
theorem dX11_define_20 : decode cX11_define 20 = .ok (.aload_n 0, 1) := by decide +kernel
theorem dX11_define_21 : decode cX11_define 21 = .ok (.invokevirtual 207, 3) := by decide +kernel
theorem dX11_define_24 : decode cX11_define 24 = .ok (.istore_n 1, 1) := by decide +kernel
theorem dX11_define_25 : decode cX11_define 25 = .ok (.aload_n 0, 1) := by decide +kernel
theorem dX11_define_26 : decode cX11_define 26 = .ok (.getfield 95, 3) := by decide +kernel
theorem dX11_define_29 : decode cX11_define 29 = .ok (.ifCond .eq 6, 3) := by decide +kernel
theorem dX11_define_32 : decode cX11_define 32 = .ok (.bipush (-2), 2) := by decide +kernel
theorem dX11_define_34 : decode cX11_define 34 = .ok (.ireturn, 1) := by decide +kernel
theorem dX11_define_35 : decode cX11_define 35 = .ok (.iconst 0, 1) := by decide +kernel
theorem dX11_define_36 : decode cX11_define 36 = .ok (.istore_n 2, 1) := by decide +kernel
theorem dX11_define_37 : decode cX11_define 37 = .ok (.iload_n 2, 1) := by decide +kernel
theorem dX11_define_38 : decode cX11_define 38 = .ok (.bipush 8, 2) := by decide +kernel
theorem dX11_define_40 : decode cX11_define 40 = .ok (.if_icmp .gt 29, 3) := by decide +kernel
theorem dX11_define_43 : decode cX11_define 43 = .ok (.aload_n 0, 1) := by decide +kernel
theorem dX11_define_44 : decode cX11_define 44 = .ok (.iload_n 1, 1) := by decide +kernel
theorem dX11_define_45 : decode cX11_define 45 = .ok (.iload_n 2, 1) := by decide +kernel
theorem dX11_define_46 : decode cX11_define 46 = .ok (.iconst 1, 1) := by decide +kernel
theorem dX11_define_47 : decode cX11_define 47 = .ok (.invokevirtual 210, 3) := by decide +kernel
theorem dX11_define_50 : decode cX11_define 50 = .ok (.bipush (-2), 2) := by decide +kernel
theorem dX11_define_52 : decode cX11_define 52 = .ok (.if_icmp .ne 11, 3) := by decide +kernel
theorem dX11_define_55 : decode cX11_define 55 = .ok (.aload_n 0, 1) := by decide +kernel
theorem dX11_define_56 : decode cX11_define 56 = .ok (.iload_n 2, 1) := by decide +kernel
theorem dX11_define_57 : decode cX11_define 57 = .ok (.putfield 13, 3) := by decide +kernel
theorem dX11_define_60 : decode cX11_define 60 = .ok (.bipush (-3), 2) := by decide +kernel
theorem dX11_define_62 : decode cX11_define 62 = .ok (.ireturn, 1) := by decide +kernel
theorem dX11_define_63 : decode cX11_define 63 = .ok (.iinc 2 1, 3) := by decide +kernel
theorem dX11_define_66 : decode cX11_define 66 = .ok (.goto (-29), 3) := by decide +kernel
theorem dX11_define_69 : decode cX11_define 69 = .ok (.aload_n 0, 1) := by decide +kernel
theorem dX11_define_70 : decode cX11_define 70 = .ok (.getfield 17, 3) := by decide +kernel
theorem dX11_define_73 : decode cX11_define 73 = .ok (.iload_n 1, 1) := by decide +kernel
theorem dX11_define_74 : decode cX11_define 74 = .ok (.iaload, 1) := by decide +kernel
theorem dX11_define_75 : decode cX11_define 75 = .ok (.bipush 6, 2) := by decide +kernel
theorem dX11_define_77 : decode cX11_define 77 = .ok (.if_icmp .ne 6, 3) := by decide +kernel
theorem dX11_define_80 : decode cX11_define 80 = .ok (.bipush (-4), 2) := by decide +kernel
theorem dX11_define_82 : decode cX11_define 82 = .ok (.ireturn, 1) := by decide +kernel
theorem dX11_define_83 : decode cX11_define 83 = .ok (.bipush 6, 2) := by decide +kernel
theorem dX11_define_85 : decode cX11_define 85 = .ok (.iload_n 1, 1) := by decide +kernel
theorem dX11_define_86 : decode cX11_define 86 = .ok (.imul, 1) := by decide +kernel
theorem dX11_define_87 : decode cX11_define 87 = .ok (.aload_n 0, 1) := by decide +kernel
theorem dX11_define_88 : decode cX11_define 88 = .ok (.getfield 17, 3) := by decide +kernel
theorem dX11_define_91 : decode cX11_define 91 = .ok (.iload_n 1, 1) := by decide +kernel
theorem dX11_define_92 : decode cX11_define 92 = .ok (.iaload, 1) := by decide +kernel
theorem dX11_define_93 : decode cX11_define 93 = .ok (.iadd, 1) := by decide +kernel
theorem dX11_define_94 : decode cX11_define 94 = .ok (.istore_n 2, 1) := by decide +kernel
theorem dX11_define_95 : decode cX11_define 95 = .ok (.aload_n 0, 1) := by decide +kernel
theorem dX11_define_96 : decode cX11_define 96 = .ok (.getfield 21, 3) := by decide +kernel
theorem dX11_define_99 : decode cX11_define 99 = .ok (.iload_n 2, 1) := by decide +kernel
theorem dX11_define_100 : decode cX11_define 100 = .ok (.aload_n 0, 1) := by decide +kernel
theorem dX11_define_101 : decode cX11_define 101 = .ok (.getfield 21, 3) := by decide +kernel
theorem dX11_define_104 : decode cX11_define 104 = .ok (.bipush 36, 2) := by decide +kernel
theorem dX11_define_106 : decode cX11_define 106 = .ok (.iaload, 1) := by decide +kernel
theorem dX11_define_107 : decode cX11_define 107 = .ok (.iastore, 1) := by decide +kernel
theorem dX11_define_108 : decode cX11_define 108 = .ok (.iconst 0, 1) := by decide +kernel
theorem dX11_define_109 : decode cX11_define 109 = .ok (.istore_n 3, 1) := by decide +kernel
theorem dX11_define_110 : decode cX11_define 110 = .ok (.iload_n 3, 1) := by decide +kernel
theorem dX11_define_111 : decode cX11_define 111 = .ok (.aload_n 0, 1) := by decide +kernel
theorem dX11_define_112 : decode cX11_define 112 = .ok (.getfield 21, 3) := by decide +kernel
theorem dX11_define_115 : decode cX11_define 115 = .ok (.iload_n 2, 1) := by decide +kernel
theorem dX11_define_116 : decode cX11_define 116 = .ok (.iaload, 1) := by decide +kernel
theorem dX11_define_117 : decode cX11_define 117 = .ok (.if_icmp .ge 79, 3) := by decide +kernel
theorem dX11_define_120 : decode cX11_define 120 = .ok (.iconst 5, 1) := by decide +kernel
theorem dX11_define_121 : decode cX11_define 121 = .ok (.iload_n 2, 1) := by decide +kernel
theorem dX11_define_122 : decode cX11_define 122 = .ok (.imul, 1) := by decide +kernel
theorem dX11_define_123 : decode cX11_define 123 = .ok (.iload_n 3, 1) := by decide +kernel
theorem dX11_define_124 : decode cX11_define 124 = .ok (.iadd, 1) := by decide +kernel
theorem dX11_define_125 : decode cX11_define 125 = .ok (.istore 4, 2) := by decide +kernel
theorem dX11_define_127 : decode cX11_define 127 = .ok (.sipush 180, 3) := by decide +kernel
theorem dX11_define_130 : decode cX11_define 130 = .ok (.iload_n 3, 1) := by decide +kernel
theorem dX11_define_131 : decode cX11_define 131 = .ok (.iadd, 1) := by decide +kernel
theorem dX11_define_132 : decode cX11_define 132 = .ok (.istore 5, 2) := by decide +kernel
theorem dX11_define_134 : decode cX11_define 134 = .ok (.aload_n 0, 1) := by decide +kernel
theorem dX11_define_135 : decode cX11_define 135 = .ok (.getfield 24, 3) := by decide +kernel
theorem dX11_define_138 : decode cX11_define 138 = .ok (.iload 4, 2) := by decide +kernel
theorem dX11_define_140 : decode cX11_define 140 = .ok (.aload_n 0, 1) := by decide +kernel
theorem dX11_define_141 : decode cX11_define 141 = .ok (.getfield 24, 3) := by decide +kernel
theorem dX11_define_144 : decode cX11_define 144 = .ok (.iload 5, 2) := by decide +kernel
theorem dX11_define_146 : decode cX11_define 146 = .ok (.baload, 1) := by decide +kernel
theorem dX11_define_147 : decode cX11_define 147 = .ok (.bastore, 1) := by decide +kernel
theorem dX11_define_148 : decode cX11_define 148 = .ok (.aload_n 0, 1) := by decide +kernel
theorem dX11_define_149 : decode cX11_define 149 = .ok (.getfield 28, 3) := by decide +kernel
theorem dX11_define_152 : decode cX11_define 152 = .ok (.iload 4, 2) := by decide +kernel
theorem dX11_define_154 : decode cX11_define 154 = .ok (.aload_n 0, 1) := by decide +kernel
theorem dX11_define_155 : decode cX11_define 155 = .ok (.getfield 28, 3) := by decide +kernel
theorem dX11_define_158 : decode cX11_define 158 = .ok (.iload 5, 2) := by decide +kernel
theorem dX11_define_160 : decode cX11_define 160 = .ok (.baload, 1) := by decide +kernel
theorem dX11_define_161 : decode cX11_define 161 = .ok (.bastore, 1) := by decide +kernel
theorem dX11_define_162 : decode cX11_define 162 = .ok (.aload_n 0, 1) := by decide +kernel
theorem dX11_define_163 : decode cX11_define 163 = .ok (.iconst 2, 1) := by decide +kernel
theorem dX11_define_164 : decode cX11_define 164 = .ok (.iload 4, 2) := by decide +kernel
theorem dX11_define_166 : decode cX11_define 166 = .ok (.imul, 1) := by decide +kernel
theorem dX11_define_167 : decode cX11_define 167 = .ok (.iconst 2, 1) := by decide +kernel
theorem dX11_define_168 : decode cX11_define 168 = .ok (.iload 5, 2) := by decide +kernel
theorem dX11_define_170 : decode cX11_define 170 = .ok (.imul, 1) := by decide +kernel
theorem dX11_define_171 : decode cX11_define 171 = .ok (.invokevirtual 214, 3) := by decide +kernel
theorem dX11_define_174 : decode cX11_define 174 = .ok (.aload_n 0, 1) := by decide +kernel
theorem dX11_define_175 : decode cX11_define 175 = .ok (.iconst 2, 1) := by decide +kernel
theorem dX11_define_176 : decode cX11_define 176 = .ok (.iload 4, 2) := by decide +kernel
theorem dX11_define_178 : decode cX11_define 178 = .ok (.imul, 1) := by decide +kernel
theorem dX11_define_179 : decode cX11_define 179 = .ok (.iconst 1, 1) := by decide +kernel
theorem dX11_define_180 : decode cX11_define 180 = .ok (.iadd, 1) := by decide +kernel
theorem dX11_define_181 : decode cX11_define 181 = .ok (.iconst 2, 1) := by decide +kernel
theorem dX11_define_182 : decode cX11_define 182 = .ok (.iload 5, 2) := by decide +kernel
theorem dX11_define_184 : decode cX11_define 184 = .ok (.imul, 1) := by decide +kernel
theorem dX11_define_185 : decode cX11_define 185 = .ok (.iconst 1, 1) := by decide +kernel
theorem dX11_define_186 : decode cX11_define 186 = .ok (.iadd, 1) := by decide +kernel
theorem dX11_define_187 : decode cX11_define 187 = .ok (.invokevirtual 214, 3) := by decide +kernel
theorem dX11_define_190 : decode cX11_define 190 = .ok (.iinc 3 1, 3) := by decide +kernel
theorem dX11_define_193 : decode cX11_define 193 = .ok (.goto (-83), 3) := by decide +kernel
theorem dX11_define_196 : decode cX11_define 196 = .ok (.aload_n 0, 1) := by decide +kernel
theorem dX11_define_197 : decode cX11_define 197 = .ok (.getfield 17, 3) := by decide +kernel
theorem dX11_define_200 : decode cX11_define 200 = .ok (.iload_n 1, 1) := by decide +kernel
theorem dX11_define_201 : decode cX11_define 201 = .ok (.dup2, 1) := by decide +kernel
theorem dX11_define_202 : decode cX11_define 202 = .ok (.iaload, 1) := by decide +kernel
theorem dX11_define_203 : decode cX11_define 203 = .ok (.iconst 1, 1) := by decide +kernel
theorem dX11_define_204 : decode cX11_define 204 = .ok (.iadd, 1) := by decide +kernel
theorem dX11_define_205 : decode cX11_define 205 = .ok (.iastore, 1) := by decide +kernel
theorem dX11_define_206 : decode cX11_define 206 = .ok (.aload_n 0, 1) := by decide +kernel
theorem dX11_define_207 : decode cX11_define 207 = .ok (.getfield 17, 3) := by decide +kernel
theorem dX11_define_210 : decode cX11_define 210 = .ok (.iload_n 1, 1) := by decide +kernel
theorem dX11_define_211 : decode cX11_define 211 = .ok (.iaload, 1) := by decide +kernel
theorem dX11_define_212 : decode cX11_define 212 = .ok (.iconst 1, 1) := by decide +kernel
theorem dX11_define_213 : decode cX11_define 213 = .ok (.isub, 1) := by decide +kernel
theorem dX11_define_214 : decode cX11_define 214 = .ok (.ireturn, 1) := by decide +kernel
set_option maxRecDepth 20000 in
theorem ggX11_drop_X11_isIn : GoodIn wsX11_drop wsX11_isIn := goodIn_r _ [5] rfl (by decide +kernel)
set_option maxRecDepth 20000 in
theorem gX11_drop_X11_isIn : GoodIn wsX11_drop (va_wsS RX11 158 yX11_isIn wsX11_isIn) := goodIn_app (goodIn_of _ (by decide +kernel)) ggX11_drop_X11_isIn
set_option maxRecDepth 20000 in
theorem ggX11_drop_X11_refused : GoodIn wsX11_drop wsX11_refused := goodIn_r _ [9, 10, 11, 12, 13, 14, 15, 16, 17, 18, 19, 20, 21, 22, 23, 24, 25, 26, 27, 28, 29, 30, 31, 32, 33, 34, 35, 36, 37, 38] rfl (by decide +kernel)
set_option maxRecDepth 20000 in
theorem gX11_drop_X11_refused : GoodIn wsX11_drop (wsV RX11 88 RX11 yX11_refused wsX11_refused) := goodIn_app (goodIn_of _ (by decide +kernel)) ggX11_drop_X11_refused
theorem dX11_drop_0 : decode cX11_drop 0 = .ok (.aload_n 0, 1) := by decide +kernel
theorem dX11_drop_1 : decode cX11_drop 1 = .ok (.iload_n 1, 1) := by decide +kernel
theorem dX11_drop_2 : decode cX11_drop 2 = .ok (.iconst 0, 1) := by decide +kernel
theorem dX11_drop_3 : decode cX11_drop 3 = .ok (.iconst 5, 1) := by decide +kernel
theorem dX11_drop_4 : decode cX11_drop 4 = .ok (.invokestatic 158, 3) := by decide +kernel
theorem dX11_drop_7 : decode cX11_drop 7 = .ok (.ifCond .eq 7, 3) := by decide +kernel
theorem dX11_drop_10 : decode cX11_drop 10 = .ok (.iconst 0, 1) := by decide +kernel
theorem dX11_drop_11 : decode cX11_drop 11 = .ok (.goto 4, 3) := by decide +kernel
theorem dX11_drop_14 : decode cX11_drop 14 = .ok (.iconst 1, 1) := by decide +kernel
theorem dX11_drop_15 : decode cX11_drop 15 = .ok (.invokevirtual 88, 3) := by decide +kernel
theorem dX11_drop_18 : decode cX11_drop 18 = .ok (.ifCond .eq 5, 3) := by decide +kernel
theorem dX11_drop_21 : decode cX11_drop 21 = .ok (.iconst 0, 1) := by decide +kernel
theorem dX11_drop_22 : decode cX11_drop 22 = .ok (.ireturn, 1) := by decide +kernel
theorem dX11_drop_23 : decode cX11_drop 23 = .ok (.aload_n 0, 1) := by decide +kernel
theorem dX11_drop_24 : decode cX11_drop 24 = .ok (.getfield 17, 3) := by decide +kernel
theorem dX11_drop_27 : decode cX11_drop 27 = .ok (.iload_n 1, 1) := by decide +kernel
theorem dX11_drop_28 : decode cX11_drop 28 = .ok (.iaload, 1) := by decide +kernel
theorem dX11_drop_29 : decode cX11_drop 29 = .ok (.istore_n 2, 1) := by decide +kernel
theorem dX11_drop_30 : decode cX11_drop 30 = .ok (.aload_n 0, 1) := by decide +kernel
theorem dX11_drop_31 : decode cX11_drop 31 = .ok (.getfield 17, 3) := by decide +kernel
theorem dX11_drop_34 : decode cX11_drop 34 = .ok (.iload_n 1, 1) := by decide +kernel
theorem dX11_drop_35 : decode cX11_drop 35 = .ok (.iconst 0, 1) := by decide +kernel
theorem dX11_drop_36 : decode cX11_drop 36 = .ok (.iastore, 1) := by decide +kernel
theorem dX11_drop_37 : decode cX11_drop 37 = .ok (.iload_n 2, 1) := by decide +kernel
theorem dX11_drop_38 : decode cX11_drop 38 = .ok (.ireturn, 1) := by decide +kernel
theorem dX11_place_0 : decode cX11_place 0 = .ok (.aload_n 0, 1) := by decide +kernel
theorem dX11_place_1 : decode cX11_place 1 = .ok (.iconst 0, 1) := by decide +kernel
theorem dX11_place_2 : decode cX11_place 2 = .ok (.putfield 78, 3) := by decide +kernel
theorem dX11_place_5 : decode cX11_place 5 = .ok (.aload_n 0, 1) := by decide +kernel
theorem dX11_place_6 : decode cX11_place 6 = .ok (.getfield 13, 3) := by decide +kernel
theorem dX11_place_9 : decode cX11_place 9 = .ok (.ireturn, 1) := by decide +kernel
theorem dX11_isSlot_0 : decode cX11_isSlot 0 = .ok (.iload_n 0, 1) := by decide +kernel
theorem dX11_isSlot_1 : decode cX11_isSlot 1 = .ok (.ifCond .lt 13, 3) := by decide +kernel
theorem dX11_isSlot_4 : decode cX11_isSlot 4 = .ok (.iload_n 0, 1) := by decide +kernel
theorem dX11_isSlot_5 : decode cX11_isSlot 5 = .ok (.bipush 8, 2) := by decide +kernel
theorem dX11_isSlot_7 : decode cX11_isSlot 7 = .ok (.if_icmp .ge 7, 3) := by decide +kernel
theorem dX11_isSlot_10 : decode cX11_isSlot 10 = .ok (.iconst 1, 1) := by decide +kernel
theorem dX11_isSlot_11 : decode cX11_isSlot 11 = .ok (.goto 4, 3) := by decide +kernel
theorem dX11_isSlot_14 : decode cX11_isSlot 14 = .ok (.iconst 0, 1) := by decide +kernel
theorem dX11_isSlot_15 : decode cX11_isSlot 15 = .ok (.ireturn, 1) := by decide +kernel
set_option maxRecDepth 20000 in
theorem ggX11_simple_X11_isSlot : GoodIn wsX11_simple wsX11_isSlot := goodIn_r _ [7] rfl (by decide +kernel)
set_option maxRecDepth 20000 in
theorem gX11_simple_X11_isSlot : GoodIn wsX11_simple (va_wsS RX11 217 yX11_isSlot wsX11_isSlot) := goodIn_app (goodIn_of _ (by decide +kernel)) ggX11_simple_X11_isSlot
set_option maxRecDepth 20000 in
theorem ggX11_simple_X11_isIn : GoodIn wsX11_simple wsX11_isIn := goodIn_r _ [10] rfl (by decide +kernel)
set_option maxRecDepth 20000 in
theorem gX11_simple_X11_isIn : GoodIn wsX11_simple (va_wsS RX11 158 yX11_isIn wsX11_isIn) := goodIn_app (goodIn_of _ (by decide +kernel)) ggX11_simple_X11_isIn
set_option maxRecDepth 20000 in
theorem ggX11_simple_X11_refused : GoodIn wsX11_simple wsX11_refused := goodIn_r _ [14, 15, 16, 17, 18, 19, 20, 21, 22, 23, 24, 25, 26, 27, 28, 29, 30, 31, 32, 33, 34, 35, 36, 37, 38, 39, 40, 41, 42, 43] rfl (by decide +kernel)
set_option maxRecDepth 20000 in
theorem gX11_simple_X11_refused : GoodIn wsX11_simple (wsV RX11 88 RX11 yX11_refused wsX11_refused) := goodIn_app (goodIn_of _ (by decide +kernel)) ggX11_simple_X11_refused
theorem dX11_simple_0 : decode cX11_simple 0 = .ok (.aload_n 0, 1) := by decide +kernel
theorem dX11_simple_1 : decode cX11_simple 1 = .ok (.iload_n 1, 1) := by decide +kernel
theorem dX11_simple_2 : decode cX11_simple 2 = .ok (.invokestatic 217, 3) := by decide +kernel
theorem dX11_simple_5 : decode cX11_simple 5 = .ok (.ifCond .eq 16, 3) := by decide +kernel
theorem dX11_simple_8 : decode cX11_simple 8 = .ok (.iload_n 2, 1) := by decide +kernel
theorem dX11_simple_9 : decode cX11_simple 9 = .ok (.iconst 0, 1) := by decide +kernel
theorem dX11_simple_10 : decode cX11_simple 10 = .ok (.iconst 4, 1) := by decide +kernel
theorem dX11_simple_11 : decode cX11_simple 11 = .ok (.invokestatic 158, 3) := by decide +kernel
theorem dX11_simple_14 : decode cX11_simple 14 = .ok (.ifCond .eq 7, 3) := by decide +kernel
theorem dX11_simple_17 : decode cX11_simple 17 = .ok (.iconst 0, 1) := by decide +kernel
theorem dX11_simple_18 : decode cX11_simple 18 = .ok (.goto 4, 3) := by decide +kernel
theorem dX11_simple_21 : decode cX11_simple 21 = .ok (.iconst 1, 1) := by decide +kernel
theorem dX11_simple_22 : decode cX11_simple 22 = .ok (.invokevirtual 88, 3) := by decide +kernel
theorem dX11_simple_25 : decode cX11_simple 25 = .ok (.ifCond .eq 4, 3) := by decide +kernel
theorem dX11_simple_28 : decode cX11_simple 28 = .ok (.return_, 1) := by decide +kernel
theorem dX11_simple_29 : decode cX11_simple 29 = .ok (.aload_n 0, 1) := by decide +kernel
theorem dX11_simple_30 : decode cX11_simple 30 = .ok (.getfield 46, 3) := by decide +kernel
theorem dX11_simple_33 : decode cX11_simple 33 = .ok (.iload_n 1, 1) := by decide +kernel
theorem dX11_simple_34 : decode cX11_simple 34 = .ok (.iload_n 2, 1) := by decide +kernel
theorem dX11_simple_35 : decode cX11_simple 35 = .ok (.ifCond .ne 7, 3) := by decide +kernel
theorem dX11_simple_38 : decode cX11_simple 38 = .ok (.iconst 0, 1) := by decide +kernel
theorem dX11_simple_39 : decode cX11_simple 39 = .ok (.goto 22, 3) := by decide +kernel
theorem dX11_simple_42 : decode cX11_simple 42 = .ok (.iload_n 2, 1) := by decide +kernel
theorem dX11_simple_43 : decode cX11_simple 43 = .ok (.iconst 1, 1) := by decide +kernel
theorem dX11_simple_44 : decode cX11_simple 44 = .ok (.if_icmp .ne 7, 3) := by decide +kernel
theorem dX11_simple_47 : decode cX11_simple 47 = .ok (.iconst 1, 1) := by decide +kernel
theorem dX11_simple_48 : decode cX11_simple 48 = .ok (.goto 13, 3) := by decide +kernel
theorem dX11_simple_51 : decode cX11_simple 51 = .ok (.iload_n 2, 1) := by decide +kernel
theorem dX11_simple_52 : decode cX11_simple 52 = .ok (.iconst 4, 1) := by decide +kernel
theorem dX11_simple_53 : decode cX11_simple 53 = .ok (.if_icmp .ge 7, 3) := by decide +kernel
theorem dX11_simple_56 : decode cX11_simple 56 = .ok (.iconst 2, 1) := by decide +kernel
theorem dX11_simple_57 : decode cX11_simple 57 = .ok (.goto 4, 3) := by decide +kernel
theorem dX11_simple_60 : decode cX11_simple 60 = .ok (.iconst 5, 1) := by decide +kernel
theorem dX11_simple_61 : decode cX11_simple 61 = .ok (.iastore, 1) := by decide +kernel
theorem dX11_simple_62 : decode cX11_simple 62 = .ok (.aload_n 0, 1) := by decide +kernel
theorem dX11_simple_63 : decode cX11_simple 63 = .ok (.getfield 49, 3) := by decide +kernel
theorem dX11_simple_66 : decode cX11_simple 66 = .ok (.iload_n 1, 1) := by decide +kernel
theorem dX11_simple_67 : decode cX11_simple 67 = .ok (.iload_n 2, 1) := by decide +kernel
theorem dX11_simple_68 : decode cX11_simple 68 = .ok (.iconst 3, 1) := by decide +kernel
theorem dX11_simple_69 : decode cX11_simple 69 = .ok (.if_icmp .ne 7, 3) := by decide +kernel
theorem dX11_simple_72 : decode cX11_simple 72 = .ok (.iconst 1, 1) := by decide +kernel
theorem dX11_simple_73 : decode cX11_simple 73 = .ok (.goto 4, 3) := by decide +kernel
theorem dX11_simple_76 : decode cX11_simple 76 = .ok (.iconst 0, 1) := by decide +kernel
theorem dX11_simple_77 : decode cX11_simple 77 = .ok (.bastore, 1) := by decide +kernel
theorem dX11_simple_78 : decode cX11_simple 78 = .ok (.aload_n 0, 1) := by decide +kernel
theorem dX11_simple_79 : decode cX11_simple 79 = .ok (.getfield 56, 3) := by decide +kernel
theorem dX11_simple_82 : decode cX11_simple 82 = .ok (.iload_n 1, 1) := by decide +kernel
theorem dX11_simple_83 : decode cX11_simple 83 = .ok (.iconst 0, 1) := by decide +kernel
theorem dX11_simple_84 : decode cX11_simple 84 = .ok (.iastore, 1) := by decide +kernel
theorem dX11_simple_85 : decode cX11_simple 85 = .ok (.return_, 1) := by decide +kernel
set_option maxRecDepth 20000 in
theorem ggX11_number_X11_isSlot : GoodIn wsX11_number wsX11_isSlot := goodIn_r _ [9] rfl (by decide +kernel)
set_option maxRecDepth 20000 in
theorem gX11_number_X11_isSlot : GoodIn wsX11_number (va_wsS RX11 217 yX11_isSlot wsX11_isSlot) := goodIn_app (goodIn_of _ (by decide +kernel)) ggX11_number_X11_isSlot
set_option maxRecDepth 20000 in
theorem ggX11_number_X11_refused : GoodIn wsX11_number wsX11_refused := goodIn_r _ [13, 14, 15, 16, 17, 18, 19, 20, 21, 22, 23, 24, 25, 26, 27, 28, 29, 30, 31, 32, 33, 34, 35, 36, 37, 38, 39, 40, 41, 42] rfl (by decide +kernel)
set_option maxRecDepth 20000 in
theorem gX11_number_X11_refused : GoodIn wsX11_number (wsV RX11 88 RX11 yX11_refused wsX11_refused) := goodIn_app (goodIn_of _ (by decide +kernel)) ggX11_number_X11_refused
theorem dX11_number_0 : decode cX11_number 0 = .ok (.ldc2_w 220, 3) := by decide +kernel
theorem dX11_number_3 : decode cX11_number 3 = .ok (.dstore 4, 2) := by decide +kernel
theorem dX11_number_5 : decode cX11_number 5 = .ok (.iload_n 1, 1) := by decide +kernel
theorem dX11_number_6 : decode cX11_number 6 = .ok (.invokestatic 217, 3) := by decide +kernel
theorem dX11_number_9 : decode cX11_number 9 = .ok (.ifCond .eq 22, 3) := by decide +kernel
theorem dX11_number_12 : decode cX11_number 12 = .ok (.dload_n 2, 1) := by decide +kernel
theorem dX11_number_13 : decode cX11_number 13 = .ok (.dload 4, 2) := by decide +kernel
theorem dX11_number_15 : decode cX11_number 15 = .ok (.dneg, 1) := by decide +kernel
theorem dX11_number_16 : decode cX11_number 16 = .ok (.dcmp .l, 1) := by decide +kernel
theorem dX11_number_17 : decode cX11_number 17 = .ok (.ifCond .lt 14, 3) := by decide +kernel
theorem dX11_number_20 : decode cX11_number 20 = .ok (.dload_n 2, 1) := by decide +kernel
theorem dX11_number_21 : decode cX11_number 21 = .ok (.dload 4, 2) := by decide +kernel
theorem dX11_number_23 : decode cX11_number 23 = .ok (.dcmp .g, 1) := by decide +kernel
theorem dX11_number_24 : decode cX11_number 24 = .ok (.ifCond .gt 7, 3) := by decide +kernel
theorem dX11_number_27 : decode cX11_number 27 = .ok (.iconst 1, 1) := by decide +kernel
theorem dX11_number_28 : decode cX11_number 28 = .ok (.goto 4, 3) := by decide +kernel
theorem dX11_number_31 : decode cX11_number 31 = .ok (.iconst 0, 1) := by decide +kernel
theorem dX11_number_32 : decode cX11_number 32 = .ok (.istore 6, 2) := by decide +kernel
theorem dX11_number_34 : decode cX11_number 34 = .ok (.aload_n 0, 1) := by decide +kernel
theorem dX11_number_35 : decode cX11_number 35 = .ok (.iload 6, 2) := by decide +kernel
theorem dX11_number_37 : decode cX11_number 37 = .ok (.ifCond .eq 23, 3) := by decide +kernel
theorem dX11_number_40 : decode cX11_number 40 = .ok (.dload_n 2, 1) := by decide +kernel
theorem dX11_number_41 : decode cX11_number 41 = .ok (.ldc2_w 222, 3) := by decide +kernel
theorem dX11_number_44 : decode cX11_number 44 = .ok (.dmul, 1) := by decide +kernel
theorem dX11_number_45 : decode cX11_number 45 = .ok (.d2l, 1) := by decide +kernel
theorem dX11_number_46 : decode cX11_number 46 = .ok (.l2d, 1) := by decide +kernel
theorem dX11_number_47 : decode cX11_number 47 = .ok (.dload_n 2, 1) := by decide +kernel
theorem dX11_number_48 : decode cX11_number 48 = .ok (.ldc2_w 222, 3) := by decide +kernel
theorem dX11_number_51 : decode cX11_number 51 = .ok (.dmul, 1) := by decide +kernel
theorem dX11_number_52 : decode cX11_number 52 = .ok (.dcmp .l, 1) := by decide +kernel
theorem dX11_number_53 : decode cX11_number 53 = .ok (.ifCond .ne 7, 3) := by decide +kernel
theorem dX11_number_56 : decode cX11_number 56 = .ok (.iconst 0, 1) := by decide +kernel
theorem dX11_number_57 : decode cX11_number 57 = .ok (.goto 4, 3) := by decide +kernel
theorem dX11_number_60 : decode cX11_number 60 = .ok (.iconst 1, 1) := by decide +kernel
theorem dX11_number_61 : decode cX11_number 61 = .ok (.invokevirtual 88, 3) := by decide +kernel
theorem dX11_number_64 : decode cX11_number 64 = .ok (.ifCond .eq 4, 3) := by decide +kernel
theorem dX11_number_67 : decode cX11_number 67 = .ok (.return_, 1) := by decide +kernel
theorem dX11_number_68 : decode cX11_number 68 = .ok (.aload_n 0, 1) := by decide +kernel
theorem dX11_number_69 : decode cX11_number 69 = .ok (.getfield 46, 3) := by decide +kernel
theorem dX11_number_72 : decode cX11_number 72 = .ok (.iload_n 1, 1) := by decide +kernel
theorem dX11_number_73 : decode cX11_number 73 = .ok (.iconst 3, 1) := by decide +kernel
theorem dX11_number_74 : decode cX11_number 74 = .ok (.iastore, 1) := by decide +kernel
theorem dX11_number_75 : decode cX11_number 75 = .ok (.aload_n 0, 1) := by decide +kernel
theorem dX11_number_76 : decode cX11_number 76 = .ok (.getfield 52, 3) := by decide +kernel
theorem dX11_number_79 : decode cX11_number 79 = .ok (.iload_n 1, 1) := by decide +kernel
theorem dX11_number_80 : decode cX11_number 80 = .ok (.dload_n 2, 1) := by decide +kernel
theorem dX11_number_81 : decode cX11_number 81 = .ok (.dastore, 1) := by decide +kernel
theorem dX11_number_82 : decode cX11_number 82 = .ok (.aload_n 0, 1) := by decide +kernel
theorem dX11_number_83 : decode cX11_number 83 = .ok (.getfield 56, 3) := by decide +kernel
theorem dX11_number_86 : decode cX11_number 86 = .ok (.iload_n 1, 1) := by decide +kernel
theorem dX11_number_87 : decode cX11_number 87 = .ok (.iconst 0, 1) := by decide +kernel
theorem dX11_number_88 : decode cX11_number 88 = .ok (.iastore, 1) := by decide +kernel
theorem dX11_number_89 : decode cX11_number 89 = .ok (.return_, 1) := by decide +kernel
set_option maxRecDepth 20000 in
theorem ggX11_text_X11_isSlot : GoodIn wsX11_text wsX11_isSlot := goodIn_r _ [7] rfl (by decide +kernel)
set_option maxRecDepth 20000 in
theorem gX11_text_X11_isSlot : GoodIn wsX11_text (va_wsS RX11 217 yX11_isSlot wsX11_isSlot) := goodIn_app (goodIn_of _ (by decide +kernel)) ggX11_text_X11_isSlot
set_option maxRecDepth 20000 in
theorem ggX11_text_X11_refused : GoodIn wsX11_text wsX11_refused := goodIn_r _ [11, 12, 13, 14, 15, 16, 17, 18, 19, 20, 21, 22, 23, 24, 25, 26, 27, 28, 29, 30, 31, 32, 33, 34, 35, 36, 37, 38, 39, 40] rfl (by decide +kernel)
set_option maxRecDepth 20000 in
theorem gX11_text_X11_refused : GoodIn wsX11_text (wsV RX11 88 RX11 yX11_refused wsX11_refused) := goodIn_app (goodIn_of _ (by decide +kernel)) ggX11_text_X11_refused
theorem dX11_text_0 : decode cX11_text 0 = .ok (.aload_n 0, 1) := by decide +kernel
theorem dX11_text_1 : decode cX11_text 1 = .ok (.iload_n 1, 1) := by decide +kernel
theorem dX11_text_2 : decode cX11_text 2 = .ok (.invokestatic 217, 3) := by decide +kernel
theorem dX11_text_5 : decode cX11_text 5 = .ok (.ifCond .eq 7, 3) := by decide +kernel
theorem dX11_text_8 : decode cX11_text 8 = .ok (.iconst 0, 1) := by decide +kernel
theorem dX11_text_9 : decode cX11_text 9 = .ok (.goto 4, 3) := by decide +kernel
theorem dX11_text_12 : decode cX11_text 12 = .ok (.iconst 1, 1) := by decide +kernel
theorem dX11_text_13 : decode cX11_text 13 = .ok (.invokevirtual 88, 3) := by decide +kernel
theorem dX11_text_16 : decode cX11_text 16 = .ok (.ifCond .eq 5, 3) := by decide +kernel
theorem dX11_text_19 : decode cX11_text 19 = .ok (.iconst 0, 1) := by decide +kernel
theorem dX11_text_20 : decode cX11_text 20 = .ok (.ireturn, 1) := by decide +kernel
theorem dX11_text_21 : decode cX11_text 21 = .ok (.aload_n 0, 1) := by decide +kernel
theorem dX11_text_22 : decode cX11_text 22 = .ok (.getfield 46, 3) := by decide +kernel
theorem dX11_text_25 : decode cX11_text 25 = .ok (.iload_n 1, 1) := by decide +kernel
theorem dX11_text_26 : decode cX11_text 26 = .ok (.iconst 4, 1) := by decide +kernel
theorem dX11_text_27 : decode cX11_text 27 = .ok (.iastore, 1) := by decide +kernel
theorem dX11_text_28 : decode cX11_text 28 = .ok (.aload_n 0, 1) := by decide +kernel
theorem dX11_text_29 : decode cX11_text 29 = .ok (.getfield 56, 3) := by decide +kernel
theorem dX11_text_32 : decode cX11_text 32 = .ok (.iload_n 1, 1) := by decide +kernel
theorem dX11_text_33 : decode cX11_text 33 = .ok (.iconst 0, 1) := by decide +kernel
theorem dX11_text_34 : decode cX11_text 34 = .ok (.iastore, 1) := by decide +kernel
theorem dX11_text_35 : decode cX11_text 35 = .ok (.iconst 0, 1) := by decide +kernel
theorem dX11_text_36 : decode cX11_text 36 = .ok (.istore 5, 2) := by decide +kernel
theorem dX11_text_38 : decode cX11_text 38 = .ok (.iload 5, 2) := by decide +kernel
theorem dX11_text_40 : decode cX11_text 40 = .ok (.bipush 12, 2) := by decide +kernel
theorem dX11_text_42 : decode cX11_text 42 = .ok (.if_icmp .ge 87, 3) := by decide +kernel
theorem dX11_text_45 : decode cX11_text 45 = .ok (.iload 5, 2) := by decide +kernel
theorem dX11_text_47 : decode cX11_text 47 = .ok (.iconst 4, 1) := by decide +kernel
theorem dX11_text_48 : decode cX11_text 48 = .ok (.if_icmp .ge 7, 3) := by decide +kernel
theorem dX11_text_51 : decode cX11_text 51 = .ok (.iload_n 2, 1) := by decide +kernel
theorem dX11_text_52 : decode cX11_text 52 = .ok (.goto 16, 3) := by decide +kernel
theorem dX11_text_55 : decode cX11_text 55 = .ok (.iload 5, 2) := by decide +kernel
theorem dX11_text_57 : decode cX11_text 57 = .ok (.bipush 8, 2) := by decide +kernel
theorem dX11_text_59 : decode cX11_text 59 = .ok (.if_icmp .ge 7, 3) := by decide +kernel
theorem dX11_text_62 : decode cX11_text 62 = .ok (.iload_n 3, 1) := by decide +kernel
theorem dX11_text_63 : decode cX11_text 63 = .ok (.goto 5, 3) := by decide +kernel
theorem dX11_text_66 : decode cX11_text 66 = .ok (.iload 4, 2) := by decide +kernel
theorem dX11_text_68 : decode cX11_text 68 = .ok (.istore 6, 2) := by decide +kernel
theorem dX11_text_70 : decode cX11_text 70 = .ok (.iload 6, 2) := by decide +kernel
theorem dX11_text_72 : decode cX11_text 72 = .ok (.bipush 24, 2) := by decide +kernel
theorem dX11_text_74 : decode cX11_text 74 = .ok (.bipush 8, 2) := by decide +kernel
theorem dX11_text_76 : decode cX11_text 76 = .ok (.iload 5, 2) := by decide +kernel
theorem dX11_text_78 : decode cX11_text 78 = .ok (.iconst 4, 1) := by decide +kernel
theorem dX11_text_79 : decode cX11_text 79 = .ok (.irem, 1) := by decide +kernel
theorem dX11_text_80 : decode cX11_text 80 = .ok (.imul, 1) := by decide +kernel
theorem dX11_text_81 : decode cX11_text 81 = .ok (.isub, 1) := by decide +kernel
theorem dX11_text_82 : decode cX11_text 82 = .ok (.ishr, 1) := by decide +kernel
theorem dX11_text_83 : decode cX11_text 83 = .ok (.sipush 255, 3) := by decide +kernel
theorem dX11_text_86 : decode cX11_text 86 = .ok (.iand, 1) := by decide +kernel
theorem dX11_text_87 : decode cX11_text 87 = .ok (.istore 7, 2) := by decide +kernel
theorem dX11_text_89 : decode cX11_text 89 = .ok (.iload 7, 2) := by decide +kernel
theorem dX11_text_91 : decode cX11_text 91 = .ok (.ifCond .le 32, 3) := by decide +kernel
theorem dX11_text_94 : decode cX11_text 94 = .ok (.aload_n 0, 1) := by decide +kernel
theorem dX11_text_95 : decode cX11_text 95 = .ok (.getfield 59, 3) := by decide +kernel
theorem dX11_text_98 : decode cX11_text 98 = .ok (.bipush 12, 2) := by decide +kernel
theorem dX11_text_100 : decode cX11_text 100 = .ok (.iload_n 1, 1) := by decide +kernel
theorem dX11_text_101 : decode cX11_text 101 = .ok (.imul, 1) := by decide +kernel
theorem dX11_text_102 : decode cX11_text 102 = .ok (.aload_n 0, 1) := by decide +kernel
theorem dX11_text_103 : decode cX11_text 103 = .ok (.getfield 56, 3) := by decide +kernel
theorem dX11_text_106 : decode cX11_text 106 = .ok (.iload_n 1, 1) := by decide +kernel
theorem dX11_text_107 : decode cX11_text 107 = .ok (.iaload, 1) := by decide +kernel
theorem dX11_text_108 : decode cX11_text 108 = .ok (.iadd, 1) := by decide +kernel
theorem dX11_text_109 : decode cX11_text 109 = .ok (.iload 7, 2) := by decide +kernel
theorem dX11_text_111 : decode cX11_text 111 = .ok (.i2c, 1) := by decide +kernel
theorem dX11_text_112 : decode cX11_text 112 = .ok (.castore, 1) := by decide +kernel
theorem dX11_text_113 : decode cX11_text 113 = .ok (.aload_n 0, 1) := by decide +kernel
theorem dX11_text_114 : decode cX11_text 114 = .ok (.getfield 56, 3) := by decide +kernel
theorem dX11_text_117 : decode cX11_text 117 = .ok (.iload_n 1, 1) := by decide +kernel
theorem dX11_text_118 : decode cX11_text 118 = .ok (.dup2, 1) := by decide +kernel
theorem dX11_text_119 : decode cX11_text 119 = .ok (.iaload, 1) := by decide +kernel
theorem dX11_text_120 : decode cX11_text 120 = .ok (.iconst 1, 1) := by decide +kernel
theorem dX11_text_121 : decode cX11_text 121 = .ok (.iadd, 1) := by decide +kernel
theorem dX11_text_122 : decode cX11_text 122 = .ok (.iastore, 1) := by decide +kernel
theorem dX11_text_123 : decode cX11_text 123 = .ok (.iinc 5 1, 3) := by decide +kernel
theorem dX11_text_126 : decode cX11_text 126 = .ok (.goto (-88), 3) := by decide +kernel
theorem dX11_text_129 : decode cX11_text 129 = .ok (.aload_n 0, 1) := by decide +kernel
theorem dX11_text_130 : decode cX11_text 130 = .ok (.getfield 56, 3) := by decide +kernel
theorem dX11_text_133 : decode cX11_text 133 = .ok (.iload_n 1, 1) := by decide +kernel
theorem dX11_text_134 : decode cX11_text 134 = .ok (.iaload, 1) := by decide +kernel
theorem dX11_text_135 : decode cX11_text 135 = .ok (.ireturn, 1) := by decide +kernel
theorem dX11_itemOf_0 : decode cX11_itemOf 0 = .ok (.bipush 8, 2) := by decide +kernel
theorem dX11_itemOf_2 : decode cX11_itemOf 2 = .ok (.iconst 5, 1) := by decide +kernel
theorem dX11_itemOf_3 : decode cX11_itemOf 3 = .ok (.iload_n 0, 1) := by decide +kernel
theorem dX11_itemOf_4 : decode cX11_itemOf 4 = .ok (.imul, 1) := by decide +kernel
theorem dX11_itemOf_5 : decode cX11_itemOf 5 = .ok (.iadd, 1) := by decide +kernel
theorem dX11_itemOf_6 : decode cX11_itemOf 6 = .ok (.iload_n 1, 1) := by decide +kernel
theorem dX11_itemOf_7 : decode cX11_itemOf 7 = .ok (.iadd, 1) := by decide +kernel
theorem dX11_itemOf_8 : decode cX11_itemOf 8 = .ok (.ireturn, 1) := by decide +kernel
set_option maxRecDepth 20000 in
theorem ggX11_add_X11_isSlot : GoodIn wsX11_add wsX11_isSlot := goodIn_r _ [9] rfl (by decide +kernel)
set_option maxRecDepth 20000 in
theorem gX11_add_X11_isSlot : GoodIn wsX11_add (va_wsS RX11 217 yX11_isSlot wsX11_isSlot) := goodIn_app (goodIn_of _ (by decide +kernel)) ggX11_add_X11_isSlot
set_option maxRecDepth 20000 in
theorem ggX11_add_X11_refused : GoodIn wsX11_add wsX11_refused := goodIn_r _ [13, 14, 18, 19, 20, 21, 22, 23, 24, 25, 26, 27, 28, 29, 30, 31, 32, 33, 34, 35, 36, 37, 38, 39, 40, 41, 42, 43, 44, 45] rfl (by decide +kernel)
set_option maxRecDepth 20000 in
theorem gX11_add_X11_refused : GoodIn wsX11_add (wsV RX11 88 RX11 yX11_refused wsX11_refused) := goodIn_app (goodIn_of _ (by decide +kernel)) ggX11_add_X11_refused
set_option maxRecDepth 20000 in
theorem ggX11_add_X11_itemOf : GoodIn wsX11_add wsX11_itemOf := goodIn_r _ [17] rfl (by decide +kernel)
set_option maxRecDepth 20000 in
theorem gX11_add_X11_itemOf : GoodIn wsX11_add (va_wsS RX11 224 yX11_itemOf wsX11_itemOf) := goodIn_app (goodIn_of _ (by decide +kernel)) ggX11_add_X11_itemOf
theorem dX11_add_0 : decode cX11_add 0 = .ok (.iload_n 1, 1) := by decide +kernel
theorem dX11_add_1 : decode cX11_add 1 = .ok (.invokestatic 217, 3) := by decide +kernel
theorem dX11_add_4 : decode cX11_add 4 = .ok (.ifCond .eq 14, 3) := by decide +kernel
theorem dX11_add_7 : decode cX11_add 7 = .ok (.iload_n 2, 1) := by decide +kernel
theorem dX11_add_8 : decode cX11_add 8 = .ok (.invokestatic 217, 3) := by decide +kernel
theorem dX11_add_11 : decode cX11_add 11 = .ok (.ifCond .eq 7, 3) := by decide +kernel
theorem dX11_add_14 : decode cX11_add 14 = .ok (.iconst 1, 1) := by decide +kernel
theorem dX11_add_15 : decode cX11_add 15 = .ok (.goto 4, 3) := by decide +kernel
theorem dX11_add_18 : decode cX11_add 18 = .ok (.iconst 0, 1) := by decide +kernel
theorem dX11_add_19 : decode cX11_add 19 = .ok (.istore_n 3, 1) := by decide +kernel
theorem dX11_add_20 : decode cX11_add 20 = .ok (.aload_n 0, 1) := by decide +kernel
theorem dX11_add_21 : decode cX11_add 21 = .ok (.iload_n 3, 1) := by decide +kernel
theorem dX11_add_22 : decode cX11_add 22 = .ok (.ifCond .ne 7, 3) := by decide +kernel
theorem dX11_add_25 : decode cX11_add 25 = .ok (.iconst 1, 1) := by decide +kernel
theorem dX11_add_26 : decode cX11_add 26 = .ok (.goto 38, 3) := by decide +kernel
theorem dX11_add_29 : decode cX11_add 29 = .ok (.aload_n 0, 1) := by decide +kernel
theorem dX11_add_30 : decode cX11_add 30 = .ok (.getfield 46, 3) := by decide +kernel
theorem dX11_add_33 : decode cX11_add 33 = .ok (.iload_n 1, 1) := by decide +kernel
theorem dX11_add_34 : decode cX11_add 34 = .ok (.iaload, 1) := by decide +kernel
theorem dX11_add_35 : decode cX11_add 35 = .ok (.iconst 5, 1) := by decide +kernel
theorem dX11_add_36 : decode cX11_add 36 = .ok (.if_icmp .ne 23, 3) := by decide +kernel
theorem dX11_add_39 : decode cX11_add 39 = .ok (.aload_n 0, 1) := by decide +kernel
theorem dX11_add_40 : decode cX11_add 40 = .ok (.getfield 56, 3) := by decide +kernel
theorem dX11_add_43 : decode cX11_add 43 = .ok (.iload_n 1, 1) := by decide +kernel
theorem dX11_add_44 : decode cX11_add 44 = .ok (.iaload, 1) := by decide +kernel
theorem dX11_add_45 : decode cX11_add 45 = .ok (.iconst 5, 1) := by decide +kernel
theorem dX11_add_46 : decode cX11_add 46 = .ok (.if_icmp .eq 13, 3) := by decide +kernel
theorem dX11_add_49 : decode cX11_add 49 = .ok (.aload_n 0, 1) := by decide +kernel
theorem dX11_add_50 : decode cX11_add 50 = .ok (.getfield 46, 3) := by decide +kernel
theorem dX11_add_53 : decode cX11_add 53 = .ok (.iload_n 2, 1) := by decide +kernel
theorem dX11_add_54 : decode cX11_add 54 = .ok (.iaload, 1) := by decide +kernel
theorem dX11_add_55 : decode cX11_add 55 = .ok (.iconst 5, 1) := by decide +kernel
theorem dX11_add_56 : decode cX11_add 56 = .ok (.if_icmp .ne 7, 3) := by decide +kernel
theorem dX11_add_59 : decode cX11_add 59 = .ok (.iconst 2, 1) := by decide +kernel
theorem dX11_add_60 : decode cX11_add 60 = .ok (.goto 4, 3) := by decide +kernel
theorem dX11_add_63 : decode cX11_add 63 = .ok (.iconst 0, 1) := by decide +kernel
theorem dX11_add_64 : decode cX11_add 64 = .ok (.invokevirtual 88, 3) := by decide +kernel
theorem dX11_add_67 : decode cX11_add 67 = .ok (.ifCond .eq 5, 3) := by decide +kernel
theorem dX11_add_70 : decode cX11_add 70 = .ok (.iconst 0, 1) := by decide +kernel
theorem dX11_add_71 : decode cX11_add 71 = .ok (.ireturn, 1) := by decide +kernel
theorem dX11_add_72 : decode cX11_add 72 = .ok (.iload_n 1, 1) := by decide +kernel
theorem dX11_add_73 : decode cX11_add 73 = .ok (.aload_n 0, 1) := by decide +kernel
theorem dX11_add_74 : decode cX11_add 74 = .ok (.getfield 56, 3) := by decide +kernel
theorem dX11_add_77 : decode cX11_add 77 = .ok (.iload_n 1, 1) := by decide +kernel
theorem dX11_add_78 : decode cX11_add 78 = .ok (.iaload, 1) := by decide +kernel
theorem dX11_add_79 : decode cX11_add 79 = .ok (.invokestatic 224, 3) := by decide +kernel
theorem dX11_add_82 : decode cX11_add 82 = .ok (.istore 4, 2) := by decide +kernel
theorem dX11_add_84 : decode cX11_add 84 = .ok (.aload_n 0, 1) := by decide +kernel
theorem dX11_add_85 : decode cX11_add 85 = .ok (.getfield 56, 3) := by decide +kernel
theorem dX11_add_88 : decode cX11_add 88 = .ok (.iload_n 1, 1) := by decide +kernel
theorem dX11_add_89 : decode cX11_add 89 = .ok (.dup2, 1) := by decide +kernel
theorem dX11_add_90 : decode cX11_add 90 = .ok (.iaload, 1) := by decide +kernel
theorem dX11_add_91 : decode cX11_add 91 = .ok (.iconst 1, 1) := by decide +kernel
theorem dX11_add_92 : decode cX11_add 92 = .ok (.iadd, 1) := by decide +kernel
theorem dX11_add_93 : decode cX11_add 93 = .ok (.iastore, 1) := by decide +kernel
theorem dX11_add_94 : decode cX11_add 94 = .ok (.aload_n 0, 1) := by decide +kernel
theorem dX11_add_95 : decode cX11_add 95 = .ok (.getfield 46, 3) := by decide +kernel
theorem dX11_add_98 : decode cX11_add 98 = .ok (.iload 4, 2) := by decide +kernel
theorem dX11_add_100 : decode cX11_add 100 = .ok (.aload_n 0, 1) := by decide +kernel
theorem dX11_add_101 : decode cX11_add 101 = .ok (.getfield 46, 3) := by decide +kernel
theorem dX11_add_104 : decode cX11_add 104 = .ok (.iload_n 2, 1) := by decide +kernel
theorem dX11_add_105 : decode cX11_add 105 = .ok (.iaload, 1) := by decide +kernel
theorem dX11_add_106 : decode cX11_add 106 = .ok (.iastore, 1) := by decide +kernel
theorem dX11_add_107 : decode cX11_add 107 = .ok (.aload_n 0, 1) := by decide +kernel
theorem dX11_add_108 : decode cX11_add 108 = .ok (.getfield 49, 3) := by decide +kernel
theorem dX11_add_111 : decode cX11_add 111 = .ok (.iload 4, 2) := by decide +kernel
theorem dX11_add_113 : decode cX11_add 113 = .ok (.aload_n 0, 1) := by decide +kernel
theorem dX11_add_114 : decode cX11_add 114 = .ok (.getfield 49, 3) := by decide +kernel
theorem dX11_add_117 : decode cX11_add 117 = .ok (.iload_n 2, 1) := by decide +kernel
theorem dX11_add_118 : decode cX11_add 118 = .ok (.baload, 1) := by decide +kernel
theorem dX11_add_119 : decode cX11_add 119 = .ok (.bastore, 1) := by decide +kernel
theorem dX11_add_120 : decode cX11_add 120 = .ok (.aload_n 0, 1) := by decide +kernel
theorem dX11_add_121 : decode cX11_add 121 = .ok (.getfield 52, 3) := by decide +kernel
theorem dX11_add_124 : decode cX11_add 124 = .ok (.iload 4, 2) := by decide +kernel
theorem dX11_add_126 : decode cX11_add 126 = .ok (.aload_n 0, 1) := by decide +kernel
theorem dX11_add_127 : decode cX11_add 127 = .ok (.getfield 52, 3) := by decide +kernel
theorem dX11_add_130 : decode cX11_add 130 = .ok (.iload_n 2, 1) := by decide +kernel
theorem dX11_add_131 : decode cX11_add 131 = .ok (.daload, 1) := by decide +kernel
theorem dX11_add_132 : decode cX11_add 132 = .ok (.dastore, 1) := by decide +kernel
theorem dX11_add_133 : decode cX11_add 133 = .ok (.aload_n 0, 1) := by decide +kernel
theorem dX11_add_134 : decode cX11_add 134 = .ok (.getfield 56, 3) := by decide +kernel
theorem dX11_add_137 : decode cX11_add 137 = .ok (.iload 4, 2) := by decide +kernel
theorem dX11_add_139 : decode cX11_add 139 = .ok (.aload_n 0, 1) := by decide +kernel
theorem dX11_add_140 : decode cX11_add 140 = .ok (.getfield 56, 3) := by decide +kernel
theorem dX11_add_143 : decode cX11_add 143 = .ok (.iload_n 2, 1) := by decide +kernel
theorem dX11_add_144 : decode cX11_add 144 = .ok (.iaload, 1) := by decide +kernel
theorem dX11_add_145 : decode cX11_add 145 = .ok (.iastore, 1) := by decide +kernel
theorem dX11_add_146 : decode cX11_add 146 = .ok (.iconst 0, 1) := by decide +kernel
theorem dX11_add_147 : decode cX11_add 147 = .ok (.istore 5, 2) := by decide +kernel
theorem dX11_add_149 : decode cX11_add 149 = .ok (.iload 5, 2) := by decide +kernel
theorem dX11_add_151 : decode cX11_add 151 = .ok (.bipush 12, 2) := by decide +kernel
theorem dX11_add_153 : decode cX11_add 153 = .ok (.if_icmp .ge 34, 3) := by decide +kernel
theorem dX11_add_156 : decode cX11_add 156 = .ok (.aload_n 0, 1) := by decide +kernel
theorem dX11_add_157 : decode cX11_add 157 = .ok (.getfield 59, 3) := by decide +kernel
theorem dX11_add_160 : decode cX11_add 160 = .ok (.bipush 12, 2) := by decide +kernel
theorem dX11_add_162 : decode cX11_add 162 = .ok (.iload 4, 2) := by decide +kernel
theorem dX11_add_164 : decode cX11_add 164 = .ok (.imul, 1) := by decide +kernel
theorem dX11_add_165 : decode cX11_add 165 = .ok (.iload 5, 2) := by decide +kernel
theorem dX11_add_167 : decode cX11_add 167 = .ok (.iadd, 1) := by decide +kernel
theorem dX11_add_168 : decode cX11_add 168 = .ok (.aload_n 0, 1) := by decide +kernel
theorem dX11_add_169 : decode cX11_add 169 = .ok (.getfield 59, 3) := by decide +kernel
theorem dX11_add_172 : decode cX11_add 172 = .ok (.bipush 12, 2) := by decide +kernel
theorem dX11_add_174 : decode cX11_add 174 = .ok (.iload_n 2, 1) := by decide +kernel
theorem dX11_add_175 : decode cX11_add 175 = .ok (.imul, 1) := by decide +kernel
theorem dX11_add_176 : decode cX11_add 176 = .ok (.iload 5, 2) := by decide +kernel
theorem dX11_add_178 : decode cX11_add 178 = .ok (.iadd, 1) := by decide +kernel
theorem dX11_add_179 : decode cX11_add 179 = .ok (.caload, 1) := by decide +kernel
theorem dX11_add_180 : decode cX11_add 180 = .ok (.castore, 1) := by decide +kernel
theorem dX11_add_181 : decode cX11_add 181 = .ok (.iinc 5 1, 3) := by decide +kernel
theorem dX11_add_184 : decode cX11_add 184 = .ok (.goto (-35), 3) := by decide +kernel
theorem dX11_add_187 : decode cX11_add 187 = .ok (.aload_n 0, 1) := by decide +kernel
theorem dX11_add_188 : decode cX11_add 188 = .ok (.getfield 56, 3) := by decide +kernel
theorem dX11_add_191 : decode cX11_add 191 = .ok (.iload_n 1, 1) := by decide +kernel
theorem dX11_add_192 : decode cX11_add 192 = .ok (.iaload, 1) := by decide +kernel
theorem dX11_add_193 : decode cX11_add 193 = .ok (.ireturn, 1) := by decide +kernel
theorem dX11_say_0 : decode cX11_say 0 = .ok (.aload_n 0, 1) := by decide +kernel
theorem dX11_say_1 : decode cX11_say 1 = .ok (.getfield 75, 3) := by decide +kernel
theorem dX11_say_4 : decode cX11_say 4 = .ok (.aload_n 0, 1) := by decide +kernel
theorem dX11_say_5 : decode cX11_say 5 = .ok (.getfield 227, 3) := by decide +kernel
theorem dX11_say_8 : decode cX11_say 8 = .ok (.iload_n 1, 1) := by decide +kernel
theorem dX11_say_9 : decode cX11_say 9 = .ok (.castore, 1) := by decide +kernel
theorem dX11_say_10 : decode cX11_say 10 = .ok (.aload_n 0, 1) := by decide +kernel
theorem dX11_say_11 : decode cX11_say 11 = .ok (.dup, 1) := by decide +kernel
theorem dX11_say_12 : decode cX11_say 12 = .ok (.getfield 227, 3) := by decide +kernel
theorem dX11_say_15 : decode cX11_say 15 = .ok (.iconst 1, 1) := by decide +kernel
theorem dX11_say_16 : decode cX11_say 16 = .ok (.iadd, 1) := by decide +kernel
theorem dX11_say_17 : decode cX11_say 17 = .ok (.putfield 227, 3) := by decide +kernel
theorem dX11_say_20 : decode cX11_say 20 = .ok (.return_, 1) := by decide +kernel
set_option maxRecDepth 20000 in
theorem ggX11_sayWord_X11_say : GoodIn wsX11_sayWord wsX11_say := goodIn_r _ [6, 7, 8, 9, 10, 11, 12, 13, 14, 15, 16, 17, 18, 19, 20, 21, 22, 23, 24, 25, 26, 27, 28, 29, 30, 31, 32, 33, 34, 35, 36] rfl (by decide +kernel)
set_option maxRecDepth 20000 in
theorem gX11_sayWord_X11_say : GoodIn wsX11_sayWord (wsV RX11 230 RX11 yX11_say wsX11_say) := goodIn_app (goodIn_of _ (by decide +kernel)) ggX11_sayWord_X11_say
theorem dX11_sayWord_0 : decode cX11_sayWord 0 = .ok (.bipush 56, 2) := by decide +kernel
theorem dX11_sayWord_2 : decode cX11_sayWord 2 = .ok (.istore_n 3, 1) := by decide +kernel
theorem dX11_sayWord_3 : decode cX11_sayWord 3 = .ok (.iload_n 3, 1) := by decide +kernel
theorem dX11_sayWord_4 : decode cX11_sayWord 4 = .ok (.ifCond .lt 36, 3) := by decide +kernel
theorem dX11_sayWord_7 : decode cX11_sayWord 7 = .ok (.lload_n 1, 1) := by decide +kernel
theorem dX11_sayWord_8 : decode cX11_sayWord 8 = .ok (.iload_n 3, 1) := by decide +kernel
theorem dX11_sayWord_9 : decode cX11_sayWord 9 = .ok (.lshr, 1) := by decide +kernel
theorem dX11_sayWord_10 : decode cX11_sayWord 10 = .ok (.ldc2_w 118, 3) := by decide +kernel
theorem dX11_sayWord_13 : decode cX11_sayWord 13 = .ok (.land, 1) := by decide +kernel
theorem dX11_sayWord_14 : decode cX11_sayWord 14 = .ok (.lconst 0, 1) := by decide +kernel
theorem dX11_sayWord_15 : decode cX11_sayWord 15 = .ok (.lcmp, 1) := by decide +kernel
theorem dX11_sayWord_16 : decode cX11_sayWord 16 = .ok (.ifCond .eq 16, 3) := by decide +kernel
theorem dX11_sayWord_19 : decode cX11_sayWord 19 = .ok (.aload_n 0, 1) := by decide +kernel
theorem dX11_sayWord_20 : decode cX11_sayWord 20 = .ok (.lload_n 1, 1) := by decide +kernel
theorem dX11_sayWord_21 : decode cX11_sayWord 21 = .ok (.iload_n 3, 1) := by decide +kernel
theorem dX11_sayWord_22 : decode cX11_sayWord 22 = .ok (.lshr, 1) := by decide +kernel
theorem dX11_sayWord_23 : decode cX11_sayWord 23 = .ok (.ldc2_w 118, 3) := by decide +kernel
theorem dX11_sayWord_26 : decode cX11_sayWord 26 = .ok (.land, 1) := by decide +kernel
theorem dX11_sayWord_27 : decode cX11_sayWord 27 = .ok (.l2i, 1) := by decide +kernel
theorem dX11_sayWord_28 : decode cX11_sayWord 28 = .ok (.i2c, 1) := by decide +kernel
theorem dX11_sayWord_29 : decode cX11_sayWord 29 = .ok (.invokevirtual 230, 3) := by decide +kernel
theorem dX11_sayWord_32 : decode cX11_sayWord 32 = .ok (.iload_n 3, 1) := by decide +kernel
theorem dX11_sayWord_33 : decode cX11_sayWord 33 = .ok (.bipush 8, 2) := by decide +kernel
theorem dX11_sayWord_35 : decode cX11_sayWord 35 = .ok (.isub, 1) := by decide +kernel
theorem dX11_sayWord_36 : decode cX11_sayWord 36 = .ok (.istore_n 3, 1) := by decide +kernel
theorem dX11_sayWord_37 : decode cX11_sayWord 37 = .ok (.goto (-34), 3) := by decide +kernel
theorem dX11_sayWord_40 : decode cX11_sayWord 40 = .ok (.return_, 1) := by decide +kernel
set_option maxRecDepth 20000 in
theorem ggX11_sayNumber_X11_say : GoodIn wsX11_sayNumber wsX11_say := goodIn_r _ [10, 11, 12, 13, 14, 15, 16, 17, 18, 19, 20, 21, 22, 23, 24, 25, 26, 27, 28, 29, 30, 31, 32, 33, 34, 35, 36, 37, 38, 39, 40] rfl (by decide +kernel)
set_option maxRecDepth 20000 in
theorem gX11_sayNumber_X11_say : GoodIn wsX11_sayNumber (wsV RX11 230 RX11 yX11_say wsX11_say) := goodIn_app (goodIn_of _ (by decide +kernel)) ggX11_sayNumber_X11_say
theorem dX11_sayNumber_0 : decode cX11_sayNumber 0 = .ok (.dload_n 1, 1) := by decide +kernel
theorem dX11_sayNumber_1 : decode cX11_sayNumber 1 = .ok (.dstore_n 3, 1) := by decide +kernel
theorem dX11_sayNumber_2 : decode cX11_sayNumber 2 = .ok (.dload_n 3, 1) := by decide +kernel
theorem dX11_sayNumber_3 : decode cX11_sayNumber 3 = .ok (.dconst 0, 1) := by decide +kernel
theorem dX11_sayNumber_4 : decode cX11_sayNumber 4 = .ok (.dcmp .g, 1) := by decide +kernel
theorem dX11_sayNumber_5 : decode cX11_sayNumber 5 = .ok (.ifCond .ge 12, 3) := by decide +kernel
theorem dX11_sayNumber_8 : decode cX11_sayNumber 8 = .ok (.aload_n 0, 1) := by decide +kernel
theorem dX11_sayNumber_9 : decode cX11_sayNumber 9 = .ok (.bipush 45, 2) := by decide +kernel
theorem dX11_sayNumber_11 : decode cX11_sayNumber 11 = .ok (.invokevirtual 230, 3) := by decide +kernel
theorem dX11_sayNumber_14 : decode cX11_sayNumber 14 = .ok (.dload_n 3, 1) := by decide +kernel
theorem dX11_sayNumber_15 : decode cX11_sayNumber 15 = .ok (.dneg, 1) := by decide +kernel
theorem dX11_sayNumber_16 : decode cX11_sayNumber 16 = .ok (.dstore_n 3, 1) := by decide +kernel
theorem dX11_sayNumber_17 : decode cX11_sayNumber 17 = .ok (.dload_n 3, 1) := by decide +kernel
theorem dX11_sayNumber_18 : decode cX11_sayNumber 18 = .ok (.d2l, 1) := by decide +kernel
theorem dX11_sayNumber_19 : decode cX11_sayNumber 19 = .ok (.lstore 5, 2) := by decide +kernel
theorem dX11_sayNumber_21 : decode cX11_sayNumber 21 = .ok (.lconst 1, 1) := by decide +kernel
theorem dX11_sayNumber_22 : decode cX11_sayNumber 22 = .ok (.lstore 7, 2) := by decide +kernel
theorem dX11_sayNumber_24 : decode cX11_sayNumber 24 = .ok (.lload 5, 2) := by decide +kernel
theorem dX11_sayNumber_26 : decode cX11_sayNumber 26 = .ok (.lload 7, 2) := by decide +kernel
theorem dX11_sayNumber_28 : decode cX11_sayNumber 28 = .ok (.ldiv, 1) := by decide +kernel
theorem dX11_sayNumber_29 : decode cX11_sayNumber 29 = .ok (.ldc2_w 233, 3) := by decide +kernel
theorem dX11_sayNumber_32 : decode cX11_sayNumber 32 = .ok (.lcmp, 1) := by decide +kernel
theorem dX11_sayNumber_33 : decode cX11_sayNumber 33 = .ok (.ifCond .le 14, 3) := by decide +kernel
theorem dX11_sayNumber_36 : decode cX11_sayNumber 36 = .ok (.lload 7, 2) := by decide +kernel
theorem dX11_sayNumber_38 : decode cX11_sayNumber 38 = .ok (.ldc2_w 235, 3) := by decide +kernel
theorem dX11_sayNumber_41 : decode cX11_sayNumber 41 = .ok (.lmul, 1) := by decide +kernel
theorem dX11_sayNumber_42 : decode cX11_sayNumber 42 = .ok (.lstore 7, 2) := by decide +kernel
theorem dX11_sayNumber_44 : decode cX11_sayNumber 44 = .ok (.goto (-20), 3) := by decide +kernel
theorem dX11_sayNumber_47 : decode cX11_sayNumber 47 = .ok (.lload 7, 2) := by decide +kernel
theorem dX11_sayNumber_49 : decode cX11_sayNumber 49 = .ok (.lstore 9, 2) := by decide +kernel
theorem dX11_sayNumber_51 : decode cX11_sayNumber 51 = .ok (.lload 9, 2) := by decide +kernel
theorem dX11_sayNumber_53 : decode cX11_sayNumber 53 = .ok (.lconst 0, 1) := by decide +kernel
theorem dX11_sayNumber_54 : decode cX11_sayNumber 54 = .ok (.lcmp, 1) := by decide +kernel
theorem dX11_sayNumber_55 : decode cX11_sayNumber 55 = .ok (.ifCond .le 33, 3) := by decide +kernel
theorem dX11_sayNumber_58 : decode cX11_sayNumber 58 = .ok (.aload_n 0, 1) := by decide +kernel
theorem dX11_sayNumber_59 : decode cX11_sayNumber 59 = .ok (.ldc2_w 237, 3) := by decide +kernel
theorem dX11_sayNumber_62 : decode cX11_sayNumber 62 = .ok (.lload 5, 2) := by decide +kernel
theorem dX11_sayNumber_64 : decode cX11_sayNumber 64 = .ok (.lload 9, 2) := by decide +kernel
theorem dX11_sayNumber_66 : decode cX11_sayNumber 66 = .ok (.ldiv, 1) := by decide +kernel
theorem dX11_sayNumber_67 : decode cX11_sayNumber 67 = .ok (.ldc2_w 235, 3) := by decide +kernel
theorem dX11_sayNumber_70 : decode cX11_sayNumber 70 = .ok (.lrem, 1) := by decide +kernel
theorem dX11_sayNumber_71 : decode cX11_sayNumber 71 = .ok (.ladd, 1) := by decide +kernel
theorem dX11_sayNumber_72 : decode cX11_sayNumber 72 = .ok (.l2i, 1) := by decide +kernel
theorem dX11_sayNumber_73 : decode cX11_sayNumber 73 = .ok (.i2c, 1) := by decide +kernel
theorem dX11_sayNumber_74 : decode cX11_sayNumber 74 = .ok (.invokevirtual 230, 3) := by decide +kernel
theorem dX11_sayNumber_77 : decode cX11_sayNumber 77 = .ok (.lload 9, 2) := by decide +kernel
theorem dX11_sayNumber_79 : decode cX11_sayNumber 79 = .ok (.ldc2_w 235, 3) := by decide +kernel
theorem dX11_sayNumber_82 : decode cX11_sayNumber 82 = .ok (.ldiv, 1) := by decide +kernel
theorem dX11_sayNumber_83 : decode cX11_sayNumber 83 = .ok (.lstore 9, 2) := by decide +kernel
theorem dX11_sayNumber_85 : decode cX11_sayNumber 85 = .ok (.goto (-34), 3) := by decide +kernel
theorem dX11_sayNumber_88 : decode cX11_sayNumber 88 = .ok (.dload_n 3, 1) := by decide +kernel
theorem dX11_sayNumber_89 : decode cX11_sayNumber 89 = .ok (.lload 5, 2) := by decide +kernel
theorem dX11_sayNumber_91 : decode cX11_sayNumber 91 = .ok (.l2d, 1) := by decide +kernel
theorem dX11_sayNumber_92 : decode cX11_sayNumber 92 = .ok (.dsub, 1) := by decide +kernel
theorem dX11_sayNumber_93 : decode cX11_sayNumber 93 = .ok (.ldc2_w 239, 3) := by decide +kernel
theorem dX11_sayNumber_96 : decode cX11_sayNumber 96 = .ok (.dmul, 1) := by decide +kernel
theorem dX11_sayNumber_97 : decode cX11_sayNumber 97 = .ok (.d2l, 1) := by decide +kernel
theorem dX11_sayNumber_98 : decode cX11_sayNumber 98 = .ok (.lstore 9, 2) := by decide +kernel
theorem dX11_sayNumber_100 : decode cX11_sayNumber 100 = .ok (.lload 9, 2) := by decide +kernel
theorem dX11_sayNumber_102 : decode cX11_sayNumber 102 = .ok (.lconst 0, 1) := by decide +kernel
theorem dX11_sayNumber_103 : decode cX11_sayNumber 103 = .ok (.lcmp, 1) := by decide +kernel
theorem dX11_sayNumber_104 : decode cX11_sayNumber 104 = .ok (.ifCond .le 61, 3) := by decide +kernel
theorem dX11_sayNumber_107 : decode cX11_sayNumber 107 = .ok (.aload_n 0, 1) := by decide +kernel
theorem dX11_sayNumber_108 : decode cX11_sayNumber 108 = .ok (.bipush 46, 2) := by decide +kernel
theorem dX11_sayNumber_110 : decode cX11_sayNumber 110 = .ok (.invokevirtual 230, 3) := by decide +kernel
theorem dX11_sayNumber_113 : decode cX11_sayNumber 113 = .ok (.ldc2_w 241, 3) := by decide +kernel
theorem dX11_sayNumber_116 : decode cX11_sayNumber 116 = .ok (.lstore 11, 2) := by decide +kernel
theorem dX11_sayNumber_118 : decode cX11_sayNumber 118 = .ok (.lload 11, 2) := by decide +kernel
theorem dX11_sayNumber_120 : decode cX11_sayNumber 120 = .ok (.lconst 0, 1) := by decide +kernel
theorem dX11_sayNumber_121 : decode cX11_sayNumber 121 = .ok (.lcmp, 1) := by decide +kernel
theorem dX11_sayNumber_122 : decode cX11_sayNumber 122 = .ok (.ifCond .le 43, 3) := by decide +kernel
theorem dX11_sayNumber_125 : decode cX11_sayNumber 125 = .ok (.lload 9, 2) := by decide +kernel
theorem dX11_sayNumber_127 : decode cX11_sayNumber 127 = .ok (.lconst 0, 1) := by decide +kernel
theorem dX11_sayNumber_128 : decode cX11_sayNumber 128 = .ok (.lcmp, 1) := by decide +kernel
theorem dX11_sayNumber_129 : decode cX11_sayNumber 129 = .ok (.ifCond .le 36, 3) := by decide +kernel
theorem dX11_sayNumber_132 : decode cX11_sayNumber 132 = .ok (.aload_n 0, 1) := by decide +kernel
theorem dX11_sayNumber_133 : decode cX11_sayNumber 133 = .ok (.ldc2_w 237, 3) := by decide +kernel
theorem dX11_sayNumber_136 : decode cX11_sayNumber 136 = .ok (.lload 9, 2) := by decide +kernel
theorem dX11_sayNumber_138 : decode cX11_sayNumber 138 = .ok (.lload 11, 2) := by decide +kernel
theorem dX11_sayNumber_140 : decode cX11_sayNumber 140 = .ok (.ldiv, 1) := by decide +kernel
theorem dX11_sayNumber_141 : decode cX11_sayNumber 141 = .ok (.ladd, 1) := by decide +kernel
theorem dX11_sayNumber_142 : decode cX11_sayNumber 142 = .ok (.l2i, 1) := by decide +kernel
theorem dX11_sayNumber_143 : decode cX11_sayNumber 143 = .ok (.i2c, 1) := by decide +kernel
theorem dX11_sayNumber_144 : decode cX11_sayNumber 144 = .ok (.invokevirtual 230, 3) := by decide +kernel
theorem dX11_sayNumber_147 : decode cX11_sayNumber 147 = .ok (.lload 9, 2) := by decide +kernel
theorem dX11_sayNumber_149 : decode cX11_sayNumber 149 = .ok (.lload 11, 2) := by decide +kernel
theorem dX11_sayNumber_151 : decode cX11_sayNumber 151 = .ok (.lrem, 1) := by decide +kernel
theorem dX11_sayNumber_152 : decode cX11_sayNumber 152 = .ok (.lstore 9, 2) := by decide +kernel
theorem dX11_sayNumber_154 : decode cX11_sayNumber 154 = .ok (.lload 11, 2) := by decide +kernel
theorem dX11_sayNumber_156 : decode cX11_sayNumber 156 = .ok (.ldc2_w 235, 3) := by decide +kernel
theorem dX11_sayNumber_159 : decode cX11_sayNumber 159 = .ok (.ldiv, 1) := by decide +kernel
theorem dX11_sayNumber_160 : decode cX11_sayNumber 160 = .ok (.lstore 11, 2) := by decide +kernel
theorem dX11_sayNumber_162 : decode cX11_sayNumber 162 = .ok (.goto (-44), 3) := by decide +kernel
theorem dX11_sayNumber_165 : decode cX11_sayNumber 165 = .ok (.return_, 1) := by decide +kernel
set_option maxRecDepth 20000 in
theorem ggX11_sayOne_X11_sayWord : GoodIn wsX11_sayOne wsX11_sayWord := goodIn_r _ [15, 16, 17, 18, 19, 14, 20, 21, 22, 32, 33, 34, 35, 36, 37, 38, 39, 40, 41, 42, 43, 44, 45, 46, 47, 48, 49, 50, 51, 52, 53, 54, 55, 56, 57, 58, 59] rfl (by decide +kernel)
set_option maxRecDepth 20000 in
theorem gX11_sayOne_X11_sayWord : GoodIn wsX11_sayOne (wsV RX11 245 RX11 yX11_sayWord wsX11_sayWord) := goodIn_app (goodIn_of _ (by decide +kernel)) ggX11_sayOne_X11_sayWord
set_option maxRecDepth 20000 in
theorem ggX11_sayOne_X11_sayNumber : GoodIn wsX11_sayOne wsX11_sayNumber := goodIn_r _ [26, 27, 28, 29, 30, 31, 17, 18, 19, 14, 20, 21, 22, 32, 33, 34, 35, 36, 37, 38, 39, 40, 41, 42, 43, 44, 45, 46, 47, 48, 49, 50, 51, 52, 53, 54, 55, 56, 57, 58, 59] rfl (by decide +kernel)
set_option maxRecDepth 20000 in
theorem gX11_sayOne_X11_sayNumber : GoodIn wsX11_sayOne (wsV RX11 257 RX11 yX11_sayNumber wsX11_sayNumber) := goodIn_app (goodIn_of _ (by decide +kernel)) ggX11_sayOne_X11_sayNumber
set_option maxRecDepth 20000 in
theorem ggX11_sayOne_X11_say : GoodIn wsX11_sayOne wsX11_say := goodIn_r _ [20, 21, 22, 32, 33, 34, 35, 36, 37, 38, 39, 40, 41, 42, 43, 44, 45, 46, 47, 48, 49, 50, 51, 52, 53, 54, 55, 56, 57, 58, 59] rfl (by decide +kernel)
set_option maxRecDepth 20000 in
theorem gX11_sayOne_X11_say : GoodIn wsX11_sayOne (wsV RX11 230 RX11 yX11_say wsX11_say) := goodIn_app (goodIn_of _ (by decide +kernel)) ggX11_sayOne_X11_say
theorem dX11_sayOne_0 : decode cX11_sayOne 0 = .ok (.aload_n 0, 1) := by decide +kernel
theorem dX11_sayOne_1 : decode cX11_sayOne 1 = .ok (.getfield 46, 3) := by decide +kernel
theorem dX11_sayOne_4 : decode cX11_sayOne 4 = .ok (.iload_n 1, 1) := by decide +kernel
theorem dX11_sayOne_5 : decode cX11_sayOne 5 = .ok (.iaload, 1) := by decide +kernel
theorem dX11_sayOne_6 : decode cX11_sayOne 6 = .ok (.tableswitch 95 0 3 #[30, 47, 57, 82], 30) := by decide +kernel
theorem dX11_sayOne_36 : decode cX11_sayOne 36 = .ok (.aload_n 0, 1) := by decide +kernel
theorem dX11_sayOne_37 : decode cX11_sayOne 37 = .ok (.ldc2_w 243, 3) := by decide +kernel
theorem dX11_sayOne_40 : decode cX11_sayOne 40 = .ok (.invokevirtual 245, 3) := by decide +kernel
theorem dX11_sayOne_43 : decode cX11_sayOne 43 = .ok (.aload_n 0, 1) := by decide +kernel
theorem dX11_sayOne_44 : decode cX11_sayOne 44 = .ok (.ldc2_w 249, 3) := by decide +kernel
theorem dX11_sayOne_47 : decode cX11_sayOne 47 = .ok (.invokevirtual 245, 3) := by decide +kernel
theorem dX11_sayOne_50 : decode cX11_sayOne 50 = .ok (.goto 84, 3) := by decide +kernel
theorem dX11_sayOne_53 : decode cX11_sayOne 53 = .ok (.aload_n 0, 1) := by decide +kernel
theorem dX11_sayOne_54 : decode cX11_sayOne 54 = .ok (.ldc2_w 251, 3) := by decide +kernel
theorem dX11_sayOne_57 : decode cX11_sayOne 57 = .ok (.invokevirtual 245, 3) := by decide +kernel
theorem dX11_sayOne_60 : decode cX11_sayOne 60 = .ok (.goto 74, 3) := by decide +kernel
theorem dX11_sayOne_63 : decode cX11_sayOne 63 = .ok (.aload_n 0, 1) := by decide +kernel
theorem dX11_sayOne_64 : decode cX11_sayOne 64 = .ok (.aload_n 0, 1) := by decide +kernel
theorem dX11_sayOne_65 : decode cX11_sayOne 65 = .ok (.getfield 49, 3) := by decide +kernel
theorem dX11_sayOne_68 : decode cX11_sayOne 68 = .ok (.iload_n 1, 1) := by decide +kernel
theorem dX11_sayOne_69 : decode cX11_sayOne 69 = .ok (.baload, 1) := by decide +kernel
theorem dX11_sayOne_70 : decode cX11_sayOne 70 = .ok (.ifCond .eq 9, 3) := by decide +kernel
theorem dX11_sayOne_73 : decode cX11_sayOne 73 = .ok (.ldc2_w 253, 3) := by decide +kernel
theorem dX11_sayOne_76 : decode cX11_sayOne 76 = .ok (.goto 6, 3) := by decide +kernel
theorem dX11_sayOne_79 : decode cX11_sayOne 79 = .ok (.ldc2_w 255, 3) := by decide +kernel
theorem dX11_sayOne_82 : decode cX11_sayOne 82 = .ok (.invokevirtual 245, 3) := by decide +kernel
theorem dX11_sayOne_85 : decode cX11_sayOne 85 = .ok (.goto 49, 3) := by decide +kernel
theorem dX11_sayOne_88 : decode cX11_sayOne 88 = .ok (.aload_n 0, 1) := by decide +kernel
theorem dX11_sayOne_89 : decode cX11_sayOne 89 = .ok (.aload_n 0, 1) := by decide +kernel
theorem dX11_sayOne_90 : decode cX11_sayOne 90 = .ok (.getfield 52, 3) := by decide +kernel
theorem dX11_sayOne_93 : decode cX11_sayOne 93 = .ok (.iload_n 1, 1) := by decide +kernel
theorem dX11_sayOne_94 : decode cX11_sayOne 94 = .ok (.daload, 1) := by decide +kernel
theorem dX11_sayOne_95 : decode cX11_sayOne 95 = .ok (.invokevirtual 257, 3) := by decide +kernel
theorem dX11_sayOne_98 : decode cX11_sayOne 98 = .ok (.goto 36, 3) := by decide +kernel
theorem dX11_sayOne_101 : decode cX11_sayOne 101 = .ok (.iconst 0, 1) := by decide +kernel
theorem dX11_sayOne_102 : decode cX11_sayOne 102 = .ok (.istore_n 2, 1) := by decide +kernel
theorem dX11_sayOne_103 : decode cX11_sayOne 103 = .ok (.iload_n 2, 1) := by decide +kernel
theorem dX11_sayOne_104 : decode cX11_sayOne 104 = .ok (.aload_n 0, 1) := by decide +kernel
theorem dX11_sayOne_105 : decode cX11_sayOne 105 = .ok (.getfield 56, 3) := by decide +kernel
theorem dX11_sayOne_108 : decode cX11_sayOne 108 = .ok (.iload_n 1, 1) := by decide +kernel
theorem dX11_sayOne_109 : decode cX11_sayOne 109 = .ok (.iaload, 1) := by decide +kernel
theorem dX11_sayOne_110 : decode cX11_sayOne 110 = .ok (.if_icmp .ge 24, 3) := by decide +kernel
