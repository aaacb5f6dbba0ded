theorem dX6_load_6 : decode cX6_load 6 = .ok (.istore_n 2, 1) := by decide +kernel
theorem dX6_load_7 : decode cX6_load 7 = .ok (.iload_n 2, 1) := by decide +kernel
theorem dX6_load_8 : decode cX6_load 8 = .ok (.aload_n 1, 1) := by decide +kernel
theorem dX6_load_9 : decode cX6_load 9 = .ok (.getfield 77, 3) := by decide +kernel
theorem dX6_load_12 : decode cX6_load 12 = .ok (.if_icmp .ge 82, 3) := by decide +kernel
theorem dX6_load_15 : decode cX6_load 15 = .ok (.aload_n 1, 1) := by decide +kernel
theorem dX6_load_16 : decode cX6_load 16 = .ok (.iload_n 2, 1) := by decide +kernel
theorem dX6_load_17 : decode cX6_load 17 = .ok (.invokevirtual 82, 3) := by decide +kernel
theorem dX6_load_20 : decode cX6_load 20 = .ok (.istore_n 3, 1) := by decide +kernel
theorem dX6_load_21 : decode cX6_load 21 = .ok (.iload_n 3, 1) := by decide +kernel
theorem dX6_load_22 : decode cX6_load 22 = .ok (.bipush 32, 2) := by decide +kernel
theorem dX6_load_24 : decode cX6_load 24 = .ok (.if_icmp .eq 64, 3) := by decide +kernel
theorem dX6_load_27 : decode cX6_load 27 = .ok (.aload_n 0, 1) := by decide +kernel
theorem dX6_load_28 : decode cX6_load 28 = .ok (.getfield 19, 3) := by decide +kernel
theorem dX6_load_31 : decode cX6_load 31 = .ok (.ifCond .lt 57, 3) := by decide +kernel
theorem dX6_load_34 : decode cX6_load 34 = .ok (.aload_n 0, 1) := by decide +kernel
theorem dX6_load_35 : decode cX6_load 35 = .ok (.getfield 19, 3) := by decide +kernel
theorem dX6_load_38 : decode cX6_load 38 = .ok (.aload_n 0, 1) := by decide +kernel
theorem dX6_load_39 : decode cX6_load 39 = .ok (.getfield 9, 3) := by decide +kernel
theorem dX6_load_42 : decode cX6_load 42 = .ok (.arraylength, 1) := by decide +kernel
theorem dX6_load_43 : decode cX6_load 43 = .ok (.if_icmp .ge 45, 3) := by decide +kernel
theorem dX6_load_46 : decode cX6_load 46 = .ok (.aload_n 0, 1) := by decide +kernel
theorem dX6_load_47 : decode cX6_load 47 = .ok (.getfield 19, 3) := by decide +kernel
theorem dX6_load_50 : decode cX6_load 50 = .ok (.aload_n 0, 1) := by decide +kernel
theorem dX6_load_51 : decode cX6_load 51 = .ok (.getfield 15, 3) := by decide +kernel
theorem dX6_load_54 : decode cX6_load 54 = .ok (.arraylength, 1) := by decide +kernel
theorem dX6_load_55 : decode cX6_load 55 = .ok (.if_icmp .ge 33, 3) := by decide +kernel
theorem dX6_load_58 : decode cX6_load 58 = .ok (.aload_n 0, 1) := by decide +kernel
theorem dX6_load_59 : decode cX6_load 59 = .ok (.getfield 9, 3) := by decide +kernel
theorem dX6_load_62 : decode cX6_load 62 = .ok (.aload_n 0, 1) := by decide +kernel
theorem dX6_load_63 : decode cX6_load 63 = .ok (.getfield 19, 3) := by decide +kernel
theorem dX6_load_66 : decode cX6_load 66 = .ok (.iload_n 3, 1) := by decide +kernel
theorem dX6_load_67 : decode cX6_load 67 = .ok (.castore, 1) := by decide +kernel
theorem dX6_load_68 : decode cX6_load 68 = .ok (.aload_n 0, 1) := by decide +kernel
theorem dX6_load_69 : decode cX6_load 69 = .ok (.getfield 15, 3) := by decide +kernel
theorem dX6_load_72 : decode cX6_load 72 = .ok (.aload_n 0, 1) := by decide +kernel
theorem dX6_load_73 : decode cX6_load 73 = .ok (.getfield 19, 3) := by decide +kernel
theorem dX6_load_76 : decode cX6_load 76 = .ok (.iload_n 2, 1) := by decide +kernel
theorem dX6_load_77 : decode cX6_load 77 = .ok (.iastore, 1) := by decide +kernel
theorem dX6_load_78 : decode cX6_load 78 = .ok (.aload_n 0, 1) := by decide +kernel
theorem dX6_load_79 : decode cX6_load 79 = .ok (.dup, 1) := by decide +kernel
theorem dX6_load_80 : decode cX6_load 80 = .ok (.getfield 19, 3) := by decide +kernel
theorem dX6_load_83 : decode cX6_load 83 = .ok (.iconst 1, 1) := by decide +kernel
theorem dX6_load_84 : decode cX6_load 84 = .ok (.iadd, 1) := by decide +kernel
theorem dX6_load_85 : decode cX6_load 85 = .ok (.putfield 19, 3) := by decide +kernel
theorem dX6_load_88 : decode cX6_load 88 = .ok (.iinc 2 1, 3) := by decide +kernel
theorem dX6_load_91 : decode cX6_load 91 = .ok (.goto (-84), 3) := by decide +kernel
theorem dX6_load_94 : decode cX6_load 94 = .ok (.aload_n 0, 1) := by decide +kernel
theorem dX6_load_95 : decode cX6_load 95 = .ok (.aload_n 1, 1) := by decide +kernel
theorem dX6_load_96 : decode cX6_load 96 = .ok (.getfield 77, 3) := by decide +kernel
theorem dX6_load_99 : decode cX6_load 99 = .ok (.putfield 23, 3) := by decide +kernel
theorem dX6_load_102 : decode cX6_load 102 = .ok (.aload_n 0, 1) := by decide +kernel
theorem dX6_load_103 : decode cX6_load 103 = .ok (.iconst (-1), 1) := by decide +kernel
theorem dX6_load_104 : decode cX6_load 104 = .ok (.putfield 32, 3) := by decide +kernel
theorem dX6_load_107 : decode cX6_load 107 = .ok (.return_, 1) := by decide +kernel
theorem dX6_signAt_0 : decode cX6_signAt 0 = .ok (.iload_n 1, 1) := by decide +kernel
theorem dX6_signAt_1 : decode cX6_signAt 1 = .ok (.ifCond .lt 29, 3) := by decide +kernel
theorem dX6_signAt_4 : decode cX6_signAt 4 = .ok (.iload_n 1, 1) := by decide +kernel
theorem dX6_signAt_5 : decode cX6_signAt 5 = .ok (.aload_n 0, 1) := by decide +kernel
theorem dX6_signAt_6 : decode cX6_signAt 6 = .ok (.getfield 19, 3) := by decide +kernel
theorem dX6_signAt_9 : decode cX6_signAt 9 = .ok (.if_icmp .ge 21, 3) := by decide +kernel
theorem dX6_signAt_12 : decode cX6_signAt 12 = .ok (.iload_n 1, 1) := by decide +kernel
theorem dX6_signAt_13 : decode cX6_signAt 13 = .ok (.aload_n 0, 1) := by decide +kernel
theorem dX6_signAt_14 : decode cX6_signAt 14 = .ok (.getfield 9, 3) := by decide +kernel
theorem dX6_signAt_17 : decode cX6_signAt 17 = .ok (.arraylength, 1) := by decide +kernel
theorem dX6_signAt_18 : decode cX6_signAt 18 = .ok (.if_icmp .ge 12, 3) := by decide +kernel
theorem dX6_signAt_21 : decode cX6_signAt 21 = .ok (.aload_n 0, 1) := by decide +kernel
theorem dX6_signAt_22 : decode cX6_signAt 22 = .ok (.getfield 9, 3) := by decide +kernel
theorem dX6_signAt_25 : decode cX6_signAt 25 = .ok (.iload_n 1, 1) := by decide +kernel
theorem dX6_signAt_26 : decode cX6_signAt 26 = .ok (.caload, 1) := by decide +kernel
theorem dX6_signAt_27 : decode cX6_signAt 27 = .ok (.goto 4, 3) := by decide +kernel
theorem dX6_signAt_30 : decode cX6_signAt 30 = .ok (.iconst 0, 1) := by decide +kernel
theorem dX6_signAt_31 : decode cX6_signAt 31 = .ok (.ireturn, 1) := by decide +kernel
theorem dX6_stoodAt_0 : decode cX6_stoodAt 0 = .ok (.iload_n 1, 1) := by decide +kernel
theorem dX6_stoodAt_1 : decode cX6_stoodAt 1 = .ok (.ifCond .lt 29, 3) := by decide +kernel
theorem dX6_stoodAt_4 : decode cX6_stoodAt 4 = .ok (.iload_n 1, 1) := by decide +kernel
theorem dX6_stoodAt_5 : decode cX6_stoodAt 5 = .ok (.aload_n 0, 1) := by decide +kernel
theorem dX6_stoodAt_6 : decode cX6_stoodAt 6 = .ok (.getfield 19, 3) := by decide +kernel
theorem dX6_stoodAt_9 : decode cX6_stoodAt 9 = .ok (.if_icmp .ge 21, 3) := by decide +kernel
theorem dX6_stoodAt_12 : decode cX6_stoodAt 12 = .ok (.iload_n 1, 1) := by decide +kernel
theorem dX6_stoodAt_13 : decode cX6_stoodAt 13 = .ok (.aload_n 0, 1) := by decide +kernel
theorem dX6_stoodAt_14 : decode cX6_stoodAt 14 = .ok (.getfield 15, 3) := by decide +kernel
theorem dX6_stoodAt_17 : decode cX6_stoodAt 17 = .ok (.arraylength, 1) := by decide +kernel
theorem dX6_stoodAt_18 : decode cX6_stoodAt 18 = .ok (.if_icmp .ge 12, 3) := by decide +kernel
theorem dX6_stoodAt_21 : decode cX6_stoodAt 21 = .ok (.aload_n 0, 1) := by decide +kernel
theorem dX6_stoodAt_22 : decode cX6_stoodAt 22 = .ok (.getfield 15, 3) := by decide +kernel
theorem dX6_stoodAt_25 : decode cX6_stoodAt 25 = .ok (.iload_n 1, 1) := by decide +kernel
theorem dX6_stoodAt_26 : decode cX6_stoodAt 26 = .ok (.iaload, 1) := by decide +kernel
theorem dX6_stoodAt_27 : decode cX6_stoodAt 27 = .ok (.goto 7, 3) := by decide +kernel
theorem dX6_stoodAt_30 : decode cX6_stoodAt 30 = .ok (.aload_n 0, 1) := by decide +kernel
theorem dX6_stoodAt_31 : decode cX6_stoodAt 31 = .ok (.getfield 23, 3) := by decide +kernel
theorem dX6_stoodAt_34 : decode cX6_stoodAt 34 = .ok (.ireturn, 1) := by decide +kernel
set_option maxRecDepth 20000 in
theorem ggX6_failAt_X6_stoodAt : GoodIn wsX6_failAt wsX6_stoodAt := goodIn_r _ [6, 7, 8, 9, 10, 11, 12, 13, 14, 15, 16] (by decide +kernel) (by decide +kernel)
set_option maxRecDepth 20000 in
theorem gX6_failAt_X6_stoodAt : GoodIn wsX6_failAt (wsV RX6 84 RX6 yX6_stoodAt wsX6_stoodAt) := goodIn_app (goodIn_of _ (by decide +kernel)) ggX6_failAt_X6_stoodAt
theorem dX6_failAt_0 : decode cX6_failAt 0 = .ok (.aload_n 0, 1) := by decide +kernel
theorem dX6_failAt_1 : decode cX6_failAt 1 = .ok (.aload_n 0, 1) := by decide +kernel
theorem dX6_failAt_2 : decode cX6_failAt 2 = .ok (.iload_n 1, 1) := by decide +kernel
theorem dX6_failAt_3 : decode cX6_failAt 3 = .ok (.invokevirtual 84, 3) := by decide +kernel
theorem dX6_failAt_6 : decode cX6_failAt 6 = .ok (.putfield 32, 3) := by decide +kernel
theorem dX6_failAt_9 : decode cX6_failAt 9 = .ok (.iconst 0, 1) := by decide +kernel
theorem dX6_failAt_10 : decode cX6_failAt 10 = .ok (.ireturn, 1) := by decide +kernel
set_option maxRecDepth 20000 in
theorem ggX6_take_X6_signAt : GoodIn wsX6_take wsX6_signAt := goodIn_r _ [6, 7, 8, 9, 10, 11, 12, 13, 14, 15] (by decide +kernel) (by decide +kernel)
set_option maxRecDepth 20000 in
theorem gX6_take_X6_signAt : GoodIn wsX6_take (wsV RX6 39 RX6 yX6_signAt wsX6_signAt) := goodIn_app (goodIn_of _ (by decide +kernel)) ggX6_take_X6_signAt
theorem dX6_take_0 : decode cX6_take 0 = .ok (.aload_n 0, 1) := by decide +kernel
theorem dX6_take_1 : decode cX6_take 1 = .ok (.aload_n 0, 1) := by decide +kernel
theorem dX6_take_2 : decode cX6_take 2 = .ok (.getfield 26, 3) := by decide +kernel
theorem dX6_take_5 : decode cX6_take 5 = .ok (.invokevirtual 39, 3) := by decide +kernel
theorem dX6_take_8 : decode cX6_take 8 = .ok (.iload_n 1, 1) := by decide +kernel
theorem dX6_take_9 : decode cX6_take 9 = .ok (.if_icmp .eq 5, 3) := by decide +kernel
theorem dX6_take_12 : decode cX6_take 12 = .ok (.iconst 0, 1) := by decide +kernel
theorem dX6_take_13 : decode cX6_take 13 = .ok (.ireturn, 1) := by decide +kernel
theorem dX6_take_14 : decode cX6_take 14 = .ok (.aload_n 0, 1) := by decide +kernel
theorem dX6_take_15 : decode cX6_take 15 = .ok (.dup, 1) := by decide +kernel
theorem dX6_take_16 : decode cX6_take 16 = .ok (.getfield 26, 3) := by decide +kernel
theorem dX6_take_19 : decode cX6_take 19 = .ok (.iconst 1, 1) := by decide +kernel
theorem dX6_take_20 : decode cX6_take 20 = .ok (.iadd, 1) := by decide +kernel
theorem dX6_take_21 : decode cX6_take 21 = .ok (.putfield 26, 3) := by decide +kernel
theorem dX6_take_24 : decode cX6_take 24 = .ok (.iconst 1, 1) := by decide +kernel
theorem dX6_take_25 : decode cX6_take 25 = .ok (.ireturn, 1) := by decide +kernel
set_option maxRecDepth 20000 in
theorem ggX6_need_X6_take : GoodIn wsX6_need wsX6_take := goodIn_r _ [6, 1, 7, 8, 9, 5, 10, 11, 12, 24, 25, 26, 27, 28, 29, 30] (by decide +kernel) (by decide +kernel)
set_option maxRecDepth 20000 in
theorem gX6_need_X6_take : GoodIn wsX6_need (wsV RX6 56 RX6 yX6_take wsX6_take) := goodIn_app (goodIn_of _ (by decide +kernel)) ggX6_need_X6_take
set_option maxRecDepth 20000 in
theorem ggX6_need_X6_failAt : GoodIn wsX6_need wsX6_failAt := goodIn_r _ [16, 17, 18, 19, 20, 5, 21, 11, 22, 23, 24, 25, 26, 27, 28, 29, 30] (by decide +kernel) (by decide +kernel)
set_option maxRecDepth 20000 in
theorem gX6_need_X6_failAt : GoodIn wsX6_need (wsV RX6 43 RX6 yX6_failAt wsX6_failAt) := goodIn_app (goodIn_of _ (by decide +kernel)) ggX6_need_X6_failAt
theorem dX6_need_0 : decode cX6_need 0 = .ok (.aload_n 0, 1) := by decide +kernel
theorem dX6_need_1 : decode cX6_need 1 = .ok (.iload_n 1, 1) := by decide +kernel
theorem dX6_need_2 : decode cX6_need 2 = .ok (.invokevirtual 56, 3) := by decide +kernel
theorem dX6_need_5 : decode cX6_need 5 = .ok (.ifCond .ne 14, 3) := by decide +kernel
theorem dX6_need_8 : decode cX6_need 8 = .ok (.aload_n 0, 1) := by decide +kernel
theorem dX6_need_9 : decode cX6_need 9 = .ok (.aload_n 0, 1) := by decide +kernel
theorem dX6_need_10 : decode cX6_need 10 = .ok (.getfield 26, 3) := by decide +kernel
theorem dX6_need_13 : decode cX6_need 13 = .ok (.invokevirtual 43, 3) := by decide +kernel
theorem dX6_need_16 : decode cX6_need 16 = .ok (.ifCond .eq 7, 3) := by decide +kernel
theorem dX6_need_19 : decode cX6_need 19 = .ok (.iconst 1, 1) := by decide +kernel
theorem dX6_need_20 : decode cX6_need 20 = .ok (.goto 4, 3) := by decide +kernel
theorem dX6_need_23 : decode cX6_need 23 = .ok (.iconst 0, 1) := by decide +kernel
theorem dX6_need_24 : decode cX6_need 24 = .ok (.ireturn, 1) := by decide +kernel
set_option maxRecDepth 20000 in
theorem ggX6_readWord_X6_stoodAt : GoodIn wsX6_readWord wsX6_stoodAt := goodIn_r _ [7, 2, 8, 9, 23, 24, 25, 26, 27, 28, 29] (by decide +kernel) (by decide +kernel)
set_option maxRecDepth 20000 in
theorem gX6_readWord_X6_stoodAt : GoodIn wsX6_readWord (wsV RX6 84 RX6 yX6_stoodAt wsX6_stoodAt) := goodIn_app (goodIn_of _ (by decide +kernel)) ggX6_readWord_X6_stoodAt
set_option maxRecDepth 20000 in
theorem ggX6_readWord_X6_signAt : GoodIn wsX6_readWord wsX6_signAt := goodIn_r _ [13, 2, 14, 23, 24, 25, 26, 27, 28, 29] (by decide +kernel) (by decide +kernel)
set_option maxRecDepth 20000 in
theorem gX6_readWord_X6_signAt : GoodIn wsX6_readWord (wsV RX6 39 RX6 yX6_signAt wsX6_signAt) := goodIn_app (goodIn_of _ (by decide +kernel)) ggX6_readWord_X6_signAt
set_option maxRecDepth 20000 in
theorem ggX6_readWord_X7_isLetter : GoodIn wsX6_readWord wsX7_isLetter := goodIn_r _ [18] (by decide +kernel) (by decide +kernel)
set_option maxRecDepth 20000 in
theorem gX6_readWord_X7_isLetter : GoodIn wsX6_readWord (va_wsS RX6 88 yX7_isLetter wsX7_isLetter) := goodIn_app (goodIn_of _ (by decide +kernel)) ggX6_readWord_X7_isLetter
set_option maxRecDepth 20000 in
theorem ggX6_readWord_X7_withLetter : GoodIn wsX6_readWord wsX7_withLetter := goodIn_r _ [21, 22] (by decide +kernel) (by decide +kernel)
set_option maxRecDepth 20000 in
theorem gX6_readWord_X7_withLetter : GoodIn wsX6_readWord (va_wsS RX6 91 yX7_withLetter wsX7_withLetter) := goodIn_app (goodIn_of _ (by decide +kernel)) ggX6_readWord_X7_withLetter
theorem dX6_readWord_0 : decode cX6_readWord 0 = .ok (.aload_n 0, 1) := by decide +kernel
theorem dX6_readWord_1 : decode cX6_readWord 1 = .ok (.getfield 26, 3) := by decide +kernel
theorem dX6_readWord_4 : decode cX6_readWord 4 = .ok (.istore_n 1, 1) := by decide +kernel
theorem dX6_readWord_5 : decode cX6_readWord 5 = .ok (.aload_n 0, 1) := by decide +kernel
theorem dX6_readWord_6 : decode cX6_readWord 6 = .ok (.aload_n 0, 1) := by decide +kernel
theorem dX6_readWord_7 : decode cX6_readWord 7 = .ok (.getfield 26, 3) := by decide +kernel
theorem dX6_readWord_10 : decode cX6_readWord 10 = .ok (.invokevirtual 84, 3) := by decide +kernel
theorem dX6_readWord_13 : decode cX6_readWord 13 = .ok (.istore_n 2, 1) := by decide +kernel
theorem dX6_readWord_14 : decode cX6_readWord 14 = .ok (.lconst 0, 1) := by decide +kernel
theorem dX6_readWord_15 : decode cX6_readWord 15 = .ok (.lstore_n 3, 1) := by decide +kernel
theorem dX6_readWord_16 : decode cX6_readWord 16 = .ok (.aload_n 0, 1) := by decide +kernel
theorem dX6_readWord_17 : decode cX6_readWord 17 = .ok (.getfield 26, 3) := by decide +kernel
theorem dX6_readWord_20 : decode cX6_readWord 20 = .ok (.aload_n 0, 1) := by decide +kernel
theorem dX6_readWord_21 : decode cX6_readWord 21 = .ok (.getfield 19, 3) := by decide +kernel
theorem dX6_readWord_24 : decode cX6_readWord 24 = .ok (.if_icmp .ge 62, 3) := by decide +kernel
theorem dX6_readWord_27 : decode cX6_readWord 27 = .ok (.aload_n 0, 1) := by decide +kernel
theorem dX6_readWord_28 : decode cX6_readWord 28 = .ok (.aload_n 0, 1) := by decide +kernel
theorem dX6_readWord_29 : decode cX6_readWord 29 = .ok (.getfield 26, 3) := by decide +kernel
theorem dX6_readWord_32 : decode cX6_readWord 32 = .ok (.invokevirtual 84, 3) := by decide +kernel
theorem dX6_readWord_35 : decode cX6_readWord 35 = .ok (.iload_n 2, 1) := by decide +kernel
theorem dX6_readWord_36 : decode cX6_readWord 36 = .ok (.isub, 1) := by decide +kernel
theorem dX6_readWord_37 : decode cX6_readWord 37 = .ok (.aload_n 0, 1) := by decide +kernel
theorem dX6_readWord_38 : decode cX6_readWord 38 = .ok (.getfield 26, 3) := by decide +kernel
theorem dX6_readWord_41 : decode cX6_readWord 41 = .ok (.iload_n 1, 1) := by decide +kernel
theorem dX6_readWord_42 : decode cX6_readWord 42 = .ok (.isub, 1) := by decide +kernel
theorem dX6_readWord_43 : decode cX6_readWord 43 = .ok (.if_icmp .ne 43, 3) := by decide +kernel
theorem dX6_readWord_46 : decode cX6_readWord 46 = .ok (.aload_n 0, 1) := by decide +kernel
theorem dX6_readWord_47 : decode cX6_readWord 47 = .ok (.aload_n 0, 1) := by decide +kernel
theorem dX6_readWord_48 : decode cX6_readWord 48 = .ok (.getfield 26, 3) := by decide +kernel
theorem dX6_readWord_51 : decode cX6_readWord 51 = .ok (.invokevirtual 39, 3) := by decide +kernel
theorem dX6_readWord_54 : decode cX6_readWord 54 = .ok (.invokestatic 88, 3) := by decide +kernel
theorem dX6_readWord_57 : decode cX6_readWord 57 = .ok (.ifCond .eq 29, 3) := by decide +kernel
theorem dX6_readWord_60 : decode cX6_readWord 60 = .ok (.lload_n 3, 1) := by decide +kernel
theorem dX6_readWord_61 : decode cX6_readWord 61 = .ok (.aload_n 0, 1) := by decide +kernel
theorem dX6_readWord_62 : decode cX6_readWord 62 = .ok (.aload_n 0, 1) := by decide +kernel
theorem dX6_readWord_63 : decode cX6_readWord 63 = .ok (.getfield 26, 3) := by decide +kernel
theorem dX6_readWord_66 : decode cX6_readWord 66 = .ok (.invokevirtual 39, 3) := by decide +kernel
theorem dX6_readWord_69 : decode cX6_readWord 69 = .ok (.invokestatic 91, 3) := by decide +kernel
theorem dX6_readWord_72 : decode cX6_readWord 72 = .ok (.lstore_n 3, 1) := by decide +kernel
theorem dX6_readWord_73 : decode cX6_readWord 73 = .ok (.aload_n 0, 1) := by decide +kernel
theorem dX6_readWord_74 : decode cX6_readWord 74 = .ok (.dup, 1) := by decide +kernel
theorem dX6_readWord_75 : decode cX6_readWord 75 = .ok (.getfield 26, 3) := by decide +kernel
theorem dX6_readWord_78 : decode cX6_readWord 78 = .ok (.iconst 1, 1) := by decide +kernel
theorem dX6_readWord_79 : decode cX6_readWord 79 = .ok (.iadd, 1) := by decide +kernel
theorem dX6_readWord_80 : decode cX6_readWord 80 = .ok (.putfield 26, 3) := by decide +kernel
theorem dX6_readWord_83 : decode cX6_readWord 83 = .ok (.goto (-67), 3) := by decide +kernel
theorem dX6_readWord_86 : decode cX6_readWord 86 = .ok (.aload_n 0, 1) := by decide +kernel
theorem dX6_readWord_87 : decode cX6_readWord 87 = .ok (.getfield 26, 3) := by decide +kernel
theorem dX6_readWord_90 : decode cX6_readWord 90 = .ok (.iload_n 1, 1) := by decide +kernel
theorem dX6_readWord_91 : decode cX6_readWord 91 = .ok (.isub, 1) := by decide +kernel
theorem dX6_readWord_92 : decode cX6_readWord 92 = .ok (.bipush 8, 2) := by decide +kernel
theorem dX6_readWord_94 : decode cX6_readWord 94 = .ok (.if_icmp .le 7, 3) := by decide +kernel
theorem dX6_readWord_97 : decode cX6_readWord 97 = .ok (.lconst 0, 1) := by decide +kernel
theorem dX6_readWord_98 : decode cX6_readWord 98 = .ok (.goto 4, 3) := by decide +kernel
theorem dX6_readWord_101 : decode cX6_readWord 101 = .ok (.lload_n 3, 1) := by decide +kernel
theorem dX6_readWord_102 : decode cX6_readWord 102 = .ok (.lreturn, 1) := by decide +kernel
set_option maxRecDepth 20000 in
theorem ggX6_readArgument_X6_readWord : GoodIn wsX6_readArgument wsX6_readWord := goodIn_r _ [9, 1, 10, 11, 12, 13, 8, 14, 15, 16, 17, 18, 19, 20, 21, 22, 23, 24, 25, 26, 27, 28, 29, 148, 149, 150, 151, 152, 153, 154] (by decide +kernel) (by decide +kernel)
set_option maxRecDepth 20000 in
theorem gX6_readArgument_X6_readWord : GoodIn wsX6_readArgument (wsV RX6 95 RX6 yX6_readWord wsX6_readWord) := goodIn_app (goodIn_of _ (by decide +kernel)) ggX6_readArgument_X6_readWord
set_option maxRecDepth 20000 in
theorem ggX6_readArgument_X7_codeOf : GoodIn wsX6_readArgument wsX7_codeOf := goodIn_r _ [32, 33, 34, 35, 36, 37, 38, 39, 40, 41, 42, 43, 44, 45, 46, 47, 48, 49, 50, 51, 52, 53, 54, 55, 56, 57, 58, 59, 60, 61, 62, 63, 64, 65, 66, 67, 68, 69, 70, 71, 72, 73, 74, 75, 76, 77, 78, 79, 80, 81, 82, 27, 24, 28, 29] (by decide +kernel) (by decide +kernel)
set_option maxRecDepth 20000 in
theorem gX6_readArgument_X7_codeOf : GoodIn wsX6_readArgument (va_wsS RX6 101 yX7_codeOf wsX7_codeOf) := goodIn_app (goodIn_of _ (by decide +kernel)) ggX6_readArgument_X7_codeOf
set_option maxRecDepth 20000 in
theorem ggX6_readArgument_X6_readType : GoodIn wsX6_readArgument wsX6_readType := goodIn_r _ [86, 87, 88, 89, 90, 91, 92, 93, 94, 95, 96, 8, 97, 1, 98, 99, 100, 101, 17, 18, 19, 20, 10, 21, 102, 103, 104, 105, 106, 11, 12, 13, 14, 15, 16, 5, 6, 7, 9, 22, 23, 24, 25, 26, 27, 28, 29, 107, 108, 109, 110, 30, 31, 32, 33, 34, 35, 36, 37, 38, 39, 40, 41, 42, 43, 44, 45, 46, 47, 48, 49, 50, 51, 52, 53, 54, 55, 56, 57, 58, 59, 60, 61, 62, 63, 64, 65, 66, 67, 68, 69, 70, 71, 72, 73, 74, 75, 76, 77, 78, 79, 80, 81, 82, 111, 112, 113, 114, 115, 116, 117, 118, 119, 120, 121, 122, 123, 124, 125, 126, 127, 128, 129, 130, 131, 132, 133, 134, 135, 136, 137, 138, 139, 140, 148, 149, 150, 151, 152, 153, 154, 158, 159, 160, 161, 162] (by decide +kernel) (by decide +kernel)
set_option maxRecDepth 20000 in
theorem gX6_readArgument_X6_readType : GoodIn wsX6_readArgument (wsV RX6 105 RX6 yX6_readType wsX6_readType) := goodIn_app (goodIn_of _ (by decide +kernel)) ggX6_readArgument_X6_readType
set_option maxRecDepth 20000 in
theorem ggX6_readArgument_X6_take : GoodIn wsX6_readArgument wsX6_take := goodIn_r _ [101, 1, 17, 18, 19, 8, 20, 10, 21, 148, 149, 150, 151, 152, 153, 154] (by decide +kernel) (by decide +kernel)
set_option maxRecDepth 20000 in
theorem gX6_readArgument_X6_take : GoodIn wsX6_readArgument (wsV RX6 56 RX6 yX6_take wsX6_take) := goodIn_app (goodIn_of _ (by decide +kernel)) ggX6_readArgument_X6_take
set_option maxRecDepth 20000 in
theorem ggX6_readArgument_X6_need : GoodIn wsX6_readArgument wsX6_need := goodIn_r _ [121, 1, 98, 99, 100, 8, 101, 17, 18, 19, 20, 10, 21, 102, 103, 104, 105, 106, 11, 12, 13, 14, 15, 16, 148, 149, 150, 151, 152, 153, 154] (by decide +kernel) (by decide +kernel)
set_option maxRecDepth 20000 in
theorem gX6_readArgument_X6_need : GoodIn wsX6_readArgument (wsV RX6 52 RX6 yX6_need wsX6_need) := goodIn_app (goodIn_of _ (by decide +kernel)) ggX6_readArgument_X6_need
set_option maxRecDepth 20000 in
theorem ggX6_readArgument_X6_failAt : GoodIn wsX6_readArgument wsX6_failAt := goodIn_r _ [105, 106, 11, 12, 13, 8, 14, 10, 15, 16, 148, 149, 150, 151, 152, 153, 154] (by decide +kernel) (by decide +kernel)
set_option maxRecDepth 20000 in
theorem gX6_readArgument_X6_failAt : GoodIn wsX6_readArgument (wsV RX6 43 RX6 yX6_failAt wsX6_failAt) := goodIn_app (goodIn_of _ (by decide +kernel)) ggX6_readArgument_X6_failAt
set_option maxRecDepth 20000 in
theorem ggX6_readArgument_X0_init : GoodIn wsX6_readArgument wsX0_init := goodIn_r _ [143, 144, 134, 135, 145, 146, 147, 155, 156, 157] (by decide +kernel) (by decide +kernel)
set_option maxRecDepth 20000 in
theorem gX6_readArgument_X0_init : GoodIn wsX6_readArgument (wsX0_init) := ggX6_readArgument_X0_init
theorem dX6_readArgument_0 : decode cX6_readArgument 0 = .ok (.aload_n 0, 1) := by decide +kernel
theorem dX6_readArgument_1 : decode cX6_readArgument 1 = .ok (.getfield 26, 3) := by decide +kernel
theorem dX6_readArgument_4 : decode cX6_readArgument 4 = .ok (.istore_n 2, 1) := by decide +kernel
theorem dX6_readArgument_5 : decode cX6_readArgument 5 = .ok (.aload_n 0, 1) := by decide +kernel
theorem dX6_readArgument_6 : decode cX6_readArgument 6 = .ok (.invokevirtual 95, 3) := by decide +kernel
theorem dX6_readArgument_9 : decode cX6_readArgument 9 = .ok (.ldc 99, 2) := by decide +kernel
theorem dX6_readArgument_11 : decode cX6_readArgument 11 = .ok (.invokestatic 101, 3) := by decide +kernel
theorem dX6_readArgument_14 : decode cX6_readArgument 14 = .ok (.lcmp, 1) := by decide +kernel
theorem dX6_readArgument_15 : decode cX6_readArgument 15 = .ok (.ifCond .ne 7, 3) := by decide +kernel
theorem dX6_readArgument_18 : decode cX6_readArgument 18 = .ok (.iconst 1, 1) := by decide +kernel
theorem dX6_readArgument_19 : decode cX6_readArgument 19 = .ok (.goto 4, 3) := by decide +kernel
theorem dX6_readArgument_22 : decode cX6_readArgument 22 = .ok (.iconst 0, 1) := by decide +kernel
theorem dX6_readArgument_23 : decode cX6_readArgument 23 = .ok (.istore_n 3, 1) := by decide +kernel
theorem dX6_readArgument_24 : decode cX6_readArgument 24 = .ok (.iload_n 3, 1) := by decide +kernel
theorem dX6_readArgument_25 : decode cX6_readArgument 25 = .ok (.ifCond .ne 8, 3) := by decide +kernel
theorem dX6_readArgument_28 : decode cX6_readArgument 28 = .ok (.aload_n 0, 1) := by decide +kernel
theorem dX6_readArgument_29 : decode cX6_readArgument 29 = .ok (.iload_n 2, 1) := by decide +kernel
theorem dX6_readArgument_30 : decode cX6_readArgument 30 = .ok (.putfield 26, 3) := by decide +kernel
theorem dX6_readArgument_33 : decode cX6_readArgument 33 = .ok (.aload_n 0, 1) := by decide +kernel
theorem dX6_readArgument_34 : decode cX6_readArgument 34 = .ok (.invokevirtual 105, 3) := by decide +kernel
theorem dX6_readArgument_37 : decode cX6_readArgument 37 = .ok (.astore 4, 2) := by decide +kernel
theorem dX6_readArgument_39 : decode cX6_readArgument 39 = .ok (.aload 4, 2) := by decide +kernel
theorem dX6_readArgument_41 : decode cX6_readArgument 41 = .ok (.ifnonnull 5, 3) := by decide +kernel
theorem dX6_readArgument_44 : decode cX6_readArgument 44 = .ok (.aconst_null, 1) := by decide +kernel
theorem dX6_readArgument_45 : decode cX6_readArgument 45 = .ok (.areturn, 1) := by decide +kernel
theorem dX6_readArgument_46 : decode cX6_readArgument 46 = .ok (.iload_n 3, 1) := by decide +kernel
theorem dX6_readArgument_47 : decode cX6_readArgument 47 = .ok (.ifCond .ne 16, 3) := by decide +kernel
theorem dX6_readArgument_50 : decode cX6_readArgument 50 = .ok (.aload_n 0, 1) := by decide +kernel
theorem dX6_readArgument_51 : decode cX6_readArgument 51 = .ok (.bipush 46, 2) := by decide +kernel
theorem dX6_readArgument_53 : decode cX6_readArgument 53 = .ok (.invokevirtual 56, 3) := by decide +kernel
theorem dX6_readArgument_56 : decode cX6_readArgument 56 = .ok (.ifCond .eq 7, 3) := by decide +kernel
theorem dX6_readArgument_59 : decode cX6_readArgument 59 = .ok (.iconst 1, 1) := by decide +kernel
theorem dX6_readArgument_60 : decode cX6_readArgument 60 = .ok (.goto 4, 3) := by decide +kernel
theorem dX6_readArgument_63 : decode cX6_readArgument 63 = .ok (.iconst 0, 1) := by decide +kernel
theorem dX6_readArgument_64 : decode cX6_readArgument 64 = .ok (.istore 5, 2) := by decide +kernel
theorem dX6_readArgument_66 : decode cX6_readArgument 66 = .ok (.iload 5, 2) := by decide +kernel
theorem dX6_readArgument_68 : decode cX6_readArgument 68 = .ok (.ifCond .eq 23, 3) := by decide +kernel
theorem dX6_readArgument_71 : decode cX6_readArgument 71 = .ok (.aload_n 0, 1) := by decide +kernel
theorem dX6_readArgument_72 : decode cX6_readArgument 72 = .ok (.bipush 46, 2) := by decide +kernel
theorem dX6_readArgument_74 : decode cX6_readArgument 74 = .ok (.invokevirtual 52, 3) := by decide +kernel
theorem dX6_readArgument_77 : decode cX6_readArgument 77 = .ok (.ifCond .eq 12, 3) := by decide +kernel
theorem dX6_readArgument_80 : decode cX6_readArgument 80 = .ok (.aload_n 0, 1) := by decide +kernel
theorem dX6_readArgument_81 : decode cX6_readArgument 81 = .ok (.bipush 46, 2) := by decide +kernel
theorem dX6_readArgument_83 : decode cX6_readArgument 83 = .ok (.invokevirtual 52, 3) := by decide +kernel
theorem dX6_readArgument_86 : decode cX6_readArgument 86 = .ok (.ifCond .ne 5, 3) := by decide +kernel
theorem dX6_readArgument_89 : decode cX6_readArgument 89 = .ok (.aconst_null, 1) := by decide +kernel
theorem dX6_readArgument_90 : decode cX6_readArgument 90 = .ok (.areturn, 1) := by decide +kernel
theorem dX6_readArgument_91 : decode cX6_readArgument 91 = .ok (.iload_n 1, 1) := by decide +kernel
theorem dX6_readArgument_92 : decode cX6_readArgument 92 = .ok (.ifCond .eq 23, 3) := by decide +kernel
theorem dX6_readArgument_95 : decode cX6_readArgument 95 = .ok (.iload_n 3, 1) := by decide +kernel
theorem dX6_readArgument_96 : decode cX6_readArgument 96 = .ok (.ifCond .ne 19, 3) := by decide +kernel
theorem dX6_readArgument_99 : decode cX6_readArgument 99 = .ok (.iload 5, 2) := by decide +kernel
theorem dX6_readArgument_101 : decode cX6_readArgument 101 = .ok (.ifCond .ne 14, 3) := by decide +kernel
theorem dX6_readArgument_104 : decode cX6_readArgument 104 = .ok (.aload_n 0, 1) := by decide +kernel
theorem dX6_readArgument_105 : decode cX6_readArgument 105 = .ok (.aload_n 0, 1) := by decide +kernel
theorem dX6_readArgument_106 : decode cX6_readArgument 106 = .ok (.getfield 26, 3) := by decide +kernel
theorem dX6_readArgument_109 : decode cX6_readArgument 109 = .ok (.invokevirtual 43, 3) := by decide +kernel
theorem dX6_readArgument_112 : decode cX6_readArgument 112 = .ok (.pop, 1) := by decide +kernel
theorem dX6_readArgument_113 : decode cX6_readArgument 113 = .ok (.aconst_null, 1) := by decide +kernel
theorem dX6_readArgument_114 : decode cX6_readArgument 114 = .ok (.areturn, 1) := by decide +kernel
theorem dX6_readArgument_115 : decode cX6_readArgument 115 = .ok (.new 68, 3) := by decide +kernel
theorem dX6_readArgument_118 : decode cX6_readArgument 118 = .ok (.dup, 1) := by decide +kernel
theorem dX6_readArgument_119 : decode cX6_readArgument 119 = .ok (.aload 4, 2) := by decide +kernel
theorem dX6_readArgument_121 : decode cX6_readArgument 121 = .ok (.iload_n 3, 1) := by decide +kernel
theorem dX6_readArgument_122 : decode cX6_readArgument 122 = .ok (.iload 5, 2) := by decide +kernel
theorem dX6_readArgument_124 : decode cX6_readArgument 124 = .ok (.invokespecial 109, 3) := by decide +kernel
theorem dX6_readArgument_127 : decode cX6_readArgument 127 = .ok (.areturn, 1) := by decide +kernel
set_option maxRecDepth 20000 in
theorem ggX6_readType_X6_readName : GoodIn wsX6_readType wsX6_readName := goodIn_r _ [12, 2, 13, 1, 14, 15, 16, 11, 17, 18, 19, 20, 21, 22, 23, 24, 25, 26, 27, 28, 29, 30, 31, 32, 33, 34, 35, 36, 37, 38, 39, 40, 41, 42, 43, 44, 45, 46, 47, 48, 49, 50, 51, 52, 53, 54, 55, 56, 57, 58, 59, 60, 61, 62, 63, 64, 65, 66, 67, 68, 69, 70, 71, 72, 73, 74, 75, 76, 77, 78, 79, 80, 81, 82, 83, 84, 85, 86, 87, 88, 89, 90, 91, 92, 93, 94, 95, 96, 97, 98, 99, 100, 101, 102, 103, 104, 105, 106, 107, 108, 109, 110, 134, 135, 136, 137, 138, 139, 140] (by decide +kernel) (by decide +kernel)
set_option maxRecDepth 20000 in
theorem gX6_readType_X6_readName : GoodIn wsX6_readType (wsV RX6 112 RX6 yX6_readName wsX6_readName) := goodIn_app (goodIn_of _ (by decide +kernel)) ggX6_readType_X6_readName
set_option maxRecDepth 20000 in
theorem ggX6_readType_X6_need : GoodIn wsX6_readType wsX6_need := goodIn_r _ [114, 13, 14, 15, 16, 11, 17, 18, 19, 20, 21, 22, 23, 24, 25, 26, 27, 28, 29, 30, 31, 32, 33, 34, 134, 135, 136, 137, 138, 139, 140] (by decide +kernel) (by decide +kernel)
set_option maxRecDepth 20000 in
theorem gX6_readType_X6_need : GoodIn wsX6_readType (wsV RX6 52 RX6 yX6_need wsX6_need) := goodIn_app (goodIn_of _ (by decide +kernel)) ggX6_readType_X6_need
set_option maxRecDepth 20000 in
theorem ggX6_readType_X6_readWords : GoodIn wsX6_readType wsX6_readWords := goodIn_r _ [118, 119, 13, 111, 112, 113, 11, 114, 14, 15, 16, 17, 18, 19, 20, 21, 22, 23, 24, 25, 26, 27, 28, 29, 30, 31, 32, 33, 34, 35, 36, 37, 38, 39, 40, 41, 42, 43, 44, 45, 46, 120, 121, 122, 134, 135, 136, 137, 138, 139, 140] (by decide +kernel) (by decide +kernel)
set_option maxRecDepth 20000 in
theorem gX6_readType_X6_readWords : GoodIn wsX6_readType (wsV RX6 125 RX6 yX6_readWords wsX6_readWords) := goodIn_app (goodIn_of _ (by decide +kernel)) ggX6_readType_X6_readWords
set_option maxRecDepth 20000 in
theorem ggX6_readType_X6_take : GoodIn wsX6_readType wsX6_take := goodIn_r _ [17, 13, 18, 19, 20, 11, 21, 22, 23, 134, 135, 136, 137, 138, 139, 140] (by decide +kernel) (by decide +kernel)
set_option maxRecDepth 20000 in
theorem gX6_readType_X6_take : GoodIn wsX6_readType (wsV RX6 56 RX6 yX6_take wsX6_take) := goodIn_app (goodIn_of _ (by decide +kernel)) ggX6_readType_X6_take
set_option maxRecDepth 20000 in
theorem ggX6_readType_X9_init : GoodIn wsX6_readType wsX9_init := goodIn_r _ [125, 126, 127, 128, 129, 130, 131, 132, 133, 141, 142, 143, 144, 145] (by decide +kernel) (by decide +kernel)
set_option maxRecDepth 20000 in
theorem gX6_readType_X9_init : GoodIn wsX6_readType (wsX9_init) := ggX6_readType_X9_init
theorem dX6_readType_0 : decode cX6_readType 0 = .ok (.aload_n 0, 1) := by decide +kernel
theorem dX6_readType_1 : decode cX6_readType 1 = .ok (.iconst 1, 1) := by decide +kernel
theorem dX6_readType_2 : decode cX6_readType 2 = .ok (.invokevirtual 112, 3) := by decide +kernel
theorem dX6_readType_5 : decode cX6_readType 5 = .ok (.astore_n 1, 1) := by decide +kernel
theorem dX6_readType_6 : decode cX6_readType 6 = .ok (.aload_n 1, 1) := by decide +kernel
theorem dX6_readType_7 : decode cX6_readType 7 = .ok (.getstatic 116, 3) := by decide +kernel
theorem dX6_readType_10 : decode cX6_readType 10 = .ok (.if_acmp .ne 7, 3) := by decide +kernel
theorem dX6_readType_13 : decode cX6_readType 13 = .ok (.iconst 1, 1) := by decide +kernel
theorem dX6_readType_14 : decode cX6_readType 14 = .ok (.goto 4, 3) := by decide +kernel
theorem dX6_readType_17 : decode cX6_readType 17 = .ok (.iconst 0, 1) := by decide +kernel
theorem dX6_readType_18 : decode cX6_readType 18 = .ok (.istore_n 2, 1) := by decide +kernel
theorem dX6_readType_19 : decode cX6_readType 19 = .ok (.iload_n 2, 1) := by decide +kernel
theorem dX6_readType_20 : decode cX6_readType 20 = .ok (.ifCond .eq 22, 3) := by decide +kernel
theorem dX6_readType_23 : decode cX6_readType 23 = .ok (.aload_n 0, 1) := by decide +kernel
theorem dX6_readType_24 : decode cX6_readType 24 = .ok (.bipush 60, 2) := by decide +kernel
theorem dX6_readType_26 : decode cX6_readType 26 = .ok (.invokevirtual 52, 3) := by decide +kernel
theorem dX6_readType_29 : decode cX6_readType 29 = .ok (.ifCond .eq 11, 3) := by decide +kernel
theorem dX6_readType_32 : decode cX6_readType 32 = .ok (.aload_n 0, 1) := by decide +kernel
theorem dX6_readType_33 : decode cX6_readType 33 = .ok (.iconst 0, 1) := by decide +kernel
theorem dX6_readType_34 : decode cX6_readType 34 = .ok (.invokevirtual 112, 3) := by decide +kernel
theorem dX6_readType_37 : decode cX6_readType 37 = .ok (.goto 4, 3) := by decide +kernel
theorem dX6_readType_40 : decode cX6_readType 40 = .ok (.aconst_null, 1) := by decide +kernel
theorem dX6_readType_41 : decode cX6_readType 41 = .ok (.astore_n 1, 1) := by decide +kernel
theorem dX6_readType_42 : decode cX6_readType 42 = .ok (.aload_n 1, 1) := by decide +kernel
theorem dX6_readType_43 : decode cX6_readType 43 = .ok (.ifnonnull 5, 3) := by decide +kernel
theorem dX6_readType_46 : decode cX6_readType 46 = .ok (.aconst_null, 1) := by decide +kernel
theorem dX6_readType_47 : decode cX6_readType 47 = .ok (.areturn, 1) := by decide +kernel
theorem dX6_readType_48 : decode cX6_readType 48 = .ok (.aload_n 0, 1) := by decide +kernel
theorem dX6_readType_49 : decode cX6_readType 49 = .ok (.getfield 29, 3) := by decide +kernel
theorem dX6_readType_52 : decode cX6_readType 52 = .ok (.istore_n 3, 1) := by decide +kernel
theorem dX6_readType_53 : decode cX6_readType 53 = .ok (.aload_n 1, 1) := by decide +kernel
theorem dX6_readType_54 : decode cX6_readType 54 = .ok (.getstatic 122, 3) := by decide +kernel
theorem dX6_readType_57 : decode cX6_readType 57 = .ok (.if_acmp .ne 10, 3) := by decide +kernel
theorem dX6_readType_60 : decode cX6_readType 60 = .ok (.aload_n 0, 1) := by decide +kernel
theorem dX6_readType_61 : decode cX6_readType 61 = .ok (.invokevirtual 125, 3) := by decide +kernel
theorem dX6_readType_64 : decode cX6_readType 64 = .ok (.goto 4, 3) := by decide +kernel
theorem dX6_readType_67 : decode cX6_readType 67 = .ok (.aconst_null, 1) := by decide +kernel
theorem dX6_readType_68 : decode cX6_readType 68 = .ok (.astore 4, 2) := by decide +kernel
theorem dX6_readType_70 : decode cX6_readType 70 = .ok (.aload_n 1, 1) := by decide +kernel
theorem dX6_readType_71 : decode cX6_readType 71 = .ok (.getstatic 122, 3) := by decide +kernel
theorem dX6_readType_74 : decode cX6_readType 74 = .ok (.if_acmp .ne 10, 3) := by decide +kernel
theorem dX6_readType_77 : decode cX6_readType 77 = .ok (.aload 4, 2) := by decide +kernel
theorem dX6_readType_79 : decode cX6_readType 79 = .ok (.ifnonnull 5, 3) := by decide +kernel
theorem dX6_readType_82 : decode cX6_readType 82 = .ok (.aconst_null, 1) := by decide +kernel
theorem dX6_readType_83 : decode cX6_readType 83 = .ok (.areturn, 1) := by decide +kernel
theorem dX6_readType_84 : decode cX6_readType 84 = .ok (.aload_n 1, 1) := by decide +kernel
theorem dX6_readType_85 : decode cX6_readType 85 = .ok (.getstatic 129, 3) := by decide +kernel
theorem dX6_readType_88 : decode cX6_readType 88 = .ok (.if_acmp .eq 16, 3) := by decide +kernel
theorem dX6_readType_91 : decode cX6_readType 91 = .ok (.aload_n 0, 1) := by decide +kernel
theorem dX6_readType_92 : decode cX6_readType 92 = .ok (.bipush 63, 2) := by decide +kernel
theorem dX6_readType_94 : decode cX6_readType 94 = .ok (.invokevirtual 56, 3) := by decide +kernel
theorem dX6_readType_97 : decode cX6_readType 97 = .ok (.ifCond .eq 7, 3) := by decide +kernel
theorem dX6_readType_100 : decode cX6_readType 100 = .ok (.iconst 1, 1) := by decide +kernel
theorem dX6_readType_101 : decode cX6_readType 101 = .ok (.goto 4, 3) := by decide +kernel
theorem dX6_readType_104 : decode cX6_readType 104 = .ok (.iconst 0, 1) := by decide +kernel
theorem dX6_readType_105 : decode cX6_readType 105 = .ok (.istore 5, 2) := by decide +kernel
theorem dX6_readType_107 : decode cX6_readType 107 = .ok (.new 132, 3) := by decide +kernel
theorem dX6_readType_110 : decode cX6_readType 110 = .ok (.dup, 1) := by decide +kernel
theorem dX6_readType_111 : decode cX6_readType 111 = .ok (.aload_n 1, 1) := by decide +kernel
theorem dX6_readType_112 : decode cX6_readType 112 = .ok (.iload_n 3, 1) := by decide +kernel
theorem dX6_readType_113 : decode cX6_readType 113 = .ok (.iload 5, 2) := by decide +kernel
theorem dX6_readType_115 : decode cX6_readType 115 = .ok (.aload 4, 2) := by decide +kernel
theorem dX6_readType_117 : decode cX6_readType 117 = .ok (.aconst_null, 1) := by decide +kernel
theorem dX6_readType_118 : decode cX6_readType 118 = .ok (.invokespecial 134, 3) := by decide +kernel
theorem dX6_readType_121 : decode cX6_readType 121 = .ok (.astore 6, 2) := by decide +kernel
theorem dX6_readType_123 : decode cX6_readType 123 = .ok (.iload_n 2, 1) := by decide +kernel
theorem dX6_readType_124 : decode cX6_readType 124 = .ok (.ifCond .ne 6, 3) := by decide +kernel
theorem dX6_readType_127 : decode cX6_readType 127 = .ok (.aload 6, 2) := by decide +kernel
theorem dX6_readType_129 : decode cX6_readType 129 = .ok (.areturn, 1) := by decide +kernel
theorem dX6_readType_130 : decode cX6_readType 130 = .ok (.aload_n 0, 1) := by decide +kernel
theorem dX6_readType_131 : decode cX6_readType 131 = .ok (.bipush 62, 2) := by decide +kernel
theorem dX6_readType_133 : decode cX6_readType 133 = .ok (.invokevirtual 52, 3) := by decide +kernel
theorem dX6_readType_136 : decode cX6_readType 136 = .ok (.ifCond .eq 26, 3) := by decide +kernel
theorem dX6_readType_139 : decode cX6_readType 139 = .ok (.new 132, 3) := by decide +kernel
theorem dX6_readType_142 : decode cX6_readType 142 = .ok (.dup, 1) := by decide +kernel
theorem dX6_readType_143 : decode cX6_readType 143 = .ok (.getstatic 116, 3) := by decide +kernel
theorem dX6_readType_146 : decode cX6_readType 146 = .ok (.iconst 0, 1) := by decide +kernel
theorem dX6_readType_147 : decode cX6_readType 147 = .ok (.aload_n 0, 1) := by decide +kernel
theorem dX6_readType_148 : decode cX6_readType 148 = .ok (.bipush 63, 2) := by decide +kernel
theorem dX6_readType_150 : decode cX6_readType 150 = .ok (.invokevirtual 56, 3) := by decide +kernel
theorem dX6_readType_153 : decode cX6_readType 153 = .ok (.aconst_null, 1) := by decide +kernel
theorem dX6_readType_154 : decode cX6_readType 154 = .ok (.aload 6, 2) := by decide +kernel
theorem dX6_readType_156 : decode cX6_readType 156 = .ok (.invokespecial 134, 3) := by decide +kernel
theorem dX6_readType_159 : decode cX6_readType 159 = .ok (.goto 4, 3) := by decide +kernel
theorem dX6_readType_162 : decode cX6_readType 162 = .ok (.aconst_null, 1) := by decide +kernel
theorem dX6_readType_163 : decode cX6_readType 163 = .ok (.areturn, 1) := by decide +kernel
set_option maxRecDepth 20000 in
theorem ggX6_readName_X6_take : GoodIn wsX6_readName wsX6_take := goodIn_r _ [8, 2, 9, 10, 11, 7, 12, 13, 14, 102, 103, 104, 105, 106, 107, 108] (by decide +kernel) (by decide +kernel)
set_option maxRecDepth 20000 in
theorem gX6_readName_X6_take : GoodIn wsX6_readName (wsV RX6 56 RX6 yX6_take wsX6_take) := goodIn_app (goodIn_of _ (by decide +kernel)) ggX6_readName_X6_take
set_option maxRecDepth 20000 in
theorem ggX6_readName_X6_failAt : GoodIn wsX6_readName wsX6_failAt := goodIn_r _ [18, 19, 20, 21, 22, 7, 23, 13, 24, 25, 102, 103, 104, 105, 106, 107, 108] (by decide +kernel) (by decide +kernel)
set_option maxRecDepth 20000 in
theorem gX6_readName_X6_failAt : GoodIn wsX6_readName (wsV RX6 43 RX6 yX6_failAt wsX6_failAt) := goodIn_app (goodIn_of _ (by decide +kernel)) ggX6_readName_X6_failAt
set_option maxRecDepth 20000 in
theorem ggX6_readName_X6_readWord : GoodIn wsX6_readName wsX6_readWord := goodIn_r _ [29, 2, 13, 20, 21, 22, 7, 23, 24, 25, 9, 10, 11, 12, 14, 30, 31, 32, 33, 34, 35, 36, 37, 102, 103, 104, 105, 106, 107, 108] (by decide +kernel) (by decide +kernel)
set_option maxRecDepth 20000 in
theorem gX6_readName_X6_readWord : GoodIn wsX6_readName (wsV RX6 95 RX6 yX6_readWord wsX6_readWord) := goodIn_app (goodIn_of _ (by decide +kernel)) ggX6_readName_X6_readWord
set_option maxRecDepth 20000 in
theorem ggX6_readName_X6_nameOf : GoodIn wsX6_readName wsX6_nameOf := goodIn_r _ [40, 41, 42, 43, 32, 44, 45, 46, 47, 48, 49, 50, 51, 52, 53, 54, 55, 56, 57, 58, 59, 60, 61, 62, 63, 64, 65, 66, 67, 68, 69, 70, 71, 72, 73, 74, 75, 76, 77, 78, 79, 80, 81, 82, 83, 84, 85, 86, 87, 88, 89, 90, 91, 92, 93, 94, 35, 36, 37] (by decide +kernel) (by decide +kernel)
set_option maxRecDepth 20000 in
theorem gX6_readName_X6_nameOf : GoodIn wsX6_readName (va_wsS RX6 137 yX6_nameOf wsX6_nameOf) := goodIn_app (goodIn_of _ (by decide +kernel)) ggX6_readName_X6_nameOf
set_option maxRecDepth 20000 in
theorem ggX6_readName_X3_hasBounds : GoodIn wsX6_readName wsX3_hasBounds := goodIn_r _ [99, 100, 101] (by decide +kernel) (by decide +kernel)
set_option maxRecDepth 20000 in
theorem gX6_readName_X3_hasBounds : GoodIn wsX6_readName (wsV RX6 141 RX3 yX3_hasBounds wsX3_hasBounds) := goodIn_app (goodIn_of _ (by decide +kernel)) ggX6_readName_X3_hasBounds
theorem dX6_readName_0 : decode cX6_readName 0 = .ok (.aload_n 0, 1) := by decide +kernel
theorem dX6_readName_1 : decode cX6_readName 1 = .ok (.iconst 0, 1) := by decide +kernel
theorem dX6_readName_2 : decode cX6_readName 2 = .ok (.putfield 29, 3) := by decide +kernel
theorem dX6_readName_5 : decode cX6_readName 5 = .ok (.aload_n 0, 1) := by decide +kernel
theorem dX6_readName_6 : decode cX6_readName 6 = .ok (.bipush 91, 2) := by decide +kernel
theorem dX6_readName_8 : decode cX6_readName 8 = .ok (.invokevirtual 56, 3) := by decide +kernel
theorem dX6_readName_11 : decode cX6_readName 11 = .ok (.ifCond .eq 61, 3) := by decide +kernel
theorem dX6_readName_14 : decode cX6_readName 14 = .ok (.aload_n 0, 1) := by decide +kernel
theorem dX6_readName_15 : decode cX6_readName 15 = .ok (.aload_n 0, 1) := by decide +kernel
theorem dX6_readName_16 : decode cX6_readName 16 = .ok (.bipush 67, 2) := by decide +kernel
theorem dX6_readName_18 : decode cX6_readName 18 = .ok (.invokevirtual 56, 3) := by decide +kernel
theorem dX6_readName_21 : decode cX6_readName 21 = .ok (.ifCond .eq 7, 3) := by decide +kernel
theorem dX6_readName_24 : decode cX6_readName 24 = .ok (.iconst 1, 1) := by decide +kernel
theorem dX6_readName_25 : decode cX6_readName 25 = .ok (.goto 17, 3) := by decide +kernel
theorem dX6_readName_28 : decode cX6_readName 28 = .ok (.aload_n 0, 1) := by decide +kernel
theorem dX6_readName_29 : decode cX6_readName 29 = .ok (.bipush 69, 2) := by decide +kernel
theorem dX6_readName_31 : decode cX6_readName 31 = .ok (.invokevirtual 56, 3) := by decide +kernel
theorem dX6_readName_34 : decode cX6_readName 34 = .ok (.ifCond .eq 7, 3) := by decide +kernel
theorem dX6_readName_37 : decode cX6_readName 37 = .ok (.iconst 2, 1) := by decide +kernel
theorem dX6_readName_38 : decode cX6_readName 38 = .ok (.goto 4, 3) := by decide +kernel
theorem dX6_readName_41 : decode cX6_readName 41 = .ok (.iconst 0, 1) := by decide +kernel
theorem dX6_readName_42 : decode cX6_readName 42 = .ok (.putfield 29, 3) := by decide +kernel
theorem dX6_readName_45 : decode cX6_readName 45 = .ok (.aload_n 0, 1) := by decide +kernel
theorem dX6_readName_46 : decode cX6_readName 46 = .ok (.getfield 29, 3) := by decide +kernel
theorem dX6_readName_49 : decode cX6_readName 49 = .ok (.ifCond .eq 12, 3) := by decide +kernel
theorem dX6_readName_52 : decode cX6_readName 52 = .ok (.aload_n 0, 1) := by decide +kernel
theorem dX6_readName_53 : decode cX6_readName 53 = .ok (.bipush 93, 2) := by decide +kernel
theorem dX6_readName_55 : decode cX6_readName 55 = .ok (.invokevirtual 56, 3) := by decide +kernel
theorem dX6_readName_58 : decode cX6_readName 58 = .ok (.ifCond .ne 14, 3) := by decide +kernel
theorem dX6_readName_61 : decode cX6_readName 61 = .ok (.aload_n 0, 1) := by decide +kernel
theorem dX6_readName_62 : decode cX6_readName 62 = .ok (.aload_n 0, 1) := by decide +kernel
theorem dX6_readName_63 : decode cX6_readName 63 = .ok (.getfield 26, 3) := by decide +kernel
theorem dX6_readName_66 : decode cX6_readName 66 = .ok (.invokevirtual 43, 3) := by decide +kernel
theorem dX6_readName_69 : decode cX6_readName 69 = .ok (.pop, 1) := by decide +kernel
theorem dX6_readName_70 : decode cX6_readName 70 = .ok (.aconst_null, 1) := by decide +kernel
theorem dX6_readName_71 : decode cX6_readName 71 = .ok (.areturn, 1) := by decide +kernel
theorem dX6_readName_72 : decode cX6_readName 72 = .ok (.aload_n 0, 1) := by decide +kernel
theorem dX6_readName_73 : decode cX6_readName 73 = .ok (.getfield 26, 3) := by decide +kernel
theorem dX6_readName_76 : decode cX6_readName 76 = .ok (.istore_n 2, 1) := by decide +kernel
theorem dX6_readName_77 : decode cX6_readName 77 = .ok (.aload_n 0, 1) := by decide +kernel
theorem dX6_readName_78 : decode cX6_readName 78 = .ok (.invokevirtual 95, 3) := by decide +kernel
theorem dX6_readName_81 : decode cX6_readName 81 = .ok (.invokestatic 137, 3) := by decide +kernel
theorem dX6_readName_84 : decode cX6_readName 84 = .ok (.astore_n 3, 1) := by decide +kernel
theorem dX6_readName_85 : decode cX6_readName 85 = .ok (.aload_n 3, 1) := by decide +kernel
theorem dX6_readName_86 : decode cX6_readName 86 = .ok (.ifnull 28, 3) := by decide +kernel
theorem dX6_readName_89 : decode cX6_readName 89 = .ok (.aload_n 0, 1) := by decide +kernel
theorem dX6_readName_90 : decode cX6_readName 90 = .ok (.getfield 29, 3) := by decide +kernel
theorem dX6_readName_93 : decode cX6_readName 93 = .ok (.ifCond .eq 10, 3) := by decide +kernel
theorem dX6_readName_96 : decode cX6_readName 96 = .ok (.aload_n 3, 1) := by decide +kernel
theorem dX6_readName_97 : decode cX6_readName 97 = .ok (.invokevirtual 141, 3) := by decide +kernel
theorem dX6_readName_100 : decode cX6_readName 100 = .ok (.ifCond .eq 14, 3) := by decide +kernel
theorem dX6_readName_103 : decode cX6_readName 103 = .ok (.aload_n 3, 1) := by decide +kernel
theorem dX6_readName_104 : decode cX6_readName 104 = .ok (.getstatic 116, 3) := by decide +kernel
theorem dX6_readName_107 : decode cX6_readName 107 = .ok (.if_acmp .ne 15, 3) := by decide +kernel
theorem dX6_readName_110 : decode cX6_readName 110 = .ok (.iload_n 1, 1) := by decide +kernel
theorem dX6_readName_111 : decode cX6_readName 111 = .ok (.ifCond .ne 11, 3) := by decide +kernel
theorem dX6_readName_114 : decode cX6_readName 114 = .ok (.aload_n 0, 1) := by decide +kernel
theorem dX6_readName_115 : decode cX6_readName 115 = .ok (.iload_n 2, 1) := by decide +kernel
theorem dX6_readName_116 : decode cX6_readName 116 = .ok (.invokevirtual 43, 3) := by decide +kernel
theorem dX6_readName_119 : decode cX6_readName 119 = .ok (.pop, 1) := by decide +kernel
theorem dX6_readName_120 : decode cX6_readName 120 = .ok (.aconst_null, 1) := by decide +kernel
theorem dX6_readName_121 : decode cX6_readName 121 = .ok (.areturn, 1) := by decide +kernel
theorem dX6_readName_122 : decode cX6_readName 122 = .ok (.aload_n 3, 1) := by decide +kernel
theorem dX6_readName_123 : decode cX6_readName 123 = .ok (.areturn, 1) := by decide +kernel
set_option maxRecDepth 20000 in
theorem ggX6_nameOf_X7_codeOf : GoodIn wsX6_nameOf wsX7_codeOf := goodIn_r _ [5, 6, 7, 8, 9, 10, 11, 12, 13, 14, 15, 16, 17, 18, 19, 20, 21, 22, 23, 24, 25, 26, 27, 28, 29, 30, 31, 32, 33, 34, 35, 36, 37, 38, 39, 40, 41, 42, 43, 44, 45, 46, 47, 48, 49, 50, 51, 52, 53, 54, 55, 56, 4, 57, 58] (by decide +kernel) (by decide +kernel)
set_option maxRecDepth 20000 in
theorem gX6_nameOf_X7_codeOf : GoodIn wsX6_nameOf (va_wsS RX6 101 yX7_codeOf wsX7_codeOf) := goodIn_app (goodIn_of _ (by decide +kernel)) ggX6_nameOf_X7_codeOf
theorem dX6_nameOf_0 : decode cX6_nameOf 0 = .ok (.getstatic 144, 3) := by decide +kernel
theorem dX6_nameOf_3 : decode cX6_nameOf 3 = .ok (.astore_n 2, 1) := by decide +kernel
theorem dX6_nameOf_4 : decode cX6_nameOf 4 = .ok (.aload_n 2, 1) := by decide +kernel
theorem dX6_nameOf_5 : decode cX6_nameOf 5 = .ok (.arraylength, 1) := by decide +kernel
theorem dX6_nameOf_6 : decode cX6_nameOf 6 = .ok (.istore_n 3, 1) := by decide +kernel
theorem dX6_nameOf_7 : decode cX6_nameOf 7 = .ok (.iconst 0, 1) := by decide +kernel
theorem dX6_nameOf_8 : decode cX6_nameOf 8 = .ok (.istore 4, 2) := by decide +kernel
theorem dX6_nameOf_10 : decode cX6_nameOf 10 = .ok (.iload 4, 2) := by decide +kernel
theorem dX6_nameOf_12 : decode cX6_nameOf 12 = .ok (.iload_n 3, 1) := by decide +kernel
theorem dX6_nameOf_13 : decode cX6_nameOf 13 = .ok (.if_icmp .ge 36, 3) := by decide +kernel
theorem dX6_nameOf_16 : decode cX6_nameOf 16 = .ok (.aload_n 2, 1) := by decide +kernel
theorem dX6_nameOf_17 : decode cX6_nameOf 17 = .ok (.iload 4, 2) := by decide +kernel
theorem dX6_nameOf_19 : decode cX6_nameOf 19 = .ok (.aaload, 1) := by decide +kernel
theorem dX6_nameOf_20 : decode cX6_nameOf 20 = .ok (.astore 5, 2) := by decide +kernel
theorem dX6_nameOf_22 : decode cX6_nameOf 22 = .ok (.aload 5, 2) := by decide +kernel
theorem dX6_nameOf_24 : decode cX6_nameOf 24 = .ok (.ifnull 19, 3) := by decide +kernel
theorem dX6_nameOf_27 : decode cX6_nameOf 27 = .ok (.aload 5, 2) := by decide +kernel
theorem dX6_nameOf_29 : decode cX6_nameOf 29 = .ok (.getfield 148, 3) := by decide +kernel
theorem dX6_nameOf_32 : decode cX6_nameOf 32 = .ok (.invokestatic 101, 3) := by decide +kernel
theorem dX6_nameOf_35 : decode cX6_nameOf 35 = .ok (.lload_n 0, 1) := by decide +kernel
theorem dX6_nameOf_36 : decode cX6_nameOf 36 = .ok (.lcmp, 1) := by decide +kernel
theorem dX6_nameOf_37 : decode cX6_nameOf 37 = .ok (.ifCond .ne 6, 3) := by decide +kernel
theorem dX6_nameOf_40 : decode cX6_nameOf 40 = .ok (.aload 5, 2) := by decide +kernel
theorem dX6_nameOf_42 : decode cX6_nameOf 42 = .ok (.areturn, 1) := by decide +kernel
theorem dX6_nameOf_43 : decode cX6_nameOf 43 = .ok (.iinc 4 1, 3) := by decide +kernel
theorem dX6_nameOf_46 : decode cX6_nameOf 46 = .ok (.goto (-36), 3) := by decide +kernel
theorem dX6_nameOf_49 : decode cX6_nameOf 49 = .ok (.aconst_null, 1) := by decide +kernel
theorem dX6_nameOf_50 : decode cX6_nameOf 50 = .ok (.areturn, 1) := by decide +kernel
set_option maxRecDepth 20000 in
theorem ggX6_readWords_X6_need : GoodIn wsX6_readWords wsX6_need := goodIn_r _ [7, 2, 8, 9, 10, 6, 11, 12, 13, 14, 15, 16, 17, 18, 19, 20, 21, 22, 23, 24, 25, 26, 27, 28, 44, 45, 46, 47, 48, 49, 50] (by decide +kernel) (by decide +kernel)
set_option maxRecDepth 20000 in
theorem gX6_readWords_X6_need : GoodIn wsX6_readWords (wsV RX6 52 RX6 yX6_need wsX6_need) := goodIn_app (goodIn_of _ (by decide +kernel)) ggX6_readWords_X6_need
set_option maxRecDepth 20000 in
theorem ggX6_readWords_X6_readWord : GoodIn wsX6_readWords wsX6_readWord := goodIn_r _ [32, 2, 16, 23, 24, 25, 6, 26, 27, 28, 12, 13, 14, 15, 17, 33, 34, 35, 36, 37, 38, 39, 40, 44, 45, 46, 47, 48, 49, 50] (by decide +kernel) (by decide +kernel)
set_option maxRecDepth 20000 in
theorem gX6_readWords_X6_readWord : GoodIn wsX6_readWords (wsV RX6 95 RX6 yX6_readWord wsX6_readWord) := goodIn_app (goodIn_of _ (by decide +kernel)) ggX6_readWords_X6_readWord
set_option maxRecDepth 20000 in
theorem ggX6_readWords_X6_hasCode : GoodIn wsX6_readWords wsX6_hasCode := goodIn_r _ [43] (by decide +kernel) (by decide +kernel)
set_option maxRecDepth 20000 in
theorem gX6_readWords_X6_hasCode : GoodIn wsX6_readWords (va_wsS RX6 152 yX6_hasCode wsX6_hasCode) := goodIn_app (goodIn_of _ (by decide +kernel)) ggX6_readWords_X6_hasCode
set_option maxRecDepth 20000 in
theorem ggX6_readWords_X6_failAt : GoodIn wsX6_readWords wsX6_failAt := goodIn_r _ [21, 22, 23, 24, 25, 6, 26, 16, 27, 28, 44, 45, 46, 47, 48, 49, 50] (by decide +kernel) (by decide +kernel)
set_option maxRecDepth 20000 in
theorem gX6_readWords_X6_failAt : GoodIn wsX6_readWords (wsV RX6 43 RX6 yX6_failAt wsX6_failAt) := goodIn_app (goodIn_of _ (by decide +kernel)) ggX6_readWords_X6_failAt
set_option maxRecDepth 20000 in
theorem ggX6_readWords_X6_take : GoodIn wsX6_readWords wsX6_take := goodIn_r _ [11, 2, 12, 13, 14, 6, 15, 16, 17, 44, 45, 46, 47, 48, 49, 50] (by decide +kernel) (by decide +kernel)
set_option maxRecDepth 20000 in
theorem gX6_readWords_X6_take : GoodIn wsX6_readWords (wsV RX6 56 RX6 yX6_take wsX6_take) := goodIn_app (goodIn_of _ (by decide +kernel)) ggX6_readWords_X6_take
theorem dX6_readWords_0 : decode cX6_readWords 0 = .ok (.aload_n 0, 1) := by decide +kernel
theorem dX6_readWords_1 : decode cX6_readWords 1 = .ok (.bipush 40, 2) := by decide +kernel
theorem dX6_readWords_3 : decode cX6_readWords 3 = .ok (.invokevirtual 52, 3) := by decide +kernel
theorem dX6_readWords_6 : decode cX6_readWords 6 = .ok (.ifCond .ne 5, 3) := by decide +kernel
theorem dX6_readWords_9 : decode cX6_readWords 9 = .ok (.aconst_null, 1) := by decide +kernel
theorem dX6_readWords_10 : decode cX6_readWords 10 = .ok (.areturn, 1) := by decide +kernel
theorem dX6_readWords_11 : decode cX6_readWords 11 = .ok (.iconst 5, 1) := by decide +kernel
theorem dX6_readWords_12 : decode cX6_readWords 12 = .ok (.newarray .long, 2) := by decide +kernel
theorem dX6_readWords_14 : decode cX6_readWords 14 = .ok (.astore_n 1, 1) := by decide +kernel
theorem dX6_readWords_15 : decode cX6_readWords 15 = .ok (.iconst 0, 1) := by decide +kernel
theorem dX6_readWords_16 : decode cX6_readWords 16 = .ok (.istore_n 2, 1) := by decide +kernel
theorem dX6_readWords_17 : decode cX6_readWords 17 = .ok (.iload_n 2, 1) := by decide +kernel
theorem dX6_readWords_18 : decode cX6_readWords 18 = .ok (.aload_n 1, 1) := by decide +kernel
theorem dX6_readWords_19 : decode cX6_readWords 19 = .ok (.arraylength, 1) := by decide +kernel
theorem dX6_readWords_20 : decode cX6_readWords 20 = .ok (.if_icmp .ge 69, 3) := by decide +kernel
theorem dX6_readWords_23 : decode cX6_readWords 23 = .ok (.aload_n 0, 1) := by decide +kernel
theorem dX6_readWords_24 : decode cX6_readWords 24 = .ok (.getfield 26, 3) := by decide +kernel
theorem dX6_readWords_27 : decode cX6_readWords 27 = .ok (.istore_n 3, 1) := by decide +kernel
theorem dX6_readWords_28 : decode cX6_readWords 28 = .ok (.aload_n 0, 1) := by decide +kernel
theorem dX6_readWords_29 : decode cX6_readWords 29 = .ok (.invokevirtual 95, 3) := by decide +kernel
theorem dX6_readWords_32 : decode cX6_readWords 32 = .ok (.lstore 4, 2) := by decide +kernel
theorem dX6_readWords_34 : decode cX6_readWords 34 = .ok (.lload 4, 2) := by decide +kernel
theorem dX6_readWords_36 : decode cX6_readWords 36 = .ok (.lconst 0, 1) := by decide +kernel
theorem dX6_readWords_37 : decode cX6_readWords 37 = .ok (.lcmp, 1) := by decide +kernel
theorem dX6_readWords_38 : decode cX6_readWords 38 = .ok (.ifCond .eq 12, 3) := by decide +kernel
theorem dX6_readWords_41 : decode cX6_readWords 41 = .ok (.aload_n 1, 1) := by decide +kernel
theorem dX6_readWords_42 : decode cX6_readWords 42 = .ok (.lload 4, 2) := by decide +kernel
theorem dX6_readWords_44 : decode cX6_readWords 44 = .ok (.invokestatic 152, 3) := by decide +kernel
theorem dX6_readWords_47 : decode cX6_readWords 47 = .ok (.ifCond .eq 11, 3) := by decide +kernel
theorem dX6_readWords_50 : decode cX6_readWords 50 = .ok (.aload_n 0, 1) := by decide +kernel
theorem dX6_readWords_51 : decode cX6_readWords 51 = .ok (.iload_n 3, 1) := by decide +kernel
theorem dX6_readWords_52 : decode cX6_readWords 52 = .ok (.invokevirtual 43, 3) := by decide +kernel
theorem dX6_readWords_55 : decode cX6_readWords 55 = .ok (.pop, 1) := by decide +kernel
theorem dX6_readWords_56 : decode cX6_readWords 56 = .ok (.aconst_null, 1) := by decide +kernel
theorem dX6_readWords_57 : decode cX6_readWords 57 = .ok (.areturn, 1) := by decide +kernel
theorem dX6_readWords_58 : decode cX6_readWords 58 = .ok (.aload_n 1, 1) := by decide +kernel
theorem dX6_readWords_59 : decode cX6_readWords 59 = .ok (.iload_n 2, 1) := by decide +kernel
theorem dX6_readWords_60 : decode cX6_readWords 60 = .ok (.lload 4, 2) := by decide +kernel
theorem dX6_readWords_62 : decode cX6_readWords 62 = .ok (.lastore, 1) := by decide +kernel
theorem dX6_readWords_63 : decode cX6_readWords 63 = .ok (.iload_n 2, 1) := by decide +kernel
theorem dX6_readWords_64 : decode cX6_readWords 64 = .ok (.aload_n 1, 1) := by decide +kernel
theorem dX6_readWords_65 : decode cX6_readWords 65 = .ok (.arraylength, 1) := by decide +kernel
theorem dX6_readWords_66 : decode cX6_readWords 66 = .ok (.iconst 1, 1) := by decide +kernel
theorem dX6_readWords_67 : decode cX6_readWords 67 = .ok (.isub, 1) := by decide +kernel
theorem dX6_readWords_68 : decode cX6_readWords 68 = .ok (.if_icmp .eq 21, 3) := by decide +kernel
theorem dX6_readWords_71 : decode cX6_readWords 71 = .ok (.aload_n 0, 1) := by decide +kernel
theorem dX6_readWords_72 : decode cX6_readWords 72 = .ok (.bipush 44, 2) := by decide +kernel
theorem dX6_readWords_74 : decode cX6_readWords 74 = .ok (.invokevirtual 56, 3) := by decide +kernel
theorem dX6_readWords_77 : decode cX6_readWords 77 = .ok (.ifCond .ne 6, 3) := by decide +kernel
theorem dX6_readWords_80 : decode cX6_readWords 80 = .ok (.goto 9, 3) := by decide +kernel
theorem dX6_readWords_83 : decode cX6_readWords 83 = .ok (.iinc 2 1, 3) := by decide +kernel
theorem dX6_readWords_86 : decode cX6_readWords 86 = .ok (.goto (-69), 3) := by decide +kernel
theorem dX6_readWords_89 : decode cX6_readWords 89 = .ok (.aload_n 0, 1) := by decide +kernel
theorem dX6_readWords_90 : decode cX6_readWords 90 = .ok (.bipush 41, 2) := by decide +kernel
theorem dX6_readWords_92 : decode cX6_readWords 92 = .ok (.invokevirtual 52, 3) := by decide +kernel
theorem dX6_readWords_95 : decode cX6_readWords 95 = .ok (.ifCond .eq 7, 3) := by decide +kernel
theorem dX6_readWords_98 : decode cX6_readWords 98 = .ok (.aload_n 1, 1) := by decide +kernel
theorem dX6_readWords_99 : decode cX6_readWords 99 = .ok (.goto 4, 3) := by decide +kernel
theorem dX6_readWords_102 : decode cX6_readWords 102 = .ok (.aconst_null, 1) := by decide +kernel
theorem dX6_readWords_103 : decode cX6_readWords 103 = .ok (.areturn, 1) := by decide +kernel
theorem dX6_hasCode_0 : decode cX6_hasCode 0 = .ok (.aload_n 0, 1) := by decide +kernel
theorem dX6_hasCode_1 : decode cX6_hasCode 1 = .ok (.astore_n 3, 1) := by decide +kernel
theorem dX6_hasCode_2 : decode cX6_hasCode 2 = .ok (.aload_n 3, 1) := by decide +kernel
theorem dX6_hasCode_3 : decode cX6_hasCode 3 = .ok (.arraylength, 1) := by decide +kernel
theorem dX6_hasCode_4 : decode cX6_hasCode 4 = .ok (.istore 4, 2) := by decide +kernel
theorem dX6_hasCode_6 : decode cX6_hasCode 6 = .ok (.iconst 0, 1) := by decide +kernel
theorem dX6_hasCode_7 : decode cX6_hasCode 7 = .ok (.istore 5, 2) := by decide +kernel
theorem dX6_hasCode_9 : decode cX6_hasCode 9 = .ok (.iload 5, 2) := by decide +kernel
theorem dX6_hasCode_11 : decode cX6_hasCode 11 = .ok (.iload 4, 2) := by decide +kernel
theorem dX6_hasCode_13 : decode cX6_hasCode 13 = .ok (.if_icmp .ge 24, 3) := by decide +kernel
theorem dX6_hasCode_16 : decode cX6_hasCode 16 = .ok (.aload_n 3, 1) := by decide +kernel
theorem dX6_hasCode_17 : decode cX6_hasCode 17 = .ok (.iload 5, 2) := by decide +kernel
theorem dX6_hasCode_19 : decode cX6_hasCode 19 = .ok (.laload, 1) := by decide +kernel
theorem dX6_hasCode_20 : decode cX6_hasCode 20 = .ok (.lstore 6, 2) := by decide +kernel
theorem dX6_hasCode_22 : decode cX6_hasCode 22 = .ok (.lload 6, 2) := by decide +kernel
theorem dX6_hasCode_24 : decode cX6_hasCode 24 = .ok (.lload_n 1, 1) := by decide +kernel
theorem dX6_hasCode_25 : decode cX6_hasCode 25 = .ok (.lcmp, 1) := by decide +kernel
theorem dX6_hasCode_26 : decode cX6_hasCode 26 = .ok (.ifCond .ne 5, 3) := by decide +kernel
theorem dX6_hasCode_29 : decode cX6_hasCode 29 = .ok (.iconst 1, 1) := by decide +kernel
theorem dX6_hasCode_30 : decode cX6_hasCode 30 = .ok (.ireturn, 1) := by decide +kernel
theorem dX6_hasCode_31 : decode cX6_hasCode 31 = .ok (.iinc 5 1, 3) := by decide +kernel
theorem dX6_hasCode_34 : decode cX6_hasCode 34 = .ok (.goto (-25), 3) := by decide +kernel
theorem dX6_hasCode_37 : decode cX6_hasCode 37 = .ok (.iconst 0, 1) := by decide +kernel
theorem dX6_hasCode_38 : decode cX6_hasCode 38 = .ok (.ireturn, 1) := by decide +kernel
theorem dX7_init_0 : decode cX7_init 0 = .ok (.aload_n 0, 1) := by decide +kernel
theorem dX7_init_1 : decode cX7_init 1 = .ok (.invokespecial 3, 3) := by decide +kernel
theorem dX7_init_4 : decode cX7_init 4 = .ok (.aload_n 0, 1) := by decide +kernel
theorem dX7_init_5 : decode cX7_init 5 = .ok (.iconst 0, 1) := by decide +kernel
theorem dX7_init_6 : decode cX7_init 6 = .ok (.putfield 9, 3) := by decide +kernel
theorem dX7_init_9 : decode cX7_init 9 = .ok (.aload_n 0, 1) := by decide +kernel
theorem dX7_init_10 : decode cX7_init 10 = .ok (.iload_n 1, 1) := by decide +kernel
theorem dX7_init_11 : decode cX7_init 11 = .ok (.iconst 0, 1) := by decide +kernel
theorem dX7_init_12 : decode cX7_init 12 = .ok (.invokestatic 15, 3) := by decide +kernel
theorem dX7_init_15 : decode cX7_init 15 = .ok (.newarray .char, 2) := by decide +kernel
theorem dX7_init_17 : decode cX7_init 17 = .ok (.putfield 21, 3) := by decide +kernel
theorem dX7_init_20 : decode cX7_init 20 = .ok (.return_, 1) := by decide +kernel
theorem dX7_signsIn_0 : decode cX7_signsIn 0 = .ok (.iconst 0, 1) := by decide +kernel
theorem dX7_signsIn_1 : decode cX7_signsIn 1 = .ok (.istore_n 1, 1) := by decide +kernel
theorem dX7_signsIn_2 : decode cX7_signsIn 2 = .ok (.bipush 24, 2) := by decide +kernel
theorem dX7_signsIn_4 : decode cX7_signsIn 4 = .ok (.istore_n 2, 1) := by decide +kernel
theorem dX7_signsIn_5 : decode cX7_signsIn 5 = .ok (.iload_n 2, 1) := by decide +kernel
theorem dX7_signsIn_6 : decode cX7_signsIn 6 = .ok (.ifCond .lt 22, 3) := by decide +kernel
theorem dX7_signsIn_9 : decode cX7_signsIn 9 = .ok (.iload_n 0, 1) := by decide +kernel
theorem dX7_signsIn_10 : decode cX7_signsIn 10 = .ok (.iload_n 2, 1) := by decide +kernel
theorem dX7_signsIn_11 : decode cX7_signsIn 11 = .ok (.iushr, 1) := by decide +kernel
theorem dX7_signsIn_12 : decode cX7_signsIn 12 = .ok (.sipush 255, 3) := by decide +kernel
theorem dX7_signsIn_15 : decode cX7_signsIn 15 = .ok (.iand, 1) := by decide +kernel
theorem dX7_signsIn_16 : decode cX7_signsIn 16 = .ok (.ifCond .eq 6, 3) := by decide +kernel
theorem dX7_signsIn_19 : decode cX7_signsIn 19 = .ok (.iinc 1 1, 3) := by decide +kernel
theorem dX7_signsIn_22 : decode cX7_signsIn 22 = .ok (.iinc 2 (-8), 3) := by decide +kernel
theorem dX7_signsIn_25 : decode cX7_signsIn 25 = .ok (.goto (-20), 3) := by decide +kernel
theorem dX7_signsIn_28 : decode cX7_signsIn 28 = .ok (.iload_n 1, 1) := by decide +kernel
theorem dX7_signsIn_29 : decode cX7_signsIn 29 = .ok (.ireturn, 1) := by decide +kernel
theorem dX7_at_0 : decode cX7_at 0 = .ok (.iload_n 1, 1) := by decide +kernel
theorem dX7_at_1 : decode cX7_at 1 = .ok (.ifCond .lt 29, 3) := by decide +kernel
theorem dX7_at_4 : decode cX7_at 4 = .ok (.iload_n 1, 1) := by decide +kernel
theorem dX7_at_5 : decode cX7_at 5 = .ok (.aload_n 0, 1) := by decide +kernel
theorem dX7_at_6 : decode cX7_at 6 = .ok (.getfield 9, 3) := by decide +kernel
theorem dX7_at_9 : decode cX7_at 9 = .ok (.if_icmp .ge 21, 3) := by decide +kernel
theorem dX7_at_12 : decode cX7_at 12 = .ok (.iload_n 1, 1) := by decide +kernel
theorem dX7_at_13 : decode cX7_at 13 = .ok (.aload_n 0, 1) := by decide +kernel
theorem dX7_at_14 : decode cX7_at 14 = .ok (.getfield 21, 3) := by decide +kernel
theorem dX7_at_17 : decode cX7_at 17 = .ok (.arraylength, 1) := by decide +kernel
theorem dX7_at_18 : decode cX7_at 18 = .ok (.if_icmp .ge 12, 3) := by decide +kernel
theorem dX7_at_21 : decode cX7_at 21 = .ok (.aload_n 0, 1) := by decide +kernel
theorem dX7_at_22 : decode cX7_at 22 = .ok (.getfield 21, 3) := by decide +kernel
theorem dX7_at_25 : decode cX7_at 25 = .ok (.iload_n 1, 1) := by decide +kernel
theorem dX7_at_26 : decode cX7_at 26 = .ok (.caload, 1) := by decide +kernel
theorem dX7_at_27 : decode cX7_at 27 = .ok (.goto 4, 3) := by decide +kernel
theorem dX7_at_30 : decode cX7_at 30 = .ok (.iconst 0, 1) := by decide +kernel
theorem dX7_at_31 : decode cX7_at 31 = .ok (.ireturn, 1) := by decide +kernel
theorem dX7_append_0 : decode cX7_append 0 = .ok (.aload_n 0, 1) := by decide +kernel
theorem dX7_append_1 : decode cX7_append 1 = .ok (.getfield 9, 3) := by decide +kernel
theorem dX7_append_4 : decode cX7_append 4 = .ok (.ifCond .lt 35, 3) := by decide +kernel
theorem dX7_append_7 : decode cX7_append 7 = .ok (.aload_n 0, 1) := by decide +kernel
theorem dX7_append_8 : decode cX7_append 8 = .ok (.getfield 9, 3) := by decide +kernel
theorem dX7_append_11 : decode cX7_append 11 = .ok (.aload_n 0, 1) := by decide +kernel
theorem dX7_append_12 : decode cX7_append 12 = .ok (.getfield 21, 3) := by decide +kernel
theorem dX7_append_15 : decode cX7_append 15 = .ok (.arraylength, 1) := by decide +kernel
theorem dX7_append_16 : decode cX7_append 16 = .ok (.if_icmp .ge 23, 3) := by decide +kernel
theorem dX7_append_19 : decode cX7_append 19 = .ok (.aload_n 0, 1) := by decide +kernel
theorem dX7_append_20 : decode cX7_append 20 = .ok (.getfield 21, 3) := by decide +kernel
theorem dX7_append_23 : decode cX7_append 23 = .ok (.aload_n 0, 1) := by decide +kernel
theorem dX7_append_24 : decode cX7_append 24 = .ok (.getfield 9, 3) := by decide +kernel
theorem dX7_append_27 : decode cX7_append 27 = .ok (.iload_n 1, 1) := by decide +kernel
theorem dX7_append_28 : decode cX7_append 28 = .ok (.castore, 1) := by decide +kernel
theorem dX7_append_29 : decode cX7_append 29 = .ok (.aload_n 0, 1) := by decide +kernel
theorem dX7_append_30 : decode cX7_append 30 = .ok (.dup, 1) := by decide +kernel
theorem dX7_append_31 : decode cX7_append 31 = .ok (.getfield 9, 3) := by decide +kernel
theorem dX7_append_34 : decode cX7_append 34 = .ok (.iconst 1, 1) := by decide +kernel
theorem dX7_append_35 : decode cX7_append 35 = .ok (.iadd, 1) := by decide +kernel
theorem dX7_append_36 : decode cX7_append 36 = .ok (.putfield 9, 3) := by decide +kernel
theorem dX7_append_39 : decode cX7_append 39 = .ok (.return_, 1) := by decide +kernel
set_option maxRecDepth 20000 in
theorem ggX7_appendSigns_X7_append : GoodIn wsX7_appendSigns wsX7_append := goodIn_r _ [5, 6, 7, 8, 9] (by decide +kernel) (by decide +kernel)
set_option maxRecDepth 20000 in
theorem gX7_appendSigns_X7_append : GoodIn wsX7_appendSigns (wsV RX7 25 RX7 yX7_append wsX7_append) := goodIn_app (goodIn_of _ (by decide +kernel)) ggX7_appendSigns_X7_append
theorem dX7_appendSigns_0 : decode cX7_appendSigns 0 = .ok (.bipush 24, 2) := by decide +kernel
theorem dX7_appendSigns_2 : decode cX7_appendSigns 2 = .ok (.istore_n 2, 1) := by decide +kernel
theorem dX7_appendSigns_3 : decode cX7_appendSigns 3 = .ok (.iload_n 2, 1) := by decide +kernel
theorem dX7_appendSigns_4 : decode cX7_appendSigns 4 = .ok (.ifCond .lt 27, 3) := by decide +kernel
theorem dX7_appendSigns_7 : decode cX7_appendSigns 7 = .ok (.iload_n 1, 1) := by decide +kernel
theorem dX7_appendSigns_8 : decode cX7_appendSigns 8 = .ok (.iload_n 2, 1) := by decide +kernel
theorem dX7_appendSigns_9 : decode cX7_appendSigns 9 = .ok (.iushr, 1) := by decide +kernel
theorem dX7_appendSigns_10 : decode cX7_appendSigns 10 = .ok (.sipush 255, 3) := by decide +kernel
theorem dX7_appendSigns_13 : decode cX7_appendSigns 13 = .ok (.iand, 1) := by decide +kernel
theorem dX7_appendSigns_14 : decode cX7_appendSigns 14 = .ok (.istore_n 3, 1) := by decide +kernel
theorem dX7_appendSigns_15 : decode cX7_appendSigns 15 = .ok (.iload_n 3, 1) := by decide +kernel
theorem dX7_appendSigns_16 : decode cX7_appendSigns 16 = .ok (.ifCond .eq 9, 3) := by decide +kernel
theorem dX7_appendSigns_19 : decode cX7_appendSigns 19 = .ok (.aload_n 0, 1) := by decide +kernel
theorem dX7_appendSigns_20 : decode cX7_appendSigns 20 = .ok (.iload_n 3, 1) := by decide +kernel
theorem dX7_appendSigns_21 : decode cX7_appendSigns 21 = .ok (.i2c, 1) := by decide +kernel
theorem dX7_appendSigns_22 : decode cX7_appendSigns 22 = .ok (.invokevirtual 25, 3) := by decide +kernel
theorem dX7_appendSigns_25 : decode cX7_appendSigns 25 = .ok (.iinc 2 (-8), 3) := by decide +kernel
theorem dX7_appendSigns_28 : decode cX7_appendSigns 28 = .ok (.goto (-25), 3) := by decide +kernel
theorem dX7_appendSigns_31 : decode cX7_appendSigns 31 = .ok (.return_, 1) := by decide +kernel
theorem dX7_copy_0 : decode cX7_copy 0 = .ok (.aload_n 0, 1) := by decide +kernel
theorem dX7_copy_1 : decode cX7_copy 1 = .ok (.iconst 0, 1) := by decide +kernel
theorem dX7_copy_2 : decode cX7_copy 2 = .ok (.putfield 9, 3) := by decide +kernel
theorem dX7_copy_5 : decode cX7_copy 5 = .ok (.iconst 0, 1) := by decide +kernel
theorem dX7_copy_6 : decode cX7_copy 6 = .ok (.istore_n 2, 1) := by decide +kernel
theorem dX7_copy_7 : decode cX7_copy 7 = .ok (.iload_n 2, 1) := by decide +kernel
theorem dX7_copy_8 : decode cX7_copy 8 = .ok (.aload_n 1, 1) := by decide +kernel
theorem dX7_copy_9 : decode cX7_copy 9 = .ok (.getfield 9, 3) := by decide +kernel
theorem dX7_copy_12 : decode cX7_copy 12 = .ok (.if_icmp .ge 49, 3) := by decide +kernel
theorem dX7_copy_15 : decode cX7_copy 15 = .ok (.iload_n 2, 1) := by decide +kernel
theorem dX7_copy_16 : decode cX7_copy 16 = .ok (.aload_n 1, 1) := by decide +kernel
theorem dX7_copy_17 : decode cX7_copy 17 = .ok (.getfield 21, 3) := by decide +kernel
theorem dX7_copy_20 : decode cX7_copy 20 = .ok (.arraylength, 1) := by decide +kernel
theorem dX7_copy_21 : decode cX7_copy 21 = .ok (.if_icmp .ge 40, 3) := by decide +kernel
theorem dX7_copy_24 : decode cX7_copy 24 = .ok (.iload_n 2, 1) := by decide +kernel
theorem dX7_copy_25 : decode cX7_copy 25 = .ok (.aload_n 0, 1) := by decide +kernel
theorem dX7_copy_26 : decode cX7_copy 26 = .ok (.getfield 21, 3) := by decide +kernel
theorem dX7_copy_29 : decode cX7_copy 29 = .ok (.arraylength, 1) := by decide +kernel
theorem dX7_copy_30 : decode cX7_copy 30 = .ok (.if_icmp .ge 31, 3) := by decide +kernel
theorem dX7_copy_33 : decode cX7_copy 33 = .ok (.aload_n 0, 1) := by decide +kernel
theorem dX7_copy_34 : decode cX7_copy 34 = .ok (.getfield 21, 3) := by decide +kernel
theorem dX7_copy_37 : decode cX7_copy 37 = .ok (.iload_n 2, 1) := by decide +kernel
theorem dX7_copy_38 : decode cX7_copy 38 = .ok (.aload_n 1, 1) := by decide +kernel
theorem dX7_copy_39 : decode cX7_copy 39 = .ok (.getfield 21, 3) := by decide +kernel
theorem dX7_copy_42 : decode cX7_copy 42 = .ok (.iload_n 2, 1) := by decide +kernel
theorem dX7_copy_43 : decode cX7_copy 43 = .ok (.caload, 1) := by decide +kernel
theorem dX7_copy_44 : decode cX7_copy 44 = .ok (.castore, 1) := by decide +kernel
theorem dX7_copy_45 : decode cX7_copy 45 = .ok (.aload_n 0, 1) := by decide +kernel
theorem dX7_copy_46 : decode cX7_copy 46 = .ok (.dup, 1) := by decide +kernel
theorem dX7_copy_47 : decode cX7_copy 47 = .ok (.getfield 9, 3) := by decide +kernel
theorem dX7_copy_50 : decode cX7_copy 50 = .ok (.iconst 1, 1) := by decide +kernel
theorem dX7_copy_51 : decode cX7_copy 51 = .ok (.iadd, 1) := by decide +kernel
theorem dX7_copy_52 : decode cX7_copy 52 = .ok (.putfield 9, 3) := by decide +kernel
theorem dX7_copy_55 : decode cX7_copy 55 = .ok (.iinc 2 1, 3) := by decide +kernel
theorem dX7_copy_58 : decode cX7_copy 58 = .ok (.goto (-51), 3) := by decide +kernel
theorem dX7_copy_61 : decode cX7_copy 61 = .ok (.return_, 1) := by decide +kernel
set_option maxRecDepth 20000 in
theorem ggX7_appendLetters_J0_length_8abf5 : GoodIn wsX7_appendLetters wsJ0_length_8abf5 := goodIn_r _ [5, 6, 7, 8, 9, 4, 10, 11, 12] (by decide +kernel) (by decide +kernel)
set_option maxRecDepth 20000 in
theorem gX7_appendLetters_J0_length_8abf5 : GoodIn wsX7_appendLetters (wsV RX7 29 RJ0 yJ0_length_8abf5 wsJ0_length_8abf5) := goodIn_app (goodIn_of _ (by decide +kernel)) ggX7_appendLetters_J0_length_8abf5
set_option maxRecDepth 20000 in
theorem ggX7_appendLetters_J0_charAt_5068e : GoodIn wsX7_appendLetters wsJ0_charAt_5068e := goodIn_r _ [16, 6, 17, 18, 19, 4, 20, 11, 12, 21, 22, 23, 24, 25, 26, 27, 28, 29, 30, 31, 32, 33, 34, 35, 36, 37, 38, 39, 40, 41, 42, 43, 44, 45, 46, 47, 48, 49] (by decide +kernel) (by decide +kernel)
set_option maxRecDepth 20000 in
theorem gX7_appendLetters_J0_charAt_5068e : GoodIn wsX7_appendLetters (wsV RX7 34 RJ0 yJ0_charAt_5068e wsJ0_charAt_5068e) := goodIn_app (goodIn_of _ (by decide +kernel)) ggX7_appendLetters_J0_charAt_5068e
set_option maxRecDepth 20000 in
theorem ggX7_appendLetters_X7_append : GoodIn wsX7_appendLetters wsX7_append := goodIn_r _ [54, 55, 56, 57, 58] (by decide +kernel) (by decide +kernel)
set_option maxRecDepth 20000 in
theorem gX7_appendLetters_X7_append : GoodIn wsX7_appendLetters (wsV RX7 25 RX7 yX7_append wsX7_append) := goodIn_app (goodIn_of _ (by decide +kernel)) ggX7_appendLetters_X7_append
theorem dX7_appendLetters_0 : decode cX7_appendLetters 0 = .ok (.iconst 0, 1) := by decide +kernel
theorem dX7_appendLetters_1 : decode cX7_appendLetters 1 = .ok (.istore_n 2, 1) := by decide +kernel
theorem dX7_appendLetters_2 : decode cX7_appendLetters 2 = .ok (.iload_n 2, 1) := by decide +kernel
theorem dX7_appendLetters_3 : decode cX7_appendLetters 3 = .ok (.aload_n 1, 1) := by decide +kernel
theorem dX7_appendLetters_4 : decode cX7_appendLetters 4 = .ok (.invokevirtual 29, 3) := by decide +kernel
theorem dX7_appendLetters_7 : decode cX7_appendLetters 7 = .ok (.if_icmp .ge 18, 3) := by decide +kernel
theorem dX7_appendLetters_10 : decode cX7_appendLetters 10 = .ok (.aload_n 0, 1) := by decide +kernel
theorem dX7_appendLetters_11 : decode cX7_appendLetters 11 = .ok (.aload_n 1, 1) := by decide +kernel
theorem dX7_appendLetters_12 : decode cX7_appendLetters 12 = .ok (.iload_n 2, 1) := by decide +kernel
theorem dX7_appendLetters_13 : decode cX7_appendLetters 13 = .ok (.invokevirtual 34, 3) := by decide +kernel
theorem dX7_appendLetters_16 : decode cX7_appendLetters 16 = .ok (.invokevirtual 25, 3) := by decide +kernel
theorem dX7_appendLetters_19 : decode cX7_appendLetters 19 = .ok (.iinc 2 1, 3) := by decide +kernel
theorem dX7_appendLetters_22 : decode cX7_appendLetters 22 = .ok (.goto (-20), 3) := by decide +kernel
theorem dX7_appendLetters_25 : decode cX7_appendLetters 25 = .ok (.return_, 1) := by decide +kernel
set_option maxRecDepth 20000 in
theorem ggX7_appendNumber_X7_append : GoodIn wsX7_appendNumber wsX7_append := goodIn_r _ [11, 12, 13, 19, 20] (by decide +kernel) (by decide +kernel)
set_option maxRecDepth 20000 in
theorem gX7_appendNumber_X7_append : GoodIn wsX7_appendNumber (wsV RX7 25 RX7 yX7_append wsX7_append) := goodIn_app (goodIn_of _ (by decide +kernel)) ggX7_appendNumber_X7_append
set_option maxRecDepth 20000 in
theorem ggX7_appendNumber_X7_appendDigits : GoodIn wsX7_appendNumber wsX7_appendDigits := goodIn_r _ [17, 18, 6, 4, 7, 8, 9, 10, 11, 12, 13, 19, 20] (by decide +kernel) (by decide +kernel)
set_option maxRecDepth 20000 in
theorem gX7_appendNumber_X7_appendDigits : GoodIn wsX7_appendNumber (wsV RX7 40 RX7 yX7_appendDigits wsX7_appendDigits) := goodIn_app (goodIn_of _ (by decide +kernel)) ggX7_appendNumber_X7_appendDigits
theorem dX7_appendNumber_0 : decode cX7_appendNumber 0 = .ok (.dload_n 1, 1) := by decide +kernel
theorem dX7_appendNumber_1 : decode cX7_appendNumber 1 = .ok (.dconst 0, 1) := by decide +kernel
theorem dX7_appendNumber_2 : decode cX7_appendNumber 2 = .ok (.dcmp .g, 1) := by decide +kernel
theorem dX7_appendNumber_3 : decode cX7_appendNumber 3 = .ok (.ifCond .ge 9, 3) := by decide +kernel
theorem dX7_appendNumber_6 : decode cX7_appendNumber 6 = .ok (.aload_n 0, 1) := by decide +kernel
theorem dX7_appendNumber_7 : decode cX7_appendNumber 7 = .ok (.bipush 45, 2) := by decide +kernel
theorem dX7_appendNumber_9 : decode cX7_appendNumber 9 = .ok (.invokevirtual 25, 3) := by decide +kernel
theorem dX7_appendNumber_12 : decode cX7_appendNumber 12 = .ok (.dload_n 1, 1) := by decide +kernel
theorem dX7_appendNumber_13 : decode cX7_appendNumber 13 = .ok (.dconst 0, 1) := by decide +kernel
theorem dX7_appendNumber_14 : decode cX7_appendNumber 14 = .ok (.dcmp .g, 1) := by decide +kernel
theorem dX7_appendNumber_15 : decode cX7_appendNumber 15 = .ok (.ifCond .ge 8, 3) := by decide +kernel
theorem dX7_appendNumber_18 : decode cX7_appendNumber 18 = .ok (.dload_n 1, 1) := by decide +kernel
theorem dX7_appendNumber_19 : decode cX7_appendNumber 19 = .ok (.dneg, 1) := by decide +kernel
theorem dX7_appendNumber_20 : decode cX7_appendNumber 20 = .ok (.goto 4, 3) := by decide +kernel
theorem dX7_appendNumber_23 : decode cX7_appendNumber 23 = .ok (.dload_n 1, 1) := by decide +kernel
theorem dX7_appendNumber_24 : decode cX7_appendNumber 24 = .ok (.ldc2_w 38, 3) := by decide +kernel
theorem dX7_appendNumber_27 : decode cX7_appendNumber 27 = .ok (.dmul, 1) := by decide +kernel
theorem dX7_appendNumber_28 : decode cX7_appendNumber 28 = .ok (.d2l, 1) := by decide +kernel
theorem dX7_appendNumber_29 : decode cX7_appendNumber 29 = .ok (.lstore_n 3, 1) := by decide +kernel
theorem dX7_appendNumber_30 : decode cX7_appendNumber 30 = .ok (.aload_n 0, 1) := by decide +kernel
theorem dX7_appendNumber_31 : decode cX7_appendNumber 31 = .ok (.lload_n 3, 1) := by decide +kernel
theorem dX7_appendNumber_32 : decode cX7_appendNumber 32 = .ok (.iconst 3, 1) := by decide +kernel
theorem dX7_appendNumber_33 : decode cX7_appendNumber 33 = .ok (.lshr, 1) := by decide +kernel
theorem dX7_appendNumber_34 : decode cX7_appendNumber 34 = .ok (.invokevirtual 40, 3) := by decide +kernel
theorem dX7_appendNumber_37 : decode cX7_appendNumber 37 = .ok (.lload_n 3, 1) := by decide +kernel
theorem dX7_appendNumber_38 : decode cX7_appendNumber 38 = .ok (.ldc2_w 44, 3) := by decide +kernel
theorem dX7_appendNumber_41 : decode cX7_appendNumber 41 = .ok (.land, 1) := by decide +kernel
theorem dX7_appendNumber_42 : decode cX7_appendNumber 42 = .ok (.ldc2_w 46, 3) := by decide +kernel
theorem dX7_appendNumber_45 : decode cX7_appendNumber 45 = .ok (.lmul, 1) := by decide +kernel
theorem dX7_appendNumber_46 : decode cX7_appendNumber 46 = .ok (.lstore 5, 2) := by decide +kernel
theorem dX7_appendNumber_48 : decode cX7_appendNumber 48 = .ok (.lload 5, 2) := by decide +kernel
theorem dX7_appendNumber_50 : decode cX7_appendNumber 50 = .ok (.lconst 0, 1) := by decide +kernel
theorem dX7_appendNumber_51 : decode cX7_appendNumber 51 = .ok (.lcmp, 1) := by decide +kernel
theorem dX7_appendNumber_52 : decode cX7_appendNumber 52 = .ok (.ifCond .eq 9, 3) := by decide +kernel
theorem dX7_appendNumber_55 : decode cX7_appendNumber 55 = .ok (.aload_n 0, 1) := by decide +kernel
theorem dX7_appendNumber_56 : decode cX7_appendNumber 56 = .ok (.bipush 46, 2) := by decide +kernel
theorem dX7_appendNumber_58 : decode cX7_appendNumber 58 = .ok (.invokevirtual 25, 3) := by decide +kernel
theorem dX7_appendNumber_61 : decode cX7_appendNumber 61 = .ok (.iconst 0, 1) := by decide +kernel
theorem dX7_appendNumber_62 : decode cX7_appendNumber 62 = .ok (.istore 7, 2) := by decide +kernel
theorem dX7_appendNumber_64 : decode cX7_appendNumber 64 = .ok (.iload 7, 2) := by decide +kernel
theorem dX7_appendNumber_66 : decode cX7_appendNumber 66 = .ok (.iconst 3, 1) := by decide +kernel
theorem dX7_appendNumber_67 : decode cX7_appendNumber 67 = .ok (.if_icmp .ge 44, 3) := by decide +kernel
theorem dX7_appendNumber_70 : decode cX7_appendNumber 70 = .ok (.lload 5, 2) := by decide +kernel
theorem dX7_appendNumber_72 : decode cX7_appendNumber 72 = .ok (.lconst 0, 1) := by decide +kernel
theorem dX7_appendNumber_73 : decode cX7_appendNumber 73 = .ok (.lcmp, 1) := by decide +kernel
theorem dX7_appendNumber_74 : decode cX7_appendNumber 74 = .ok (.ifCond .eq 37, 3) := by decide +kernel
theorem dX7_appendNumber_77 : decode cX7_appendNumber 77 = .ok (.aload_n 0, 1) := by decide +kernel
theorem dX7_appendNumber_78 : decode cX7_appendNumber 78 = .ok (.ldc2_w 48, 3) := by decide +kernel
theorem dX7_appendNumber_81 : decode cX7_appendNumber 81 = .ok (.lload 5, 2) := by decide +kernel
theorem dX7_appendNumber_83 : decode cX7_appendNumber 83 = .ok (.ldc2_w 50, 3) := by decide +kernel
theorem dX7_appendNumber_86 : decode cX7_appendNumber 86 = .ok (.ldiv, 1) := by decide +kernel
theorem dX7_appendNumber_87 : decode cX7_appendNumber 87 = .ok (.ladd, 1) := by decide +kernel
theorem dX7_appendNumber_88 : decode cX7_appendNumber 88 = .ok (.l2i, 1) := by decide +kernel
theorem dX7_appendNumber_89 : decode cX7_appendNumber 89 = .ok (.i2c, 1) := by decide +kernel
theorem dX7_appendNumber_90 : decode cX7_appendNumber 90 = .ok (.invokevirtual 25, 3) := by decide +kernel
theorem dX7_appendNumber_93 : decode cX7_appendNumber 93 = .ok (.lload 5, 2) := by decide +kernel
theorem dX7_appendNumber_95 : decode cX7_appendNumber 95 = .ok (.ldc2_w 50, 3) := by decide +kernel
theorem dX7_appendNumber_98 : decode cX7_appendNumber 98 = .ok (.lrem, 1) := by decide +kernel
theorem dX7_appendNumber_99 : decode cX7_appendNumber 99 = .ok (.ldc2_w 52, 3) := by decide +kernel
theorem dX7_appendNumber_102 : decode cX7_appendNumber 102 = .ok (.lmul, 1) := by decide +kernel
theorem dX7_appendNumber_103 : decode cX7_appendNumber 103 = .ok (.lstore 5, 2) := by decide +kernel
theorem dX7_appendNumber_105 : decode cX7_appendNumber 105 = .ok (.iinc 7 1, 3) := by decide +kernel
theorem dX7_appendNumber_108 : decode cX7_appendNumber 108 = .ok (.goto (-44), 3) := by decide +kernel
theorem dX7_appendNumber_111 : decode cX7_appendNumber 111 = .ok (.return_, 1) := by decide +kernel
set_option maxRecDepth 20000 in
theorem ggX7_appendDigits_X7_append : GoodIn wsX7_appendDigits wsX7_append := goodIn_r _ [8, 9, 10, 11, 12] (by decide +kernel) (by decide +kernel)
set_option maxRecDepth 20000 in
theorem gX7_appendDigits_X7_append : GoodIn wsX7_appendDigits (wsV RX7 25 RX7 yX7_append wsX7_append) := goodIn_app (goodIn_of _ (by decide +kernel)) ggX7_appendDigits_X7_append
theorem dX7_appendDigits_0 : decode cX7_appendDigits 0 = .ok (.iconst 0, 1) := by decide +kernel
theorem dX7_appendDigits_1 : decode cX7_appendDigits 1 = .ok (.istore_n 3, 1) := by decide +kernel
theorem dX7_appendDigits_2 : decode cX7_appendDigits 2 = .ok (.ldc2_w 54, 3) := by decide +kernel
theorem dX7_appendDigits_5 : decode cX7_appendDigits 5 = .ok (.lstore 4, 2) := by decide +kernel
theorem dX7_appendDigits_7 : decode cX7_appendDigits 7 = .ok (.lload 4, 2) := by decide +kernel
theorem dX7_appendDigits_9 : decode cX7_appendDigits 9 = .ok (.lconst 0, 1) := by decide +kernel
theorem dX7_appendDigits_10 : decode cX7_appendDigits 10 = .ok (.lcmp, 1) := by decide +kernel
theorem dX7_appendDigits_11 : decode cX7_appendDigits 11 = .ok (.ifCond .le 64, 3) := by decide +kernel
theorem dX7_appendDigits_14 : decode cX7_appendDigits 14 = .ok (.lload_n 1, 1) := by decide +kernel
theorem dX7_appendDigits_15 : decode cX7_appendDigits 15 = .ok (.lload 4, 2) := by decide +kernel
theorem dX7_appendDigits_17 : decode cX7_appendDigits 17 = .ok (.ldiv, 1) := by decide +kernel
theorem dX7_appendDigits_18 : decode cX7_appendDigits 18 = .ok (.ldc2_w 52, 3) := by decide +kernel
theorem dX7_appendDigits_21 : decode cX7_appendDigits 21 = .ok (.lrem, 1) := by decide +kernel
theorem dX7_appendDigits_22 : decode cX7_appendDigits 22 = .ok (.lstore 6, 2) := by decide +kernel
theorem dX7_appendDigits_24 : decode cX7_appendDigits 24 = .ok (.iload_n 3, 1) := by decide +kernel
theorem dX7_appendDigits_25 : decode cX7_appendDigits 25 = .ok (.ifCond .ne 17, 3) := by decide +kernel
theorem dX7_appendDigits_28 : decode cX7_appendDigits 28 = .ok (.lload 6, 2) := by decide +kernel
theorem dX7_appendDigits_30 : decode cX7_appendDigits 30 = .ok (.lconst 0, 1) := by decide +kernel
theorem dX7_appendDigits_31 : decode cX7_appendDigits 31 = .ok (.lcmp, 1) := by decide +kernel
theorem dX7_appendDigits_32 : decode cX7_appendDigits 32 = .ok (.ifCond .ne 10, 3) := by decide +kernel
theorem dX7_appendDigits_35 : decode cX7_appendDigits 35 = .ok (.lload 4, 2) := by decide +kernel
theorem dX7_appendDigits_37 : decode cX7_appendDigits 37 = .ok (.lconst 1, 1) := by decide +kernel
theorem dX7_appendDigits_38 : decode cX7_appendDigits 38 = .ok (.lcmp, 1) := by decide +kernel
theorem dX7_appendDigits_39 : decode cX7_appendDigits 39 = .ok (.ifCond .ne 7, 3) := by decide +kernel
theorem dX7_appendDigits_42 : decode cX7_appendDigits 42 = .ok (.iconst 1, 1) := by decide +kernel
theorem dX7_appendDigits_43 : decode cX7_appendDigits 43 = .ok (.goto 4, 3) := by decide +kernel
theorem dX7_appendDigits_46 : decode cX7_appendDigits 46 = .ok (.iconst 0, 1) := by decide +kernel
theorem dX7_appendDigits_47 : decode cX7_appendDigits 47 = .ok (.istore_n 3, 1) := by decide +kernel
theorem dX7_appendDigits_48 : decode cX7_appendDigits 48 = .ok (.iload_n 3, 1) := by decide +kernel
theorem dX7_appendDigits_49 : decode cX7_appendDigits 49 = .ok (.ifCond .eq 15, 3) := by decide +kernel
theorem dX7_appendDigits_52 : decode cX7_appendDigits 52 = .ok (.aload_n 0, 1) := by decide +kernel
theorem dX7_appendDigits_53 : decode cX7_appendDigits 53 = .ok (.ldc2_w 48, 3) := by decide +kernel
theorem dX7_appendDigits_56 : decode cX7_appendDigits 56 = .ok (.lload 6, 2) := by decide +kernel
theorem dX7_appendDigits_58 : decode cX7_appendDigits 58 = .ok (.ladd, 1) := by decide +kernel
theorem dX7_appendDigits_59 : decode cX7_appendDigits 59 = .ok (.l2i, 1) := by decide +kernel
theorem dX7_appendDigits_60 : decode cX7_appendDigits 60 = .ok (.i2c, 1) := by decide +kernel
theorem dX7_appendDigits_61 : decode cX7_appendDigits 61 = .ok (.invokevirtual 25, 3) := by decide +kernel
theorem dX7_appendDigits_64 : decode cX7_appendDigits 64 = .ok (.lload 4, 2) := by decide +kernel
theorem dX7_appendDigits_66 : decode cX7_appendDigits 66 = .ok (.ldc2_w 52, 3) := by decide +kernel
theorem dX7_appendDigits_69 : decode cX7_appendDigits 69 = .ok (.ldiv, 1) := by decide +kernel
theorem dX7_appendDigits_70 : decode cX7_appendDigits 70 = .ok (.lstore 4, 2) := by decide +kernel
theorem dX7_appendDigits_72 : decode cX7_appendDigits 72 = .ok (.goto (-65), 3) := by decide +kernel
theorem dX7_appendDigits_75 : decode cX7_appendDigits 75 = .ok (.return_, 1) := by decide +kernel
set_option maxRecDepth 20000 in
theorem ggX7_wordCode_X7_at : GoodIn wsX7_wordCode wsX7_at := goodIn_r _ [6, 1, 7, 15, 16] (by decide +kernel) (by decide +kernel)
set_option maxRecDepth 20000 in
theorem gX7_wordCode_X7_at : GoodIn wsX7_wordCode (wsV RX7 56 RX7 yX7_at wsX7_at) := goodIn_app (goodIn_of _ (by decide +kernel)) ggX7_wordCode_X7_at
set_option maxRecDepth 20000 in
theorem ggX7_wordCode_X7_isLetter : GoodIn wsX7_wordCode wsX7_isLetter := goodIn_r _ [10] (by decide +kernel) (by decide +kernel)
set_option maxRecDepth 20000 in
theorem gX7_wordCode_X7_isLetter : GoodIn wsX7_wordCode (va_wsS RX7 59 yX7_isLetter wsX7_isLetter) := goodIn_app (goodIn_of _ (by decide +kernel)) ggX7_wordCode_X7_isLetter
set_option maxRecDepth 20000 in
theorem ggX7_wordCode_X7_withLetter : GoodIn wsX7_wordCode wsX7_withLetter := goodIn_r _ [13, 14] (by decide +kernel) (by decide +kernel)
set_option maxRecDepth 20000 in
theorem gX7_wordCode_X7_withLetter : GoodIn wsX7_wordCode (va_wsS RX7 63 yX7_withLetter wsX7_withLetter) := goodIn_app (goodIn_of _ (by decide +kernel)) ggX7_wordCode_X7_withLetter
theorem dX7_wordCode_0 : decode cX7_wordCode 0 = .ok (.aload_n 0, 1) := by decide +kernel
theorem dX7_wordCode_1 : decode cX7_wordCode 1 = .ok (.getfield 9, 3) := by decide +kernel
theorem dX7_wordCode_4 : decode cX7_wordCode 4 = .ok (.bipush 8, 2) := by decide +kernel
theorem dX7_wordCode_6 : decode cX7_wordCode 6 = .ok (.if_icmp .le 5, 3) := by decide +kernel
theorem dX7_wordCode_9 : decode cX7_wordCode 9 = .ok (.lconst 0, 1) := by decide +kernel
theorem dX7_wordCode_10 : decode cX7_wordCode 10 = .ok (.lreturn, 1) := by decide +kernel
theorem dX7_wordCode_11 : decode cX7_wordCode 11 = .ok (.lconst 0, 1) := by decide +kernel
theorem dX7_wordCode_12 : decode cX7_wordCode 12 = .ok (.lstore_n 1, 1) := by decide +kernel
theorem dX7_wordCode_13 : decode cX7_wordCode 13 = .ok (.iconst 0, 1) := by decide +kernel
theorem dX7_wordCode_14 : decode cX7_wordCode 14 = .ok (.istore_n 3, 1) := by decide +kernel
theorem dX7_wordCode_15 : decode cX7_wordCode 15 = .ok (.iload_n 3, 1) := by decide +kernel
theorem dX7_wordCode_16 : decode cX7_wordCode 16 = .ok (.aload_n 0, 1) := by decide +kernel
theorem dX7_wordCode_17 : decode cX7_wordCode 17 = .ok (.getfield 9, 3) := by decide +kernel
theorem dX7_wordCode_20 : decode cX7_wordCode 20 = .ok (.if_icmp .ge 33, 3) := by decide +kernel
theorem dX7_wordCode_23 : decode cX7_wordCode 23 = .ok (.aload_n 0, 1) := by decide +kernel
theorem dX7_wordCode_24 : decode cX7_wordCode 24 = .ok (.iload_n 3, 1) := by decide +kernel
theorem dX7_wordCode_25 : decode cX7_wordCode 25 = .ok (.invokevirtual 56, 3) := by decide +kernel
theorem dX7_wordCode_28 : decode cX7_wordCode 28 = .ok (.istore 4, 2) := by decide +kernel
theorem dX7_wordCode_30 : decode cX7_wordCode 30 = .ok (.iload 4, 2) := by decide +kernel
theorem dX7_wordCode_32 : decode cX7_wordCode 32 = .ok (.invokestatic 59, 3) := by decide +kernel
theorem dX7_wordCode_35 : decode cX7_wordCode 35 = .ok (.ifCond .ne 5, 3) := by decide +kernel
theorem dX7_wordCode_38 : decode cX7_wordCode 38 = .ok (.lconst 0, 1) := by decide +kernel
theorem dX7_wordCode_39 : decode cX7_wordCode 39 = .ok (.lreturn, 1) := by decide +kernel
theorem dX7_wordCode_40 : decode cX7_wordCode 40 = .ok (.lload_n 1, 1) := by decide +kernel
theorem dX7_wordCode_41 : decode cX7_wordCode 41 = .ok (.iload 4, 2) := by decide +kernel
theorem dX7_wordCode_43 : decode cX7_wordCode 43 = .ok (.invokestatic 63, 3) := by decide +kernel
theorem dX7_wordCode_46 : decode cX7_wordCode 46 = .ok (.lstore_n 1, 1) := by decide +kernel
theorem dX7_wordCode_47 : decode cX7_wordCode 47 = .ok (.iinc 3 1, 3) := by decide +kernel
theorem dX7_wordCode_50 : decode cX7_wordCode 50 = .ok (.goto (-35), 3) := by decide +kernel
theorem dX7_wordCode_53 : decode cX7_wordCode 53 = .ok (.lload_n 1, 1) := by decide +kernel
theorem dX7_wordCode_54 : decode cX7_wordCode 54 = .ok (.lreturn, 1) := by decide +kernel
theorem dX7_isLetter_0 : decode cX7_isLetter 0 = .ok (.iload_n 0, 1) := by decide +kernel
theorem dX7_isLetter_1 : decode cX7_isLetter 1 = .ok (.bipush 97, 2) := by decide +kernel
theorem dX7_isLetter_3 : decode cX7_isLetter 3 = .ok (.if_icmp .lt 13, 3) := by decide +kernel
theorem dX7_isLetter_6 : decode cX7_isLetter 6 = .ok (.iload_n 0, 1) := by decide +kernel
theorem dX7_isLetter_7 : decode cX7_isLetter 7 = .ok (.bipush 122, 2) := by decide +kernel
theorem dX7_isLetter_9 : decode cX7_isLetter 9 = .ok (.if_icmp .gt 7, 3) := by decide +kernel
theorem dX7_isLetter_12 : decode cX7_isLetter 12 = .ok (.iconst 1, 1) := by decide +kernel
theorem dX7_isLetter_13 : decode cX7_isLetter 13 = .ok (.goto 4, 3) := by decide +kernel
theorem dX7_isLetter_16 : decode cX7_isLetter 16 = .ok (.iconst 0, 1) := by decide +kernel
theorem dX7_isLetter_17 : decode cX7_isLetter 17 = .ok (.ireturn, 1) := by decide +kernel
theorem dX7_withLetter_0 : decode cX7_withLetter 0 = .ok (.lload_n 0, 1) := by decide +kernel
theorem dX7_withLetter_1 : decode cX7_withLetter 1 = .ok (.ldc2_w 67, 3) := by decide +kernel
theorem dX7_withLetter_4 : decode cX7_withLetter 4 = .ok (.lmul, 1) := by decide +kernel
theorem dX7_withLetter_5 : decode cX7_withLetter 5 = .ok (.iload_n 2, 1) := by decide +kernel
theorem dX7_withLetter_6 : decode cX7_withLetter 6 = .ok (.bipush 97, 2) := by decide +kernel
theorem dX7_withLetter_8 : decode cX7_withLetter 8 = .ok (.isub, 1) := by decide +kernel
theorem dX7_withLetter_9 : decode cX7_withLetter 9 = .ok (.iconst 1, 1) := by decide +kernel
theorem dX7_withLetter_10 : decode cX7_withLetter 10 = .ok (.iadd, 1) := by decide +kernel
theorem dX7_withLetter_11 : decode cX7_withLetter 11 = .ok (.i2l, 1) := by decide +kernel
theorem dX7_withLetter_12 : decode cX7_withLetter 12 = .ok (.ladd, 1) := by decide +kernel
theorem dX7_withLetter_13 : decode cX7_withLetter 13 = .ok (.lreturn, 1) := by decide +kernel
set_option maxRecDepth 20000 in
theorem ggX7_codeOf_J0_length_8abf5 : GoodIn wsX7_codeOf wsJ0_length_8abf5 := goodIn_r _ [5, 6, 7, 8, 9, 4, 10, 11, 12] (by decide +kernel) (by decide +kernel)
set_option maxRecDepth 20000 in
theorem gX7_codeOf_J0_length_8abf5 : GoodIn wsX7_codeOf (wsV RX7 29 RJ0 yJ0_length_8abf5 wsJ0_length_8abf5) := goodIn_app (goodIn_of _ (by decide +kernel)) ggX7_codeOf_J0_length_8abf5
set_option maxRecDepth 20000 in
theorem ggX7_codeOf_J0_charAt_5068e : GoodIn wsX7_codeOf wsJ0_charAt_5068e := goodIn_r _ [16, 6, 17, 18, 19, 4, 20, 11, 12, 21, 22, 23, 24, 25, 26, 27, 28, 29, 30, 31, 32, 33, 34, 35, 36, 37, 38, 39, 40, 41, 42, 43, 44, 45, 46, 47, 48, 49] (by decide +kernel) (by decide +kernel)
set_option maxRecDepth 20000 in
theorem gX7_codeOf_J0_charAt_5068e : GoodIn wsX7_codeOf (wsV RX7 34 RJ0 yJ0_charAt_5068e wsJ0_charAt_5068e) := goodIn_app (goodIn_of _ (by decide +kernel)) ggX7_codeOf_J0_charAt_5068e
set_option maxRecDepth 20000 in
theorem ggX7_codeOf_X7_withLetter : GoodIn wsX7_codeOf wsX7_withLetter := goodIn_r _ [53, 54] (by decide +kernel) (by decide +kernel)
set_option maxRecDepth 20000 in
theorem gX7_codeOf_X7_withLetter : GoodIn wsX7_codeOf (va_wsS RX7 63 yX7_withLetter wsX7_withLetter) := goodIn_app (goodIn_of _ (by decide +kernel)) ggX7_codeOf_X7_withLetter
theorem dX7_codeOf_0 : decode cX7_codeOf 0 = .ok (.lconst 0, 1) := by decide +kernel
theorem dX7_codeOf_1 : decode cX7_codeOf 1 = .ok (.lstore_n 1, 1) := by decide +kernel
theorem dX7_codeOf_2 : decode cX7_codeOf 2 = .ok (.iconst 0, 1) := by decide +kernel
theorem dX7_codeOf_3 : decode cX7_codeOf 3 = .ok (.istore_n 3, 1) := by decide +kernel
theorem dX7_codeOf_4 : decode cX7_codeOf 4 = .ok (.iload_n 3, 1) := by decide +kernel
theorem dX7_codeOf_5 : decode cX7_codeOf 5 = .ok (.aload_n 0, 1) := by decide +kernel
theorem dX7_codeOf_6 : decode cX7_codeOf 6 = .ok (.invokevirtual 29, 3) := by decide +kernel
theorem dX7_codeOf_9 : decode cX7_codeOf 9 = .ok (.if_icmp .ge 19, 3) := by decide +kernel
theorem dX7_codeOf_12 : decode cX7_codeOf 12 = .ok (.lload_n 1, 1) := by decide +kernel
theorem dX7_codeOf_13 : decode cX7_codeOf 13 = .ok (.aload_n 0, 1) := by decide +kernel
theorem dX7_codeOf_14 : decode cX7_codeOf 14 = .ok (.iload_n 3, 1) := by decide +kernel
theorem dX7_codeOf_15 : decode cX7_codeOf 15 = .ok (.invokevirtual 34, 3) := by decide +kernel
theorem dX7_codeOf_18 : decode cX7_codeOf 18 = .ok (.invokestatic 63, 3) := by decide +kernel
theorem dX7_codeOf_21 : decode cX7_codeOf 21 = .ok (.lstore_n 1, 1) := by decide +kernel
theorem dX7_codeOf_22 : decode cX7_codeOf 22 = .ok (.iinc 3 1, 3) := by decide +kernel
theorem dX7_codeOf_25 : decode cX7_codeOf 25 = .ok (.goto (-21), 3) := by decide +kernel
theorem dX7_codeOf_28 : decode cX7_codeOf 28 = .ok (.lload_n 1, 1) := by decide +kernel
theorem dX7_codeOf_29 : decode cX7_codeOf 29 = .ok (.lreturn, 1) := by decide +kernel
set_option maxRecDepth 20000 in
theorem ggX8_init_X7_init : GoodIn wsX8_init wsX7_init := goodIn_r _ [16, 17, 2, 3, 18, 19, 20, 21, 22, 23, 24, 32, 33] (by decide +kernel) (by decide +kernel)
set_option maxRecDepth 20000 in
theorem gX8_init_X7_init : GoodIn wsX8_init (wsX7_init) := ggX8_init_X7_init
theorem dX8_init_0 : decode cX8_init 0 = .ok (.aload_n 0, 1) := by decide +kernel
theorem dX8_init_1 : decode cX8_init 1 = .ok (.invokespecial 3, 3) := by decide +kernel
theorem dX8_init_4 : decode cX8_init 4 = .ok (.aload_n 0, 1) := by decide +kernel
theorem dX8_init_5 : decode cX8_init 5 = .ok (.bipush 7, 2) := by decide +kernel
theorem dX8_init_7 : decode cX8_init 7 = .ok (.putfield 9, 3) := by decide +kernel
theorem dX8_init_10 : decode cX8_init 10 = .ok (.aload_n 0, 1) := by decide +kernel
theorem dX8_init_11 : decode cX8_init 11 = .ok (.lconst 0, 1) := by decide +kernel
theorem dX8_init_12 : decode cX8_init 12 = .ok (.putfield 15, 3) := by decide +kernel
theorem dX8_init_15 : decode cX8_init 15 = .ok (.aload_n 0, 1) := by decide +kernel
theorem dX8_init_16 : decode cX8_init 16 = .ok (.dconst 0, 1) := by decide +kernel
theorem dX8_init_17 : decode cX8_init 17 = .ok (.putfield 19, 3) := by decide +kernel
theorem dX8_init_20 : decode cX8_init 20 = .ok (.aload_n 0, 1) := by decide +kernel
theorem dX8_init_21 : decode cX8_init 21 = .ok (.iconst 0, 1) := by decide +kernel
theorem dX8_init_22 : decode cX8_init 22 = .ok (.putfield 23, 3) := by decide +kernel
theorem dX8_init_25 : decode cX8_init 25 = .ok (.aload_n 0, 1) := by decide +kernel
theorem dX8_init_26 : decode cX8_init 26 = .ok (.iconst 0, 1) := by decide +kernel
theorem dX8_init_27 : decode cX8_init 27 = .ok (.putfield 27, 3) := by decide +kernel
theorem dX8_init_30 : decode cX8_init 30 = .ok (.aload_n 0, 1) := by decide +kernel
theorem dX8_init_31 : decode cX8_init 31 = .ok (.new 30, 3) := by decide +kernel
theorem dX8_init_34 : decode cX8_init 34 = .ok (.dup, 1) := by decide +kernel
theorem dX8_init_35 : decode cX8_init 35 = .ok (.iload_n 1, 1) := by decide +kernel
theorem dX8_init_36 : decode cX8_init 36 = .ok (.invokespecial 32, 3) := by decide +kernel
theorem dX8_init_39 : decode cX8_init 39 = .ok (.putfield 35, 3) := by decide +kernel
theorem dX8_init_42 : decode cX8_init 42 = .ok (.aload_n 0, 1) := by decide +kernel
theorem dX8_init_43 : decode cX8_init 43 = .ok (.aload_n 2, 1) := by decide +kernel
theorem dX8_init_44 : decode cX8_init 44 = .ok (.putfield 39, 3) := by decide +kernel
theorem dX8_init_47 : decode cX8_init 47 = .ok (.return_, 1) := by decide +kernel
set_option maxRecDepth 20000 in
theorem ggX8_withItems_X8_init : GoodIn wsX8_withItems wsX8_init := goodIn_r _ [6, 7, 8, 9, 10, 11, 12, 13, 14, 15, 16, 17, 18, 19, 20, 21, 22, 23, 24, 25, 26, 27, 28, 29, 30, 97, 98, 99, 100, 101, 102, 103, 104, 105] (by decide +kernel) (by decide +kernel)
set_option maxRecDepth 20000 in
theorem gX8_withItems_X8_init : GoodIn wsX8_withItems (wsX8_init) := ggX8_withItems_X8_init
set_option maxRecDepth 20000 in
theorem ggX8_withItems_X8_becomeNamed : GoodIn wsX8_withItems wsX8_becomeNamed := goodIn_r _ [34, 18, 35, 36, 37, 3, 38, 10, 11, 12, 13, 14, 39, 40, 41, 42, 17, 43, 44, 45, 46, 47, 48, 49, 50, 51, 52, 53, 54, 55, 56, 57, 58, 59, 60, 61, 62, 63, 64, 65, 66, 67, 68, 69, 70, 71, 72, 73, 74, 75, 76, 77, 78, 79, 80, 81, 82, 83, 84, 85, 86, 87, 88, 89, 90, 91, 92, 93, 94, 95, 96, 24, 30, 97, 98, 99, 100, 101, 102, 103, 104, 105] (by decide +kernel) (by decide +kernel)
set_option maxRecDepth 20000 in
theorem gX8_withItems_X8_becomeNamed : GoodIn wsX8_withItems (wsV RX8 48 RX8 yX8_becomeNamed wsX8_becomeNamed) := goodIn_app (goodIn_of _ (by decide +kernel)) ggX8_withItems_X8_becomeNamed
theorem dX8_withItems_0 : decode cX8_withItems 0 = .ok (.iconst 0, 1) := by decide +kernel
theorem dX8_withItems_1 : decode cX8_withItems 1 = .ok (.anewarray 10, 3) := by decide +kernel
theorem dX8_withItems_4 : decode cX8_withItems 4 = .ok (.astore_n 0, 1) := by decide +kernel
theorem dX8_withItems_5 : decode cX8_withItems 5 = .ok (.iconst 5, 1) := by decide +kernel
theorem dX8_withItems_6 : decode cX8_withItems 6 = .ok (.anewarray 10, 3) := by decide +kernel
theorem dX8_withItems_9 : decode cX8_withItems 9 = .ok (.astore_n 1, 1) := by decide +kernel
theorem dX8_withItems_10 : decode cX8_withItems 10 = .ok (.iconst 0, 1) := by decide +kernel
theorem dX8_withItems_11 : decode cX8_withItems 11 = .ok (.istore_n 2, 1) := by decide +kernel
theorem dX8_withItems_12 : decode cX8_withItems 12 = .ok (.iload_n 2, 1) := by decide +kernel
theorem dX8_withItems_13 : decode cX8_withItems 13 = .ok (.aload_n 1, 1) := by decide +kernel
theorem dX8_withItems_14 : decode cX8_withItems 14 = .ok (.arraylength, 1) := by decide +kernel
theorem dX8_withItems_15 : decode cX8_withItems 15 = .ok (.if_icmp .ge 22, 3) := by decide +kernel
theorem dX8_withItems_18 : decode cX8_withItems 18 = .ok (.aload_n 1, 1) := by decide +kernel
theorem dX8_withItems_19 : decode cX8_withItems 19 = .ok (.iload_n 2, 1) := by decide +kernel
theorem dX8_withItems_20 : decode cX8_withItems 20 = .ok (.new 10, 3) := by decide +kernel
theorem dX8_withItems_23 : decode cX8_withItems 23 = .ok (.dup, 1) := by decide +kernel
theorem dX8_withItems_24 : decode cX8_withItems 24 = .ok (.bipush 16, 2) := by decide +kernel
theorem dX8_withItems_26 : decode cX8_withItems 26 = .ok (.aload_n 0, 1) := by decide +kernel
theorem dX8_withItems_27 : decode cX8_withItems 27 = .ok (.invokespecial 43, 3) := by decide +kernel
theorem dX8_withItems_30 : decode cX8_withItems 30 = .ok (.aastore, 1) := by decide +kernel
theorem dX8_withItems_31 : decode cX8_withItems 31 = .ok (.iinc 2 1, 3) := by decide +kernel
theorem dX8_withItems_34 : decode cX8_withItems 34 = .ok (.goto (-22), 3) := by decide +kernel
theorem dX8_withItems_37 : decode cX8_withItems 37 = .ok (.new 10, 3) := by decide +kernel
theorem dX8_withItems_40 : decode cX8_withItems 40 = .ok (.dup, 1) := by decide +kernel
theorem dX8_withItems_41 : decode cX8_withItems 41 = .ok (.bipush 84, 2) := by decide +kernel
theorem dX8_withItems_43 : decode cX8_withItems 43 = .ok (.aload_n 1, 1) := by decide +kernel
theorem dX8_withItems_44 : decode cX8_withItems 44 = .ok (.invokespecial 43, 3) := by decide +kernel
theorem dX8_withItems_47 : decode cX8_withItems 47 = .ok (.astore_n 2, 1) := by decide +kernel
theorem dX8_withItems_48 : decode cX8_withItems 48 = .ok (.aload_n 2, 1) := by decide +kernel
theorem dX8_withItems_49 : decode cX8_withItems 49 = .ok (.bipush 7, 2) := by decide +kernel
theorem dX8_withItems_51 : decode cX8_withItems 51 = .ok (.ldc 46, 2) := by decide +kernel
theorem dX8_withItems_53 : decode cX8_withItems 53 = .ok (.invokevirtual 48, 3) := by decide +kernel
theorem dX8_withItems_56 : decode cX8_withItems 56 = .ok (.aload_n 2, 1) := by decide +kernel
theorem dX8_withItems_57 : decode cX8_withItems 57 = .ok (.areturn, 1) := by decide +kernel
set_option maxRecDepth 20000 in
theorem ggX8_itemAt_X10_thingAt : GoodIn wsX8_itemAt wsX10_thingAt := goodIn_r _ [5] (by decide +kernel) (by decide +kernel)
set_option maxRecDepth 20000 in
theorem gX8_itemAt_X10_thingAt_n52 : GoodIn wsX8_itemAt (wsX10_thingAt) := ggX8_itemAt_X10_thingAt
theorem dX8_itemAt_0 : decode cX8_itemAt 0 = .ok (.iload_n 1, 1) := by decide +kernel
theorem dX8_itemAt_1 : decode cX8_itemAt 1 = .ok (.aload_n 0, 1) := by decide +kernel
theorem dX8_itemAt_2 : decode cX8_itemAt 2 = .ok (.getfield 27, 3) := by decide +kernel
theorem dX8_itemAt_5 : decode cX8_itemAt 5 = .ok (.if_icmp .ge 14, 3) := by decide +kernel
theorem dX8_itemAt_8 : decode cX8_itemAt 8 = .ok (.aload_n 0, 1) := by decide +kernel
theorem dX8_itemAt_9 : decode cX8_itemAt 9 = .ok (.getfield 39, 3) := by decide +kernel
theorem dX8_itemAt_12 : decode cX8_itemAt 12 = .ok (.iload_n 1, 1) := by decide +kernel
theorem dX8_itemAt_13 : decode cX8_itemAt 13 = .ok (.invokestatic 52, 3) := by decide +kernel
theorem dX8_itemAt_16 : decode cX8_itemAt 16 = .ok (.goto 4, 3) := by decide +kernel
theorem dX8_itemAt_19 : decode cX8_itemAt 19 = .ok (.aconst_null, 1) := by decide +kernel
theorem dX8_itemAt_20 : decode cX8_itemAt 20 = .ok (.areturn, 1) := by decide +kernel
set_option maxRecDepth 20000 in
theorem ggX8_nextItem_X10_thingAt : GoodIn wsX8_nextItem wsX10_thingAt := goodIn_r _ [5] (by decide +kernel) (by decide +kernel)
set_option maxRecDepth 20000 in
theorem gX8_nextItem_X10_thingAt_n52 : GoodIn wsX8_nextItem (wsX10_thingAt) := ggX8_nextItem_X10_thingAt
theorem dX8_nextItem_0 : decode cX8_nextItem 0 = .ok (.aload_n 0, 1) := by decide +kernel
theorem dX8_nextItem_1 : decode cX8_nextItem 1 = .ok (.getfield 39, 3) := by decide +kernel
theorem dX8_nextItem_4 : decode cX8_nextItem 4 = .ok (.aload_n 0, 1) := by decide +kernel
theorem dX8_nextItem_5 : decode cX8_nextItem 5 = .ok (.getfield 27, 3) := by decide +kernel
theorem dX8_nextItem_8 : decode cX8_nextItem 8 = .ok (.invokestatic 52, 3) := by decide +kernel
theorem dX8_nextItem_11 : decode cX8_nextItem 11 = .ok (.astore_n 1, 1) := by decide +kernel
theorem dX8_nextItem_12 : decode cX8_nextItem 12 = .ok (.aload_n 1, 1) := by decide +kernel
theorem dX8_nextItem_13 : decode cX8_nextItem 13 = .ok (.ifnull 13, 3) := by decide +kernel
theorem dX8_nextItem_16 : decode cX8_nextItem 16 = .ok (.aload_n 0, 1) := by decide +kernel
theorem dX8_nextItem_17 : decode cX8_nextItem 17 = .ok (.dup, 1) := by decide +kernel
theorem dX8_nextItem_18 : decode cX8_nextItem 18 = .ok (.getfield 27, 3) := by decide +kernel
theorem dX8_nextItem_21 : decode cX8_nextItem 21 = .ok (.iconst 1, 1) := by decide +kernel
theorem dX8_nextItem_22 : decode cX8_nextItem 22 = .ok (.iadd, 1) := by decide +kernel
theorem dX8_nextItem_23 : decode cX8_nextItem 23 = .ok (.putfield 27, 3) := by decide +kernel
theorem dX8_nextItem_26 : decode cX8_nextItem 26 = .ok (.aload_n 1, 1) := by decide +kernel
theorem dX8_nextItem_27 : decode cX8_nextItem 27 = .ok (.areturn, 1) := by decide +kernel
set_option maxRecDepth 20000 in
theorem ggX8_appendItem_X8_nextItem : GoodIn wsX8_appendItem wsX8_nextItem := goodIn_r _ [8, 9, 1, 10, 11, 12, 48, 49, 50, 51, 52, 53, 54] (by decide +kernel) (by decide +kernel)
set_option maxRecDepth 20000 in
theorem gX8_appendItem_X8_nextItem : GoodIn wsX8_appendItem (wsV RX8 56 RX8 yX8_nextItem wsX8_nextItem) := goodIn_app (goodIn_of _ (by decide +kernel)) ggX8_appendItem_X8_nextItem
set_option maxRecDepth 20000 in
theorem ggX8_appendItem_X8_copyPlain : GoodIn wsX8_appendItem wsX8_copyPlain := goodIn_r _ [16, 17, 18, 19, 20, 2, 21, 22, 23, 7, 24, 1, 3, 25, 26, 27, 28, 29, 30, 31, 32, 33, 34, 35, 48, 49, 50, 51, 52, 53, 54, 55, 56] (by decide +kernel) (by decide +kernel)
set_option maxRecDepth 20000 in
theorem gX8_appendItem_X8_copyPlain : GoodIn wsX8_appendItem (wsV RX8 60 RX8 yX8_copyPlain wsX8_copyPlain) := goodIn_app (goodIn_of _ (by decide +kernel)) ggX8_appendItem_X8_copyPlain
set_option maxRecDepth 20000 in
theorem ggX8_appendItem_X7_append : GoodIn wsX8_appendItem wsX7_append := goodIn_r _ [39, 34, 35, 55, 56] (by decide +kernel) (by decide +kernel)
set_option maxRecDepth 20000 in
theorem gX8_appendItem_X7_append : GoodIn wsX8_appendItem (wsV RX8 64 RX7 yX7_append wsX7_append) := goodIn_app (goodIn_of _ (by decide +kernel)) ggX8_appendItem_X7_append
set_option maxRecDepth 20000 in
theorem ggX8_appendItem_X8_isUndefinedOrNull : GoodIn wsX8_appendItem wsX8_isUndefinedOrNull := goodIn_r _ [43, 17, 48, 49, 50, 51, 52, 53, 54] (by decide +kernel) (by decide +kernel)
set_option maxRecDepth 20000 in
theorem gX8_appendItem_X8_isUndefinedOrNull : GoodIn wsX8_appendItem (wsV RX8 71 RX8 yX8_isUndefinedOrNull wsX8_isUndefinedOrNull) := goodIn_app (goodIn_of _ (by decide +kernel)) ggX8_appendItem_X8_isUndefinedOrNull
set_option maxRecDepth 20000 in
theorem ggX8_appendItem_X7_at : GoodIn wsX8_appendItem wsX7_at := goodIn_r _ [47, 34, 35, 55, 56] (by decide +kernel) (by decide +kernel)
set_option maxRecDepth 20000 in
theorem gX8_appendItem_X7_at : GoodIn wsX8_appendItem (wsV RX8 75 RX7 yX7_at wsX7_at) := goodIn_app (goodIn_of _ (by decide +kernel)) ggX8_appendItem_X7_at
theorem dX8_appendItem_0 : decode cX8_appendItem 0 = .ok (.aload_n 0, 1) := by decide +kernel
theorem dX8_appendItem_1 : decode cX8_appendItem 1 = .ok (.invokevirtual 56, 3) := by decide +kernel
theorem dX8_appendItem_4 : decode cX8_appendItem 4 = .ok (.astore_n 2, 1) := by decide +kernel
theorem dX8_appendItem_5 : decode cX8_appendItem 5 = .ok (.aload_n 2, 1) := by decide +kernel
theorem dX8_appendItem_6 : decode cX8_appendItem 6 = .ok (.ifnonnull 4, 3) := by decide +kernel
theorem dX8_appendItem_9 : decode cX8_appendItem 9 = .ok (.return_, 1) := by decide +kernel
theorem dX8_appendItem_10 : decode cX8_appendItem 10 = .ok (.aload_n 2, 1) := by decide +kernel
theorem dX8_appendItem_11 : decode cX8_appendItem 11 = .ok (.aload_n 1, 1) := by decide +kernel
theorem dX8_appendItem_12 : decode cX8_appendItem 12 = .ok (.invokevirtual 60, 3) := by decide +kernel
theorem dX8_appendItem_15 : decode cX8_appendItem 15 = .ok (.aload_n 0, 1) := by decide +kernel
theorem dX8_appendItem_16 : decode cX8_appendItem 16 = .ok (.getfield 27, 3) := by decide +kernel
theorem dX8_appendItem_19 : decode cX8_appendItem 19 = .ok (.iconst 1, 1) := by decide +kernel
theorem dX8_appendItem_20 : decode cX8_appendItem 20 = .ok (.if_icmp .le 12, 3) := by decide +kernel
theorem dX8_appendItem_23 : decode cX8_appendItem 23 = .ok (.aload_n 0, 1) := by decide +kernel
theorem dX8_appendItem_24 : decode cX8_appendItem 24 = .ok (.getfield 35, 3) := by decide +kernel
theorem dX8_appendItem_27 : decode cX8_appendItem 27 = .ok (.bipush 44, 2) := by decide +kernel
theorem dX8_appendItem_29 : decode cX8_appendItem 29 = .ok (.invokevirtual 64, 3) := by decide +kernel
theorem dX8_appendItem_32 : decode cX8_appendItem 32 = .ok (.iconst 0, 1) := by decide +kernel
theorem dX8_appendItem_33 : decode cX8_appendItem 33 = .ok (.istore_n 3, 1) := by decide +kernel
theorem dX8_appendItem_34 : decode cX8_appendItem 34 = .ok (.iload_n 3, 1) := by decide +kernel
theorem dX8_appendItem_35 : decode cX8_appendItem 35 = .ok (.aload_n 1, 1) := by decide +kernel
theorem dX8_appendItem_36 : decode cX8_appendItem 36 = .ok (.getfield 35, 3) := by decide +kernel
theorem dX8_appendItem_39 : decode cX8_appendItem 39 = .ok (.getfield 68, 3) := by decide +kernel
theorem dX8_appendItem_42 : decode cX8_appendItem 42 = .ok (.if_icmp .ge 31, 3) := by decide +kernel
theorem dX8_appendItem_45 : decode cX8_appendItem 45 = .ok (.aload_n 1, 1) := by decide +kernel
theorem dX8_appendItem_46 : decode cX8_appendItem 46 = .ok (.invokevirtual 71, 3) := by decide +kernel
theorem dX8_appendItem_49 : decode cX8_appendItem 49 = .ok (.ifCond .ne 24, 3) := by decide +kernel
theorem dX8_appendItem_52 : decode cX8_appendItem 52 = .ok (.aload_n 0, 1) := by decide +kernel
theorem dX8_appendItem_53 : decode cX8_appendItem 53 = .ok (.getfield 35, 3) := by decide +kernel
theorem dX8_appendItem_56 : decode cX8_appendItem 56 = .ok (.aload_n 1, 1) := by decide +kernel
theorem dX8_appendItem_57 : decode cX8_appendItem 57 = .ok (.getfield 35, 3) := by decide +kernel
theorem dX8_appendItem_60 : decode cX8_appendItem 60 = .ok (.iload_n 3, 1) := by decide +kernel
theorem dX8_appendItem_61 : decode cX8_appendItem 61 = .ok (.invokevirtual 75, 3) := by decide +kernel
theorem dX8_appendItem_64 : decode cX8_appendItem 64 = .ok (.invokevirtual 64, 3) := by decide +kernel
theorem dX8_appendItem_67 : decode cX8_appendItem 67 = .ok (.iinc 3 1, 3) := by decide +kernel
theorem dX8_appendItem_70 : decode cX8_appendItem 70 = .ok (.goto (-36), 3) := by decide +kernel
theorem dX8_appendItem_73 : decode cX8_appendItem 73 = .ok (.return_, 1) := by decide +kernel
theorem dX8_become_0 : decode cX8_become 0 = .ok (.aload_n 0, 1) := by decide +kernel
theorem dX8_become_1 : decode cX8_become 1 = .ok (.iload_n 1, 1) := by decide +kernel
theorem dX8_become_2 : decode cX8_become 2 = .ok (.putfield 9, 3) := by decide +kernel
theorem dX8_become_5 : decode cX8_become 5 = .ok (.aload_n 0, 1) := by decide +kernel
theorem dX8_become_6 : decode cX8_become 6 = .ok (.lconst 0, 1) := by decide +kernel
theorem dX8_become_7 : decode cX8_become 7 = .ok (.putfield 15, 3) := by decide +kernel
theorem dX8_become_10 : decode cX8_become 10 = .ok (.aload_n 0, 1) := by decide +kernel
theorem dX8_become_11 : decode cX8_become 11 = .ok (.dconst 0, 1) := by decide +kernel
theorem dX8_become_12 : decode cX8_become 12 = .ok (.putfield 19, 3) := by decide +kernel
theorem dX8_become_15 : decode cX8_become 15 = .ok (.aload_n 0, 1) := by decide +kernel
theorem dX8_become_16 : decode cX8_become 16 = .ok (.iconst 0, 1) := by decide +kernel
theorem dX8_become_17 : decode cX8_become 17 = .ok (.putfield 23, 3) := by decide +kernel
theorem dX8_become_20 : decode cX8_become 20 = .ok (.aload_n 0, 1) := by decide +kernel
theorem dX8_become_21 : decode cX8_become 21 = .ok (.iconst 0, 1) := by decide +kernel
theorem dX8_become_22 : decode cX8_become 22 = .ok (.putfield 27, 3) := by decide +kernel
theorem dX8_become_25 : decode cX8_become 25 = .ok (.aload_n 0, 1) := by decide +kernel
theorem dX8_become_26 : decode cX8_become 26 = .ok (.getfield 35, 3) := by decide +kernel
theorem dX8_become_29 : decode cX8_become 29 = .ok (.iconst 0, 1) := by decide +kernel
theorem dX8_become_30 : decode cX8_become 30 = .ok (.putfield 68, 3) := by decide +kernel
theorem dX8_become_33 : decode cX8_become 33 = .ok (.return_, 1) := by decide +kernel
theorem dX8_knowNumber_0 : decode cX8_knowNumber 0 = .ok (.aload_n 0, 1) := by decide +kernel
theorem dX8_knowNumber_1 : decode cX8_knowNumber 1 = .ok (.iload_n 1, 1) := by decide +kernel
theorem dX8_knowNumber_2 : decode cX8_knowNumber 2 = .ok (.putfield 23, 3) := by decide +kernel
theorem dX8_knowNumber_5 : decode cX8_knowNumber 5 = .ok (.aload_n 0, 1) := by decide +kernel
theorem dX8_knowNumber_6 : decode cX8_knowNumber 6 = .ok (.dload_n 2, 1) := by decide +kernel
theorem dX8_knowNumber_7 : decode cX8_knowNumber 7 = .ok (.putfield 19, 3) := by decide +kernel
theorem dX8_knowNumber_10 : decode cX8_knowNumber 10 = .ok (.return_, 1) := by decide +kernel
set_option maxRecDepth 20000 in
theorem ggX8_becomeNamed_X8_become : GoodIn wsX8_becomeNamed wsX8_become := goodIn_r _ [6, 7, 8, 9, 10, 11, 1, 12, 73, 74, 75, 76, 77, 78, 79, 80, 81] (by decide +kernel) (by decide +kernel)
set_option maxRecDepth 20000 in
theorem gX8_becomeNamed_X8_become : GoodIn wsX8_becomeNamed (wsV RX8 79 RX8 yX8_become wsX8_become) := goodIn_app (goodIn_of _ (by decide +kernel)) ggX8_becomeNamed_X8_become
set_option maxRecDepth 20000 in
theorem ggX8_becomeNamed_X7_appendLetters : GoodIn wsX8_becomeNamed wsX7_appendLetters := goodIn_r _ [17, 18, 19, 20, 21, 22, 23, 24, 25, 26, 27, 28, 29, 30, 31, 32, 33, 34, 35, 36, 37, 38, 39, 40, 41, 42, 43, 44, 45, 46, 47, 48, 49, 50, 51, 52, 53, 54, 55, 56, 57, 58, 59, 60, 61, 62, 63, 64, 65, 66, 67, 68, 69, 16, 70, 71, 72, 80, 81] (by decide +kernel) (by decide +kernel)
set_option maxRecDepth 20000 in
theorem gX8_becomeNamed_X7_appendLetters : GoodIn wsX8_becomeNamed (wsV RX8 82 RX7 yX7_appendLetters wsX7_appendLetters) := goodIn_app (goodIn_of _ (by decide +kernel)) ggX8_becomeNamed_X7_appendLetters
theorem dX8_becomeNamed_0 : decode cX8_becomeNamed 0 = .ok (.aload_n 0, 1) := by decide +kernel
theorem dX8_becomeNamed_1 : decode cX8_becomeNamed 1 = .ok (.iload_n 1, 1) := by decide +kernel
theorem dX8_becomeNamed_2 : decode cX8_becomeNamed 2 = .ok (.invokevirtual 79, 3) := by decide +kernel
theorem dX8_becomeNamed_5 : decode cX8_becomeNamed 5 = .ok (.aload_n 0, 1) := by decide +kernel
theorem dX8_becomeNamed_6 : decode cX8_becomeNamed 6 = .ok (.getfield 35, 3) := by decide +kernel
theorem dX8_becomeNamed_9 : decode cX8_becomeNamed 9 = .ok (.aload_n 2, 1) := by decide +kernel
theorem dX8_becomeNamed_10 : decode cX8_becomeNamed 10 = .ok (.invokevirtual 82, 3) := by decide +kernel
theorem dX8_becomeNamed_13 : decode cX8_becomeNamed 13 = .ok (.return_, 1) := by decide +kernel
set_option maxRecDepth 20000 in
theorem ggX8_becomeWhole_X8_become : GoodIn wsX8_becomeWhole wsX8_become := goodIn_r _ [6, 7, 1, 8, 9, 10, 11, 12, 13, 14, 15, 16, 17, 18, 19, 20, 21] (by decide +kernel) (by decide +kernel)
set_option maxRecDepth 20000 in
theorem gX8_becomeWhole_X8_become : GoodIn wsX8_becomeWhole (wsV RX8 79 RX8 yX8_become wsX8_become) := goodIn_app (goodIn_of _ (by decide +kernel)) ggX8_becomeWhole_X8_become
theorem dX8_becomeWhole_0 : decode cX8_becomeWhole 0 = .ok (.aload_n 0, 1) := by decide +kernel
theorem dX8_becomeWhole_1 : decode cX8_becomeWhole 1 = .ok (.iload_n 1, 1) := by decide +kernel
theorem dX8_becomeWhole_2 : decode cX8_becomeWhole 2 = .ok (.invokevirtual 79, 3) := by decide +kernel
theorem dX8_becomeWhole_5 : decode cX8_becomeWhole 5 = .ok (.aload_n 0, 1) := by decide +kernel
theorem dX8_becomeWhole_6 : decode cX8_becomeWhole 6 = .ok (.lload_n 2, 1) := by decide +kernel
theorem dX8_becomeWhole_7 : decode cX8_becomeWhole 7 = .ok (.putfield 15, 3) := by decide +kernel
theorem dX8_becomeWhole_10 : decode cX8_becomeWhole 10 = .ok (.return_, 1) := by decide +kernel
set_option maxRecDepth 20000 in
theorem ggX8_becomeDouble_X8_become : GoodIn wsX8_becomeDouble wsX8_become := goodIn_r _ [5, 6, 7, 8, 9, 10, 11, 12, 17, 18, 19, 20, 21, 22, 23, 24, 25] (by decide +kernel) (by decide +kernel)
set_option maxRecDepth 20000 in
theorem gX8_becomeDouble_X8_become : GoodIn wsX8_becomeDouble (wsV RX8 79 RX8 yX8_become wsX8_become) := goodIn_app (goodIn_of _ (by decide +kernel)) ggX8_becomeDouble_X8_become
set_option maxRecDepth 20000 in
theorem ggX8_becomeDouble_X8_knowNumber : GoodIn wsX8_becomeDouble wsX8_knowNumber := goodIn_r _ [16, 9, 8, 17, 18, 19, 20, 21, 22, 23] (by decide +kernel) (by decide +kernel)
set_option maxRecDepth 20000 in
theorem gX8_becomeDouble_X8_knowNumber : GoodIn wsX8_becomeDouble (wsV RX8 86 RX8 yX8_knowNumber wsX8_knowNumber) := goodIn_app (goodIn_of _ (by decide +kernel)) ggX8_becomeDouble_X8_knowNumber
theorem dX8_becomeDouble_0 : decode cX8_becomeDouble 0 = .ok (.aload_n 0, 1) := by decide +kernel
theorem dX8_becomeDouble_1 : decode cX8_becomeDouble 1 = .ok (.iconst 4, 1) := by decide +kernel
theorem dX8_becomeDouble_2 : decode cX8_becomeDouble 2 = .ok (.invokevirtual 79, 3) := by decide +kernel
theorem dX8_becomeDouble_5 : decode cX8_becomeDouble 5 = .ok (.aload_n 0, 1) := by decide +kernel
theorem dX8_becomeDouble_6 : decode cX8_becomeDouble 6 = .ok (.iconst 1, 1) := by decide +kernel
theorem dX8_becomeDouble_7 : decode cX8_becomeDouble 7 = .ok (.dload_n 1, 1) := by decide +kernel
theorem dX8_becomeDouble_8 : decode cX8_becomeDouble 8 = .ok (.invokevirtual 86, 3) := by decide +kernel
theorem dX8_becomeDouble_11 : decode cX8_becomeDouble 11 = .ok (.return_, 1) := by decide +kernel
set_option maxRecDepth 20000 in
theorem ggX8_becomeText_X8_become : GoodIn wsX8_becomeText wsX8_become := goodIn_r _ [6, 7, 8, 9, 10, 11, 1, 12, 20, 21, 22, 23, 24, 25, 26, 27, 28] (by decide +kernel) (by decide +kernel)
set_option maxRecDepth 20000 in
theorem gX8_becomeText_X8_become : GoodIn wsX8_becomeText (wsV RX8 79 RX8 yX8_become wsX8_become) := goodIn_app (goodIn_of _ (by decide +kernel)) ggX8_becomeText_X8_become
set_option maxRecDepth 20000 in
theorem ggX8_becomeText_X7_copy : GoodIn wsX8_becomeText wsX7_copy := goodIn_r _ [17, 18, 19, 27, 28] (by decide +kernel) (by decide +kernel)
set_option maxRecDepth 20000 in
theorem gX8_becomeText_X7_copy : GoodIn wsX8_becomeText (wsV RX8 90 RX7 yX7_copy wsX7_copy) := goodIn_app (goodIn_of _ (by decide +kernel)) ggX8_becomeText_X7_copy
theorem dX8_becomeText_0 : decode cX8_becomeText 0 = .ok (.aload_n 0, 1) := by decide +kernel
theorem dX8_becomeText_1 : decode cX8_becomeText 1 = .ok (.iconst 5, 1) := by decide +kernel
theorem dX8_becomeText_2 : decode cX8_becomeText 2 = .ok (.invokevirtual 79, 3) := by decide +kernel
theorem dX8_becomeText_5 : decode cX8_becomeText 5 = .ok (.aload_n 0, 1) := by decide +kernel
theorem dX8_becomeText_6 : decode cX8_becomeText 6 = .ok (.getfield 35, 3) := by decide +kernel
theorem dX8_becomeText_9 : decode cX8_becomeText 9 = .ok (.aload_n 1, 1) := by decide +kernel
theorem dX8_becomeText_10 : decode cX8_becomeText 10 = .ok (.invokevirtual 90, 3) := by decide +kernel
theorem dX8_becomeText_13 : decode cX8_becomeText 13 = .ok (.return_, 1) := by decide +kernel
set_option maxRecDepth 20000 in
theorem ggX8_copyPlain_X8_become : GoodIn wsX8_copyPlain wsX8_become := goodIn_r _ [10, 1, 2, 4, 3, 11, 5, 12, 24, 25, 26, 27, 28, 29, 30, 31, 32] (by decide +kernel) (by decide +kernel)
set_option maxRecDepth 20000 in
theorem gX8_copyPlain_X8_become : GoodIn wsX8_copyPlain (wsV RX8 79 RX8 yX8_become wsX8_become) := goodIn_app (goodIn_of _ (by decide +kernel)) ggX8_copyPlain_X8_become
set_option maxRecDepth 20000 in
theorem ggX8_copyPlain_X8_knowNumber : GoodIn wsX8_copyPlain wsX8_knowNumber := goodIn_r _ [16, 3, 4, 24, 25, 26, 27, 28, 29, 30] (by decide +kernel) (by decide +kernel)
set_option maxRecDepth 20000 in
theorem gX8_copyPlain_X8_knowNumber : GoodIn wsX8_copyPlain (wsV RX8 86 RX8 yX8_knowNumber wsX8_knowNumber) := goodIn_app (goodIn_of _ (by decide +kernel)) ggX8_copyPlain_X8_knowNumber
set_option maxRecDepth 20000 in
theorem ggX8_copyPlain_X7_copy : GoodIn wsX8_copyPlain wsX7_copy := goodIn_r _ [21, 22, 23, 31, 32] (by decide +kernel) (by decide +kernel)
set_option maxRecDepth 20000 in
theorem gX8_copyPlain_X7_copy : GoodIn wsX8_copyPlain (wsV RX8 90 RX7 yX7_copy wsX7_copy) := goodIn_app (goodIn_of _ (by decide +kernel)) ggX8_copyPlain_X7_copy
theorem dX8_copyPlain_0 : decode cX8_copyPlain 0 = .ok (.aload_n 0, 1) := by decide +kernel
theorem dX8_copyPlain_1 : decode cX8_copyPlain 1 = .ok (.aload_n 1, 1) := by decide +kernel
theorem dX8_copyPlain_2 : decode cX8_copyPlain 2 = .ok (.getfield 9, 3) := by decide +kernel
theorem dX8_copyPlain_5 : decode cX8_copyPlain 5 = .ok (.invokevirtual 79, 3) := by decide +kernel
theorem dX8_copyPlain_8 : decode cX8_copyPlain 8 = .ok (.aload_n 0, 1) := by decide +kernel
theorem dX8_copyPlain_9 : decode cX8_copyPlain 9 = .ok (.aload_n 1, 1) := by decide +kernel
theorem dX8_copyPlain_10 : decode cX8_copyPlain 10 = .ok (.getfield 15, 3) := by decide +kernel
theorem dX8_copyPlain_13 : decode cX8_copyPlain 13 = .ok (.putfield 15, 3) := by decide +kernel
theorem dX8_copyPlain_16 : decode cX8_copyPlain 16 = .ok (.aload_n 0, 1) := by decide +kernel
theorem dX8_copyPlain_17 : decode cX8_copyPlain 17 = .ok (.aload_n 1, 1) := by decide +kernel
theorem dX8_copyPlain_18 : decode cX8_copyPlain 18 = .ok (.getfield 23, 3) := by decide +kernel
theorem dX8_copyPlain_21 : decode cX8_copyPlain 21 = .ok (.aload_n 1, 1) := by decide +kernel
theorem dX8_copyPlain_22 : decode cX8_copyPlain 22 = .ok (.getfield 19, 3) := by decide +kernel
theorem dX8_copyPlain_25 : decode cX8_copyPlain 25 = .ok (.invokevirtual 86, 3) := by decide +kernel
theorem dX8_copyPlain_28 : decode cX8_copyPlain 28 = .ok (.aload_n 0, 1) := by decide +kernel
theorem dX8_copyPlain_29 : decode cX8_copyPlain 29 = .ok (.getfield 35, 3) := by decide +kernel
theorem dX8_copyPlain_32 : decode cX8_copyPlain 32 = .ok (.aload_n 1, 1) := by decide +kernel
theorem dX8_copyPlain_33 : decode cX8_copyPlain 33 = .ok (.getfield 35, 3) := by decide +kernel
theorem dX8_copyPlain_36 : decode cX8_copyPlain 36 = .ok (.invokevirtual 90, 3) := by decide +kernel
theorem dX8_copyPlain_39 : decode cX8_copyPlain 39 = .ok (.return_, 1) := by decide +kernel
set_option maxRecDepth 20000 in
theorem ggX8_copyAll_X8_copyPlain : GoodIn wsX8_copyAll wsX8_copyPlain := goodIn_r _ [6, 7, 8, 9, 10, 11, 12, 13, 14, 5, 15, 1, 16, 17, 18, 19, 20, 21, 22, 23, 24, 25, 26, 27, 40, 41, 42, 43, 44, 45, 46, 47, 48] (by decide +kernel) (by decide +kernel)
set_option maxRecDepth 20000 in
theorem gX8_copyAll_X8_copyPlain : GoodIn wsX8_copyAll (wsV RX8 60 RX8 yX8_copyPlain wsX8_copyPlain) := goodIn_app (goodIn_of _ (by decide +kernel)) ggX8_copyAll_X8_copyPlain
set_option maxRecDepth 20000 in
theorem ggX8_copyAll_X8_itemAt : GoodIn wsX8_copyAll wsX8_itemAt := goodIn_r _ [31, 1, 32, 33, 34, 35, 40, 41, 42, 43, 44, 45, 46] (by decide +kernel) (by decide +kernel)
set_option maxRecDepth 20000 in
theorem gX8_copyAll_X8_itemAt : GoodIn wsX8_copyAll (wsV RX8 94 RX8 yX8_itemAt wsX8_itemAt) := goodIn_app (goodIn_of _ (by decide +kernel)) ggX8_copyAll_X8_itemAt
set_option maxRecDepth 20000 in
theorem ggX8_copyAll_X8_nextItem : GoodIn wsX8_copyAll wsX8_nextItem := goodIn_r _ [39, 32, 1, 33, 34, 35, 40, 41, 42, 43, 44, 45, 46] (by decide +kernel) (by decide +kernel)
set_option maxRecDepth 20000 in
theorem gX8_copyAll_X8_nextItem : GoodIn wsX8_copyAll (wsV RX8 56 RX8 yX8_nextItem wsX8_nextItem) := goodIn_app (goodIn_of _ (by decide +kernel)) ggX8_copyAll_X8_nextItem
theorem dX8_copyAll_0 : decode cX8_copyAll 0 = .ok (.aload_n 0, 1) := by decide +kernel
theorem dX8_copyAll_1 : decode cX8_copyAll 1 = .ok (.aload_n 1, 1) := by decide +kernel
theorem dX8_copyAll_2 : decode cX8_copyAll 2 = .ok (.invokevirtual 60, 3) := by decide +kernel
theorem dX8_copyAll_5 : decode cX8_copyAll 5 = .ok (.iconst 0, 1) := by decide +kernel
theorem dX8_copyAll_6 : decode cX8_copyAll 6 = .ok (.istore_n 2, 1) := by decide +kernel
theorem dX8_copyAll_7 : decode cX8_copyAll 7 = .ok (.iload_n 2, 1) := by decide +kernel
theorem dX8_copyAll_8 : decode cX8_copyAll 8 = .ok (.aload_n 1, 1) := by decide +kernel
theorem dX8_copyAll_9 : decode cX8_copyAll 9 = .ok (.getfield 27, 3) := by decide +kernel
theorem dX8_copyAll_12 : decode cX8_copyAll 12 = .ok (.if_icmp .ge 36, 3) := by decide +kernel
theorem dX8_copyAll_15 : decode cX8_copyAll 15 = .ok (.aload_n 1, 1) := by decide +kernel
theorem dX8_copyAll_16 : decode cX8_copyAll 16 = .ok (.iload_n 2, 1) := by decide +kernel
theorem dX8_copyAll_17 : decode cX8_copyAll 17 = .ok (.invokevirtual 94, 3) := by decide +kernel
theorem dX8_copyAll_20 : decode cX8_copyAll 20 = .ok (.astore_n 3, 1) := by decide +kernel
theorem dX8_copyAll_21 : decode cX8_copyAll 21 = .ok (.aload_n 0, 1) := by decide +kernel
theorem dX8_copyAll_22 : decode cX8_copyAll 22 = .ok (.invokevirtual 56, 3) := by decide +kernel
theorem dX8_copyAll_25 : decode cX8_copyAll 25 = .ok (.astore 4, 2) := by decide +kernel
theorem dX8_copyAll_27 : decode cX8_copyAll 27 = .ok (.aload_n 3, 1) := by decide +kernel
theorem dX8_copyAll_28 : decode cX8_copyAll 28 = .ok (.ifnull 14, 3) := by decide +kernel
theorem dX8_copyAll_31 : decode cX8_copyAll 31 = .ok (.aload 4, 2) := by decide +kernel
theorem dX8_copyAll_33 : decode cX8_copyAll 33 = .ok (.ifnull 9, 3) := by decide +kernel
theorem dX8_copyAll_36 : decode cX8_copyAll 36 = .ok (.aload 4, 2) := by decide +kernel
theorem dX8_copyAll_38 : decode cX8_copyAll 38 = .ok (.aload_n 3, 1) := by decide +kernel
theorem dX8_copyAll_39 : decode cX8_copyAll 39 = .ok (.invokevirtual 60, 3) := by decide +kernel
theorem dX8_copyAll_42 : decode cX8_copyAll 42 = .ok (.iinc 2 1, 3) := by decide +kernel
theorem dX8_copyAll_45 : decode cX8_copyAll 45 = .ok (.goto (-38), 3) := by decide +kernel
theorem dX8_copyAll_48 : decode cX8_copyAll 48 = .ok (.return_, 1) := by decide +kernel
theorem dX8_isUndefinedOrNull_0 : decode cX8_isUndefinedOrNull 0 = .ok (.aload_n 0, 1) := by decide +kernel
theorem dX8_isUndefinedOrNull_1 : decode cX8_isUndefinedOrNull 1 = .ok (.getfield 9, 3) := by decide +kernel
theorem dX8_isUndefinedOrNull_4 : decode cX8_isUndefinedOrNull 4 = .ok (.bipush 7, 2) := by decide +kernel
theorem dX8_isUndefinedOrNull_6 : decode cX8_isUndefinedOrNull 6 = .ok (.if_icmp .eq 12, 3) := by decide +kernel
theorem dX8_isUndefinedOrNull_9 : decode cX8_isUndefinedOrNull 9 = .ok (.aload_n 0, 1) := by decide +kernel
theorem dX8_isUndefinedOrNull_10 : decode cX8_isUndefinedOrNull 10 = .ok (.getfield 9, 3) := by decide +kernel
theorem dX8_isUndefinedOrNull_13 : decode cX8_isUndefinedOrNull 13 = .ok (.bipush 8, 2) := by decide +kernel
theorem dX8_isUndefinedOrNull_15 : decode cX8_isUndefinedOrNull 15 = .ok (.if_icmp .ne 7, 3) := by decide +kernel
theorem dX8_isUndefinedOrNull_18 : decode cX8_isUndefinedOrNull 18 = .ok (.iconst 1, 1) := by decide +kernel
theorem dX8_isUndefinedOrNull_19 : decode cX8_isUndefinedOrNull 19 = .ok (.goto 4, 3) := by decide +kernel
theorem dX8_isUndefinedOrNull_22 : decode cX8_isUndefinedOrNull 22 = .ok (.iconst 0, 1) := by decide +kernel
theorem dX8_isUndefinedOrNull_23 : decode cX8_isUndefinedOrNull 23 = .ok (.ireturn, 1) := by decide +kernel
theorem dX8_isTrue_0 : decode cX8_isTrue 0 = .ok (.aload_n 0, 1) := by decide +kernel
theorem dX8_isTrue_1 : decode cX8_isTrue 1 = .ok (.getfield 9, 3) := by decide +kernel
theorem dX8_isTrue_4 : decode cX8_isTrue 4 = .ok (.iconst 2, 1) := by decide +kernel
theorem dX8_isTrue_5 : decode cX8_isTrue 5 = .ok (.if_icmp .eq 11, 3) := by decide +kernel
theorem dX8_isTrue_8 : decode cX8_isTrue 8 = .ok (.aload_n 0, 1) := by decide +kernel
theorem dX8_isTrue_9 : decode cX8_isTrue 9 = .ok (.getfield 9, 3) := by decide +kernel
theorem dX8_isTrue_12 : decode cX8_isTrue 12 = .ok (.iconst 4, 1) := by decide +kernel
theorem dX8_isTrue_13 : decode cX8_isTrue 13 = .ok (.if_icmp .ne 18, 3) := by decide +kernel
theorem dX8_isTrue_16 : decode cX8_isTrue 16 = .ok (.aload_n 0, 1) := by decide +kernel
theorem dX8_isTrue_17 : decode cX8_isTrue 17 = .ok (.getfield 19, 3) := by decide +kernel
theorem dX8_isTrue_20 : decode cX8_isTrue 20 = .ok (.dconst 0, 1) := by decide +kernel
theorem dX8_isTrue_21 : decode cX8_isTrue 21 = .ok (.dcmp .l, 1) := by decide +kernel
theorem dX8_isTrue_22 : decode cX8_isTrue 22 = .ok (.ifCond .eq 7, 3) := by decide +kernel
theorem dX8_isTrue_25 : decode cX8_isTrue 25 = .ok (.iconst 1, 1) := by decide +kernel
theorem dX8_isTrue_26 : decode cX8_isTrue 26 = .ok (.goto 4, 3) := by decide +kernel
theorem dX8_isTrue_29 : decode cX8_isTrue 29 = .ok (.iconst 0, 1) := by decide +kernel
theorem dX8_isTrue_30 : decode cX8_isTrue 30 = .ok (.ireturn, 1) := by decide +kernel
theorem dX8_isTrue_31 : decode cX8_isTrue 31 = .ok (.aload_n 0, 1) := by decide +kernel
theorem dX8_isTrue_32 : decode cX8_isTrue 32 = .ok (.getfield 9, 3) := by decide +kernel
theorem dX8_isTrue_35 : decode cX8_isTrue 35 = .ok (.bipush 6, 2) := by decide +kernel
theorem dX8_isTrue_37 : decode cX8_isTrue 37 = .ok (.if_icmp .eq 21, 3) := by decide +kernel
theorem dX8_isTrue_40 : decode cX8_isTrue 40 = .ok (.aload_n 0, 1) := by decide +kernel
theorem dX8_isTrue_41 : decode cX8_isTrue 41 = .ok (.getfield 9, 3) := by decide +kernel
theorem dX8_isTrue_44 : decode cX8_isTrue 44 = .ok (.iconst 5, 1) := by decide +kernel
theorem dX8_isTrue_45 : decode cX8_isTrue 45 = .ok (.if_icmp .ne 17, 3) := by decide +kernel
theorem dX8_isTrue_48 : decode cX8_isTrue 48 = .ok (.aload_n 0, 1) := by decide +kernel
theorem dX8_isTrue_49 : decode cX8_isTrue 49 = .ok (.getfield 35, 3) := by decide +kernel
theorem dX8_isTrue_52 : decode cX8_isTrue 52 = .ok (.getfield 68, 3) := by decide +kernel
theorem dX8_isTrue_55 : decode cX8_isTrue 55 = .ok (.ifCond .le 7, 3) := by decide +kernel
theorem dX8_isTrue_58 : decode cX8_isTrue 58 = .ok (.iconst 1, 1) := by decide +kernel
theorem dX8_isTrue_59 : decode cX8_isTrue 59 = .ok (.goto 4, 3) := by decide +kernel
theorem dX8_isTrue_62 : decode cX8_isTrue 62 = .ok (.iconst 0, 1) := by decide +kernel
theorem dX8_isTrue_63 : decode cX8_isTrue 63 = .ok (.ireturn, 1) := by decide +kernel
theorem dX9_init_0 : decode cX9_init 0 = .ok (.aload_n 0, 1) := by decide +kernel
theorem dX9_init_1 : decode cX9_init 1 = .ok (.invokespecial 3, 3) := by decide +kernel
theorem dX9_init_4 : decode cX9_init 4 = .ok (.aload_n 0, 1) := by decide +kernel
theorem dX9_init_5 : decode cX9_init 5 = .ok (.aload_n 1, 1) := by decide +kernel
theorem dX9_init_6 : decode cX9_init 6 = .ok (.putfield 9, 3) := by decide +kernel
theorem dX9_init_9 : decode cX9_init 9 = .ok (.aload_n 0, 1) := by decide +kernel
theorem dX9_init_10 : decode cX9_init 10 = .ok (.iload_n 2, 1) := by decide +kernel
theorem dX9_init_11 : decode cX9_init 11 = .ok (.putfield 15, 3) := by decide +kernel
theorem dX9_init_14 : decode cX9_init 14 = .ok (.aload_n 0, 1) := by decide +kernel
theorem dX9_init_15 : decode cX9_init 15 = .ok (.iload_n 3, 1) := by decide +kernel
theorem dX9_init_16 : decode cX9_init 16 = .ok (.putfield 19, 3) := by decide +kernel
theorem dX9_init_19 : decode cX9_init 19 = .ok (.aload_n 0, 1) := by decide +kernel
theorem dX9_init_20 : decode cX9_init 20 = .ok (.aload 4, 2) := by decide +kernel
theorem dX9_init_22 : decode cX9_init 22 = .ok (.putfield 23, 3) := by decide +kernel
theorem dX9_init_25 : decode cX9_init 25 = .ok (.aload_n 0, 1) := by decide +kernel
theorem dX9_init_26 : decode cX9_init 26 = .ok (.aload 5, 2) := by decide +kernel
theorem dX9_init_28 : decode cX9_init 28 = .ok (.putfield 27, 3) := by decide +kernel
theorem dX9_init_31 : decode cX9_init 31 = .ok (.return_, 1) := by decide +kernel
theorem dX9_isDistinctFrom_0 : decode cX9_isDistinctFrom 0 = .ok (.aload_n 0, 1) := by decide +kernel
theorem dX9_isDistinctFrom_1 : decode cX9_isDistinctFrom 1 = .ok (.getfield 9, 3) := by decide +kernel
theorem dX9_isDistinctFrom_4 : decode cX9_isDistinctFrom 4 = .ok (.getfield 31, 3) := by decide +kernel
theorem dX9_isDistinctFrom_7 : decode cX9_isDistinctFrom 7 = .ok (.ifCond .eq 27, 3) := by decide +kernel
theorem dX9_isDistinctFrom_10 : decode cX9_isDistinctFrom 10 = .ok (.aload_n 1, 1) := by decide +kernel
theorem dX9_isDistinctFrom_11 : decode cX9_isDistinctFrom 11 = .ok (.getfield 9, 3) := by decide +kernel
theorem dX9_isDistinctFrom_14 : decode cX9_isDistinctFrom 14 = .ok (.getfield 31, 3) := by decide +kernel
theorem dX9_isDistinctFrom_17 : decode cX9_isDistinctFrom 17 = .ok (.ifCond .eq 17, 3) := by decide +kernel
theorem dX9_isDistinctFrom_20 : decode cX9_isDistinctFrom 20 = .ok (.aload_n 0, 1) := by decide +kernel
theorem dX9_isDistinctFrom_21 : decode cX9_isDistinctFrom 21 = .ok (.getfield 19, 3) := by decide +kernel
theorem dX9_isDistinctFrom_24 : decode cX9_isDistinctFrom 24 = .ok (.ifCond .eq 12, 3) := by decide +kernel
theorem dX9_isDistinctFrom_27 : decode cX9_isDistinctFrom 27 = .ok (.aload_n 1, 1) := by decide +kernel
theorem dX9_isDistinctFrom_28 : decode cX9_isDistinctFrom 28 = .ok (.getfield 19, 3) := by decide +kernel
theorem dX9_isDistinctFrom_31 : decode cX9_isDistinctFrom 31 = .ok (.ifCond .eq 5, 3) := by decide +kernel
theorem dX9_isDistinctFrom_34 : decode cX9_isDistinctFrom 34 = .ok (.iconst 0, 1) := by decide +kernel
theorem dX9_isDistinctFrom_35 : decode cX9_isDistinctFrom 35 = .ok (.ireturn, 1) := by decide +kernel
theorem dX9_isDistinctFrom_36 : decode cX9_isDistinctFrom 36 = .ok (.aload_n 0, 1) := by decide +kernel
theorem dX9_isDistinctFrom_37 : decode cX9_isDistinctFrom 37 = .ok (.getfield 9, 3) := by decide +kernel
theorem dX9_isDistinctFrom_40 : decode cX9_isDistinctFrom 40 = .ok (.getfield 31, 3) := by decide +kernel
theorem dX9_isDistinctFrom_43 : decode cX9_isDistinctFrom 43 = .ok (.aload_n 1, 1) := by decide +kernel
theorem dX9_isDistinctFrom_44 : decode cX9_isDistinctFrom 44 = .ok (.getfield 9, 3) := by decide +kernel
theorem dX9_isDistinctFrom_47 : decode cX9_isDistinctFrom 47 = .ok (.getfield 31, 3) := by decide +kernel
theorem dX9_isDistinctFrom_50 : decode cX9_isDistinctFrom 50 = .ok (.if_icmp .eq 7, 3) := by decide +kernel
theorem dX9_isDistinctFrom_53 : decode cX9_isDistinctFrom 53 = .ok (.iconst 1, 1) := by decide +kernel
theorem dX9_isDistinctFrom_54 : decode cX9_isDistinctFrom 54 = .ok (.goto 4, 3) := by decide +kernel
theorem dX9_isDistinctFrom_57 : decode cX9_isDistinctFrom 57 = .ok (.iconst 0, 1) := by decide +kernel
theorem dX9_isDistinctFrom_58 : decode cX9_isDistinctFrom 58 = .ok (.ireturn, 1) := by decide +kernel
set_option maxRecDepth 20000 in
theorem ggX9_isSameAs_X9_isSameButElement : GoodIn wsX9_isSameAs wsX9_isSameButElement := goodIn_r _ [6, 7, 8, 9, 10, 11, 12, 5, 13, 14, 15, 16, 17, 18, 19] (by decide +kernel) (by decide +kernel)
set_option maxRecDepth 20000 in
theorem gX9_isSameAs_X9_isSameButElement : GoodIn wsX9_isSameAs (wsV RX9 36 RX9 yX9_isSameButElement wsX9_isSameButElement) := goodIn_app (goodIn_of _ (by decide +kernel)) ggX9_isSameAs_X9_isSameButElement
theorem dX9_isSameAs_0 : decode cX9_isSameAs 0 = .ok (.aload_n 0, 1) := by decide +kernel
theorem dX9_isSameAs_1 : decode cX9_isSameAs 1 = .ok (.getfield 27, 3) := by decide +kernel
theorem dX9_isSameAs_4 : decode cX9_isSameAs 4 = .ok (.ifnull 10, 3) := by decide +kernel
theorem dX9_isSameAs_7 : decode cX9_isSameAs 7 = .ok (.aload_n 1, 1) := by decide +kernel
theorem dX9_isSameAs_8 : decode cX9_isSameAs 8 = .ok (.getfield 27, 3) := by decide +kernel
theorem dX9_isSameAs_11 : decode cX9_isSameAs 11 = .ok (.ifnonnull 31, 3) := by decide +kernel
theorem dX9_isSameAs_14 : decode cX9_isSameAs 14 = .ok (.aload_n 0, 1) := by decide +kernel
theorem dX9_isSameAs_15 : decode cX9_isSameAs 15 = .ok (.getfield 27, 3) := by decide +kernel
theorem dX9_isSameAs_18 : decode cX9_isSameAs 18 = .ok (.ifnonnull 22, 3) := by decide +kernel
theorem dX9_isSameAs_21 : decode cX9_isSameAs 21 = .ok (.aload_n 1, 1) := by decide +kernel
theorem dX9_isSameAs_22 : decode cX9_isSameAs 22 = .ok (.getfield 27, 3) := by decide +kernel
theorem dX9_isSameAs_25 : decode cX9_isSameAs 25 = .ok (.ifnonnull 15, 3) := by decide +kernel
theorem dX9_isSameAs_28 : decode cX9_isSameAs 28 = .ok (.aload_n 0, 1) := by decide +kernel
theorem dX9_isSameAs_29 : decode cX9_isSameAs 29 = .ok (.aload_n 1, 1) := by decide +kernel
theorem dX9_isSameAs_30 : decode cX9_isSameAs 30 = .ok (.invokevirtual 36, 3) := by decide +kernel
theorem dX9_isSameAs_33 : decode cX9_isSameAs 33 = .ok (.ifCond .eq 7, 3) := by decide +kernel
theorem dX9_isSameAs_36 : decode cX9_isSameAs 36 = .ok (.iconst 1, 1) := by decide +kernel
theorem dX9_isSameAs_37 : decode cX9_isSameAs 37 = .ok (.goto 4, 3) := by decide +kernel
theorem dX9_isSameAs_40 : decode cX9_isSameAs 40 = .ok (.iconst 0, 1) := by decide +kernel
theorem dX9_isSameAs_41 : decode cX9_isSameAs 41 = .ok (.ireturn, 1) := by decide +kernel
theorem dX9_isSameAs_42 : decode cX9_isSameAs 42 = .ok (.aload_n 0, 1) := by decide +kernel
theorem dX9_isSameAs_43 : decode cX9_isSameAs 43 = .ok (.aload_n 1, 1) := by decide +kernel
theorem dX9_isSameAs_44 : decode cX9_isSameAs 44 = .ok (.invokevirtual 36, 3) := by decide +kernel
theorem dX9_isSameAs_47 : decode cX9_isSameAs 47 = .ok (.ifCond .eq 21, 3) := by decide +kernel
theorem dX9_isSameAs_50 : decode cX9_isSameAs 50 = .ok (.aload_n 0, 1) := by decide +kernel
theorem dX9_isSameAs_51 : decode cX9_isSameAs 51 = .ok (.getfield 27, 3) := by decide +kernel
theorem dX9_isSameAs_54 : decode cX9_isSameAs 54 = .ok (.aload_n 1, 1) := by decide +kernel
theorem dX9_isSameAs_55 : decode cX9_isSameAs 55 = .ok (.getfield 27, 3) := by decide +kernel
theorem dX9_isSameAs_58 : decode cX9_isSameAs 58 = .ok (.invokevirtual 36, 3) := by decide +kernel
theorem dX9_isSameAs_61 : decode cX9_isSameAs 61 = .ok (.ifCond .eq 7, 3) := by decide +kernel
theorem dX9_isSameAs_64 : decode cX9_isSameAs 64 = .ok (.iconst 1, 1) := by decide +kernel
theorem dX9_isSameAs_65 : decode cX9_isSameAs 65 = .ok (.goto 4, 3) := by decide +kernel
theorem dX9_isSameAs_68 : decode cX9_isSameAs 68 = .ok (.iconst 0, 1) := by decide +kernel
theorem dX9_isSameAs_69 : decode cX9_isSameAs 69 = .ok (.ireturn, 1) := by decide +kernel
set_option maxRecDepth 20000 in
theorem ggX9_isSameButElement_X9_hasSameWords : GoodIn wsX9_isSameButElement wsX9_hasSameWords := goodIn_r _ [8, 9, 10, 11, 12, 13, 14] (by decide +kernel) (by decide +kernel)
set_option maxRecDepth 20000 in
theorem gX9_isSameButElement_X9_hasSameWords : GoodIn wsX9_isSameButElement (wsV RX9 40 RX9 yX9_hasSameWords wsX9_hasSameWords) := goodIn_app (goodIn_of _ (by decide +kernel)) ggX9_isSameButElement_X9_hasSameWords
theorem dX9_isSameButElement_0 : decode cX9_isSameButElement 0 = .ok (.aload_n 0, 1) := by decide +kernel
theorem dX9_isSameButElement_1 : decode cX9_isSameButElement 1 = .ok (.getfield 9, 3) := by decide +kernel
theorem dX9_isSameButElement_4 : decode cX9_isSameButElement 4 = .ok (.aload_n 1, 1) := by decide +kernel
theorem dX9_isSameButElement_5 : decode cX9_isSameButElement 5 = .ok (.getfield 9, 3) := by decide +kernel
theorem dX9_isSameButElement_8 : decode cX9_isSameButElement 8 = .ok (.if_acmp .ne 37, 3) := by decide +kernel
theorem dX9_isSameButElement_11 : decode cX9_isSameButElement 11 = .ok (.aload_n 0, 1) := by decide +kernel
theorem dX9_isSameButElement_12 : decode cX9_isSameButElement 12 = .ok (.getfield 15, 3) := by decide +kernel
theorem dX9_isSameButElement_15 : decode cX9_isSameButElement 15 = .ok (.aload_n 1, 1) := by decide +kernel
theorem dX9_isSameButElement_16 : decode cX9_isSameButElement 16 = .ok (.getfield 15, 3) := by decide +kernel
theorem dX9_isSameButElement_19 : decode cX9_isSameButElement 19 = .ok (.if_icmp .ne 26, 3) := by decide +kernel
theorem dX9_isSameButElement_22 : decode cX9_isSameButElement 22 = .ok (.aload_n 0, 1) := by decide +kernel
theorem dX9_isSameButElement_23 : decode cX9_isSameButElement 23 = .ok (.getfield 19, 3) := by decide +kernel
theorem dX9_isSameButElement_26 : decode cX9_isSameButElement 26 = .ok (.aload_n 1, 1) := by decide +kernel
theorem dX9_isSameButElement_27 : decode cX9_isSameButElement 27 = .ok (.getfield 19, 3) := by decide +kernel
theorem dX9_isSameButElement_30 : decode cX9_isSameButElement 30 = .ok (.if_icmp .ne 15, 3) := by decide +kernel
theorem dX9_isSameButElement_33 : decode cX9_isSameButElement 33 = .ok (.aload_n 0, 1) := by decide +kernel
theorem dX9_isSameButElement_34 : decode cX9_isSameButElement 34 = .ok (.aload_n 1, 1) := by decide +kernel
theorem dX9_isSameButElement_35 : decode cX9_isSameButElement 35 = .ok (.invokevirtual 40, 3) := by decide +kernel
theorem dX9_isSameButElement_38 : decode cX9_isSameButElement 38 = .ok (.ifCond .eq 7, 3) := by decide +kernel
theorem dX9_isSameButElement_41 : decode cX9_isSameButElement 41 = .ok (.iconst 1, 1) := by decide +kernel
theorem dX9_isSameButElement_42 : decode cX9_isSameButElement 42 = .ok (.goto 4, 3) := by decide +kernel
theorem dX9_isSameButElement_45 : decode cX9_isSameButElement 45 = .ok (.iconst 0, 1) := by decide +kernel
theorem dX9_isSameButElement_46 : decode cX9_isSameButElement 46 = .ok (.ireturn, 1) := by decide +kernel
theorem dX9_hasSameWords_0 : decode cX9_hasSameWords 0 = .ok (.aload_n 0, 1) := by decide +kernel
theorem dX9_hasSameWords_1 : decode cX9_hasSameWords 1 = .ok (.getfield 23, 3) := by decide +kernel
theorem dX9_hasSameWords_4 : decode cX9_hasSameWords 4 = .ok (.ifnull 10, 3) := by decide +kernel
theorem dX9_hasSameWords_7 : decode cX9_hasSameWords 7 = .ok (.aload_n 1, 1) := by decide +kernel
theorem dX9_hasSameWords_8 : decode cX9_hasSameWords 8 = .ok (.getfield 23, 3) := by decide +kernel
theorem dX9_hasSameWords_11 : decode cX9_hasSameWords 11 = .ok (.ifnonnull 23, 3) := by decide +kernel
theorem dX9_hasSameWords_14 : decode cX9_hasSameWords 14 = .ok (.aload_n 0, 1) := by decide +kernel
theorem dX9_hasSameWords_15 : decode cX9_hasSameWords 15 = .ok (.getfield 23, 3) := by decide +kernel
theorem dX9_hasSameWords_18 : decode cX9_hasSameWords 18 = .ok (.ifnonnull 14, 3) := by decide +kernel
theorem dX9_hasSameWords_21 : decode cX9_hasSameWords 21 = .ok (.aload_n 1, 1) := by decide +kernel
theorem dX9_hasSameWords_22 : decode cX9_hasSameWords 22 = .ok (.getfield 23, 3) := by decide +kernel
theorem dX9_hasSameWords_25 : decode cX9_hasSameWords 25 = .ok (.ifnonnull 7, 3) := by decide +kernel
theorem dX9_hasSameWords_28 : decode cX9_hasSameWords 28 = .ok (.iconst 1, 1) := by decide +kernel
theorem dX9_hasSameWords_29 : decode cX9_hasSameWords 29 = .ok (.goto 4, 3) := by decide +kernel
theorem dX9_hasSameWords_32 : decode cX9_hasSameWords 32 = .ok (.iconst 0, 1) := by decide +kernel
theorem dX9_hasSameWords_33 : decode cX9_hasSameWords 33 = .ok (.ireturn, 1) := by decide +kernel
theorem dX9_hasSameWords_34 : decode cX9_hasSameWords 34 = .ok (.aload_n 0, 1) := by decide +kernel
theorem dX9_hasSameWords_35 : decode cX9_hasSameWords 35 = .ok (.getfield 23, 3) := by decide +kernel
theorem dX9_hasSameWords_38 : decode cX9_hasSameWords 38 = .ok (.arraylength, 1) := by decide +kernel
theorem dX9_hasSameWords_39 : decode cX9_hasSameWords 39 = .ok (.aload_n 1, 1) := by decide +kernel
theorem dX9_hasSameWords_40 : decode cX9_hasSameWords 40 = .ok (.getfield 23, 3) := by decide +kernel
theorem dX9_hasSameWords_43 : decode cX9_hasSameWords 43 = .ok (.arraylength, 1) := by decide +kernel
theorem dX9_hasSameWords_44 : decode cX9_hasSameWords 44 = .ok (.if_icmp .eq 5, 3) := by decide +kernel
theorem dX9_hasSameWords_47 : decode cX9_hasSameWords 47 = .ok (.iconst 0, 1) := by decide +kernel
theorem dX9_hasSameWords_48 : decode cX9_hasSameWords 48 = .ok (.ireturn, 1) := by decide +kernel
theorem dX9_hasSameWords_49 : decode cX9_hasSameWords 49 = .ok (.iconst 0, 1) := by decide +kernel
theorem dX9_hasSameWords_50 : decode cX9_hasSameWords 50 = .ok (.istore_n 2, 1) := by decide +kernel
theorem dX9_hasSameWords_51 : decode cX9_hasSameWords 51 = .ok (.iload_n 2, 1) := by decide +kernel
theorem dX9_hasSameWords_52 : decode cX9_hasSameWords 52 = .ok (.aload_n 0, 1) := by decide +kernel
theorem dX9_hasSameWords_53 : decode cX9_hasSameWords 53 = .ok (.getfield 23, 3) := by decide +kernel
theorem dX9_hasSameWords_56 : decode cX9_hasSameWords 56 = .ok (.arraylength, 1) := by decide +kernel
theorem dX9_hasSameWords_57 : decode cX9_hasSameWords 57 = .ok (.if_icmp .ge 36, 3) := by decide +kernel
theorem dX9_hasSameWords_60 : decode cX9_hasSameWords 60 = .ok (.iload_n 2, 1) := by decide +kernel
theorem dX9_hasSameWords_61 : decode cX9_hasSameWords 61 = .ok (.aload_n 1, 1) := by decide +kernel
theorem dX9_hasSameWords_62 : decode cX9_hasSameWords 62 = .ok (.getfield 23, 3) := by decide +kernel
theorem dX9_hasSameWords_65 : decode cX9_hasSameWords 65 = .ok (.arraylength, 1) := by decide +kernel
theorem dX9_hasSameWords_66 : decode cX9_hasSameWords 66 = .ok (.if_icmp .ge 27, 3) := by decide +kernel
theorem dX9_hasSameWords_69 : decode cX9_hasSameWords 69 = .ok (.aload_n 0, 1) := by decide +kernel
theorem dX9_hasSameWords_70 : decode cX9_hasSameWords 70 = .ok (.getfield 23, 3) := by decide +kernel
theorem dX9_hasSameWords_73 : decode cX9_hasSameWords 73 = .ok (.iload_n 2, 1) := by decide +kernel
theorem dX9_hasSameWords_74 : decode cX9_hasSameWords 74 = .ok (.laload, 1) := by decide +kernel
theorem dX9_hasSameWords_75 : decode cX9_hasSameWords 75 = .ok (.aload_n 1, 1) := by decide +kernel
theorem dX9_hasSameWords_76 : decode cX9_hasSameWords 76 = .ok (.getfield 23, 3) := by decide +kernel
theorem dX9_hasSameWords_79 : decode cX9_hasSameWords 79 = .ok (.iload_n 2, 1) := by decide +kernel
theorem dX9_hasSameWords_80 : decode cX9_hasSameWords 80 = .ok (.laload, 1) := by decide +kernel
theorem dX9_hasSameWords_81 : decode cX9_hasSameWords 81 = .ok (.lcmp, 1) := by decide +kernel
theorem dX9_hasSameWords_82 : decode cX9_hasSameWords 82 = .ok (.ifCond .eq 5, 3) := by decide +kernel
theorem dX9_hasSameWords_85 : decode cX9_hasSameWords 85 = .ok (.iconst 0, 1) := by decide +kernel
theorem dX9_hasSameWords_86 : decode cX9_hasSameWords 86 = .ok (.ireturn, 1) := by decide +kernel
theorem dX9_hasSameWords_87 : decode cX9_hasSameWords 87 = .ok (.iinc 2 1, 3) := by decide +kernel
theorem dX9_hasSameWords_90 : decode cX9_hasSameWords 90 = .ok (.goto (-39), 3) := by decide +kernel
theorem dX9_hasSameWords_93 : decode cX9_hasSameWords 93 = .ok (.iconst 1, 1) := by decide +kernel
theorem dX9_hasSameWords_94 : decode cX9_hasSameWords 94 = .ok (.ireturn, 1) := by decide +kernel
theorem dX9_hasWord_0 : decode cX9_hasWord 0 = .ok (.aload_n 0, 1) := by decide +kernel
theorem dX9_hasWord_1 : decode cX9_hasWord 1 = .ok (.getfield 23, 3) := by decide +kernel
theorem dX9_hasWord_4 : decode cX9_hasWord 4 = .ok (.ifnull 9, 3) := by decide +kernel
theorem dX9_hasWord_7 : decode cX9_hasWord 7 = .ok (.lload_n 1, 1) := by decide +kernel
theorem dX9_hasWord_8 : decode cX9_hasWord 8 = .ok (.lconst 0, 1) := by decide +kernel
theorem dX9_hasWord_9 : decode cX9_hasWord 9 = .ok (.lcmp, 1) := by decide +kernel
theorem dX9_hasWord_10 : decode cX9_hasWord 10 = .ok (.ifCond .ne 5, 3) := by decide +kernel
theorem dX9_hasWord_13 : decode cX9_hasWord 13 = .ok (.iconst 0, 1) := by decide +kernel
theorem dX9_hasWord_14 : decode cX9_hasWord 14 = .ok (.ireturn, 1) := by decide +kernel
theorem dX9_hasWord_15 : decode cX9_hasWord 15 = .ok (.aload_n 0, 1) := by decide +kernel
theorem dX9_hasWord_16 : decode cX9_hasWord 16 = .ok (.getfield 23, 3) := by decide +kernel
theorem dX9_hasWord_19 : decode cX9_hasWord 19 = .ok (.astore_n 3, 1) := by decide +kernel
theorem dX9_hasWord_20 : decode cX9_hasWord 20 = .ok (.aload_n 3, 1) := by decide +kernel
theorem dX9_hasWord_21 : decode cX9_hasWord 21 = .ok (.arraylength, 1) := by decide +kernel
theorem dX9_hasWord_22 : decode cX9_hasWord 22 = .ok (.istore 4, 2) := by decide +kernel
theorem dX9_hasWord_24 : decode cX9_hasWord 24 = .ok (.iconst 0, 1) := by decide +kernel
theorem dX9_hasWord_25 : decode cX9_hasWord 25 = .ok (.istore 5, 2) := by decide +kernel
theorem dX9_hasWord_27 : decode cX9_hasWord 27 = .ok (.iload 5, 2) := by decide +kernel
theorem dX9_hasWord_29 : decode cX9_hasWord 29 = .ok (.iload 4, 2) := by decide +kernel
theorem dX9_hasWord_31 : decode cX9_hasWord 31 = .ok (.if_icmp .ge 24, 3) := by decide +kernel
theorem dX9_hasWord_34 : decode cX9_hasWord 34 = .ok (.aload_n 3, 1) := by decide +kernel
theorem dX9_hasWord_35 : decode cX9_hasWord 35 = .ok (.iload 5, 2) := by decide +kernel
theorem dX9_hasWord_37 : decode cX9_hasWord 37 = .ok (.laload, 1) := by decide +kernel
theorem dX9_hasWord_38 : decode cX9_hasWord 38 = .ok (.lstore 6, 2) := by decide +kernel
theorem dX9_hasWord_40 : decode cX9_hasWord 40 = .ok (.lload 6, 2) := by decide +kernel
theorem dX9_hasWord_42 : decode cX9_hasWord 42 = .ok (.lload_n 1, 1) := by decide +kernel
theorem dX9_hasWord_43 : decode cX9_hasWord 43 = .ok (.lcmp, 1) := by decide +kernel
theorem dX9_hasWord_44 : decode cX9_hasWord 44 = .ok (.ifCond .ne 5, 3) := by decide +kernel
theorem dX9_hasWord_47 : decode cX9_hasWord 47 = .ok (.iconst 1, 1) := by decide +kernel
theorem dX9_hasWord_48 : decode cX9_hasWord 48 = .ok (.ireturn, 1) := by decide +kernel
theorem dX9_hasWord_49 : decode cX9_hasWord 49 = .ok (.iinc 5 1, 3) := by decide +kernel
theorem dX9_hasWord_52 : decode cX9_hasWord 52 = .ok (.goto (-25), 3) := by decide +kernel
theorem dX9_hasWord_55 : decode cX9_hasWord 55 = .ok (.iconst 0, 1) := by decide +kernel
theorem dX9_hasWord_56 : decode cX9_hasWord 56 = .ok (.ireturn, 1) := by decide +kernel
set_option maxRecDepth 20000 in
theorem ggX10_init_X7_init : GoodIn wsX10_init wsX7_init := goodIn_r _ [27, 28, 2, 3, 29, 30, 31, 32, 33, 34, 35, 149, 150] (by decide +kernel) (by decide +kernel)
set_option maxRecDepth 20000 in
theorem gX10_init_X7_init : GoodIn wsX10_init (wsX7_init) := ggX10_init_X7_init
set_option maxRecDepth 20000 in
theorem ggX10_init_X6_init : GoodIn wsX10_init wsX6_init := goodIn_r _ [37, 38, 2, 3, 34, 39, 40, 41, 42, 43, 44, 45, 46, 160, 161, 162, 163, 164, 165, 166] (by decide +kernel) (by decide +kernel)
set_option maxRecDepth 20000 in
theorem gX10_init_X6_init_n20 : GoodIn wsX10_init (wsX6_init) := ggX10_init_X6_init
set_option maxRecDepth 20000 in
theorem ggX10_init_X10_rowOfThings : GoodIn wsX10_init wsX10_rowOfThings := goodIn_r _ [50, 51, 52, 53, 54, 55, 56, 57, 58, 59, 60, 61, 2, 3, 62, 63, 64, 65, 66, 67, 5, 6, 68, 69, 70, 26, 27, 28, 29, 30, 31, 32, 33, 34, 35, 71, 72, 73, 74, 75, 76, 77, 78, 79, 80, 81, 82, 83, 84, 85, 86, 87, 88, 89, 90, 91, 92, 93, 94, 95, 96, 97, 98, 99, 100, 101, 102, 103, 104, 105, 106, 107, 108, 109, 110, 111, 112, 113, 114, 115, 116, 117, 118, 119, 120, 121, 122, 123, 124, 125, 126, 127, 128, 129, 130, 131, 132, 133, 134, 135, 136, 172, 173, 174, 175, 176, 177, 178, 149, 150] (by decide +kernel) (by decide +kernel)
set_option maxRecDepth 20000 in
theorem gX10_init_X10_rowOfThings : GoodIn wsX10_init (va_wsS RX10 31 yX10_rowOfThings wsX10_rowOfThings) := goodIn_app (goodIn_of _ (by decide +kernel)) ggX10_init_X10_rowOfThings
set_option maxRecDepth 20000 in
theorem ggX10_init_X4_init : GoodIn wsX10_init wsX4_init := goodIn_r _ [138, 139, 2, 3, 140, 167] (by decide +kernel) (by decide +kernel)
set_option maxRecDepth 20000 in
theorem gX10_init_X4_init_n41 : GoodIn wsX10_init (wsX4_init) := ggX10_init_X4_init
set_option maxRecDepth 20000 in
theorem ggX10_init_X5_init : GoodIn wsX10_init wsX5_init := goodIn_r _ [142, 143, 2, 3, 144, 145, 146, 147, 148, 168, 169, 170, 171] (by decide +kernel) (by decide +kernel)
set_option maxRecDepth 20000 in
theorem gX10_init_X5_init_n59 : GoodIn wsX10_init (wsX5_init) := ggX10_init_X5_init
theorem dX10_init_0 : decode cX10_init 0 = .ok (.aload_n 0, 1) := by decide +kernel
theorem dX10_init_1 : decode cX10_init 1 = .ok (.invokespecial 1, 3) := by decide +kernel
theorem dX10_init_4 : decode cX10_init 4 = .ok (.aload_n 0, 1) := by decide +kernel
theorem dX10_init_5 : decode cX10_init 5 = .ok (.new 7, 3) := by decide +kernel
theorem dX10_init_8 : decode cX10_init 8 = .ok (.dup, 1) := by decide +kernel
theorem dX10_init_9 : decode cX10_init 9 = .ok (.bipush 100, 2) := by decide +kernel
theorem dX10_init_11 : decode cX10_init 11 = .ok (.invokespecial 11, 3) := by decide +kernel
theorem dX10_init_14 : decode cX10_init 14 = .ok (.putfield 14, 3) := by decide +kernel
theorem dX10_init_17 : decode cX10_init 17 = .ok (.aload_n 0, 1) := by decide +kernel
theorem dX10_init_18 : decode cX10_init 18 = .ok (.new 18, 3) := by decide +kernel
theorem dX10_init_21 : decode cX10_init 21 = .ok (.dup, 1) := by decide +kernel
theorem dX10_init_22 : decode cX10_init 22 = .ok (.invokespecial 20, 3) := by decide +kernel
theorem dX10_init_25 : decode cX10_init 25 = .ok (.putfield 21, 3) := by decide +kernel
