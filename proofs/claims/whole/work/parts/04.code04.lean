theorem dX6_nameOf_5 : decode cX6_nameOf 5 = .ok (.arraylength, 1) := by decide +kernel
theorem dX6_nameOf_6 : decode cX6_nameOf 6 = .ok (.istore_n 3, 1) := by decide +kernel
theorem dX6_nameOf_7 : decode cX6_nameOf 7 = .ok (.iconst 0, 1) := by decide +kernel
theorem dX6_nameOf_8 : decode cX6_nameOf 8 = .ok (.istore 4, 2) := by decide +kernel
theorem dX6_nameOf_10 : decode cX6_nameOf 10 = .ok (.iload 4, 2) := by decide +kernel
theorem dX6_nameOf_12 : decode cX6_nameOf 12 = .ok (.iload_n 3, 1) := by decide +kernel
theorem dX6_nameOf_13 : decode cX6_nameOf 13 = .ok (.if_icmp .ge 36, 3) := by decide +kernel
theorem dX6_nameOf_16 : decode cX6_nameOf 16 = .ok (.aload_n 2, 1) := by decide +kernel
theorem dX6_nameOf_17 : decode cX6_nameOf 17 = .ok (.iload 4, 2) := by decide +kernel
theorem dX6_nameOf_19 : decode cX6_nameOf 19 = .ok (.aaload, 1) := by decide +kernel
theorem dX6_nameOf_20 : decode cX6_nameOf 20 = .ok (.astore 5, 2) := by decide +kernel
theorem dX6_nameOf_22 : decode cX6_nameOf 22 = .ok (.aload 5, 2) := by decide +kernel
theorem dX6_nameOf_24 : decode cX6_nameOf 24 = .ok (.ifnull 19, 3) := by decide +kernel
theorem dX6_nameOf_27 : decode cX6_nameOf 27 = .ok (.aload 5, 2) := by decide +kernel
theorem dX6_nameOf_29 : decode cX6_nameOf 29 = .ok (.getfield 148, 3) := by decide +kernel
theorem dX6_nameOf_32 : decode cX6_nameOf 32 = .ok (.invokestatic 101, 3) := by decide +kernel
theorem dX6_nameOf_35 : decode cX6_nameOf 35 = .ok (.lload_n 0, 1) := by decide +kernel
theorem dX6_nameOf_36 : decode cX6_nameOf 36 = .ok (.lcmp, 1) := by decide +kernel
theorem dX6_nameOf_37 : decode cX6_nameOf 37 = .ok (.ifCond .ne 6, 3) := by decide +kernel
theorem dX6_nameOf_40 : decode cX6_nameOf 40 = .ok (.aload 5, 2) := by decide +kernel
theorem dX6_nameOf_42 : decode cX6_nameOf 42 = .ok (.areturn, 1) := by decide +kernel
theorem dX6_nameOf_43 : decode cX6_nameOf 43 = .ok (.iinc 4 1, 3) := by decide +kernel
theorem dX6_nameOf_46 : decode cX6_nameOf 46 = .ok (.goto (-36), 3) := by decide +kernel
theorem dX6_nameOf_49 : decode cX6_nameOf 49 = .ok (.aconst_null, 1) := by decide +kernel
theorem dX6_nameOf_50 : decode cX6_nameOf 50 = .ok (.areturn, 1) := by decide +kernel
set_option maxRecDepth 20000 in
theorem ggX6_readWords_X6_need : GoodIn wsX6_readWords wsX6_need := goodIn_r _ [7, 2, 8, 9, 10, 6, 11, 12, 13, 14, 15, 16, 17, 18, 19, 20, 21, 22, 23, 24, 25, 26, 27, 28, 44, 45, 46, 47, 48, 49, 50] (by decide +kernel) (by decide +kernel)
set_option maxRecDepth 20000 in
theorem gX6_readWords_X6_need : GoodIn wsX6_readWords (wsV RX6 52 RX6 yX6_need wsX6_need) := goodIn_app (goodIn_of _ (by decide +kernel)) ggX6_readWords_X6_need
set_option maxRecDepth 20000 in
theorem ggX6_readWords_X6_readWord : GoodIn wsX6_readWords wsX6_readWord := goodIn_r _ [32, 2, 16, 23, 24, 25, 6, 26, 27, 28, 12, 13, 14, 15, 17, 33, 34, 35, 36, 37, 38, 39, 40, 44, 45, 46, 47, 48, 49, 50] (by decide +kernel) (by decide +kernel)
set_option maxRecDepth 20000 in
theorem gX6_readWords_X6_readWord : GoodIn wsX6_readWords (wsV RX6 95 RX6 yX6_readWord wsX6_readWord) := goodIn_app (goodIn_of _ (by decide +kernel)) ggX6_readWords_X6_readWord
set_option maxRecDepth 20000 in
theorem ggX6_readWords_X6_hasCode : GoodIn wsX6_readWords wsX6_hasCode := goodIn_r _ [43] (by decide +kernel) (by decide +kernel)
set_option maxRecDepth 20000 in
theorem gX6_readWords_X6_hasCode : GoodIn wsX6_readWords (va_wsS RX6 152 yX6_hasCode wsX6_hasCode) := goodIn_app (goodIn_of _ (by decide +kernel)) ggX6_readWords_X6_hasCode
set_option maxRecDepth 20000 in
theorem ggX6_readWords_X6_failAt : GoodIn wsX6_readWords wsX6_failAt := goodIn_r _ [21, 22, 23, 24, 25, 6, 26, 16, 27, 28, 44, 45, 46, 47, 48, 49, 50] (by decide +kernel) (by decide +kernel)
set_option maxRecDepth 20000 in
theorem gX6_readWords_X6_failAt : GoodIn wsX6_readWords (wsV RX6 43 RX6 yX6_failAt wsX6_failAt) := goodIn_app (goodIn_of _ (by decide +kernel)) ggX6_readWords_X6_failAt
set_option maxRecDepth 20000 in
theorem ggX6_readWords_X6_take : GoodIn wsX6_readWords wsX6_take := goodIn_r _ [11, 2, 12, 13, 14, 6, 15, 16, 17, 44, 45, 46, 47, 48, 49, 50] (by decide +kernel) (by decide +kernel)
set_option maxRecDepth 20000 in
theorem gX6_readWords_X6_take : GoodIn wsX6_readWords (wsV RX6 56 RX6 yX6_take wsX6_take) := goodIn_app (goodIn_of _ (by decide +kernel)) ggX6_readWords_X6_take
theorem dX6_readWords_0 : decode cX6_readWords 0 = .ok (.aload_n 0, 1) := by decide +kernel
theorem dX6_readWords_1 : decode cX6_readWords 1 = .ok (.bipush 40, 2) := by decide +kernel
theorem dX6_readWords_3 : decode cX6_readWords 3 = .ok (.invokevirtual 52, 3) := by decide +kernel
theorem dX6_readWords_6 : decode cX6_readWords 6 = .ok (.ifCond .ne 5, 3) := by decide +kernel
theorem dX6_readWords_9 : decode cX6_readWords 9 = .ok (.aconst_null, 1) := by decide +kernel
theorem dX6_readWords_10 : decode cX6_readWords 10 = .ok (.areturn, 1) := by decide +kernel
theorem dX6_readWords_11 : decode cX6_readWords 11 = .ok (.iconst 5, 1) := by decide +kernel
theorem dX6_readWords_12 : decode cX6_readWords 12 = .ok (.newarray .long, 2) := by decide +kernel
theorem dX6_readWords_14 : decode cX6_readWords 14 = .ok (.astore_n 1, 1) := by decide +kernel
theorem dX6_readWords_15 : decode cX6_readWords 15 = .ok (.iconst 0, 1) := by decide +kernel
theorem dX6_readWords_16 : decode cX6_readWords 16 = .ok (.istore_n 2, 1) := by decide +kernel
theorem dX6_readWords_17 : decode cX6_readWords 17 = .ok (.iload_n 2, 1) := by decide +kernel
theorem dX6_readWords_18 : decode cX6_readWords 18 = .ok (.aload_n 1, 1) := by decide +kernel
theorem dX6_readWords_19 : decode cX6_readWords 19 = .ok (.arraylength, 1) := by decide +kernel
theorem dX6_readWords_20 : decode cX6_readWords 20 = .ok (.if_icmp .ge 69, 3) := by decide +kernel
theorem dX6_readWords_23 : decode cX6_readWords 23 = .ok (.aload_n 0, 1) := by decide +kernel
theorem dX6_readWords_24 : decode cX6_readWords 24 = .ok (.getfield 26, 3) := by decide +kernel
theorem dX6_readWords_27 : decode cX6_readWords 27 = .ok (.istore_n 3, 1) := by decide +kernel
theorem dX6_readWords_28 : decode cX6_readWords 28 = .ok (.aload_n 0, 1) := by decide +kernel
theorem dX6_readWords_29 : decode cX6_readWords 29 = .ok (.invokevirtual 95, 3) := by decide +kernel
theorem dX6_readWords_32 : decode cX6_readWords 32 = .ok (.lstore 4, 2) := by decide +kernel
theorem dX6_readWords_34 : decode cX6_readWords 34 = .ok (.lload 4, 2) := by decide +kernel
theorem dX6_readWords_36 : decode cX6_readWords 36 = .ok (.lconst 0, 1) := by decide +kernel
theorem dX6_readWords_37 : decode cX6_readWords 37 = .ok (.lcmp, 1) := by decide +kernel
theorem dX6_readWords_38 : decode cX6_readWords 38 = .ok (.ifCond .eq 12, 3) := by decide +kernel
theorem dX6_readWords_41 : decode cX6_readWords 41 = .ok (.aload_n 1, 1) := by decide +kernel
theorem dX6_readWords_42 : decode cX6_readWords 42 = .ok (.lload 4, 2) := by decide +kernel
theorem dX6_readWords_44 : decode cX6_readWords 44 = .ok (.invokestatic 152, 3) := by decide +kernel
theorem dX6_readWords_47 : decode cX6_readWords 47 = .ok (.ifCond .eq 11, 3) := by decide +kernel
theorem dX6_readWords_50 : decode cX6_readWords 50 = .ok (.aload_n 0, 1) := by decide +kernel
theorem dX6_readWords_51 : decode cX6_readWords 51 = .ok (.iload_n 3, 1) := by decide +kernel
theorem dX6_readWords_52 : decode cX6_readWords 52 = .ok (.invokevirtual 43, 3) := by decide +kernel
theorem dX6_readWords_55 : decode cX6_readWords 55 = .ok (.pop, 1) := by decide +kernel
theorem dX6_readWords_56 : decode cX6_readWords 56 = .ok (.aconst_null, 1) := by decide +kernel
theorem dX6_readWords_57 : decode cX6_readWords 57 = .ok (.areturn, 1) := by decide +kernel
theorem dX6_readWords_58 : decode cX6_readWords 58 = .ok (.aload_n 1, 1) := by decide +kernel
theorem dX6_readWords_59 : decode cX6_readWords 59 = .ok (.iload_n 2, 1) := by decide +kernel
theorem dX6_readWords_60 : decode cX6_readWords 60 = .ok (.lload 4, 2) := by decide +kernel
theorem dX6_readWords_62 : decode cX6_readWords 62 = .ok (.lastore, 1) := by decide +kernel
theorem dX6_readWords_63 : decode cX6_readWords 63 = .ok (.iload_n 2, 1) := by decide +kernel
theorem dX6_readWords_64 : decode cX6_readWords 64 = .ok (.aload_n 1, 1) := by decide +kernel
theorem dX6_readWords_65 : decode cX6_readWords 65 = .ok (.arraylength, 1) := by decide +kernel
theorem dX6_readWords_66 : decode cX6_readWords 66 = .ok (.iconst 1, 1) := by decide +kernel
theorem dX6_readWords_67 : decode cX6_readWords 67 = .ok (.isub, 1) := by decide +kernel
theorem dX6_readWords_68 : decode cX6_readWords 68 = .ok (.if_icmp .eq 21, 3) := by decide +kernel
theorem dX6_readWords_71 : decode cX6_readWords 71 = .ok (.aload_n 0, 1) := by decide +kernel
theorem dX6_readWords_72 : decode cX6_readWords 72 = .ok (.bipush 44, 2) := by decide +kernel
theorem dX6_readWords_74 : decode cX6_readWords 74 = .ok (.invokevirtual 56, 3) := by decide +kernel
theorem dX6_readWords_77 : decode cX6_readWords 77 = .ok (.ifCond .ne 6, 3) := by decide +kernel
theorem dX6_readWords_80 : decode cX6_readWords 80 = .ok (.goto 9, 3) := by decide +kernel
theorem dX6_readWords_83 : decode cX6_readWords 83 = .ok (.iinc 2 1, 3) := by decide +kernel
theorem dX6_readWords_86 : decode cX6_readWords 86 = .ok (.goto (-69), 3) := by decide +kernel
theorem dX6_readWords_89 : decode cX6_readWords 89 = .ok (.aload_n 0, 1) := by decide +kernel
theorem dX6_readWords_90 : decode cX6_readWords 90 = .ok (.bipush 41, 2) := by decide +kernel
theorem dX6_readWords_92 : decode cX6_readWords 92 = .ok (.invokevirtual 52, 3) := by decide +kernel
theorem dX6_readWords_95 : decode cX6_readWords 95 = .ok (.ifCond .eq 7, 3) := by decide +kernel
theorem dX6_readWords_98 : decode cX6_readWords 98 = .ok (.aload_n 1, 1) := by decide +kernel
theorem dX6_readWords_99 : decode cX6_readWords 99 = .ok (.goto 4, 3) := by decide +kernel
theorem dX6_readWords_102 : decode cX6_readWords 102 = .ok (.aconst_null, 1) := by decide +kernel
theorem dX6_readWords_103 : decode cX6_readWords 103 = .ok (.areturn, 1) := by decide +kernel
theorem dX6_hasCode_0 : decode cX6_hasCode 0 = .ok (.aload_n 0, 1) := by decide +kernel
theorem dX6_hasCode_1 : decode cX6_hasCode 1 = .ok (.astore_n 3, 1) := by decide +kernel
theorem dX6_hasCode_2 : decode cX6_hasCode 2 = .ok (.aload_n 3, 1) := by decide +kernel
theorem dX6_hasCode_3 : decode cX6_hasCode 3 = .ok (.arraylength, 1) := by decide +kernel
theorem dX6_hasCode_4 : decode cX6_hasCode 4 = .ok (.istore 4, 2) := by decide +kernel
theorem dX6_hasCode_6 : decode cX6_hasCode 6 = .ok (.iconst 0, 1) := by decide +kernel
theorem dX6_hasCode_7 : decode cX6_hasCode 7 = .ok (.istore 5, 2) := by decide +kernel
theorem dX6_hasCode_9 : decode cX6_hasCode 9 = .ok (.iload 5, 2) := by decide +kernel
theorem dX6_hasCode_11 : decode cX6_hasCode 11 = .ok (.iload 4, 2) := by decide +kernel
theorem dX6_hasCode_13 : decode cX6_hasCode 13 = .ok (.if_icmp .ge 24, 3) := by decide +kernel
theorem dX6_hasCode_16 : decode cX6_hasCode 16 = .ok (.aload_n 3, 1) := by decide +kernel
theorem dX6_hasCode_17 : decode cX6_hasCode 17 = .ok (.iload 5, 2) := by decide +kernel
theorem dX6_hasCode_19 : decode cX6_hasCode 19 = .ok (.laload, 1) := by decide +kernel
theorem dX6_hasCode_20 : decode cX6_hasCode 20 = .ok (.lstore 6, 2) := by decide +kernel
theorem dX6_hasCode_22 : decode cX6_hasCode 22 = .ok (.lload 6, 2) := by decide +kernel
theorem dX6_hasCode_24 : decode cX6_hasCode 24 = .ok (.lload_n 1, 1) := by decide +kernel
theorem dX6_hasCode_25 : decode cX6_hasCode 25 = .ok (.lcmp, 1) := by decide +kernel
theorem dX6_hasCode_26 : decode cX6_hasCode 26 = .ok (.ifCond .ne 5, 3) := by decide +kernel
theorem dX6_hasCode_29 : decode cX6_hasCode 29 = .ok (.iconst 1, 1) := by decide +kernel
theorem dX6_hasCode_30 : decode cX6_hasCode 30 = .ok (.ireturn, 1) := by decide +kernel
theorem dX6_hasCode_31 : decode cX6_hasCode 31 = .ok (.iinc 5 1, 3) := by decide +kernel
theorem dX6_hasCode_34 : decode cX6_hasCode 34 = .ok (.goto (-25), 3) := by decide +kernel
theorem dX6_hasCode_37 : decode cX6_hasCode 37 = .ok (.iconst 0, 1) := by decide +kernel
theorem dX6_hasCode_38 : decode cX6_hasCode 38 = .ok (.ireturn, 1) := by decide +kernel
theorem dX7_init_0 : decode cX7_init 0 = .ok (.aload_n 0, 1) := by decide +kernel
theorem dX7_init_1 : decode cX7_init 1 = .ok (.invokespecial 3, 3) := by decide +kernel
theorem dX7_init_4 : decode cX7_init 4 = .ok (.aload_n 0, 1) := by decide +kernel
theorem dX7_init_5 : decode cX7_init 5 = .ok (.iconst 0, 1) := by decide +kernel
theorem dX7_init_6 : decode cX7_init 6 = .ok (.putfield 9, 3) := by decide +kernel
theorem dX7_init_9 : decode cX7_init 9 = .ok (.aload_n 0, 1) := by decide +kernel
theorem dX7_init_10 : decode cX7_init 10 = .ok (.iload_n 1, 1) := by decide +kernel
theorem dX7_init_11 : decode cX7_init 11 = .ok (.iconst 0, 1) := by decide +kernel
theorem dX7_init_12 : decode cX7_init 12 = .ok (.invokestatic 15, 3) := by decide +kernel
theorem dX7_init_15 : decode cX7_init 15 = .ok (.newarray .char, 2) := by decide +kernel
theorem dX7_init_17 : decode cX7_init 17 = .ok (.putfield 21, 3) := by decide +kernel
theorem dX7_init_20 : decode cX7_init 20 = .ok (.return_, 1) := by decide +kernel
theorem dX7_signsIn_0 : decode cX7_signsIn 0 = .ok (.iconst 0, 1) := by decide +kernel
theorem dX7_signsIn_1 : decode cX7_signsIn 1 = .ok (.istore_n 1, 1) := by decide +kernel
theorem dX7_signsIn_2 : decode cX7_signsIn 2 = .ok (.bipush 24, 2) := by decide +kernel
theorem dX7_signsIn_4 : decode cX7_signsIn 4 = .ok (.istore_n 2, 1) := by decide +kernel
theorem dX7_signsIn_5 : decode cX7_signsIn 5 = .ok (.iload_n 2, 1) := by decide +kernel
theorem dX7_signsIn_6 : decode cX7_signsIn 6 = .ok (.ifCond .lt 22, 3) := by decide +kernel
theorem dX7_signsIn_9 : decode cX7_signsIn 9 = .ok (.iload_n 0, 1) := by decide +kernel
theorem dX7_signsIn_10 : decode cX7_signsIn 10 = .ok (.iload_n 2, 1) := by decide +kernel
theorem dX7_signsIn_11 : decode cX7_signsIn 11 = .ok (.iushr, 1) := by decide +kernel
theorem dX7_signsIn_12 : decode cX7_signsIn 12 = .ok (.sipush 255, 3) := by decide +kernel
theorem dX7_signsIn_15 : decode cX7_signsIn 15 = .ok (.iand, 1) := by decide +kernel
theorem dX7_signsIn_16 : decode cX7_signsIn 16 = .ok (.ifCond .eq 6, 3) := by decide +kernel
theorem dX7_signsIn_19 : decode cX7_signsIn 19 = .ok (.iinc 1 1, 3) := by decide +kernel
theorem dX7_signsIn_22 : decode cX7_signsIn 22 = .ok (.iinc 2 (-8), 3) := by decide +kernel
theorem dX7_signsIn_25 : decode cX7_signsIn 25 = .ok (.goto (-20), 3) := by decide +kernel
theorem dX7_signsIn_28 : decode cX7_signsIn 28 = .ok (.iload_n 1, 1) := by decide +kernel
theorem dX7_signsIn_29 : decode cX7_signsIn 29 = .ok (.ireturn, 1) := by decide +kernel
theorem dX7_at_0 : decode cX7_at 0 = .ok (.iload_n 1, 1) := by decide +kernel
theorem dX7_at_1 : decode cX7_at 1 = .ok (.ifCond .lt 29, 3) := by decide +kernel
theorem dX7_at_4 : decode cX7_at 4 = .ok (.iload_n 1, 1) := by decide +kernel
theorem dX7_at_5 : decode cX7_at 5 = .ok (.aload_n 0, 1) := by decide +kernel
theorem dX7_at_6 : decode cX7_at 6 = .ok (.getfield 9, 3) := by decide +kernel
theorem dX7_at_9 : decode cX7_at 9 = .ok (.if_icmp .ge 21, 3) := by decide +kernel
theorem dX7_at_12 : decode cX7_at 12 = .ok (.iload_n 1, 1) := by decide +kernel
theorem dX7_at_13 : decode cX7_at 13 = .ok (.aload_n 0, 1) := by decide +kernel
theorem dX7_at_14 : decode cX7_at 14 = .ok (.getfield 21, 3) := by decide +kernel
theorem dX7_at_17 : decode cX7_at 17 = .ok (.arraylength, 1) := by decide +kernel
theorem dX7_at_18 : decode cX7_at 18 = .ok (.if_icmp .ge 12, 3) := by decide +kernel
theorem dX7_at_21 : decode cX7_at 21 = .ok (.aload_n 0, 1) := by decide +kernel
theorem dX7_at_22 : decode cX7_at 22 = .ok (.getfield 21, 3) := by decide +kernel
theorem dX7_at_25 : decode cX7_at 25 = .ok (.iload_n 1, 1) := by decide +kernel
theorem dX7_at_26 : decode cX7_at 26 = .ok (.caload, 1) := by decide +kernel
theorem dX7_at_27 : decode cX7_at 27 = .ok (.goto 4, 3) := by decide +kernel
theorem dX7_at_30 : decode cX7_at 30 = .ok (.iconst 0, 1) := by decide +kernel
theorem dX7_at_31 : decode cX7_at 31 = .ok (.ireturn, 1) := by decide +kernel
theorem dX7_append_0 : decode cX7_append 0 = .ok (.aload_n 0, 1) := by decide +kernel
theorem dX7_append_1 : decode cX7_append 1 = .ok (.getfield 9, 3) := by decide +kernel
theorem dX7_append_4 : decode cX7_append 4 = .ok (.ifCond .lt 35, 3) := by decide +kernel
theorem dX7_append_7 : decode cX7_append 7 = .ok (.aload_n 0, 1) := by decide +kernel
theorem dX7_append_8 : decode cX7_append 8 = .ok (.getfield 9, 3) := by decide +kernel
theorem dX7_append_11 : decode cX7_append 11 = .ok (.aload_n 0, 1) := by decide +kernel
theorem dX7_append_12 : decode cX7_append 12 = .ok (.getfield 21, 3) := by decide +kernel
theorem dX7_append_15 : decode cX7_append 15 = .ok (.arraylength, 1) := by decide +kernel
theorem dX7_append_16 : decode cX7_append 16 = .ok (.if_icmp .ge 23, 3) := by decide +kernel
theorem dX7_append_19 : decode cX7_append 19 = .ok (.aload_n 0, 1) := by decide +kernel
theorem dX7_append_20 : decode cX7_append 20 = .ok (.getfield 21, 3) := by decide +kernel
theorem dX7_append_23 : decode cX7_append 23 = .ok (.aload_n 0, 1) := by decide +kernel
theorem dX7_append_24 : decode cX7_append 24 = .ok (.getfield 9, 3) := by decide +kernel
theorem dX7_append_27 : decode cX7_append 27 = .ok (.iload_n 1, 1) := by decide +kernel
theorem dX7_append_28 : decode cX7_append 28 = .ok (.castore, 1) := by decide +kernel
theorem dX7_append_29 : decode cX7_append 29 = .ok (.aload_n 0, 1) := by decide +kernel
theorem dX7_append_30 : decode cX7_append 30 = .ok (.dup, 1) := by decide +kernel
theorem dX7_append_31 : decode cX7_append 31 = .ok (.getfield 9, 3) := by decide +kernel
theorem dX7_append_34 : decode cX7_append 34 = .ok (.iconst 1, 1) := by decide +kernel
theorem dX7_append_35 : decode cX7_append 35 = .ok (.iadd, 1) := by decide +kernel
theorem dX7_append_36 : decode cX7_append 36 = .ok (.putfield 9, 3) := by decide +kernel
theorem dX7_append_39 : decode cX7_append 39 = .ok (.return_, 1) := by decide +kernel
set_option maxRecDepth 20000 in
theorem ggX7_appendSigns_X7_append : GoodIn wsX7_appendSigns wsX7_append := goodIn_r _ [5, 6, 7, 8, 9] (by decide +kernel) (by decide +kernel)
set_option maxRecDepth 20000 in
theorem gX7_appendSigns_X7_append : GoodIn wsX7_appendSigns (wsV RX7 25 RX7 yX7_append wsX7_append) := goodIn_app (goodIn_of _ (by decide +kernel)) ggX7_appendSigns_X7_append
theorem dX7_appendSigns_0 : decode cX7_appendSigns 0 = .ok (.bipush 24, 2) := by decide +kernel
theorem dX7_appendSigns_2 : decode cX7_appendSigns 2 = .ok (.istore_n 2, 1) := by decide +kernel
theorem dX7_appendSigns_3 : decode cX7_appendSigns 3 = .ok (.iload_n 2, 1) := by decide +kernel
theorem dX7_appendSigns_4 : decode cX7_appendSigns 4 = .ok (.ifCond .lt 27, 3) := by decide +kernel
theorem dX7_appendSigns_7 : decode cX7_appendSigns 7 = .ok (.iload_n 1, 1) := by decide +kernel
theorem dX7_appendSigns_8 : decode cX7_appendSigns 8 = .ok (.iload_n 2, 1) := by decide +kernel
theorem dX7_appendSigns_9 : decode cX7_appendSigns 9 = .ok (.iushr, 1) := by decide +kernel
theorem dX7_appendSigns_10 : decode cX7_appendSigns 10 = .ok (.sipush 255, 3) := by decide +kernel
theorem dX7_appendSigns_13 : decode cX7_appendSigns 13 = .ok (.iand, 1) := by decide +kernel
theorem dX7_appendSigns_14 : decode cX7_appendSigns 14 = .ok (.istore_n 3, 1) := by decide +kernel
theorem dX7_appendSigns_15 : decode cX7_appendSigns 15 = .ok (.iload_n 3, 1) := by decide +kernel
theorem dX7_appendSigns_16 : decode cX7_appendSigns 16 = .ok (.ifCond .eq 9, 3) := by decide +kernel
theorem dX7_appendSigns_19 : decode cX7_appendSigns 19 = .ok (.aload_n 0, 1) := by decide +kernel
theorem dX7_appendSigns_20 : decode cX7_appendSigns 20 = .ok (.iload_n 3, 1) := by decide +kernel
theorem dX7_appendSigns_21 : decode cX7_appendSigns 21 = .ok (.i2c, 1) := by decide +kernel
theorem dX7_appendSigns_22 : decode cX7_appendSigns 22 = .ok (.invokevirtual 25, 3) := by decide +kernel
theorem dX7_appendSigns_25 : decode cX7_appendSigns 25 = .ok (.iinc 2 (-8), 3) := by decide +kernel
theorem dX7_appendSigns_28 : decode cX7_appendSigns 28 = .ok (.goto (-25), 3) := by decide +kernel
theorem dX7_appendSigns_31 : decode cX7_appendSigns 31 = .ok (.return_, 1) := by decide +kernel
theorem dX7_copy_0 : decode cX7_copy 0 = .ok (.aload_n 0, 1) := by decide +kernel
theorem dX7_copy_1 : decode cX7_copy 1 = .ok (.iconst 0, 1) := by decide +kernel
theorem dX7_copy_2 : decode cX7_copy 2 = .ok (.putfield 9, 3) := by decide +kernel
theorem dX7_copy_5 : decode cX7_copy 5 = .ok (.iconst 0, 1) := by decide +kernel
theorem dX7_copy_6 : decode cX7_copy 6 = .ok (.istore_n 2, 1) := by decide +kernel
theorem dX7_copy_7 : decode cX7_copy 7 = .ok (.iload_n 2, 1) := by decide +kernel
theorem dX7_copy_8 : decode cX7_copy 8 = .ok (.aload_n 1, 1) := by decide +kernel
theorem dX7_copy_9 : decode cX7_copy 9 = .ok (.getfield 9, 3) := by decide +kernel
theorem dX7_copy_12 : decode cX7_copy 12 = .ok (.if_icmp .ge 49, 3) := by decide +kernel
theorem dX7_copy_15 : decode cX7_copy 15 = .ok (.iload_n 2, 1) := by decide +kernel
theorem dX7_copy_16 : decode cX7_copy 16 = .ok (.aload_n 1, 1) := by decide +kernel
theorem dX7_copy_17 : decode cX7_copy 17 = .ok (.getfield 21, 3) := by decide +kernel
theorem dX7_copy_20 : decode cX7_copy 20 = .ok (.arraylength, 1) := by decide +kernel
theorem dX7_copy_21 : decode cX7_copy 21 = .ok (.if_icmp .ge 40, 3) := by decide +kernel
theorem dX7_copy_24 : decode cX7_copy 24 = .ok (.iload_n 2, 1) := by decide +kernel
theorem dX7_copy_25 : decode cX7_copy 25 = .ok (.aload_n 0, 1) := by decide +kernel
theorem dX7_copy_26 : decode cX7_copy 26 = .ok (.getfield 21, 3) := by decide +kernel
theorem dX7_copy_29 : decode cX7_copy 29 = .ok (.arraylength, 1) := by decide +kernel
theorem dX7_copy_30 : decode cX7_copy 30 = .ok (.if_icmp .ge 31, 3) := by decide +kernel
theorem dX7_copy_33 : decode cX7_copy 33 = .ok (.aload_n 0, 1) := by decide +kernel
theorem dX7_copy_34 : decode cX7_copy 34 = .ok (.getfield 21, 3) := by decide +kernel
theorem dX7_copy_37 : decode cX7_copy 37 = .ok (.iload_n 2, 1) := by decide +kernel
theorem dX7_copy_38 : decode cX7_copy 38 = .ok (.aload_n 1, 1) := by decide +kernel
theorem dX7_copy_39 : decode cX7_copy 39 = .ok (.getfield 21, 3) := by decide +kernel
theorem dX7_copy_42 : decode cX7_copy 42 = .ok (.iload_n 2, 1) := by decide +kernel
theorem dX7_copy_43 : decode cX7_copy 43 = .ok (.caload, 1) := by decide +kernel
theorem dX7_copy_44 : decode cX7_copy 44 = .ok (.castore, 1) := by decide +kernel
theorem dX7_copy_45 : decode cX7_copy 45 = .ok (.aload_n 0, 1) := by decide +kernel
theorem dX7_copy_46 : decode cX7_copy 46 = .ok (.dup, 1) := by decide +kernel
theorem dX7_copy_47 : decode cX7_copy 47 = .ok (.getfield 9, 3) := by decide +kernel
theorem dX7_copy_50 : decode cX7_copy 50 = .ok (.iconst 1, 1) := by decide +kernel
theorem dX7_copy_51 : decode cX7_copy 51 = .ok (.iadd, 1) := by decide +kernel
theorem dX7_copy_52 : decode cX7_copy 52 = .ok (.putfield 9, 3) := by decide +kernel
theorem dX7_copy_55 : decode cX7_copy 55 = .ok (.iinc 2 1, 3) := by decide +kernel
theorem dX7_copy_58 : decode cX7_copy 58 = .ok (.goto (-51), 3) := by decide +kernel
theorem dX7_copy_61 : decode cX7_copy 61 = .ok (.return_, 1) := by decide +kernel
set_option maxRecDepth 20000 in
theorem ggX7_appendLetters_J0_length_8abf5 : GoodIn wsX7_appendLetters wsJ0_length_8abf5 := goodIn_r _ [5, 6, 7, 8, 9, 4, 10, 11, 12] (by decide +kernel) (by decide +kernel)
set_option maxRecDepth 20000 in
theorem gX7_appendLetters_J0_length_8abf5 : GoodIn wsX7_appendLetters (wsV RX7 29 RJ0 yJ0_length_8abf5 wsJ0_length_8abf5) := goodIn_app (goodIn_of _ (by decide +kernel)) ggX7_appendLetters_J0_length_8abf5
set_option maxRecDepth 20000 in
theorem ggX7_appendLetters_J0_charAt_5068e : GoodIn wsX7_appendLetters wsJ0_charAt_5068e := goodIn_r _ [16, 6, 17, 18, 19, 4, 20, 11, 12, 21, 22, 23, 24, 25, 26, 27, 28, 29, 30, 31, 32, 33, 34, 35, 36, 37, 38, 39, 40, 41, 42, 43, 44, 45, 46, 47, 48, 49] (by decide +kernel) (by decide +kernel)
set_option maxRecDepth 20000 in
theorem gX7_appendLetters_J0_charAt_5068e : GoodIn wsX7_appendLetters (wsV RX7 34 RJ0 yJ0_charAt_5068e wsJ0_charAt_5068e) := goodIn_app (goodIn_of _ (by decide +kernel)) ggX7_appendLetters_J0_charAt_5068e
set_option maxRecDepth 20000 in
theorem ggX7_appendLetters_X7_append : GoodIn wsX7_appendLetters wsX7_append := goodIn_r _ [54, 55, 56, 57, 58] (by decide +kernel) (by decide +kernel)
set_option maxRecDepth 20000 in
theorem gX7_appendLetters_X7_append : GoodIn wsX7_appendLetters (wsV RX7 25 RX7 yX7_append wsX7_append) := goodIn_app (goodIn_of _ (by decide +kernel)) ggX7_appendLetters_X7_append
theorem dX7_appendLetters_0 : decode cX7_appendLetters 0 = .ok (.iconst 0, 1) := by decide +kernel
theorem dX7_appendLetters_1 : decode cX7_appendLetters 1 = .ok (.istore_n 2, 1) := by decide +kernel
theorem dX7_appendLetters_2 : decode cX7_appendLetters 2 = .ok (.iload_n 2, 1) := by decide +kernel
theorem dX7_appendLetters_3 : decode cX7_appendLetters 3 = .ok (.aload_n 1, 1) := by decide +kernel
theorem dX7_appendLetters_4 : decode cX7_appendLetters 4 = .ok (.invokevirtual 29, 3) := by decide +kernel
theorem dX7_appendLetters_7 : decode cX7_appendLetters 7 = .ok (.if_icmp .ge 18, 3) := by decide +kernel
theorem dX7_appendLetters_10 : decode cX7_appendLetters 10 = .ok (.aload_n 0, 1) := by decide +kernel
theorem dX7_appendLetters_11 : decode cX7_appendLetters 11 = .ok (.aload_n 1, 1) := by decide +kernel
theorem dX7_appendLetters_12 : decode cX7_appendLetters 12 = .ok (.iload_n 2, 1) := by decide +kernel
theorem dX7_appendLetters_13 : decode cX7_appendLetters 13 = .ok (.invokevirtual 34, 3) := by decide +kernel
theorem dX7_appendLetters_16 : decode cX7_appendLetters 16 = .ok (.invokevirtual 25, 3) := by decide +kernel
theorem dX7_appendLetters_19 : decode cX7_appendLetters 19 = .ok (.iinc 2 1, 3) := by decide +kernel
theorem dX7_appendLetters_22 : decode cX7_appendLetters 22 = .ok (.goto (-20), 3) := by decide +kernel
theorem dX7_appendLetters_25 : decode cX7_appendLetters 25 = .ok (.return_, 1) := by decide +kernel
set_option maxRecDepth 20000 in
theorem ggX7_appendNumber_X7_append : GoodIn wsX7_appendNumber wsX7_append := goodIn_r _ [11, 12, 13, 19, 20] (by decide +kernel) (by decide +kernel)
set_option maxRecDepth 20000 in
theorem gX7_appendNumber_X7_append : GoodIn wsX7_appendNumber (wsV RX7 25 RX7 yX7_append wsX7_append) := goodIn_app (goodIn_of _ (by decide +kernel)) ggX7_appendNumber_X7_append
set_option maxRecDepth 20000 in
theorem ggX7_appendNumber_X7_appendDigits : GoodIn wsX7_appendNumber wsX7_appendDigits := goodIn_r _ [17, 18, 6, 4, 7, 8, 9, 10, 11, 12, 13, 19, 20] (by decide +kernel) (by decide +kernel)
set_option maxRecDepth 20000 in
theorem gX7_appendNumber_X7_appendDigits : GoodIn wsX7_appendNumber (wsV RX7 40 RX7 yX7_appendDigits wsX7_appendDigits) := goodIn_app (goodIn_of _ (by decide +kernel)) ggX7_appendNumber_X7_appendDigits
theorem dX7_appendNumber_0 : decode cX7_appendNumber 0 = .ok (.dload_n 1, 1) := by decide +kernel
theorem dX7_appendNumber_1 : decode cX7_appendNumber 1 = .ok (.dconst 0, 1) := by decide +kernel
theorem dX7_appendNumber_2 : decode cX7_appendNumber 2 = .ok (.dcmp .g, 1) := by decide +kernel
theorem dX7_appendNumber_3 : decode cX7_appendNumber 3 = .ok (.ifCond .ge 9, 3) := by decide +kernel
theorem dX7_appendNumber_6 : decode cX7_appendNumber 6 = .ok (.aload_n 0, 1) := by decide +kernel
theorem dX7_appendNumber_7 : decode cX7_appendNumber 7 = .ok (.bipush 45, 2) := by decide +kernel
theorem dX7_appendNumber_9 : decode cX7_appendNumber 9 = .ok (.invokevirtual 25, 3) := by decide +kernel
theorem dX7_appendNumber_12 : decode cX7_appendNumber 12 = .ok (.dload_n 1, 1) := by decide +kernel
theorem dX7_appendNumber_13 : decode cX7_appendNumber 13 = .ok (.dconst 0, 1) := by decide +kernel
theorem dX7_appendNumber_14 : decode cX7_appendNumber 14 = .ok (.dcmp .g, 1) := by decide +kernel
theorem dX7_appendNumber_15 : decode cX7_appendNumber 15 = .ok (.ifCond .ge 8, 3) := by decide +kernel
theorem dX7_appendNumber_18 : decode cX7_appendNumber 18 = .ok (.dload_n 1, 1) := by decide +kernel
theorem dX7_appendNumber_19 : decode cX7_appendNumber 19 = .ok (.dneg, 1) := by decide +kernel
theorem dX7_appendNumber_20 : decode cX7_appendNumber 20 = .ok (.goto 4, 3) := by decide +kernel
theorem dX7_appendNumber_23 : decode cX7_appendNumber 23 = .ok (.dload_n 1, 1) := by decide +kernel
theorem dX7_appendNumber_24 : decode cX7_appendNumber 24 = .ok (.ldc2_w 38, 3) := by decide +kernel
theorem dX7_appendNumber_27 : decode cX7_appendNumber 27 = .ok (.dmul, 1) := by decide +kernel
theorem dX7_appendNumber_28 : decode cX7_appendNumber 28 = .ok (.d2l, 1) := by decide +kernel
theorem dX7_appendNumber_29 : decode cX7_appendNumber 29 = .ok (.lstore_n 3, 1) := by decide +kernel
theorem dX7_appendNumber_30 : decode cX7_appendNumber 30 = .ok (.aload_n 0, 1) := by decide +kernel
theorem dX7_appendNumber_31 : decode cX7_appendNumber 31 = .ok (.lload_n 3, 1) := by decide +kernel
theorem dX7_appendNumber_32 : decode cX7_appendNumber 32 = .ok (.iconst 3, 1) := by decide +kernel
theorem dX7_appendNumber_33 : decode cX7_appendNumber 33 = .ok (.lshr, 1) := by decide +kernel
theorem dX7_appendNumber_34 : decode cX7_appendNumber 34 = .ok (.invokevirtual 40, 3) := by decide +kernel
theorem dX7_appendNumber_37 : decode cX7_appendNumber 37 = .ok (.lload_n 3, 1) := by decide +kernel
theorem dX7_appendNumber_38 : decode cX7_appendNumber 38 = .ok (.ldc2_w 44, 3) := by decide +kernel
theorem dX7_appendNumber_41 : decode cX7_appendNumber 41 = .ok (.land, 1) := by decide +kernel
theorem dX7_appendNumber_42 : decode cX7_appendNumber 42 = .ok (.ldc2_w 46, 3) := by decide +kernel
theorem dX7_appendNumber_45 : decode cX7_appendNumber 45 = .ok (.lmul, 1) := by decide +kernel
theorem dX7_appendNumber_46 : decode cX7_appendNumber 46 = .ok (.lstore 5, 2) := by decide +kernel
theorem dX7_appendNumber_48 : decode cX7_appendNumber 48 = .ok (.lload 5, 2) := by decide +kernel
theorem dX7_appendNumber_50 : decode cX7_appendNumber 50 = .ok (.lconst 0, 1) := by decide +kernel
theorem dX7_appendNumber_51 : decode cX7_appendNumber 51 = .ok (.lcmp, 1) := by decide +kernel
theorem dX7_appendNumber_52 : decode cX7_appendNumber 52 = .ok (.ifCond .eq 9, 3) := by decide +kernel
theorem dX7_appendNumber_55 : decode cX7_appendNumber 55 = .ok (.aload_n 0, 1) := by decide +kernel
theorem dX7_appendNumber_56 : decode cX7_appendNumber 56 = .ok (.bipush 46, 2) := by decide +kernel
theorem dX7_appendNumber_58 : decode cX7_appendNumber 58 = .ok (.invokevirtual 25, 3) := by decide +kernel
theorem dX7_appendNumber_61 : decode cX7_appendNumber 61 = .ok (.iconst 0, 1) := by decide +kernel
theorem dX7_appendNumber_62 : decode cX7_appendNumber 62 = .ok (.istore 7, 2) := by decide +kernel
theorem dX7_appendNumber_64 : decode cX7_appendNumber 64 = .ok (.iload 7, 2) := by decide +kernel
theorem dX7_appendNumber_66 : decode cX7_appendNumber 66 = .ok (.iconst 3, 1) := by decide +kernel
theorem dX7_appendNumber_67 : decode cX7_appendNumber 67 = .ok (.if_icmp .ge 44, 3) := by decide +kernel
theorem dX7_appendNumber_70 : decode cX7_appendNumber 70 = .ok (.lload 5, 2) := by decide +kernel
theorem dX7_appendNumber_72 : decode cX7_appendNumber 72 = .ok (.lconst 0, 1) := by decide +kernel
theorem dX7_appendNumber_73 : decode cX7_appendNumber 73 = .ok (.lcmp, 1) := by decide +kernel
theorem dX7_appendNumber_74 : decode cX7_appendNumber 74 = .ok (.ifCond .eq 37, 3) := by decide +kernel
theorem dX7_appendNumber_77 : decode cX7_appendNumber 77 = .ok (.aload_n 0, 1) := by decide +kernel
theorem dX7_appendNumber_78 : decode cX7_appendNumber 78 = .ok (.ldc2_w 48, 3) := by decide +kernel
theorem dX7_appendNumber_81 : decode cX7_appendNumber 81 = .ok (.lload 5, 2) := by decide +kernel
theorem dX7_appendNumber_83 : decode cX7_appendNumber 83 = .ok (.ldc2_w 50, 3) := by decide +kernel
theorem dX7_appendNumber_86 : decode cX7_appendNumber 86 = .ok (.ldiv, 1) := by decide +kernel
theorem dX7_appendNumber_87 : decode cX7_appendNumber 87 = .ok (.ladd, 1) := by decide +kernel
theorem dX7_appendNumber_88 : decode cX7_appendNumber 88 = .ok (.l2i, 1) := by decide +kernel
theorem dX7_appendNumber_89 : decode cX7_appendNumber 89 = .ok (.i2c, 1) := by decide +kernel
theorem dX7_appendNumber_90 : decode cX7_appendNumber 90 = .ok (.invokevirtual 25, 3) := by decide +kernel
theorem dX7_appendNumber_93 : decode cX7_appendNumber 93 = .ok (.lload 5, 2) := by decide +kernel
theorem dX7_appendNumber_95 : decode cX7_appendNumber 95 = .ok (.ldc2_w 50, 3) := by decide +kernel
theorem dX7_appendNumber_98 : decode cX7_appendNumber 98 = .ok (.lrem, 1) := by decide +kernel
theorem dX7_appendNumber_99 : decode cX7_appendNumber 99 = .ok (.ldc2_w 52, 3) := by decide +kernel
theorem dX7_appendNumber_102 : decode cX7_appendNumber 102 = .ok (.lmul, 1) := by decide +kernel
theorem dX7_appendNumber_103 : decode cX7_appendNumber 103 = .ok (.lstore 5, 2) := by decide +kernel
theorem dX7_appendNumber_105 : decode cX7_appendNumber 105 = .ok (.iinc 7 1, 3) := by decide +kernel
theorem dX7_appendNumber_108 : decode cX7_appendNumber 108 = .ok (.goto (-44), 3) := by decide +kernel
theorem dX7_appendNumber_111 : decode cX7_appendNumber 111 = .ok (.return_, 1) := by decide +kernel
set_option maxRecDepth 20000 in
theorem ggX7_appendDigits_X7_append : GoodIn wsX7_appendDigits wsX7_append := goodIn_r _ [8, 9, 10, 11, 12] (by decide +kernel) (by decide +kernel)
set_option maxRecDepth 20000 in
theorem gX7_appendDigits_X7_append : GoodIn wsX7_appendDigits (wsV RX7 25 RX7 yX7_append wsX7_append) := goodIn_app (goodIn_of _ (by decide +kernel)) ggX7_appendDigits_X7_append
theorem dX7_appendDigits_0 : decode cX7_appendDigits 0 = .ok (.iconst 0, 1) := by decide +kernel
theorem dX7_appendDigits_1 : decode cX7_appendDigits 1 = .ok (.istore_n 3, 1) := by decide +kernel
theorem dX7_appendDigits_2 : decode cX7_appendDigits 2 = .ok (.ldc2_w 54, 3) := by decide +kernel
theorem dX7_appendDigits_5 : decode cX7_appendDigits 5 = .ok (.lstore 4, 2) := by decide +kernel
theorem dX7_appendDigits_7 : decode cX7_appendDigits 7 = .ok (.lload 4, 2) := by decide +kernel
theorem dX7_appendDigits_9 : decode cX7_appendDigits 9 = .ok (.lconst 0, 1) := by decide +kernel
theorem dX7_appendDigits_10 : decode cX7_appendDigits 10 = .ok (.lcmp, 1) := by decide +kernel
theorem dX7_appendDigits_11 : decode cX7_appendDigits 11 = .ok (.ifCond .le 64, 3) := by decide +kernel
theorem dX7_appendDigits_14 : decode cX7_appendDigits 14 = .ok (.lload_n 1, 1) := by decide +kernel
theorem dX7_appendDigits_15 : decode cX7_appendDigits 15 = .ok (.lload 4, 2) := by decide +kernel
theorem dX7_appendDigits_17 : decode cX7_appendDigits 17 = .ok (.ldiv, 1) := by decide +kernel
theorem dX7_appendDigits_18 : decode cX7_appendDigits 18 = .ok (.ldc2_w 52, 3) := by decide +kernel
theorem dX7_appendDigits_21 : decode cX7_appendDigits 21 = .ok (.lrem, 1) := by decide +kernel
theorem dX7_appendDigits_22 : decode cX7_appendDigits 22 = .ok (.lstore 6, 2) := by decide +kernel
theorem dX7_appendDigits_24 : decode cX7_appendDigits 24 = .ok (.iload_n 3, 1) := by decide +kernel
theorem dX7_appendDigits_25 : decode cX7_appendDigits 25 = .ok (.ifCond .ne 17, 3) := by decide +kernel
theorem dX7_appendDigits_28 : decode cX7_appendDigits 28 = .ok (.lload 6, 2) := by decide +kernel
theorem dX7_appendDigits_30 : decode cX7_appendDigits 30 = .ok (.lconst 0, 1) := by decide +kernel
theorem dX7_appendDigits_31 : decode cX7_appendDigits 31 = .ok (.lcmp, 1) := by decide +kernel
theorem dX7_appendDigits_32 : decode cX7_appendDigits 32 = .ok (.ifCond .ne 10, 3) := by decide +kernel
theorem dX7_appendDigits_35 : decode cX7_appendDigits 35 = .ok (.lload 4, 2) := by decide +kernel
theorem dX7_appendDigits_37 : decode cX7_appendDigits 37 = .ok (.lconst 1, 1) := by decide +kernel
theorem dX7_appendDigits_38 : decode cX7_appendDigits 38 = .ok (.lcmp, 1) := by decide +kernel
theorem dX7_appendDigits_39 : decode cX7_appendDigits 39 = .ok (.ifCond .ne 7, 3) := by decide +kernel
theorem dX7_appendDigits_42 : decode cX7_appendDigits 42 = .ok (.iconst 1, 1) := by decide +kernel
theorem dX7_appendDigits_43 : decode cX7_appendDigits 43 = .ok (.goto 4, 3) := by decide +kernel
theorem dX7_appendDigits_46 : decode cX7_appendDigits 46 = .ok (.iconst 0, 1) := by decide +kernel
theorem dX7_appendDigits_47 : decode cX7_appendDigits 47 = .ok (.istore_n 3, 1) := by decide +kernel
theorem dX7_appendDigits_48 : decode cX7_appendDigits 48 = .ok (.iload_n 3, 1) := by decide +kernel
theorem dX7_appendDigits_49 : decode cX7_appendDigits 49 = .ok (.ifCond .eq 15, 3) := by decide +kernel
theorem dX7_appendDigits_52 : decode cX7_appendDigits 52 = .ok (.aload_n 0, 1) := by decide +kernel
theorem dX7_appendDigits_53 : decode cX7_appendDigits 53 = .ok (.ldc2_w 48, 3) := by decide +kernel
theorem dX7_appendDigits_56 : decode cX7_appendDigits 56 = .ok (.lload 6, 2) := by decide +kernel
theorem dX7_appendDigits_58 : decode cX7_appendDigits 58 = .ok (.ladd, 1) := by decide +kernel
theorem dX7_appendDigits_59 : decode cX7_appendDigits 59 = .ok (.l2i, 1) := by decide +kernel
theorem dX7_appendDigits_60 : decode cX7_appendDigits 60 = .ok (.i2c, 1) := by decide +kernel
theorem dX7_appendDigits_61 : decode cX7_appendDigits 61 = .ok (.invokevirtual 25, 3) := by decide +kernel
theorem dX7_appendDigits_64 : decode cX7_appendDigits 64 = .ok (.lload 4, 2) := by decide +kernel
theorem dX7_appendDigits_66 : decode cX7_appendDigits 66 = .ok (.ldc2_w 52, 3) := by decide +kernel
theorem dX7_appendDigits_69 : decode cX7_appendDigits 69 = .ok (.ldiv, 1) := by decide +kernel
theorem dX7_appendDigits_70 : decode cX7_appendDigits 70 = .ok (.lstore 4, 2) := by decide +kernel
theorem dX7_appendDigits_72 : decode cX7_appendDigits 72 = .ok (.goto (-65), 3) := by decide +kernel
theorem dX7_appendDigits_75 : decode cX7_appendDigits 75 = .ok (.return_, 1) := by decide +kernel
set_option maxRecDepth 20000 in
theorem ggX7_wordCode_X7_at : GoodIn wsX7_wordCode wsX7_at := goodIn_r _ [6, 1, 7, 15, 16] (by decide +kernel) (by decide +kernel)
set_option maxRecDepth 20000 in
theorem gX7_wordCode_X7_at : GoodIn wsX7_wordCode (wsV RX7 56 RX7 yX7_at wsX7_at) := goodIn_app (goodIn_of _ (by decide +kernel)) ggX7_wordCode_X7_at
set_option maxRecDepth 20000 in
theorem ggX7_wordCode_X7_isLetter : GoodIn wsX7_wordCode wsX7_isLetter := goodIn_r _ [10] (by decide +kernel) (by decide +kernel)
set_option maxRecDepth 20000 in
theorem gX7_wordCode_X7_isLetter : GoodIn wsX7_wordCode (va_wsS RX7 59 yX7_isLetter wsX7_isLetter) := goodIn_app (goodIn_of _ (by decide +kernel)) ggX7_wordCode_X7_isLetter
set_option maxRecDepth 20000 in
theorem ggX7_wordCode_X7_withLetter : GoodIn wsX7_wordCode wsX7_withLetter := goodIn_r _ [13, 14] (by decide +kernel) (by decide +kernel)
set_option maxRecDepth 20000 in
theorem gX7_wordCode_X7_withLetter : GoodIn wsX7_wordCode (va_wsS RX7 63 yX7_withLetter wsX7_withLetter) := goodIn_app (goodIn_of _ (by decide +kernel)) ggX7_wordCode_X7_withLetter
theorem dX7_wordCode_0 : decode cX7_wordCode 0 = .ok (.aload_n 0, 1) := by decide +kernel
theorem dX7_wordCode_1 : decode cX7_wordCode 1 = .ok (.getfield 9, 3) := by decide +kernel
theorem dX7_wordCode_4 : decode cX7_wordCode 4 = .ok (.bipush 8, 2) := by decide +kernel
theorem dX7_wordCode_6 : decode cX7_wordCode 6 = .ok (.if_icmp .le 5, 3) := by decide +kernel
theorem dX7_wordCode_9 : decode cX7_wordCode 9 = .ok (.lconst 0, 1) := by decide +kernel
theorem dX7_wordCode_10 : decode cX7_wordCode 10 = .ok (.lreturn, 1) := by decide +kernel
theorem dX7_wordCode_11 : decode cX7_wordCode 11 = .ok (.lconst 0, 1) := by decide +kernel
theorem dX7_wordCode_12 : decode cX7_wordCode 12 = .ok (.lstore_n 1, 1) := by decide +kernel
theorem dX7_wordCode_13 : decode cX7_wordCode 13 = .ok (.iconst 0, 1) := by decide +kernel
theorem dX7_wordCode_14 : decode cX7_wordCode 14 = .ok (.istore_n 3, 1) := by decide +kernel
theorem dX7_wordCode_15 : decode cX7_wordCode 15 = .ok (.iload_n 3, 1) := by decide +kernel
theorem dX7_wordCode_16 : decode cX7_wordCode 16 = .ok (.aload_n 0, 1) := by decide +kernel
theorem dX7_wordCode_17 : decode cX7_wordCode 17 = .ok (.getfield 9, 3) := by decide +kernel
theorem dX7_wordCode_20 : decode cX7_wordCode 20 = .ok (.if_icmp .ge 33, 3) := by decide +kernel
theorem dX7_wordCode_23 : decode cX7_wordCode 23 = .ok (.aload_n 0, 1) := by decide +kernel
theorem dX7_wordCode_24 : decode cX7_wordCode 24 = .ok (.iload_n 3, 1) := by decide +kernel
theorem dX7_wordCode_25 : decode cX7_wordCode 25 = .ok (.invokevirtual 56, 3) := by decide +kernel
theorem dX7_wordCode_28 : decode cX7_wordCode 28 = .ok (.istore 4, 2) := by decide +kernel
theorem dX7_wordCode_30 : decode cX7_wordCode 30 = .ok (.iload 4, 2) := by decide +kernel
theorem dX7_wordCode_32 : decode cX7_wordCode 32 = .ok (.invokestatic 59, 3) := by decide +kernel
theorem dX7_wordCode_35 : decode cX7_wordCode 35 = .ok (.ifCond .ne 5, 3) := by decide +kernel
theorem dX7_wordCode_38 : decode cX7_wordCode 38 = .ok (.lconst 0, 1) := by decide +kernel
theorem dX7_wordCode_39 : decode cX7_wordCode 39 = .ok (.lreturn, 1) := by decide +kernel
theorem dX7_wordCode_40 : decode cX7_wordCode 40 = .ok (.lload_n 1, 1) := by decide +kernel
theorem dX7_wordCode_41 : decode cX7_wordCode 41 = .ok (.iload 4, 2) := by decide +kernel
theorem dX7_wordCode_43 : decode cX7_wordCode 43 = .ok (.invokestatic 63, 3) := by decide +kernel
theorem dX7_wordCode_46 : decode cX7_wordCode 46 = .ok (.lstore_n 1, 1) := by decide +kernel
theorem dX7_wordCode_47 : decode cX7_wordCode 47 = .ok (.iinc 3 1, 3) := by decide +kernel
theorem dX7_wordCode_50 : decode cX7_wordCode 50 = .ok (.goto (-35), 3) := by decide +kernel
theorem dX7_wordCode_53 : decode cX7_wordCode 53 = .ok (.lload_n 1, 1) := by decide +kernel
theorem dX7_wordCode_54 : decode cX7_wordCode 54 = .ok (.lreturn, 1) := by decide +kernel
theorem dX7_isLetter_0 : decode cX7_isLetter 0 = .ok (.iload_n 0, 1) := by decide +kernel
theorem dX7_isLetter_1 : decode cX7_isLetter 1 = .ok (.bipush 97, 2) := by decide +kernel
theorem dX7_isLetter_3 : decode cX7_isLetter 3 = .ok (.if_icmp .lt 13, 3) := by decide +kernel
theorem dX7_isLetter_6 : decode cX7_isLetter 6 = .ok (.iload_n 0, 1) := by decide +kernel
theorem dX7_isLetter_7 : decode cX7_isLetter 7 = .ok (.bipush 122, 2) := by decide +kernel
theorem dX7_isLetter_9 : decode cX7_isLetter 9 = .ok (.if_icmp .gt 7, 3) := by decide +kernel
theorem dX7_isLetter_12 : decode cX7_isLetter 12 = .ok (.iconst 1, 1) := by decide +kernel
theorem dX7_isLetter_13 : decode cX7_isLetter 13 = .ok (.goto 4, 3) := by decide +kernel
theorem dX7_isLetter_16 : decode cX7_isLetter 16 = .ok (.iconst 0, 1) := by decide +kernel
theorem dX7_isLetter_17 : decode cX7_isLetter 17 = .ok (.ireturn, 1) := by decide +kernel
theorem dX7_withLetter_0 : decode cX7_withLetter 0 = .ok (.lload_n 0, 1) := by decide +kernel
theorem dX7_withLetter_1 : decode cX7_withLetter 1 = .ok (.ldc2_w 67, 3) := by decide +kernel
theorem dX7_withLetter_4 : decode cX7_withLetter 4 = .ok (.lmul, 1) := by decide +kernel
theorem dX7_withLetter_5 : decode cX7_withLetter 5 = .ok (.iload_n 2, 1) := by decide +kernel
theorem dX7_withLetter_6 : decode cX7_withLetter 6 = .ok (.bipush 97, 2) := by decide +kernel
theorem dX7_withLetter_8 : decode cX7_withLetter 8 = .ok (.isub, 1) := by decide +kernel
theorem dX7_withLetter_9 : decode cX7_withLetter 9 = .ok (.iconst 1, 1) := by decide +kernel
theorem dX7_withLetter_10 : decode cX7_withLetter 10 = .ok (.iadd, 1) := by decide +kernel
theorem dX7_withLetter_11 : decode cX7_withLetter 11 = .ok (.i2l, 1) := by decide +kernel
theorem dX7_withLetter_12 : decode cX7_withLetter 12 = .ok (.ladd, 1) := by decide +kernel
theorem dX7_withLetter_13 : decode cX7_withLetter 13 = .ok (.lreturn, 1) := by decide +kernel
set_option maxRecDepth 20000 in
theorem ggX7_codeOf_J0_length_8abf5 : GoodIn wsX7_codeOf wsJ0_length_8abf5 := goodIn_r _ [5, 6, 7, 8, 9, 4, 10, 11, 12] (by decide +kernel) (by decide +kernel)
set_option maxRecDepth 20000 in
theorem gX7_codeOf_J0_length_8abf5 : GoodIn wsX7_codeOf (wsV RX7 29 RJ0 yJ0_length_8abf5 wsJ0_length_8abf5) := goodIn_app (goodIn_of _ (by decide +kernel)) ggX7_codeOf_J0_length_8abf5
set_option maxRecDepth 20000 in
theorem ggX7_codeOf_J0_charAt_5068e : GoodIn wsX7_codeOf wsJ0_charAt_5068e := goodIn_r _ [16, 6, 17, 18, 19, 4, 20, 11, 12, 21, 22, 23, 24, 25, 26, 27, 28, 29, 30, 31, 32, 33, 34, 35, 36, 37, 38, 39, 40, 41, 42, 43, 44, 45, 46, 47, 48, 49] (by decide +kernel) (by decide +kernel)
set_option maxRecDepth 20000 in
theorem gX7_codeOf_J0_charAt_5068e : GoodIn wsX7_codeOf (wsV RX7 34 RJ0 yJ0_charAt_5068e wsJ0_charAt_5068e) := goodIn_app (goodIn_of _ (by decide +kernel)) ggX7_codeOf_J0_charAt_5068e
set_option maxRecDepth 20000 in
theorem ggX7_codeOf_X7_withLetter : GoodIn wsX7_codeOf wsX7_withLetter := goodIn_r _ [53, 54] (by decide +kernel) (by decide +kernel)
set_option maxRecDepth 20000 in
theorem gX7_codeOf_X7_withLetter : GoodIn wsX7_codeOf (va_wsS RX7 63 yX7_withLetter wsX7_withLetter) := goodIn_app (goodIn_of _ (by decide +kernel)) ggX7_codeOf_X7_withLetter
theorem dX7_codeOf_0 : decode cX7_codeOf 0 = .ok (.lconst 0, 1) := by decide +kernel
theorem dX7_codeOf_1 : decode cX7_codeOf 1 = .ok (.lstore_n 1, 1) := by decide +kernel
theorem dX7_codeOf_2 : decode cX7_codeOf 2 = .ok (.iconst 0, 1) := by decide +kernel
theorem dX7_codeOf_3 : decode cX7_codeOf 3 = .ok (.istore_n 3, 1) := by decide +kernel
theorem dX7_codeOf_4 : decode cX7_codeOf 4 = .ok (.iload_n 3, 1) := by decide +kernel
theorem dX7_codeOf_5 : decode cX7_codeOf 5 = .ok (.aload_n 0, 1) := by decide +kernel
theorem dX7_codeOf_6 : decode cX7_codeOf 6 = .ok (.invokevirtual 29, 3) := by decide +kernel
theorem dX7_codeOf_9 : decode cX7_codeOf 9 = .ok (.if_icmp .ge 19, 3) := by decide +kernel
theorem dX7_codeOf_12 : decode cX7_codeOf 12 = .ok (.lload_n 1, 1) := by decide +kernel
theorem dX7_codeOf_13 : decode cX7_codeOf 13 = .ok (.aload_n 0, 1) := by decide +kernel
theorem dX7_codeOf_14 : decode cX7_codeOf 14 = .ok (.iload_n 3, 1) := by decide +kernel
theorem dX7_codeOf_15 : decode cX7_codeOf 15 = .ok (.invokevirtual 34, 3) := by decide +kernel
theorem dX7_codeOf_18 : decode cX7_codeOf 18 = .ok (.invokestatic 63, 3) := by decide +kernel
theorem dX7_codeOf_21 : decode cX7_codeOf 21 = .ok (.lstore_n 1, 1) := by decide +kernel
theorem dX7_codeOf_22 : decode cX7_codeOf 22 = .ok (.iinc 3 1, 3) := by decide +kernel
theorem dX7_codeOf_25 : decode cX7_codeOf 25 = .ok (.goto (-21), 3) := by decide +kernel
theorem dX7_codeOf_28 : decode cX7_codeOf 28 = .ok (.lload_n 1, 1) := by decide +kernel
theorem dX7_codeOf_29 : decode cX7_codeOf 29 = .ok (.lreturn, 1) := by decide +kernel
set_option maxRecDepth 20000 in
theorem ggX8_init_X7_init : GoodIn wsX8_init wsX7_init := goodIn_r _ [16, 17, 2, 3, 18, 19, 20, 21, 22, 23, 24, 32, 33] (by decide +kernel) (by decide +kernel)
set_option maxRecDepth 20000 in
theorem gX8_init_X7_init : GoodIn wsX8_init (wsX7_init) := ggX8_init_X7_init
theorem dX8_init_0 : decode cX8_init 0 = .ok (.aload_n 0, 1) := by decide +kernel
theorem dX8_init_1 : decode cX8_init 1 = .ok (.invokespecial 3, 3) := by decide +kernel
theorem dX8_init_4 : decode cX8_init 4 = .ok (.aload_n 0, 1) := by decide +kernel
theorem dX8_init_5 : decode cX8_init 5 = .ok (.bipush 7, 2) := by decide +kernel
theorem dX8_init_7 : decode cX8_init 7 = .ok (.putfield 9, 3) := by decide +kernel
theorem dX8_init_10 : decode cX8_init 10 = .ok (.aload_n 0, 1) := by decide +kernel
theorem dX8_init_11 : decode cX8_init 11 = .ok (.lconst 0, 1) := by decide +kernel
theorem dX8_init_12 : decode cX8_init 12 = .ok (.putfield 15, 3) := by decide +kernel
theorem dX8_init_15 : decode cX8_init 15 = .ok (.aload_n 0, 1) := by decide +kernel
theorem dX8_init_16 : decode cX8_init 16 = .ok (.dconst 0, 1) := by decide +kernel
theorem dX8_init_17 : decode cX8_init 17 = .ok (.putfield 19, 3) := by decide +kernel
theorem dX8_init_20 : decode cX8_init 20 = .ok (.aload_n 0, 1) := by decide +kernel
theorem dX8_init_21 : decode cX8_init 21 = .ok (.iconst 0, 1) := by decide +kernel
theorem dX8_init_22 : decode cX8_init 22 = .ok (.putfield 23, 3) := by decide +kernel
theorem dX8_init_25 : decode cX8_init 25 = .ok (.aload_n 0, 1) := by decide +kernel
theorem dX8_init_26 : decode cX8_init 26 = .ok (.iconst 0, 1) := by decide +kernel
theorem dX8_init_27 : decode cX8_init 27 = .ok (.putfield 27, 3) := by decide +kernel
theorem dX8_init_30 : decode cX8_init 30 = .ok (.aload_n 0, 1) := by decide +kernel
theorem dX8_init_31 : decode cX8_init 31 = .ok (.new 30, 3) := by decide +kernel
theorem dX8_init_34 : decode cX8_init 34 = .ok (.dup, 1) := by decide +kernel
theorem dX8_init_35 : decode cX8_init 35 = .ok (.iload_n 1, 1) := by decide +kernel
theorem dX8_init_36 : decode cX8_init 36 = .ok (.invokespecial 32, 3) := by decide +kernel
theorem dX8_init_39 : decode cX8_init 39 = .ok (.putfield 35, 3) := by decide +kernel
theorem dX8_init_42 : decode cX8_init 42 = .ok (.aload_n 0, 1) := by decide +kernel
theorem dX8_init_43 : decode cX8_init 43 = .ok (.aload_n 2, 1) := by decide +kernel
theorem dX8_init_44 : decode cX8_init 44 = .ok (.putfield 39, 3) := by decide +kernel
theorem dX8_init_47 : decode cX8_init 47 = .ok (.return_, 1) := by decide +kernel
set_option maxRecDepth 20000 in
theorem ggX8_withItems_X8_init : GoodIn wsX8_withItems wsX8_init := goodIn_r _ [6, 7, 8, 9, 10, 11, 12, 13, 14, 15, 16, 17, 18, 19, 20, 21, 22, 23, 24, 25, 26, 27, 28, 29, 30, 97, 98, 99, 100, 101, 102, 103, 104, 105] (by decide +kernel) (by decide +kernel)
set_option maxRecDepth 20000 in
theorem gX8_withItems_X8_init : GoodIn wsX8_withItems (wsX8_init) := ggX8_withItems_X8_init
set_option maxRecDepth 20000 in
theorem ggX8_withItems_X8_becomeNamed : GoodIn wsX8_withItems wsX8_becomeNamed := goodIn_r _ [34, 18, 35, 36, 37, 3, 38, 10, 11, 12, 13, 14, 39, 40, 41, 42, 17, 43, 44, 45, 46, 47, 48, 49, 50, 51, 52, 53, 54, 55, 56, 57, 58, 59, 60, 61, 62, 63, 64, 65, 66, 67, 68, 69, 70, 71, 72, 73, 74, 75, 76, 77, 78, 79, 80, 81, 82, 83, 84, 85, 86, 87, 88, 89, 90, 91, 92, 93, 94, 95, 96, 24, 30, 97, 98, 99, 100, 101, 102, 103, 104, 105] (by decide +kernel) (by decide +kernel)
set_option maxRecDepth 20000 in
theorem gX8_withItems_X8_becomeNamed : GoodIn wsX8_withItems (wsV RX8 48 RX8 yX8_becomeNamed wsX8_becomeNamed) := goodIn_app (goodIn_of _ (by decide +kernel)) ggX8_withItems_X8_becomeNamed
theorem dX8_withItems_0 : decode cX8_withItems 0 = .ok (.iconst 0, 1) := by decide +kernel
theorem dX8_withItems_1 : decode cX8_withItems 1 = .ok (.anewarray 10, 3) := by decide +kernel
theorem dX8_withItems_4 : decode cX8_withItems 4 = .ok (.astore_n 0, 1) := by decide +kernel
theorem dX8_withItems_5 : decode cX8_withItems 5 = .ok (.iconst 5, 1) := by decide +kernel
theorem dX8_withItems_6 : decode cX8_withItems 6 = .ok (.anewarray 10, 3) := by decide +kernel
theorem dX8_withItems_9 : decode cX8_withItems 9 = .ok (.astore_n 1, 1) := by decide +kernel
theorem dX8_withItems_10 : decode cX8_withItems 10 = .ok (.iconst 0, 1) := by decide +kernel
theorem dX8_withItems_11 : decode cX8_withItems 11 = .ok (.istore_n 2, 1) := by decide +kernel
theorem dX8_withItems_12 : decode cX8_withItems 12 = .ok (.iload_n 2, 1) := by decide +kernel
theorem dX8_withItems_13 : decode cX8_withItems 13 = .ok (.aload_n 1, 1) := by decide +kernel
theorem dX8_withItems_14 : decode cX8_withItems 14 = .ok (.arraylength, 1) := by decide +kernel
theorem dX8_withItems_15 : decode cX8_withItems 15 = .ok (.if_icmp .ge 22, 3) := by decide +kernel
theorem dX8_withItems_18 : decode cX8_withItems 18 = .ok (.aload_n 1, 1) := by decide +kernel
theorem dX8_withItems_19 : decode cX8_withItems 19 = .ok (.iload_n 2, 1) := by decide +kernel
theorem dX8_withItems_20 : decode cX8_withItems 20 = .ok (.new 10, 3) := by decide +kernel
theorem dX8_withItems_23 : decode cX8_withItems 23 = .ok (.dup, 1) := by decide +kernel
theorem dX8_withItems_24 : decode cX8_withItems 24 = .ok (.bipush 16, 2) := by decide +kernel
theorem dX8_withItems_26 : decode cX8_withItems 26 = .ok (.aload_n 0, 1) := by decide +kernel
theorem dX8_withItems_27 : decode cX8_withItems 27 = .ok (.invokespecial 43, 3) := by decide +kernel
theorem dX8_withItems_30 : decode cX8_withItems 30 = .ok (.aastore, 1) := by decide +kernel
theorem dX8_withItems_31 : decode cX8_withItems 31 = .ok (.iinc 2 1, 3) := by decide +kernel
theorem dX8_withItems_34 : decode cX8_withItems 34 = .ok (.goto (-22), 3) := by decide +kernel
theorem dX8_withItems_37 : decode cX8_withItems 37 = .ok (.new 10, 3) := by decide +kernel
theorem dX8_withItems_40 : decode cX8_withItems 40 = .ok (.dup, 1) := by decide +kernel
theorem dX8_withItems_41 : decode cX8_withItems 41 = .ok (.bipush 84, 2) := by decide +kernel
theorem dX8_withItems_43 : decode cX8_withItems 43 = .ok (.aload_n 1, 1) := by decide +kernel
theorem dX8_withItems_44 : decode cX8_withItems 44 = .ok (.invokespecial 43, 3) := by decide +kernel
theorem dX8_withItems_47 : decode cX8_withItems 47 = .ok (.astore_n 2, 1) := by decide +kernel
theorem dX8_withItems_48 : decode cX8_withItems 48 = .ok (.aload_n 2, 1) := by decide +kernel
theorem dX8_withItems_49 : decode cX8_withItems 49 = .ok (.bipush 7, 2) := by decide +kernel
theorem dX8_withItems_51 : decode cX8_withItems 51 = .ok (.ldc 46, 2) := by decide +kernel
theorem dX8_withItems_53 : decode cX8_withItems 53 = .ok (.invokevirtual 48, 3) := by decide +kernel
theorem dX8_withItems_56 : decode cX8_withItems 56 = .ok (.aload_n 2, 1) := by decide +kernel
theorem dX8_withItems_57 : decode cX8_withItems 57 = .ok (.areturn, 1) := by decide +kernel
set_option maxRecDepth 20000 in
theorem ggX8_itemAt_X10_thingAt : GoodIn wsX8_itemAt wsX10_thingAt := goodIn_r _ [5] (by decide +kernel) (by decide +kernel)
set_option maxRecDepth 20000 in
theorem gX8_itemAt_X10_thingAt_n52 : GoodIn wsX8_itemAt (wsX10_thingAt) := ggX8_itemAt_X10_thingAt
theorem dX8_itemAt_0 : decode cX8_itemAt 0 = .ok (.iload_n 1, 1) := by decide +kernel
theorem dX8_itemAt_1 : decode cX8_itemAt 1 = .ok (.aload_n 0, 1) := by decide +kernel
theorem dX8_itemAt_2 : decode cX8_itemAt 2 = .ok (.getfield 27, 3) := by decide +kernel
theorem dX8_itemAt_5 : decode cX8_itemAt 5 = .ok (.if_icmp .ge 14, 3) := by decide +kernel
theorem dX8_itemAt_8 : decode cX8_itemAt 8 = .ok (.aload_n 0, 1) := by decide +kernel
theorem dX8_itemAt_9 : decode cX8_itemAt 9 = .ok (.getfield 39, 3) := by decide +kernel
theorem dX8_itemAt_12 : decode cX8_itemAt 12 = .ok (.iload_n 1, 1) := by decide +kernel
theorem dX8_itemAt_13 : decode cX8_itemAt 13 = .ok (.invokestatic 52, 3) := by decide +kernel
theorem dX8_itemAt_16 : decode cX8_itemAt 16 = .ok (.goto 4, 3) := by decide +kernel
theorem dX8_itemAt_19 : decode cX8_itemAt 19 = .ok (.aconst_null, 1) := by decide +kernel
theorem dX8_itemAt_20 : decode cX8_itemAt 20 = .ok (.areturn, 1) := by decide +kernel
set_option maxRecDepth 20000 in
theorem ggX8_nextItem_X10_thingAt : GoodIn wsX8_nextItem wsX10_thingAt := goodIn_r _ [5] (by decide +kernel) (by decide +kernel)
set_option maxRecDepth 20000 in
theorem gX8_nextItem_X10_thingAt_n52 : GoodIn wsX8_nextItem (wsX10_thingAt) := ggX8_nextItem_X10_thingAt
theorem dX8_nextItem_0 : decode cX8_nextItem 0 = .ok (.aload_n 0, 1) := by decide +kernel
theorem dX8_nextItem_1 : decode cX8_nextItem 1 = .ok (.getfield 39, 3) := by decide +kernel
theorem dX8_nextItem_4 : decode cX8_nextItem 4 = .ok (.aload_n 0, 1) := by decide +kernel
theorem dX8_nextItem_5 : decode cX8_nextItem 5 = .ok (.getfield 27, 3) := by decide +kernel
theorem dX8_nextItem_8 : decode cX8_nextItem 8 = .ok (.invokestatic 52, 3) := by decide +kernel
theorem dX8_nextItem_11 : decode cX8_nextItem 11 = .ok (.astore_n 1, 1) := by decide +kernel
theorem dX8_nextItem_12 : decode cX8_nextItem 12 = .ok (.aload_n 1, 1) := by decide +kernel
theorem dX8_nextItem_13 : decode cX8_nextItem 13 = .ok (.ifnull 13, 3) := by decide +kernel
theorem dX8_nextItem_16 : decode cX8_nextItem 16 = .ok (.aload_n 0, 1) := by decide +kernel
theorem dX8_nextItem_17 : decode cX8_nextItem 17 = .ok (.dup, 1) := by decide +kernel
theorem dX8_nextItem_18 : decode cX8_nextItem 18 = .ok (.getfield 27, 3) := by decide +kernel
theorem dX8_nextItem_21 : decode cX8_nextItem 21 = .ok (.iconst 1, 1) := by decide +kernel
theorem dX8_nextItem_22 : decode cX8_nextItem 22 = .ok (.iadd, 1) := by decide +kernel
theorem dX8_nextItem_23 : decode cX8_nextItem 23 = .ok (.putfield 27, 3) := by decide +kernel
theorem dX8_nextItem_26 : decode cX8_nextItem 26 = .ok (.aload_n 1, 1) := by decide +kernel
theorem dX8_nextItem_27 : decode cX8_nextItem 27 = .ok (.areturn, 1) := by decide +kernel
set_option maxRecDepth 20000 in
theorem ggX8_appendItem_X8_nextItem : GoodIn wsX8_appendItem wsX8_nextItem := goodIn_r _ [8, 9, 1, 10, 11, 12, 48, 49, 50, 51, 52, 53, 54] (by decide +kernel) (by decide +kernel)
set_option maxRecDepth 20000 in
theorem gX8_appendItem_X8_nextItem : GoodIn wsX8_appendItem (wsV RX8 56 RX8 yX8_nextItem wsX8_nextItem) := goodIn_app (goodIn_of _ (by decide +kernel)) ggX8_appendItem_X8_nextItem
set_option maxRecDepth 20000 in
theorem ggX8_appendItem_X8_copyPlain : GoodIn wsX8_appendItem wsX8_copyPlain := goodIn_r _ [16, 17, 18, 19, 20, 2, 21, 22, 23, 7, 24, 1, 3, 25, 26, 27, 28, 29, 30, 31, 32, 33, 34, 35, 48, 49, 50, 51, 52, 53, 54, 55, 56] (by decide +kernel) (by decide +kernel)
set_option maxRecDepth 20000 in
theorem gX8_appendItem_X8_copyPlain : GoodIn wsX8_appendItem (wsV RX8 60 RX8 yX8_copyPlain wsX8_copyPlain) := goodIn_app (goodIn_of _ (by decide +kernel)) ggX8_appendItem_X8_copyPlain
set_option maxRecDepth 20000 in
theorem ggX8_appendItem_X7_append : GoodIn wsX8_appendItem wsX7_append := goodIn_r _ [39, 34, 35, 55, 56] (by decide +kernel) (by decide +kernel)
set_option maxRecDepth 20000 in
theorem gX8_appendItem_X7_append : GoodIn wsX8_appendItem (wsV RX8 64 RX7 yX7_append wsX7_append) := goodIn_app (goodIn_of _ (by decide +kernel)) ggX8_appendItem_X7_append
set_option maxRecDepth 20000 in
theorem ggX8_appendItem_X8_isUndefinedOrNull : GoodIn wsX8_appendItem wsX8_isUndefinedOrNull := goodIn_r _ [43, 17, 48, 49, 50, 51, 52, 53, 54] (by decide +kernel) (by decide +kernel)
set_option maxRecDepth 20000 in
theorem gX8_appendItem_X8_isUndefinedOrNull : GoodIn wsX8_appendItem (wsV RX8 71 RX8 yX8_isUndefinedOrNull wsX8_isUndefinedOrNull) := goodIn_app (goodIn_of _ (by decide +kernel)) ggX8_appendItem_X8_isUndefinedOrNull
set_option maxRecDepth 20000 in
theorem ggX8_appendItem_X7_at : GoodIn wsX8_appendItem wsX7_at := goodIn_r _ [47, 34, 35, 55, 56] (by decide +kernel) (by decide +kernel)
set_option maxRecDepth 20000 in
theorem gX8_appendItem_X7_at : GoodIn wsX8_appendItem (wsV RX8 75 RX7 yX7_at wsX7_at) := goodIn_app (goodIn_of _ (by decide +kernel)) ggX8_appendItem_X7_at
theorem dX8_appendItem_0 : decode cX8_appendItem 0 = .ok (.aload_n 0, 1) := by decide +kernel
theorem dX8_appendItem_1 : decode cX8_appendItem 1 = .ok (.invokevirtual 56, 3) := by decide +kernel
theorem dX8_appendItem_4 : decode cX8_appendItem 4 = .ok (.astore_n 2, 1) := by decide +kernel
theorem dX8_appendItem_5 : decode cX8_appendItem 5 = .ok (.aload_n 2, 1) := by decide +kernel
theorem dX8_appendItem_6 : decode cX8_appendItem 6 = .ok (.ifnonnull 4, 3) := by decide +kernel
theorem dX8_appendItem_9 : decode cX8_appendItem 9 = .ok (.return_, 1) := by decide +kernel
theorem dX8_appendItem_10 : decode cX8_appendItem 10 = .ok (.aload_n 2, 1) := by decide +kernel
theorem dX8_appendItem_11 : decode cX8_appendItem 11 = .ok (.aload_n 1, 1) := by decide +kernel
theorem dX8_appendItem_12 : decode cX8_appendItem 12 = .ok (.invokevirtual 60, 3) := by decide +kernel
theorem dX8_appendItem_15 : decode cX8_appendItem 15 = .ok (.aload_n 0, 1) := by decide +kernel
theorem dX8_appendItem_16 : decode cX8_appendItem 16 = .ok (.getfield 27, 3) := by decide +kernel
theorem dX8_appendItem_19 : decode cX8_appendItem 19 = .ok (.iconst 1, 1) := by decide +kernel
theorem dX8_appendItem_20 : decode cX8_appendItem 20 = .ok (.if_icmp .le 12, 3) := by decide +kernel
theorem dX8_appendItem_23 : decode cX8_appendItem 23 = .ok (.aload_n 0, 1) := by decide +kernel
theorem dX8_appendItem_24 : decode cX8_appendItem 24 = .ok (.getfield 35, 3) := by decide +kernel
theorem dX8_appendItem_27 : decode cX8_appendItem 27 = .ok (.bipush 44, 2) := by decide +kernel
theorem dX8_appendItem_29 : decode cX8_appendItem 29 = .ok (.invokevirtual 64, 3) := by decide +kernel
theorem dX8_appendItem_32 : decode cX8_appendItem 32 = .ok (.iconst 0, 1) := by decide +kernel
theorem dX8_appendItem_33 : decode cX8_appendItem 33 = .ok (.istore_n 3, 1) := by decide +kernel
theorem dX8_appendItem_34 : decode cX8_appendItem 34 = .ok (.iload_n 3, 1) := by decide +kernel
theorem dX8_appendItem_35 : decode cX8_appendItem 35 = .ok (.aload_n 1, 1) := by decide +kernel
theorem dX8_appendItem_36 : decode cX8_appendItem 36 = .ok (.getfield 35, 3) := by decide +kernel
theorem dX8_appendItem_39 : decode cX8_appendItem 39 = .ok (.getfield 68, 3) := by decide +kernel
theorem dX8_appendItem_42 : decode cX8_appendItem 42 = .ok (.if_icmp .ge 31, 3) := by decide +kernel
theorem dX8_appendItem_45 : decode cX8_appendItem 45 = .ok (.aload_n 1, 1) := by decide +kernel
theorem dX8_appendItem_46 : decode cX8_appendItem 46 = .ok (.invokevirtual 71, 3) := by decide +kernel
theorem dX8_appendItem_49 : decode cX8_appendItem 49 = .ok (.ifCond .ne 24, 3) := by decide +kernel
theorem dX8_appendItem_52 : decode cX8_appendItem 52 = .ok (.aload_n 0, 1) := by decide +kernel
theorem dX8_appendItem_53 : decode cX8_appendItem 53 = .ok (.getfield 35, 3) := by decide +kernel
theorem dX8_appendItem_56 : decode cX8_appendItem 56 = .ok (.aload_n 1, 1) := by decide +kernel
theorem dX8_appendItem_57 : decode cX8_appendItem 57 = .ok (.getfield 35, 3) := by decide +kernel
theorem dX8_appendItem_60 : decode cX8_appendItem 60 = .ok (.iload_n 3, 1) := by decide +kernel
theorem dX8_appendItem_61 : decode cX8_appendItem 61 = .ok (.invokevirtual 75, 3) := by decide +kernel
theorem dX8_appendItem_64 : decode cX8_appendItem 64 = .ok (.invokevirtual 64, 3) := by decide +kernel
theorem dX8_appendItem_67 : decode cX8_appendItem 67 = .ok (.iinc 3 1, 3) := by decide +kernel
theorem dX8_appendItem_70 : decode cX8_appendItem 70 = .ok (.goto (-36), 3) := by decide +kernel
theorem dX8_appendItem_73 : decode cX8_appendItem 73 = .ok (.return_, 1) := by decide +kernel
theorem dX8_become_0 : decode cX8_become 0 = .ok (.aload_n 0, 1) := by decide +kernel
theorem dX8_become_1 : decode cX8_become 1 = .ok (.iload_n 1, 1) := by decide +kernel
theorem dX8_become_2 : decode cX8_become 2 = .ok (.putfield 9, 3) := by decide +kernel
theorem dX8_become_5 : decode cX8_become 5 = .ok (.aload_n 0, 1) := by decide +kernel
theorem dX8_become_6 : decode cX8_become 6 = .ok (.lconst 0, 1) := by decide +kernel
theorem dX8_become_7 : decode cX8_become 7 = .ok (.putfield 15, 3) := by decide +kernel
theorem dX8_become_10 : decode cX8_become 10 = .ok (.aload_n 0, 1) := by decide +kernel
theorem dX8_become_11 : decode cX8_become 11 = .ok (.dconst 0, 1) := by decide +kernel
theorem dX8_become_12 : decode cX8_become 12 = .ok (.putfield 19, 3) := by decide +kernel
theorem dX8_become_15 : decode cX8_become 15 = .ok (.aload_n 0, 1) := by decide +kernel
theorem dX8_become_16 : decode cX8_become 16 = .ok (.iconst 0, 1) := by decide +kernel
theorem dX8_become_17 : decode cX8_become 17 = .ok (.putfield 23, 3) := by decide +kernel
theorem dX8_become_20 : decode cX8_become 20 = .ok (.aload_n 0, 1) := by decide +kernel
theorem dX8_become_21 : decode cX8_become 21 = .ok (.iconst 0, 1) := by decide +kernel
theorem dX8_become_22 : decode cX8_become 22 = .ok (.putfield 27, 3) := by decide +kernel
theorem dX8_become_25 : decode cX8_become 25 = .ok (.aload_n 0, 1) := by decide +kernel
theorem dX8_become_26 : decode cX8_become 26 = .ok (.getfield 35, 3) := by decide +kernel
theorem dX8_become_29 : decode cX8_become 29 = .ok (.iconst 0, 1) := by decide +kernel
theorem dX8_become_30 : decode cX8_become 30 = .ok (.putfield 68, 3) := by decide +kernel
theorem dX8_become_33 : decode cX8_become 33 = .ok (.return_, 1) := by decide +kernel
theorem dX8_knowNumber_0 : decode cX8_knowNumber 0 = .ok (.aload_n 0, 1) := by decide +kernel
theorem dX8_knowNumber_1 : decode cX8_knowNumber 1 = .ok (.iload_n 1, 1) := by decide +kernel
theorem dX8_knowNumber_2 : decode cX8_knowNumber 2 = .ok (.putfield 23, 3) := by decide +kernel
theorem dX8_knowNumber_5 : decode cX8_knowNumber 5 = .ok (.aload_n 0, 1) := by decide +kernel
theorem dX8_knowNumber_6 : decode cX8_knowNumber 6 = .ok (.dload_n 2, 1) := by decide +kernel
theorem dX8_knowNumber_7 : decode cX8_knowNumber 7 = .ok (.putfield 19, 3) := by decide +kernel
theorem dX8_knowNumber_10 : decode cX8_knowNumber 10 = .ok (.return_, 1) := by decide +kernel
set_option maxRecDepth 20000 in
theorem ggX8_becomeNamed_X8_become : GoodIn wsX8_becomeNamed wsX8_become := goodIn_r _ [6, 7, 8, 9, 10, 11, 1, 12, 73, 74, 75, 76, 77, 78, 79, 80, 81] (by decide +kernel) (by decide +kernel)
set_option maxRecDepth 20000 in
theorem gX8_becomeNamed_X8_become : GoodIn wsX8_becomeNamed (wsV RX8 79 RX8 yX8_become wsX8_become) := goodIn_app (goodIn_of _ (by decide +kernel)) ggX8_becomeNamed_X8_become
set_option maxRecDepth 20000 in
theorem ggX8_becomeNamed_X7_appendLetters : GoodIn wsX8_becomeNamed wsX7_appendLetters := goodIn_r _ [17, 18, 19, 20, 21, 22, 23, 24, 25, 26, 27, 28, 29, 30, 31, 32, 33, 34, 35, 36, 37, 38, 39, 40, 41, 42, 43, 44, 45, 46, 47, 48, 49, 50, 51, 52, 53, 54, 55, 56, 57, 58, 59, 60, 61, 62, 63, 64, 65, 66, 67, 68, 69, 16, 70, 71, 72, 80, 81] (by decide +kernel) (by decide +kernel)
set_option maxRecDepth 20000 in
theorem gX8_becomeNamed_X7_appendLetters : GoodIn wsX8_becomeNamed (wsV RX8 82 RX7 yX7_appendLetters wsX7_appendLetters) := goodIn_app (goodIn_of _ (by decide +kernel)) ggX8_becomeNamed_X7_appendLetters
theorem dX8_becomeNamed_0 : decode cX8_becomeNamed 0 = .ok (.aload_n 0, 1) := by decide +kernel
theorem dX8_becomeNamed_1 : decode cX8_becomeNamed 1 = .ok (.iload_n 1, 1) := by decide +kernel
theorem dX8_becomeNamed_2 : decode cX8_becomeNamed 2 = .ok (.invokevirtual 79, 3) := by decide +kernel
theorem dX8_becomeNamed_5 : decode cX8_becomeNamed 5 = .ok (.aload_n 0, 1) := by decide +kernel
