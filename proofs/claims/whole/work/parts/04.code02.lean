theorem dX4_digitOf_0 : decode cX4_digitOf 0 = .ok (.iload_n 0, 1) := by decide +kernel
theorem dX4_digitOf_1 : decode cX4_digitOf 1 = .ok (.invokestatic 38, 3) := by decide +kernel
theorem dX4_digitOf_4 : decode cX4_digitOf 4 = .ok (.ifCond .eq 8, 3) := by decide +kernel
theorem dX4_digitOf_7 : decode cX4_digitOf 7 = .ok (.iload_n 0, 1) := by decide +kernel
theorem dX4_digitOf_8 : decode cX4_digitOf 8 = .ok (.bipush 48, 2) := by decide +kernel
theorem dX4_digitOf_10 : decode cX4_digitOf 10 = .ok (.isub, 1) := by decide +kernel
theorem dX4_digitOf_11 : decode cX4_digitOf 11 = .ok (.ireturn, 1) := by decide +kernel
theorem dX4_digitOf_12 : decode cX4_digitOf 12 = .ok (.iload_n 0, 1) := by decide +kernel
theorem dX4_digitOf_13 : decode cX4_digitOf 13 = .ok (.bipush 97, 2) := by decide +kernel
theorem dX4_digitOf_15 : decode cX4_digitOf 15 = .ok (.if_icmp .lt 17, 3) := by decide +kernel
theorem dX4_digitOf_18 : decode cX4_digitOf 18 = .ok (.iload_n 0, 1) := by decide +kernel
theorem dX4_digitOf_19 : decode cX4_digitOf 19 = .ok (.bipush 102, 2) := by decide +kernel
theorem dX4_digitOf_21 : decode cX4_digitOf 21 = .ok (.if_icmp .gt 11, 3) := by decide +kernel
theorem dX4_digitOf_24 : decode cX4_digitOf 24 = .ok (.iload_n 0, 1) := by decide +kernel
theorem dX4_digitOf_25 : decode cX4_digitOf 25 = .ok (.bipush 97, 2) := by decide +kernel
theorem dX4_digitOf_27 : decode cX4_digitOf 27 = .ok (.isub, 1) := by decide +kernel
theorem dX4_digitOf_28 : decode cX4_digitOf 28 = .ok (.bipush 10, 2) := by decide +kernel
theorem dX4_digitOf_30 : decode cX4_digitOf 30 = .ok (.iadd, 1) := by decide +kernel
theorem dX4_digitOf_31 : decode cX4_digitOf 31 = .ok (.ireturn, 1) := by decide +kernel
theorem dX4_digitOf_32 : decode cX4_digitOf 32 = .ok (.iload_n 0, 1) := by decide +kernel
theorem dX4_digitOf_33 : decode cX4_digitOf 33 = .ok (.bipush 65, 2) := by decide +kernel
theorem dX4_digitOf_35 : decode cX4_digitOf 35 = .ok (.if_icmp .lt 19, 3) := by decide +kernel
theorem dX4_digitOf_38 : decode cX4_digitOf 38 = .ok (.iload_n 0, 1) := by decide +kernel
theorem dX4_digitOf_39 : decode cX4_digitOf 39 = .ok (.bipush 70, 2) := by decide +kernel
theorem dX4_digitOf_41 : decode cX4_digitOf 41 = .ok (.if_icmp .gt 13, 3) := by decide +kernel
theorem dX4_digitOf_44 : decode cX4_digitOf 44 = .ok (.iload_n 0, 1) := by decide +kernel
theorem dX4_digitOf_45 : decode cX4_digitOf 45 = .ok (.bipush 65, 2) := by decide +kernel
theorem dX4_digitOf_47 : decode cX4_digitOf 47 = .ok (.isub, 1) := by decide +kernel
theorem dX4_digitOf_48 : decode cX4_digitOf 48 = .ok (.bipush 10, 2) := by decide +kernel
theorem dX4_digitOf_50 : decode cX4_digitOf 50 = .ok (.iadd, 1) := by decide +kernel
theorem dX4_digitOf_51 : decode cX4_digitOf 51 = .ok (.goto 4, 3) := by decide +kernel
theorem dX4_digitOf_54 : decode cX4_digitOf 54 = .ok (.iconst (-1), 1) := by decide +kernel
theorem dX4_digitOf_55 : decode cX4_digitOf 55 = .ok (.ireturn, 1) := by decide +kernel
theorem dX4_isDigit_0 : decode cX4_isDigit 0 = .ok (.iload_n 0, 1) := by decide +kernel
theorem dX4_isDigit_1 : decode cX4_isDigit 1 = .ok (.bipush 48, 2) := by decide +kernel
theorem dX4_isDigit_3 : decode cX4_isDigit 3 = .ok (.if_icmp .lt 13, 3) := by decide +kernel
theorem dX4_isDigit_6 : decode cX4_isDigit 6 = .ok (.iload_n 0, 1) := by decide +kernel
theorem dX4_isDigit_7 : decode cX4_isDigit 7 = .ok (.bipush 57, 2) := by decide +kernel
theorem dX4_isDigit_9 : decode cX4_isDigit 9 = .ok (.if_icmp .gt 7, 3) := by decide +kernel
theorem dX4_isDigit_12 : decode cX4_isDigit 12 = .ok (.iconst 1, 1) := by decide +kernel
theorem dX4_isDigit_13 : decode cX4_isDigit 13 = .ok (.goto 4, 3) := by decide +kernel
theorem dX4_isDigit_16 : decode cX4_isDigit 16 = .ok (.iconst 0, 1) := by decide +kernel
theorem dX4_isDigit_17 : decode cX4_isDigit 17 = .ok (.ireturn, 1) := by decide +kernel
set_option maxRecDepth 20000 in
theorem ggX4_readDecimal_X7_at : GoodIn wsX4_readDecimal wsX7_at := goodIn_r _ [8, 9, 10, 16, 17] (by decide +kernel) (by decide +kernel)
set_option maxRecDepth 20000 in
theorem gX4_readDecimal_X7_at : GoodIn wsX4_readDecimal (wsV RX4 21 RX7 yX7_at wsX7_at) := goodIn_app (goodIn_of _ (by decide +kernel)) ggX4_readDecimal_X7_at
set_option maxRecDepth 20000 in
theorem ggX4_readDecimal_X4_isDigit : GoodIn wsX4_readDecimal wsX4_isDigit := goodIn_r _ [14] (by decide +kernel) (by decide +kernel)
set_option maxRecDepth 20000 in
theorem gX4_readDecimal_X4_isDigit : GoodIn wsX4_readDecimal (va_wsS RX4 38 yX4_isDigit wsX4_isDigit) := goodIn_app (goodIn_of _ (by decide +kernel)) ggX4_readDecimal_X4_isDigit
theorem dX4_readDecimal_0 : decode cX4_readDecimal 0 = .ok (.iload_n 2, 1) := by decide +kernel
theorem dX4_readDecimal_1 : decode cX4_readDecimal 1 = .ok (.iload_n 3, 1) := by decide +kernel
theorem dX4_readDecimal_2 : decode cX4_readDecimal 2 = .ok (.if_icmp .ge 27, 3) := by decide +kernel
theorem dX4_readDecimal_5 : decode cX4_readDecimal 5 = .ok (.aload_n 1, 1) := by decide +kernel
theorem dX4_readDecimal_6 : decode cX4_readDecimal 6 = .ok (.iload_n 2, 1) := by decide +kernel
theorem dX4_readDecimal_7 : decode cX4_readDecimal 7 = .ok (.invokevirtual 21, 3) := by decide +kernel
theorem dX4_readDecimal_10 : decode cX4_readDecimal 10 = .ok (.invokestatic 38, 3) := by decide +kernel
theorem dX4_readDecimal_13 : decode cX4_readDecimal 13 = .ok (.ifCond .eq 16, 3) := by decide +kernel
theorem dX4_readDecimal_16 : decode cX4_readDecimal 16 = .ok (.aload_n 1, 1) := by decide +kernel
theorem dX4_readDecimal_17 : decode cX4_readDecimal 17 = .ok (.iload_n 3, 1) := by decide +kernel
theorem dX4_readDecimal_18 : decode cX4_readDecimal 18 = .ok (.iconst 1, 1) := by decide +kernel
theorem dX4_readDecimal_19 : decode cX4_readDecimal 19 = .ok (.isub, 1) := by decide +kernel
theorem dX4_readDecimal_20 : decode cX4_readDecimal 20 = .ok (.invokevirtual 21, 3) := by decide +kernel
theorem dX4_readDecimal_23 : decode cX4_readDecimal 23 = .ok (.invokestatic 38, 3) := by decide +kernel
theorem dX4_readDecimal_26 : decode cX4_readDecimal 26 = .ok (.ifCond .ne 5, 3) := by decide +kernel
theorem dX4_readDecimal_29 : decode cX4_readDecimal 29 = .ok (.iconst 0, 1) := by decide +kernel
theorem dX4_readDecimal_30 : decode cX4_readDecimal 30 = .ok (.ireturn, 1) := by decide +kernel
theorem dX4_readDecimal_31 : decode cX4_readDecimal 31 = .ok (.lconst 0, 1) := by decide +kernel
theorem dX4_readDecimal_32 : decode cX4_readDecimal 32 = .ok (.lstore 4, 2) := by decide +kernel
theorem dX4_readDecimal_34 : decode cX4_readDecimal 34 = .ok (.dconst 1, 1) := by decide +kernel
theorem dX4_readDecimal_35 : decode cX4_readDecimal 35 = .ok (.dstore 6, 2) := by decide +kernel
theorem dX4_readDecimal_37 : decode cX4_readDecimal 37 = .ok (.iconst 0, 1) := by decide +kernel
theorem dX4_readDecimal_38 : decode cX4_readDecimal 38 = .ok (.istore 8, 2) := by decide +kernel
theorem dX4_readDecimal_40 : decode cX4_readDecimal 40 = .ok (.iload_n 2, 1) := by decide +kernel
theorem dX4_readDecimal_41 : decode cX4_readDecimal 41 = .ok (.istore 9, 2) := by decide +kernel
theorem dX4_readDecimal_43 : decode cX4_readDecimal 43 = .ok (.iload 9, 2) := by decide +kernel
theorem dX4_readDecimal_45 : decode cX4_readDecimal 45 = .ok (.iload_n 3, 1) := by decide +kernel
theorem dX4_readDecimal_46 : decode cX4_readDecimal 46 = .ok (.if_icmp .ge 81, 3) := by decide +kernel
theorem dX4_readDecimal_49 : decode cX4_readDecimal 49 = .ok (.aload_n 1, 1) := by decide +kernel
theorem dX4_readDecimal_50 : decode cX4_readDecimal 50 = .ok (.iload 9, 2) := by decide +kernel
theorem dX4_readDecimal_52 : decode cX4_readDecimal 52 = .ok (.invokevirtual 21, 3) := by decide +kernel
theorem dX4_readDecimal_55 : decode cX4_readDecimal 55 = .ok (.istore 10, 2) := by decide +kernel
theorem dX4_readDecimal_57 : decode cX4_readDecimal 57 = .ok (.iload 10, 2) := by decide +kernel
theorem dX4_readDecimal_59 : decode cX4_readDecimal 59 = .ok (.bipush 46, 2) := by decide +kernel
theorem dX4_readDecimal_61 : decode cX4_readDecimal 61 = .ok (.if_icmp .ne 14, 3) := by decide +kernel
theorem dX4_readDecimal_64 : decode cX4_readDecimal 64 = .ok (.iload 8, 2) := by decide +kernel
theorem dX4_readDecimal_66 : decode cX4_readDecimal 66 = .ok (.ifCond .ne 9, 3) := by decide +kernel
theorem dX4_readDecimal_69 : decode cX4_readDecimal 69 = .ok (.iconst 1, 1) := by decide +kernel
theorem dX4_readDecimal_70 : decode cX4_readDecimal 70 = .ok (.istore 8, 2) := by decide +kernel
theorem dX4_readDecimal_72 : decode cX4_readDecimal 72 = .ok (.goto 49, 3) := by decide +kernel
theorem dX4_readDecimal_75 : decode cX4_readDecimal 75 = .ok (.iload 10, 2) := by decide +kernel
theorem dX4_readDecimal_77 : decode cX4_readDecimal 77 = .ok (.invokestatic 38, 3) := by decide +kernel
theorem dX4_readDecimal_80 : decode cX4_readDecimal 80 = .ok (.ifCond .eq 39, 3) := by decide +kernel
theorem dX4_readDecimal_83 : decode cX4_readDecimal 83 = .ok (.lload 4, 2) := by decide +kernel
theorem dX4_readDecimal_85 : decode cX4_readDecimal 85 = .ok (.ldc2_w 42, 3) := by decide +kernel
theorem dX4_readDecimal_88 : decode cX4_readDecimal 88 = .ok (.lmul, 1) := by decide +kernel
theorem dX4_readDecimal_89 : decode cX4_readDecimal 89 = .ok (.iload 10, 2) := by decide +kernel
theorem dX4_readDecimal_91 : decode cX4_readDecimal 91 = .ok (.bipush 48, 2) := by decide +kernel
theorem dX4_readDecimal_93 : decode cX4_readDecimal 93 = .ok (.isub, 1) := by decide +kernel
theorem dX4_readDecimal_94 : decode cX4_readDecimal 94 = .ok (.i2l, 1) := by decide +kernel
theorem dX4_readDecimal_95 : decode cX4_readDecimal 95 = .ok (.ladd, 1) := by decide +kernel
theorem dX4_readDecimal_96 : decode cX4_readDecimal 96 = .ok (.lstore 4, 2) := by decide +kernel
theorem dX4_readDecimal_98 : decode cX4_readDecimal 98 = .ok (.iload 8, 2) := by decide +kernel
theorem dX4_readDecimal_100 : decode cX4_readDecimal 100 = .ok (.ifCond .eq 12, 3) := by decide +kernel
theorem dX4_readDecimal_103 : decode cX4_readDecimal 103 = .ok (.dload 6, 2) := by decide +kernel
theorem dX4_readDecimal_105 : decode cX4_readDecimal 105 = .ok (.ldc2_w 44, 3) := by decide +kernel
theorem dX4_readDecimal_108 : decode cX4_readDecimal 108 = .ok (.dmul, 1) := by decide +kernel
theorem dX4_readDecimal_109 : decode cX4_readDecimal 109 = .ok (.goto 5, 3) := by decide +kernel
theorem dX4_readDecimal_112 : decode cX4_readDecimal 112 = .ok (.dload 6, 2) := by decide +kernel
theorem dX4_readDecimal_114 : decode cX4_readDecimal 114 = .ok (.dstore 6, 2) := by decide +kernel
theorem dX4_readDecimal_116 : decode cX4_readDecimal 116 = .ok (.goto 5, 3) := by decide +kernel
theorem dX4_readDecimal_119 : decode cX4_readDecimal 119 = .ok (.iconst 0, 1) := by decide +kernel
theorem dX4_readDecimal_120 : decode cX4_readDecimal 120 = .ok (.ireturn, 1) := by decide +kernel
theorem dX4_readDecimal_121 : decode cX4_readDecimal 121 = .ok (.iinc 9 1, 3) := by decide +kernel
theorem dX4_readDecimal_124 : decode cX4_readDecimal 124 = .ok (.goto (-81), 3) := by decide +kernel
theorem dX4_readDecimal_127 : decode cX4_readDecimal 127 = .ok (.aload_n 0, 1) := by decide +kernel
theorem dX4_readDecimal_128 : decode cX4_readDecimal 128 = .ok (.lload 4, 2) := by decide +kernel
theorem dX4_readDecimal_130 : decode cX4_readDecimal 130 = .ok (.l2d, 1) := by decide +kernel
theorem dX4_readDecimal_131 : decode cX4_readDecimal 131 = .ok (.dload 6, 2) := by decide +kernel
theorem dX4_readDecimal_133 : decode cX4_readDecimal 133 = .ok (.ddiv, 1) := by decide +kernel
theorem dX4_readDecimal_134 : decode cX4_readDecimal 134 = .ok (.putfield 9, 3) := by decide +kernel
theorem dX4_readDecimal_137 : decode cX4_readDecimal 137 = .ok (.iconst 1, 1) := by decide +kernel
theorem dX4_readDecimal_138 : decode cX4_readDecimal 138 = .ok (.ireturn, 1) := by decide +kernel
theorem dX5_init_0 : decode cX5_init 0 = .ok (.aload_n 0, 1) := by decide +kernel
theorem dX5_init_1 : decode cX5_init 1 = .ok (.invokespecial 3, 3) := by decide +kernel
theorem dX5_init_4 : decode cX5_init 4 = .ok (.aload_n 0, 1) := by decide +kernel
theorem dX5_init_5 : decode cX5_init 5 = .ok (.bipush 6, 2) := by decide +kernel
theorem dX5_init_7 : decode cX5_init 7 = .ok (.anewarray 9, 3) := by decide +kernel
theorem dX5_init_10 : decode cX5_init 10 = .ok (.putfield 11, 3) := by decide +kernel
theorem dX5_init_13 : decode cX5_init 13 = .ok (.aload_n 0, 1) := by decide +kernel
theorem dX5_init_14 : decode cX5_init 14 = .ok (.iconst 0, 1) := by decide +kernel
theorem dX5_init_15 : decode cX5_init 15 = .ok (.putfield 17, 3) := by decide +kernel
theorem dX5_init_18 : decode cX5_init 18 = .ok (.aload_n 0, 1) := by decide +kernel
theorem dX5_init_19 : decode cX5_init 19 = .ok (.bipush 7, 2) := by decide +kernel
theorem dX5_init_21 : decode cX5_init 21 = .ok (.anewarray 9, 3) := by decide +kernel
theorem dX5_init_24 : decode cX5_init 24 = .ok (.putfield 21, 3) := by decide +kernel
theorem dX5_init_27 : decode cX5_init 27 = .ok (.aload_n 0, 1) := by decide +kernel
theorem dX5_init_28 : decode cX5_init 28 = .ok (.iconst 0, 1) := by decide +kernel
theorem dX5_init_29 : decode cX5_init 29 = .ok (.putfield 24, 3) := by decide +kernel
theorem dX5_init_32 : decode cX5_init 32 = .ok (.return_, 1) := by decide +kernel
theorem dX5_clear_0 : decode cX5_clear 0 = .ok (.aload_n 0, 1) := by decide +kernel
theorem dX5_clear_1 : decode cX5_clear 1 = .ok (.iconst 0, 1) := by decide +kernel
theorem dX5_clear_2 : decode cX5_clear 2 = .ok (.putfield 17, 3) := by decide +kernel
theorem dX5_clear_5 : decode cX5_clear 5 = .ok (.return_, 1) := by decide +kernel
theorem dX5_append_0 : decode cX5_append 0 = .ok (.aload_n 0, 1) := by decide +kernel
theorem dX5_append_1 : decode cX5_append 1 = .ok (.getfield 17, 3) := by decide +kernel
theorem dX5_append_4 : decode cX5_append 4 = .ok (.ifCond .lt 15, 3) := by decide +kernel
theorem dX5_append_7 : decode cX5_append 7 = .ok (.aload_n 0, 1) := by decide +kernel
theorem dX5_append_8 : decode cX5_append 8 = .ok (.getfield 17, 3) := by decide +kernel
theorem dX5_append_11 : decode cX5_append 11 = .ok (.aload_n 0, 1) := by decide +kernel
theorem dX5_append_12 : decode cX5_append 12 = .ok (.getfield 11, 3) := by decide +kernel
theorem dX5_append_15 : decode cX5_append 15 = .ok (.arraylength, 1) := by decide +kernel
theorem dX5_append_16 : decode cX5_append 16 = .ok (.if_icmp .lt 6, 3) := by decide +kernel
theorem dX5_append_19 : decode cX5_append 19 = .ok (.bipush (-4), 2) := by decide +kernel
theorem dX5_append_21 : decode cX5_append 21 = .ok (.ireturn, 1) := by decide +kernel
theorem dX5_append_22 : decode cX5_append 22 = .ok (.aload_n 1, 1) := by decide +kernel
theorem dX5_append_23 : decode cX5_append 23 = .ok (.aload_n 0, 1) := by decide +kernel
theorem dX5_append_24 : decode cX5_append 24 = .ok (.getfield 17, 3) := by decide +kernel
theorem dX5_append_27 : decode cX5_append 27 = .ok (.putfield 27, 3) := by decide +kernel
theorem dX5_append_30 : decode cX5_append 30 = .ok (.aload_n 0, 1) := by decide +kernel
theorem dX5_append_31 : decode cX5_append 31 = .ok (.getfield 11, 3) := by decide +kernel
theorem dX5_append_34 : decode cX5_append 34 = .ok (.aload_n 0, 1) := by decide +kernel
theorem dX5_append_35 : decode cX5_append 35 = .ok (.getfield 17, 3) := by decide +kernel
theorem dX5_append_38 : decode cX5_append 38 = .ok (.aload_n 1, 1) := by decide +kernel
theorem dX5_append_39 : decode cX5_append 39 = .ok (.aastore, 1) := by decide +kernel
theorem dX5_append_40 : decode cX5_append 40 = .ok (.aload_n 0, 1) := by decide +kernel
theorem dX5_append_41 : decode cX5_append 41 = .ok (.dup, 1) := by decide +kernel
theorem dX5_append_42 : decode cX5_append 42 = .ok (.getfield 17, 3) := by decide +kernel
theorem dX5_append_45 : decode cX5_append 45 = .ok (.iconst 1, 1) := by decide +kernel
theorem dX5_append_46 : decode cX5_append 46 = .ok (.iadd, 1) := by decide +kernel
theorem dX5_append_47 : decode cX5_append 47 = .ok (.putfield 17, 3) := by decide +kernel
theorem dX5_append_50 : decode cX5_append 50 = .ok (.aload_n 1, 1) := by decide +kernel
theorem dX5_append_51 : decode cX5_append 51 = .ok (.getfield 27, 3) := by decide +kernel
theorem dX5_append_54 : decode cX5_append 54 = .ok (.ireturn, 1) := by decide +kernel
theorem dX5_formAt_0 : decode cX5_formAt 0 = .ok (.iload_n 1, 1) := by decide +kernel
theorem dX5_formAt_1 : decode cX5_formAt 1 = .ok (.ifCond .lt 29, 3) := by decide +kernel
theorem dX5_formAt_4 : decode cX5_formAt 4 = .ok (.iload_n 1, 1) := by decide +kernel
theorem dX5_formAt_5 : decode cX5_formAt 5 = .ok (.aload_n 0, 1) := by decide +kernel
theorem dX5_formAt_6 : decode cX5_formAt 6 = .ok (.getfield 17, 3) := by decide +kernel
theorem dX5_formAt_9 : decode cX5_formAt 9 = .ok (.if_icmp .ge 21, 3) := by decide +kernel
theorem dX5_formAt_12 : decode cX5_formAt 12 = .ok (.iload_n 1, 1) := by decide +kernel
theorem dX5_formAt_13 : decode cX5_formAt 13 = .ok (.aload_n 0, 1) := by decide +kernel
theorem dX5_formAt_14 : decode cX5_formAt 14 = .ok (.getfield 11, 3) := by decide +kernel
theorem dX5_formAt_17 : decode cX5_formAt 17 = .ok (.arraylength, 1) := by decide +kernel
theorem dX5_formAt_18 : decode cX5_formAt 18 = .ok (.if_icmp .ge 12, 3) := by decide +kernel
theorem dX5_formAt_21 : decode cX5_formAt 21 = .ok (.aload_n 0, 1) := by decide +kernel
theorem dX5_formAt_22 : decode cX5_formAt 22 = .ok (.getfield 11, 3) := by decide +kernel
theorem dX5_formAt_25 : decode cX5_formAt 25 = .ok (.iload_n 1, 1) := by decide +kernel
theorem dX5_formAt_26 : decode cX5_formAt 26 = .ok (.aaload, 1) := by decide +kernel
theorem dX5_formAt_27 : decode cX5_formAt 27 = .ok (.goto 4, 3) := by decide +kernel
theorem dX5_formAt_30 : decode cX5_formAt 30 = .ok (.aconst_null, 1) := by decide +kernel
theorem dX5_formAt_31 : decode cX5_formAt 31 = .ok (.areturn, 1) := by decide +kernel
theorem dX5_ableAt_0 : decode cX5_ableAt 0 = .ok (.iload_n 1, 1) := by decide +kernel
theorem dX5_ableAt_1 : decode cX5_ableAt 1 = .ok (.ifCond .lt 29, 3) := by decide +kernel
theorem dX5_ableAt_4 : decode cX5_ableAt 4 = .ok (.iload_n 1, 1) := by decide +kernel
theorem dX5_ableAt_5 : decode cX5_ableAt 5 = .ok (.aload_n 0, 1) := by decide +kernel
theorem dX5_ableAt_6 : decode cX5_ableAt 6 = .ok (.getfield 24, 3) := by decide +kernel
theorem dX5_ableAt_9 : decode cX5_ableAt 9 = .ok (.if_icmp .ge 21, 3) := by decide +kernel
theorem dX5_ableAt_12 : decode cX5_ableAt 12 = .ok (.iload_n 1, 1) := by decide +kernel
theorem dX5_ableAt_13 : decode cX5_ableAt 13 = .ok (.aload_n 0, 1) := by decide +kernel
theorem dX5_ableAt_14 : decode cX5_ableAt 14 = .ok (.getfield 21, 3) := by decide +kernel
theorem dX5_ableAt_17 : decode cX5_ableAt 17 = .ok (.arraylength, 1) := by decide +kernel
theorem dX5_ableAt_18 : decode cX5_ableAt 18 = .ok (.if_icmp .ge 12, 3) := by decide +kernel
theorem dX5_ableAt_21 : decode cX5_ableAt 21 = .ok (.aload_n 0, 1) := by decide +kernel
theorem dX5_ableAt_22 : decode cX5_ableAt 22 = .ok (.getfield 21, 3) := by decide +kernel
theorem dX5_ableAt_25 : decode cX5_ableAt 25 = .ok (.iload_n 1, 1) := by decide +kernel
theorem dX5_ableAt_26 : decode cX5_ableAt 26 = .ok (.aaload, 1) := by decide +kernel
theorem dX5_ableAt_27 : decode cX5_ableAt 27 = .ok (.goto 4, 3) := by decide +kernel
theorem dX5_ableAt_30 : decode cX5_ableAt 30 = .ok (.aconst_null, 1) := by decide +kernel
theorem dX5_ableAt_31 : decode cX5_ableAt 31 = .ok (.areturn, 1) := by decide +kernel
set_option maxRecDepth 20000 in
theorem ggX5_mostArguments_X5_formAt : GoodIn wsX5_mostArguments wsX5_formAt := goodIn_r _ [10, 1, 11, 19, 20, 21, 22] (by decide +kernel) (by decide +kernel)
set_option maxRecDepth 20000 in
theorem gX5_mostArguments_X5_formAt : GoodIn wsX5_mostArguments (wsV RX5 30 RX5 yX5_formAt wsX5_formAt) := goodIn_app (goodIn_of _ (by decide +kernel)) ggX5_mostArguments_X5_formAt
set_option maxRecDepth 20000 in
theorem ggX5_mostArguments_X2_mostArguments : GoodIn wsX5_mostArguments wsX2_mostArguments := goodIn_r _ [16, 17, 18, 23, 24, 25, 26, 27] (by decide +kernel) (by decide +kernel)
set_option maxRecDepth 20000 in
theorem gX5_mostArguments_X2_mostArguments : GoodIn wsX5_mostArguments (wsV RX5 34 RX2 yX2_mostArguments wsX2_mostArguments) := goodIn_app (goodIn_of _ (by decide +kernel)) ggX5_mostArguments_X2_mostArguments
theorem dX5_mostArguments_0 : decode cX5_mostArguments 0 = .ok (.iconst (-1), 1) := by decide +kernel
theorem dX5_mostArguments_1 : decode cX5_mostArguments 1 = .ok (.istore_n 1, 1) := by decide +kernel
theorem dX5_mostArguments_2 : decode cX5_mostArguments 2 = .ok (.iconst 0, 1) := by decide +kernel
theorem dX5_mostArguments_3 : decode cX5_mostArguments 3 = .ok (.istore_n 2, 1) := by decide +kernel
theorem dX5_mostArguments_4 : decode cX5_mostArguments 4 = .ok (.iload_n 2, 1) := by decide +kernel
theorem dX5_mostArguments_5 : decode cX5_mostArguments 5 = .ok (.aload_n 0, 1) := by decide +kernel
theorem dX5_mostArguments_6 : decode cX5_mostArguments 6 = .ok (.getfield 17, 3) := by decide +kernel
theorem dX5_mostArguments_9 : decode cX5_mostArguments 9 = .ok (.if_icmp .ge 28, 3) := by decide +kernel
theorem dX5_mostArguments_12 : decode cX5_mostArguments 12 = .ok (.aload_n 0, 1) := by decide +kernel
theorem dX5_mostArguments_13 : decode cX5_mostArguments 13 = .ok (.iload_n 2, 1) := by decide +kernel
theorem dX5_mostArguments_14 : decode cX5_mostArguments 14 = .ok (.invokevirtual 30, 3) := by decide +kernel
theorem dX5_mostArguments_17 : decode cX5_mostArguments 17 = .ok (.astore_n 3, 1) := by decide +kernel
theorem dX5_mostArguments_18 : decode cX5_mostArguments 18 = .ok (.aload_n 3, 1) := by decide +kernel
theorem dX5_mostArguments_19 : decode cX5_mostArguments 19 = .ok (.ifnull 12, 3) := by decide +kernel
theorem dX5_mostArguments_22 : decode cX5_mostArguments 22 = .ok (.iload_n 1, 1) := by decide +kernel
theorem dX5_mostArguments_23 : decode cX5_mostArguments 23 = .ok (.aload_n 3, 1) := by decide +kernel
theorem dX5_mostArguments_24 : decode cX5_mostArguments 24 = .ok (.invokevirtual 34, 3) := by decide +kernel
theorem dX5_mostArguments_27 : decode cX5_mostArguments 27 = .ok (.invokestatic 38, 3) := by decide +kernel
theorem dX5_mostArguments_30 : decode cX5_mostArguments 30 = .ok (.istore_n 1, 1) := by decide +kernel
theorem dX5_mostArguments_31 : decode cX5_mostArguments 31 = .ok (.iinc 2 1, 3) := by decide +kernel
theorem dX5_mostArguments_34 : decode cX5_mostArguments 34 = .ok (.goto (-30), 3) := by decide +kernel
theorem dX5_mostArguments_37 : decode cX5_mostArguments 37 = .ok (.iload_n 1, 1) := by decide +kernel
theorem dX5_mostArguments_38 : decode cX5_mostArguments 38 = .ok (.ireturn, 1) := by decide +kernel
set_option maxRecDepth 20000 in
theorem ggX5_leastArguments_X5_formAt : GoodIn wsX5_leastArguments wsX5_formAt := goodIn_r _ [10, 1, 11, 32, 33, 34, 35] (by decide +kernel) (by decide +kernel)
set_option maxRecDepth 20000 in
theorem gX5_leastArguments_X5_formAt : GoodIn wsX5_leastArguments (wsV RX5 30 RX5 yX5_formAt wsX5_formAt) := goodIn_app (goodIn_of _ (by decide +kernel)) ggX5_leastArguments_X5_formAt
set_option maxRecDepth 20000 in
theorem ggX5_leastArguments_X2_leastArguments : GoodIn wsX5_leastArguments wsX2_leastArguments := goodIn_r _ [16, 17, 18, 19, 20, 15, 21, 22, 23, 3, 4, 5, 24, 25, 26, 27, 28, 29, 30, 31, 36, 37, 38, 39, 40, 41, 42, 43] (by decide +kernel) (by decide +kernel)
set_option maxRecDepth 20000 in
theorem gX5_leastArguments_X2_leastArguments : GoodIn wsX5_leastArguments (wsV RX5 44 RX2 yX2_leastArguments wsX2_leastArguments) := goodIn_app (goodIn_of _ (by decide +kernel)) ggX5_leastArguments_X2_leastArguments
theorem dX5_leastArguments_0 : decode cX5_leastArguments 0 = .ok (.iconst (-1), 1) := by decide +kernel
theorem dX5_leastArguments_1 : decode cX5_leastArguments 1 = .ok (.istore_n 1, 1) := by decide +kernel
theorem dX5_leastArguments_2 : decode cX5_leastArguments 2 = .ok (.iconst 0, 1) := by decide +kernel
theorem dX5_leastArguments_3 : decode cX5_leastArguments 3 = .ok (.istore_n 2, 1) := by decide +kernel
theorem dX5_leastArguments_4 : decode cX5_leastArguments 4 = .ok (.iload_n 2, 1) := by decide +kernel
theorem dX5_leastArguments_5 : decode cX5_leastArguments 5 = .ok (.aload_n 0, 1) := by decide +kernel
theorem dX5_leastArguments_6 : decode cX5_leastArguments 6 = .ok (.getfield 17, 3) := by decide +kernel
theorem dX5_leastArguments_9 : decode cX5_leastArguments 9 = .ok (.if_icmp .ge 42, 3) := by decide +kernel
theorem dX5_leastArguments_12 : decode cX5_leastArguments 12 = .ok (.aload_n 0, 1) := by decide +kernel
theorem dX5_leastArguments_13 : decode cX5_leastArguments 13 = .ok (.iload_n 2, 1) := by decide +kernel
theorem dX5_leastArguments_14 : decode cX5_leastArguments 14 = .ok (.invokevirtual 30, 3) := by decide +kernel
theorem dX5_leastArguments_17 : decode cX5_leastArguments 17 = .ok (.astore_n 3, 1) := by decide +kernel
theorem dX5_leastArguments_18 : decode cX5_leastArguments 18 = .ok (.aload_n 3, 1) := by decide +kernel
theorem dX5_leastArguments_19 : decode cX5_leastArguments 19 = .ok (.ifnull 26, 3) := by decide +kernel
theorem dX5_leastArguments_22 : decode cX5_leastArguments 22 = .ok (.aload_n 3, 1) := by decide +kernel
theorem dX5_leastArguments_23 : decode cX5_leastArguments 23 = .ok (.invokevirtual 44, 3) := by decide +kernel
theorem dX5_leastArguments_26 : decode cX5_leastArguments 26 = .ok (.istore 4, 2) := by decide +kernel
theorem dX5_leastArguments_28 : decode cX5_leastArguments 28 = .ok (.iload_n 1, 1) := by decide +kernel
theorem dX5_leastArguments_29 : decode cX5_leastArguments 29 = .ok (.iconst (-1), 1) := by decide +kernel
theorem dX5_leastArguments_30 : decode cX5_leastArguments 30 = .ok (.if_icmp .ne 8, 3) := by decide +kernel
theorem dX5_leastArguments_33 : decode cX5_leastArguments 33 = .ok (.iload 4, 2) := by decide +kernel
theorem dX5_leastArguments_35 : decode cX5_leastArguments 35 = .ok (.goto 9, 3) := by decide +kernel
theorem dX5_leastArguments_38 : decode cX5_leastArguments 38 = .ok (.iload_n 1, 1) := by decide +kernel
theorem dX5_leastArguments_39 : decode cX5_leastArguments 39 = .ok (.iload 4, 2) := by decide +kernel
theorem dX5_leastArguments_41 : decode cX5_leastArguments 41 = .ok (.invokestatic 47, 3) := by decide +kernel
theorem dX5_leastArguments_44 : decode cX5_leastArguments 44 = .ok (.istore_n 1, 1) := by decide +kernel
theorem dX5_leastArguments_45 : decode cX5_leastArguments 45 = .ok (.iinc 2 1, 3) := by decide +kernel
theorem dX5_leastArguments_48 : decode cX5_leastArguments 48 = .ok (.goto (-44), 3) := by decide +kernel
theorem dX5_leastArguments_51 : decode cX5_leastArguments 51 = .ok (.iload_n 1, 1) := by decide +kernel
theorem dX5_leastArguments_52 : decode cX5_leastArguments 52 = .ok (.ireturn, 1) := by decide +kernel
set_option maxRecDepth 20000 in
theorem ggX5_gather_X5_formAt : GoodIn wsX5_gather wsX5_formAt := goodIn_r _ [7, 2, 8, 45, 46, 47, 48] (by decide +kernel) (by decide +kernel)
set_option maxRecDepth 20000 in
theorem gX5_gather_X5_formAt : GoodIn wsX5_gather (wsV RX5 30 RX5 yX5_formAt wsX5_formAt) := goodIn_app (goodIn_of _ (by decide +kernel)) ggX5_gather_X5_formAt
set_option maxRecDepth 20000 in
theorem ggX5_gather_X5_gatherOne : GoodIn wsX5_gather wsX5_gatherOne := goodIn_r _ [12, 1, 13, 14, 15, 16, 17, 18, 19, 20, 21, 22, 23, 24, 25, 26, 27, 28, 29, 30, 31, 32, 33, 34, 35, 36, 37, 38, 39, 40, 41, 42, 43, 44, 45, 46, 47, 48, 49, 50, 51, 52, 53, 54, 55, 56] (by decide +kernel) (by decide +kernel)
set_option maxRecDepth 20000 in
theorem gX5_gather_X5_gatherOne : GoodIn wsX5_gather (wsV RX5 50 RX5 yX5_gatherOne wsX5_gatherOne) := goodIn_app (goodIn_of _ (by decide +kernel)) ggX5_gather_X5_gatherOne
theorem dX5_gather_0 : decode cX5_gather 0 = .ok (.aload_n 0, 1) := by decide +kernel
theorem dX5_gather_1 : decode cX5_gather 1 = .ok (.iconst 0, 1) := by decide +kernel
theorem dX5_gather_2 : decode cX5_gather 2 = .ok (.putfield 24, 3) := by decide +kernel
theorem dX5_gather_5 : decode cX5_gather 5 = .ok (.iconst 0, 1) := by decide +kernel
theorem dX5_gather_6 : decode cX5_gather 6 = .ok (.istore_n 3, 1) := by decide +kernel
theorem dX5_gather_7 : decode cX5_gather 7 = .ok (.iload_n 3, 1) := by decide +kernel
theorem dX5_gather_8 : decode cX5_gather 8 = .ok (.aload_n 0, 1) := by decide +kernel
theorem dX5_gather_9 : decode cX5_gather 9 = .ok (.getfield 17, 3) := by decide +kernel
theorem dX5_gather_12 : decode cX5_gather 12 = .ok (.if_icmp .ge 19, 3) := by decide +kernel
theorem dX5_gather_15 : decode cX5_gather 15 = .ok (.aload_n 0, 1) := by decide +kernel
theorem dX5_gather_16 : decode cX5_gather 16 = .ok (.iload_n 1, 1) := by decide +kernel
theorem dX5_gather_17 : decode cX5_gather 17 = .ok (.aload_n 0, 1) := by decide +kernel
theorem dX5_gather_18 : decode cX5_gather 18 = .ok (.iload_n 3, 1) := by decide +kernel
theorem dX5_gather_19 : decode cX5_gather 19 = .ok (.invokevirtual 30, 3) := by decide +kernel
theorem dX5_gather_22 : decode cX5_gather 22 = .ok (.invokevirtual 50, 3) := by decide +kernel
theorem dX5_gather_25 : decode cX5_gather 25 = .ok (.iinc 3 1, 3) := by decide +kernel
theorem dX5_gather_28 : decode cX5_gather 28 = .ok (.goto (-21), 3) := by decide +kernel
theorem dX5_gather_31 : decode cX5_gather 31 = .ok (.aload_n 0, 1) := by decide +kernel
theorem dX5_gather_32 : decode cX5_gather 32 = .ok (.iload_n 1, 1) := by decide +kernel
theorem dX5_gather_33 : decode cX5_gather 33 = .ok (.aload_n 2, 1) := by decide +kernel
theorem dX5_gather_34 : decode cX5_gather 34 = .ok (.invokevirtual 50, 3) := by decide +kernel
theorem dX5_gather_37 : decode cX5_gather 37 = .ok (.return_, 1) := by decide +kernel
set_option maxRecDepth 20000 in
theorem ggX5_gatherOne_X2_canBeCalledWith : GoodIn wsX5_gatherOne wsX2_canBeCalledWith := goodIn_r _ [7, 8, 9, 10, 6, 11, 12, 13, 14, 15, 16, 17, 18, 19, 20, 21, 22, 23, 24, 25, 26, 27, 28, 29, 30, 31, 32, 33, 38, 39, 40, 41, 42, 43, 44, 45] (by decide +kernel) (by decide +kernel)
set_option maxRecDepth 20000 in
theorem gX5_gatherOne_X2_canBeCalledWith : GoodIn wsX5_gatherOne (wsV RX5 54 RX2 yX2_canBeCalledWith wsX2_canBeCalledWith) := goodIn_app (goodIn_of _ (by decide +kernel)) ggX5_gatherOne_X2_canBeCalledWith
theorem dX5_gatherOne_0 : decode cX5_gatherOne 0 = .ok (.aload_n 2, 1) := by decide +kernel
theorem dX5_gatherOne_1 : decode cX5_gatherOne 1 = .ok (.ifnull 50, 3) := by decide +kernel
theorem dX5_gatherOne_4 : decode cX5_gatherOne 4 = .ok (.aload_n 2, 1) := by decide +kernel
theorem dX5_gatherOne_5 : decode cX5_gatherOne 5 = .ok (.iload_n 1, 1) := by decide +kernel
theorem dX5_gatherOne_6 : decode cX5_gatherOne 6 = .ok (.invokevirtual 54, 3) := by decide +kernel
theorem dX5_gatherOne_9 : decode cX5_gatherOne 9 = .ok (.ifCond .eq 42, 3) := by decide +kernel
theorem dX5_gatherOne_12 : decode cX5_gatherOne 12 = .ok (.aload_n 0, 1) := by decide +kernel
theorem dX5_gatherOne_13 : decode cX5_gatherOne 13 = .ok (.getfield 24, 3) := by decide +kernel
theorem dX5_gatherOne_16 : decode cX5_gatherOne 16 = .ok (.ifCond .lt 35, 3) := by decide +kernel
theorem dX5_gatherOne_19 : decode cX5_gatherOne 19 = .ok (.aload_n 0, 1) := by decide +kernel
theorem dX5_gatherOne_20 : decode cX5_gatherOne 20 = .ok (.getfield 24, 3) := by decide +kernel
theorem dX5_gatherOne_23 : decode cX5_gatherOne 23 = .ok (.aload_n 0, 1) := by decide +kernel
theorem dX5_gatherOne_24 : decode cX5_gatherOne 24 = .ok (.getfield 21, 3) := by decide +kernel
theorem dX5_gatherOne_27 : decode cX5_gatherOne 27 = .ok (.arraylength, 1) := by decide +kernel
theorem dX5_gatherOne_28 : decode cX5_gatherOne 28 = .ok (.if_icmp .ge 23, 3) := by decide +kernel
theorem dX5_gatherOne_31 : decode cX5_gatherOne 31 = .ok (.aload_n 0, 1) := by decide +kernel
theorem dX5_gatherOne_32 : decode cX5_gatherOne 32 = .ok (.getfield 21, 3) := by decide +kernel
theorem dX5_gatherOne_35 : decode cX5_gatherOne 35 = .ok (.aload_n 0, 1) := by decide +kernel
theorem dX5_gatherOne_36 : decode cX5_gatherOne 36 = .ok (.getfield 24, 3) := by decide +kernel
theorem dX5_gatherOne_39 : decode cX5_gatherOne 39 = .ok (.aload_n 2, 1) := by decide +kernel
theorem dX5_gatherOne_40 : decode cX5_gatherOne 40 = .ok (.aastore, 1) := by decide +kernel
theorem dX5_gatherOne_41 : decode cX5_gatherOne 41 = .ok (.aload_n 0, 1) := by decide +kernel
theorem dX5_gatherOne_42 : decode cX5_gatherOne 42 = .ok (.dup, 1) := by decide +kernel
theorem dX5_gatherOne_43 : decode cX5_gatherOne 43 = .ok (.getfield 24, 3) := by decide +kernel
theorem dX5_gatherOne_46 : decode cX5_gatherOne 46 = .ok (.iconst 1, 1) := by decide +kernel
theorem dX5_gatherOne_47 : decode cX5_gatherOne 47 = .ok (.iadd, 1) := by decide +kernel
theorem dX5_gatherOne_48 : decode cX5_gatherOne 48 = .ok (.putfield 24, 3) := by decide +kernel
theorem dX5_gatherOne_51 : decode cX5_gatherOne 51 = .ok (.return_, 1) := by decide +kernel
set_option maxRecDepth 20000 in
theorem ggX5_decidingFor_X5_areDistinctAt : GoodIn wsX5_decidingFor wsX5_areDistinctAt := goodIn_r _ [6, 1, 7, 8, 9, 5, 10, 11, 12, 13, 14, 15, 16, 17, 18, 19, 20, 21, 22, 23, 24, 25, 26, 27, 28, 29, 30, 31, 32, 33, 34, 35, 36, 37, 38, 39, 40, 68, 69, 70, 71, 72, 73, 74, 75, 76, 77, 78, 79, 80, 81, 82, 83, 84] (by decide +kernel) (by decide +kernel)
set_option maxRecDepth 20000 in
theorem gX5_decidingFor_X5_areDistinctAt : GoodIn wsX5_decidingFor (wsV RX5 58 RX5 yX5_areDistinctAt wsX5_areDistinctAt) := goodIn_app (goodIn_of _ (by decide +kernel)) ggX5_decidingFor_X5_areDistinctAt
set_option maxRecDepth 20000 in
theorem ggX5_decidingFor_X5_areSameAt : GoodIn wsX5_decidingFor wsX5_areSameAt := goodIn_r _ [44, 1, 12, 13, 14, 5, 15, 16, 17, 18, 19, 20, 21, 22, 23, 24, 25, 26, 27, 28, 29, 30, 31, 32, 45, 46, 47, 48, 49, 50, 51, 52, 53, 54, 55, 36, 56, 57, 58, 59, 60, 61, 38, 62, 40, 63, 64, 65, 66, 67, 68, 69, 70, 71, 75, 76, 77, 78, 79, 72, 73, 74, 80, 81, 82, 83, 84] (by decide +kernel) (by decide +kernel)
set_option maxRecDepth 20000 in
theorem gX5_decidingFor_X5_areSameAt : GoodIn wsX5_decidingFor (wsV RX5 61 RX5 yX5_areSameAt wsX5_areSameAt) := goodIn_app (goodIn_of _ (by decide +kernel)) ggX5_decidingFor_X5_areSameAt
theorem dX5_decidingFor_0 : decode cX5_decidingFor 0 = .ok (.aload_n 0, 1) := by decide +kernel
theorem dX5_decidingFor_1 : decode cX5_decidingFor 1 = .ok (.getfield 24, 3) := by decide +kernel
theorem dX5_decidingFor_4 : decode cX5_decidingFor 4 = .ok (.iconst 2, 1) := by decide +kernel
theorem dX5_decidingFor_5 : decode cX5_decidingFor 5 = .ok (.if_icmp .ge 5, 3) := by decide +kernel
theorem dX5_decidingFor_8 : decode cX5_decidingFor 8 = .ok (.iconst (-1), 1) := by decide +kernel
theorem dX5_decidingFor_9 : decode cX5_decidingFor 9 = .ok (.ireturn, 1) := by decide +kernel
theorem dX5_decidingFor_10 : decode cX5_decidingFor 10 = .ok (.iconst 0, 1) := by decide +kernel
theorem dX5_decidingFor_11 : decode cX5_decidingFor 11 = .ok (.istore_n 2, 1) := by decide +kernel
theorem dX5_decidingFor_12 : decode cX5_decidingFor 12 = .ok (.iload_n 2, 1) := by decide +kernel
theorem dX5_decidingFor_13 : decode cX5_decidingFor 13 = .ok (.iload_n 1, 1) := by decide +kernel
theorem dX5_decidingFor_14 : decode cX5_decidingFor 14 = .ok (.if_icmp .ge 29, 3) := by decide +kernel
theorem dX5_decidingFor_17 : decode cX5_decidingFor 17 = .ok (.aload_n 0, 1) := by decide +kernel
theorem dX5_decidingFor_18 : decode cX5_decidingFor 18 = .ok (.iload_n 2, 1) := by decide +kernel
theorem dX5_decidingFor_19 : decode cX5_decidingFor 19 = .ok (.invokevirtual 58, 3) := by decide +kernel
theorem dX5_decidingFor_22 : decode cX5_decidingFor 22 = .ok (.ifCond .eq 5, 3) := by decide +kernel
theorem dX5_decidingFor_25 : decode cX5_decidingFor 25 = .ok (.iload_n 2, 1) := by decide +kernel
theorem dX5_decidingFor_26 : decode cX5_decidingFor 26 = .ok (.ireturn, 1) := by decide +kernel
theorem dX5_decidingFor_27 : decode cX5_decidingFor 27 = .ok (.aload_n 0, 1) := by decide +kernel
theorem dX5_decidingFor_28 : decode cX5_decidingFor 28 = .ok (.iload_n 2, 1) := by decide +kernel
theorem dX5_decidingFor_29 : decode cX5_decidingFor 29 = .ok (.invokevirtual 61, 3) := by decide +kernel
theorem dX5_decidingFor_32 : decode cX5_decidingFor 32 = .ok (.ifCond .ne 5, 3) := by decide +kernel
theorem dX5_decidingFor_35 : decode cX5_decidingFor 35 = .ok (.iconst (-1), 1) := by decide +kernel
theorem dX5_decidingFor_36 : decode cX5_decidingFor 36 = .ok (.ireturn, 1) := by decide +kernel
theorem dX5_decidingFor_37 : decode cX5_decidingFor 37 = .ok (.iinc 2 1, 3) := by decide +kernel
theorem dX5_decidingFor_40 : decode cX5_decidingFor 40 = .ok (.goto (-28), 3) := by decide +kernel
theorem dX5_decidingFor_43 : decode cX5_decidingFor 43 = .ok (.iconst (-1), 1) := by decide +kernel
theorem dX5_decidingFor_44 : decode cX5_decidingFor 44 = .ok (.ireturn, 1) := by decide +kernel
set_option maxRecDepth 20000 in
theorem ggX5_areDistinctAt_X5_typeAt : GoodIn wsX5_areDistinctAt wsX5_typeAt := goodIn_r _ [6, 7, 8, 9, 10, 5, 11, 12, 13, 14, 15, 1, 16, 17, 18, 19, 20, 21, 22, 23, 24, 25, 26, 27, 28, 41, 42, 43, 37, 38, 39, 40, 44, 45, 46, 47, 48] (by decide +kernel) (by decide +kernel)
set_option maxRecDepth 20000 in
theorem gX5_areDistinctAt_X5_typeAt : GoodIn wsX5_areDistinctAt (wsV RX5 64 RX5 yX5_typeAt wsX5_typeAt) := goodIn_app (goodIn_of _ (by decide +kernel)) ggX5_areDistinctAt_X5_typeAt
set_option maxRecDepth 20000 in
theorem ggX5_areDistinctAt_X9_isDistinctFrom : GoodIn wsX5_areDistinctAt wsX9_isDistinctFrom := goodIn_r _ [33, 34, 35, 36, 49, 50, 51, 52, 53] (by decide +kernel) (by decide +kernel)
set_option maxRecDepth 20000 in
theorem gX5_areDistinctAt_X9_isDistinctFrom : GoodIn wsX5_areDistinctAt (wsV RX5 68 RX9 yX9_isDistinctFrom wsX9_isDistinctFrom) := goodIn_app (goodIn_of _ (by decide +kernel)) ggX5_areDistinctAt_X9_isDistinctFrom
theorem dX5_areDistinctAt_0 : decode cX5_areDistinctAt 0 = .ok (.iconst 0, 1) := by decide +kernel
theorem dX5_areDistinctAt_1 : decode cX5_areDistinctAt 1 = .ok (.istore_n 2, 1) := by decide +kernel
theorem dX5_areDistinctAt_2 : decode cX5_areDistinctAt 2 = .ok (.iload_n 2, 1) := by decide +kernel
theorem dX5_areDistinctAt_3 : decode cX5_areDistinctAt 3 = .ok (.aload_n 0, 1) := by decide +kernel
theorem dX5_areDistinctAt_4 : decode cX5_areDistinctAt 4 = .ok (.getfield 24, 3) := by decide +kernel
theorem dX5_areDistinctAt_7 : decode cX5_areDistinctAt 7 = .ok (.if_icmp .ge 60, 3) := by decide +kernel
theorem dX5_areDistinctAt_10 : decode cX5_areDistinctAt 10 = .ok (.iconst 0, 1) := by decide +kernel
theorem dX5_areDistinctAt_11 : decode cX5_areDistinctAt 11 = .ok (.istore_n 3, 1) := by decide +kernel
theorem dX5_areDistinctAt_12 : decode cX5_areDistinctAt 12 = .ok (.iload_n 3, 1) := by decide +kernel
theorem dX5_areDistinctAt_13 : decode cX5_areDistinctAt 13 = .ok (.iload_n 2, 1) := by decide +kernel
theorem dX5_areDistinctAt_14 : decode cX5_areDistinctAt 14 = .ok (.if_icmp .ge 47, 3) := by decide +kernel
theorem dX5_areDistinctAt_17 : decode cX5_areDistinctAt 17 = .ok (.aload_n 0, 1) := by decide +kernel
theorem dX5_areDistinctAt_18 : decode cX5_areDistinctAt 18 = .ok (.iload_n 2, 1) := by decide +kernel
theorem dX5_areDistinctAt_19 : decode cX5_areDistinctAt 19 = .ok (.iload_n 1, 1) := by decide +kernel
theorem dX5_areDistinctAt_20 : decode cX5_areDistinctAt 20 = .ok (.invokevirtual 64, 3) := by decide +kernel
theorem dX5_areDistinctAt_23 : decode cX5_areDistinctAt 23 = .ok (.astore 4, 2) := by decide +kernel
theorem dX5_areDistinctAt_25 : decode cX5_areDistinctAt 25 = .ok (.aload_n 0, 1) := by decide +kernel
theorem dX5_areDistinctAt_26 : decode cX5_areDistinctAt 26 = .ok (.iload_n 3, 1) := by decide +kernel
theorem dX5_areDistinctAt_27 : decode cX5_areDistinctAt 27 = .ok (.iload_n 1, 1) := by decide +kernel
theorem dX5_areDistinctAt_28 : decode cX5_areDistinctAt 28 = .ok (.invokevirtual 64, 3) := by decide +kernel
theorem dX5_areDistinctAt_31 : decode cX5_areDistinctAt 31 = .ok (.astore 5, 2) := by decide +kernel
theorem dX5_areDistinctAt_33 : decode cX5_areDistinctAt 33 = .ok (.aload 4, 2) := by decide +kernel
theorem dX5_areDistinctAt_35 : decode cX5_areDistinctAt 35 = .ok (.ifnull 18, 3) := by decide +kernel
theorem dX5_areDistinctAt_38 : decode cX5_areDistinctAt 38 = .ok (.aload 5, 2) := by decide +kernel
theorem dX5_areDistinctAt_40 : decode cX5_areDistinctAt 40 = .ok (.ifnull 13, 3) := by decide +kernel
theorem dX5_areDistinctAt_43 : decode cX5_areDistinctAt 43 = .ok (.aload 4, 2) := by decide +kernel
theorem dX5_areDistinctAt_45 : decode cX5_areDistinctAt 45 = .ok (.aload 5, 2) := by decide +kernel
theorem dX5_areDistinctAt_47 : decode cX5_areDistinctAt 47 = .ok (.invokevirtual 68, 3) := by decide +kernel
theorem dX5_areDistinctAt_50 : decode cX5_areDistinctAt 50 = .ok (.ifCond .ne 5, 3) := by decide +kernel
theorem dX5_areDistinctAt_53 : decode cX5_areDistinctAt 53 = .ok (.iconst 0, 1) := by decide +kernel
theorem dX5_areDistinctAt_54 : decode cX5_areDistinctAt 54 = .ok (.ireturn, 1) := by decide +kernel
theorem dX5_areDistinctAt_55 : decode cX5_areDistinctAt 55 = .ok (.iinc 3 1, 3) := by decide +kernel
theorem dX5_areDistinctAt_58 : decode cX5_areDistinctAt 58 = .ok (.goto (-46), 3) := by decide +kernel
theorem dX5_areDistinctAt_61 : decode cX5_areDistinctAt 61 = .ok (.iinc 2 1, 3) := by decide +kernel
theorem dX5_areDistinctAt_64 : decode cX5_areDistinctAt 64 = .ok (.goto (-62), 3) := by decide +kernel
theorem dX5_areDistinctAt_67 : decode cX5_areDistinctAt 67 = .ok (.iconst 1, 1) := by decide +kernel
theorem dX5_areDistinctAt_68 : decode cX5_areDistinctAt 68 = .ok (.ireturn, 1) := by decide +kernel
set_option maxRecDepth 20000 in
theorem ggX5_areSameAt_X5_argumentAt : GoodIn wsX5_areSameAt wsX5_argumentAt := goodIn_r _ [6, 7, 8, 9, 5, 10, 1, 11, 12, 13, 14, 15, 16, 17, 18, 19, 20, 21, 22, 23, 50, 51, 52, 53, 54, 55, 56, 57, 58] (by decide +kernel) (by decide +kernel)
set_option maxRecDepth 20000 in
theorem gX5_areSameAt_X5_argumentAt : GoodIn wsX5_areSameAt (wsV RX5 74 RX5 yX5_argumentAt wsX5_argumentAt) := goodIn_app (goodIn_of _ (by decide +kernel)) ggX5_areSameAt_X5_argumentAt
set_option maxRecDepth 20000 in
theorem ggX5_areSameAt_X0_isSameAs : GoodIn wsX5_areSameAt wsX0_isSameAs := goodIn_r _ [28, 29, 30, 31, 32, 33, 34, 35, 36, 37, 38, 39, 40, 41, 42, 43, 44, 45, 46, 47, 48, 49, 59, 60, 61, 62, 63, 64, 65, 66] (by decide +kernel) (by decide +kernel)
set_option maxRecDepth 20000 in
theorem gX5_areSameAt_X0_isSameAs : GoodIn wsX5_areSameAt (wsV RX5 78 RX0 yX0_isSameAs wsX0_isSameAs) := goodIn_app (goodIn_of _ (by decide +kernel)) ggX5_areSameAt_X0_isSameAs
theorem dX5_areSameAt_0 : decode cX5_areSameAt 0 = .ok (.aload_n 0, 1) := by decide +kernel
theorem dX5_areSameAt_1 : decode cX5_areSameAt 1 = .ok (.iconst 0, 1) := by decide +kernel
theorem dX5_areSameAt_2 : decode cX5_areSameAt 2 = .ok (.iload_n 1, 1) := by decide +kernel
theorem dX5_areSameAt_3 : decode cX5_areSameAt 3 = .ok (.invokevirtual 74, 3) := by decide +kernel
theorem dX5_areSameAt_6 : decode cX5_areSameAt 6 = .ok (.astore_n 2, 1) := by decide +kernel
theorem dX5_areSameAt_7 : decode cX5_areSameAt 7 = .ok (.iconst 1, 1) := by decide +kernel
theorem dX5_areSameAt_8 : decode cX5_areSameAt 8 = .ok (.istore_n 3, 1) := by decide +kernel
theorem dX5_areSameAt_9 : decode cX5_areSameAt 9 = .ok (.iload_n 3, 1) := by decide +kernel
theorem dX5_areSameAt_10 : decode cX5_areSameAt 10 = .ok (.aload_n 0, 1) := by decide +kernel
theorem dX5_areSameAt_11 : decode cX5_areSameAt 11 = .ok (.getfield 24, 3) := by decide +kernel
theorem dX5_areSameAt_14 : decode cX5_areSameAt 14 = .ok (.if_icmp .ge 37, 3) := by decide +kernel
theorem dX5_areSameAt_17 : decode cX5_areSameAt 17 = .ok (.aload_n 0, 1) := by decide +kernel
theorem dX5_areSameAt_18 : decode cX5_areSameAt 18 = .ok (.iload_n 3, 1) := by decide +kernel
theorem dX5_areSameAt_19 : decode cX5_areSameAt 19 = .ok (.iload_n 1, 1) := by decide +kernel
theorem dX5_areSameAt_20 : decode cX5_areSameAt 20 = .ok (.invokevirtual 74, 3) := by decide +kernel
theorem dX5_areSameAt_23 : decode cX5_areSameAt 23 = .ok (.astore 4, 2) := by decide +kernel
theorem dX5_areSameAt_25 : decode cX5_areSameAt 25 = .ok (.aload_n 2, 1) := by decide +kernel
theorem dX5_areSameAt_26 : decode cX5_areSameAt 26 = .ok (.ifnull 17, 3) := by decide +kernel
theorem dX5_areSameAt_29 : decode cX5_areSameAt 29 = .ok (.aload 4, 2) := by decide +kernel
theorem dX5_areSameAt_31 : decode cX5_areSameAt 31 = .ok (.ifnull 12, 3) := by decide +kernel
theorem dX5_areSameAt_34 : decode cX5_areSameAt 34 = .ok (.aload 4, 2) := by decide +kernel
theorem dX5_areSameAt_36 : decode cX5_areSameAt 36 = .ok (.aload_n 2, 1) := by decide +kernel
theorem dX5_areSameAt_37 : decode cX5_areSameAt 37 = .ok (.invokevirtual 78, 3) := by decide +kernel
theorem dX5_areSameAt_40 : decode cX5_areSameAt 40 = .ok (.ifCond .ne 5, 3) := by decide +kernel
theorem dX5_areSameAt_43 : decode cX5_areSameAt 43 = .ok (.iconst 0, 1) := by decide +kernel
theorem dX5_areSameAt_44 : decode cX5_areSameAt 44 = .ok (.ireturn, 1) := by decide +kernel
theorem dX5_areSameAt_45 : decode cX5_areSameAt 45 = .ok (.iinc 3 1, 3) := by decide +kernel
theorem dX5_areSameAt_48 : decode cX5_areSameAt 48 = .ok (.goto (-39), 3) := by decide +kernel
theorem dX5_areSameAt_51 : decode cX5_areSameAt 51 = .ok (.iconst 1, 1) := by decide +kernel
theorem dX5_areSameAt_52 : decode cX5_areSameAt 52 = .ok (.ireturn, 1) := by decide +kernel
set_option maxRecDepth 20000 in
theorem ggX5_argumentAt_X5_ableAt : GoodIn wsX5_argumentAt wsX5_ableAt := goodIn_r _ [5, 6, 7, 20, 21, 22, 23] (by decide +kernel) (by decide +kernel)
set_option maxRecDepth 20000 in
theorem gX5_argumentAt_X5_ableAt : GoodIn wsX5_argumentAt (wsV RX5 84 RX5 yX5_ableAt wsX5_ableAt) := goodIn_app (goodIn_of _ (by decide +kernel)) ggX5_argumentAt_X5_ableAt
set_option maxRecDepth 20000 in
theorem ggX5_argumentAt_X2_argumentAt : GoodIn wsX5_argumentAt wsX2_argumentAt := goodIn_r _ [12, 13, 14, 15, 16, 17, 18, 19, 24, 25, 26, 27, 28] (by decide +kernel) (by decide +kernel)
set_option maxRecDepth 20000 in
theorem gX5_argumentAt_X2_argumentAt : GoodIn wsX5_argumentAt (wsV RX5 87 RX2 yX2_argumentAt wsX2_argumentAt) := goodIn_app (goodIn_of _ (by decide +kernel)) ggX5_argumentAt_X2_argumentAt
theorem dX5_argumentAt_0 : decode cX5_argumentAt 0 = .ok (.aload_n 0, 1) := by decide +kernel
theorem dX5_argumentAt_1 : decode cX5_argumentAt 1 = .ok (.iload_n 1, 1) := by decide +kernel
theorem dX5_argumentAt_2 : decode cX5_argumentAt 2 = .ok (.invokevirtual 84, 3) := by decide +kernel
theorem dX5_argumentAt_5 : decode cX5_argumentAt 5 = .ok (.astore_n 3, 1) := by decide +kernel
theorem dX5_argumentAt_6 : decode cX5_argumentAt 6 = .ok (.aload_n 3, 1) := by decide +kernel
theorem dX5_argumentAt_7 : decode cX5_argumentAt 7 = .ok (.ifnonnull 7, 3) := by decide +kernel
theorem dX5_argumentAt_10 : decode cX5_argumentAt 10 = .ok (.aconst_null, 1) := by decide +kernel
theorem dX5_argumentAt_11 : decode cX5_argumentAt 11 = .ok (.goto 8, 3) := by decide +kernel
theorem dX5_argumentAt_14 : decode cX5_argumentAt 14 = .ok (.aload_n 3, 1) := by decide +kernel
theorem dX5_argumentAt_15 : decode cX5_argumentAt 15 = .ok (.iload_n 2, 1) := by decide +kernel
theorem dX5_argumentAt_16 : decode cX5_argumentAt 16 = .ok (.invokevirtual 87, 3) := by decide +kernel
theorem dX5_argumentAt_19 : decode cX5_argumentAt 19 = .ok (.areturn, 1) := by decide +kernel
set_option maxRecDepth 20000 in
theorem ggX5_typeAt_X5_argumentAt : GoodIn wsX5_typeAt wsX5_argumentAt := goodIn_r _ [6, 7, 8, 9, 5, 10, 11, 12, 13, 14, 15, 16, 17, 18, 19, 20, 21, 22, 23, 24, 28, 29, 30, 31, 32, 33, 34, 35, 36] (by decide +kernel) (by decide +kernel)
set_option maxRecDepth 20000 in
theorem gX5_typeAt_X5_argumentAt : GoodIn wsX5_typeAt (wsV RX5 74 RX5 yX5_argumentAt wsX5_argumentAt) := goodIn_app (goodIn_of _ (by decide +kernel)) ggX5_typeAt_X5_argumentAt
theorem dX5_typeAt_0 : decode cX5_typeAt 0 = .ok (.aload_n 0, 1) := by decide +kernel
theorem dX5_typeAt_1 : decode cX5_typeAt 1 = .ok (.iload_n 1, 1) := by decide +kernel
theorem dX5_typeAt_2 : decode cX5_typeAt 2 = .ok (.iload_n 2, 1) := by decide +kernel
theorem dX5_typeAt_3 : decode cX5_typeAt 3 = .ok (.invokevirtual 74, 3) := by decide +kernel
theorem dX5_typeAt_6 : decode cX5_typeAt 6 = .ok (.astore_n 3, 1) := by decide +kernel
theorem dX5_typeAt_7 : decode cX5_typeAt 7 = .ok (.aload_n 3, 1) := by decide +kernel
theorem dX5_typeAt_8 : decode cX5_typeAt 8 = .ok (.ifnonnull 7, 3) := by decide +kernel
theorem dX5_typeAt_11 : decode cX5_typeAt 11 = .ok (.aconst_null, 1) := by decide +kernel
theorem dX5_typeAt_12 : decode cX5_typeAt 12 = .ok (.goto 7, 3) := by decide +kernel
theorem dX5_typeAt_15 : decode cX5_typeAt 15 = .ok (.aload_n 3, 1) := by decide +kernel
theorem dX5_typeAt_16 : decode cX5_typeAt 16 = .ok (.getfield 90, 3) := by decide +kernel
theorem dX5_typeAt_19 : decode cX5_typeAt 19 = .ok (.areturn, 1) := by decide +kernel
set_option maxRecDepth 20000 in
theorem ggX5_clashOf_X2_canBeCalledWith : GoodIn wsX5_clashOf wsX2_canBeCalledWith := goodIn_r _ [6, 7, 8, 9, 5, 10, 11, 12, 13, 14, 15, 16, 17, 18, 19, 20, 21, 22, 23, 24, 25, 26, 27, 28, 29, 30, 31, 32, 107, 108, 109, 110, 111, 112, 113, 114] (by decide +kernel) (by decide +kernel)
set_option maxRecDepth 20000 in
theorem gX5_clashOf_X2_canBeCalledWith : GoodIn wsX5_clashOf (wsV RX5 54 RX2 yX2_canBeCalledWith wsX2_canBeCalledWith) := goodIn_app (goodIn_of _ (by decide +kernel)) ggX5_clashOf_X2_canBeCalledWith
set_option maxRecDepth 20000 in
theorem ggX5_clashOf_X5_gather : GoodIn wsX5_clashOf wsX5_gather := goodIn_r _ [37, 1, 38, 39, 40, 41, 36, 42, 43, 44, 45, 46, 47, 48, 2, 3, 4, 5, 6, 7, 8, 9, 10, 11, 12, 13, 14, 15, 16, 17, 18, 19, 20, 21, 22, 23, 24, 25, 26, 27, 28, 29, 30, 31, 32, 103, 104, 105, 106, 107, 108, 109, 110, 111, 112, 113, 114] (by decide +kernel) (by decide +kernel)
set_option maxRecDepth 20000 in
theorem gX5_clashOf_X5_gather : GoodIn wsX5_clashOf (wsV RX5 94 RX5 yX5_gather wsX5_gather) := goodIn_app (goodIn_of _ (by decide +kernel)) ggX5_clashOf_X5_gather
set_option maxRecDepth 20000 in
theorem ggX5_clashOf_X5_decidingFor : GoodIn wsX5_clashOf wsX5_decidingFor := goodIn_r _ [52, 1, 53, 54, 55, 36, 56, 57, 58, 59, 60, 61, 62, 63, 64, 65, 66, 67, 68, 69, 48, 70, 13, 14, 5, 15, 16, 11, 17, 18, 19, 20, 21, 71, 72, 73, 74, 75, 76, 77, 78, 79, 80, 81, 82, 83, 84, 85, 25, 86, 27, 28, 87, 88, 89, 90, 91, 92, 93, 94, 95, 96, 97, 98, 99, 100, 101, 102, 103, 104, 105, 106, 112, 113, 114, 107, 108, 109, 110, 111, 115, 116, 117, 118, 119] (by decide +kernel) (by decide +kernel)
set_option maxRecDepth 20000 in
theorem gX5_clashOf_X5_decidingFor : GoodIn wsX5_clashOf (wsV RX5 97 RX5 yX5_decidingFor wsX5_decidingFor) := goodIn_app (goodIn_of _ (by decide +kernel)) ggX5_clashOf_X5_decidingFor
theorem dX5_clashOf_0 : decode cX5_clashOf 0 = .ok (.iconst 0, 1) := by decide +kernel
theorem dX5_clashOf_1 : decode cX5_clashOf 1 = .ok (.istore_n 2, 1) := by decide +kernel
theorem dX5_clashOf_2 : decode cX5_clashOf 2 = .ok (.iload_n 2, 1) := by decide +kernel
theorem dX5_clashOf_3 : decode cX5_clashOf 3 = .ok (.bipush 8, 2) := by decide +kernel
theorem dX5_clashOf_5 : decode cX5_clashOf 5 = .ok (.if_icmp .gt 42, 3) := by decide +kernel
theorem dX5_clashOf_8 : decode cX5_clashOf 8 = .ok (.aload_n 1, 1) := by decide +kernel
theorem dX5_clashOf_9 : decode cX5_clashOf 9 = .ok (.iload_n 2, 1) := by decide +kernel
theorem dX5_clashOf_10 : decode cX5_clashOf 10 = .ok (.invokevirtual 54, 3) := by decide +kernel
theorem dX5_clashOf_13 : decode cX5_clashOf 13 = .ok (.ifCond .eq 28, 3) := by decide +kernel
theorem dX5_clashOf_16 : decode cX5_clashOf 16 = .ok (.aload_n 0, 1) := by decide +kernel
theorem dX5_clashOf_17 : decode cX5_clashOf 17 = .ok (.iload_n 2, 1) := by decide +kernel
theorem dX5_clashOf_18 : decode cX5_clashOf 18 = .ok (.aload_n 1, 1) := by decide +kernel
theorem dX5_clashOf_19 : decode cX5_clashOf 19 = .ok (.invokevirtual 94, 3) := by decide +kernel
theorem dX5_clashOf_22 : decode cX5_clashOf 22 = .ok (.aload_n 0, 1) := by decide +kernel
theorem dX5_clashOf_23 : decode cX5_clashOf 23 = .ok (.getfield 24, 3) := by decide +kernel
theorem dX5_clashOf_26 : decode cX5_clashOf 26 = .ok (.iconst 1, 1) := by decide +kernel
theorem dX5_clashOf_27 : decode cX5_clashOf 27 = .ok (.if_icmp .le 14, 3) := by decide +kernel
theorem dX5_clashOf_30 : decode cX5_clashOf 30 = .ok (.aload_n 0, 1) := by decide +kernel
theorem dX5_clashOf_31 : decode cX5_clashOf 31 = .ok (.iload_n 2, 1) := by decide +kernel
theorem dX5_clashOf_32 : decode cX5_clashOf 32 = .ok (.invokevirtual 97, 3) := by decide +kernel
theorem dX5_clashOf_35 : decode cX5_clashOf 35 = .ok (.iconst (-1), 1) := by decide +kernel
theorem dX5_clashOf_36 : decode cX5_clashOf 36 = .ok (.if_icmp .ne 5, 3) := by decide +kernel
theorem dX5_clashOf_39 : decode cX5_clashOf 39 = .ok (.iload_n 2, 1) := by decide +kernel
theorem dX5_clashOf_40 : decode cX5_clashOf 40 = .ok (.ireturn, 1) := by decide +kernel
theorem dX5_clashOf_41 : decode cX5_clashOf 41 = .ok (.iinc 2 1, 3) := by decide +kernel
theorem dX5_clashOf_44 : decode cX5_clashOf 44 = .ok (.goto (-42), 3) := by decide +kernel
theorem dX5_clashOf_47 : decode cX5_clashOf 47 = .ok (.iconst (-1), 1) := by decide +kernel
theorem dX5_clashOf_48 : decode cX5_clashOf 48 = .ok (.ireturn, 1) := by decide +kernel
set_option maxRecDepth 20000 in
theorem ggX5_choose_X5_firstThatMayMiss : GoodIn wsX5_choose wsX5_firstThatMayMiss := goodIn_r _ [6, 7, 8, 9, 10, 5, 11, 12, 13, 14, 15, 16, 17, 18, 19, 20, 21, 22, 23, 24, 25, 26, 27, 28, 29, 30, 31, 32, 33, 34, 35, 68, 69, 70, 71, 72, 73, 74, 75, 76, 77, 78, 79] (by decide +kernel) (by decide +kernel)
set_option maxRecDepth 20000 in
theorem gX5_choose_X5_firstThatMayMiss : GoodIn wsX5_choose (wsV RX5 106 RX5 yX5_firstThatMayMiss wsX5_firstThatMayMiss) := goodIn_app (goodIn_of _ (by decide +kernel)) ggX5_choose_X5_firstThatMayMiss
set_option maxRecDepth 20000 in
theorem ggX5_choose_X8_isUndefinedOrNull : GoodIn wsX5_choose wsX8_isUndefinedOrNull := goodIn_r _ [40, 41, 61, 62, 63, 64, 65, 66, 67] (by decide +kernel) (by decide +kernel)
set_option maxRecDepth 20000 in
theorem gX5_choose_X8_isUndefinedOrNull : GoodIn wsX5_choose (wsV RX5 109 RX8 yX8_isUndefinedOrNull wsX8_isUndefinedOrNull) := goodIn_app (goodIn_of _ (by decide +kernel)) ggX5_choose_X8_isUndefinedOrNull
set_option maxRecDepth 20000 in
theorem ggX5_choose_X5_firstNullable : GoodIn wsX5_choose wsX5_firstNullable := goodIn_r _ [45, 7, 46, 47, 48, 49, 5, 50, 51, 8, 9, 10, 11, 12, 13, 14, 15, 16, 17, 18, 19, 20, 21, 22, 23, 24, 25, 26, 27, 28, 68, 69, 70, 71, 80, 81, 82, 83, 84, 77, 78, 79, 72, 73, 74, 75, 76] (by decide +kernel) (by decide +kernel)
set_option maxRecDepth 20000 in
theorem gX5_choose_X5_firstNullable : GoodIn wsX5_choose (wsV RX5 113 RX5 yX5_firstNullable wsX5_firstNullable) := goodIn_app (goodIn_of _ (by decide +kernel)) ggX5_choose_X5_firstNullable
set_option maxRecDepth 20000 in
theorem ggX5_choose_X5_sortOf : GoodIn wsX5_choose wsX5_sortOf := goodIn_r _ [54, 1, 61, 62, 63, 64, 65, 66, 67] (by decide +kernel) (by decide +kernel)
set_option maxRecDepth 20000 in
theorem gX5_choose_X5_sortOf : GoodIn wsX5_choose (va_wsS RX5 116 yX5_sortOf wsX5_sortOf) := goodIn_app (goodIn_of _ (by decide +kernel)) ggX5_choose_X5_sortOf
set_option maxRecDepth 20000 in
theorem ggX5_choose_X5_firstOfSort : GoodIn wsX5_choose wsX5_firstOfSort := goodIn_r _ [58, 7, 59, 60, 47, 48, 49, 5, 50, 51, 8, 9, 10, 11, 12, 13, 14, 15, 16, 17, 18, 19, 20, 21, 22, 23, 24, 25, 26, 27, 28, 68, 69, 70, 71, 80, 81, 82, 83, 84, 77, 78, 79, 72, 73, 74, 75, 76] (by decide +kernel) (by decide +kernel)
set_option maxRecDepth 20000 in
theorem gX5_choose_X5_firstOfSort : GoodIn wsX5_choose (wsV RX5 120 RX5 yX5_firstOfSort wsX5_firstOfSort) := goodIn_app (goodIn_of _ (by decide +kernel)) ggX5_choose_X5_firstOfSort
theorem dX5_choose_0 : decode cX5_choose 0 = .ok (.aload_n 2, 1) := by decide +kernel
theorem dX5_choose_1 : decode cX5_choose 1 = .ok (.ifnonnull 5, 3) := by decide +kernel
theorem dX5_choose_4 : decode cX5_choose 4 = .ok (.aconst_null, 1) := by decide +kernel
theorem dX5_choose_5 : decode cX5_choose 5 = .ok (.areturn, 1) := by decide +kernel
theorem dX5_choose_6 : decode cX5_choose 6 = .ok (.aload_n 2, 1) := by decide +kernel
theorem dX5_choose_7 : decode cX5_choose 7 = .ok (.getfield 101, 3) := by decide +kernel
theorem dX5_choose_10 : decode cX5_choose 10 = .ok (.bipush 7, 2) := by decide +kernel
theorem dX5_choose_12 : decode cX5_choose 12 = .ok (.if_icmp .ne 11, 3) := by decide +kernel
theorem dX5_choose_15 : decode cX5_choose 15 = .ok (.aload_n 0, 1) := by decide +kernel
theorem dX5_choose_16 : decode cX5_choose 16 = .ok (.iload_n 1, 1) := by decide +kernel
theorem dX5_choose_17 : decode cX5_choose 17 = .ok (.invokevirtual 106, 3) := by decide +kernel
theorem dX5_choose_20 : decode cX5_choose 20 = .ok (.goto 4, 3) := by decide +kernel
theorem dX5_choose_23 : decode cX5_choose 23 = .ok (.aconst_null, 1) := by decide +kernel
theorem dX5_choose_24 : decode cX5_choose 24 = .ok (.astore_n 3, 1) := by decide +kernel
theorem dX5_choose_25 : decode cX5_choose 25 = .ok (.aload_n 3, 1) := by decide +kernel
theorem dX5_choose_26 : decode cX5_choose 26 = .ok (.ifnonnull 16, 3) := by decide +kernel
theorem dX5_choose_29 : decode cX5_choose 29 = .ok (.aload_n 2, 1) := by decide +kernel
theorem dX5_choose_30 : decode cX5_choose 30 = .ok (.invokevirtual 109, 3) := by decide +kernel
theorem dX5_choose_33 : decode cX5_choose 33 = .ok (.ifCond .eq 9, 3) := by decide +kernel
theorem dX5_choose_36 : decode cX5_choose 36 = .ok (.aload_n 0, 1) := by decide +kernel
theorem dX5_choose_37 : decode cX5_choose 37 = .ok (.iload_n 1, 1) := by decide +kernel
theorem dX5_choose_38 : decode cX5_choose 38 = .ok (.invokevirtual 113, 3) := by decide +kernel
theorem dX5_choose_41 : decode cX5_choose 41 = .ok (.astore_n 3, 1) := by decide +kernel
theorem dX5_choose_42 : decode cX5_choose 42 = .ok (.aload_n 3, 1) := by decide +kernel
theorem dX5_choose_43 : decode cX5_choose 43 = .ok (.ifnonnull 13, 3) := by decide +kernel
theorem dX5_choose_46 : decode cX5_choose 46 = .ok (.aload_n 0, 1) := by decide +kernel
theorem dX5_choose_47 : decode cX5_choose 47 = .ok (.iload_n 1, 1) := by decide +kernel
theorem dX5_choose_48 : decode cX5_choose 48 = .ok (.aload_n 2, 1) := by decide +kernel
theorem dX5_choose_49 : decode cX5_choose 49 = .ok (.invokestatic 116, 3) := by decide +kernel
theorem dX5_choose_52 : decode cX5_choose 52 = .ok (.invokevirtual 120, 3) := by decide +kernel
theorem dX5_choose_55 : decode cX5_choose 55 = .ok (.astore_n 3, 1) := by decide +kernel
theorem dX5_choose_56 : decode cX5_choose 56 = .ok (.aload_n 3, 1) := by decide +kernel
theorem dX5_choose_57 : decode cX5_choose 57 = .ok (.ifnonnull 10, 3) := by decide +kernel
theorem dX5_choose_60 : decode cX5_choose 60 = .ok (.aload_n 0, 1) := by decide +kernel
theorem dX5_choose_61 : decode cX5_choose 61 = .ok (.iload_n 1, 1) := by decide +kernel
theorem dX5_choose_62 : decode cX5_choose 62 = .ok (.iconst 3, 1) := by decide +kernel
theorem dX5_choose_63 : decode cX5_choose 63 = .ok (.invokevirtual 120, 3) := by decide +kernel
theorem dX5_choose_66 : decode cX5_choose 66 = .ok (.astore_n 3, 1) := by decide +kernel
theorem dX5_choose_67 : decode cX5_choose 67 = .ok (.aload_n 3, 1) := by decide +kernel
theorem dX5_choose_68 : decode cX5_choose 68 = .ok (.ifnonnull 10, 3) := by decide +kernel
theorem dX5_choose_71 : decode cX5_choose 71 = .ok (.aload_n 0, 1) := by decide +kernel
theorem dX5_choose_72 : decode cX5_choose 72 = .ok (.iload_n 1, 1) := by decide +kernel
theorem dX5_choose_73 : decode cX5_choose 73 = .ok (.iconst 2, 1) := by decide +kernel
theorem dX5_choose_74 : decode cX5_choose 74 = .ok (.invokevirtual 120, 3) := by decide +kernel
theorem dX5_choose_77 : decode cX5_choose 77 = .ok (.astore_n 3, 1) := by decide +kernel
theorem dX5_choose_78 : decode cX5_choose 78 = .ok (.aload_n 3, 1) := by decide +kernel
theorem dX5_choose_79 : decode cX5_choose 79 = .ok (.ifnull 7, 3) := by decide +kernel
theorem dX5_choose_82 : decode cX5_choose 82 = .ok (.aload_n 3, 1) := by decide +kernel
theorem dX5_choose_83 : decode cX5_choose 83 = .ok (.goto 9, 3) := by decide +kernel
theorem dX5_choose_86 : decode cX5_choose 86 = .ok (.aload_n 0, 1) := by decide +kernel
theorem dX5_choose_87 : decode cX5_choose 87 = .ok (.iload_n 1, 1) := by decide +kernel
theorem dX5_choose_88 : decode cX5_choose 88 = .ok (.iconst 1, 1) := by decide +kernel
theorem dX5_choose_89 : decode cX5_choose 89 = .ok (.invokevirtual 120, 3) := by decide +kernel
theorem dX5_choose_92 : decode cX5_choose 92 = .ok (.areturn, 1) := by decide +kernel
theorem dX5_sortOf_0 : decode cX5_sortOf 0 = .ok (.aload_n 0, 1) := by decide +kernel
theorem dX5_sortOf_1 : decode cX5_sortOf 1 = .ok (.getfield 101, 3) := by decide +kernel
theorem dX5_sortOf_4 : decode cX5_sortOf 4 = .ok (.bipush 6, 2) := by decide +kernel
theorem dX5_sortOf_6 : decode cX5_sortOf 6 = .ok (.if_icmp .ne 5, 3) := by decide +kernel
theorem dX5_sortOf_9 : decode cX5_sortOf 9 = .ok (.iconst 4, 1) := by decide +kernel
theorem dX5_sortOf_10 : decode cX5_sortOf 10 = .ok (.ireturn, 1) := by decide +kernel
theorem dX5_sortOf_11 : decode cX5_sortOf 11 = .ok (.aload_n 0, 1) := by decide +kernel
theorem dX5_sortOf_12 : decode cX5_sortOf 12 = .ok (.getfield 101, 3) := by decide +kernel
theorem dX5_sortOf_15 : decode cX5_sortOf 15 = .ok (.iconst 2, 1) := by decide +kernel
theorem dX5_sortOf_16 : decode cX5_sortOf 16 = .ok (.if_icmp .ne 5, 3) := by decide +kernel
theorem dX5_sortOf_19 : decode cX5_sortOf 19 = .ok (.iconst 1, 1) := by decide +kernel
theorem dX5_sortOf_20 : decode cX5_sortOf 20 = .ok (.ireturn, 1) := by decide +kernel
theorem dX5_sortOf_21 : decode cX5_sortOf 21 = .ok (.aload_n 0, 1) := by decide +kernel
theorem dX5_sortOf_22 : decode cX5_sortOf 22 = .ok (.getfield 101, 3) := by decide +kernel
theorem dX5_sortOf_25 : decode cX5_sortOf 25 = .ok (.iconst 4, 1) := by decide +kernel
theorem dX5_sortOf_26 : decode cX5_sortOf 26 = .ok (.if_icmp .ne 7, 3) := by decide +kernel
theorem dX5_sortOf_29 : decode cX5_sortOf 29 = .ok (.iconst 2, 1) := by decide +kernel
theorem dX5_sortOf_30 : decode cX5_sortOf 30 = .ok (.goto 4, 3) := by decide +kernel
theorem dX5_sortOf_33 : decode cX5_sortOf 33 = .ok (.iconst 3, 1) := by decide +kernel
theorem dX5_sortOf_34 : decode cX5_sortOf 34 = .ok (.ireturn, 1) := by decide +kernel
set_option maxRecDepth 20000 in
theorem ggX5_firstThatMayMiss_X5_argumentAt : GoodIn wsX5_firstThatMayMiss wsX5_argumentAt := goodIn_r _ [6, 7, 8, 9, 5, 10, 1, 11, 12, 13, 14, 15, 16, 17, 18, 19, 20, 21, 22, 23, 31, 32, 33, 34, 35, 36, 37, 38, 39] (by decide +kernel) (by decide +kernel)
set_option maxRecDepth 20000 in
theorem gX5_firstThatMayMiss_X5_argumentAt : GoodIn wsX5_firstThatMayMiss (wsV RX5 74 RX5 yX5_argumentAt wsX5_argumentAt) := goodIn_app (goodIn_of _ (by decide +kernel)) ggX5_firstThatMayMiss_X5_argumentAt
set_option maxRecDepth 20000 in
theorem ggX5_firstThatMayMiss_X0_canBeMissing : GoodIn wsX5_firstThatMayMiss wsX0_canBeMissing := goodIn_r _ [28, 29, 30, 40, 41, 42] (by decide +kernel) (by decide +kernel)
set_option maxRecDepth 20000 in
theorem gX5_firstThatMayMiss_X0_canBeMissing : GoodIn wsX5_firstThatMayMiss (wsV RX5 124 RX0 yX0_canBeMissing wsX0_canBeMissing) := goodIn_app (goodIn_of _ (by decide +kernel)) ggX5_firstThatMayMiss_X0_canBeMissing
set_option maxRecDepth 20000 in
theorem ggX5_firstThatMayMiss_X5_ableAt : GoodIn wsX5_firstThatMayMiss wsX5_ableAt := goodIn_r _ [10, 1, 11, 31, 32, 33, 34] (by decide +kernel) (by decide +kernel)
set_option maxRecDepth 20000 in
theorem gX5_firstThatMayMiss_X5_ableAt : GoodIn wsX5_firstThatMayMiss (wsV RX5 84 RX5 yX5_ableAt wsX5_ableAt) := goodIn_app (goodIn_of _ (by decide +kernel)) ggX5_firstThatMayMiss_X5_ableAt
theorem dX5_firstThatMayMiss_0 : decode cX5_firstThatMayMiss 0 = .ok (.iconst 0, 1) := by decide +kernel
theorem dX5_firstThatMayMiss_1 : decode cX5_firstThatMayMiss 1 = .ok (.istore_n 2, 1) := by decide +kernel
theorem dX5_firstThatMayMiss_2 : decode cX5_firstThatMayMiss 2 = .ok (.iload_n 2, 1) := by decide +kernel
theorem dX5_firstThatMayMiss_3 : decode cX5_firstThatMayMiss 3 = .ok (.aload_n 0, 1) := by decide +kernel
theorem dX5_firstThatMayMiss_4 : decode cX5_firstThatMayMiss 4 = .ok (.getfield 24, 3) := by decide +kernel
theorem dX5_firstThatMayMiss_7 : decode cX5_firstThatMayMiss 7 = .ok (.if_icmp .ge 33, 3) := by decide +kernel
theorem dX5_firstThatMayMiss_10 : decode cX5_firstThatMayMiss 10 = .ok (.aload_n 0, 1) := by decide +kernel
theorem dX5_firstThatMayMiss_11 : decode cX5_firstThatMayMiss 11 = .ok (.iload_n 2, 1) := by decide +kernel
theorem dX5_firstThatMayMiss_12 : decode cX5_firstThatMayMiss 12 = .ok (.iload_n 1, 1) := by decide +kernel
theorem dX5_firstThatMayMiss_13 : decode cX5_firstThatMayMiss 13 = .ok (.invokevirtual 74, 3) := by decide +kernel
theorem dX5_firstThatMayMiss_16 : decode cX5_firstThatMayMiss 16 = .ok (.astore_n 3, 1) := by decide +kernel
theorem dX5_firstThatMayMiss_17 : decode cX5_firstThatMayMiss 17 = .ok (.aload_n 3, 1) := by decide +kernel
theorem dX5_firstThatMayMiss_18 : decode cX5_firstThatMayMiss 18 = .ok (.ifnull 16, 3) := by decide +kernel
theorem dX5_firstThatMayMiss_21 : decode cX5_firstThatMayMiss 21 = .ok (.aload_n 3, 1) := by decide +kernel
theorem dX5_firstThatMayMiss_22 : decode cX5_firstThatMayMiss 22 = .ok (.invokevirtual 124, 3) := by decide +kernel
theorem dX5_firstThatMayMiss_25 : decode cX5_firstThatMayMiss 25 = .ok (.ifCond .eq 9, 3) := by decide +kernel
theorem dX5_firstThatMayMiss_28 : decode cX5_firstThatMayMiss 28 = .ok (.aload_n 0, 1) := by decide +kernel
theorem dX5_firstThatMayMiss_29 : decode cX5_firstThatMayMiss 29 = .ok (.iload_n 2, 1) := by decide +kernel
theorem dX5_firstThatMayMiss_30 : decode cX5_firstThatMayMiss 30 = .ok (.invokevirtual 84, 3) := by decide +kernel
theorem dX5_firstThatMayMiss_33 : decode cX5_firstThatMayMiss 33 = .ok (.areturn, 1) := by decide +kernel
theorem dX5_firstThatMayMiss_34 : decode cX5_firstThatMayMiss 34 = .ok (.iinc 2 1, 3) := by decide +kernel
theorem dX5_firstThatMayMiss_37 : decode cX5_firstThatMayMiss 37 = .ok (.goto (-35), 3) := by decide +kernel
theorem dX5_firstThatMayMiss_40 : decode cX5_firstThatMayMiss 40 = .ok (.aconst_null, 1) := by decide +kernel
theorem dX5_firstThatMayMiss_41 : decode cX5_firstThatMayMiss 41 = .ok (.areturn, 1) := by decide +kernel
set_option maxRecDepth 20000 in
theorem ggX5_firstNullable_X5_typeAt : GoodIn wsX5_firstNullable wsX5_typeAt := goodIn_r _ [7, 8, 9, 10, 11, 6, 12, 13, 14, 15, 16, 1, 17, 18, 19, 20, 21, 22, 23, 24, 25, 26, 27, 28, 29, 39, 40, 41, 30, 31, 32, 33, 42, 43, 44, 45, 46] (by decide +kernel) (by decide +kernel)
set_option maxRecDepth 20000 in
theorem gX5_firstNullable_X5_typeAt : GoodIn wsX5_firstNullable (wsV RX5 64 RX5 yX5_typeAt wsX5_typeAt) := goodIn_app (goodIn_of _ (by decide +kernel)) ggX5_firstNullable_X5_typeAt
set_option maxRecDepth 20000 in
theorem ggX5_firstNullable_X5_ableAt : GoodIn wsX5_firstNullable wsX5_ableAt := goodIn_r _ [16, 1, 17, 30, 31, 32, 33] (by decide +kernel) (by decide +kernel)
set_option maxRecDepth 20000 in
theorem gX5_firstNullable_X5_ableAt : GoodIn wsX5_firstNullable (wsV RX5 84 RX5 yX5_ableAt wsX5_ableAt) := goodIn_app (goodIn_of _ (by decide +kernel)) ggX5_firstNullable_X5_ableAt
theorem dX5_firstNullable_0 : decode cX5_firstNullable 0 = .ok (.iconst 0, 1) := by decide +kernel
theorem dX5_firstNullable_1 : decode cX5_firstNullable 1 = .ok (.istore_n 2, 1) := by decide +kernel
theorem dX5_firstNullable_2 : decode cX5_firstNullable 2 = .ok (.iload_n 2, 1) := by decide +kernel
theorem dX5_firstNullable_3 : decode cX5_firstNullable 3 = .ok (.aload_n 0, 1) := by decide +kernel
theorem dX5_firstNullable_4 : decode cX5_firstNullable 4 = .ok (.getfield 24, 3) := by decide +kernel
theorem dX5_firstNullable_7 : decode cX5_firstNullable 7 = .ok (.if_icmp .ge 33, 3) := by decide +kernel
theorem dX5_firstNullable_10 : decode cX5_firstNullable 10 = .ok (.aload_n 0, 1) := by decide +kernel
theorem dX5_firstNullable_11 : decode cX5_firstNullable 11 = .ok (.iload_n 2, 1) := by decide +kernel
theorem dX5_firstNullable_12 : decode cX5_firstNullable 12 = .ok (.iload_n 1, 1) := by decide +kernel
theorem dX5_firstNullable_13 : decode cX5_firstNullable 13 = .ok (.invokevirtual 64, 3) := by decide +kernel
theorem dX5_firstNullable_16 : decode cX5_firstNullable 16 = .ok (.astore_n 3, 1) := by decide +kernel
theorem dX5_firstNullable_17 : decode cX5_firstNullable 17 = .ok (.aload_n 3, 1) := by decide +kernel
theorem dX5_firstNullable_18 : decode cX5_firstNullable 18 = .ok (.ifnull 16, 3) := by decide +kernel
theorem dX5_firstNullable_21 : decode cX5_firstNullable 21 = .ok (.aload_n 3, 1) := by decide +kernel
theorem dX5_firstNullable_22 : decode cX5_firstNullable 22 = .ok (.getfield 127, 3) := by decide +kernel
theorem dX5_firstNullable_25 : decode cX5_firstNullable 25 = .ok (.ifCond .eq 9, 3) := by decide +kernel
theorem dX5_firstNullable_28 : decode cX5_firstNullable 28 = .ok (.aload_n 0, 1) := by decide +kernel
theorem dX5_firstNullable_29 : decode cX5_firstNullable 29 = .ok (.iload_n 2, 1) := by decide +kernel
theorem dX5_firstNullable_30 : decode cX5_firstNullable 30 = .ok (.invokevirtual 84, 3) := by decide +kernel
theorem dX5_firstNullable_33 : decode cX5_firstNullable 33 = .ok (.areturn, 1) := by decide +kernel
theorem dX5_firstNullable_34 : decode cX5_firstNullable 34 = .ok (.iinc 2 1, 3) := by decide +kernel
theorem dX5_firstNullable_37 : decode cX5_firstNullable 37 = .ok (.goto (-35), 3) := by decide +kernel
theorem dX5_firstNullable_40 : decode cX5_firstNullable 40 = .ok (.aconst_null, 1) := by decide +kernel
theorem dX5_firstNullable_41 : decode cX5_firstNullable 41 = .ok (.areturn, 1) := by decide +kernel
set_option maxRecDepth 20000 in
theorem ggX5_firstOfSort_X5_typeAt : GoodIn wsX5_firstOfSort wsX5_typeAt := goodIn_r _ [8, 9, 10, 11, 12, 7, 13, 14, 15, 16, 17, 1, 18, 19, 20, 21, 22, 23, 24, 25, 26, 27, 28, 29, 30, 40, 41, 42, 31, 32, 33, 34, 43, 44, 45, 46, 47] (by decide +kernel) (by decide +kernel)
set_option maxRecDepth 20000 in
theorem gX5_firstOfSort_X5_typeAt : GoodIn wsX5_firstOfSort (wsV RX5 64 RX5 yX5_typeAt wsX5_typeAt) := goodIn_app (goodIn_of _ (by decide +kernel)) ggX5_firstOfSort_X5_typeAt
set_option maxRecDepth 20000 in
theorem ggX5_firstOfSort_X5_ableAt : GoodIn wsX5_firstOfSort wsX5_ableAt := goodIn_r _ [17, 1, 18, 31, 32, 33, 34] (by decide +kernel) (by decide +kernel)
set_option maxRecDepth 20000 in
theorem gX5_firstOfSort_X5_ableAt : GoodIn wsX5_firstOfSort (wsV RX5 84 RX5 yX5_ableAt wsX5_ableAt) := goodIn_app (goodIn_of _ (by decide +kernel)) ggX5_firstOfSort_X5_ableAt
