theorem dX11_sayOne_113 : decode cX11_sayOne 113 = .ok (.aload_n 0, 1) := by decide +kernel
theorem dX11_sayOne_114 : decode cX11_sayOne 114 = .ok (.aload_n 0, 1) := by decide +kernel
theorem dX11_sayOne_115 : decode cX11_sayOne 115 = .ok (.getfield 59, 3) := by decide +kernel
theorem dX11_sayOne_118 : decode cX11_sayOne 118 = .ok (.bipush 12, 2) := by decide +kernel
theorem dX11_sayOne_120 : decode cX11_sayOne 120 = .ok (.iload_n 1, 1) := by decide +kernel
theorem dX11_sayOne_121 : decode cX11_sayOne 121 = .ok (.imul, 1) := by decide +kernel
theorem dX11_sayOne_122 : decode cX11_sayOne 122 = .ok (.iload_n 2, 1) := by decide +kernel
theorem dX11_sayOne_123 : decode cX11_sayOne 123 = .ok (.iadd, 1) := by decide +kernel
theorem dX11_sayOne_124 : decode cX11_sayOne 124 = .ok (.caload, 1) := by decide +kernel
theorem dX11_sayOne_125 : decode cX11_sayOne 125 = .ok (.invokevirtual 230, 3) := by decide +kernel
theorem dX11_sayOne_128 : decode cX11_sayOne 128 = .ok (.iinc 2 1, 3) := by decide +kernel
theorem dX11_sayOne_131 : decode cX11_sayOne 131 = .ok (.goto (-28), 3) := by decide +kernel
theorem dX11_sayOne_134 : decode cX11_sayOne 134 = .ok (.return_, 1) := by decide +kernel
set_option maxRecDepth 20000 in
theorem ggX11_sayAll_X11_sayOne : GoodIn wsX11_sayAll wsX11_sayOne := goodIn_r _ [8, 2, 9, 10, 11, 12, 13, 14, 15, 3, 16, 17, 18, 19, 7, 20, 21, 22, 23, 24, 25, 26, 1, 27, 28, 29, 30, 31, 32, 33, 34, 35, 39, 40, 41, 42, 43, 44, 45, 46, 47, 48, 49, 50, 51, 52, 53, 54, 55, 56, 57, 58, 59, 60, 61, 62, 63, 64, 65, 66] rfl (by decide +kernel)
set_option maxRecDepth 20000 in
theorem gX11_sayAll_X11_sayOne : GoodIn wsX11_sayAll (wsV RX11 261 RX11 yX11_sayOne wsX11_sayOne) := goodIn_app (goodIn_of _ (by decide +kernel)) ggX11_sayAll_X11_sayOne
set_option maxRecDepth 20000 in
theorem ggX11_sayAll_X11_itemOf : GoodIn wsX11_sayAll wsX11_itemOf := goodIn_r _ [38] rfl (by decide +kernel)
set_option maxRecDepth 20000 in
theorem gX11_sayAll_X11_itemOf : GoodIn wsX11_sayAll (va_wsS RX11 224 yX11_itemOf wsX11_itemOf) := goodIn_app (goodIn_of _ (by decide +kernel)) ggX11_sayAll_X11_itemOf
set_option maxRecDepth 20000 in
theorem ggX11_sayAll_X11_say : GoodIn wsX11_sayAll wsX11_say := goodIn_r _ [25, 26, 1, 39, 40, 41, 42, 43, 44, 45, 46, 47, 48, 49, 50, 51, 52, 53, 54, 55, 56, 57, 58, 59, 60, 61, 62, 63, 64, 65, 66] rfl (by decide +kernel)
set_option maxRecDepth 20000 in
theorem gX11_sayAll_X11_say : GoodIn wsX11_sayAll (wsV RX11 230 RX11 yX11_say wsX11_say) := goodIn_app (goodIn_of _ (by decide +kernel)) ggX11_sayAll_X11_say
theorem dX11_sayAll_0 : decode cX11_sayAll 0 = .ok (.aload_n 0, 1) := by decide +kernel
theorem dX11_sayAll_1 : decode cX11_sayAll 1 = .ok (.iconst 0, 1) := by decide +kernel
theorem dX11_sayAll_2 : decode cX11_sayAll 2 = .ok (.putfield 227, 3) := by decide +kernel
theorem dX11_sayAll_5 : decode cX11_sayAll 5 = .ok (.aload_n 0, 1) := by decide +kernel
theorem dX11_sayAll_6 : decode cX11_sayAll 6 = .ok (.getfield 46, 3) := by decide +kernel
theorem dX11_sayAll_9 : decode cX11_sayAll 9 = .ok (.iload_n 1, 1) := by decide +kernel
theorem dX11_sayAll_10 : decode cX11_sayAll 10 = .ok (.iaload, 1) := by decide +kernel
theorem dX11_sayAll_11 : decode cX11_sayAll 11 = .ok (.iconst 5, 1) := by decide +kernel
theorem dX11_sayAll_12 : decode cX11_sayAll 12 = .ok (.if_icmp .eq 9, 3) := by decide +kernel
theorem dX11_sayAll_15 : decode cX11_sayAll 15 = .ok (.aload_n 0, 1) := by decide +kernel
theorem dX11_sayAll_16 : decode cX11_sayAll 16 = .ok (.iload_n 1, 1) := by decide +kernel
theorem dX11_sayAll_17 : decode cX11_sayAll 17 = .ok (.invokevirtual 261, 3) := by decide +kernel
theorem dX11_sayAll_20 : decode cX11_sayAll 20 = .ok (.return_, 1) := by decide +kernel
theorem dX11_sayAll_21 : decode cX11_sayAll 21 = .ok (.iconst 0, 1) := by decide +kernel
theorem dX11_sayAll_22 : decode cX11_sayAll 22 = .ok (.istore_n 2, 1) := by decide +kernel
theorem dX11_sayAll_23 : decode cX11_sayAll 23 = .ok (.iload_n 2, 1) := by decide +kernel
theorem dX11_sayAll_24 : decode cX11_sayAll 24 = .ok (.aload_n 0, 1) := by decide +kernel
theorem dX11_sayAll_25 : decode cX11_sayAll 25 = .ok (.getfield 56, 3) := by decide +kernel
theorem dX11_sayAll_28 : decode cX11_sayAll 28 = .ok (.iload_n 1, 1) := by decide +kernel
theorem dX11_sayAll_29 : decode cX11_sayAll 29 = .ok (.iaload, 1) := by decide +kernel
theorem dX11_sayAll_30 : decode cX11_sayAll 30 = .ok (.if_icmp .ge 49, 3) := by decide +kernel
theorem dX11_sayAll_33 : decode cX11_sayAll 33 = .ok (.iload_n 1, 1) := by decide +kernel
theorem dX11_sayAll_34 : decode cX11_sayAll 34 = .ok (.iload_n 2, 1) := by decide +kernel
theorem dX11_sayAll_35 : decode cX11_sayAll 35 = .ok (.invokestatic 224, 3) := by decide +kernel
theorem dX11_sayAll_38 : decode cX11_sayAll 38 = .ok (.istore_n 3, 1) := by decide +kernel
theorem dX11_sayAll_39 : decode cX11_sayAll 39 = .ok (.iload_n 2, 1) := by decide +kernel
theorem dX11_sayAll_40 : decode cX11_sayAll 40 = .ok (.ifCond .le 9, 3) := by decide +kernel
theorem dX11_sayAll_43 : decode cX11_sayAll 43 = .ok (.aload_n 0, 1) := by decide +kernel
theorem dX11_sayAll_44 : decode cX11_sayAll 44 = .ok (.bipush 44, 2) := by decide +kernel
theorem dX11_sayAll_46 : decode cX11_sayAll 46 = .ok (.invokevirtual 230, 3) := by decide +kernel
theorem dX11_sayAll_49 : decode cX11_sayAll 49 = .ok (.aload_n 0, 1) := by decide +kernel
theorem dX11_sayAll_50 : decode cX11_sayAll 50 = .ok (.getfield 46, 3) := by decide +kernel
theorem dX11_sayAll_53 : decode cX11_sayAll 53 = .ok (.iload_n 3, 1) := by decide +kernel
theorem dX11_sayAll_54 : decode cX11_sayAll 54 = .ok (.iaload, 1) := by decide +kernel
theorem dX11_sayAll_55 : decode cX11_sayAll 55 = .ok (.ifCond .eq 18, 3) := by decide +kernel
theorem dX11_sayAll_58 : decode cX11_sayAll 58 = .ok (.aload_n 0, 1) := by decide +kernel
theorem dX11_sayAll_59 : decode cX11_sayAll 59 = .ok (.getfield 46, 3) := by decide +kernel
theorem dX11_sayAll_62 : decode cX11_sayAll 62 = .ok (.iload_n 3, 1) := by decide +kernel
theorem dX11_sayAll_63 : decode cX11_sayAll 63 = .ok (.iaload, 1) := by decide +kernel
theorem dX11_sayAll_64 : decode cX11_sayAll 64 = .ok (.iconst 1, 1) := by decide +kernel
theorem dX11_sayAll_65 : decode cX11_sayAll 65 = .ok (.if_icmp .eq 8, 3) := by decide +kernel
theorem dX11_sayAll_68 : decode cX11_sayAll 68 = .ok (.aload_n 0, 1) := by decide +kernel
theorem dX11_sayAll_69 : decode cX11_sayAll 69 = .ok (.iload_n 3, 1) := by decide +kernel
theorem dX11_sayAll_70 : decode cX11_sayAll 70 = .ok (.invokevirtual 261, 3) := by decide +kernel
theorem dX11_sayAll_73 : decode cX11_sayAll 73 = .ok (.iinc 2 1, 3) := by decide +kernel
theorem dX11_sayAll_76 : decode cX11_sayAll 76 = .ok (.goto (-53), 3) := by decide +kernel
theorem dX11_sayAll_79 : decode cX11_sayAll 79 = .ok (.return_, 1) := by decide +kernel
theorem dX11_digitOf_0 : decode cX11_digitOf 0 = .ok (.iload_n 0, 1) := by decide +kernel
theorem dX11_digitOf_1 : decode cX11_digitOf 1 = .ok (.bipush 48, 2) := by decide +kernel
theorem dX11_digitOf_3 : decode cX11_digitOf 3 = .ok (.if_icmp .lt 16, 3) := by decide +kernel
theorem dX11_digitOf_6 : decode cX11_digitOf 6 = .ok (.iload_n 0, 1) := by decide +kernel
theorem dX11_digitOf_7 : decode cX11_digitOf 7 = .ok (.bipush 57, 2) := by decide +kernel
theorem dX11_digitOf_9 : decode cX11_digitOf 9 = .ok (.if_icmp .gt 10, 3) := by decide +kernel
theorem dX11_digitOf_12 : decode cX11_digitOf 12 = .ok (.iload_n 0, 1) := by decide +kernel
theorem dX11_digitOf_13 : decode cX11_digitOf 13 = .ok (.bipush 48, 2) := by decide +kernel
theorem dX11_digitOf_15 : decode cX11_digitOf 15 = .ok (.isub, 1) := by decide +kernel
theorem dX11_digitOf_16 : decode cX11_digitOf 16 = .ok (.goto 49, 3) := by decide +kernel
theorem dX11_digitOf_19 : decode cX11_digitOf 19 = .ok (.iload_n 0, 1) := by decide +kernel
theorem dX11_digitOf_20 : decode cX11_digitOf 20 = .ok (.bipush 97, 2) := by decide +kernel
theorem dX11_digitOf_22 : decode cX11_digitOf 22 = .ok (.if_icmp .lt 19, 3) := by decide +kernel
theorem dX11_digitOf_25 : decode cX11_digitOf 25 = .ok (.iload_n 0, 1) := by decide +kernel
theorem dX11_digitOf_26 : decode cX11_digitOf 26 = .ok (.bipush 102, 2) := by decide +kernel
theorem dX11_digitOf_28 : decode cX11_digitOf 28 = .ok (.if_icmp .gt 13, 3) := by decide +kernel
theorem dX11_digitOf_31 : decode cX11_digitOf 31 = .ok (.iload_n 0, 1) := by decide +kernel
theorem dX11_digitOf_32 : decode cX11_digitOf 32 = .ok (.bipush 97, 2) := by decide +kernel
theorem dX11_digitOf_34 : decode cX11_digitOf 34 = .ok (.isub, 1) := by decide +kernel
theorem dX11_digitOf_35 : decode cX11_digitOf 35 = .ok (.bipush 10, 2) := by decide +kernel
theorem dX11_digitOf_37 : decode cX11_digitOf 37 = .ok (.iadd, 1) := by decide +kernel
theorem dX11_digitOf_38 : decode cX11_digitOf 38 = .ok (.goto 27, 3) := by decide +kernel
theorem dX11_digitOf_41 : decode cX11_digitOf 41 = .ok (.iload_n 0, 1) := by decide +kernel
theorem dX11_digitOf_42 : decode cX11_digitOf 42 = .ok (.bipush 65, 2) := by decide +kernel
theorem dX11_digitOf_44 : decode cX11_digitOf 44 = .ok (.if_icmp .lt 19, 3) := by decide +kernel
theorem dX11_digitOf_47 : decode cX11_digitOf 47 = .ok (.iload_n 0, 1) := by decide +kernel
theorem dX11_digitOf_48 : decode cX11_digitOf 48 = .ok (.bipush 70, 2) := by decide +kernel
theorem dX11_digitOf_50 : decode cX11_digitOf 50 = .ok (.if_icmp .gt 13, 3) := by decide +kernel
theorem dX11_digitOf_53 : decode cX11_digitOf 53 = .ok (.iload_n 0, 1) := by decide +kernel
theorem dX11_digitOf_54 : decode cX11_digitOf 54 = .ok (.bipush 65, 2) := by decide +kernel
theorem dX11_digitOf_56 : decode cX11_digitOf 56 = .ok (.isub, 1) := by decide +kernel
theorem dX11_digitOf_57 : decode cX11_digitOf 57 = .ok (.bipush 10, 2) := by decide +kernel
theorem dX11_digitOf_59 : decode cX11_digitOf 59 = .ok (.iadd, 1) := by decide +kernel
theorem dX11_digitOf_60 : decode cX11_digitOf 60 = .ok (.goto 5, 3) := by decide +kernel
theorem dX11_digitOf_63 : decode cX11_digitOf 63 = .ok (.bipush 99, 2) := by decide +kernel
theorem dX11_digitOf_65 : decode cX11_digitOf 65 = .ok (.ireturn, 1) := by decide +kernel
set_option maxRecDepth 20000 in
theorem ggX11_numberOfSaid_X11_hexadecimal : GoodIn wsX11_numberOfSaid wsX11_hexadecimal := goodIn_r _ [9, 3, 2, 10, 11, 12, 8, 13, 14, 15, 16, 17, 18, 19, 20, 21, 22, 23, 24, 25, 26, 27, 28, 29, 30, 31, 32, 33, 34, 35, 36, 37, 38, 39, 40, 41] rfl (by decide +kernel)
set_option maxRecDepth 20000 in
theorem gX11_numberOfSaid_X11_hexadecimal : GoodIn wsX11_numberOfSaid (wsV RX11 267 RX11 yX11_hexadecimal wsX11_hexadecimal) := goodIn_app (goodIn_of _ (by decide +kernel)) ggX11_numberOfSaid_X11_hexadecimal
set_option maxRecDepth 20000 in
theorem ggX11_numberOfSaid_X11_digitOf : GoodIn wsX11_numberOfSaid wsX11_digitOf := goodIn_r _ [13] rfl (by decide +kernel)
set_option maxRecDepth 20000 in
theorem gX11_numberOfSaid_X11_digitOf : GoodIn wsX11_numberOfSaid (va_wsS RX11 271 yX11_digitOf wsX11_digitOf) := goodIn_app (goodIn_of _ (by decide +kernel)) ggX11_numberOfSaid_X11_digitOf
theorem dX11_numberOfSaid_0 : decode cX11_numberOfSaid 0 = .ok (.iconst 0, 1) := by decide +kernel
theorem dX11_numberOfSaid_1 : decode cX11_numberOfSaid 1 = .ok (.istore_n 1, 1) := by decide +kernel
theorem dX11_numberOfSaid_2 : decode cX11_numberOfSaid 2 = .ok (.aload_n 0, 1) := by decide +kernel
theorem dX11_numberOfSaid_3 : decode cX11_numberOfSaid 3 = .ok (.getfield 227, 3) := by decide +kernel
theorem dX11_numberOfSaid_6 : decode cX11_numberOfSaid 6 = .ok (.istore_n 2, 1) := by decide +kernel
theorem dX11_numberOfSaid_7 : decode cX11_numberOfSaid 7 = .ok (.iload_n 1, 1) := by decide +kernel
theorem dX11_numberOfSaid_8 : decode cX11_numberOfSaid 8 = .ok (.iload_n 2, 1) := by decide +kernel
theorem dX11_numberOfSaid_9 : decode cX11_numberOfSaid 9 = .ok (.if_icmp .ge 20, 3) := by decide +kernel
theorem dX11_numberOfSaid_12 : decode cX11_numberOfSaid 12 = .ok (.aload_n 0, 1) := by decide +kernel
theorem dX11_numberOfSaid_13 : decode cX11_numberOfSaid 13 = .ok (.getfield 75, 3) := by decide +kernel
theorem dX11_numberOfSaid_16 : decode cX11_numberOfSaid 16 = .ok (.iload_n 1, 1) := by decide +kernel
theorem dX11_numberOfSaid_17 : decode cX11_numberOfSaid 17 = .ok (.caload, 1) := by decide +kernel
theorem dX11_numberOfSaid_18 : decode cX11_numberOfSaid 18 = .ok (.bipush 32, 2) := by decide +kernel
theorem dX11_numberOfSaid_20 : decode cX11_numberOfSaid 20 = .ok (.if_icmp .ne 9, 3) := by decide +kernel
theorem dX11_numberOfSaid_23 : decode cX11_numberOfSaid 23 = .ok (.iinc 1 1, 3) := by decide +kernel
theorem dX11_numberOfSaid_26 : decode cX11_numberOfSaid 26 = .ok (.goto (-19), 3) := by decide +kernel
theorem dX11_numberOfSaid_29 : decode cX11_numberOfSaid 29 = .ok (.iload_n 1, 1) := by decide +kernel
theorem dX11_numberOfSaid_30 : decode cX11_numberOfSaid 30 = .ok (.iload_n 2, 1) := by decide +kernel
theorem dX11_numberOfSaid_31 : decode cX11_numberOfSaid 31 = .ok (.if_icmp .ge 22, 3) := by decide +kernel
theorem dX11_numberOfSaid_34 : decode cX11_numberOfSaid 34 = .ok (.aload_n 0, 1) := by decide +kernel
theorem dX11_numberOfSaid_35 : decode cX11_numberOfSaid 35 = .ok (.getfield 75, 3) := by decide +kernel
theorem dX11_numberOfSaid_38 : decode cX11_numberOfSaid 38 = .ok (.iload_n 2, 1) := by decide +kernel
theorem dX11_numberOfSaid_39 : decode cX11_numberOfSaid 39 = .ok (.iconst 1, 1) := by decide +kernel
theorem dX11_numberOfSaid_40 : decode cX11_numberOfSaid 40 = .ok (.isub, 1) := by decide +kernel
theorem dX11_numberOfSaid_41 : decode cX11_numberOfSaid 41 = .ok (.caload, 1) := by decide +kernel
theorem dX11_numberOfSaid_42 : decode cX11_numberOfSaid 42 = .ok (.bipush 32, 2) := by decide +kernel
theorem dX11_numberOfSaid_44 : decode cX11_numberOfSaid 44 = .ok (.if_icmp .ne 9, 3) := by decide +kernel
theorem dX11_numberOfSaid_47 : decode cX11_numberOfSaid 47 = .ok (.iinc 2 (-1), 3) := by decide +kernel
theorem dX11_numberOfSaid_50 : decode cX11_numberOfSaid 50 = .ok (.goto (-21), 3) := by decide +kernel
theorem dX11_numberOfSaid_53 : decode cX11_numberOfSaid 53 = .ok (.aload_n 0, 1) := by decide +kernel
theorem dX11_numberOfSaid_54 : decode cX11_numberOfSaid 54 = .ok (.iconst 1, 1) := by decide +kernel
theorem dX11_numberOfSaid_55 : decode cX11_numberOfSaid 55 = .ok (.putfield 264, 3) := by decide +kernel
theorem dX11_numberOfSaid_58 : decode cX11_numberOfSaid 58 = .ok (.iload_n 1, 1) := by decide +kernel
theorem dX11_numberOfSaid_59 : decode cX11_numberOfSaid 59 = .ok (.iload_n 2, 1) := by decide +kernel
theorem dX11_numberOfSaid_60 : decode cX11_numberOfSaid 60 = .ok (.if_icmp .ne 5, 3) := by decide +kernel
theorem dX11_numberOfSaid_63 : decode cX11_numberOfSaid 63 = .ok (.dconst 0, 1) := by decide +kernel
theorem dX11_numberOfSaid_64 : decode cX11_numberOfSaid 64 = .ok (.dreturn, 1) := by decide +kernel
theorem dX11_numberOfSaid_65 : decode cX11_numberOfSaid 65 = .ok (.iload_n 2, 1) := by decide +kernel
theorem dX11_numberOfSaid_66 : decode cX11_numberOfSaid 66 = .ok (.iload_n 1, 1) := by decide +kernel
theorem dX11_numberOfSaid_67 : decode cX11_numberOfSaid 67 = .ok (.isub, 1) := by decide +kernel
theorem dX11_numberOfSaid_68 : decode cX11_numberOfSaid 68 = .ok (.iconst 2, 1) := by decide +kernel
theorem dX11_numberOfSaid_69 : decode cX11_numberOfSaid 69 = .ok (.if_icmp .le 36, 3) := by decide +kernel
theorem dX11_numberOfSaid_72 : decode cX11_numberOfSaid 72 = .ok (.aload_n 0, 1) := by decide +kernel
theorem dX11_numberOfSaid_73 : decode cX11_numberOfSaid 73 = .ok (.getfield 75, 3) := by decide +kernel
theorem dX11_numberOfSaid_76 : decode cX11_numberOfSaid 76 = .ok (.iload_n 1, 1) := by decide +kernel
theorem dX11_numberOfSaid_77 : decode cX11_numberOfSaid 77 = .ok (.caload, 1) := by decide +kernel
theorem dX11_numberOfSaid_78 : decode cX11_numberOfSaid 78 = .ok (.bipush 48, 2) := by decide +kernel
theorem dX11_numberOfSaid_80 : decode cX11_numberOfSaid 80 = .ok (.if_icmp .ne 25, 3) := by decide +kernel
theorem dX11_numberOfSaid_83 : decode cX11_numberOfSaid 83 = .ok (.aload_n 0, 1) := by decide +kernel
theorem dX11_numberOfSaid_84 : decode cX11_numberOfSaid 84 = .ok (.getfield 75, 3) := by decide +kernel
theorem dX11_numberOfSaid_87 : decode cX11_numberOfSaid 87 = .ok (.iload_n 1, 1) := by decide +kernel
theorem dX11_numberOfSaid_88 : decode cX11_numberOfSaid 88 = .ok (.iconst 1, 1) := by decide +kernel
theorem dX11_numberOfSaid_89 : decode cX11_numberOfSaid 89 = .ok (.iadd, 1) := by decide +kernel
theorem dX11_numberOfSaid_90 : decode cX11_numberOfSaid 90 = .ok (.caload, 1) := by decide +kernel
theorem dX11_numberOfSaid_91 : decode cX11_numberOfSaid 91 = .ok (.bipush 120, 2) := by decide +kernel
theorem dX11_numberOfSaid_93 : decode cX11_numberOfSaid 93 = .ok (.if_icmp .ne 12, 3) := by decide +kernel
theorem dX11_numberOfSaid_96 : decode cX11_numberOfSaid 96 = .ok (.aload_n 0, 1) := by decide +kernel
theorem dX11_numberOfSaid_97 : decode cX11_numberOfSaid 97 = .ok (.iload_n 1, 1) := by decide +kernel
theorem dX11_numberOfSaid_98 : decode cX11_numberOfSaid 98 = .ok (.iconst 2, 1) := by decide +kernel
theorem dX11_numberOfSaid_99 : decode cX11_numberOfSaid 99 = .ok (.iadd, 1) := by decide +kernel
theorem dX11_numberOfSaid_100 : decode cX11_numberOfSaid 100 = .ok (.iload_n 2, 1) := by decide +kernel
theorem dX11_numberOfSaid_101 : decode cX11_numberOfSaid 101 = .ok (.invokevirtual 267, 3) := by decide +kernel
theorem dX11_numberOfSaid_104 : decode cX11_numberOfSaid 104 = .ok (.dreturn, 1) := by decide +kernel
theorem dX11_numberOfSaid_105 : decode cX11_numberOfSaid 105 = .ok (.aload_n 0, 1) := by decide +kernel
theorem dX11_numberOfSaid_106 : decode cX11_numberOfSaid 106 = .ok (.getfield 75, 3) := by decide +kernel
theorem dX11_numberOfSaid_109 : decode cX11_numberOfSaid 109 = .ok (.iload_n 1, 1) := by decide +kernel
theorem dX11_numberOfSaid_110 : decode cX11_numberOfSaid 110 = .ok (.caload, 1) := by decide +kernel
theorem dX11_numberOfSaid_111 : decode cX11_numberOfSaid 111 = .ok (.bipush 45, 2) := by decide +kernel
theorem dX11_numberOfSaid_113 : decode cX11_numberOfSaid 113 = .ok (.if_icmp .ne 7, 3) := by decide +kernel
theorem dX11_numberOfSaid_116 : decode cX11_numberOfSaid 116 = .ok (.iconst 1, 1) := by decide +kernel
theorem dX11_numberOfSaid_117 : decode cX11_numberOfSaid 117 = .ok (.goto 4, 3) := by decide +kernel
theorem dX11_numberOfSaid_120 : decode cX11_numberOfSaid 120 = .ok (.iconst 0, 1) := by decide +kernel
theorem dX11_numberOfSaid_121 : decode cX11_numberOfSaid 121 = .ok (.istore_n 3, 1) := by decide +kernel
theorem dX11_numberOfSaid_122 : decode cX11_numberOfSaid 122 = .ok (.iload_n 3, 1) := by decide +kernel
theorem dX11_numberOfSaid_123 : decode cX11_numberOfSaid 123 = .ok (.ifCond .ne 14, 3) := by decide +kernel
theorem dX11_numberOfSaid_126 : decode cX11_numberOfSaid 126 = .ok (.aload_n 0, 1) := by decide +kernel
theorem dX11_numberOfSaid_127 : decode cX11_numberOfSaid 127 = .ok (.getfield 75, 3) := by decide +kernel
theorem dX11_numberOfSaid_130 : decode cX11_numberOfSaid 130 = .ok (.iload_n 1, 1) := by decide +kernel
theorem dX11_numberOfSaid_131 : decode cX11_numberOfSaid 131 = .ok (.caload, 1) := by decide +kernel
theorem dX11_numberOfSaid_132 : decode cX11_numberOfSaid 132 = .ok (.bipush 43, 2) := by decide +kernel
theorem dX11_numberOfSaid_134 : decode cX11_numberOfSaid 134 = .ok (.if_icmp .ne 9, 3) := by decide +kernel
theorem dX11_numberOfSaid_137 : decode cX11_numberOfSaid 137 = .ok (.iload_n 1, 1) := by decide +kernel
theorem dX11_numberOfSaid_138 : decode cX11_numberOfSaid 138 = .ok (.iconst 1, 1) := by decide +kernel
theorem dX11_numberOfSaid_139 : decode cX11_numberOfSaid 139 = .ok (.iadd, 1) := by decide +kernel
theorem dX11_numberOfSaid_140 : decode cX11_numberOfSaid 140 = .ok (.goto 4, 3) := by decide +kernel
theorem dX11_numberOfSaid_143 : decode cX11_numberOfSaid 143 = .ok (.iload_n 1, 1) := by decide +kernel
theorem dX11_numberOfSaid_144 : decode cX11_numberOfSaid 144 = .ok (.istore 4, 2) := by decide +kernel
theorem dX11_numberOfSaid_146 : decode cX11_numberOfSaid 146 = .ok (.lconst 0, 1) := by decide +kernel
theorem dX11_numberOfSaid_147 : decode cX11_numberOfSaid 147 = .ok (.lstore 5, 2) := by decide +kernel
theorem dX11_numberOfSaid_149 : decode cX11_numberOfSaid 149 = .ok (.lconst 1, 1) := by decide +kernel
theorem dX11_numberOfSaid_150 : decode cX11_numberOfSaid 150 = .ok (.lstore 7, 2) := by decide +kernel
theorem dX11_numberOfSaid_152 : decode cX11_numberOfSaid 152 = .ok (.iconst (-1), 1) := by decide +kernel
theorem dX11_numberOfSaid_153 : decode cX11_numberOfSaid 153 = .ok (.istore 9, 2) := by decide +kernel
theorem dX11_numberOfSaid_155 : decode cX11_numberOfSaid 155 = .ok (.iconst (-1), 1) := by decide +kernel
theorem dX11_numberOfSaid_156 : decode cX11_numberOfSaid 156 = .ok (.istore 10, 2) := by decide +kernel
theorem dX11_numberOfSaid_158 : decode cX11_numberOfSaid 158 = .ok (.iload 4, 2) := by decide +kernel
theorem dX11_numberOfSaid_160 : decode cX11_numberOfSaid 160 = .ok (.istore 11, 2) := by decide +kernel
theorem dX11_numberOfSaid_162 : decode cX11_numberOfSaid 162 = .ok (.iload 11, 2) := by decide +kernel
theorem dX11_numberOfSaid_164 : decode cX11_numberOfSaid 164 = .ok (.iload_n 2, 1) := by decide +kernel
theorem dX11_numberOfSaid_165 : decode cX11_numberOfSaid 165 = .ok (.if_icmp .ge 91, 3) := by decide +kernel
theorem dX11_numberOfSaid_168 : decode cX11_numberOfSaid 168 = .ok (.aload_n 0, 1) := by decide +kernel
theorem dX11_numberOfSaid_169 : decode cX11_numberOfSaid 169 = .ok (.getfield 75, 3) := by decide +kernel
theorem dX11_numberOfSaid_172 : decode cX11_numberOfSaid 172 = .ok (.iload 11, 2) := by decide +kernel
theorem dX11_numberOfSaid_174 : decode cX11_numberOfSaid 174 = .ok (.caload, 1) := by decide +kernel
theorem dX11_numberOfSaid_175 : decode cX11_numberOfSaid 175 = .ok (.istore 12, 2) := by decide +kernel
theorem dX11_numberOfSaid_177 : decode cX11_numberOfSaid 177 = .ok (.iload 12, 2) := by decide +kernel
theorem dX11_numberOfSaid_179 : decode cX11_numberOfSaid 179 = .ok (.bipush 46, 2) := by decide +kernel
theorem dX11_numberOfSaid_181 : decode cX11_numberOfSaid 181 = .ok (.if_icmp .ne 15, 3) := by decide +kernel
theorem dX11_numberOfSaid_184 : decode cX11_numberOfSaid 184 = .ok (.iload 9, 2) := by decide +kernel
theorem dX11_numberOfSaid_186 : decode cX11_numberOfSaid 186 = .ok (.ifCond .ge 10, 3) := by decide +kernel
theorem dX11_numberOfSaid_189 : decode cX11_numberOfSaid 189 = .ok (.iload 11, 2) := by decide +kernel
theorem dX11_numberOfSaid_191 : decode cX11_numberOfSaid 191 = .ok (.istore 9, 2) := by decide +kernel
theorem dX11_numberOfSaid_193 : decode cX11_numberOfSaid 193 = .ok (.goto 57, 3) := by decide +kernel
theorem dX11_numberOfSaid_196 : decode cX11_numberOfSaid 196 = .ok (.iload 12, 2) := by decide +kernel
theorem dX11_numberOfSaid_198 : decode cX11_numberOfSaid 198 = .ok (.invokestatic 271, 3) := by decide +kernel
theorem dX11_numberOfSaid_201 : decode cX11_numberOfSaid 201 = .ok (.bipush 9, 2) := by decide +kernel
theorem dX11_numberOfSaid_203 : decode cX11_numberOfSaid 203 = .ok (.if_icmp .le 10, 3) := by decide +kernel
theorem dX11_numberOfSaid_206 : decode cX11_numberOfSaid 206 = .ok (.aload_n 0, 1) := by decide +kernel
theorem dX11_numberOfSaid_207 : decode cX11_numberOfSaid 207 = .ok (.iconst 0, 1) := by decide +kernel
theorem dX11_numberOfSaid_208 : decode cX11_numberOfSaid 208 = .ok (.putfield 264, 3) := by decide +kernel
theorem dX11_numberOfSaid_211 : decode cX11_numberOfSaid 211 = .ok (.dconst 0, 1) := by decide +kernel
theorem dX11_numberOfSaid_212 : decode cX11_numberOfSaid 212 = .ok (.dreturn, 1) := by decide +kernel
theorem dX11_numberOfSaid_213 : decode cX11_numberOfSaid 213 = .ok (.ldc2_w 235, 3) := by decide +kernel
theorem dX11_numberOfSaid_216 : decode cX11_numberOfSaid 216 = .ok (.lload 5, 2) := by decide +kernel
theorem dX11_numberOfSaid_218 : decode cX11_numberOfSaid 218 = .ok (.lmul, 1) := by decide +kernel
theorem dX11_numberOfSaid_219 : decode cX11_numberOfSaid 219 = .ok (.iload 12, 2) := by decide +kernel
theorem dX11_numberOfSaid_221 : decode cX11_numberOfSaid 221 = .ok (.invokestatic 271, 3) := by decide +kernel
theorem dX11_numberOfSaid_224 : decode cX11_numberOfSaid 224 = .ok (.i2l, 1) := by decide +kernel
theorem dX11_numberOfSaid_225 : decode cX11_numberOfSaid 225 = .ok (.ladd, 1) := by decide +kernel
theorem dX11_numberOfSaid_226 : decode cX11_numberOfSaid 226 = .ok (.lstore 5, 2) := by decide +kernel
theorem dX11_numberOfSaid_228 : decode cX11_numberOfSaid 228 = .ok (.iload 9, 2) := by decide +kernel
theorem dX11_numberOfSaid_230 : decode cX11_numberOfSaid 230 = .ok (.ifCond .lt 12, 3) := by decide +kernel
theorem dX11_numberOfSaid_233 : decode cX11_numberOfSaid 233 = .ok (.ldc2_w 235, 3) := by decide +kernel
theorem dX11_numberOfSaid_236 : decode cX11_numberOfSaid 236 = .ok (.lload 7, 2) := by decide +kernel
theorem dX11_numberOfSaid_238 : decode cX11_numberOfSaid 238 = .ok (.lmul, 1) := by decide +kernel
theorem dX11_numberOfSaid_239 : decode cX11_numberOfSaid 239 = .ok (.goto 5, 3) := by decide +kernel
theorem dX11_numberOfSaid_242 : decode cX11_numberOfSaid 242 = .ok (.lload 7, 2) := by decide +kernel
theorem dX11_numberOfSaid_244 : decode cX11_numberOfSaid 244 = .ok (.lstore 7, 2) := by decide +kernel
theorem dX11_numberOfSaid_246 : decode cX11_numberOfSaid 246 = .ok (.iload 11, 2) := by decide +kernel
theorem dX11_numberOfSaid_248 : decode cX11_numberOfSaid 248 = .ok (.istore 10, 2) := by decide +kernel
theorem dX11_numberOfSaid_250 : decode cX11_numberOfSaid 250 = .ok (.iinc 11 1, 3) := by decide +kernel
theorem dX11_numberOfSaid_253 : decode cX11_numberOfSaid 253 = .ok (.goto (-91), 3) := by decide +kernel
theorem dX11_numberOfSaid_256 : decode cX11_numberOfSaid 256 = .ok (.iload 10, 2) := by decide +kernel
theorem dX11_numberOfSaid_258 : decode cX11_numberOfSaid 258 = .ok (.ifCond .lt 23, 3) := by decide +kernel
theorem dX11_numberOfSaid_261 : decode cX11_numberOfSaid 261 = .ok (.iload 9, 2) := by decide +kernel
theorem dX11_numberOfSaid_263 : decode cX11_numberOfSaid 263 = .ok (.ifCond .lt 25, 3) := by decide +kernel
theorem dX11_numberOfSaid_266 : decode cX11_numberOfSaid 266 = .ok (.iload 9, 2) := by decide +kernel
theorem dX11_numberOfSaid_268 : decode cX11_numberOfSaid 268 = .ok (.iload 4, 2) := by decide +kernel
theorem dX11_numberOfSaid_270 : decode cX11_numberOfSaid 270 = .ok (.if_icmp .eq 11, 3) := by decide +kernel
theorem dX11_numberOfSaid_273 : decode cX11_numberOfSaid 273 = .ok (.iload 9, 2) := by decide +kernel
theorem dX11_numberOfSaid_275 : decode cX11_numberOfSaid 275 = .ok (.iload_n 2, 1) := by decide +kernel
theorem dX11_numberOfSaid_276 : decode cX11_numberOfSaid 276 = .ok (.iconst 1, 1) := by decide +kernel
theorem dX11_numberOfSaid_277 : decode cX11_numberOfSaid 277 = .ok (.isub, 1) := by decide +kernel
theorem dX11_numberOfSaid_278 : decode cX11_numberOfSaid 278 = .ok (.if_icmp .ne 10, 3) := by decide +kernel
theorem dX11_numberOfSaid_281 : decode cX11_numberOfSaid 281 = .ok (.aload_n 0, 1) := by decide +kernel
theorem dX11_numberOfSaid_282 : decode cX11_numberOfSaid 282 = .ok (.iconst 0, 1) := by decide +kernel
theorem dX11_numberOfSaid_283 : decode cX11_numberOfSaid 283 = .ok (.putfield 264, 3) := by decide +kernel
theorem dX11_numberOfSaid_286 : decode cX11_numberOfSaid 286 = .ok (.dconst 0, 1) := by decide +kernel
theorem dX11_numberOfSaid_287 : decode cX11_numberOfSaid 287 = .ok (.dreturn, 1) := by decide +kernel
theorem dX11_numberOfSaid_288 : decode cX11_numberOfSaid 288 = .ok (.lload 5, 2) := by decide +kernel
theorem dX11_numberOfSaid_290 : decode cX11_numberOfSaid 290 = .ok (.l2d, 1) := by decide +kernel
theorem dX11_numberOfSaid_291 : decode cX11_numberOfSaid 291 = .ok (.lload 7, 2) := by decide +kernel
theorem dX11_numberOfSaid_293 : decode cX11_numberOfSaid 293 = .ok (.l2d, 1) := by decide +kernel
theorem dX11_numberOfSaid_294 : decode cX11_numberOfSaid 294 = .ok (.ddiv, 1) := by decide +kernel
theorem dX11_numberOfSaid_295 : decode cX11_numberOfSaid 295 = .ok (.dstore 11, 2) := by decide +kernel
theorem dX11_numberOfSaid_297 : decode cX11_numberOfSaid 297 = .ok (.iload_n 3, 1) := by decide +kernel
theorem dX11_numberOfSaid_298 : decode cX11_numberOfSaid 298 = .ok (.ifCond .eq 16, 3) := by decide +kernel
theorem dX11_numberOfSaid_301 : decode cX11_numberOfSaid 301 = .ok (.lload 5, 2) := by decide +kernel
theorem dX11_numberOfSaid_303 : decode cX11_numberOfSaid 303 = .ok (.lconst 0, 1) := by decide +kernel
theorem dX11_numberOfSaid_304 : decode cX11_numberOfSaid 304 = .ok (.lcmp, 1) := by decide +kernel
theorem dX11_numberOfSaid_305 : decode cX11_numberOfSaid 305 = .ok (.ifCond .le 9, 3) := by decide +kernel
theorem dX11_numberOfSaid_308 : decode cX11_numberOfSaid 308 = .ok (.dload 11, 2) := by decide +kernel
theorem dX11_numberOfSaid_310 : decode cX11_numberOfSaid 310 = .ok (.dneg, 1) := by decide +kernel
theorem dX11_numberOfSaid_311 : decode cX11_numberOfSaid 311 = .ok (.goto 5, 3) := by decide +kernel
theorem dX11_numberOfSaid_314 : decode cX11_numberOfSaid 314 = .ok (.dload 11, 2) := by decide +kernel
theorem dX11_numberOfSaid_316 : decode cX11_numberOfSaid 316 = .ok (.dreturn, 1) := by decide +kernel
set_option maxRecDepth 20000 in
theorem ggX11_hexadecimal_X11_digitOf : GoodIn wsX11_hexadecimal wsX11_digitOf := goodIn_r _ [7] rfl (by decide +kernel)
set_option maxRecDepth 20000 in
theorem gX11_hexadecimal_X11_digitOf : GoodIn wsX11_hexadecimal (va_wsS RX11 271 yX11_digitOf wsX11_digitOf) := goodIn_app (goodIn_of _ (by decide +kernel)) ggX11_hexadecimal_X11_digitOf
theorem dX11_hexadecimal_0 : decode cX11_hexadecimal 0 = .ok (.lconst 0, 1) := by decide +kernel
theorem dX11_hexadecimal_1 : decode cX11_hexadecimal 1 = .ok (.lstore_n 3, 1) := by decide +kernel
theorem dX11_hexadecimal_2 : decode cX11_hexadecimal 2 = .ok (.aload_n 0, 1) := by decide +kernel
theorem dX11_hexadecimal_3 : decode cX11_hexadecimal 3 = .ok (.iload_n 2, 1) := by decide +kernel
theorem dX11_hexadecimal_4 : decode cX11_hexadecimal 4 = .ok (.iload_n 1, 1) := by decide +kernel
theorem dX11_hexadecimal_5 : decode cX11_hexadecimal 5 = .ok (.isub, 1) := by decide +kernel
theorem dX11_hexadecimal_6 : decode cX11_hexadecimal 6 = .ok (.bipush 8, 2) := by decide +kernel
theorem dX11_hexadecimal_8 : decode cX11_hexadecimal 8 = .ok (.if_icmp .gt 7, 3) := by decide +kernel
theorem dX11_hexadecimal_11 : decode cX11_hexadecimal 11 = .ok (.iconst 1, 1) := by decide +kernel
theorem dX11_hexadecimal_12 : decode cX11_hexadecimal 12 = .ok (.goto 4, 3) := by decide +kernel
theorem dX11_hexadecimal_15 : decode cX11_hexadecimal 15 = .ok (.iconst 0, 1) := by decide +kernel
theorem dX11_hexadecimal_16 : decode cX11_hexadecimal 16 = .ok (.putfield 264, 3) := by decide +kernel
theorem dX11_hexadecimal_19 : decode cX11_hexadecimal 19 = .ok (.iload_n 1, 1) := by decide +kernel
theorem dX11_hexadecimal_20 : decode cX11_hexadecimal 20 = .ok (.istore 5, 2) := by decide +kernel
theorem dX11_hexadecimal_22 : decode cX11_hexadecimal 22 = .ok (.iload 5, 2) := by decide +kernel
theorem dX11_hexadecimal_24 : decode cX11_hexadecimal 24 = .ok (.iload_n 2, 1) := by decide +kernel
theorem dX11_hexadecimal_25 : decode cX11_hexadecimal 25 = .ok (.if_icmp .ge 58, 3) := by decide +kernel
theorem dX11_hexadecimal_28 : decode cX11_hexadecimal 28 = .ok (.aload_n 0, 1) := by decide +kernel
theorem dX11_hexadecimal_29 : decode cX11_hexadecimal 29 = .ok (.getfield 264, 3) := by decide +kernel
theorem dX11_hexadecimal_32 : decode cX11_hexadecimal 32 = .ok (.ifCond .eq 51, 3) := by decide +kernel
theorem dX11_hexadecimal_35 : decode cX11_hexadecimal 35 = .ok (.aload_n 0, 1) := by decide +kernel
theorem dX11_hexadecimal_36 : decode cX11_hexadecimal 36 = .ok (.aload_n 0, 1) := by decide +kernel
theorem dX11_hexadecimal_37 : decode cX11_hexadecimal 37 = .ok (.getfield 75, 3) := by decide +kernel
theorem dX11_hexadecimal_40 : decode cX11_hexadecimal 40 = .ok (.iload 5, 2) := by decide +kernel
theorem dX11_hexadecimal_42 : decode cX11_hexadecimal 42 = .ok (.caload, 1) := by decide +kernel
theorem dX11_hexadecimal_43 : decode cX11_hexadecimal 43 = .ok (.invokestatic 271, 3) := by decide +kernel
theorem dX11_hexadecimal_46 : decode cX11_hexadecimal 46 = .ok (.bipush 16, 2) := by decide +kernel
theorem dX11_hexadecimal_48 : decode cX11_hexadecimal 48 = .ok (.if_icmp .ge 7, 3) := by decide +kernel
theorem dX11_hexadecimal_51 : decode cX11_hexadecimal 51 = .ok (.iconst 1, 1) := by decide +kernel
theorem dX11_hexadecimal_52 : decode cX11_hexadecimal 52 = .ok (.goto 4, 3) := by decide +kernel
theorem dX11_hexadecimal_55 : decode cX11_hexadecimal 55 = .ok (.iconst 0, 1) := by decide +kernel
theorem dX11_hexadecimal_56 : decode cX11_hexadecimal 56 = .ok (.putfield 264, 3) := by decide +kernel
theorem dX11_hexadecimal_59 : decode cX11_hexadecimal 59 = .ok (.ldc2_w 275, 3) := by decide +kernel
theorem dX11_hexadecimal_62 : decode cX11_hexadecimal 62 = .ok (.lload_n 3, 1) := by decide +kernel
theorem dX11_hexadecimal_63 : decode cX11_hexadecimal 63 = .ok (.lmul, 1) := by decide +kernel
theorem dX11_hexadecimal_64 : decode cX11_hexadecimal 64 = .ok (.aload_n 0, 1) := by decide +kernel
theorem dX11_hexadecimal_65 : decode cX11_hexadecimal 65 = .ok (.getfield 75, 3) := by decide +kernel
theorem dX11_hexadecimal_68 : decode cX11_hexadecimal 68 = .ok (.iload 5, 2) := by decide +kernel
theorem dX11_hexadecimal_70 : decode cX11_hexadecimal 70 = .ok (.caload, 1) := by decide +kernel
theorem dX11_hexadecimal_71 : decode cX11_hexadecimal 71 = .ok (.invokestatic 271, 3) := by decide +kernel
theorem dX11_hexadecimal_74 : decode cX11_hexadecimal 74 = .ok (.i2l, 1) := by decide +kernel
theorem dX11_hexadecimal_75 : decode cX11_hexadecimal 75 = .ok (.ladd, 1) := by decide +kernel
theorem dX11_hexadecimal_76 : decode cX11_hexadecimal 76 = .ok (.lstore_n 3, 1) := by decide +kernel
theorem dX11_hexadecimal_77 : decode cX11_hexadecimal 77 = .ok (.iinc 5 1, 3) := by decide +kernel
theorem dX11_hexadecimal_80 : decode cX11_hexadecimal 80 = .ok (.goto (-58), 3) := by decide +kernel
theorem dX11_hexadecimal_83 : decode cX11_hexadecimal 83 = .ok (.aload_n 0, 1) := by decide +kernel
theorem dX11_hexadecimal_84 : decode cX11_hexadecimal 84 = .ok (.getfield 264, 3) := by decide +kernel
theorem dX11_hexadecimal_87 : decode cX11_hexadecimal 87 = .ok (.ifCond .eq 8, 3) := by decide +kernel
theorem dX11_hexadecimal_90 : decode cX11_hexadecimal 90 = .ok (.lload_n 3, 1) := by decide +kernel
theorem dX11_hexadecimal_91 : decode cX11_hexadecimal 91 = .ok (.l2d, 1) := by decide +kernel
theorem dX11_hexadecimal_92 : decode cX11_hexadecimal 92 = .ok (.goto 4, 3) := by decide +kernel
theorem dX11_hexadecimal_95 : decode cX11_hexadecimal 95 = .ok (.dconst 0, 1) := by decide +kernel
theorem dX11_hexadecimal_96 : decode cX11_hexadecimal 96 = .ok (.dreturn, 1) := by decide +kernel
set_option maxRecDepth 20000 in
theorem ggX11_numberOf_X11_sayAll : GoodIn wsX11_numberOf wsX11_sayAll := goodIn_r _ [9, 10, 2, 11, 12, 13, 14, 8, 15, 16, 17, 18, 3, 19, 20, 4, 21, 22, 23, 24, 25, 26, 27, 28, 29, 30, 31, 32, 33, 34, 35, 36, 37, 38, 39, 40, 41, 42, 43, 56, 57, 58, 59, 60, 61, 62, 63, 64, 65, 66, 67, 68, 69, 70, 71, 72, 73, 74, 75, 76, 77, 78, 79, 80, 81, 82, 83] rfl (by decide +kernel)
set_option maxRecDepth 20000 in
theorem gX11_numberOf_X11_sayAll : GoodIn wsX11_numberOf (wsV RX11 277 RX11 yX11_sayAll wsX11_sayAll) := goodIn_app (goodIn_of _ (by decide +kernel)) ggX11_numberOf_X11_sayAll
set_option maxRecDepth 20000 in
theorem ggX11_numberOf_X11_numberOfSaid : GoodIn wsX11_numberOf wsX11_numberOfSaid := goodIn_r _ [47, 10, 31, 1, 37, 48, 49, 50, 8, 51, 52, 53, 54, 55, 56, 57, 58, 59, 60, 61, 62, 63, 64, 65, 66, 67, 68, 69, 70, 71, 72, 73, 74, 75, 76, 77, 78, 79, 80, 81, 82, 83] rfl (by decide +kernel)
set_option maxRecDepth 20000 in
theorem gX11_numberOf_X11_numberOfSaid : GoodIn wsX11_numberOf (wsV RX11 280 RX11 yX11_numberOfSaid wsX11_numberOfSaid) := goodIn_app (goodIn_of _ (by decide +kernel)) ggX11_numberOf_X11_numberOfSaid
theorem dX11_numberOf_0 : decode cX11_numberOf 0 = .ok (.aload_n 0, 1) := by decide +kernel
theorem dX11_numberOf_1 : decode cX11_numberOf 1 = .ok (.iconst 1, 1) := by decide +kernel
theorem dX11_numberOf_2 : decode cX11_numberOf 2 = .ok (.putfield 264, 3) := by decide +kernel
theorem dX11_numberOf_5 : decode cX11_numberOf 5 = .ok (.aload_n 0, 1) := by decide +kernel
theorem dX11_numberOf_6 : decode cX11_numberOf 6 = .ok (.getfield 46, 3) := by decide +kernel
theorem dX11_numberOf_9 : decode cX11_numberOf 9 = .ok (.iload_n 1, 1) := by decide +kernel
theorem dX11_numberOf_10 : decode cX11_numberOf 10 = .ok (.iaload, 1) := by decide +kernel
theorem dX11_numberOf_11 : decode cX11_numberOf 11 = .ok (.tableswitch 60 0 3 #[29, 36, 38, 53], 29) := by decide +kernel
theorem dX11_numberOf_40 : decode cX11_numberOf 40 = .ok (.aload_n 0, 1) := by decide +kernel
theorem dX11_numberOf_41 : decode cX11_numberOf 41 = .ok (.iconst 0, 1) := by decide +kernel
theorem dX11_numberOf_42 : decode cX11_numberOf 42 = .ok (.putfield 264, 3) := by decide +kernel
theorem dX11_numberOf_45 : decode cX11_numberOf 45 = .ok (.dconst 0, 1) := by decide +kernel
theorem dX11_numberOf_46 : decode cX11_numberOf 46 = .ok (.dreturn, 1) := by decide +kernel
theorem dX11_numberOf_47 : decode cX11_numberOf 47 = .ok (.dconst 0, 1) := by decide +kernel
theorem dX11_numberOf_48 : decode cX11_numberOf 48 = .ok (.dreturn, 1) := by decide +kernel
theorem dX11_numberOf_49 : decode cX11_numberOf 49 = .ok (.aload_n 0, 1) := by decide +kernel
theorem dX11_numberOf_50 : decode cX11_numberOf 50 = .ok (.getfield 49, 3) := by decide +kernel
theorem dX11_numberOf_53 : decode cX11_numberOf 53 = .ok (.iload_n 1, 1) := by decide +kernel
theorem dX11_numberOf_54 : decode cX11_numberOf 54 = .ok (.baload, 1) := by decide +kernel
theorem dX11_numberOf_55 : decode cX11_numberOf 55 = .ok (.ifCond .eq 7, 3) := by decide +kernel
theorem dX11_numberOf_58 : decode cX11_numberOf 58 = .ok (.dconst 1, 1) := by decide +kernel
theorem dX11_numberOf_59 : decode cX11_numberOf 59 = .ok (.goto 4, 3) := by decide +kernel
theorem dX11_numberOf_62 : decode cX11_numberOf 62 = .ok (.dconst 0, 1) := by decide +kernel
theorem dX11_numberOf_63 : decode cX11_numberOf 63 = .ok (.dreturn, 1) := by decide +kernel
theorem dX11_numberOf_64 : decode cX11_numberOf 64 = .ok (.aload_n 0, 1) := by decide +kernel
theorem dX11_numberOf_65 : decode cX11_numberOf 65 = .ok (.getfield 52, 3) := by decide +kernel
theorem dX11_numberOf_68 : decode cX11_numberOf 68 = .ok (.iload_n 1, 1) := by decide +kernel
theorem dX11_numberOf_69 : decode cX11_numberOf 69 = .ok (.daload, 1) := by decide +kernel
theorem dX11_numberOf_70 : decode cX11_numberOf 70 = .ok (.dreturn, 1) := by decide +kernel
theorem dX11_numberOf_71 : decode cX11_numberOf 71 = .ok (.aload_n 0, 1) := by decide +kernel
theorem dX11_numberOf_72 : decode cX11_numberOf 72 = .ok (.iload_n 1, 1) := by decide +kernel
theorem dX11_numberOf_73 : decode cX11_numberOf 73 = .ok (.invokevirtual 277, 3) := by decide +kernel
theorem dX11_numberOf_76 : decode cX11_numberOf 76 = .ok (.aload_n 0, 1) := by decide +kernel
theorem dX11_numberOf_77 : decode cX11_numberOf 77 = .ok (.invokevirtual 280, 3) := by decide +kernel
theorem dX11_numberOf_80 : decode cX11_numberOf 80 = .ok (.dreturn, 1) := by decide +kernel
theorem dX11_make_0 : decode cX11_make 0 = .ok (.aload_n 0, 1) := by decide +kernel
theorem dX11_make_1 : decode cX11_make 1 = .ok (.getfield 62, 3) := by decide +kernel
theorem dX11_make_4 : decode cX11_make 4 = .ok (.iload_n 1, 1) := by decide +kernel
theorem dX11_make_5 : decode cX11_make 5 = .ok (.iload_n 2, 1) := by decide +kernel
theorem dX11_make_6 : decode cX11_make 6 = .ok (.iastore, 1) := by decide +kernel
theorem dX11_make_7 : decode cX11_make 7 = .ok (.aload_n 0, 1) := by decide +kernel
theorem dX11_make_8 : decode cX11_make 8 = .ok (.getfield 65, 3) := by decide +kernel
theorem dX11_make_11 : decode cX11_make 11 = .ok (.iload_n 1, 1) := by decide +kernel
theorem dX11_make_12 : decode cX11_make 12 = .ok (.lload_n 3, 1) := by decide +kernel
theorem dX11_make_13 : decode cX11_make 13 = .ok (.lastore, 1) := by decide +kernel
theorem dX11_make_14 : decode cX11_make 14 = .ok (.aload_n 0, 1) := by decide +kernel
theorem dX11_make_15 : decode cX11_make 15 = .ok (.getfield 69, 3) := by decide +kernel
theorem dX11_make_18 : decode cX11_make 18 = .ok (.iload_n 1, 1) := by decide +kernel
theorem dX11_make_19 : decode cX11_make 19 = .ok (.dload 5, 2) := by decide +kernel
theorem dX11_make_21 : decode cX11_make 21 = .ok (.dastore, 1) := by decide +kernel
theorem dX11_make_22 : decode cX11_make 22 = .ok (.return_, 1) := by decide +kernel
set_option maxRecDepth 20000 in
theorem ggX11_makeText_X11_make : GoodIn wsX11_makeText wsX11_make := goodIn_r _ [8, 9, 10, 11, 12, 13, 14, 15, 16, 17, 18, 19, 20, 21, 22, 23, 24, 25, 26, 27, 28, 29, 30, 31, 32, 33, 34, 35, 36, 37, 38, 39] rfl (by decide +kernel)
set_option maxRecDepth 20000 in
theorem gX11_makeText_X11_make : GoodIn wsX11_makeText (wsV RX11 284 RX11 yX11_make wsX11_make) := goodIn_app (goodIn_of _ (by decide +kernel)) ggX11_makeText_X11_make
theorem dX11_makeText_0 : decode cX11_makeText 0 = .ok (.aload_n 0, 1) := by decide +kernel
theorem dX11_makeText_1 : decode cX11_makeText 1 = .ok (.iload_n 1, 1) := by decide +kernel
theorem dX11_makeText_2 : decode cX11_makeText 2 = .ok (.iconst 5, 1) := by decide +kernel
theorem dX11_makeText_3 : decode cX11_makeText 3 = .ok (.aload_n 0, 1) := by decide +kernel
theorem dX11_makeText_4 : decode cX11_makeText 4 = .ok (.getfield 227, 3) := by decide +kernel
theorem dX11_makeText_7 : decode cX11_makeText 7 = .ok (.i2l, 1) := by decide +kernel
theorem dX11_makeText_8 : decode cX11_makeText 8 = .ok (.dconst 0, 1) := by decide +kernel
theorem dX11_makeText_9 : decode cX11_makeText 9 = .ok (.invokevirtual 284, 3) := by decide +kernel
theorem dX11_makeText_12 : decode cX11_makeText 12 = .ok (.iconst 0, 1) := by decide +kernel
theorem dX11_makeText_13 : decode cX11_makeText 13 = .ok (.istore_n 2, 1) := by decide +kernel
theorem dX11_makeText_14 : decode cX11_makeText 14 = .ok (.iload_n 2, 1) := by decide +kernel
theorem dX11_makeText_15 : decode cX11_makeText 15 = .ok (.aload_n 0, 1) := by decide +kernel
theorem dX11_makeText_16 : decode cX11_makeText 16 = .ok (.getfield 227, 3) := by decide +kernel
theorem dX11_makeText_19 : decode cX11_makeText 19 = .ok (.if_icmp .ge 26, 3) := by decide +kernel
theorem dX11_makeText_22 : decode cX11_makeText 22 = .ok (.aload_n 0, 1) := by decide +kernel
theorem dX11_makeText_23 : decode cX11_makeText 23 = .ok (.getfield 72, 3) := by decide +kernel
theorem dX11_makeText_26 : decode cX11_makeText 26 = .ok (.bipush 80, 2) := by decide +kernel
theorem dX11_makeText_28 : decode cX11_makeText 28 = .ok (.iload_n 1, 1) := by decide +kernel
theorem dX11_makeText_29 : decode cX11_makeText 29 = .ok (.imul, 1) := by decide +kernel
theorem dX11_makeText_30 : decode cX11_makeText 30 = .ok (.iload_n 2, 1) := by decide +kernel
theorem dX11_makeText_31 : decode cX11_makeText 31 = .ok (.iadd, 1) := by decide +kernel
theorem dX11_makeText_32 : decode cX11_makeText 32 = .ok (.aload_n 0, 1) := by decide +kernel
theorem dX11_makeText_33 : decode cX11_makeText 33 = .ok (.getfield 75, 3) := by decide +kernel
theorem dX11_makeText_36 : decode cX11_makeText 36 = .ok (.iload_n 2, 1) := by decide +kernel
theorem dX11_makeText_37 : decode cX11_makeText 37 = .ok (.caload, 1) := by decide +kernel
theorem dX11_makeText_38 : decode cX11_makeText 38 = .ok (.castore, 1) := by decide +kernel
theorem dX11_makeText_39 : decode cX11_makeText 39 = .ok (.iinc 2 1, 3) := by decide +kernel
theorem dX11_makeText_42 : decode cX11_makeText 42 = .ok (.goto (-28), 3) := by decide +kernel
theorem dX11_makeText_45 : decode cX11_makeText 45 = .ok (.return_, 1) := by decide +kernel
theorem dX11_lowest_0 : decode cX11_lowest 0 = .ok (.iload_n 0, 1) := by decide +kernel
theorem dX11_lowest_1 : decode cX11_lowest 1 = .ok (.iconst 1, 1) := by decide +kernel
theorem dX11_lowest_2 : decode cX11_lowest 2 = .ok (.if_icmp .ne 9, 3) := by decide +kernel
theorem dX11_lowest_5 : decode cX11_lowest 5 = .ok (.ldc2_w 288, 3) := by decide +kernel
theorem dX11_lowest_8 : decode cX11_lowest 8 = .ok (.goto 26, 3) := by decide +kernel
theorem dX11_lowest_11 : decode cX11_lowest 11 = .ok (.iload_n 0, 1) := by decide +kernel
theorem dX11_lowest_12 : decode cX11_lowest 12 = .ok (.iconst 2, 1) := by decide +kernel
theorem dX11_lowest_13 : decode cX11_lowest 13 = .ok (.if_icmp .ne 7, 3) := by decide +kernel
theorem dX11_lowest_16 : decode cX11_lowest 16 = .ok (.lconst 0, 1) := by decide +kernel
theorem dX11_lowest_17 : decode cX11_lowest 17 = .ok (.goto 17, 3) := by decide +kernel
theorem dX11_lowest_20 : decode cX11_lowest 20 = .ok (.iload_n 0, 1) := by decide +kernel
theorem dX11_lowest_21 : decode cX11_lowest 21 = .ok (.iconst 3, 1) := by decide +kernel
theorem dX11_lowest_22 : decode cX11_lowest 22 = .ok (.if_icmp .ne 9, 3) := by decide +kernel
theorem dX11_lowest_25 : decode cX11_lowest 25 = .ok (.ldc2_w 290, 3) := by decide +kernel
theorem dX11_lowest_28 : decode cX11_lowest 28 = .ok (.goto 6, 3) := by decide +kernel
theorem dX11_lowest_31 : decode cX11_lowest 31 = .ok (.ldc2_w 292, 3) := by decide +kernel
theorem dX11_lowest_34 : decode cX11_lowest 34 = .ok (.lreturn, 1) := by decide +kernel
theorem dX11_highest_0 : decode cX11_highest 0 = .ok (.iload_n 0, 1) := by decide +kernel
theorem dX11_highest_1 : decode cX11_highest 1 = .ok (.iconst 1, 1) := by decide +kernel
theorem dX11_highest_2 : decode cX11_highest 2 = .ok (.if_icmp .ne 9, 3) := by decide +kernel
theorem dX11_highest_5 : decode cX11_highest 5 = .ok (.ldc2_w 294, 3) := by decide +kernel
theorem dX11_highest_8 : decode cX11_highest 8 = .ok (.goto 28, 3) := by decide +kernel
theorem dX11_highest_11 : decode cX11_highest 11 = .ok (.iload_n 0, 1) := by decide +kernel
theorem dX11_highest_12 : decode cX11_highest 12 = .ok (.iconst 2, 1) := by decide +kernel
theorem dX11_highest_13 : decode cX11_highest 13 = .ok (.if_icmp .ne 9, 3) := by decide +kernel
theorem dX11_highest_16 : decode cX11_highest 16 = .ok (.ldc2_w 118, 3) := by decide +kernel
theorem dX11_highest_19 : decode cX11_highest 19 = .ok (.goto 17, 3) := by decide +kernel
theorem dX11_highest_22 : decode cX11_highest 22 = .ok (.iload_n 0, 1) := by decide +kernel
theorem dX11_highest_23 : decode cX11_highest 23 = .ok (.iconst 3, 1) := by decide +kernel
theorem dX11_highest_24 : decode cX11_highest 24 = .ok (.if_icmp .ne 9, 3) := by decide +kernel
theorem dX11_highest_27 : decode cX11_highest 27 = .ok (.ldc2_w 296, 3) := by decide +kernel
theorem dX11_highest_30 : decode cX11_highest 30 = .ok (.goto 6, 3) := by decide +kernel
theorem dX11_highest_33 : decode cX11_highest 33 = .ok (.ldc2_w 298, 3) := by decide +kernel
theorem dX11_highest_36 : decode cX11_highest 36 = .ok (.lreturn, 1) := by decide +kernel
theorem dX11_rounded_0 : decode cX11_rounded 0 = .ok (.dload_n 0, 1) := by decide +kernel
theorem dX11_rounded_1 : decode cX11_rounded 1 = .ok (.d2l, 1) := by decide +kernel
theorem dX11_rounded_2 : decode cX11_rounded 2 = .ok (.lstore_n 2, 1) := by decide +kernel
theorem dX11_rounded_3 : decode cX11_rounded 3 = .ok (.lload_n 2, 1) := by decide +kernel
theorem dX11_rounded_4 : decode cX11_rounded 4 = .ok (.l2d, 1) := by decide +kernel
theorem dX11_rounded_5 : decode cX11_rounded 5 = .ok (.dload_n 0, 1) := by decide +kernel
theorem dX11_rounded_6 : decode cX11_rounded 6 = .ok (.dcmp .l, 1) := by decide +kernel
theorem dX11_rounded_7 : decode cX11_rounded 7 = .ok (.ifCond .le 7, 3) := by decide +kernel
theorem dX11_rounded_10 : decode cX11_rounded 10 = .ok (.lload_n 2, 1) := by decide +kernel
theorem dX11_rounded_11 : decode cX11_rounded 11 = .ok (.lconst 1, 1) := by decide +kernel
theorem dX11_rounded_12 : decode cX11_rounded 12 = .ok (.lsub, 1) := by decide +kernel
theorem dX11_rounded_13 : decode cX11_rounded 13 = .ok (.lstore_n 2, 1) := by decide +kernel
theorem dX11_rounded_14 : decode cX11_rounded 14 = .ok (.dload_n 0, 1) := by decide +kernel
theorem dX11_rounded_15 : decode cX11_rounded 15 = .ok (.lload_n 2, 1) := by decide +kernel
theorem dX11_rounded_16 : decode cX11_rounded 16 = .ok (.l2d, 1) := by decide +kernel
theorem dX11_rounded_17 : decode cX11_rounded 17 = .ok (.dsub, 1) := by decide +kernel
theorem dX11_rounded_18 : decode cX11_rounded 18 = .ok (.dstore 4, 2) := by decide +kernel
theorem dX11_rounded_20 : decode cX11_rounded 20 = .ok (.dload 4, 2) := by decide +kernel
theorem dX11_rounded_22 : decode cX11_rounded 22 = .ok (.ldc2_w 300, 3) := by decide +kernel
theorem dX11_rounded_25 : decode cX11_rounded 25 = .ok (.dcmp .l, 1) := by decide +kernel
theorem dX11_rounded_26 : decode cX11_rounded 26 = .ok (.ifCond .gt 22, 3) := by decide +kernel
theorem dX11_rounded_29 : decode cX11_rounded 29 = .ok (.dload 4, 2) := by decide +kernel
theorem dX11_rounded_31 : decode cX11_rounded 31 = .ok (.ldc2_w 300, 3) := by decide +kernel
theorem dX11_rounded_34 : decode cX11_rounded 34 = .ok (.dcmp .l, 1) := by decide +kernel
theorem dX11_rounded_35 : decode cX11_rounded 35 = .ok (.ifCond .ne 19, 3) := by decide +kernel
theorem dX11_rounded_38 : decode cX11_rounded 38 = .ok (.lload_n 2, 1) := by decide +kernel
theorem dX11_rounded_39 : decode cX11_rounded 39 = .ok (.ldc2_w 302, 3) := by decide +kernel
theorem dX11_rounded_42 : decode cX11_rounded 42 = .ok (.lrem, 1) := by decide +kernel
theorem dX11_rounded_43 : decode cX11_rounded 43 = .ok (.lconst 0, 1) := by decide +kernel
theorem dX11_rounded_44 : decode cX11_rounded 44 = .ok (.lcmp, 1) := by decide +kernel
theorem dX11_rounded_45 : decode cX11_rounded 45 = .ok (.ifCond .eq 9, 3) := by decide +kernel
theorem dX11_rounded_48 : decode cX11_rounded 48 = .ok (.lload_n 2, 1) := by decide +kernel
theorem dX11_rounded_49 : decode cX11_rounded 49 = .ok (.lconst 1, 1) := by decide +kernel
theorem dX11_rounded_50 : decode cX11_rounded 50 = .ok (.ladd, 1) := by decide +kernel
theorem dX11_rounded_51 : decode cX11_rounded 51 = .ok (.goto 4, 3) := by decide +kernel
theorem dX11_rounded_54 : decode cX11_rounded 54 = .ok (.lload_n 2, 1) := by decide +kernel
theorem dX11_rounded_55 : decode cX11_rounded 55 = .ok (.lreturn, 1) := by decide +kernel
set_option maxRecDepth 20000 in
theorem ggX11_makeWhole_X11_numberOf : GoodIn wsX11_makeWhole wsX11_numberOf := goodIn_r _ [8, 1, 9, 10, 11, 12, 13, 14, 7, 15, 16, 17, 18, 19, 20, 21, 22, 23, 24, 25, 26, 27, 28, 29, 30, 31, 32, 33, 34, 35, 36, 37, 38, 39, 40, 41, 42, 43, 44, 45, 46, 47, 48, 49, 50, 51, 52, 53, 54, 55, 56, 57, 58, 59, 60, 61, 86, 87, 88, 89, 90, 91, 92, 93, 94, 95, 96, 97, 98, 99, 100, 101, 102, 103, 104, 105, 106, 107, 108, 109, 110, 111, 112, 113] rfl (by decide +kernel)
set_option maxRecDepth 20000 in
theorem gX11_makeWhole_X11_numberOf : GoodIn wsX11_makeWhole (wsV RX11 304 RX11 yX11_numberOf wsX11_numberOf) := goodIn_app (goodIn_of _ (by decide +kernel)) ggX11_makeWhole_X11_numberOf
set_option maxRecDepth 20000 in
theorem ggX11_makeWhole_X11_lowest : GoodIn wsX11_makeWhole wsX11_lowest := goodIn_r _ [64, 65, 66, 67] rfl (by decide +kernel)
set_option maxRecDepth 20000 in
theorem gX11_makeWhole_X11_lowest : GoodIn wsX11_makeWhole (va_wsS RX11 308 yX11_lowest wsX11_lowest) := goodIn_app (goodIn_of _ (by decide +kernel)) ggX11_makeWhole_X11_lowest
set_option maxRecDepth 20000 in
theorem ggX11_makeWhole_X11_highest : GoodIn wsX11_makeWhole wsX11_highest := goodIn_r _ [70, 71, 32, 72, 73] rfl (by decide +kernel)
set_option maxRecDepth 20000 in
theorem gX11_makeWhole_X11_highest : GoodIn wsX11_makeWhole (va_wsS RX11 312 yX11_highest wsX11_highest) := goodIn_app (goodIn_of _ (by decide +kernel)) ggX11_makeWhole_X11_highest
set_option maxRecDepth 20000 in
theorem ggX11_makeWhole_X11_rounded : GoodIn wsX11_makeWhole wsX11_rounded := goodIn_r _ [76, 77, 78] rfl (by decide +kernel)
set_option maxRecDepth 20000 in
theorem gX11_makeWhole_X11_rounded : GoodIn wsX11_makeWhole (va_wsS RX11 315 yX11_rounded wsX11_rounded) := goodIn_app (goodIn_of _ (by decide +kernel)) ggX11_makeWhole_X11_rounded
set_option maxRecDepth 20000 in
theorem ggX11_makeWhole_X11_make : GoodIn wsX11_makeWhole wsX11_make := goodIn_r _ [82, 83, 84, 85, 86, 87, 88, 89, 90, 91, 92, 93, 94, 95, 96, 97, 98, 99, 100, 101, 102, 103, 104, 105, 106, 107, 108, 109, 110, 111, 112, 113] rfl (by decide +kernel)
set_option maxRecDepth 20000 in
theorem gX11_makeWhole_X11_make : GoodIn wsX11_makeWhole (wsV RX11 284 RX11 yX11_make wsX11_make) := goodIn_app (goodIn_of _ (by decide +kernel)) ggX11_makeWhole_X11_make
theorem dX11_makeWhole_0 : decode cX11_makeWhole 0 = .ok (.aload_n 0, 1) := by decide +kernel
theorem dX11_makeWhole_1 : decode cX11_makeWhole 1 = .ok (.iload_n 2, 1) := by decide +kernel
theorem dX11_makeWhole_2 : decode cX11_makeWhole 2 = .ok (.invokevirtual 304, 3) := by decide +kernel
theorem dX11_makeWhole_5 : decode cX11_makeWhole 5 = .ok (.dstore 4, 2) := by decide +kernel
theorem dX11_makeWhole_7 : decode cX11_makeWhole 7 = .ok (.aload_n 0, 1) := by decide +kernel
theorem dX11_makeWhole_8 : decode cX11_makeWhole 8 = .ok (.getfield 264, 3) := by decide +kernel
theorem dX11_makeWhole_11 : decode cX11_makeWhole 11 = .ok (.ifCond .ne 15, 3) := by decide +kernel
theorem dX11_makeWhole_14 : decode cX11_makeWhole 14 = .ok (.aload_n 0, 1) := by decide +kernel
theorem dX11_makeWhole_15 : decode cX11_makeWhole 15 = .ok (.getfield 34, 3) := by decide +kernel
theorem dX11_makeWhole_18 : decode cX11_makeWhole 18 = .ok (.iload_n 3, 1) := by decide +kernel
theorem dX11_makeWhole_19 : decode cX11_makeWhole 19 = .ok (.iaload, 1) := by decide +kernel
theorem dX11_makeWhole_20 : decode cX11_makeWhole 20 = .ok (.iconst 2, 1) := by decide +kernel
theorem dX11_makeWhole_21 : decode cX11_makeWhole 21 = .ok (.if_icmp .ne 5, 3) := by decide +kernel
theorem dX11_makeWhole_24 : decode cX11_makeWhole 24 = .ok (.iconst 0, 1) := by decide +kernel
theorem dX11_makeWhole_25 : decode cX11_makeWhole 25 = .ok (.ireturn, 1) := by decide +kernel
theorem dX11_makeWhole_26 : decode cX11_makeWhole 26 = .ok (.aload_n 0, 1) := by decide +kernel
theorem dX11_makeWhole_27 : decode cX11_makeWhole 27 = .ok (.getfield 31, 3) := by decide +kernel
theorem dX11_makeWhole_30 : decode cX11_makeWhole 30 = .ok (.iload_n 3, 1) := by decide +kernel
theorem dX11_makeWhole_31 : decode cX11_makeWhole 31 = .ok (.iaload, 1) := by decide +kernel
theorem dX11_makeWhole_32 : decode cX11_makeWhole 32 = .ok (.invokestatic 308, 3) := by decide +kernel
theorem dX11_makeWhole_35 : decode cX11_makeWhole 35 = .ok (.lstore 6, 2) := by decide +kernel
theorem dX11_makeWhole_37 : decode cX11_makeWhole 37 = .ok (.aload_n 0, 1) := by decide +kernel
theorem dX11_makeWhole_38 : decode cX11_makeWhole 38 = .ok (.getfield 31, 3) := by decide +kernel
theorem dX11_makeWhole_41 : decode cX11_makeWhole 41 = .ok (.iload_n 3, 1) := by decide +kernel
theorem dX11_makeWhole_42 : decode cX11_makeWhole 42 = .ok (.iaload, 1) := by decide +kernel
theorem dX11_makeWhole_43 : decode cX11_makeWhole 43 = .ok (.invokestatic 312, 3) := by decide +kernel
theorem dX11_makeWhole_46 : decode cX11_makeWhole 46 = .ok (.lstore 8, 2) := by decide +kernel
theorem dX11_makeWhole_48 : decode cX11_makeWhole 48 = .ok (.aload_n 0, 1) := by decide +kernel
theorem dX11_makeWhole_49 : decode cX11_makeWhole 49 = .ok (.getfield 34, 3) := by decide +kernel
theorem dX11_makeWhole_52 : decode cX11_makeWhole 52 = .ok (.iload_n 3, 1) := by decide +kernel
theorem dX11_makeWhole_53 : decode cX11_makeWhole 53 = .ok (.iaload, 1) := by decide +kernel
theorem dX11_makeWhole_54 : decode cX11_makeWhole 54 = .ok (.iconst 1, 1) := by decide +kernel
theorem dX11_makeWhole_55 : decode cX11_makeWhole 55 = .ok (.if_icmp .ne 11, 3) := by decide +kernel
theorem dX11_makeWhole_58 : decode cX11_makeWhole 58 = .ok (.dload 4, 2) := by decide +kernel
theorem dX11_makeWhole_60 : decode cX11_makeWhole 60 = .ok (.invokestatic 315, 3) := by decide +kernel
theorem dX11_makeWhole_63 : decode cX11_makeWhole 63 = .ok (.goto 6, 3) := by decide +kernel
theorem dX11_makeWhole_66 : decode cX11_makeWhole 66 = .ok (.dload 4, 2) := by decide +kernel
theorem dX11_makeWhole_68 : decode cX11_makeWhole 68 = .ok (.d2l, 1) := by decide +kernel
theorem dX11_makeWhole_69 : decode cX11_makeWhole 69 = .ok (.lstore 10, 2) := by decide +kernel
theorem dX11_makeWhole_71 : decode cX11_makeWhole 71 = .ok (.aload_n 0, 1) := by decide +kernel
theorem dX11_makeWhole_72 : decode cX11_makeWhole 72 = .ok (.getfield 34, 3) := by decide +kernel
theorem dX11_makeWhole_75 : decode cX11_makeWhole 75 = .ok (.iload_n 3, 1) := by decide +kernel
theorem dX11_makeWhole_76 : decode cX11_makeWhole 76 = .ok (.iaload, 1) := by decide +kernel
theorem dX11_makeWhole_77 : decode cX11_makeWhole 77 = .ok (.iconst 1, 1) := by decide +kernel
theorem dX11_makeWhole_78 : decode cX11_makeWhole 78 = .ok (.if_icmp .ne 36, 3) := by decide +kernel
theorem dX11_makeWhole_81 : decode cX11_makeWhole 81 = .ok (.lload 10, 2) := by decide +kernel
theorem dX11_makeWhole_83 : decode cX11_makeWhole 83 = .ok (.lload 6, 2) := by decide +kernel
theorem dX11_makeWhole_85 : decode cX11_makeWhole 85 = .ok (.lcmp, 1) := by decide +kernel
theorem dX11_makeWhole_86 : decode cX11_makeWhole 86 = .ok (.ifCond .ge 8, 3) := by decide +kernel
theorem dX11_makeWhole_89 : decode cX11_makeWhole 89 = .ok (.lload 6, 2) := by decide +kernel
theorem dX11_makeWhole_91 : decode cX11_makeWhole 91 = .ok (.goto 18, 3) := by decide +kernel
theorem dX11_makeWhole_94 : decode cX11_makeWhole 94 = .ok (.lload 10, 2) := by decide +kernel
theorem dX11_makeWhole_96 : decode cX11_makeWhole 96 = .ok (.lload 8, 2) := by decide +kernel
theorem dX11_makeWhole_98 : decode cX11_makeWhole 98 = .ok (.lcmp, 1) := by decide +kernel
theorem dX11_makeWhole_99 : decode cX11_makeWhole 99 = .ok (.ifCond .le 8, 3) := by decide +kernel
theorem dX11_makeWhole_102 : decode cX11_makeWhole 102 = .ok (.lload 8, 2) := by decide +kernel
theorem dX11_makeWhole_104 : decode cX11_makeWhole 104 = .ok (.goto 5, 3) := by decide +kernel
theorem dX11_makeWhole_107 : decode cX11_makeWhole 107 = .ok (.lload 10, 2) := by decide +kernel
theorem dX11_makeWhole_109 : decode cX11_makeWhole 109 = .ok (.lstore 10, 2) := by decide +kernel
theorem dX11_makeWhole_111 : decode cX11_makeWhole 111 = .ok (.goto 72, 3) := by decide +kernel
theorem dX11_makeWhole_114 : decode cX11_makeWhole 114 = .ok (.aload_n 0, 1) := by decide +kernel
theorem dX11_makeWhole_115 : decode cX11_makeWhole 115 = .ok (.getfield 34, 3) := by decide +kernel
theorem dX11_makeWhole_118 : decode cX11_makeWhole 118 = .ok (.iload_n 3, 1) := by decide +kernel
theorem dX11_makeWhole_119 : decode cX11_makeWhole 119 = .ok (.iaload, 1) := by decide +kernel
theorem dX11_makeWhole_120 : decode cX11_makeWhole 120 = .ok (.iconst 2, 1) := by decide +kernel
theorem dX11_makeWhole_121 : decode cX11_makeWhole 121 = .ok (.if_icmp .ne 21, 3) := by decide +kernel
theorem dX11_makeWhole_124 : decode cX11_makeWhole 124 = .ok (.lload 10, 2) := by decide +kernel
theorem dX11_makeWhole_126 : decode cX11_makeWhole 126 = .ok (.lload 6, 2) := by decide +kernel
theorem dX11_makeWhole_128 : decode cX11_makeWhole 128 = .ok (.lcmp, 1) := by decide +kernel
theorem dX11_makeWhole_129 : decode cX11_makeWhole 129 = .ok (.ifCond .lt 11, 3) := by decide +kernel
theorem dX11_makeWhole_132 : decode cX11_makeWhole 132 = .ok (.lload 10, 2) := by decide +kernel
theorem dX11_makeWhole_134 : decode cX11_makeWhole 134 = .ok (.lload 8, 2) := by decide +kernel
theorem dX11_makeWhole_136 : decode cX11_makeWhole 136 = .ok (.lcmp, 1) := by decide +kernel
theorem dX11_makeWhole_137 : decode cX11_makeWhole 137 = .ok (.ifCond .le 46, 3) := by decide +kernel
theorem dX11_makeWhole_140 : decode cX11_makeWhole 140 = .ok (.iconst 0, 1) := by decide +kernel
theorem dX11_makeWhole_141 : decode cX11_makeWhole 141 = .ok (.ireturn, 1) := by decide +kernel
theorem dX11_makeWhole_142 : decode cX11_makeWhole 142 = .ok (.lload 8, 2) := by decide +kernel
theorem dX11_makeWhole_144 : decode cX11_makeWhole 144 = .ok (.lload 6, 2) := by decide +kernel
theorem dX11_makeWhole_146 : decode cX11_makeWhole 146 = .ok (.lsub, 1) := by decide +kernel
theorem dX11_makeWhole_147 : decode cX11_makeWhole 147 = .ok (.lconst 1, 1) := by decide +kernel
theorem dX11_makeWhole_148 : decode cX11_makeWhole 148 = .ok (.ladd, 1) := by decide +kernel
theorem dX11_makeWhole_149 : decode cX11_makeWhole 149 = .ok (.lstore 12, 2) := by decide +kernel
theorem dX11_makeWhole_151 : decode cX11_makeWhole 151 = .ok (.lload 10, 2) := by decide +kernel
theorem dX11_makeWhole_153 : decode cX11_makeWhole 153 = .ok (.lload 6, 2) := by decide +kernel
theorem dX11_makeWhole_155 : decode cX11_makeWhole 155 = .ok (.lsub, 1) := by decide +kernel
theorem dX11_makeWhole_156 : decode cX11_makeWhole 156 = .ok (.lload 12, 2) := by decide +kernel
theorem dX11_makeWhole_158 : decode cX11_makeWhole 158 = .ok (.lrem, 1) := by decide +kernel
theorem dX11_makeWhole_159 : decode cX11_makeWhole 159 = .ok (.lstore 10, 2) := by decide +kernel
theorem dX11_makeWhole_161 : decode cX11_makeWhole 161 = .ok (.lload 10, 2) := by decide +kernel
theorem dX11_makeWhole_163 : decode cX11_makeWhole 163 = .ok (.lconst 0, 1) := by decide +kernel
theorem dX11_makeWhole_164 : decode cX11_makeWhole 164 = .ok (.lcmp, 1) := by decide +kernel
theorem dX11_makeWhole_165 : decode cX11_makeWhole 165 = .ok (.ifCond .ge 11, 3) := by decide +kernel
theorem dX11_makeWhole_168 : decode cX11_makeWhole 168 = .ok (.lload 10, 2) := by decide +kernel
theorem dX11_makeWhole_170 : decode cX11_makeWhole 170 = .ok (.lload 12, 2) := by decide +kernel
theorem dX11_makeWhole_172 : decode cX11_makeWhole 172 = .ok (.ladd, 1) := by decide +kernel
theorem dX11_makeWhole_173 : decode cX11_makeWhole 173 = .ok (.goto 5, 3) := by decide +kernel
theorem dX11_makeWhole_176 : decode cX11_makeWhole 176 = .ok (.lload 10, 2) := by decide +kernel
theorem dX11_makeWhole_178 : decode cX11_makeWhole 178 = .ok (.lload 6, 2) := by decide +kernel
theorem dX11_makeWhole_180 : decode cX11_makeWhole 180 = .ok (.ladd, 1) := by decide +kernel
theorem dX11_makeWhole_181 : decode cX11_makeWhole 181 = .ok (.lstore 10, 2) := by decide +kernel
theorem dX11_makeWhole_183 : decode cX11_makeWhole 183 = .ok (.aload_n 0, 1) := by decide +kernel
theorem dX11_makeWhole_184 : decode cX11_makeWhole 184 = .ok (.iload_n 1, 1) := by decide +kernel
theorem dX11_makeWhole_185 : decode cX11_makeWhole 185 = .ok (.iconst 3, 1) := by decide +kernel
theorem dX11_makeWhole_186 : decode cX11_makeWhole 186 = .ok (.lload 10, 2) := by decide +kernel
theorem dX11_makeWhole_188 : decode cX11_makeWhole 188 = .ok (.dconst 0, 1) := by decide +kernel
theorem dX11_makeWhole_189 : decode cX11_makeWhole 189 = .ok (.invokevirtual 284, 3) := by decide +kernel
theorem dX11_makeWhole_192 : decode cX11_makeWhole 192 = .ok (.iconst 1, 1) := by decide +kernel
theorem dX11_makeWhole_193 : decode cX11_makeWhole 193 = .ok (.ireturn, 1) := by decide +kernel
theorem dX11_isWordOf_0 : decode cX11_isWordOf 0 = .ok (.iconst 0, 1) := by decide +kernel
theorem dX11_isWordOf_1 : decode cX11_isWordOf 1 = .ok (.istore_n 2, 1) := by decide +kernel
theorem dX11_isWordOf_2 : decode cX11_isWordOf 2 = .ok (.iload_n 2, 1) := by decide +kernel
theorem dX11_isWordOf_3 : decode cX11_isWordOf 3 = .ok (.aload_n 0, 1) := by decide +kernel
theorem dX11_isWordOf_4 : decode cX11_isWordOf 4 = .ok (.getfield 40, 3) := by decide +kernel
theorem dX11_isWordOf_7 : decode cX11_isWordOf 7 = .ok (.iload_n 1, 1) := by decide +kernel
theorem dX11_isWordOf_8 : decode cX11_isWordOf 8 = .ok (.iaload, 1) := by decide +kernel
theorem dX11_isWordOf_9 : decode cX11_isWordOf 9 = .ok (.if_icmp .ge 101, 3) := by decide +kernel
theorem dX11_isWordOf_12 : decode cX11_isWordOf 12 = .ok (.bipush 8, 2) := by decide +kernel
theorem dX11_isWordOf_14 : decode cX11_isWordOf 14 = .ok (.iconst 5, 1) := by decide +kernel
theorem dX11_isWordOf_15 : decode cX11_isWordOf 15 = .ok (.iload_n 1, 1) := by decide +kernel
theorem dX11_isWordOf_16 : decode cX11_isWordOf 16 = .ok (.imul, 1) := by decide +kernel
theorem dX11_isWordOf_17 : decode cX11_isWordOf 17 = .ok (.iload_n 2, 1) := by decide +kernel
theorem dX11_isWordOf_18 : decode cX11_isWordOf 18 = .ok (.iadd, 1) := by decide +kernel
theorem dX11_isWordOf_19 : decode cX11_isWordOf 19 = .ok (.imul, 1) := by decide +kernel
theorem dX11_isWordOf_20 : decode cX11_isWordOf 20 = .ok (.istore_n 3, 1) := by decide +kernel
theorem dX11_isWordOf_21 : decode cX11_isWordOf 21 = .ok (.aload_n 0, 1) := by decide +kernel
theorem dX11_isWordOf_22 : decode cX11_isWordOf 22 = .ok (.getfield 227, 3) := by decide +kernel
theorem dX11_isWordOf_25 : decode cX11_isWordOf 25 = .ok (.bipush 8, 2) := by decide +kernel
theorem dX11_isWordOf_27 : decode cX11_isWordOf 27 = .ok (.if_icmp .gt 7, 3) := by decide +kernel
theorem dX11_isWordOf_30 : decode cX11_isWordOf 30 = .ok (.iconst 1, 1) := by decide +kernel
theorem dX11_isWordOf_31 : decode cX11_isWordOf 31 = .ok (.goto 4, 3) := by decide +kernel
theorem dX11_isWordOf_34 : decode cX11_isWordOf 34 = .ok (.iconst 0, 1) := by decide +kernel
theorem dX11_isWordOf_35 : decode cX11_isWordOf 35 = .ok (.istore 4, 2) := by decide +kernel
theorem dX11_isWordOf_37 : decode cX11_isWordOf 37 = .ok (.iconst 0, 1) := by decide +kernel
theorem dX11_isWordOf_38 : decode cX11_isWordOf 38 = .ok (.istore 5, 2) := by decide +kernel
theorem dX11_isWordOf_40 : decode cX11_isWordOf 40 = .ok (.iload 5, 2) := by decide +kernel
theorem dX11_isWordOf_42 : decode cX11_isWordOf 42 = .ok (.bipush 8, 2) := by decide +kernel
theorem dX11_isWordOf_44 : decode cX11_isWordOf 44 = .ok (.if_icmp .ge 53, 3) := by decide +kernel
theorem dX11_isWordOf_47 : decode cX11_isWordOf 47 = .ok (.iload 4, 2) := by decide +kernel
theorem dX11_isWordOf_49 : decode cX11_isWordOf 49 = .ok (.ifCond .eq 48, 3) := by decide +kernel
theorem dX11_isWordOf_52 : decode cX11_isWordOf 52 = .ok (.aload_n 0, 1) := by decide +kernel
theorem dX11_isWordOf_53 : decode cX11_isWordOf 53 = .ok (.getfield 43, 3) := by decide +kernel
theorem dX11_isWordOf_56 : decode cX11_isWordOf 56 = .ok (.iload_n 3, 1) := by decide +kernel
theorem dX11_isWordOf_57 : decode cX11_isWordOf 57 = .ok (.iload 5, 2) := by decide +kernel
theorem dX11_isWordOf_59 : decode cX11_isWordOf 59 = .ok (.iadd, 1) := by decide +kernel
theorem dX11_isWordOf_60 : decode cX11_isWordOf 60 = .ok (.caload, 1) := by decide +kernel
theorem dX11_isWordOf_61 : decode cX11_isWordOf 61 = .ok (.iload 5, 2) := by decide +kernel
theorem dX11_isWordOf_63 : decode cX11_isWordOf 63 = .ok (.aload_n 0, 1) := by decide +kernel
theorem dX11_isWordOf_64 : decode cX11_isWordOf 64 = .ok (.getfield 227, 3) := by decide +kernel
theorem dX11_isWordOf_67 : decode cX11_isWordOf 67 = .ok (.if_icmp .ge 13, 3) := by decide +kernel
theorem dX11_isWordOf_70 : decode cX11_isWordOf 70 = .ok (.aload_n 0, 1) := by decide +kernel
theorem dX11_isWordOf_71 : decode cX11_isWordOf 71 = .ok (.getfield 75, 3) := by decide +kernel
theorem dX11_isWordOf_74 : decode cX11_isWordOf 74 = .ok (.iload 5, 2) := by decide +kernel
theorem dX11_isWordOf_76 : decode cX11_isWordOf 76 = .ok (.caload, 1) := by decide +kernel
theorem dX11_isWordOf_77 : decode cX11_isWordOf 77 = .ok (.goto 4, 3) := by decide +kernel
theorem dX11_isWordOf_80 : decode cX11_isWordOf 80 = .ok (.iconst 0, 1) := by decide +kernel
theorem dX11_isWordOf_81 : decode cX11_isWordOf 81 = .ok (.if_icmp .ne 7, 3) := by decide +kernel
theorem dX11_isWordOf_84 : decode cX11_isWordOf 84 = .ok (.iconst 1, 1) := by decide +kernel
theorem dX11_isWordOf_85 : decode cX11_isWordOf 85 = .ok (.goto 4, 3) := by decide +kernel
theorem dX11_isWordOf_88 : decode cX11_isWordOf 88 = .ok (.iconst 0, 1) := by decide +kernel
theorem dX11_isWordOf_89 : decode cX11_isWordOf 89 = .ok (.istore 4, 2) := by decide +kernel
theorem dX11_isWordOf_91 : decode cX11_isWordOf 91 = .ok (.iinc 5 1, 3) := by decide +kernel
theorem dX11_isWordOf_94 : decode cX11_isWordOf 94 = .ok (.goto (-54), 3) := by decide +kernel
theorem dX11_isWordOf_97 : decode cX11_isWordOf 97 = .ok (.iload 4, 2) := by decide +kernel
theorem dX11_isWordOf_99 : decode cX11_isWordOf 99 = .ok (.ifCond .eq 5, 3) := by decide +kernel
theorem dX11_isWordOf_102 : decode cX11_isWordOf 102 = .ok (.iconst 1, 1) := by decide +kernel
theorem dX11_isWordOf_103 : decode cX11_isWordOf 103 = .ok (.ireturn, 1) := by decide +kernel
theorem dX11_isWordOf_104 : decode cX11_isWordOf 104 = .ok (.iinc 2 1, 3) := by decide +kernel
theorem dX11_isWordOf_107 : decode cX11_isWordOf 107 = .ok (.goto (-105), 3) := by decide +kernel
theorem dX11_isWordOf_110 : decode cX11_isWordOf 110 = .ok (.iconst 0, 1) := by decide +kernel
theorem dX11_isWordOf_111 : decode cX11_isWordOf 111 = .ok (.ireturn, 1) := by decide +kernel
set_option maxRecDepth 20000 in
theorem ggX11_makeAsItIs_X11_sayAll : GoodIn wsX11_makeAsItIs wsX11_sayAll := goodIn_r _ [9, 10, 1, 3, 11, 12, 13, 8, 14, 15, 16, 17, 2, 18, 19, 4, 20, 21, 22, 23, 24, 25, 26, 27, 28, 29, 30, 31, 32, 33, 34, 35, 36, 37, 38, 39, 40, 41, 42, 55, 56, 57, 58, 59, 60, 61, 62, 63, 64, 65, 66, 67, 68, 69, 70, 71, 72, 73, 74, 75, 76, 77, 78, 79, 80, 81, 82] rfl (by decide +kernel)
set_option maxRecDepth 20000 in
theorem gX11_makeAsItIs_X11_sayAll : GoodIn wsX11_makeAsItIs (wsV RX11 277 RX11 yX11_sayAll wsX11_sayAll) := goodIn_app (goodIn_of _ (by decide +kernel)) ggX11_makeAsItIs_X11_sayAll
set_option maxRecDepth 20000 in
theorem ggX11_makeAsItIs_X11_makeText : GoodIn wsX11_makeAsItIs wsX11_makeText := goodIn_r _ [46, 10, 47, 30, 48, 49, 50, 8, 51, 52, 53, 54, 55, 56, 57, 58, 59, 60, 61, 62, 63, 64, 65, 66, 67, 68, 69, 70, 71, 72, 73, 74, 75, 76, 77, 78, 79, 80, 81, 82] rfl (by decide +kernel)
set_option maxRecDepth 20000 in
theorem gX11_makeAsItIs_X11_makeText : GoodIn wsX11_makeAsItIs (wsV RX11 319 RX11 yX11_makeText wsX11_makeText) := goodIn_app (goodIn_of _ (by decide +kernel)) ggX11_makeAsItIs_X11_makeText
set_option maxRecDepth 20000 in
theorem ggX11_makeAsItIs_X11_make : GoodIn wsX11_makeAsItIs wsX11_make := goodIn_r _ [51, 52, 53, 54, 55, 56, 57, 58, 59, 60, 61, 62, 63, 64, 65, 66, 67, 68, 69, 70, 71, 72, 73, 74, 75, 76, 77, 78, 79, 80, 81, 82] rfl (by decide +kernel)
set_option maxRecDepth 20000 in
theorem gX11_makeAsItIs_X11_make : GoodIn wsX11_makeAsItIs (wsV RX11 284 RX11 yX11_make wsX11_make) := goodIn_app (goodIn_of _ (by decide +kernel)) ggX11_makeAsItIs_X11_make
theorem dX11_makeAsItIs_0 : decode cX11_makeAsItIs 0 = .ok (.aload_n 0, 1) := by decide +kernel
theorem dX11_makeAsItIs_1 : decode cX11_makeAsItIs 1 = .ok (.getfield 46, 3) := by decide +kernel
theorem dX11_makeAsItIs_4 : decode cX11_makeAsItIs 4 = .ok (.iload_n 2, 1) := by decide +kernel
theorem dX11_makeAsItIs_5 : decode cX11_makeAsItIs 5 = .ok (.iaload, 1) := by decide +kernel
theorem dX11_makeAsItIs_6 : decode cX11_makeAsItIs 6 = .ok (.istore_n 3, 1) := by decide +kernel
theorem dX11_makeAsItIs_7 : decode cX11_makeAsItIs 7 = .ok (.iload_n 3, 1) := by decide +kernel
theorem dX11_makeAsItIs_8 : decode cX11_makeAsItIs 8 = .ok (.iconst 4, 1) := by decide +kernel
theorem dX11_makeAsItIs_9 : decode cX11_makeAsItIs 9 = .ok (.if_icmp .ne 16, 3) := by decide +kernel
theorem dX11_makeAsItIs_12 : decode cX11_makeAsItIs 12 = .ok (.aload_n 0, 1) := by decide +kernel
theorem dX11_makeAsItIs_13 : decode cX11_makeAsItIs 13 = .ok (.iload_n 2, 1) := by decide +kernel
theorem dX11_makeAsItIs_14 : decode cX11_makeAsItIs 14 = .ok (.invokevirtual 277, 3) := by decide +kernel
theorem dX11_makeAsItIs_17 : decode cX11_makeAsItIs 17 = .ok (.aload_n 0, 1) := by decide +kernel
theorem dX11_makeAsItIs_18 : decode cX11_makeAsItIs 18 = .ok (.iload_n 1, 1) := by decide +kernel
theorem dX11_makeAsItIs_19 : decode cX11_makeAsItIs 19 = .ok (.invokevirtual 319, 3) := by decide +kernel
theorem dX11_makeAsItIs_22 : decode cX11_makeAsItIs 22 = .ok (.goto 100, 3) := by decide +kernel
theorem dX11_makeAsItIs_25 : decode cX11_makeAsItIs 25 = .ok (.aload_n 0, 1) := by decide +kernel
theorem dX11_makeAsItIs_26 : decode cX11_makeAsItIs 26 = .ok (.iload_n 1, 1) := by decide +kernel
theorem dX11_makeAsItIs_27 : decode cX11_makeAsItIs 27 = .ok (.iload_n 3, 1) := by decide +kernel
theorem dX11_makeAsItIs_28 : decode cX11_makeAsItIs 28 = .ok (.ifCond .ne 8, 3) := by decide +kernel
theorem dX11_makeAsItIs_31 : decode cX11_makeAsItIs 31 = .ok (.bipush 7, 2) := by decide +kernel
theorem dX11_makeAsItIs_33 : decode cX11_makeAsItIs 33 = .ok (.goto 33, 3) := by decide +kernel
theorem dX11_makeAsItIs_36 : decode cX11_makeAsItIs 36 = .ok (.iload_n 3, 1) := by decide +kernel
theorem dX11_makeAsItIs_37 : decode cX11_makeAsItIs 37 = .ok (.iconst 1, 1) := by decide +kernel
theorem dX11_makeAsItIs_38 : decode cX11_makeAsItIs 38 = .ok (.if_icmp .ne 8, 3) := by decide +kernel
theorem dX11_makeAsItIs_41 : decode cX11_makeAsItIs 41 = .ok (.bipush 8, 2) := by decide +kernel
theorem dX11_makeAsItIs_43 : decode cX11_makeAsItIs 43 = .ok (.goto 23, 3) := by decide +kernel
theorem dX11_makeAsItIs_46 : decode cX11_makeAsItIs 46 = .ok (.iload_n 3, 1) := by decide +kernel
theorem dX11_makeAsItIs_47 : decode cX11_makeAsItIs 47 = .ok (.iconst 2, 1) := by decide +kernel
theorem dX11_makeAsItIs_48 : decode cX11_makeAsItIs 48 = .ok (.if_icmp .ne 7, 3) := by decide +kernel
theorem dX11_makeAsItIs_51 : decode cX11_makeAsItIs 51 = .ok (.iconst 2, 1) := by decide +kernel
theorem dX11_makeAsItIs_52 : decode cX11_makeAsItIs 52 = .ok (.goto 14, 3) := by decide +kernel
theorem dX11_makeAsItIs_55 : decode cX11_makeAsItIs 55 = .ok (.iload_n 3, 1) := by decide +kernel
theorem dX11_makeAsItIs_56 : decode cX11_makeAsItIs 56 = .ok (.iconst 3, 1) := by decide +kernel
theorem dX11_makeAsItIs_57 : decode cX11_makeAsItIs 57 = .ok (.if_icmp .ne 7, 3) := by decide +kernel
theorem dX11_makeAsItIs_60 : decode cX11_makeAsItIs 60 = .ok (.iconst 4, 1) := by decide +kernel
theorem dX11_makeAsItIs_61 : decode cX11_makeAsItIs 61 = .ok (.goto 5, 3) := by decide +kernel
theorem dX11_makeAsItIs_64 : decode cX11_makeAsItIs 64 = .ok (.bipush 6, 2) := by decide +kernel
theorem dX11_makeAsItIs_66 : decode cX11_makeAsItIs 66 = .ok (.iload_n 3, 1) := by decide +kernel
theorem dX11_makeAsItIs_67 : decode cX11_makeAsItIs 67 = .ok (.iconst 2, 1) := by decide +kernel
theorem dX11_makeAsItIs_68 : decode cX11_makeAsItIs 68 = .ok (.if_icmp .ne 20, 3) := by decide +kernel
theorem dX11_makeAsItIs_71 : decode cX11_makeAsItIs 71 = .ok (.aload_n 0, 1) := by decide +kernel
theorem dX11_makeAsItIs_72 : decode cX11_makeAsItIs 72 = .ok (.getfield 49, 3) := by decide +kernel
theorem dX11_makeAsItIs_75 : decode cX11_makeAsItIs 75 = .ok (.iload_n 2, 1) := by decide +kernel
theorem dX11_makeAsItIs_76 : decode cX11_makeAsItIs 76 = .ok (.baload, 1) := by decide +kernel
theorem dX11_makeAsItIs_77 : decode cX11_makeAsItIs 77 = .ok (.ifCond .eq 7, 3) := by decide +kernel
theorem dX11_makeAsItIs_80 : decode cX11_makeAsItIs 80 = .ok (.lconst 1, 1) := by decide +kernel
theorem dX11_makeAsItIs_81 : decode cX11_makeAsItIs 81 = .ok (.goto 23, 3) := by decide +kernel
theorem dX11_makeAsItIs_84 : decode cX11_makeAsItIs 84 = .ok (.lconst 0, 1) := by decide +kernel
theorem dX11_makeAsItIs_85 : decode cX11_makeAsItIs 85 = .ok (.goto 19, 3) := by decide +kernel
theorem dX11_makeAsItIs_88 : decode cX11_makeAsItIs 88 = .ok (.iload_n 3, 1) := by decide +kernel
theorem dX11_makeAsItIs_89 : decode cX11_makeAsItIs 89 = .ok (.iconst 5, 1) := by decide +kernel
theorem dX11_makeAsItIs_90 : decode cX11_makeAsItIs 90 = .ok (.if_icmp .ne 13, 3) := by decide +kernel
theorem dX11_makeAsItIs_93 : decode cX11_makeAsItIs 93 = .ok (.aload_n 0, 1) := by decide +kernel
theorem dX11_makeAsItIs_94 : decode cX11_makeAsItIs 94 = .ok (.getfield 56, 3) := by decide +kernel
theorem dX11_makeAsItIs_97 : decode cX11_makeAsItIs 97 = .ok (.iload_n 2, 1) := by decide +kernel
theorem dX11_makeAsItIs_98 : decode cX11_makeAsItIs 98 = .ok (.iaload, 1) := by decide +kernel
theorem dX11_makeAsItIs_99 : decode cX11_makeAsItIs 99 = .ok (.i2l, 1) := by decide +kernel
theorem dX11_makeAsItIs_100 : decode cX11_makeAsItIs 100 = .ok (.goto 4, 3) := by decide +kernel
theorem dX11_makeAsItIs_103 : decode cX11_makeAsItIs 103 = .ok (.lconst 0, 1) := by decide +kernel
theorem dX11_makeAsItIs_104 : decode cX11_makeAsItIs 104 = .ok (.iload_n 3, 1) := by decide +kernel
theorem dX11_makeAsItIs_105 : decode cX11_makeAsItIs 105 = .ok (.iconst 3, 1) := by decide +kernel
theorem dX11_makeAsItIs_106 : decode cX11_makeAsItIs 106 = .ok (.if_icmp .ne 12, 3) := by decide +kernel
theorem dX11_makeAsItIs_109 : decode cX11_makeAsItIs 109 = .ok (.aload_n 0, 1) := by decide +kernel
theorem dX11_makeAsItIs_110 : decode cX11_makeAsItIs 110 = .ok (.getfield 52, 3) := by decide +kernel
theorem dX11_makeAsItIs_113 : decode cX11_makeAsItIs 113 = .ok (.iload_n 2, 1) := by decide +kernel
theorem dX11_makeAsItIs_114 : decode cX11_makeAsItIs 114 = .ok (.daload, 1) := by decide +kernel
theorem dX11_makeAsItIs_115 : decode cX11_makeAsItIs 115 = .ok (.goto 4, 3) := by decide +kernel
theorem dX11_makeAsItIs_118 : decode cX11_makeAsItIs 118 = .ok (.dconst 0, 1) := by decide +kernel
theorem dX11_makeAsItIs_119 : decode cX11_makeAsItIs 119 = .ok (.invokevirtual 284, 3) := by decide +kernel
theorem dX11_makeAsItIs_122 : decode cX11_makeAsItIs 122 = .ok (.return_, 1) := by decide +kernel
set_option maxRecDepth 20000 in
theorem ggX11_convertOne_X11_make : GoodIn wsX11_convertOne wsX11_make := goodIn_r _ [12, 13, 14, 15, 106, 107, 108, 109, 110, 111, 112, 113, 114, 115, 116, 117, 118, 119, 120, 121, 122, 123, 124, 125, 126, 127, 128, 129, 130, 131, 132, 133] rfl (by decide +kernel)
set_option maxRecDepth 20000 in
theorem gX11_convertOne_X11_make : GoodIn wsX11_convertOne (wsV RX11 284 RX11 yX11_make wsX11_make) := goodIn_app (goodIn_of _ (by decide +kernel)) ggX11_convertOne_X11_make
set_option maxRecDepth 20000 in
theorem ggX11_convertOne_X11_makeAsItIs : GoodIn wsX11_convertOne wsX11_makeAsItIs := goodIn_r _ [19, 1, 4, 6, 5, 20, 21, 22, 11, 23, 24, 25, 26, 27, 28, 29, 30, 31, 32, 33, 34, 35, 36, 37, 38, 39, 40, 41, 42, 43, 44, 45, 46, 47, 48, 49, 50, 51, 52, 53, 54, 55, 56, 57, 58, 59, 60, 61, 8, 9, 10, 12, 13, 14, 15, 106, 107, 108, 109, 110, 111, 112, 113, 114, 115, 116, 117, 118, 119, 120, 121, 122, 123, 124, 125, 126, 127, 128, 129, 130, 131, 132, 133] rfl (by decide +kernel)
set_option maxRecDepth 20000 in
theorem gX11_convertOne_X11_makeAsItIs : GoodIn wsX11_convertOne (wsV RX11 322 RX11 yX11_makeAsItIs wsX11_makeAsItIs) := goodIn_app (goodIn_of _ (by decide +kernel)) ggX11_convertOne_X11_makeAsItIs
set_option maxRecDepth 20000 in
theorem ggX11_convertOne_X11_sayAll : GoodIn wsX11_convertOne wsX11_sayAll := goodIn_r _ [23, 24, 1, 6, 25, 26, 27, 11, 28, 29, 30, 31, 4, 32, 33, 5, 34, 35, 36, 37, 38, 39, 40, 41, 42, 43, 44, 45, 46, 47, 48, 49, 50, 51, 52, 53, 54, 55, 56, 106, 107, 108, 109, 110, 111, 112, 113, 114, 115, 116, 117, 118, 119, 120, 121, 122, 123, 124, 125, 126, 127, 128, 129, 130, 131, 132, 133] rfl (by decide +kernel)
set_option maxRecDepth 20000 in
theorem gX11_convertOne_X11_sayAll : GoodIn wsX11_convertOne (wsV RX11 277 RX11 yX11_sayAll wsX11_sayAll) := goodIn_app (goodIn_of _ (by decide +kernel)) ggX11_convertOne_X11_sayAll
set_option maxRecDepth 20000 in
theorem ggX11_convertOne_X11_makeText : GoodIn wsX11_convertOne wsX11_makeText := goodIn_r _ [60, 24, 61, 44, 8, 9, 10, 11, 12, 13, 14, 15, 106, 107, 108, 109, 110, 111, 112, 113, 114, 115, 116, 117, 118, 119, 120, 121, 122, 123, 124, 125, 126, 127, 128, 129, 130, 131, 132, 133] rfl (by decide +kernel)
set_option maxRecDepth 20000 in
theorem gX11_convertOne_X11_makeText : GoodIn wsX11_convertOne (wsV RX11 319 RX11 yX11_makeText wsX11_makeText) := goodIn_app (goodIn_of _ (by decide +kernel)) ggX11_convertOne_X11_makeText
set_option maxRecDepth 20000 in
theorem ggX11_convertOne_X11_isWordOf : GoodIn wsX11_convertOne wsX11_isWordOf := goodIn_r _ [65, 66, 24, 67, 44, 106, 107, 108, 109, 110, 111, 112, 113, 114, 115, 116, 117, 118, 119, 120, 121, 122, 123, 124, 125, 126, 127, 128, 129, 130, 131, 132, 133] rfl (by decide +kernel)
set_option maxRecDepth 20000 in
theorem gX11_convertOne_X11_isWordOf : GoodIn wsX11_convertOne (wsV RX11 325 RX11 yX11_isWordOf wsX11_isWordOf) := goodIn_app (goodIn_of _ (by decide +kernel)) ggX11_convertOne_X11_isWordOf
set_option maxRecDepth 20000 in
theorem ggX11_convertOne_X11_numberOf : GoodIn wsX11_convertOne wsX11_numberOf := goodIn_r _ [71, 7, 1, 4, 5, 20, 21, 22, 11, 23, 24, 6, 25, 26, 27, 28, 29, 30, 31, 32, 33, 34, 35, 36, 37, 38, 39, 40, 41, 42, 43, 44, 45, 46, 47, 48, 49, 50, 51, 52, 53, 54, 55, 56, 72, 73, 74, 75, 76, 77, 78, 79, 80, 81, 82, 83, 106, 107, 108, 109, 110, 111, 112, 113, 114, 115, 116, 117, 118, 119, 120, 121, 122, 123, 124, 125, 126, 127, 128, 129, 130, 131, 132, 133] rfl (by decide +kernel)
set_option maxRecDepth 20000 in
theorem gX11_convertOne_X11_numberOf : GoodIn wsX11_convertOne (wsV RX11 304 RX11 yX11_numberOf wsX11_numberOf) := goodIn_app (goodIn_of _ (by decide +kernel)) ggX11_convertOne_X11_numberOf
set_option maxRecDepth 20000 in
theorem ggX11_convertOne_X11_makeWhole : GoodIn wsX11_convertOne wsX11_makeWhole := goodIn_r _ [87, 7, 88, 3, 68, 69, 70, 11, 71, 1, 4, 5, 20, 21, 22, 23, 24, 6, 25, 26, 27, 28, 29, 30, 31, 32, 33, 34, 35, 36, 37, 38, 39, 40, 41, 42, 43, 44, 45, 46, 47, 48, 49, 50, 51, 52, 53, 54, 55, 56, 72, 73, 74, 75, 76, 77, 78, 79, 80, 81, 82, 83, 89, 90, 91, 92, 93, 94, 95, 96, 97, 98, 99, 100, 101, 102, 103, 104, 105, 8, 9, 10, 12, 13, 14, 15, 106, 107, 108, 109, 110, 111, 112, 113, 114, 115, 116, 117, 118, 119, 120, 121, 122, 123, 124, 125, 126, 127, 128, 129, 130, 131, 132, 133] rfl (by decide +kernel)
set_option maxRecDepth 20000 in
theorem gX11_convertOne_X11_makeWhole : GoodIn wsX11_convertOne (wsV RX11 328 RX11 yX11_makeWhole wsX11_makeWhole) := goodIn_app (goodIn_of _ (by decide +kernel)) ggX11_convertOne_X11_makeWhole
theorem dX11_convertOne_0 : decode cX11_convertOne 0 = .ok (.aload_n 0, 1) := by decide +kernel
theorem dX11_convertOne_1 : decode cX11_convertOne 1 = .ok (.getfield 46, 3) := by decide +kernel
theorem dX11_convertOne_4 : decode cX11_convertOne 4 = .ok (.iload_n 2, 1) := by decide +kernel
theorem dX11_convertOne_5 : decode cX11_convertOne 5 = .ok (.iaload, 1) := by decide +kernel
theorem dX11_convertOne_6 : decode cX11_convertOne 6 = .ok (.istore 4, 2) := by decide +kernel
theorem dX11_convertOne_8 : decode cX11_convertOne 8 = .ok (.iload 4, 2) := by decide +kernel
theorem dX11_convertOne_10 : decode cX11_convertOne 10 = .ok (.iconst 1, 1) := by decide +kernel
theorem dX11_convertOne_11 : decode cX11_convertOne 11 = .ok (.if_icmp .gt 22, 3) := by decide +kernel
theorem dX11_convertOne_14 : decode cX11_convertOne 14 = .ok (.aload_n 0, 1) := by decide +kernel
theorem dX11_convertOne_15 : decode cX11_convertOne 15 = .ok (.getfield 37, 3) := by decide +kernel
theorem dX11_convertOne_18 : decode cX11_convertOne 18 = .ok (.iload_n 3, 1) := by decide +kernel
theorem dX11_convertOne_19 : decode cX11_convertOne 19 = .ok (.baload, 1) := by decide +kernel
theorem dX11_convertOne_20 : decode cX11_convertOne 20 = .ok (.ifCond .eq 13, 3) := by decide +kernel
theorem dX11_convertOne_23 : decode cX11_convertOne 23 = .ok (.aload_n 0, 1) := by decide +kernel
theorem dX11_convertOne_24 : decode cX11_convertOne 24 = .ok (.iload_n 1, 1) := by decide +kernel
theorem dX11_convertOne_25 : decode cX11_convertOne 25 = .ok (.iconst 1, 1) := by decide +kernel
theorem dX11_convertOne_26 : decode cX11_convertOne 26 = .ok (.lconst 0, 1) := by decide +kernel
theorem dX11_convertOne_27 : decode cX11_convertOne 27 = .ok (.dconst 0, 1) := by decide +kernel
theorem dX11_convertOne_28 : decode cX11_convertOne 28 = .ok (.invokevirtual 284, 3) := by decide +kernel
theorem dX11_convertOne_31 : decode cX11_convertOne 31 = .ok (.iconst 1, 1) := by decide +kernel
theorem dX11_convertOne_32 : decode cX11_convertOne 32 = .ok (.ireturn, 1) := by decide +kernel
theorem dX11_convertOne_33 : decode cX11_convertOne 33 = .ok (.aload_n 0, 1) := by decide +kernel
theorem dX11_convertOne_34 : decode cX11_convertOne 34 = .ok (.getfield 31, 3) := by decide +kernel
theorem dX11_convertOne_37 : decode cX11_convertOne 37 = .ok (.iload_n 3, 1) := by decide +kernel
theorem dX11_convertOne_38 : decode cX11_convertOne 38 = .ok (.iaload, 1) := by decide +kernel
theorem dX11_convertOne_39 : decode cX11_convertOne 39 = .ok (.tableswitch 214 0 9 #[61, 214, 214, 214, 214, 191, 156, 53, 156, 212], 53) := by decide +kernel
theorem dX11_convertOne_92 : decode cX11_convertOne 92 = .ok (.aload_n 0, 1) := by decide +kernel
theorem dX11_convertOne_93 : decode cX11_convertOne 93 = .ok (.iload_n 1, 1) := by decide +kernel
theorem dX11_convertOne_94 : decode cX11_convertOne 94 = .ok (.iload_n 2, 1) := by decide +kernel
theorem dX11_convertOne_95 : decode cX11_convertOne 95 = .ok (.invokevirtual 322, 3) := by decide +kernel
theorem dX11_convertOne_98 : decode cX11_convertOne 98 = .ok (.iconst 1, 1) := by decide +kernel
theorem dX11_convertOne_99 : decode cX11_convertOne 99 = .ok (.ireturn, 1) := by decide +kernel
theorem dX11_convertOne_100 : decode cX11_convertOne 100 = .ok (.iload 4, 2) := by decide +kernel
theorem dX11_convertOne_102 : decode cX11_convertOne 102 = .ok (.iconst 2, 1) := by decide +kernel
theorem dX11_convertOne_103 : decode cX11_convertOne 103 = .ok (.if_icmp .ne 12, 3) := by decide +kernel
theorem dX11_convertOne_106 : decode cX11_convertOne 106 = .ok (.aload_n 0, 1) := by decide +kernel
theorem dX11_convertOne_107 : decode cX11_convertOne 107 = .ok (.getfield 49, 3) := by decide +kernel
theorem dX11_convertOne_110 : decode cX11_convertOne 110 = .ok (.iload_n 2, 1) := by decide +kernel
theorem dX11_convertOne_111 : decode cX11_convertOne 111 = .ok (.baload, 1) := by decide +kernel
theorem dX11_convertOne_112 : decode cX11_convertOne 112 = .ok (.goto 62, 3) := by decide +kernel
theorem dX11_convertOne_115 : decode cX11_convertOne 115 = .ok (.iload 4, 2) := by decide +kernel
theorem dX11_convertOne_117 : decode cX11_convertOne 117 = .ok (.iconst 3, 1) := by decide +kernel
theorem dX11_convertOne_118 : decode cX11_convertOne 118 = .ok (.if_icmp .ne 22, 3) := by decide +kernel
theorem dX11_convertOne_121 : decode cX11_convertOne 121 = .ok (.aload_n 0, 1) := by decide +kernel
theorem dX11_convertOne_122 : decode cX11_convertOne 122 = .ok (.getfield 52, 3) := by decide +kernel
theorem dX11_convertOne_125 : decode cX11_convertOne 125 = .ok (.iload_n 2, 1) := by decide +kernel
theorem dX11_convertOne_126 : decode cX11_convertOne 126 = .ok (.daload, 1) := by decide +kernel
theorem dX11_convertOne_127 : decode cX11_convertOne 127 = .ok (.dconst 0, 1) := by decide +kernel
theorem dX11_convertOne_128 : decode cX11_convertOne 128 = .ok (.dcmp .l, 1) := by decide +kernel
theorem dX11_convertOne_129 : decode cX11_convertOne 129 = .ok (.ifCond .eq 7, 3) := by decide +kernel
theorem dX11_convertOne_132 : decode cX11_convertOne 132 = .ok (.iconst 1, 1) := by decide +kernel
theorem dX11_convertOne_133 : decode cX11_convertOne 133 = .ok (.goto 41, 3) := by decide +kernel
theorem dX11_convertOne_136 : decode cX11_convertOne 136 = .ok (.iconst 0, 1) := by decide +kernel
theorem dX11_convertOne_137 : decode cX11_convertOne 137 = .ok (.goto 37, 3) := by decide +kernel
theorem dX11_convertOne_140 : decode cX11_convertOne 140 = .ok (.iload 4, 2) := by decide +kernel
theorem dX11_convertOne_142 : decode cX11_convertOne 142 = .ok (.iconst 4, 1) := by decide +kernel
theorem dX11_convertOne_143 : decode cX11_convertOne 143 = .ok (.if_icmp .ne 20, 3) := by decide +kernel
theorem dX11_convertOne_146 : decode cX11_convertOne 146 = .ok (.aload_n 0, 1) := by decide +kernel
theorem dX11_convertOne_147 : decode cX11_convertOne 147 = .ok (.getfield 56, 3) := by decide +kernel
theorem dX11_convertOne_150 : decode cX11_convertOne 150 = .ok (.iload_n 2, 1) := by decide +kernel
theorem dX11_convertOne_151 : decode cX11_convertOne 151 = .ok (.iaload, 1) := by decide +kernel
theorem dX11_convertOne_152 : decode cX11_convertOne 152 = .ok (.ifCond .le 7, 3) := by decide +kernel
theorem dX11_convertOne_155 : decode cX11_convertOne 155 = .ok (.iconst 1, 1) := by decide +kernel
theorem dX11_convertOne_156 : decode cX11_convertOne 156 = .ok (.goto 18, 3) := by decide +kernel
theorem dX11_convertOne_159 : decode cX11_convertOne 159 = .ok (.iconst 0, 1) := by decide +kernel
theorem dX11_convertOne_160 : decode cX11_convertOne 160 = .ok (.goto 14, 3) := by decide +kernel
theorem dX11_convertOne_163 : decode cX11_convertOne 163 = .ok (.iload 4, 2) := by decide +kernel
theorem dX11_convertOne_165 : decode cX11_convertOne 165 = .ok (.iconst 5, 1) := by decide +kernel
theorem dX11_convertOne_166 : decode cX11_convertOne 166 = .ok (.if_icmp .ne 7, 3) := by decide +kernel
theorem dX11_convertOne_169 : decode cX11_convertOne 169 = .ok (.iconst 1, 1) := by decide +kernel
theorem dX11_convertOne_170 : decode cX11_convertOne 170 = .ok (.goto 4, 3) := by decide +kernel
theorem dX11_convertOne_173 : decode cX11_convertOne 173 = .ok (.iconst 0, 1) := by decide +kernel
theorem dX11_convertOne_174 : decode cX11_convertOne 174 = .ok (.istore 5, 2) := by decide +kernel
theorem dX11_convertOne_176 : decode cX11_convertOne 176 = .ok (.aload_n 0, 1) := by decide +kernel
theorem dX11_convertOne_177 : decode cX11_convertOne 177 = .ok (.iload_n 1, 1) := by decide +kernel
theorem dX11_convertOne_178 : decode cX11_convertOne 178 = .ok (.iconst 2, 1) := by decide +kernel
theorem dX11_convertOne_179 : decode cX11_convertOne 179 = .ok (.iload 5, 2) := by decide +kernel
theorem dX11_convertOne_181 : decode cX11_convertOne 181 = .ok (.ifCond .eq 7, 3) := by decide +kernel
theorem dX11_convertOne_184 : decode cX11_convertOne 184 = .ok (.lconst 1, 1) := by decide +kernel
theorem dX11_convertOne_185 : decode cX11_convertOne 185 = .ok (.goto 4, 3) := by decide +kernel
theorem dX11_convertOne_188 : decode cX11_convertOne 188 = .ok (.lconst 0, 1) := by decide +kernel
theorem dX11_convertOne_189 : decode cX11_convertOne 189 = .ok (.dconst 0, 1) := by decide +kernel
theorem dX11_convertOne_190 : decode cX11_convertOne 190 = .ok (.invokevirtual 284, 3) := by decide +kernel
theorem dX11_convertOne_193 : decode cX11_convertOne 193 = .ok (.iconst 1, 1) := by decide +kernel
theorem dX11_convertOne_194 : decode cX11_convertOne 194 = .ok (.ireturn, 1) := by decide +kernel
theorem dX11_convertOne_195 : decode cX11_convertOne 195 = .ok (.aload_n 0, 1) := by decide +kernel
theorem dX11_convertOne_196 : decode cX11_convertOne 196 = .ok (.iload_n 2, 1) := by decide +kernel
theorem dX11_convertOne_197 : decode cX11_convertOne 197 = .ok (.invokevirtual 277, 3) := by decide +kernel
theorem dX11_convertOne_200 : decode cX11_convertOne 200 = .ok (.aload_n 0, 1) := by decide +kernel
theorem dX11_convertOne_201 : decode cX11_convertOne 201 = .ok (.iload_n 1, 1) := by decide +kernel
theorem dX11_convertOne_202 : decode cX11_convertOne 202 = .ok (.invokevirtual 319, 3) := by decide +kernel
theorem dX11_convertOne_205 : decode cX11_convertOne 205 = .ok (.aload_n 0, 1) := by decide +kernel
theorem dX11_convertOne_206 : decode cX11_convertOne 206 = .ok (.getfield 31, 3) := by decide +kernel
theorem dX11_convertOne_209 : decode cX11_convertOne 209 = .ok (.iload_n 3, 1) := by decide +kernel
theorem dX11_convertOne_210 : decode cX11_convertOne 210 = .ok (.iaload, 1) := by decide +kernel
theorem dX11_convertOne_211 : decode cX11_convertOne 211 = .ok (.bipush 6, 2) := by decide +kernel
theorem dX11_convertOne_213 : decode cX11_convertOne 213 = .ok (.if_icmp .eq 11, 3) := by decide +kernel
theorem dX11_convertOne_216 : decode cX11_convertOne 216 = .ok (.aload_n 0, 1) := by decide +kernel
theorem dX11_convertOne_217 : decode cX11_convertOne 217 = .ok (.iload_n 3, 1) := by decide +kernel
theorem dX11_convertOne_218 : decode cX11_convertOne 218 = .ok (.invokevirtual 325, 3) := by decide +kernel
theorem dX11_convertOne_221 : decode cX11_convertOne 221 = .ok (.ifCond .eq 7, 3) := by decide +kernel
theorem dX11_convertOne_224 : decode cX11_convertOne 224 = .ok (.iconst 1, 1) := by decide +kernel
theorem dX11_convertOne_225 : decode cX11_convertOne 225 = .ok (.goto 4, 3) := by decide +kernel
theorem dX11_convertOne_228 : decode cX11_convertOne 228 = .ok (.iconst 0, 1) := by decide +kernel
theorem dX11_convertOne_229 : decode cX11_convertOne 229 = .ok (.ireturn, 1) := by decide +kernel
theorem dX11_convertOne_230 : decode cX11_convertOne 230 = .ok (.aload_n 0, 1) := by decide +kernel
theorem dX11_convertOne_231 : decode cX11_convertOne 231 = .ok (.iload_n 2, 1) := by decide +kernel
theorem dX11_convertOne_232 : decode cX11_convertOne 232 = .ok (.invokevirtual 304, 3) := by decide +kernel
theorem dX11_convertOne_235 : decode cX11_convertOne 235 = .ok (.dstore 6, 2) := by decide +kernel
theorem dX11_convertOne_237 : decode cX11_convertOne 237 = .ok (.aload_n 0, 1) := by decide +kernel
theorem dX11_convertOne_238 : decode cX11_convertOne 238 = .ok (.iload_n 1, 1) := by decide +kernel
theorem dX11_convertOne_239 : decode cX11_convertOne 239 = .ok (.iconst 4, 1) := by decide +kernel
theorem dX11_convertOne_240 : decode cX11_convertOne 240 = .ok (.lconst 0, 1) := by decide +kernel
theorem dX11_convertOne_241 : decode cX11_convertOne 241 = .ok (.dload 6, 2) := by decide +kernel
theorem dX11_convertOne_243 : decode cX11_convertOne 243 = .ok (.invokevirtual 284, 3) := by decide +kernel
theorem dX11_convertOne_246 : decode cX11_convertOne 246 = .ok (.aload_n 0, 1) := by decide +kernel
theorem dX11_convertOne_247 : decode cX11_convertOne 247 = .ok (.getfield 264, 3) := by decide +kernel
theorem dX11_convertOne_250 : decode cX11_convertOne 250 = .ok (.ireturn, 1) := by decide +kernel
theorem dX11_convertOne_251 : decode cX11_convertOne 251 = .ok (.iconst 0, 1) := by decide +kernel
theorem dX11_convertOne_252 : decode cX11_convertOne 252 = .ok (.ireturn, 1) := by decide +kernel
theorem dX11_convertOne_253 : decode cX11_convertOne 253 = .ok (.aload_n 0, 1) := by decide +kernel
theorem dX11_convertOne_254 : decode cX11_convertOne 254 = .ok (.iload_n 1, 1) := by decide +kernel
theorem dX11_convertOne_255 : decode cX11_convertOne 255 = .ok (.iload_n 2, 1) := by decide +kernel
theorem dX11_convertOne_256 : decode cX11_convertOne 256 = .ok (.iload_n 3, 1) := by decide +kernel
theorem dX11_convertOne_257 : decode cX11_convertOne 257 = .ok (.invokevirtual 328, 3) := by decide +kernel
theorem dX11_convertOne_260 : decode cX11_convertOne 260 = .ok (.ireturn, 1) := by decide +kernel
set_option maxRecDepth 20000 in
theorem ggX11_convert_X11_make : GoodIn wsX11_convert wsX11_make := goodIn_r _ [10, 11, 12, 13, 112, 113, 114, 115, 116, 117, 118, 119, 120, 121, 122, 123, 124, 125, 126, 127, 128, 129, 130, 131, 132, 133, 134, 135, 136, 137, 138, 139] rfl (by decide +kernel)
set_option maxRecDepth 20000 in
theorem gX11_convert_X11_make : GoodIn wsX11_convert (wsV RX11 284 RX11 yX11_make wsX11_make) := goodIn_app (goodIn_of _ (by decide +kernel)) ggX11_convert_X11_make
set_option maxRecDepth 20000 in
theorem ggX11_convert_X11_convertOne : GoodIn wsX11_convert wsX11_convertOne := goodIn_r _ [17, 1, 18, 4, 19, 20, 5, 21, 6, 7, 8, 9, 10, 11, 12, 13, 22, 23, 24, 25, 26, 27, 28, 29, 30, 31, 32, 33, 34, 35, 36, 37, 38, 39, 40, 41, 42, 43, 44, 45, 46, 47, 48, 49, 50, 51, 52, 53, 54, 55, 56, 57, 58, 59, 60, 61, 62, 63, 64, 65, 66, 67, 68, 69, 70, 71, 72, 73, 74, 75, 76, 77, 78, 79, 80, 81, 82, 83, 84, 85, 86, 87, 88, 89, 90, 91, 92, 93, 94, 95, 96, 97, 98, 99, 100, 101, 102, 103, 104, 105, 106, 107, 108, 109, 110, 111, 112, 113, 114, 115, 116, 117, 118, 119, 120, 121, 122, 123, 124, 125, 126, 127, 128, 129, 130, 131, 132, 133, 134, 135, 136, 137, 138, 139] rfl (by decide +kernel)
set_option maxRecDepth 20000 in
theorem gX11_convert_X11_convertOne : GoodIn wsX11_convert (wsV RX11 331 RX11 yX11_convertOne wsX11_convertOne) := goodIn_app (goodIn_of _ (by decide +kernel)) ggX11_convert_X11_convertOne
set_option maxRecDepth 20000 in
theorem ggX11_convert_X11_itemOf : GoodIn wsX11_convert wsX11_itemOf := goodIn_r _ [62] rfl (by decide +kernel)
set_option maxRecDepth 20000 in
theorem gX11_convert_X11_itemOf : GoodIn wsX11_convert (va_wsS RX11 224 yX11_itemOf wsX11_itemOf) := goodIn_app (goodIn_of _ (by decide +kernel)) ggX11_convert_X11_itemOf
set_option maxRecDepth 20000 in
theorem ggX11_convert_X11_makeAsItIs : GoodIn wsX11_convert wsX11_makeAsItIs := goodIn_r _ [25, 1, 19, 5, 20, 26, 27, 28, 9, 29, 30, 31, 32, 33, 34, 35, 36, 37, 38, 39, 40, 41, 42, 43, 44, 45, 46, 47, 48, 49, 50, 51, 52, 53, 54, 55, 56, 57, 58, 59, 60, 61, 62, 63, 64, 65, 66, 67, 6, 7, 8, 10, 11, 12, 13, 112, 113, 114, 115, 116, 117, 118, 119, 120, 121, 122, 123, 124, 125, 126, 127, 128, 129, 130, 131, 132, 133, 134, 135, 136, 137, 138, 139] rfl (by decide +kernel)
set_option maxRecDepth 20000 in
theorem gX11_convert_X11_makeAsItIs : GoodIn wsX11_convert (wsV RX11 322 RX11 yX11_makeAsItIs wsX11_makeAsItIs) := goodIn_app (goodIn_of _ (by decide +kernel)) ggX11_convert_X11_makeAsItIs
theorem dX11_convert_0 : decode cX11_convert 0 = .ok (.bipush 48, 2) := by decide +kernel
theorem dX11_convert_2 : decode cX11_convert 2 = .ok (.iload_n 1, 1) := by decide +kernel
theorem dX11_convert_3 : decode cX11_convert 3 = .ok (.iadd, 1) := by decide +kernel
theorem dX11_convert_4 : decode cX11_convert 4 = .ok (.istore_n 3, 1) := by decide +kernel
theorem dX11_convert_5 : decode cX11_convert 5 = .ok (.iconst 2, 1) := by decide +kernel
theorem dX11_convert_6 : decode cX11_convert 6 = .ok (.iload_n 2, 1) := by decide +kernel
theorem dX11_convert_7 : decode cX11_convert 7 = .ok (.imul, 1) := by decide +kernel
theorem dX11_convert_8 : decode cX11_convert 8 = .ok (.istore 4, 2) := by decide +kernel
theorem dX11_convert_10 : decode cX11_convert 10 = .ok (.aload_n 0, 1) := by decide +kernel
theorem dX11_convert_11 : decode cX11_convert 11 = .ok (.getfield 46, 3) := by decide +kernel
theorem dX11_convert_14 : decode cX11_convert 14 = .ok (.iload_n 1, 1) := by decide +kernel
theorem dX11_convert_15 : decode cX11_convert 15 = .ok (.iaload, 1) := by decide +kernel
theorem dX11_convert_16 : decode cX11_convert 16 = .ok (.istore 5, 2) := by decide +kernel
theorem dX11_convert_18 : decode cX11_convert 18 = .ok (.iload 5, 2) := by decide +kernel
theorem dX11_convert_20 : decode cX11_convert 20 = .ok (.ifCond .ne 31, 3) := by decide +kernel
theorem dX11_convert_23 : decode cX11_convert 23 = .ok (.aload_n 0, 1) := by decide +kernel
theorem dX11_convert_24 : decode cX11_convert 24 = .ok (.getfield 24, 3) := by decide +kernel
theorem dX11_convert_27 : decode cX11_convert 27 = .ok (.iload_n 2, 1) := by decide +kernel
theorem dX11_convert_28 : decode cX11_convert 28 = .ok (.baload, 1) := by decide +kernel
theorem dX11_convert_29 : decode cX11_convert 29 = .ok (.ifCond .ne 12, 3) := by decide +kernel
theorem dX11_convert_32 : decode cX11_convert 32 = .ok (.aload_n 0, 1) := by decide +kernel
theorem dX11_convert_33 : decode cX11_convert 33 = .ok (.getfield 28, 3) := by decide +kernel
theorem dX11_convert_36 : decode cX11_convert 36 = .ok (.iload_n 2, 1) := by decide +kernel
theorem dX11_convert_37 : decode cX11_convert 37 = .ok (.baload, 1) := by decide +kernel
theorem dX11_convert_38 : decode cX11_convert 38 = .ok (.ifCond .eq 13, 3) := by decide +kernel
theorem dX11_convert_41 : decode cX11_convert 41 = .ok (.aload_n 0, 1) := by decide +kernel
theorem dX11_convert_42 : decode cX11_convert 42 = .ok (.iload_n 3, 1) := by decide +kernel
theorem dX11_convert_43 : decode cX11_convert 43 = .ok (.iconst 0, 1) := by decide +kernel
theorem dX11_convert_44 : decode cX11_convert 44 = .ok (.lconst 0, 1) := by decide +kernel
theorem dX11_convert_45 : decode cX11_convert 45 = .ok (.dconst 0, 1) := by decide +kernel
theorem dX11_convert_46 : decode cX11_convert 46 = .ok (.invokevirtual 284, 3) := by decide +kernel
theorem dX11_convert_49 : decode cX11_convert 49 = .ok (.iconst 1, 1) := by decide +kernel
theorem dX11_convert_50 : decode cX11_convert 50 = .ok (.ireturn, 1) := by decide +kernel
theorem dX11_convert_51 : decode cX11_convert 51 = .ok (.iload 5, 2) := by decide +kernel
theorem dX11_convert_53 : decode cX11_convert 53 = .ok (.iconst 5, 1) := by decide +kernel
theorem dX11_convert_54 : decode cX11_convert 54 = .ok (.if_icmp .ne 27, 3) := by decide +kernel
theorem dX11_convert_57 : decode cX11_convert 57 = .ok (.aload_n 0, 1) := by decide +kernel
theorem dX11_convert_58 : decode cX11_convert 58 = .ok (.getfield 31, 3) := by decide +kernel
theorem dX11_convert_61 : decode cX11_convert 61 = .ok (.iload 4, 2) := by decide +kernel
theorem dX11_convert_63 : decode cX11_convert 63 = .ok (.iaload, 1) := by decide +kernel
theorem dX11_convert_64 : decode cX11_convert 64 = .ok (.bipush 9, 2) := by decide +kernel
theorem dX11_convert_66 : decode cX11_convert 66 = .ok (.if_icmp .eq 24, 3) := by decide +kernel
theorem dX11_convert_69 : decode cX11_convert 69 = .ok (.aload_n 0, 1) := by decide +kernel
theorem dX11_convert_70 : decode cX11_convert 70 = .ok (.getfield 31, 3) := by decide +kernel
theorem dX11_convert_73 : decode cX11_convert 73 = .ok (.iload 4, 2) := by decide +kernel
theorem dX11_convert_75 : decode cX11_convert 75 = .ok (.iaload, 1) := by decide +kernel
theorem dX11_convert_76 : decode cX11_convert 76 = .ok (.bipush 7, 2) := by decide +kernel
theorem dX11_convert_78 : decode cX11_convert 78 = .ok (.if_icmp .eq 12, 3) := by decide +kernel
theorem dX11_convert_81 : decode cX11_convert 81 = .ok (.aload_n 0, 1) := by decide +kernel
theorem dX11_convert_82 : decode cX11_convert 82 = .ok (.iload_n 3, 1) := by decide +kernel
theorem dX11_convert_83 : decode cX11_convert 83 = .ok (.iload_n 1, 1) := by decide +kernel
theorem dX11_convert_84 : decode cX11_convert 84 = .ok (.iload 4, 2) := by decide +kernel
theorem dX11_convert_86 : decode cX11_convert 86 = .ok (.invokevirtual 331, 3) := by decide +kernel
theorem dX11_convert_89 : decode cX11_convert 89 = .ok (.ireturn, 1) := by decide +kernel
theorem dX11_convert_90 : decode cX11_convert 90 = .ok (.aload_n 0, 1) := by decide +kernel
theorem dX11_convert_91 : decode cX11_convert 91 = .ok (.iload_n 3, 1) := by decide +kernel
theorem dX11_convert_92 : decode cX11_convert 92 = .ok (.bipush 6, 2) := by decide +kernel
theorem dX11_convert_94 : decode cX11_convert 94 = .ok (.aload_n 0, 1) := by decide +kernel
theorem dX11_convert_95 : decode cX11_convert 95 = .ok (.getfield 56, 3) := by decide +kernel
theorem dX11_convert_98 : decode cX11_convert 98 = .ok (.iload_n 1, 1) := by decide +kernel
theorem dX11_convert_99 : decode cX11_convert 99 = .ok (.iaload, 1) := by decide +kernel
theorem dX11_convert_100 : decode cX11_convert 100 = .ok (.i2l, 1) := by decide +kernel
theorem dX11_convert_101 : decode cX11_convert 101 = .ok (.dconst 0, 1) := by decide +kernel
theorem dX11_convert_102 : decode cX11_convert 102 = .ok (.invokevirtual 284, 3) := by decide +kernel
theorem dX11_convert_105 : decode cX11_convert 105 = .ok (.iconst 0, 1) := by decide +kernel
theorem dX11_convert_106 : decode cX11_convert 106 = .ok (.istore 6, 2) := by decide +kernel
theorem dX11_convert_108 : decode cX11_convert 108 = .ok (.iload 6, 2) := by decide +kernel
theorem dX11_convert_110 : decode cX11_convert 110 = .ok (.aload_n 0, 1) := by decide +kernel
theorem dX11_convert_111 : decode cX11_convert 111 = .ok (.getfield 56, 3) := by decide +kernel
theorem dX11_convert_114 : decode cX11_convert 114 = .ok (.iload_n 1, 1) := by decide +kernel
theorem dX11_convert_115 : decode cX11_convert 115 = .ok (.iaload, 1) := by decide +kernel
theorem dX11_convert_116 : decode cX11_convert 116 = .ok (.if_icmp .ge 68, 3) := by decide +kernel
theorem dX11_convert_119 : decode cX11_convert 119 = .ok (.bipush 48, 2) := by decide +kernel
theorem dX11_convert_121 : decode cX11_convert 121 = .ok (.iload_n 1, 1) := by decide +kernel
theorem dX11_convert_122 : decode cX11_convert 122 = .ok (.iload 6, 2) := by decide +kernel
theorem dX11_convert_124 : decode cX11_convert 124 = .ok (.invokestatic 224, 3) := by decide +kernel
theorem dX11_convert_127 : decode cX11_convert 127 = .ok (.iadd, 1) := by decide +kernel
theorem dX11_convert_128 : decode cX11_convert 128 = .ok (.istore 7, 2) := by decide +kernel
theorem dX11_convert_130 : decode cX11_convert 130 = .ok (.aload_n 0, 1) := by decide +kernel
theorem dX11_convert_131 : decode cX11_convert 131 = .ok (.getfield 31, 3) := by decide +kernel
theorem dX11_convert_134 : decode cX11_convert 134 = .ok (.iload 4, 2) := by decide +kernel
theorem dX11_convert_136 : decode cX11_convert 136 = .ok (.iaload, 1) := by decide +kernel
theorem dX11_convert_137 : decode cX11_convert 137 = .ok (.bipush 7, 2) := by decide +kernel
theorem dX11_convert_139 : decode cX11_convert 139 = .ok (.if_icmp .ne 18, 3) := by decide +kernel
theorem dX11_convert_142 : decode cX11_convert 142 = .ok (.aload_n 0, 1) := by decide +kernel
theorem dX11_convert_143 : decode cX11_convert 143 = .ok (.iload 7, 2) := by decide +kernel
theorem dX11_convert_145 : decode cX11_convert 145 = .ok (.iload_n 1, 1) := by decide +kernel
theorem dX11_convert_146 : decode cX11_convert 146 = .ok (.iload 6, 2) := by decide +kernel
theorem dX11_convert_148 : decode cX11_convert 148 = .ok (.invokestatic 224, 3) := by decide +kernel
theorem dX11_convert_151 : decode cX11_convert 151 = .ok (.invokevirtual 322, 3) := by decide +kernel
theorem dX11_convert_154 : decode cX11_convert 154 = .ok (.goto 24, 3) := by decide +kernel
theorem dX11_convert_157 : decode cX11_convert 157 = .ok (.aload_n 0, 1) := by decide +kernel
theorem dX11_convert_158 : decode cX11_convert 158 = .ok (.iload 7, 2) := by decide +kernel
theorem dX11_convert_160 : decode cX11_convert 160 = .ok (.iload_n 1, 1) := by decide +kernel
theorem dX11_convert_161 : decode cX11_convert 161 = .ok (.iload 6, 2) := by decide +kernel
theorem dX11_convert_163 : decode cX11_convert 163 = .ok (.invokestatic 224, 3) := by decide +kernel
theorem dX11_convert_166 : decode cX11_convert 166 = .ok (.iload 4, 2) := by decide +kernel
theorem dX11_convert_168 : decode cX11_convert 168 = .ok (.iconst 1, 1) := by decide +kernel
theorem dX11_convert_169 : decode cX11_convert 169 = .ok (.iadd, 1) := by decide +kernel
theorem dX11_convert_170 : decode cX11_convert 170 = .ok (.invokevirtual 331, 3) := by decide +kernel
theorem dX11_convert_173 : decode cX11_convert 173 = .ok (.ifCond .ne 5, 3) := by decide +kernel
theorem dX11_convert_176 : decode cX11_convert 176 = .ok (.iconst 0, 1) := by decide +kernel
theorem dX11_convert_177 : decode cX11_convert 177 = .ok (.ireturn, 1) := by decide +kernel
theorem dX11_convert_178 : decode cX11_convert 178 = .ok (.iinc 6 1, 3) := by decide +kernel
theorem dX11_convert_181 : decode cX11_convert 181 = .ok (.goto (-73), 3) := by decide +kernel
theorem dX11_convert_184 : decode cX11_convert 184 = .ok (.iconst 1, 1) := by decide +kernel
theorem dX11_convert_185 : decode cX11_convert 185 = .ok (.ireturn, 1) := by decide +kernel
set_option maxRecDepth 20000 in
theorem ggX11_bound_X11_most : GoodIn wsX11_bound wsX11_most := goodIn_r _ [6, 7, 8, 14, 15, 16, 17, 18, 19, 20, 21, 22, 23, 24, 25, 26, 27, 28, 29, 30, 31, 32, 33, 34, 35, 36, 37, 38, 39, 40, 41] rfl (by decide +kernel)
set_option maxRecDepth 20000 in
theorem gX11_bound_X11_most : GoodIn wsX11_bound (wsV RX11 181 RX11 yX11_most wsX11_most) := goodIn_app (goodIn_of _ (by decide +kernel)) ggX11_bound_X11_most
set_option maxRecDepth 20000 in
theorem ggX11_bound_X11_least : GoodIn wsX11_bound wsX11_least := goodIn_r _ [12, 7, 13, 8, 14, 15, 16, 17, 18, 19, 20, 21, 22, 23, 24, 25, 26, 27, 28, 29, 30, 31, 32, 33, 34, 35, 36, 37, 38, 39, 40, 41] rfl (by decide +kernel)
set_option maxRecDepth 20000 in
theorem gX11_bound_X11_least : GoodIn wsX11_bound (wsV RX11 177 RX11 yX11_least wsX11_least) := goodIn_app (goodIn_of _ (by decide +kernel)) ggX11_bound_X11_least
theorem dX11_bound_0 : decode cX11_bound 0 = .ok (.iconst (-1), 1) := by decide +kernel
theorem dX11_bound_1 : decode cX11_bound 1 = .ok (.istore_n 3, 1) := by decide +kernel
theorem dX11_bound_2 : decode cX11_bound 2 = .ok (.iconst 0, 1) := by decide +kernel
theorem dX11_bound_3 : decode cX11_bound 3 = .ok (.istore 4, 2) := by decide +kernel
theorem dX11_bound_5 : decode cX11_bound 5 = .ok (.iload 4, 2) := by decide +kernel
theorem dX11_bound_7 : decode cX11_bound 7 = .ok (.aload_n 0, 1) := by decide +kernel
theorem dX11_bound_8 : decode cX11_bound 8 = .ok (.getfield 17, 3) := by decide +kernel
theorem dX11_bound_11 : decode cX11_bound 11 = .ok (.iload_n 1, 1) := by decide +kernel
theorem dX11_bound_12 : decode cX11_bound 12 = .ok (.iaload, 1) := by decide +kernel
theorem dX11_bound_13 : decode cX11_bound 13 = .ok (.if_icmp .ge 70, 3) := by decide +kernel
theorem dX11_bound_16 : decode cX11_bound 16 = .ok (.iload_n 2, 1) := by decide +kernel
theorem dX11_bound_17 : decode cX11_bound 17 = .ok (.ifCond .eq 17, 3) := by decide +kernel
theorem dX11_bound_20 : decode cX11_bound 20 = .ok (.aload_n 0, 1) := by decide +kernel
theorem dX11_bound_21 : decode cX11_bound 21 = .ok (.bipush 6, 2) := by decide +kernel
theorem dX11_bound_23 : decode cX11_bound 23 = .ok (.iload_n 1, 1) := by decide +kernel
theorem dX11_bound_24 : decode cX11_bound 24 = .ok (.imul, 1) := by decide +kernel
theorem dX11_bound_25 : decode cX11_bound 25 = .ok (.iload 4, 2) := by decide +kernel
theorem dX11_bound_27 : decode cX11_bound 27 = .ok (.iadd, 1) := by decide +kernel
theorem dX11_bound_28 : decode cX11_bound 28 = .ok (.invokevirtual 181, 3) := by decide +kernel
theorem dX11_bound_31 : decode cX11_bound 31 = .ok (.goto 14, 3) := by decide +kernel
theorem dX11_bound_34 : decode cX11_bound 34 = .ok (.aload_n 0, 1) := by decide +kernel
theorem dX11_bound_35 : decode cX11_bound 35 = .ok (.bipush 6, 2) := by decide +kernel
theorem dX11_bound_37 : decode cX11_bound 37 = .ok (.iload_n 1, 1) := by decide +kernel
theorem dX11_bound_38 : decode cX11_bound 38 = .ok (.imul, 1) := by decide +kernel
theorem dX11_bound_39 : decode cX11_bound 39 = .ok (.iload 4, 2) := by decide +kernel
theorem dX11_bound_41 : decode cX11_bound 41 = .ok (.iadd, 1) := by decide +kernel
theorem dX11_bound_42 : decode cX11_bound 42 = .ok (.invokevirtual 177, 3) := by decide +kernel
theorem dX11_bound_45 : decode cX11_bound 45 = .ok (.istore 5, 2) := by decide +kernel
theorem dX11_bound_47 : decode cX11_bound 47 = .ok (.iload_n 3, 1) := by decide +kernel
theorem dX11_bound_48 : decode cX11_bound 48 = .ok (.ifCond .lt 22, 3) := by decide +kernel
theorem dX11_bound_51 : decode cX11_bound 51 = .ok (.iload_n 2, 1) := by decide +kernel
theorem dX11_bound_52 : decode cX11_bound 52 = .ok (.ifCond .eq 12, 3) := by decide +kernel
theorem dX11_bound_55 : decode cX11_bound 55 = .ok (.iload 5, 2) := by decide +kernel
theorem dX11_bound_57 : decode cX11_bound 57 = .ok (.iload_n 3, 1) := by decide +kernel
theorem dX11_bound_58 : decode cX11_bound 58 = .ok (.if_icmp .le 17, 3) := by decide +kernel
theorem dX11_bound_61 : decode cX11_bound 61 = .ok (.goto 9, 3) := by decide +kernel
theorem dX11_bound_64 : decode cX11_bound 64 = .ok (.iload 5, 2) := by decide +kernel
theorem dX11_bound_66 : decode cX11_bound 66 = .ok (.iload_n 3, 1) := by decide +kernel
theorem dX11_bound_67 : decode cX11_bound 67 = .ok (.if_icmp .ge 8, 3) := by decide +kernel
theorem dX11_bound_70 : decode cX11_bound 70 = .ok (.iload 5, 2) := by decide +kernel
theorem dX11_bound_72 : decode cX11_bound 72 = .ok (.goto 4, 3) := by decide +kernel
theorem dX11_bound_75 : decode cX11_bound 75 = .ok (.iload_n 3, 1) := by decide +kernel
theorem dX11_bound_76 : decode cX11_bound 76 = .ok (.istore_n 3, 1) := by decide +kernel
theorem dX11_bound_77 : decode cX11_bound 77 = .ok (.iinc 4 1, 3) := by decide +kernel
theorem dX11_bound_80 : decode cX11_bound 80 = .ok (.goto (-75), 3) := by decide +kernel
theorem dX11_bound_83 : decode cX11_bound 83 = .ok (.iload_n 3, 1) := by decide +kernel
theorem dX11_bound_84 : decode cX11_bound 84 = .ok (.ireturn, 1) := by decide +kernel
set_option maxRecDepth 20000 in
theorem ggX11_formWith_X11_takesMany : GoodIn wsX11_formWith wsX11_takesMany := goodIn_r _ [10, 11, 12, 13, 9, 14, 15, 2, 3, 16, 17, 18, 19, 27, 28, 29, 30, 31, 32, 33, 34, 35, 36, 37, 38, 39, 40, 41, 42, 43, 44, 45, 46, 47, 48, 49, 50, 51, 52, 53, 54] rfl (by decide +kernel)
set_option maxRecDepth 20000 in
theorem gX11_formWith_X11_takesMany : GoodIn wsX11_formWith (wsV RX11 197 RX11 yX11_takesMany wsX11_takesMany) := goodIn_app (goodIn_of _ (by decide +kernel)) ggX11_formWith_X11_takesMany
set_option maxRecDepth 20000 in
theorem ggX11_formWith_X11_argumentOf : GoodIn wsX11_formWith wsX11_argumentOf := goodIn_r _ [23, 15, 27, 28, 29, 30, 31, 32, 33, 34, 35, 36, 37, 38, 39, 40, 41, 42, 43, 44, 45, 46, 47, 48, 49, 50, 51, 52, 53, 54] rfl (by decide +kernel)
set_option maxRecDepth 20000 in
theorem gX11_formWith_X11_argumentOf : GoodIn wsX11_formWith (wsV RX11 190 RX11 yX11_argumentOf wsX11_argumentOf) := goodIn_app (goodIn_of _ (by decide +kernel)) ggX11_formWith_X11_argumentOf
set_option maxRecDepth 20000 in
theorem ggX11_formWith_X11_family : GoodIn wsX11_formWith wsX11_family := goodIn_r _ [26] rfl (by decide +kernel)
set_option maxRecDepth 20000 in
theorem gX11_formWith_X11_family : GoodIn wsX11_formWith (va_wsS RX11 187 yX11_family wsX11_family) := goodIn_app (goodIn_of _ (by decide +kernel)) ggX11_formWith_X11_family
theorem dX11_formWith_0 : decode cX11_formWith 0 = .ok (.iconst 0, 1) := by decide +kernel
theorem dX11_formWith_1 : decode cX11_formWith 1 = .ok (.istore 5, 2) := by decide +kernel
theorem dX11_formWith_3 : decode cX11_formWith 3 = .ok (.iload 5, 2) := by decide +kernel
theorem dX11_formWith_5 : decode cX11_formWith 5 = .ok (.aload_n 0, 1) := by decide +kernel
theorem dX11_formWith_6 : decode cX11_formWith 6 = .ok (.getfield 17, 3) := by decide +kernel
theorem dX11_formWith_9 : decode cX11_formWith 9 = .ok (.iload_n 1, 1) := by decide +kernel
theorem dX11_formWith_10 : decode cX11_formWith 10 = .ok (.iaload, 1) := by decide +kernel
theorem dX11_formWith_11 : decode cX11_formWith 11 = .ok (.if_icmp .ge 125, 3) := by decide +kernel
theorem dX11_formWith_14 : decode cX11_formWith 14 = .ok (.bipush 6, 2) := by decide +kernel
theorem dX11_formWith_16 : decode cX11_formWith 16 = .ok (.iload_n 1, 1) := by decide +kernel
theorem dX11_formWith_17 : decode cX11_formWith 17 = .ok (.imul, 1) := by decide +kernel
theorem dX11_formWith_18 : decode cX11_formWith 18 = .ok (.iload 5, 2) := by decide +kernel
theorem dX11_formWith_20 : decode cX11_formWith 20 = .ok (.iadd, 1) := by decide +kernel
theorem dX11_formWith_21 : decode cX11_formWith 21 = .ok (.istore 6, 2) := by decide +kernel
theorem dX11_formWith_23 : decode cX11_formWith 23 = .ok (.aload_n 0, 1) := by decide +kernel
theorem dX11_formWith_24 : decode cX11_formWith 24 = .ok (.iload 6, 2) := by decide +kernel
theorem dX11_formWith_26 : decode cX11_formWith 26 = .ok (.iload_n 2, 1) := by decide +kernel
theorem dX11_formWith_27 : decode cX11_formWith 27 = .ok (.invokevirtual 197, 3) := by decide +kernel
theorem dX11_formWith_30 : decode cX11_formWith 30 = .ok (.ifCond .ne 6, 3) := by decide +kernel
theorem dX11_formWith_33 : decode cX11_formWith 33 = .ok (.goto 97, 3) := by decide +kernel
theorem dX11_formWith_36 : decode cX11_formWith 36 = .ok (.aload_n 0, 1) := by decide +kernel
theorem dX11_formWith_37 : decode cX11_formWith 37 = .ok (.iload 6, 2) := by decide +kernel
theorem dX11_formWith_39 : decode cX11_formWith 39 = .ok (.iload_n 3, 1) := by decide +kernel
theorem dX11_formWith_40 : decode cX11_formWith 40 = .ok (.invokevirtual 190, 3) := by decide +kernel
theorem dX11_formWith_43 : decode cX11_formWith 43 = .ok (.istore 7, 2) := by decide +kernel
theorem dX11_formWith_45 : decode cX11_formWith 45 = .ok (.iload 4, 2) := by decide +kernel
theorem dX11_formWith_47 : decode cX11_formWith 47 = .ok (.ifCond .ne 31, 3) := by decide +kernel
theorem dX11_formWith_50 : decode cX11_formWith 50 = .ok (.aload_n 0, 1) := by decide +kernel
theorem dX11_formWith_51 : decode cX11_formWith 51 = .ok (.getfield 24, 3) := by decide +kernel
theorem dX11_formWith_54 : decode cX11_formWith 54 = .ok (.iload 7, 2) := by decide +kernel
theorem dX11_formWith_56 : decode cX11_formWith 56 = .ok (.baload, 1) := by decide +kernel
theorem dX11_formWith_57 : decode cX11_formWith 57 = .ok (.ifCond .ne 13, 3) := by decide +kernel
theorem dX11_formWith_60 : decode cX11_formWith 60 = .ok (.aload_n 0, 1) := by decide +kernel
theorem dX11_formWith_61 : decode cX11_formWith 61 = .ok (.getfield 28, 3) := by decide +kernel
theorem dX11_formWith_64 : decode cX11_formWith 64 = .ok (.iload 7, 2) := by decide +kernel
theorem dX11_formWith_66 : decode cX11_formWith 66 = .ok (.baload, 1) := by decide +kernel
theorem dX11_formWith_67 : decode cX11_formWith 67 = .ok (.ifCond .eq 7, 3) := by decide +kernel
theorem dX11_formWith_70 : decode cX11_formWith 70 = .ok (.iconst 1, 1) := by decide +kernel
theorem dX11_formWith_71 : decode cX11_formWith 71 = .ok (.goto 49, 3) := by decide +kernel
theorem dX11_formWith_74 : decode cX11_formWith 74 = .ok (.iconst 0, 1) := by decide +kernel
theorem dX11_formWith_75 : decode cX11_formWith 75 = .ok (.goto 45, 3) := by decide +kernel
theorem dX11_formWith_78 : decode cX11_formWith 78 = .ok (.iload 4, 2) := by decide +kernel
theorem dX11_formWith_80 : decode cX11_formWith 80 = .ok (.iconst 1, 1) := by decide +kernel
theorem dX11_formWith_81 : decode cX11_formWith 81 = .ok (.if_icmp .ne 15, 3) := by decide +kernel
theorem dX11_formWith_84 : decode cX11_formWith 84 = .ok (.aload_n 0, 1) := by decide +kernel
theorem dX11_formWith_85 : decode cX11_formWith 85 = .ok (.getfield 37, 3) := by decide +kernel
theorem dX11_formWith_88 : decode cX11_formWith 88 = .ok (.iconst 2, 1) := by decide +kernel
theorem dX11_formWith_89 : decode cX11_formWith 89 = .ok (.iload 7, 2) := by decide +kernel
theorem dX11_formWith_91 : decode cX11_formWith 91 = .ok (.imul, 1) := by decide +kernel
theorem dX11_formWith_92 : decode cX11_formWith 92 = .ok (.baload, 1) := by decide +kernel
theorem dX11_formWith_93 : decode cX11_formWith 93 = .ok (.goto 27, 3) := by decide +kernel
theorem dX11_formWith_96 : decode cX11_formWith 96 = .ok (.aload_n 0, 1) := by decide +kernel
theorem dX11_formWith_97 : decode cX11_formWith 97 = .ok (.getfield 31, 3) := by decide +kernel
theorem dX11_formWith_100 : decode cX11_formWith 100 = .ok (.iconst 2, 1) := by decide +kernel
theorem dX11_formWith_101 : decode cX11_formWith 101 = .ok (.iload 7, 2) := by decide +kernel
theorem dX11_formWith_103 : decode cX11_formWith 103 = .ok (.imul, 1) := by decide +kernel
theorem dX11_formWith_104 : decode cX11_formWith 104 = .ok (.iaload, 1) := by decide +kernel
theorem dX11_formWith_105 : decode cX11_formWith 105 = .ok (.invokestatic 187, 3) := by decide +kernel
theorem dX11_formWith_108 : decode cX11_formWith 108 = .ok (.iload 4, 2) := by decide +kernel
theorem dX11_formWith_110 : decode cX11_formWith 110 = .ok (.iconst 2, 1) := by decide +kernel
theorem dX11_formWith_111 : decode cX11_formWith 111 = .ok (.isub, 1) := by decide +kernel
theorem dX11_formWith_112 : decode cX11_formWith 112 = .ok (.if_icmp .ne 7, 3) := by decide +kernel
theorem dX11_formWith_115 : decode cX11_formWith 115 = .ok (.iconst 1, 1) := by decide +kernel
theorem dX11_formWith_116 : decode cX11_formWith 116 = .ok (.goto 4, 3) := by decide +kernel
theorem dX11_formWith_119 : decode cX11_formWith 119 = .ok (.iconst 0, 1) := by decide +kernel
theorem dX11_formWith_120 : decode cX11_formWith 120 = .ok (.istore 8, 2) := by decide +kernel
theorem dX11_formWith_122 : decode cX11_formWith 122 = .ok (.iload 8, 2) := by decide +kernel
theorem dX11_formWith_124 : decode cX11_formWith 124 = .ok (.ifCond .eq 6, 3) := by decide +kernel
theorem dX11_formWith_127 : decode cX11_formWith 127 = .ok (.iload 5, 2) := by decide +kernel
theorem dX11_formWith_129 : decode cX11_formWith 129 = .ok (.ireturn, 1) := by decide +kernel
theorem dX11_formWith_130 : decode cX11_formWith 130 = .ok (.iinc 5 1, 3) := by decide +kernel
theorem dX11_formWith_133 : decode cX11_formWith 133 = .ok (.goto (-130), 3) := by decide +kernel
theorem dX11_formWith_136 : decode cX11_formWith 136 = .ok (.iconst (-1), 1) := by decide +kernel
theorem dX11_formWith_137 : decode cX11_formWith 137 = .ok (.ireturn, 1) := by decide +kernel
set_option maxRecDepth 20000 in
theorem ggX11_choose_X11_formWith : GoodIn wsX11_choose wsX11_formWith := goodIn_r _ [6, 7, 8, 9, 10, 11, 12, 13, 14, 5, 15, 16, 17, 18, 19, 20, 21, 22, 23, 24, 25, 26, 27, 28, 29, 30, 31, 32, 33, 34, 35, 36, 37, 38, 39, 40, 41, 42, 43, 44, 45, 46, 47, 48, 49, 50, 51, 52, 53, 54, 55, 56, 57, 58, 59] rfl (by decide +kernel)
set_option maxRecDepth 20000 in
theorem gX11_choose_X11_formWith : GoodIn wsX11_choose (wsV RX11 334 RX11 yX11_formWith wsX11_formWith) := goodIn_app (goodIn_of _ (by decide +kernel)) ggX11_choose_X11_formWith
theorem dX11_choose_0 : decode cX11_choose 0 = .ok (.aload_n 0, 1) := by decide +kernel
theorem dX11_choose_1 : decode cX11_choose 1 = .ok (.getfield 46, 3) := by decide +kernel
theorem dX11_choose_4 : decode cX11_choose 4 = .ok (.iload_n 3, 1) := by decide +kernel
theorem dX11_choose_5 : decode cX11_choose 5 = .ok (.iaload, 1) := by decide +kernel
theorem dX11_choose_6 : decode cX11_choose 6 = .ok (.istore 4, 2) := by decide +kernel
theorem dX11_choose_8 : decode cX11_choose 8 = .ok (.iload 4, 2) := by decide +kernel
theorem dX11_choose_10 : decode cX11_choose 10 = .ok (.ifCond .ne 14, 3) := by decide +kernel
theorem dX11_choose_13 : decode cX11_choose 13 = .ok (.aload_n 0, 1) := by decide +kernel
theorem dX11_choose_14 : decode cX11_choose 14 = .ok (.iload_n 1, 1) := by decide +kernel
theorem dX11_choose_15 : decode cX11_choose 15 = .ok (.iload_n 2, 1) := by decide +kernel
theorem dX11_choose_16 : decode cX11_choose 16 = .ok (.iload_n 3, 1) := by decide +kernel
theorem dX11_choose_17 : decode cX11_choose 17 = .ok (.iconst 0, 1) := by decide +kernel
theorem dX11_choose_18 : decode cX11_choose 18 = .ok (.invokevirtual 334, 3) := by decide +kernel
theorem dX11_choose_21 : decode cX11_choose 21 = .ok (.goto 4, 3) := by decide +kernel
theorem dX11_choose_24 : decode cX11_choose 24 = .ok (.iconst (-1), 1) := by decide +kernel
theorem dX11_choose_25 : decode cX11_choose 25 = .ok (.istore 5, 2) := by decide +kernel
theorem dX11_choose_27 : decode cX11_choose 27 = .ok (.iload 5, 2) := by decide +kernel
theorem dX11_choose_29 : decode cX11_choose 29 = .ok (.ifCond .ge 20, 3) := by decide +kernel
theorem dX11_choose_32 : decode cX11_choose 32 = .ok (.iload 4, 2) := by decide +kernel
theorem dX11_choose_34 : decode cX11_choose 34 = .ok (.iconst 1, 1) := by decide +kernel
theorem dX11_choose_35 : decode cX11_choose 35 = .ok (.if_icmp .gt 14, 3) := by decide +kernel
theorem dX11_choose_38 : decode cX11_choose 38 = .ok (.aload_n 0, 1) := by decide +kernel
theorem dX11_choose_39 : decode cX11_choose 39 = .ok (.iload_n 1, 1) := by decide +kernel
theorem dX11_choose_40 : decode cX11_choose 40 = .ok (.iload_n 2, 1) := by decide +kernel
theorem dX11_choose_41 : decode cX11_choose 41 = .ok (.iload_n 3, 1) := by decide +kernel
theorem dX11_choose_42 : decode cX11_choose 42 = .ok (.iconst 1, 1) := by decide +kernel
theorem dX11_choose_43 : decode cX11_choose 43 = .ok (.invokevirtual 334, 3) := by decide +kernel
theorem dX11_choose_46 : decode cX11_choose 46 = .ok (.goto 5, 3) := by decide +kernel
theorem dX11_choose_49 : decode cX11_choose 49 = .ok (.iload 5, 2) := by decide +kernel
theorem dX11_choose_51 : decode cX11_choose 51 = .ok (.istore 5, 2) := by decide +kernel
theorem dX11_choose_53 : decode cX11_choose 53 = .ok (.iload 5, 2) := by decide +kernel
theorem dX11_choose_55 : decode cX11_choose 55 = .ok (.ifCond .ge 20, 3) := by decide +kernel
theorem dX11_choose_58 : decode cX11_choose 58 = .ok (.iload 4, 2) := by decide +kernel
theorem dX11_choose_60 : decode cX11_choose 60 = .ok (.iconst 5, 1) := by decide +kernel
theorem dX11_choose_61 : decode cX11_choose 61 = .ok (.if_icmp .ne 14, 3) := by decide +kernel
theorem dX11_choose_64 : decode cX11_choose 64 = .ok (.aload_n 0, 1) := by decide +kernel
theorem dX11_choose_65 : decode cX11_choose 65 = .ok (.iload_n 1, 1) := by decide +kernel
theorem dX11_choose_66 : decode cX11_choose 66 = .ok (.iload_n 2, 1) := by decide +kernel
theorem dX11_choose_67 : decode cX11_choose 67 = .ok (.iload_n 3, 1) := by decide +kernel
theorem dX11_choose_68 : decode cX11_choose 68 = .ok (.iconst 5, 1) := by decide +kernel
theorem dX11_choose_69 : decode cX11_choose 69 = .ok (.invokevirtual 334, 3) := by decide +kernel
theorem dX11_choose_72 : decode cX11_choose 72 = .ok (.goto 5, 3) := by decide +kernel
theorem dX11_choose_75 : decode cX11_choose 75 = .ok (.iload 5, 2) := by decide +kernel
theorem dX11_choose_77 : decode cX11_choose 77 = .ok (.istore 5, 2) := by decide +kernel
theorem dX11_choose_79 : decode cX11_choose 79 = .ok (.iload 5, 2) := by decide +kernel
theorem dX11_choose_81 : decode cX11_choose 81 = .ok (.ifCond .ge 20, 3) := by decide +kernel
theorem dX11_choose_84 : decode cX11_choose 84 = .ok (.iload 4, 2) := by decide +kernel
theorem dX11_choose_86 : decode cX11_choose 86 = .ok (.iconst 2, 1) := by decide +kernel
theorem dX11_choose_87 : decode cX11_choose 87 = .ok (.if_icmp .ne 14, 3) := by decide +kernel
theorem dX11_choose_90 : decode cX11_choose 90 = .ok (.aload_n 0, 1) := by decide +kernel
theorem dX11_choose_91 : decode cX11_choose 91 = .ok (.iload_n 1, 1) := by decide +kernel
theorem dX11_choose_92 : decode cX11_choose 92 = .ok (.iload_n 2, 1) := by decide +kernel
theorem dX11_choose_93 : decode cX11_choose 93 = .ok (.iload_n 3, 1) := by decide +kernel
theorem dX11_choose_94 : decode cX11_choose 94 = .ok (.iconst 2, 1) := by decide +kernel
theorem dX11_choose_95 : decode cX11_choose 95 = .ok (.invokevirtual 334, 3) := by decide +kernel
theorem dX11_choose_98 : decode cX11_choose 98 = .ok (.goto 5, 3) := by decide +kernel
theorem dX11_choose_101 : decode cX11_choose 101 = .ok (.iload 5, 2) := by decide +kernel
theorem dX11_choose_103 : decode cX11_choose 103 = .ok (.istore 5, 2) := by decide +kernel
theorem dX11_choose_105 : decode cX11_choose 105 = .ok (.iload 5, 2) := by decide +kernel
theorem dX11_choose_107 : decode cX11_choose 107 = .ok (.ifCond .ge 20, 3) := by decide +kernel
theorem dX11_choose_110 : decode cX11_choose 110 = .ok (.iload 4, 2) := by decide +kernel
theorem dX11_choose_112 : decode cX11_choose 112 = .ok (.iconst 3, 1) := by decide +kernel
theorem dX11_choose_113 : decode cX11_choose 113 = .ok (.if_icmp .ne 14, 3) := by decide +kernel
theorem dX11_choose_116 : decode cX11_choose 116 = .ok (.aload_n 0, 1) := by decide +kernel
theorem dX11_choose_117 : decode cX11_choose 117 = .ok (.iload_n 1, 1) := by decide +kernel
theorem dX11_choose_118 : decode cX11_choose 118 = .ok (.iload_n 2, 1) := by decide +kernel
theorem dX11_choose_119 : decode cX11_choose 119 = .ok (.iload_n 3, 1) := by decide +kernel
theorem dX11_choose_120 : decode cX11_choose 120 = .ok (.iconst 3, 1) := by decide +kernel
theorem dX11_choose_121 : decode cX11_choose 121 = .ok (.invokevirtual 334, 3) := by decide +kernel
theorem dX11_choose_124 : decode cX11_choose 124 = .ok (.goto 5, 3) := by decide +kernel
theorem dX11_choose_127 : decode cX11_choose 127 = .ok (.iload 5, 2) := by decide +kernel
theorem dX11_choose_129 : decode cX11_choose 129 = .ok (.istore 5, 2) := by decide +kernel
theorem dX11_choose_131 : decode cX11_choose 131 = .ok (.iload 5, 2) := by decide +kernel
theorem dX11_choose_133 : decode cX11_choose 133 = .ok (.ifCond .ge 14, 3) := by decide +kernel
theorem dX11_choose_136 : decode cX11_choose 136 = .ok (.aload_n 0, 1) := by decide +kernel
theorem dX11_choose_137 : decode cX11_choose 137 = .ok (.iload_n 1, 1) := by decide +kernel
theorem dX11_choose_138 : decode cX11_choose 138 = .ok (.iload_n 2, 1) := by decide +kernel
theorem dX11_choose_139 : decode cX11_choose 139 = .ok (.iload_n 3, 1) := by decide +kernel
theorem dX11_choose_140 : decode cX11_choose 140 = .ok (.iconst 4, 1) := by decide +kernel
theorem dX11_choose_141 : decode cX11_choose 141 = .ok (.invokevirtual 334, 3) := by decide +kernel
theorem dX11_choose_144 : decode cX11_choose 144 = .ok (.goto 5, 3) := by decide +kernel
theorem dX11_choose_147 : decode cX11_choose 147 = .ok (.iload 5, 2) := by decide +kernel
theorem dX11_choose_149 : decode cX11_choose 149 = .ok (.istore 5, 2) := by decide +kernel
theorem dX11_choose_151 : decode cX11_choose 151 = .ok (.iload 5, 2) := by decide +kernel
theorem dX11_choose_153 : decode cX11_choose 153 = .ok (.ifCond .ge 14, 3) := by decide +kernel
theorem dX11_choose_156 : decode cX11_choose 156 = .ok (.aload_n 0, 1) := by decide +kernel
theorem dX11_choose_157 : decode cX11_choose 157 = .ok (.iload_n 1, 1) := by decide +kernel
theorem dX11_choose_158 : decode cX11_choose 158 = .ok (.iload_n 2, 1) := by decide +kernel
theorem dX11_choose_159 : decode cX11_choose 159 = .ok (.iload_n 3, 1) := by decide +kernel
theorem dX11_choose_160 : decode cX11_choose 160 = .ok (.iconst 3, 1) := by decide +kernel
theorem dX11_choose_161 : decode cX11_choose 161 = .ok (.invokevirtual 334, 3) := by decide +kernel
theorem dX11_choose_164 : decode cX11_choose 164 = .ok (.goto 5, 3) := by decide +kernel
theorem dX11_choose_167 : decode cX11_choose 167 = .ok (.iload 5, 2) := by decide +kernel
theorem dX11_choose_169 : decode cX11_choose 169 = .ok (.istore 5, 2) := by decide +kernel
