theorem dX10_init_28 : decode cX10_init 28 = .ok (.aload_n 0, 1) := by decide +kernel
theorem dX10_init_29 : decode cX10_init 29 = .ok (.bipush 6, 2) := by decide +kernel
theorem dX10_init_31 : decode cX10_init 31 = .ok (.anewarray 25, 3) := by decide +kernel
theorem dX10_init_34 : decode cX10_init 34 = .ok (.putfield 27, 3) := by decide +kernel
theorem dX10_init_37 : decode cX10_init 37 = .ok (.aload_n 0, 1) := by decide +kernel
theorem dX10_init_38 : decode cX10_init 38 = .ok (.invokestatic 31, 3) := by decide +kernel
theorem dX10_init_41 : decode cX10_init 41 = .ok (.putfield 35, 3) := by decide +kernel
theorem dX10_init_44 : decode cX10_init 44 = .ok (.aload_n 0, 1) := by decide +kernel
theorem dX10_init_45 : decode cX10_init 45 = .ok (.new 39, 3) := by decide +kernel
theorem dX10_init_48 : decode cX10_init 48 = .ok (.dup, 1) := by decide +kernel
theorem dX10_init_49 : decode cX10_init 49 = .ok (.invokespecial 41, 3) := by decide +kernel
theorem dX10_init_52 : decode cX10_init 52 = .ok (.putfield 42, 3) := by decide +kernel
theorem dX10_init_55 : decode cX10_init 55 = .ok (.aload_n 0, 1) := by decide +kernel
theorem dX10_init_56 : decode cX10_init 56 = .ok (.invokestatic 31, 3) := by decide +kernel
theorem dX10_init_59 : decode cX10_init 59 = .ok (.putfield 46, 3) := by decide +kernel
theorem dX10_init_62 : decode cX10_init 62 = .ok (.aload_n 0, 1) := by decide +kernel
theorem dX10_init_63 : decode cX10_init 63 = .ok (.invokestatic 31, 3) := by decide +kernel
theorem dX10_init_66 : decode cX10_init 66 = .ok (.putfield 49, 3) := by decide +kernel
theorem dX10_init_69 : decode cX10_init 69 = .ok (.aload_n 0, 1) := by decide +kernel
theorem dX10_init_70 : decode cX10_init 70 = .ok (.iconst 0, 1) := by decide +kernel
theorem dX10_init_71 : decode cX10_init 71 = .ok (.putfield 52, 3) := by decide +kernel
theorem dX10_init_74 : decode cX10_init 74 = .ok (.aload_n 0, 1) := by decide +kernel
theorem dX10_init_75 : decode cX10_init 75 = .ok (.iconst (-1), 1) := by decide +kernel
theorem dX10_init_76 : decode cX10_init 76 = .ok (.putfield 56, 3) := by decide +kernel
theorem dX10_init_79 : decode cX10_init 79 = .ok (.iconst 0, 1) := by decide +kernel
theorem dX10_init_80 : decode cX10_init 80 = .ok (.istore_n 1, 1) := by decide +kernel
theorem dX10_init_81 : decode cX10_init 81 = .ok (.iload_n 1, 1) := by decide +kernel
theorem dX10_init_82 : decode cX10_init 82 = .ok (.aload_n 0, 1) := by decide +kernel
theorem dX10_init_83 : decode cX10_init 83 = .ok (.getfield 27, 3) := by decide +kernel
theorem dX10_init_86 : decode cX10_init 86 = .ok (.arraylength, 1) := by decide +kernel
theorem dX10_init_87 : decode cX10_init 87 = .ok (.if_icmp .ge 22, 3) := by decide +kernel
theorem dX10_init_90 : decode cX10_init 90 = .ok (.aload_n 0, 1) := by decide +kernel
theorem dX10_init_91 : decode cX10_init 91 = .ok (.getfield 27, 3) := by decide +kernel
theorem dX10_init_94 : decode cX10_init 94 = .ok (.iload_n 1, 1) := by decide +kernel
theorem dX10_init_95 : decode cX10_init 95 = .ok (.new 25, 3) := by decide +kernel
theorem dX10_init_98 : decode cX10_init 98 = .ok (.dup, 1) := by decide +kernel
theorem dX10_init_99 : decode cX10_init 99 = .ok (.invokespecial 59, 3) := by decide +kernel
theorem dX10_init_102 : decode cX10_init 102 = .ok (.aastore, 1) := by decide +kernel
theorem dX10_init_103 : decode cX10_init 103 = .ok (.iinc 1 1, 3) := by decide +kernel
theorem dX10_init_106 : decode cX10_init 106 = .ok (.goto (-25), 3) := by decide +kernel
theorem dX10_init_109 : decode cX10_init 109 = .ok (.return_, 1) := by decide +kernel
set_option maxRecDepth 20000 in
theorem ggX10_type_X7_signsIn : GoodIn wsX10_type wsX7_signsIn := goodIn_r _ [8] (by decide +kernel) (by decide +kernel)
set_option maxRecDepth 20000 in
theorem gX10_type_X7_signsIn : GoodIn wsX10_type (va_wsS RX10 60 yX7_signsIn wsX7_signsIn) := goodIn_app (goodIn_of _ (by decide +kernel)) ggX10_type_X7_signsIn
set_option maxRecDepth 20000 in
theorem ggX10_type_X7_appendSigns : GoodIn wsX10_type wsX7_appendSigns := goodIn_r _ [12, 13, 14, 15, 7, 16, 17, 18, 28, 29] (by decide +kernel) (by decide +kernel)
set_option maxRecDepth 20000 in
theorem gX10_type_X7_appendSigns : GoodIn wsX10_type (wsV RX10 74 RX7 yX7_appendSigns wsX7_appendSigns) := goodIn_app (goodIn_of _ (by decide +kernel)) ggX10_type_X7_appendSigns
theorem dX10_type_0 : decode cX10_type 0 = .ok (.iload_n 1, 1) := by decide +kernel
theorem dX10_type_1 : decode cX10_type 1 = .ok (.invokestatic 60, 3) := by decide +kernel
theorem dX10_type_4 : decode cX10_type 4 = .ok (.iload_n 2, 1) := by decide +kernel
theorem dX10_type_5 : decode cX10_type 5 = .ok (.invokestatic 60, 3) := by decide +kernel
theorem dX10_type_8 : decode cX10_type 8 = .ok (.iadd, 1) := by decide +kernel
theorem dX10_type_9 : decode cX10_type 9 = .ok (.iload_n 3, 1) := by decide +kernel
theorem dX10_type_10 : decode cX10_type 10 = .ok (.invokestatic 60, 3) := by decide +kernel
theorem dX10_type_13 : decode cX10_type 13 = .ok (.iadd, 1) := by decide +kernel
theorem dX10_type_14 : decode cX10_type 14 = .ok (.iload 4, 2) := by decide +kernel
theorem dX10_type_16 : decode cX10_type 16 = .ok (.invokestatic 60, 3) := by decide +kernel
theorem dX10_type_19 : decode cX10_type 19 = .ok (.iadd, 1) := by decide +kernel
theorem dX10_type_20 : decode cX10_type 20 = .ok (.iload 5, 2) := by decide +kernel
theorem dX10_type_22 : decode cX10_type 22 = .ok (.invokestatic 60, 3) := by decide +kernel
theorem dX10_type_25 : decode cX10_type 25 = .ok (.iadd, 1) := by decide +kernel
theorem dX10_type_26 : decode cX10_type 26 = .ok (.istore 6, 2) := by decide +kernel
theorem dX10_type_28 : decode cX10_type 28 = .ok (.aload_n 0, 1) := by decide +kernel
theorem dX10_type_29 : decode cX10_type 29 = .ok (.getfield 14, 3) := by decide +kernel
theorem dX10_type_32 : decode cX10_type 32 = .ok (.getfield 64, 3) := by decide +kernel
theorem dX10_type_35 : decode cX10_type 35 = .ok (.iload 6, 2) := by decide +kernel
theorem dX10_type_37 : decode cX10_type 37 = .ok (.iadd, 1) := by decide +kernel
theorem dX10_type_38 : decode cX10_type 38 = .ok (.bipush 100, 2) := by decide +kernel
theorem dX10_type_40 : decode cX10_type 40 = .ok (.if_icmp .le 13, 3) := by decide +kernel
theorem dX10_type_43 : decode cX10_type 43 = .ok (.new 67, 3) := by decide +kernel
theorem dX10_type_46 : decode cX10_type 46 = .ok (.dup, 1) := by decide +kernel
theorem dX10_type_47 : decode cX10_type 47 = .ok (.ldc 69, 2) := by decide +kernel
theorem dX10_type_49 : decode cX10_type 49 = .ok (.invokespecial 71, 3) := by decide +kernel
theorem dX10_type_52 : decode cX10_type 52 = .ok (.athrow, 1) := by decide +kernel
theorem dX10_type_53 : decode cX10_type 53 = .ok (.aload_n 0, 1) := by decide +kernel
theorem dX10_type_54 : decode cX10_type 54 = .ok (.getfield 14, 3) := by decide +kernel
theorem dX10_type_57 : decode cX10_type 57 = .ok (.iload_n 1, 1) := by decide +kernel
theorem dX10_type_58 : decode cX10_type 58 = .ok (.invokevirtual 74, 3) := by decide +kernel
theorem dX10_type_61 : decode cX10_type 61 = .ok (.aload_n 0, 1) := by decide +kernel
theorem dX10_type_62 : decode cX10_type 62 = .ok (.getfield 14, 3) := by decide +kernel
theorem dX10_type_65 : decode cX10_type 65 = .ok (.iload_n 2, 1) := by decide +kernel
theorem dX10_type_66 : decode cX10_type 66 = .ok (.invokevirtual 74, 3) := by decide +kernel
theorem dX10_type_69 : decode cX10_type 69 = .ok (.aload_n 0, 1) := by decide +kernel
theorem dX10_type_70 : decode cX10_type 70 = .ok (.getfield 14, 3) := by decide +kernel
theorem dX10_type_73 : decode cX10_type 73 = .ok (.iload_n 3, 1) := by decide +kernel
theorem dX10_type_74 : decode cX10_type 74 = .ok (.invokevirtual 74, 3) := by decide +kernel
theorem dX10_type_77 : decode cX10_type 77 = .ok (.aload_n 0, 1) := by decide +kernel
theorem dX10_type_78 : decode cX10_type 78 = .ok (.getfield 14, 3) := by decide +kernel
theorem dX10_type_81 : decode cX10_type 81 = .ok (.iload 4, 2) := by decide +kernel
theorem dX10_type_83 : decode cX10_type 83 = .ok (.invokevirtual 74, 3) := by decide +kernel
theorem dX10_type_86 : decode cX10_type 86 = .ok (.aload_n 0, 1) := by decide +kernel
theorem dX10_type_87 : decode cX10_type 87 = .ok (.getfield 14, 3) := by decide +kernel
theorem dX10_type_90 : decode cX10_type 90 = .ok (.iload 5, 2) := by decide +kernel
theorem dX10_type_92 : decode cX10_type 92 = .ok (.invokevirtual 74, 3) := by decide +kernel
theorem dX10_type_95 : decode cX10_type 95 = .ok (.aload_n 0, 1) := by decide +kernel
theorem dX10_type_96 : decode cX10_type 96 = .ok (.getfield 14, 3) := by decide +kernel
theorem dX10_type_99 : decode cX10_type 99 = .ok (.getfield 64, 3) := by decide +kernel
theorem dX10_type_102 : decode cX10_type 102 = .ok (.ireturn, 1) := by decide +kernel
theorem dX10_erase_0 : decode cX10_erase 0 = .ok (.aload_n 0, 1) := by decide +kernel
theorem dX10_erase_1 : decode cX10_erase 1 = .ok (.getfield 14, 3) := by decide +kernel
theorem dX10_erase_4 : decode cX10_erase 4 = .ok (.getfield 64, 3) := by decide +kernel
theorem dX10_erase_7 : decode cX10_erase 7 = .ok (.istore_n 1, 1) := by decide +kernel
theorem dX10_erase_8 : decode cX10_erase 8 = .ok (.aload_n 0, 1) := by decide +kernel
theorem dX10_erase_9 : decode cX10_erase 9 = .ok (.getfield 14, 3) := by decide +kernel
theorem dX10_erase_12 : decode cX10_erase 12 = .ok (.iconst 0, 1) := by decide +kernel
theorem dX10_erase_13 : decode cX10_erase 13 = .ok (.putfield 64, 3) := by decide +kernel
theorem dX10_erase_16 : decode cX10_erase 16 = .ok (.iload_n 1, 1) := by decide +kernel
theorem dX10_erase_17 : decode cX10_erase 17 = .ok (.ireturn, 1) := by decide +kernel
set_option maxRecDepth 20000 in
theorem ggX10_define_X6_readForm : GoodIn wsX10_define wsX6_readForm := goodIn_r _ [10, 11, 12, 13, 14, 15, 16, 17, 18, 19, 9, 20, 21, 22, 23, 24, 25, 26, 27, 28, 29, 30, 31, 32, 33, 34, 35, 36, 37, 38, 39, 40, 41, 42, 43, 44, 45, 46, 47, 48, 49, 50, 51, 52, 53, 54, 55, 56, 57, 58, 59, 60, 61, 62, 63, 64, 65, 66, 67, 68, 69, 70, 71, 72, 73, 74, 75, 76, 77, 78, 79, 80, 81, 82, 83, 84, 85, 86, 87, 88, 89, 90, 91, 92, 93, 94, 95, 96, 97, 98, 99, 100, 101, 102, 103, 104, 105, 106, 107, 108, 109, 110, 111, 112, 113, 114, 115, 116, 117, 118, 119, 120, 121, 122, 123, 124, 125, 126, 127, 128, 129, 130, 131, 132, 133, 134, 135, 136, 137, 138, 139, 140, 141, 142, 143, 144, 145, 146, 147, 148, 149, 150, 151, 152, 153, 154, 155, 156, 157, 158, 159, 160, 161, 162, 163, 164, 165, 166, 167, 168, 169, 170, 171, 172, 173, 174, 175, 176, 177, 178, 179, 180, 181, 182, 183, 184, 185, 186, 187, 188, 189, 190, 191, 192, 193, 194, 304, 305, 306, 307, 308, 309, 310, 311, 312, 313, 314, 315, 316, 317, 318, 319, 320, 321, 322, 323, 324, 325] (by decide +kernel) (by decide +kernel)
set_option maxRecDepth 20000 in
theorem gX10_define_X6_readForm : GoodIn wsX10_define (wsV RX10 77 RX6 yX6_readForm wsX6_readForm) := goodIn_app (goodIn_of _ (by decide +kernel)) ggX10_define_X6_readForm
set_option maxRecDepth 20000 in
theorem ggX10_define_X10_operationAt : GoodIn wsX10_define wsX10_operationAt := goodIn_r _ [199, 200, 295, 296, 297, 298, 299, 300, 301, 302, 303] (by decide +kernel) (by decide +kernel)
set_option maxRecDepth 20000 in
theorem gX10_define_X10_operationAt : GoodIn wsX10_define (wsV RX10 86 RX10 yX10_operationAt wsX10_operationAt) := goodIn_app (goodIn_of _ (by decide +kernel)) ggX10_define_X10_operationAt
set_option maxRecDepth 20000 in
theorem ggX10_define_X5_clashOf : GoodIn wsX10_define wsX5_clashOf := goodIn_r _ [205, 206, 207, 208, 209, 13, 210, 211, 212, 213, 214, 54, 215, 216, 217, 218, 55, 219, 220, 221, 222, 53, 223, 192, 193, 71, 194, 184, 185, 224, 225, 226, 227, 228, 229, 230, 204, 231, 232, 233, 234, 235, 236, 237, 238, 239, 240, 241, 242, 243, 244, 245, 246, 247, 248, 249, 250, 251, 252, 253, 254, 255, 256, 257, 258, 259, 260, 261, 262, 263, 264, 265, 266, 267, 146, 268, 174, 269, 176, 270, 271, 272, 273, 274, 275, 276, 277, 183, 278, 279, 280, 281, 178, 282, 283, 284, 285, 175, 286, 287, 288, 289, 177, 326, 327, 328, 329, 304, 305, 306, 307, 308, 316, 317, 318, 321, 322, 323, 324, 325] (by decide +kernel) (by decide +kernel)
set_option maxRecDepth 20000 in
theorem gX10_define_X5_clashOf : GoodIn wsX10_define (wsV RX10 93 RX5 yX5_clashOf wsX5_clashOf) := goodIn_app (goodIn_of _ (by decide +kernel)) ggX10_define_X5_clashOf
set_option maxRecDepth 20000 in
theorem ggX10_define_X5_append : GoodIn wsX10_define wsX5_append := goodIn_r _ [293, 232, 237, 294, 326, 327, 328, 329, 304, 305, 306, 307, 308] (by decide +kernel) (by decide +kernel)
set_option maxRecDepth 20000 in
theorem gX10_define_X5_append : GoodIn wsX10_define (wsV RX10 97 RX5 yX5_append wsX5_append) := goodIn_app (goodIn_of _ (by decide +kernel)) ggX10_define_X5_append
theorem dX10_define_0 : decode cX10_define 0 = .ok (.aload_n 0, 1) := by decide +kernel
theorem dX10_define_1 : decode cX10_define 1 = .ok (.getfield 21, 3) := by decide +kernel
theorem dX10_define_4 : decode cX10_define 4 = .ok (.aload_n 0, 1) := by decide +kernel
theorem dX10_define_5 : decode cX10_define 5 = .ok (.getfield 14, 3) := by decide +kernel
theorem dX10_define_8 : decode cX10_define 8 = .ok (.invokevirtual 77, 3) := by decide +kernel
theorem dX10_define_11 : decode cX10_define 11 = .ok (.astore_n 1, 1) := by decide +kernel
theorem dX10_define_12 : decode cX10_define 12 = .ok (.aload_n 1, 1) := by decide +kernel
theorem dX10_define_13 : decode cX10_define 13 = .ok (.ifnonnull 7, 3) := by decide +kernel
theorem dX10_define_16 : decode cX10_define 16 = .ok (.aconst_null, 1) := by decide +kernel
theorem dX10_define_17 : decode cX10_define 17 = .ok (.goto 11, 3) := by decide +kernel
theorem dX10_define_20 : decode cX10_define 20 = .ok (.aload_n 0, 1) := by decide +kernel
theorem dX10_define_21 : decode cX10_define 21 = .ok (.aload_n 1, 1) := by decide +kernel
theorem dX10_define_22 : decode cX10_define 22 = .ok (.getfield 81, 3) := by decide +kernel
theorem dX10_define_25 : decode cX10_define 25 = .ok (.invokevirtual 86, 3) := by decide +kernel
theorem dX10_define_28 : decode cX10_define 28 = .ok (.astore_n 2, 1) := by decide +kernel
theorem dX10_define_29 : decode cX10_define 29 = .ok (.aload_n 2, 1) := by decide +kernel
theorem dX10_define_30 : decode cX10_define 30 = .ok (.ifnonnull 17, 3) := by decide +kernel
theorem dX10_define_33 : decode cX10_define 33 = .ok (.aload_n 0, 1) := by decide +kernel
theorem dX10_define_34 : decode cX10_define 34 = .ok (.aload_n 0, 1) := by decide +kernel
theorem dX10_define_35 : decode cX10_define 35 = .ok (.getfield 21, 3) := by decide +kernel
theorem dX10_define_38 : decode cX10_define 38 = .ok (.getfield 90, 3) := by decide +kernel
theorem dX10_define_41 : decode cX10_define 41 = .ok (.putfield 56, 3) := by decide +kernel
theorem dX10_define_44 : decode cX10_define 44 = .ok (.bipush (-2), 2) := by decide +kernel
theorem dX10_define_46 : decode cX10_define 46 = .ok (.ireturn, 1) := by decide +kernel
theorem dX10_define_47 : decode cX10_define 47 = .ok (.aload_n 0, 1) := by decide +kernel
theorem dX10_define_48 : decode cX10_define 48 = .ok (.aload_n 2, 1) := by decide +kernel
theorem dX10_define_49 : decode cX10_define 49 = .ok (.aload_n 1, 1) := by decide +kernel
theorem dX10_define_50 : decode cX10_define 50 = .ok (.invokevirtual 93, 3) := by decide +kernel
theorem dX10_define_53 : decode cX10_define 53 = .ok (.putfield 56, 3) := by decide +kernel
theorem dX10_define_56 : decode cX10_define 56 = .ok (.aload_n 0, 1) := by decide +kernel
theorem dX10_define_57 : decode cX10_define 57 = .ok (.getfield 56, 3) := by decide +kernel
theorem dX10_define_60 : decode cX10_define 60 = .ok (.iconst (-1), 1) := by decide +kernel
theorem dX10_define_61 : decode cX10_define 61 = .ok (.if_icmp .eq 6, 3) := by decide +kernel
theorem dX10_define_64 : decode cX10_define 64 = .ok (.bipush (-3), 2) := by decide +kernel
theorem dX10_define_66 : decode cX10_define 66 = .ok (.ireturn, 1) := by decide +kernel
theorem dX10_define_67 : decode cX10_define 67 = .ok (.aload_n 2, 1) := by decide +kernel
theorem dX10_define_68 : decode cX10_define 68 = .ok (.aload_n 1, 1) := by decide +kernel
theorem dX10_define_69 : decode cX10_define 69 = .ok (.invokevirtual 97, 3) := by decide +kernel
theorem dX10_define_72 : decode cX10_define 72 = .ok (.ireturn, 1) := by decide +kernel
set_option maxRecDepth 20000 in
theorem ggX10_drop_X10_operationAt : GoodIn wsX10_drop wsX10_operationAt := goodIn_r _ [8, 9, 20, 21, 22, 23, 24, 25, 26, 27, 28] (by decide +kernel) (by decide +kernel)
set_option maxRecDepth 20000 in
theorem gX10_drop_X10_operationAt : GoodIn wsX10_drop (wsV RX10 86 RX10 yX10_operationAt wsX10_operationAt) := goodIn_app (goodIn_of _ (by decide +kernel)) ggX10_drop_X10_operationAt
set_option maxRecDepth 20000 in
theorem ggX10_drop_X5_clear : GoodIn wsX10_drop wsX5_clear := goodIn_r _ [14, 15, 16, 17, 18, 19] (by decide +kernel) (by decide +kernel)
set_option maxRecDepth 20000 in
theorem gX10_drop_X5_clear : GoodIn wsX10_drop (wsV RX10 108 RX5 yX5_clear wsX5_clear) := goodIn_app (goodIn_of _ (by decide +kernel)) ggX10_drop_X5_clear
theorem dX10_drop_0 : decode cX10_drop 0 = .ok (.aload_n 0, 1) := by decide +kernel
theorem dX10_drop_1 : decode cX10_drop 1 = .ok (.iload_n 1, 1) := by decide +kernel
theorem dX10_drop_2 : decode cX10_drop 2 = .ok (.invokevirtual 86, 3) := by decide +kernel
theorem dX10_drop_5 : decode cX10_drop 5 = .ok (.astore_n 2, 1) := by decide +kernel
theorem dX10_drop_6 : decode cX10_drop 6 = .ok (.aload_n 2, 1) := by decide +kernel
theorem dX10_drop_7 : decode cX10_drop 7 = .ok (.ifnonnull 13, 3) := by decide +kernel
theorem dX10_drop_10 : decode cX10_drop 10 = .ok (.new 100, 3) := by decide +kernel
theorem dX10_drop_13 : decode cX10_drop 13 = .ok (.dup, 1) := by decide +kernel
theorem dX10_drop_14 : decode cX10_drop 14 = .ok (.ldc 102, 2) := by decide +kernel
theorem dX10_drop_16 : decode cX10_drop 16 = .ok (.invokespecial 104, 3) := by decide +kernel
theorem dX10_drop_19 : decode cX10_drop 19 = .ok (.athrow, 1) := by decide +kernel
theorem dX10_drop_20 : decode cX10_drop 20 = .ok (.aload_n 2, 1) := by decide +kernel
theorem dX10_drop_21 : decode cX10_drop 21 = .ok (.getfield 105, 3) := by decide +kernel
theorem dX10_drop_24 : decode cX10_drop 24 = .ok (.istore_n 3, 1) := by decide +kernel
theorem dX10_drop_25 : decode cX10_drop 25 = .ok (.aload_n 2, 1) := by decide +kernel
theorem dX10_drop_26 : decode cX10_drop 26 = .ok (.invokevirtual 108, 3) := by decide +kernel
theorem dX10_drop_29 : decode cX10_drop 29 = .ok (.iload_n 3, 1) := by decide +kernel
theorem dX10_drop_30 : decode cX10_drop 30 = .ok (.ireturn, 1) := by decide +kernel
theorem dX10_place_0 : decode cX10_place 0 = .ok (.aload_n 0, 1) := by decide +kernel
theorem dX10_place_1 : decode cX10_place 1 = .ok (.getfield 56, 3) := by decide +kernel
theorem dX10_place_4 : decode cX10_place 4 = .ok (.ireturn, 1) := by decide +kernel
set_option maxRecDepth 20000 in
theorem ggX10_simple_X10_thingAt : GoodIn wsX10_simple wsX10_thingAt := goodIn_r _ [8] (by decide +kernel) (by decide +kernel)
set_option maxRecDepth 20000 in
theorem gX10_simple_X10_thingAt : GoodIn wsX10_simple (va_wsS RX10 111 yX10_thingAt wsX10_thingAt) := goodIn_app (goodIn_of _ (by decide +kernel)) ggX10_simple_X10_thingAt
set_option maxRecDepth 20000 in
theorem ggX10_simple_X8_becomeNamed : GoodIn wsX10_simple wsX8_becomeNamed := goodIn_r _ [13, 14, 15, 16, 17, 12, 18, 19, 20, 21, 22, 23, 24, 25, 26, 27, 28, 29, 30, 31, 32, 33, 34, 35, 36, 37, 38, 39, 40, 41, 42, 43, 44, 45, 46, 47, 48, 49, 50, 51, 52, 53, 54, 55, 56, 57, 58, 59, 60, 61, 62, 63, 64, 65, 66, 67, 68, 69, 70, 71, 72, 73, 74, 75, 76, 77, 78, 79, 80, 81, 82, 83, 84, 138, 139, 140, 141, 142, 143, 144, 145, 146] (by decide +kernel) (by decide +kernel)
set_option maxRecDepth 20000 in
theorem gX10_simple_X8_becomeNamed : GoodIn wsX10_simple (wsV RX10 119 RX8 yX8_becomeNamed wsX8_becomeNamed) := goodIn_app (goodIn_of _ (by decide +kernel)) ggX10_simple_X8_becomeNamed
set_option maxRecDepth 20000 in
theorem ggX10_simple_X8_knowNumber : GoodIn wsX10_simple wsX8_knowNumber := goodIn_r _ [88, 22, 21, 138, 139, 140, 141, 142, 143, 144] (by decide +kernel) (by decide +kernel)
set_option maxRecDepth 20000 in
theorem gX10_simple_X8_knowNumber : GoodIn wsX10_simple (wsV RX10 127 RX8 yX8_knowNumber wsX8_knowNumber) := goodIn_app (goodIn_of _ (by decide +kernel)) ggX10_simple_X8_knowNumber
set_option maxRecDepth 20000 in
theorem ggX10_simple_X8_becomeWhole : GoodIn wsX10_simple wsX8_becomeWhole := goodIn_r _ [92, 20, 15, 16, 17, 12, 18, 19, 21, 22, 23, 14, 24, 138, 139, 140, 141, 142, 143, 144, 145, 146] (by decide +kernel) (by decide +kernel)
set_option maxRecDepth 20000 in
theorem gX10_simple_X8_becomeWhole : GoodIn wsX10_simple (wsV RX10 131 RX8 yX8_becomeWhole wsX8_becomeWhole) := goodIn_app (goodIn_of _ (by decide +kernel)) ggX10_simple_X8_becomeWhole
set_option maxRecDepth 20000 in
theorem ggX10_simple_X7_appendLetters : GoodIn wsX10_simple wsX7_appendLetters := goodIn_r _ [29, 30, 31, 32, 33, 34, 35, 36, 37, 38, 39, 40, 41, 42, 43, 44, 45, 46, 47, 48, 49, 50, 51, 52, 53, 54, 55, 56, 57, 58, 59, 60, 61, 62, 63, 64, 65, 66, 67, 68, 69, 70, 71, 72, 73, 74, 75, 76, 77, 78, 79, 80, 81, 28, 82, 83, 84, 145, 146] (by decide +kernel) (by decide +kernel)
set_option maxRecDepth 20000 in
theorem gX10_simple_X7_appendLetters : GoodIn wsX10_simple (wsV RX10 142 RX7 yX7_appendLetters wsX7_appendLetters) := goodIn_app (goodIn_of _ (by decide +kernel)) ggX10_simple_X7_appendLetters
set_option maxRecDepth 20000 in
theorem ggX10_simple_X8_become : GoodIn wsX10_simple wsX8_become := goodIn_r _ [18, 19, 20, 21, 22, 23, 14, 24, 138, 139, 140, 141, 142, 143, 144, 145, 146] (by decide +kernel) (by decide +kernel)
set_option maxRecDepth 20000 in
theorem gX10_simple_X8_become : GoodIn wsX10_simple (wsV RX10 145 RX8 yX8_become wsX8_become) := goodIn_app (goodIn_of _ (by decide +kernel)) ggX10_simple_X8_become
set_option maxRecDepth 20000 in
theorem ggX10_simple_X10_findNumber : GoodIn wsX10_simple wsX10_findNumber := goodIn_r _ [98, 99, 4, 100, 101, 102, 103, 104, 105, 106, 107, 108, 109, 110, 28, 111, 83, 84, 112, 113, 114, 115, 116, 117, 118, 119, 120, 121, 122, 123, 124, 125, 126, 127, 128, 85, 86, 87, 12, 88, 22, 21, 129, 130, 131, 132, 133, 134, 135, 136, 137, 138, 139, 140, 141, 142, 143, 144, 147, 145, 146] (by decide +kernel) (by decide +kernel)
set_option maxRecDepth 20000 in
theorem gX10_simple_X10_findNumber : GoodIn wsX10_simple (wsV RX10 148 RX10 yX10_findNumber wsX10_findNumber) := goodIn_app (goodIn_of _ (by decide +kernel)) ggX10_simple_X10_findNumber
theorem dX10_simple_0 : decode cX10_simple 0 = .ok (.aload_n 0, 1) := by decide +kernel
theorem dX10_simple_1 : decode cX10_simple 1 = .ok (.getfield 35, 3) := by decide +kernel
theorem dX10_simple_4 : decode cX10_simple 4 = .ok (.iload_n 1, 1) := by decide +kernel
theorem dX10_simple_5 : decode cX10_simple 5 = .ok (.invokestatic 111, 3) := by decide +kernel
theorem dX10_simple_8 : decode cX10_simple 8 = .ok (.astore_n 3, 1) := by decide +kernel
theorem dX10_simple_9 : decode cX10_simple 9 = .ok (.aload_n 3, 1) := by decide +kernel
theorem dX10_simple_10 : decode cX10_simple 10 = .ok (.ifnull 12, 3) := by decide +kernel
theorem dX10_simple_13 : decode cX10_simple 13 = .ok (.iload_n 2, 1) := by decide +kernel
theorem dX10_simple_14 : decode cX10_simple 14 = .ok (.ifCond .lt 8, 3) := by decide +kernel
theorem dX10_simple_17 : decode cX10_simple 17 = .ok (.iload_n 2, 1) := by decide +kernel
theorem dX10_simple_18 : decode cX10_simple 18 = .ok (.iconst 4, 1) := by decide +kernel
theorem dX10_simple_19 : decode cX10_simple 19 = .ok (.if_icmp .le 13, 3) := by decide +kernel
theorem dX10_simple_22 : decode cX10_simple 22 = .ok (.new 100, 3) := by decide +kernel
theorem dX10_simple_25 : decode cX10_simple 25 = .ok (.dup, 1) := by decide +kernel
theorem dX10_simple_26 : decode cX10_simple 26 = .ok (.ldc 115, 2) := by decide +kernel
theorem dX10_simple_28 : decode cX10_simple 28 = .ok (.invokespecial 104, 3) := by decide +kernel
theorem dX10_simple_31 : decode cX10_simple 31 = .ok (.athrow, 1) := by decide +kernel
theorem dX10_simple_32 : decode cX10_simple 32 = .ok (.iload_n 2, 1) := by decide +kernel
theorem dX10_simple_33 : decode cX10_simple 33 = .ok (.ifCond .ne 14, 3) := by decide +kernel
theorem dX10_simple_36 : decode cX10_simple 36 = .ok (.aload_n 3, 1) := by decide +kernel
theorem dX10_simple_37 : decode cX10_simple 37 = .ok (.bipush 7, 2) := by decide +kernel
theorem dX10_simple_39 : decode cX10_simple 39 = .ok (.ldc 117, 2) := by decide +kernel
theorem dX10_simple_41 : decode cX10_simple 41 = .ok (.invokevirtual 119, 3) := by decide +kernel
theorem dX10_simple_44 : decode cX10_simple 44 = .ok (.goto 81, 3) := by decide +kernel
theorem dX10_simple_47 : decode cX10_simple 47 = .ok (.iload_n 2, 1) := by decide +kernel
theorem dX10_simple_48 : decode cX10_simple 48 = .ok (.iconst 1, 1) := by decide +kernel
theorem dX10_simple_49 : decode cX10_simple 49 = .ok (.if_icmp .ne 20, 3) := by decide +kernel
theorem dX10_simple_52 : decode cX10_simple 52 = .ok (.aload_n 3, 1) := by decide +kernel
theorem dX10_simple_53 : decode cX10_simple 53 = .ok (.bipush 8, 2) := by decide +kernel
theorem dX10_simple_55 : decode cX10_simple 55 = .ok (.ldc 125, 2) := by decide +kernel
theorem dX10_simple_57 : decode cX10_simple 57 = .ok (.invokevirtual 119, 3) := by decide +kernel
theorem dX10_simple_60 : decode cX10_simple 60 = .ok (.aload_n 3, 1) := by decide +kernel
theorem dX10_simple_61 : decode cX10_simple 61 = .ok (.iconst 1, 1) := by decide +kernel
theorem dX10_simple_62 : decode cX10_simple 62 = .ok (.dconst 0, 1) := by decide +kernel
theorem dX10_simple_63 : decode cX10_simple 63 = .ok (.invokevirtual 127, 3) := by decide +kernel
theorem dX10_simple_66 : decode cX10_simple 66 = .ok (.goto 59, 3) := by decide +kernel
theorem dX10_simple_69 : decode cX10_simple 69 = .ok (.iload_n 2, 1) := by decide +kernel
theorem dX10_simple_70 : decode cX10_simple 70 = .ok (.iconst 4, 1) := by decide +kernel
theorem dX10_simple_71 : decode cX10_simple 71 = .ok (.if_icmp .ge 43, 3) := by decide +kernel
theorem dX10_simple_74 : decode cX10_simple 74 = .ok (.aload_n 3, 1) := by decide +kernel
theorem dX10_simple_75 : decode cX10_simple 75 = .ok (.iconst 2, 1) := by decide +kernel
theorem dX10_simple_76 : decode cX10_simple 76 = .ok (.iload_n 2, 1) := by decide +kernel
theorem dX10_simple_77 : decode cX10_simple 77 = .ok (.iconst 2, 1) := by decide +kernel
theorem dX10_simple_78 : decode cX10_simple 78 = .ok (.isub, 1) := by decide +kernel
theorem dX10_simple_79 : decode cX10_simple 79 = .ok (.i2l, 1) := by decide +kernel
theorem dX10_simple_80 : decode cX10_simple 80 = .ok (.invokevirtual 131, 3) := by decide +kernel
theorem dX10_simple_83 : decode cX10_simple 83 = .ok (.aload_n 3, 1) := by decide +kernel
theorem dX10_simple_84 : decode cX10_simple 84 = .ok (.getfield 135, 3) := by decide +kernel
theorem dX10_simple_87 : decode cX10_simple 87 = .ok (.iload_n 2, 1) := by decide +kernel
theorem dX10_simple_88 : decode cX10_simple 88 = .ok (.iconst 2, 1) := by decide +kernel
theorem dX10_simple_89 : decode cX10_simple 89 = .ok (.if_icmp .ne 8, 3) := by decide +kernel
theorem dX10_simple_92 : decode cX10_simple 92 = .ok (.ldc 138, 2) := by decide +kernel
theorem dX10_simple_94 : decode cX10_simple 94 = .ok (.goto 5, 3) := by decide +kernel
theorem dX10_simple_97 : decode cX10_simple 97 = .ok (.ldc 140, 2) := by decide +kernel
theorem dX10_simple_99 : decode cX10_simple 99 = .ok (.invokevirtual 142, 3) := by decide +kernel
theorem dX10_simple_102 : decode cX10_simple 102 = .ok (.aload_n 3, 1) := by decide +kernel
theorem dX10_simple_103 : decode cX10_simple 103 = .ok (.iconst 1, 1) := by decide +kernel
theorem dX10_simple_104 : decode cX10_simple 104 = .ok (.iload_n 2, 1) := by decide +kernel
theorem dX10_simple_105 : decode cX10_simple 105 = .ok (.iconst 2, 1) := by decide +kernel
theorem dX10_simple_106 : decode cX10_simple 106 = .ok (.isub, 1) := by decide +kernel
theorem dX10_simple_107 : decode cX10_simple 107 = .ok (.i2d, 1) := by decide +kernel
theorem dX10_simple_108 : decode cX10_simple 108 = .ok (.invokevirtual 127, 3) := by decide +kernel
theorem dX10_simple_111 : decode cX10_simple 111 = .ok (.goto 14, 3) := by decide +kernel
theorem dX10_simple_114 : decode cX10_simple 114 = .ok (.aload_n 3, 1) := by decide +kernel
theorem dX10_simple_115 : decode cX10_simple 115 = .ok (.bipush 6, 2) := by decide +kernel
theorem dX10_simple_117 : decode cX10_simple 117 = .ok (.invokevirtual 145, 3) := by decide +kernel
theorem dX10_simple_120 : decode cX10_simple 120 = .ok (.aload_n 0, 1) := by decide +kernel
theorem dX10_simple_121 : decode cX10_simple 121 = .ok (.aload_n 3, 1) := by decide +kernel
theorem dX10_simple_122 : decode cX10_simple 122 = .ok (.invokevirtual 148, 3) := by decide +kernel
theorem dX10_simple_125 : decode cX10_simple 125 = .ok (.return_, 1) := by decide +kernel
set_option maxRecDepth 20000 in
theorem ggX10_number_X10_thingAt : GoodIn wsX10_number wsX10_thingAt := goodIn_r _ [8] (by decide +kernel) (by decide +kernel)
set_option maxRecDepth 20000 in
theorem gX10_number_X10_thingAt : GoodIn wsX10_number (va_wsS RX10 111 yX10_thingAt wsX10_thingAt) := goodIn_app (goodIn_of _ (by decide +kernel)) ggX10_number_X10_thingAt
set_option maxRecDepth 20000 in
theorem ggX10_number_X10_canBeTold : GoodIn wsX10_number wsX10_canBeTold := goodIn_r _ [11, 12, 13, 14] (by decide +kernel) (by decide +kernel)
set_option maxRecDepth 20000 in
theorem gX10_number_X10_canBeTold : GoodIn wsX10_number (va_wsS RX10 152 yX10_canBeTold wsX10_canBeTold) := goodIn_app (goodIn_of _ (by decide +kernel)) ggX10_number_X10_canBeTold
set_option maxRecDepth 20000 in
theorem ggX10_number_X8_becomeDouble : GoodIn wsX10_number wsX8_becomeDouble := goodIn_r _ [19, 20, 21, 22, 18, 23, 24, 25, 26, 27, 28, 29, 30, 31, 32, 33, 34, 66, 67, 68, 69, 70, 71, 72, 73, 74] (by decide +kernel) (by decide +kernel)
set_option maxRecDepth 20000 in
theorem gX10_number_X8_becomeDouble : GoodIn wsX10_number (wsV RX10 158 RX8 yX8_becomeDouble wsX8_becomeDouble) := goodIn_app (goodIn_of _ (by decide +kernel)) ggX10_number_X8_becomeDouble
set_option maxRecDepth 20000 in
theorem ggX10_number_X7_appendNumber : GoodIn wsX10_number wsX7_appendNumber := goodIn_r _ [39, 40, 41, 42, 43, 44, 45, 46, 47, 48, 38, 49, 50, 51, 52, 53, 54, 55, 56, 73, 74] (by decide +kernel) (by decide +kernel)
set_option maxRecDepth 20000 in
theorem gX10_number_X7_appendNumber : GoodIn wsX10_number (wsV RX10 162 RX7 yX7_appendNumber wsX7_appendNumber) := goodIn_app (goodIn_of _ (by decide +kernel)) ggX10_number_X7_appendNumber
theorem dX10_number_0 : decode cX10_number 0 = .ok (.aload_n 0, 1) := by decide +kernel
theorem dX10_number_1 : decode cX10_number 1 = .ok (.getfield 35, 3) := by decide +kernel
theorem dX10_number_4 : decode cX10_number 4 = .ok (.iload_n 1, 1) := by decide +kernel
theorem dX10_number_5 : decode cX10_number 5 = .ok (.invokestatic 111, 3) := by decide +kernel
theorem dX10_number_8 : decode cX10_number 8 = .ok (.astore 4, 2) := by decide +kernel
theorem dX10_number_10 : decode cX10_number 10 = .ok (.aload 4, 2) := by decide +kernel
theorem dX10_number_12 : decode cX10_number 12 = .ok (.ifnull 10, 3) := by decide +kernel
theorem dX10_number_15 : decode cX10_number 15 = .ok (.dload_n 2, 1) := by decide +kernel
theorem dX10_number_16 : decode cX10_number 16 = .ok (.invokestatic 152, 3) := by decide +kernel
theorem dX10_number_19 : decode cX10_number 19 = .ok (.ifCond .ne 13, 3) := by decide +kernel
theorem dX10_number_22 : decode cX10_number 22 = .ok (.new 100, 3) := by decide +kernel
theorem dX10_number_25 : decode cX10_number 25 = .ok (.dup, 1) := by decide +kernel
theorem dX10_number_26 : decode cX10_number 26 = .ok (.ldc 156, 2) := by decide +kernel
theorem dX10_number_28 : decode cX10_number 28 = .ok (.invokespecial 104, 3) := by decide +kernel
theorem dX10_number_31 : decode cX10_number 31 = .ok (.athrow, 1) := by decide +kernel
theorem dX10_number_32 : decode cX10_number 32 = .ok (.aload 4, 2) := by decide +kernel
theorem dX10_number_34 : decode cX10_number 34 = .ok (.dload_n 2, 1) := by decide +kernel
theorem dX10_number_35 : decode cX10_number 35 = .ok (.invokevirtual 158, 3) := by decide +kernel
theorem dX10_number_38 : decode cX10_number 38 = .ok (.aload 4, 2) := by decide +kernel
theorem dX10_number_40 : decode cX10_number 40 = .ok (.getfield 135, 3) := by decide +kernel
theorem dX10_number_43 : decode cX10_number 43 = .ok (.dload_n 2, 1) := by decide +kernel
theorem dX10_number_44 : decode cX10_number 44 = .ok (.invokevirtual 162, 3) := by decide +kernel
theorem dX10_number_47 : decode cX10_number 47 = .ok (.return_, 1) := by decide +kernel
set_option maxRecDepth 20000 in
theorem ggX10_text_X10_thingAt : GoodIn wsX10_text wsX10_thingAt := goodIn_r _ [9] (by decide +kernel) (by decide +kernel)
set_option maxRecDepth 20000 in
theorem gX10_text_X10_thingAt : GoodIn wsX10_text (va_wsS RX10 111 yX10_thingAt wsX10_thingAt) := goodIn_app (goodIn_of _ (by decide +kernel)) ggX10_text_X10_thingAt
set_option maxRecDepth 20000 in
theorem ggX10_text_X8_become : GoodIn wsX10_text wsX8_become := goodIn_r _ [14, 15, 16, 17, 18, 19, 20, 21, 80, 81, 82, 83, 84, 85, 86, 87, 88] (by decide +kernel) (by decide +kernel)
set_option maxRecDepth 20000 in
theorem gX10_text_X8_become : GoodIn wsX10_text (wsV RX10 145 RX8 yX8_become wsX8_become) := goodIn_app (goodIn_of _ (by decide +kernel)) ggX10_text_X8_become
set_option maxRecDepth 20000 in
theorem ggX10_text_X7_appendSigns : GoodIn wsX10_text wsX7_appendSigns := goodIn_r _ [26, 27, 28, 29, 25, 30, 31, 32, 87, 88] (by decide +kernel) (by decide +kernel)
set_option maxRecDepth 20000 in
theorem gX10_text_X7_appendSigns : GoodIn wsX10_text (wsV RX10 74 RX7 yX7_appendSigns wsX7_appendSigns) := goodIn_app (goodIn_of _ (by decide +kernel)) ggX10_text_X7_appendSigns
set_option maxRecDepth 20000 in
theorem ggX10_text_X10_findNumber : GoodIn wsX10_text wsX10_findNumber := goodIn_r _ [36, 37, 4, 38, 39, 40, 41, 42, 43, 44, 45, 46, 47, 48, 25, 49, 31, 32, 50, 51, 52, 53, 54, 55, 56, 57, 58, 59, 60, 61, 62, 63, 64, 65, 66, 67, 68, 69, 13, 70, 18, 17, 71, 72, 73, 74, 75, 76, 77, 78, 79, 80, 81, 82, 83, 84, 85, 86, 89, 87, 88] (by decide +kernel) (by decide +kernel)
set_option maxRecDepth 20000 in
theorem gX10_text_X10_findNumber : GoodIn wsX10_text (wsV RX10 148 RX10 yX10_findNumber wsX10_findNumber) := goodIn_app (goodIn_of _ (by decide +kernel)) ggX10_text_X10_findNumber
theorem dX10_text_0 : decode cX10_text 0 = .ok (.aload_n 0, 1) := by decide +kernel
theorem dX10_text_1 : decode cX10_text 1 = .ok (.getfield 35, 3) := by decide +kernel
theorem dX10_text_4 : decode cX10_text 4 = .ok (.iload_n 1, 1) := by decide +kernel
theorem dX10_text_5 : decode cX10_text 5 = .ok (.invokestatic 111, 3) := by decide +kernel
theorem dX10_text_8 : decode cX10_text 8 = .ok (.astore 5, 2) := by decide +kernel
theorem dX10_text_10 : decode cX10_text 10 = .ok (.aload 5, 2) := by decide +kernel
theorem dX10_text_12 : decode cX10_text 12 = .ok (.ifnonnull 13, 3) := by decide +kernel
theorem dX10_text_15 : decode cX10_text 15 = .ok (.new 100, 3) := by decide +kernel
theorem dX10_text_18 : decode cX10_text 18 = .ok (.dup, 1) := by decide +kernel
theorem dX10_text_19 : decode cX10_text 19 = .ok (.ldc 165, 2) := by decide +kernel
theorem dX10_text_21 : decode cX10_text 21 = .ok (.invokespecial 104, 3) := by decide +kernel
theorem dX10_text_24 : decode cX10_text 24 = .ok (.athrow, 1) := by decide +kernel
theorem dX10_text_25 : decode cX10_text 25 = .ok (.aload 5, 2) := by decide +kernel
theorem dX10_text_27 : decode cX10_text 27 = .ok (.iconst 5, 1) := by decide +kernel
theorem dX10_text_28 : decode cX10_text 28 = .ok (.invokevirtual 145, 3) := by decide +kernel
theorem dX10_text_31 : decode cX10_text 31 = .ok (.aload 5, 2) := by decide +kernel
theorem dX10_text_33 : decode cX10_text 33 = .ok (.getfield 135, 3) := by decide +kernel
theorem dX10_text_36 : decode cX10_text 36 = .ok (.iload_n 2, 1) := by decide +kernel
theorem dX10_text_37 : decode cX10_text 37 = .ok (.invokevirtual 74, 3) := by decide +kernel
theorem dX10_text_40 : decode cX10_text 40 = .ok (.aload 5, 2) := by decide +kernel
theorem dX10_text_42 : decode cX10_text 42 = .ok (.getfield 135, 3) := by decide +kernel
theorem dX10_text_45 : decode cX10_text 45 = .ok (.iload_n 3, 1) := by decide +kernel
theorem dX10_text_46 : decode cX10_text 46 = .ok (.invokevirtual 74, 3) := by decide +kernel
theorem dX10_text_49 : decode cX10_text 49 = .ok (.aload 5, 2) := by decide +kernel
theorem dX10_text_51 : decode cX10_text 51 = .ok (.getfield 135, 3) := by decide +kernel
theorem dX10_text_54 : decode cX10_text 54 = .ok (.iload 4, 2) := by decide +kernel
theorem dX10_text_56 : decode cX10_text 56 = .ok (.invokevirtual 74, 3) := by decide +kernel
theorem dX10_text_59 : decode cX10_text 59 = .ok (.aload_n 0, 1) := by decide +kernel
theorem dX10_text_60 : decode cX10_text 60 = .ok (.aload 5, 2) := by decide +kernel
theorem dX10_text_62 : decode cX10_text 62 = .ok (.invokevirtual 148, 3) := by decide +kernel
theorem dX10_text_65 : decode cX10_text 65 = .ok (.aload 5, 2) := by decide +kernel
theorem dX10_text_67 : decode cX10_text 67 = .ok (.getfield 135, 3) := by decide +kernel
theorem dX10_text_70 : decode cX10_text 70 = .ok (.getfield 64, 3) := by decide +kernel
theorem dX10_text_73 : decode cX10_text 73 = .ok (.ireturn, 1) := by decide +kernel
set_option maxRecDepth 20000 in
theorem ggX10_add_X10_thingAt : GoodIn wsX10_add wsX10_thingAt := goodIn_r _ [11] (by decide +kernel) (by decide +kernel)
set_option maxRecDepth 20000 in
theorem gX10_add_X10_thingAt : GoodIn wsX10_add (va_wsS RX10 111 yX10_thingAt wsX10_thingAt) := goodIn_app (goodIn_of _ (by decide +kernel)) ggX10_add_X10_thingAt
set_option maxRecDepth 20000 in
theorem ggX10_add_X8_appendItem : GoodIn wsX10_add wsX8_appendItem := goodIn_r _ [16, 17, 18, 19, 20, 21, 22, 15, 23, 24, 9, 10, 11, 25, 26, 27, 28, 29, 30, 31, 32, 33, 34, 35, 36, 37, 38, 39, 40, 41, 42, 43, 44, 45, 46, 47, 48, 49, 50, 51, 52, 53, 54, 55, 56, 57, 58, 59, 102, 103, 104, 105, 106, 107, 108, 109, 110] (by decide +kernel) (by decide +kernel)
set_option maxRecDepth 20000 in
theorem gX10_add_X8_appendItem : GoodIn wsX10_add (wsV RX10 177 RX8 yX8_appendItem wsX8_appendItem) := goodIn_app (goodIn_of _ (by decide +kernel)) ggX10_add_X8_appendItem
set_option maxRecDepth 20000 in
theorem ggX10_add_X10_findNumber : GoodIn wsX10_add wsX10_findNumber := goodIn_r _ [63, 64, 65, 66, 67, 68, 69, 70, 71, 72, 73, 74, 57, 58, 44, 59, 46, 47, 75, 76, 77, 78, 79, 80, 81, 82, 83, 84, 85, 86, 87, 88, 89, 90, 91, 92, 38, 39, 15, 40, 31, 32, 93, 94, 95, 96, 97, 98, 99, 100, 101, 102, 103, 104, 105, 106, 107, 108, 111, 109, 110] (by decide +kernel) (by decide +kernel)
set_option maxRecDepth 20000 in
theorem gX10_add_X10_findNumber : GoodIn wsX10_add (wsV RX10 148 RX10 yX10_findNumber wsX10_findNumber) := goodIn_app (goodIn_of _ (by decide +kernel)) ggX10_add_X10_findNumber
theorem dX10_add_0 : decode cX10_add 0 = .ok (.aload_n 0, 1) := by decide +kernel
theorem dX10_add_1 : decode cX10_add 1 = .ok (.getfield 35, 3) := by decide +kernel
theorem dX10_add_4 : decode cX10_add 4 = .ok (.iload_n 1, 1) := by decide +kernel
theorem dX10_add_5 : decode cX10_add 5 = .ok (.invokestatic 111, 3) := by decide +kernel
theorem dX10_add_8 : decode cX10_add 8 = .ok (.astore_n 3, 1) := by decide +kernel
theorem dX10_add_9 : decode cX10_add 9 = .ok (.aload_n 0, 1) := by decide +kernel
theorem dX10_add_10 : decode cX10_add 10 = .ok (.getfield 35, 3) := by decide +kernel
theorem dX10_add_13 : decode cX10_add 13 = .ok (.iload_n 2, 1) := by decide +kernel
theorem dX10_add_14 : decode cX10_add 14 = .ok (.invokestatic 111, 3) := by decide +kernel
theorem dX10_add_17 : decode cX10_add 17 = .ok (.astore 4, 2) := by decide +kernel
theorem dX10_add_19 : decode cX10_add 19 = .ok (.aload_n 3, 1) := by decide +kernel
theorem dX10_add_20 : decode cX10_add 20 = .ok (.ifnull 8, 3) := by decide +kernel
theorem dX10_add_23 : decode cX10_add 23 = .ok (.aload 4, 2) := by decide +kernel
theorem dX10_add_25 : decode cX10_add 25 = .ok (.ifnonnull 13, 3) := by decide +kernel
theorem dX10_add_28 : decode cX10_add 28 = .ok (.new 100, 3) := by decide +kernel
theorem dX10_add_31 : decode cX10_add 31 = .ok (.dup, 1) := by decide +kernel
theorem dX10_add_32 : decode cX10_add 32 = .ok (.ldc 167, 2) := by decide +kernel
theorem dX10_add_34 : decode cX10_add 34 = .ok (.invokespecial 104, 3) := by decide +kernel
theorem dX10_add_37 : decode cX10_add 37 = .ok (.athrow, 1) := by decide +kernel
theorem dX10_add_38 : decode cX10_add 38 = .ok (.aload_n 3, 1) := by decide +kernel
theorem dX10_add_39 : decode cX10_add 39 = .ok (.getfield 169, 3) := by decide +kernel
theorem dX10_add_42 : decode cX10_add 42 = .ok (.bipush 6, 2) := by decide +kernel
theorem dX10_add_44 : decode cX10_add 44 = .ok (.if_icmp .ne 21, 3) := by decide +kernel
theorem dX10_add_47 : decode cX10_add 47 = .ok (.aload 4, 2) := by decide +kernel
theorem dX10_add_49 : decode cX10_add 49 = .ok (.getfield 169, 3) := by decide +kernel
theorem dX10_add_52 : decode cX10_add 52 = .ok (.bipush 6, 2) := by decide +kernel
theorem dX10_add_54 : decode cX10_add 54 = .ok (.if_icmp .eq 11, 3) := by decide +kernel
theorem dX10_add_57 : decode cX10_add 57 = .ok (.aload_n 3, 1) := by decide +kernel
theorem dX10_add_58 : decode cX10_add 58 = .ok (.getfield 172, 3) := by decide +kernel
theorem dX10_add_61 : decode cX10_add 61 = .ok (.iconst 5, 1) := by decide +kernel
theorem dX10_add_62 : decode cX10_add 62 = .ok (.if_icmp .lt 13, 3) := by decide +kernel
theorem dX10_add_65 : decode cX10_add 65 = .ok (.new 67, 3) := by decide +kernel
theorem dX10_add_68 : decode cX10_add 68 = .ok (.dup, 1) := by decide +kernel
theorem dX10_add_69 : decode cX10_add 69 = .ok (.ldc 175, 2) := by decide +kernel
theorem dX10_add_71 : decode cX10_add 71 = .ok (.invokespecial 71, 3) := by decide +kernel
theorem dX10_add_74 : decode cX10_add 74 = .ok (.athrow, 1) := by decide +kernel
theorem dX10_add_75 : decode cX10_add 75 = .ok (.aload_n 3, 1) := by decide +kernel
theorem dX10_add_76 : decode cX10_add 76 = .ok (.aload 4, 2) := by decide +kernel
theorem dX10_add_78 : decode cX10_add 78 = .ok (.invokevirtual 177, 3) := by decide +kernel
theorem dX10_add_81 : decode cX10_add 81 = .ok (.aload_n 0, 1) := by decide +kernel
theorem dX10_add_82 : decode cX10_add 82 = .ok (.aload_n 3, 1) := by decide +kernel
theorem dX10_add_83 : decode cX10_add 83 = .ok (.invokevirtual 148, 3) := by decide +kernel
theorem dX10_add_86 : decode cX10_add 86 = .ok (.aload_n 3, 1) := by decide +kernel
theorem dX10_add_87 : decode cX10_add 87 = .ok (.getfield 172, 3) := by decide +kernel
theorem dX10_add_90 : decode cX10_add 90 = .ok (.ireturn, 1) := by decide +kernel
set_option maxRecDepth 20000 in
theorem ggX10_call_X10_operationAt : GoodIn wsX10_call wsX10_operationAt := goodIn_r _ [15, 16, 294, 295, 296, 297, 298, 299, 300, 301, 302] (by decide +kernel) (by decide +kernel)
set_option maxRecDepth 20000 in
theorem gX10_call_X10_operationAt : GoodIn wsX10_call (wsV RX10 86 RX10 yX10_operationAt wsX10_operationAt) := goodIn_app (goodIn_of _ (by decide +kernel)) ggX10_call_X10_operationAt
set_option maxRecDepth 20000 in
theorem ggX10_call_X5_mostArguments : GoodIn wsX10_call wsX5_mostArguments := goodIn_r _ [21, 22, 23, 8, 5, 9, 24, 25, 26, 20, 27, 28, 29, 30, 31, 32, 33, 34, 35, 303, 304, 305, 306, 307, 308, 309, 310, 311] (by decide +kernel) (by decide +kernel)
set_option maxRecDepth 20000 in
theorem gX10_call_X5_mostArguments : GoodIn wsX10_call (wsV RX10 182 RX5 yX5_mostArguments wsX5_mostArguments) := goodIn_app (goodIn_of _ (by decide +kernel)) ggX10_call_X5_mostArguments
set_option maxRecDepth 20000 in
theorem ggX10_call_X5_gather : GoodIn wsX10_call wsX5_gather := goodIn_r _ [39, 40, 22, 24, 25, 26, 20, 27, 28, 41, 42, 43, 44, 45, 46, 47, 48, 32, 49, 50, 51, 52, 53, 35, 54, 55, 56, 57, 34, 58, 4, 5, 6, 59, 60, 61, 62, 63, 64, 65, 66, 67, 30, 31, 33, 303, 304, 305, 306, 307, 308, 309, 310, 311, 312, 313, 314] (by decide +kernel) (by decide +kernel)
set_option maxRecDepth 20000 in
theorem gX10_call_X5_gather : GoodIn wsX10_call (wsV RX10 192 RX5 yX5_gather wsX5_gather) := goodIn_app (goodIn_of _ (by decide +kernel)) ggX10_call_X5_gather
set_option maxRecDepth 20000 in
theorem ggX10_call_X5_ableAt : GoodIn wsX10_call wsX5_ableAt := goodIn_r _ [71, 40, 45, 303, 304, 305, 306] (by decide +kernel) (by decide +kernel)
set_option maxRecDepth 20000 in
theorem gX10_call_X5_ableAt : GoodIn wsX10_call (wsV RX10 196 RX5 yX5_ableAt wsX5_ableAt) := goodIn_app (goodIn_of _ (by decide +kernel)) ggX10_call_X5_ableAt
set_option maxRecDepth 20000 in
theorem ggX10_call_X10_refuseAt : GoodIn wsX10_call wsX10_refuseAt := goodIn_r _ [75, 76, 294, 295, 296, 297, 298, 299, 300, 301, 302] (by decide +kernel) (by decide +kernel)
set_option maxRecDepth 20000 in
theorem gX10_call_X10_refuseAt : GoodIn wsX10_call (wsV RX10 200 RX10 yX10_refuseAt wsX10_refuseAt) := goodIn_app (goodIn_of _ (by decide +kernel)) ggX10_call_X10_refuseAt
set_option maxRecDepth 20000 in
theorem ggX10_call_X5_decidingFor : GoodIn wsX10_call wsX5_decidingFor := goodIn_r _ [80, 40, 81, 82, 83, 20, 84, 85, 86, 87, 88, 89, 90, 91, 92, 93, 94, 69, 70, 71, 45, 95, 55, 56, 32, 57, 34, 35, 58, 4, 5, 6, 59, 96, 97, 98, 99, 100, 101, 102, 103, 104, 105, 106, 107, 108, 109, 110, 63, 111, 65, 66, 112, 113, 114, 115, 116, 117, 118, 119, 120, 121, 122, 123, 124, 125, 126, 127, 303, 304, 305, 306, 312, 313, 314, 307, 308, 309, 310, 311, 315, 316, 317, 318, 319] (by decide +kernel) (by decide +kernel)
set_option maxRecDepth 20000 in
theorem gX10_call_X5_decidingFor : GoodIn wsX10_call (wsV RX10 203 RX5 yX5_decidingFor wsX5_decidingFor) := goodIn_app (goodIn_of _ (by decide +kernel)) ggX10_call_X5_decidingFor
set_option maxRecDepth 20000 in
theorem ggX10_call_X10_convertSlots : GoodIn wsX10_call wsX10_convertSlots := goodIn_r _ [131, 10, 132, 133, 55, 56, 32, 57, 34, 35, 58, 4, 5, 6, 59, 134, 135, 14, 136, 137, 138, 139, 140, 141, 142, 143, 144, 145, 146, 61, 62, 63, 64, 65, 66, 147, 148, 149, 150, 151, 152, 153, 154, 155, 156, 157, 158, 159, 160, 161, 162, 163, 164, 165, 166, 167, 168, 169, 170, 171, 172, 173, 174, 175, 176, 177, 178, 179, 180, 181, 182, 183, 184, 185, 186, 187, 188, 189, 190, 191, 192, 193, 194, 195, 196, 197, 198, 199, 200, 201, 202, 203, 204, 205, 206, 207, 208, 209, 210, 211, 212, 213, 214, 215, 216, 217, 218, 219, 220, 221, 222, 223, 224, 225, 226, 227, 228, 229, 230, 231, 232, 233, 234, 235, 236, 237, 238, 239, 240, 241, 242, 243, 244, 245, 246, 247, 248, 249, 250, 251, 252, 99, 253, 127, 254, 255, 256, 257, 258, 259, 294, 295, 296, 297, 298, 299, 300, 301, 302, 307, 308, 309, 310, 311, 320, 321, 322, 323, 324, 325, 326, 312, 313, 314, 315, 316, 317, 318, 319, 327, 328] (by decide +kernel) (by decide +kernel)
set_option maxRecDepth 20000 in
theorem gX10_call_X10_convertSlots : GoodIn wsX10_call (wsV RX10 209 RX10 yX10_convertSlots wsX10_convertSlots) := goodIn_app (goodIn_of _ (by decide +kernel)) ggX10_call_X10_convertSlots
set_option maxRecDepth 20000 in
theorem ggX10_call_X10_thingAt : GoodIn wsX10_call wsX10_thingAt := goodIn_r _ [136] (by decide +kernel) (by decide +kernel)
set_option maxRecDepth 20000 in
theorem gX10_call_X10_thingAt : GoodIn wsX10_call (va_wsS RX10 111 yX10_thingAt wsX10_thingAt) := goodIn_app (goodIn_of _ (by decide +kernel)) ggX10_call_X10_thingAt
set_option maxRecDepth 20000 in
theorem ggX10_call_X5_choose : GoodIn wsX10_call wsX5_choose := goodIn_r _ [263, 264, 265, 266, 267, 20, 268, 40, 90, 91, 92, 93, 94, 69, 70, 71, 45, 95, 55, 56, 32, 57, 34, 35, 58, 4, 5, 6, 59, 269, 61, 62, 63, 64, 65, 66, 270, 160, 161, 150, 162, 152, 271, 272, 273, 274, 275, 85, 86, 87, 88, 89, 276, 277, 278, 279, 280, 281, 282, 283, 284, 320, 321, 322, 323, 324, 325, 326, 303, 304, 305, 306, 307, 308, 309, 310, 311, 312, 313, 314, 315, 316, 317, 318, 319] (by decide +kernel) (by decide +kernel)
set_option maxRecDepth 20000 in
theorem gX10_call_X5_choose : GoodIn wsX10_call (wsV RX10 213 RX5 yX5_choose wsX5_choose) := goodIn_app (goodIn_of _ (by decide +kernel)) ggX10_call_X5_choose
set_option maxRecDepth 20000 in
theorem ggX10_call_X10_finish : GoodIn wsX10_call wsX10_finish := goodIn_r _ [288, 289, 132, 290, 7, 8, 5, 9, 291, 76, 292, 134, 135, 14, 136, 293, 148, 149, 150, 151, 152, 153, 154, 155, 156, 157, 158, 307, 308, 309, 310, 311, 294, 295, 296, 297, 298, 299, 300, 301, 302, 320, 321, 322, 323, 324, 325, 326, 327, 328] (by decide +kernel) (by decide +kernel)
set_option maxRecDepth 20000 in
theorem gX10_call_X10_finish : GoodIn wsX10_call (wsV RX10 217 RX10 yX10_finish wsX10_finish) := goodIn_app (goodIn_of _ (by decide +kernel)) ggX10_call_X10_finish
theorem dX10_call_0 : decode cX10_call 0 = .ok (.aload_n 0, 1) := by decide +kernel
theorem dX10_call_1 : decode cX10_call 1 = .ok (.iload_n 1, 1) := by decide +kernel
theorem dX10_call_2 : decode cX10_call 2 = .ok (.invokevirtual 86, 3) := by decide +kernel
theorem dX10_call_5 : decode cX10_call 5 = .ok (.astore_n 3, 1) := by decide +kernel
theorem dX10_call_6 : decode cX10_call 6 = .ok (.aload_n 3, 1) := by decide +kernel
theorem dX10_call_7 : decode cX10_call 7 = .ok (.ifnull 13, 3) := by decide +kernel
theorem dX10_call_10 : decode cX10_call 10 = .ok (.iload_n 2, 1) := by decide +kernel
theorem dX10_call_11 : decode cX10_call 11 = .ok (.ifCond .lt 9, 3) := by decide +kernel
theorem dX10_call_14 : decode cX10_call 14 = .ok (.iload_n 2, 1) := by decide +kernel
theorem dX10_call_15 : decode cX10_call 15 = .ok (.bipush 8, 2) := by decide +kernel
theorem dX10_call_17 : decode cX10_call 17 = .ok (.if_icmp .le 13, 3) := by decide +kernel
theorem dX10_call_20 : decode cX10_call 20 = .ok (.new 100, 3) := by decide +kernel
theorem dX10_call_23 : decode cX10_call 23 = .ok (.dup, 1) := by decide +kernel
theorem dX10_call_24 : decode cX10_call 24 = .ok (.ldc 180, 2) := by decide +kernel
theorem dX10_call_26 : decode cX10_call 26 = .ok (.invokespecial 104, 3) := by decide +kernel
theorem dX10_call_29 : decode cX10_call 29 = .ok (.athrow, 1) := by decide +kernel
theorem dX10_call_30 : decode cX10_call 30 = .ok (.iload_n 2, 1) := by decide +kernel
theorem dX10_call_31 : decode cX10_call 31 = .ok (.aload_n 3, 1) := by decide +kernel
theorem dX10_call_32 : decode cX10_call 32 = .ok (.invokevirtual 182, 3) := by decide +kernel
theorem dX10_call_35 : decode cX10_call 35 = .ok (.invokestatic 186, 3) := by decide +kernel
theorem dX10_call_38 : decode cX10_call 38 = .ok (.istore 4, 2) := by decide +kernel
theorem dX10_call_40 : decode cX10_call 40 = .ok (.aload_n 3, 1) := by decide +kernel
theorem dX10_call_41 : decode cX10_call 41 = .ok (.iload 4, 2) := by decide +kernel
theorem dX10_call_43 : decode cX10_call 43 = .ok (.aconst_null, 1) := by decide +kernel
theorem dX10_call_44 : decode cX10_call 44 = .ok (.invokevirtual 192, 3) := by decide +kernel
theorem dX10_call_47 : decode cX10_call 47 = .ok (.aload_n 3, 1) := by decide +kernel
theorem dX10_call_48 : decode cX10_call 48 = .ok (.iconst 0, 1) := by decide +kernel
theorem dX10_call_49 : decode cX10_call 49 = .ok (.invokevirtual 196, 3) := by decide +kernel
theorem dX10_call_52 : decode cX10_call 52 = .ok (.astore 5, 2) := by decide +kernel
theorem dX10_call_54 : decode cX10_call 54 = .ok (.aload 5, 2) := by decide +kernel
theorem dX10_call_56 : decode cX10_call 56 = .ok (.ifnonnull 9, 3) := by decide +kernel
theorem dX10_call_59 : decode cX10_call 59 = .ok (.aload_n 0, 1) := by decide +kernel
theorem dX10_call_60 : decode cX10_call 60 = .ok (.iload_n 2, 1) := by decide +kernel
theorem dX10_call_61 : decode cX10_call 61 = .ok (.invokevirtual 200, 3) := by decide +kernel
theorem dX10_call_64 : decode cX10_call 64 = .ok (.ireturn, 1) := by decide +kernel
theorem dX10_call_65 : decode cX10_call 65 = .ok (.aload_n 3, 1) := by decide +kernel
theorem dX10_call_66 : decode cX10_call 66 = .ok (.iload 4, 2) := by decide +kernel
theorem dX10_call_68 : decode cX10_call 68 = .ok (.invokevirtual 203, 3) := by decide +kernel
theorem dX10_call_71 : decode cX10_call 71 = .ok (.istore 6, 2) := by decide +kernel
theorem dX10_call_73 : decode cX10_call 73 = .ok (.iload 6, 2) := by decide +kernel
theorem dX10_call_75 : decode cX10_call 75 = .ok (.iconst 0, 1) := by decide +kernel
theorem dX10_call_76 : decode cX10_call 76 = .ok (.invokestatic 206, 3) := by decide +kernel
theorem dX10_call_79 : decode cX10_call 79 = .ok (.istore 7, 2) := by decide +kernel
theorem dX10_call_81 : decode cX10_call 81 = .ok (.aload_n 0, 1) := by decide +kernel
theorem dX10_call_82 : decode cX10_call 82 = .ok (.aload 5, 2) := by decide +kernel
theorem dX10_call_84 : decode cX10_call 84 = .ok (.iconst 0, 1) := by decide +kernel
theorem dX10_call_85 : decode cX10_call 85 = .ok (.iload 7, 2) := by decide +kernel
theorem dX10_call_87 : decode cX10_call 87 = .ok (.invokevirtual 209, 3) := by decide +kernel
theorem dX10_call_90 : decode cX10_call 90 = .ok (.istore 8, 2) := by decide +kernel
theorem dX10_call_92 : decode cX10_call 92 = .ok (.iload 8, 2) := by decide +kernel
theorem dX10_call_94 : decode cX10_call 94 = .ok (.iconst (-1), 1) := by decide +kernel
theorem dX10_call_95 : decode cX10_call 95 = .ok (.if_icmp .eq 10, 3) := by decide +kernel
theorem dX10_call_98 : decode cX10_call 98 = .ok (.aload_n 0, 1) := by decide +kernel
theorem dX10_call_99 : decode cX10_call 99 = .ok (.iload 8, 2) := by decide +kernel
theorem dX10_call_101 : decode cX10_call 101 = .ok (.invokevirtual 200, 3) := by decide +kernel
theorem dX10_call_104 : decode cX10_call 104 = .ok (.ireturn, 1) := by decide +kernel
theorem dX10_call_105 : decode cX10_call 105 = .ok (.iload 6, 2) := by decide +kernel
theorem dX10_call_107 : decode cX10_call 107 = .ok (.iconst (-1), 1) := by decide +kernel
theorem dX10_call_108 : decode cX10_call 108 = .ok (.if_icmp .eq 20, 3) := by decide +kernel
theorem dX10_call_111 : decode cX10_call 111 = .ok (.aload_n 3, 1) := by decide +kernel
theorem dX10_call_112 : decode cX10_call 112 = .ok (.iload 6, 2) := by decide +kernel
theorem dX10_call_114 : decode cX10_call 114 = .ok (.aload_n 0, 1) := by decide +kernel
theorem dX10_call_115 : decode cX10_call 115 = .ok (.getfield 35, 3) := by decide +kernel
theorem dX10_call_118 : decode cX10_call 118 = .ok (.iload 6, 2) := by decide +kernel
theorem dX10_call_120 : decode cX10_call 120 = .ok (.invokestatic 111, 3) := by decide +kernel
theorem dX10_call_123 : decode cX10_call 123 = .ok (.invokevirtual 213, 3) := by decide +kernel
theorem dX10_call_126 : decode cX10_call 126 = .ok (.astore 5, 2) := by decide +kernel
theorem dX10_call_128 : decode cX10_call 128 = .ok (.aload 5, 2) := by decide +kernel
theorem dX10_call_130 : decode cX10_call 130 = .ok (.ifnonnull 10, 3) := by decide +kernel
theorem dX10_call_133 : decode cX10_call 133 = .ok (.aload_n 0, 1) := by decide +kernel
theorem dX10_call_134 : decode cX10_call 134 = .ok (.iload 6, 2) := by decide +kernel
theorem dX10_call_136 : decode cX10_call 136 = .ok (.invokevirtual 200, 3) := by decide +kernel
theorem dX10_call_139 : decode cX10_call 139 = .ok (.ireturn, 1) := by decide +kernel
theorem dX10_call_140 : decode cX10_call 140 = .ok (.aload_n 0, 1) := by decide +kernel
theorem dX10_call_141 : decode cX10_call 141 = .ok (.aload 5, 2) := by decide +kernel
theorem dX10_call_143 : decode cX10_call 143 = .ok (.iload 7, 2) := by decide +kernel
theorem dX10_call_145 : decode cX10_call 145 = .ok (.iload 4, 2) := by decide +kernel
theorem dX10_call_147 : decode cX10_call 147 = .ok (.invokevirtual 209, 3) := by decide +kernel
theorem dX10_call_150 : decode cX10_call 150 = .ok (.istore 8, 2) := by decide +kernel
theorem dX10_call_152 : decode cX10_call 152 = .ok (.iload 8, 2) := by decide +kernel
theorem dX10_call_154 : decode cX10_call 154 = .ok (.iconst (-1), 1) := by decide +kernel
theorem dX10_call_155 : decode cX10_call 155 = .ok (.if_icmp .eq 12, 3) := by decide +kernel
theorem dX10_call_158 : decode cX10_call 158 = .ok (.aload_n 0, 1) := by decide +kernel
theorem dX10_call_159 : decode cX10_call 159 = .ok (.iload 8, 2) := by decide +kernel
theorem dX10_call_161 : decode cX10_call 161 = .ok (.invokevirtual 200, 3) := by decide +kernel
theorem dX10_call_164 : decode cX10_call 164 = .ok (.goto 11, 3) := by decide +kernel
theorem dX10_call_167 : decode cX10_call 167 = .ok (.aload_n 0, 1) := by decide +kernel
theorem dX10_call_168 : decode cX10_call 168 = .ok (.aload 5, 2) := by decide +kernel
theorem dX10_call_170 : decode cX10_call 170 = .ok (.iload 4, 2) := by decide +kernel
theorem dX10_call_172 : decode cX10_call 172 = .ok (.invokevirtual 217, 3) := by decide +kernel
theorem dX10_call_175 : decode cX10_call 175 = .ok (.ireturn, 1) := by decide +kernel
set_option maxRecDepth 20000 in
theorem ggX10_operation_X10_operationAt : GoodIn wsX10_operation wsX10_operationAt := goodIn_r _ [8, 9, 130, 131, 132, 133, 134, 135, 136, 137, 138] (by decide +kernel) (by decide +kernel)
set_option maxRecDepth 20000 in
theorem gX10_operation_X10_operationAt : GoodIn wsX10_operation (wsV RX10 86 RX10 yX10_operationAt wsX10_operationAt) := goodIn_app (goodIn_of _ (by decide +kernel)) ggX10_operation_X10_operationAt
set_option maxRecDepth 20000 in
theorem ggX10_operation_X5_mostArguments : GoodIn wsX10_operation wsX5_mostArguments := goodIn_r _ [14, 15, 16, 17, 18, 19, 20, 21, 22, 13, 23, 24, 25, 26, 27, 28, 29, 30, 31, 126, 127, 128, 129, 139, 140, 141, 142, 143] (by decide +kernel) (by decide +kernel)
set_option maxRecDepth 20000 in
theorem gX10_operation_X5_mostArguments : GoodIn wsX10_operation (wsV RX10 182 RX5 yX5_mostArguments wsX5_mostArguments) := goodIn_app (goodIn_of _ (by decide +kernel)) ggX10_operation_X5_mostArguments
set_option maxRecDepth 20000 in
theorem ggX10_operation_X5_leastArguments : GoodIn wsX10_operation wsX5_leastArguments := goodIn_r _ [35, 15, 36, 37, 18, 38, 20, 21, 22, 13, 23, 24, 39, 40, 41, 28, 42, 31, 43, 44, 45, 46, 30, 47, 48, 49, 50, 51, 52, 53, 54, 55, 126, 127, 128, 129, 139, 140, 141, 142, 143, 144, 145, 146] (by decide +kernel) (by decide +kernel)
set_option maxRecDepth 20000 in
theorem gX10_operation_X5_leastArguments : GoodIn wsX10_operation (wsV RX10 223 RX5 yX5_leastArguments wsX5_leastArguments) := goodIn_app (goodIn_of _ (by decide +kernel)) ggX10_operation_X5_leastArguments
set_option maxRecDepth 20000 in
theorem ggX10_operation_X5_gather : GoodIn wsX10_operation wsX5_gather := goodIn_r _ [59, 60, 15, 20, 21, 22, 13, 23, 24, 61, 62, 63, 64, 65, 66, 67, 68, 28, 69, 70, 40, 41, 42, 31, 43, 44, 45, 46, 30, 47, 37, 18, 38, 48, 49, 50, 51, 52, 53, 54, 55, 71, 26, 27, 29, 126, 127, 128, 129, 139, 140, 141, 142, 143, 144, 145, 146] (by decide +kernel) (by decide +kernel)
set_option maxRecDepth 20000 in
theorem gX10_operation_X5_gather : GoodIn wsX10_operation (wsV RX10 192 RX5 yX5_gather wsX5_gather) := goodIn_app (goodIn_of _ (by decide +kernel)) ggX10_operation_X5_gather
set_option maxRecDepth 20000 in
theorem ggX10_operation_X5_decidingFor : GoodIn wsX10_operation wsX5_decidingFor := goodIn_r _ [75, 60, 76, 77, 78, 13, 79, 80, 81, 82, 83, 84, 85, 86, 87, 88, 89, 90, 91, 92, 65, 93, 44, 45, 28, 46, 30, 31, 47, 37, 18, 38, 48, 94, 95, 96, 97, 98, 99, 100, 101, 102, 103, 104, 105, 106, 107, 108, 52, 109, 54, 55, 110, 111, 112, 113, 114, 115, 116, 117, 118, 119, 120, 121, 122, 123, 124, 125, 126, 127, 128, 129, 144, 145, 146, 139, 140, 141, 142, 143, 147, 148, 149, 150, 151] (by decide +kernel) (by decide +kernel)
set_option maxRecDepth 20000 in
theorem gX10_operation_X5_decidingFor : GoodIn wsX10_operation (wsV RX10 203 RX5 yX5_decidingFor wsX5_decidingFor) := goodIn_app (goodIn_of _ (by decide +kernel)) ggX10_operation_X5_decidingFor
theorem dX10_operation_0 : decode cX10_operation 0 = .ok (.aload_n 0, 1) := by decide +kernel
theorem dX10_operation_1 : decode cX10_operation 1 = .ok (.iload_n 1, 1) := by decide +kernel
theorem dX10_operation_2 : decode cX10_operation 2 = .ok (.invokevirtual 86, 3) := by decide +kernel
theorem dX10_operation_5 : decode cX10_operation 5 = .ok (.astore_n 3, 1) := by decide +kernel
theorem dX10_operation_6 : decode cX10_operation 6 = .ok (.aload_n 3, 1) := by decide +kernel
theorem dX10_operation_7 : decode cX10_operation 7 = .ok (.ifnull 13, 3) := by decide +kernel
theorem dX10_operation_10 : decode cX10_operation 10 = .ok (.iload_n 2, 1) := by decide +kernel
theorem dX10_operation_11 : decode cX10_operation 11 = .ok (.ifCond .lt 9, 3) := by decide +kernel
theorem dX10_operation_14 : decode cX10_operation 14 = .ok (.iload_n 2, 1) := by decide +kernel
theorem dX10_operation_15 : decode cX10_operation 15 = .ok (.bipush 11, 2) := by decide +kernel
theorem dX10_operation_17 : decode cX10_operation 17 = .ok (.if_icmp .le 13, 3) := by decide +kernel
theorem dX10_operation_20 : decode cX10_operation 20 = .ok (.new 100, 3) := by decide +kernel
theorem dX10_operation_23 : decode cX10_operation 23 = .ok (.dup, 1) := by decide +kernel
theorem dX10_operation_24 : decode cX10_operation 24 = .ok (.ldc 221, 2) := by decide +kernel
theorem dX10_operation_26 : decode cX10_operation 26 = .ok (.invokespecial 104, 3) := by decide +kernel
theorem dX10_operation_29 : decode cX10_operation 29 = .ok (.athrow, 1) := by decide +kernel
theorem dX10_operation_30 : decode cX10_operation 30 = .ok (.iload_n 2, 1) := by decide +kernel
theorem dX10_operation_31 : decode cX10_operation 31 = .ok (.ifCond .ne 8, 3) := by decide +kernel
theorem dX10_operation_34 : decode cX10_operation 34 = .ok (.aload_n 3, 1) := by decide +kernel
theorem dX10_operation_35 : decode cX10_operation 35 = .ok (.getfield 105, 3) := by decide +kernel
theorem dX10_operation_38 : decode cX10_operation 38 = .ok (.ireturn, 1) := by decide +kernel
theorem dX10_operation_39 : decode cX10_operation 39 = .ok (.iload_n 2, 1) := by decide +kernel
theorem dX10_operation_40 : decode cX10_operation 40 = .ok (.iconst 1, 1) := by decide +kernel
theorem dX10_operation_41 : decode cX10_operation 41 = .ok (.if_icmp .ne 8, 3) := by decide +kernel
theorem dX10_operation_44 : decode cX10_operation 44 = .ok (.aload_n 3, 1) := by decide +kernel
theorem dX10_operation_45 : decode cX10_operation 45 = .ok (.invokevirtual 182, 3) := by decide +kernel
theorem dX10_operation_48 : decode cX10_operation 48 = .ok (.ireturn, 1) := by decide +kernel
theorem dX10_operation_49 : decode cX10_operation 49 = .ok (.iload_n 2, 1) := by decide +kernel
theorem dX10_operation_50 : decode cX10_operation 50 = .ok (.iconst 2, 1) := by decide +kernel
theorem dX10_operation_51 : decode cX10_operation 51 = .ok (.if_icmp .ne 8, 3) := by decide +kernel
theorem dX10_operation_54 : decode cX10_operation 54 = .ok (.aload_n 3, 1) := by decide +kernel
theorem dX10_operation_55 : decode cX10_operation 55 = .ok (.invokevirtual 223, 3) := by decide +kernel
theorem dX10_operation_58 : decode cX10_operation 58 = .ok (.ireturn, 1) := by decide +kernel
theorem dX10_operation_59 : decode cX10_operation 59 = .ok (.aload_n 3, 1) := by decide +kernel
theorem dX10_operation_60 : decode cX10_operation 60 = .ok (.iload_n 2, 1) := by decide +kernel
theorem dX10_operation_61 : decode cX10_operation 61 = .ok (.iconst 3, 1) := by decide +kernel
theorem dX10_operation_62 : decode cX10_operation 62 = .ok (.isub, 1) := by decide +kernel
theorem dX10_operation_63 : decode cX10_operation 63 = .ok (.aconst_null, 1) := by decide +kernel
theorem dX10_operation_64 : decode cX10_operation 64 = .ok (.invokevirtual 192, 3) := by decide +kernel
theorem dX10_operation_67 : decode cX10_operation 67 = .ok (.aload_n 3, 1) := by decide +kernel
theorem dX10_operation_68 : decode cX10_operation 68 = .ok (.iload_n 2, 1) := by decide +kernel
theorem dX10_operation_69 : decode cX10_operation 69 = .ok (.iconst 3, 1) := by decide +kernel
theorem dX10_operation_70 : decode cX10_operation 70 = .ok (.isub, 1) := by decide +kernel
theorem dX10_operation_71 : decode cX10_operation 71 = .ok (.invokevirtual 203, 3) := by decide +kernel
theorem dX10_operation_74 : decode cX10_operation 74 = .ok (.ireturn, 1) := by decide +kernel
set_option maxRecDepth 20000 in
theorem ggX10_kind_X10_partAt : GoodIn wsX10_kind wsX10_partAt := goodIn_r _ [6, 7, 8, 9, 10, 5, 11, 12, 13, 14, 15, 16, 17, 18, 26, 27, 28, 29, 30, 31, 32, 33, 34, 19, 20, 21, 22, 23, 24, 25] (by decide +kernel) (by decide +kernel)
set_option maxRecDepth 20000 in
theorem gX10_kind_X10_partAt : GoodIn wsX10_kind (wsV RX10 226 RX10 yX10_partAt wsX10_partAt) := goodIn_app (goodIn_of _ (by decide +kernel)) ggX10_kind_X10_partAt
theorem dX10_kind_0 : decode cX10_kind 0 = .ok (.aload_n 0, 1) := by decide +kernel
theorem dX10_kind_1 : decode cX10_kind 1 = .ok (.iload_n 1, 1) := by decide +kernel
theorem dX10_kind_2 : decode cX10_kind 2 = .ok (.iconst (-1), 1) := by decide +kernel
theorem dX10_kind_3 : decode cX10_kind 3 = .ok (.invokevirtual 226, 3) := by decide +kernel
theorem dX10_kind_6 : decode cX10_kind 6 = .ok (.astore_n 2, 1) := by decide +kernel
theorem dX10_kind_7 : decode cX10_kind 7 = .ok (.aload_n 2, 1) := by decide +kernel
theorem dX10_kind_8 : decode cX10_kind 8 = .ok (.ifnonnull 7, 3) := by decide +kernel
theorem dX10_kind_11 : decode cX10_kind 11 = .ok (.iconst (-1), 1) := by decide +kernel
theorem dX10_kind_12 : decode cX10_kind 12 = .ok (.goto 7, 3) := by decide +kernel
theorem dX10_kind_15 : decode cX10_kind 15 = .ok (.aload_n 2, 1) := by decide +kernel
theorem dX10_kind_16 : decode cX10_kind 16 = .ok (.getfield 169, 3) := by decide +kernel
theorem dX10_kind_19 : decode cX10_kind 19 = .ok (.ireturn, 1) := by decide +kernel
set_option maxRecDepth 20000 in
theorem ggX10_item_X10_partAt : GoodIn wsX10_item wsX10_partAt := goodIn_r _ [6, 7, 8, 9, 10, 5, 11, 12, 13, 14, 15, 16, 17, 18, 26, 27, 28, 29, 30, 31, 32, 33, 34, 19, 20, 21, 22, 23, 24, 25] (by decide +kernel) (by decide +kernel)
set_option maxRecDepth 20000 in
theorem gX10_item_X10_partAt : GoodIn wsX10_item (wsV RX10 226 RX10 yX10_partAt wsX10_partAt) := goodIn_app (goodIn_of _ (by decide +kernel)) ggX10_item_X10_partAt
theorem dX10_item_0 : decode cX10_item 0 = .ok (.iload_n 2, 1) := by decide +kernel
theorem dX10_item_1 : decode cX10_item 1 = .ok (.ifCond .ge 7, 3) := by decide +kernel
theorem dX10_item_4 : decode cX10_item 4 = .ok (.aconst_null, 1) := by decide +kernel
theorem dX10_item_5 : decode cX10_item 5 = .ok (.goto 9, 3) := by decide +kernel
theorem dX10_item_8 : decode cX10_item 8 = .ok (.aload_n 0, 1) := by decide +kernel
theorem dX10_item_9 : decode cX10_item 9 = .ok (.iload_n 1, 1) := by decide +kernel
theorem dX10_item_10 : decode cX10_item 10 = .ok (.iload_n 2, 1) := by decide +kernel
theorem dX10_item_11 : decode cX10_item 11 = .ok (.invokevirtual 226, 3) := by decide +kernel
theorem dX10_item_14 : decode cX10_item 14 = .ok (.astore_n 3, 1) := by decide +kernel
theorem dX10_item_15 : decode cX10_item 15 = .ok (.aload_n 3, 1) := by decide +kernel
theorem dX10_item_16 : decode cX10_item 16 = .ok (.ifnonnull 7, 3) := by decide +kernel
theorem dX10_item_19 : decode cX10_item 19 = .ok (.iconst (-1), 1) := by decide +kernel
theorem dX10_item_20 : decode cX10_item 20 = .ok (.goto 7, 3) := by decide +kernel
theorem dX10_item_23 : decode cX10_item 23 = .ok (.aload_n 3, 1) := by decide +kernel
theorem dX10_item_24 : decode cX10_item 24 = .ok (.getfield 169, 3) := by decide +kernel
theorem dX10_item_27 : decode cX10_item 27 = .ok (.ireturn, 1) := by decide +kernel
set_option maxRecDepth 20000 in
theorem ggX10_whole_X10_partAt : GoodIn wsX10_whole wsX10_partAt := goodIn_r _ [10, 11, 12, 13, 14, 9, 15, 16, 17, 18, 19, 20, 21, 22, 32, 33, 34, 35, 36, 37, 38, 39, 40, 23, 24, 25, 26, 27, 28, 29] (by decide +kernel) (by decide +kernel)
set_option maxRecDepth 20000 in
theorem gX10_whole_X10_partAt : GoodIn wsX10_whole (wsV RX10 226 RX10 yX10_partAt wsX10_partAt) := goodIn_app (goodIn_of _ (by decide +kernel)) ggX10_whole_X10_partAt
theorem dX10_whole_0 : decode cX10_whole 0 = .ok (.aload_n 0, 1) := by decide +kernel
theorem dX10_whole_1 : decode cX10_whole 1 = .ok (.iload_n 1, 1) := by decide +kernel
theorem dX10_whole_2 : decode cX10_whole 2 = .ok (.iload_n 2, 1) := by decide +kernel
theorem dX10_whole_3 : decode cX10_whole 3 = .ok (.invokevirtual 226, 3) := by decide +kernel
theorem dX10_whole_6 : decode cX10_whole 6 = .ok (.astore_n 3, 1) := by decide +kernel
theorem dX10_whole_7 : decode cX10_whole 7 = .ok (.aload_n 3, 1) := by decide +kernel
theorem dX10_whole_8 : decode cX10_whole 8 = .ok (.ifnonnull 5, 3) := by decide +kernel
theorem dX10_whole_11 : decode cX10_whole 11 = .ok (.lconst 0, 1) := by decide +kernel
theorem dX10_whole_12 : decode cX10_whole 12 = .ok (.lreturn, 1) := by decide +kernel
theorem dX10_whole_13 : decode cX10_whole 13 = .ok (.aload_n 3, 1) := by decide +kernel
theorem dX10_whole_14 : decode cX10_whole 14 = .ok (.getfield 169, 3) := by decide +kernel
theorem dX10_whole_17 : decode cX10_whole 17 = .ok (.iconst 2, 1) := by decide +kernel
theorem dX10_whole_18 : decode cX10_whole 18 = .ok (.if_icmp .eq 11, 3) := by decide +kernel
theorem dX10_whole_21 : decode cX10_whole 21 = .ok (.aload_n 3, 1) := by decide +kernel
theorem dX10_whole_22 : decode cX10_whole 22 = .ok (.getfield 169, 3) := by decide +kernel
theorem dX10_whole_25 : decode cX10_whole 25 = .ok (.iconst 3, 1) := by decide +kernel
theorem dX10_whole_26 : decode cX10_whole 26 = .ok (.if_icmp .ne 8, 3) := by decide +kernel
theorem dX10_whole_29 : decode cX10_whole 29 = .ok (.aload_n 3, 1) := by decide +kernel
theorem dX10_whole_30 : decode cX10_whole 30 = .ok (.getfield 230, 3) := by decide +kernel
theorem dX10_whole_33 : decode cX10_whole 33 = .ok (.lreturn, 1) := by decide +kernel
theorem dX10_whole_34 : decode cX10_whole 34 = .ok (.aload_n 3, 1) := by decide +kernel
theorem dX10_whole_35 : decode cX10_whole 35 = .ok (.getfield 169, 3) := by decide +kernel
theorem dX10_whole_38 : decode cX10_whole 38 = .ok (.iconst 5, 1) := by decide +kernel
theorem dX10_whole_39 : decode cX10_whole 39 = .ok (.if_icmp .ne 12, 3) := by decide +kernel
theorem dX10_whole_42 : decode cX10_whole 42 = .ok (.aload_n 3, 1) := by decide +kernel
theorem dX10_whole_43 : decode cX10_whole 43 = .ok (.getfield 135, 3) := by decide +kernel
theorem dX10_whole_46 : decode cX10_whole 46 = .ok (.getfield 64, 3) := by decide +kernel
theorem dX10_whole_49 : decode cX10_whole 49 = .ok (.i2l, 1) := by decide +kernel
theorem dX10_whole_50 : decode cX10_whole 50 = .ok (.lreturn, 1) := by decide +kernel
theorem dX10_whole_51 : decode cX10_whole 51 = .ok (.aload_n 3, 1) := by decide +kernel
theorem dX10_whole_52 : decode cX10_whole 52 = .ok (.getfield 169, 3) := by decide +kernel
theorem dX10_whole_55 : decode cX10_whole 55 = .ok (.bipush 6, 2) := by decide +kernel
theorem dX10_whole_57 : decode cX10_whole 57 = .ok (.if_icmp .ne 11, 3) := by decide +kernel
theorem dX10_whole_60 : decode cX10_whole 60 = .ok (.aload_n 3, 1) := by decide +kernel
theorem dX10_whole_61 : decode cX10_whole 61 = .ok (.getfield 172, 3) := by decide +kernel
theorem dX10_whole_64 : decode cX10_whole 64 = .ok (.i2l, 1) := by decide +kernel
theorem dX10_whole_65 : decode cX10_whole 65 = .ok (.goto 4, 3) := by decide +kernel
theorem dX10_whole_68 : decode cX10_whole 68 = .ok (.lconst 0, 1) := by decide +kernel
theorem dX10_whole_69 : decode cX10_whole 69 = .ok (.lreturn, 1) := by decide +kernel
set_option maxRecDepth 20000 in
theorem ggX10_real_X10_partAt : GoodIn wsX10_real wsX10_partAt := goodIn_r _ [7, 8, 9, 10, 11, 6, 12, 13, 14, 15, 16, 17, 18, 19, 27, 28, 29, 30, 31, 32, 33, 34, 35, 20, 21, 22, 23, 24, 25, 26] (by decide +kernel) (by decide +kernel)
set_option maxRecDepth 20000 in
theorem gX10_real_X10_partAt : GoodIn wsX10_real (wsV RX10 226 RX10 yX10_partAt wsX10_partAt) := goodIn_app (goodIn_of _ (by decide +kernel)) ggX10_real_X10_partAt
theorem dX10_real_0 : decode cX10_real 0 = .ok (.aload_n 0, 1) := by decide +kernel
theorem dX10_real_1 : decode cX10_real 1 = .ok (.iload_n 1, 1) := by decide +kernel
theorem dX10_real_2 : decode cX10_real 2 = .ok (.iload_n 2, 1) := by decide +kernel
theorem dX10_real_3 : decode cX10_real 3 = .ok (.invokevirtual 226, 3) := by decide +kernel
theorem dX10_real_6 : decode cX10_real 6 = .ok (.astore_n 3, 1) := by decide +kernel
theorem dX10_real_7 : decode cX10_real 7 = .ok (.aload_n 3, 1) := by decide +kernel
theorem dX10_real_8 : decode cX10_real 8 = .ok (.ifnull 11, 3) := by decide +kernel
theorem dX10_real_11 : decode cX10_real 11 = .ok (.aload_n 3, 1) := by decide +kernel
theorem dX10_real_12 : decode cX10_real 12 = .ok (.getfield 169, 3) := by decide +kernel
theorem dX10_real_15 : decode cX10_real 15 = .ok (.iconst 4, 1) := by decide +kernel
theorem dX10_real_16 : decode cX10_real 16 = .ok (.if_icmp .eq 7, 3) := by decide +kernel
theorem dX10_real_19 : decode cX10_real 19 = .ok (.dconst 0, 1) := by decide +kernel
theorem dX10_real_20 : decode cX10_real 20 = .ok (.goto 7, 3) := by decide +kernel
theorem dX10_real_23 : decode cX10_real 23 = .ok (.aload_n 3, 1) := by decide +kernel
theorem dX10_real_24 : decode cX10_real 24 = .ok (.getfield 234, 3) := by decide +kernel
theorem dX10_real_27 : decode cX10_real 27 = .ok (.dreturn, 1) := by decide +kernel
set_option maxRecDepth 20000 in
theorem ggX10_sign_X10_partAt : GoodIn wsX10_sign wsX10_partAt := goodIn_r _ [7, 8, 9, 10, 11, 6, 12, 13, 14, 15, 16, 17, 18, 19, 34, 35, 36, 37, 38, 39, 40, 41, 42, 27, 28, 29, 30, 31, 32, 33] (by decide +kernel) (by decide +kernel)
set_option maxRecDepth 20000 in
theorem gX10_sign_X10_partAt : GoodIn wsX10_sign (wsV RX10 226 RX10 yX10_partAt wsX10_partAt) := goodIn_app (goodIn_of _ (by decide +kernel)) ggX10_sign_X10_partAt
set_option maxRecDepth 20000 in
theorem ggX10_sign_X7_at : GoodIn wsX10_sign wsX7_at := goodIn_r _ [24, 25, 26, 43, 44] (by decide +kernel) (by decide +kernel)
set_option maxRecDepth 20000 in
theorem gX10_sign_X7_at : GoodIn wsX10_sign (wsV RX10 238 RX7 yX7_at wsX7_at) := goodIn_app (goodIn_of _ (by decide +kernel)) ggX10_sign_X7_at
theorem dX10_sign_0 : decode cX10_sign 0 = .ok (.aload_n 0, 1) := by decide +kernel
theorem dX10_sign_1 : decode cX10_sign 1 = .ok (.iload_n 1, 1) := by decide +kernel
theorem dX10_sign_2 : decode cX10_sign 2 = .ok (.iload_n 2, 1) := by decide +kernel
theorem dX10_sign_3 : decode cX10_sign 3 = .ok (.invokevirtual 226, 3) := by decide +kernel
theorem dX10_sign_6 : decode cX10_sign 6 = .ok (.astore 4, 2) := by decide +kernel
theorem dX10_sign_8 : decode cX10_sign 8 = .ok (.aload 4, 2) := by decide +kernel
theorem dX10_sign_10 : decode cX10_sign 10 = .ok (.ifnull 12, 3) := by decide +kernel
theorem dX10_sign_13 : decode cX10_sign 13 = .ok (.aload 4, 2) := by decide +kernel
theorem dX10_sign_15 : decode cX10_sign 15 = .ok (.getfield 169, 3) := by decide +kernel
theorem dX10_sign_18 : decode cX10_sign 18 = .ok (.iconst 5, 1) := by decide +kernel
theorem dX10_sign_19 : decode cX10_sign 19 = .ok (.if_icmp .eq 6, 3) := by decide +kernel
theorem dX10_sign_22 : decode cX10_sign 22 = .ok (.bipush 32, 2) := by decide +kernel
theorem dX10_sign_24 : decode cX10_sign 24 = .ok (.ireturn, 1) := by decide +kernel
theorem dX10_sign_25 : decode cX10_sign 25 = .ok (.aload 4, 2) := by decide +kernel
theorem dX10_sign_27 : decode cX10_sign 27 = .ok (.getfield 135, 3) := by decide +kernel
theorem dX10_sign_30 : decode cX10_sign 30 = .ok (.iload_n 3, 1) := by decide +kernel
theorem dX10_sign_31 : decode cX10_sign 31 = .ok (.invokevirtual 238, 3) := by decide +kernel
theorem dX10_sign_34 : decode cX10_sign 34 = .ok (.istore 5, 2) := by decide +kernel
theorem dX10_sign_36 : decode cX10_sign 36 = .ok (.iload 5, 2) := by decide +kernel
theorem dX10_sign_38 : decode cX10_sign 38 = .ok (.ifCond .ne 8, 3) := by decide +kernel
theorem dX10_sign_41 : decode cX10_sign 41 = .ok (.bipush 32, 2) := by decide +kernel
theorem dX10_sign_43 : decode cX10_sign 43 = .ok (.goto 5, 3) := by decide +kernel
theorem dX10_sign_46 : decode cX10_sign 46 = .ok (.iload 5, 2) := by decide +kernel
theorem dX10_sign_48 : decode cX10_sign 48 = .ok (.ireturn, 1) := by decide +kernel
theorem dX10_operationAt_0 : decode cX10_operationAt 0 = .ok (.iload_n 1, 1) := by decide +kernel
theorem dX10_operationAt_1 : decode cX10_operationAt 1 = .ok (.ifCond .lt 21, 3) := by decide +kernel
theorem dX10_operationAt_4 : decode cX10_operationAt 4 = .ok (.iload_n 1, 1) := by decide +kernel
theorem dX10_operationAt_5 : decode cX10_operationAt 5 = .ok (.aload_n 0, 1) := by decide +kernel
theorem dX10_operationAt_6 : decode cX10_operationAt 6 = .ok (.getfield 27, 3) := by decide +kernel
theorem dX10_operationAt_9 : decode cX10_operationAt 9 = .ok (.arraylength, 1) := by decide +kernel
theorem dX10_operationAt_10 : decode cX10_operationAt 10 = .ok (.if_icmp .ge 12, 3) := by decide +kernel
theorem dX10_operationAt_13 : decode cX10_operationAt 13 = .ok (.aload_n 0, 1) := by decide +kernel
theorem dX10_operationAt_14 : decode cX10_operationAt 14 = .ok (.getfield 27, 3) := by decide +kernel
theorem dX10_operationAt_17 : decode cX10_operationAt 17 = .ok (.iload_n 1, 1) := by decide +kernel
theorem dX10_operationAt_18 : decode cX10_operationAt 18 = .ok (.aaload, 1) := by decide +kernel
theorem dX10_operationAt_19 : decode cX10_operationAt 19 = .ok (.goto 4, 3) := by decide +kernel
theorem dX10_operationAt_22 : decode cX10_operationAt 22 = .ok (.aconst_null, 1) := by decide +kernel
theorem dX10_operationAt_23 : decode cX10_operationAt 23 = .ok (.areturn, 1) := by decide +kernel
set_option maxRecDepth 20000 in
theorem ggX10_rowOfThings_X8_withItems : GoodIn wsX10_rowOfThings wsX8_withItems := goodIn_r _ [5, 6, 7, 4, 8, 9, 10, 11, 12, 13, 14, 15, 16, 17, 18, 19, 20, 21, 22, 23, 24, 25, 26, 27, 28, 29, 30, 31, 32, 33, 34, 35, 36, 37, 38, 39, 40, 41, 42, 43, 44, 45, 46, 47, 48, 49, 50, 51, 52, 53, 54, 55, 56, 57, 58, 59, 60, 61, 62, 63, 64, 65, 66, 67, 68, 69, 70, 71, 72, 73, 74, 75, 76, 77, 78, 79, 80, 81, 82, 83, 84, 85, 86, 87, 88, 89, 90, 91, 92, 93, 94, 95, 96, 97, 98, 99, 100, 101, 102, 103, 104, 105, 106, 107, 108, 109] (by decide +kernel) (by decide +kernel)
set_option maxRecDepth 20000 in
theorem gX10_rowOfThings_X8_withItems : GoodIn wsX10_rowOfThings (va_wsS RX10 242 yX8_withItems wsX8_withItems) := goodIn_app (goodIn_of _ (by decide +kernel)) ggX10_rowOfThings_X8_withItems
theorem dX10_rowOfThings_0 : decode cX10_rowOfThings 0 = .ok (.bipush 8, 2) := by decide +kernel
theorem dX10_rowOfThings_2 : decode cX10_rowOfThings 2 = .ok (.anewarray 120, 3) := by decide +kernel
theorem dX10_rowOfThings_5 : decode cX10_rowOfThings 5 = .ok (.astore_n 0, 1) := by decide +kernel
theorem dX10_rowOfThings_6 : decode cX10_rowOfThings 6 = .ok (.iconst 0, 1) := by decide +kernel
theorem dX10_rowOfThings_7 : decode cX10_rowOfThings 7 = .ok (.istore_n 1, 1) := by decide +kernel
theorem dX10_rowOfThings_8 : decode cX10_rowOfThings 8 = .ok (.iload_n 1, 1) := by decide +kernel
theorem dX10_rowOfThings_9 : decode cX10_rowOfThings 9 = .ok (.aload_n 0, 1) := by decide +kernel
theorem dX10_rowOfThings_10 : decode cX10_rowOfThings 10 = .ok (.arraylength, 1) := by decide +kernel
theorem dX10_rowOfThings_11 : decode cX10_rowOfThings 11 = .ok (.if_icmp .ge 15, 3) := by decide +kernel
theorem dX10_rowOfThings_14 : decode cX10_rowOfThings 14 = .ok (.aload_n 0, 1) := by decide +kernel
theorem dX10_rowOfThings_15 : decode cX10_rowOfThings 15 = .ok (.iload_n 1, 1) := by decide +kernel
theorem dX10_rowOfThings_16 : decode cX10_rowOfThings 16 = .ok (.invokestatic 242, 3) := by decide +kernel
theorem dX10_rowOfThings_19 : decode cX10_rowOfThings 19 = .ok (.aastore, 1) := by decide +kernel
theorem dX10_rowOfThings_20 : decode cX10_rowOfThings 20 = .ok (.iinc 1 1, 3) := by decide +kernel
theorem dX10_rowOfThings_23 : decode cX10_rowOfThings 23 = .ok (.goto (-15), 3) := by decide +kernel
theorem dX10_rowOfThings_26 : decode cX10_rowOfThings 26 = .ok (.aload_n 0, 1) := by decide +kernel
theorem dX10_rowOfThings_27 : decode cX10_rowOfThings 27 = .ok (.areturn, 1) := by decide +kernel
theorem dX10_thingAt_0 : decode cX10_thingAt 0 = .ok (.aload_n 0, 1) := by decide +kernel
theorem dX10_thingAt_1 : decode cX10_thingAt 1 = .ok (.ifnull 19, 3) := by decide +kernel
theorem dX10_thingAt_4 : decode cX10_thingAt 4 = .ok (.iload_n 1, 1) := by decide +kernel
theorem dX10_thingAt_5 : decode cX10_thingAt 5 = .ok (.ifCond .lt 15, 3) := by decide +kernel
theorem dX10_thingAt_8 : decode cX10_thingAt 8 = .ok (.iload_n 1, 1) := by decide +kernel
theorem dX10_thingAt_9 : decode cX10_thingAt 9 = .ok (.aload_n 0, 1) := by decide +kernel
theorem dX10_thingAt_10 : decode cX10_thingAt 10 = .ok (.arraylength, 1) := by decide +kernel
theorem dX10_thingAt_11 : decode cX10_thingAt 11 = .ok (.if_icmp .ge 9, 3) := by decide +kernel
theorem dX10_thingAt_14 : decode cX10_thingAt 14 = .ok (.aload_n 0, 1) := by decide +kernel
theorem dX10_thingAt_15 : decode cX10_thingAt 15 = .ok (.iload_n 1, 1) := by decide +kernel
theorem dX10_thingAt_16 : decode cX10_thingAt 16 = .ok (.aaload, 1) := by decide +kernel
theorem dX10_thingAt_17 : decode cX10_thingAt 17 = .ok (.goto 4, 3) := by decide +kernel
theorem dX10_thingAt_20 : decode cX10_thingAt 20 = .ok (.aconst_null, 1) := by decide +kernel
theorem dX10_thingAt_21 : decode cX10_thingAt 21 = .ok (.areturn, 1) := by decide +kernel
set_option maxRecDepth 20000 in
theorem ggX10_partAt_X10_thingAt : GoodIn wsX10_partAt wsX10_thingAt := goodIn_r _ [6] (by decide +kernel) (by decide +kernel)
set_option maxRecDepth 20000 in
theorem gX10_partAt_X10_thingAt : GoodIn wsX10_partAt (va_wsS RX10 111 yX10_thingAt wsX10_thingAt) := goodIn_app (goodIn_of _ (by decide +kernel)) ggX10_partAt_X10_thingAt
set_option maxRecDepth 20000 in
theorem ggX10_partAt_X8_itemAt : GoodIn wsX10_partAt wsX8_itemAt := goodIn_r _ [11, 12, 13, 4, 5, 6, 23, 24, 25, 26, 27, 28, 29] (by decide +kernel) (by decide +kernel)
set_option maxRecDepth 20000 in
theorem gX10_partAt_X8_itemAt : GoodIn wsX10_partAt (wsV RX10 246 RX8 yX8_itemAt wsX8_itemAt) := goodIn_app (goodIn_of _ (by decide +kernel)) ggX10_partAt_X8_itemAt
theorem dX10_partAt_0 : decode cX10_partAt 0 = .ok (.iload_n 1, 1) := by decide +kernel
theorem dX10_partAt_1 : decode cX10_partAt 1 = .ok (.aload_n 0, 1) := by decide +kernel
theorem dX10_partAt_2 : decode cX10_partAt 2 = .ok (.getfield 52, 3) := by decide +kernel
theorem dX10_partAt_5 : decode cX10_partAt 5 = .ok (.if_icmp .ge 14, 3) := by decide +kernel
theorem dX10_partAt_8 : decode cX10_partAt 8 = .ok (.aload_n 0, 1) := by decide +kernel
theorem dX10_partAt_9 : decode cX10_partAt 9 = .ok (.getfield 46, 3) := by decide +kernel
theorem dX10_partAt_12 : decode cX10_partAt 12 = .ok (.iload_n 1, 1) := by decide +kernel
theorem dX10_partAt_13 : decode cX10_partAt 13 = .ok (.invokestatic 111, 3) := by decide +kernel
theorem dX10_partAt_16 : decode cX10_partAt 16 = .ok (.goto 4, 3) := by decide +kernel
theorem dX10_partAt_19 : decode cX10_partAt 19 = .ok (.aconst_null, 1) := by decide +kernel
theorem dX10_partAt_20 : decode cX10_partAt 20 = .ok (.astore_n 3, 1) := by decide +kernel
theorem dX10_partAt_21 : decode cX10_partAt 21 = .ok (.aload_n 3, 1) := by decide +kernel
theorem dX10_partAt_22 : decode cX10_partAt 22 = .ok (.ifnull 8, 3) := by decide +kernel
theorem dX10_partAt_25 : decode cX10_partAt 25 = .ok (.iload_n 2, 1) := by decide +kernel
theorem dX10_partAt_26 : decode cX10_partAt 26 = .ok (.iconst (-1), 1) := by decide +kernel
theorem dX10_partAt_27 : decode cX10_partAt 27 = .ok (.if_icmp .ne 7, 3) := by decide +kernel
theorem dX10_partAt_30 : decode cX10_partAt 30 = .ok (.aload_n 3, 1) := by decide +kernel
theorem dX10_partAt_31 : decode cX10_partAt 31 = .ok (.goto 8, 3) := by decide +kernel
theorem dX10_partAt_34 : decode cX10_partAt 34 = .ok (.aload_n 3, 1) := by decide +kernel
theorem dX10_partAt_35 : decode cX10_partAt 35 = .ok (.iload_n 2, 1) := by decide +kernel
theorem dX10_partAt_36 : decode cX10_partAt 36 = .ok (.invokevirtual 246, 3) := by decide +kernel
theorem dX10_partAt_39 : decode cX10_partAt 39 = .ok (.areturn, 1) := by decide +kernel
theorem dX10_canBeTold_0 : decode cX10_canBeTold 0 = .ok (.dload_n 0, 1) := by decide +kernel
theorem dX10_canBeTold_1 : decode cX10_canBeTold 1 = .ok (.ldc2_w 250, 3) := by decide +kernel
theorem dX10_canBeTold_4 : decode cX10_canBeTold 4 = .ok (.dcmp .l, 1) := by decide +kernel
theorem dX10_canBeTold_5 : decode cX10_canBeTold 5 = .ok (.ifCond .lt 31, 3) := by decide +kernel
theorem dX10_canBeTold_8 : decode cX10_canBeTold 8 = .ok (.dload_n 0, 1) := by decide +kernel
theorem dX10_canBeTold_9 : decode cX10_canBeTold 9 = .ok (.ldc2_w 252, 3) := by decide +kernel
theorem dX10_canBeTold_12 : decode cX10_canBeTold 12 = .ok (.dcmp .g, 1) := by decide +kernel
theorem dX10_canBeTold_13 : decode cX10_canBeTold 13 = .ok (.ifCond .gt 23, 3) := by decide +kernel
theorem dX10_canBeTold_16 : decode cX10_canBeTold 16 = .ok (.dload_n 0, 1) := by decide +kernel
theorem dX10_canBeTold_17 : decode cX10_canBeTold 17 = .ok (.ldc2_w 254, 3) := by decide +kernel
theorem dX10_canBeTold_20 : decode cX10_canBeTold 20 = .ok (.dmul, 1) := by decide +kernel
theorem dX10_canBeTold_21 : decode cX10_canBeTold 21 = .ok (.dstore_n 2, 1) := by decide +kernel
theorem dX10_canBeTold_22 : decode cX10_canBeTold 22 = .ok (.dload_n 2, 1) := by decide +kernel
theorem dX10_canBeTold_23 : decode cX10_canBeTold 23 = .ok (.d2l, 1) := by decide +kernel
theorem dX10_canBeTold_24 : decode cX10_canBeTold 24 = .ok (.l2d, 1) := by decide +kernel
theorem dX10_canBeTold_25 : decode cX10_canBeTold 25 = .ok (.dload_n 2, 1) := by decide +kernel
theorem dX10_canBeTold_26 : decode cX10_canBeTold 26 = .ok (.dcmp .l, 1) := by decide +kernel
theorem dX10_canBeTold_27 : decode cX10_canBeTold 27 = .ok (.ifCond .ne 7, 3) := by decide +kernel
theorem dX10_canBeTold_30 : decode cX10_canBeTold 30 = .ok (.iconst 1, 1) := by decide +kernel
theorem dX10_canBeTold_31 : decode cX10_canBeTold 31 = .ok (.goto 4, 3) := by decide +kernel
theorem dX10_canBeTold_34 : decode cX10_canBeTold 34 = .ok (.iconst 0, 1) := by decide +kernel
theorem dX10_canBeTold_35 : decode cX10_canBeTold 35 = .ok (.ireturn, 1) := by decide +kernel
theorem dX10_canBeTold_36 : decode cX10_canBeTold 36 = .ok (.iconst 0, 1) := by decide +kernel
theorem dX10_canBeTold_37 : decode cX10_canBeTold 37 = .ok (.ireturn, 1) := by decide +kernel
set_option maxRecDepth 20000 in
theorem ggX10_findNumber_X4_read : GoodIn wsX10_findNumber wsX4_read := goodIn_r _ [8, 9, 10, 11, 12, 13, 14, 15, 16, 17, 18, 19, 20, 7, 21, 22, 23, 24, 25, 26, 27, 28, 29, 30, 31, 32, 33, 34, 58, 59, 60] (by decide +kernel) (by decide +kernel)
set_option maxRecDepth 20000 in
theorem gX10_findNumber_X4_read : GoodIn wsX10_findNumber (wsV RX10 256 RX4 yX4_read wsX4_read) := goodIn_app (goodIn_of _ (by decide +kernel)) ggX10_findNumber_X4_read
set_option maxRecDepth 20000 in
theorem ggX10_findNumber_X8_knowNumber : GoodIn wsX10_findNumber wsX8_knowNumber := goodIn_r _ [39, 40, 41, 51, 52, 53, 54, 55, 56, 57] (by decide +kernel) (by decide +kernel)
set_option maxRecDepth 20000 in
theorem gX10_findNumber_X8_knowNumber : GoodIn wsX10_findNumber (wsV RX10 127 RX8 yX8_knowNumber wsX8_knowNumber) := goodIn_app (goodIn_of _ (by decide +kernel)) ggX10_findNumber_X8_knowNumber
theorem dX10_findNumber_0 : decode cX10_findNumber 0 = .ok (.aload_n 0, 1) := by decide +kernel
theorem dX10_findNumber_1 : decode cX10_findNumber 1 = .ok (.getfield 42, 3) := by decide +kernel
theorem dX10_findNumber_4 : decode cX10_findNumber 4 = .ok (.aload_n 1, 1) := by decide +kernel
theorem dX10_findNumber_5 : decode cX10_findNumber 5 = .ok (.getfield 135, 3) := by decide +kernel
theorem dX10_findNumber_8 : decode cX10_findNumber 8 = .ok (.invokevirtual 256, 3) := by decide +kernel
theorem dX10_findNumber_11 : decode cX10_findNumber 11 = .ok (.istore_n 2, 1) := by decide +kernel
theorem dX10_findNumber_12 : decode cX10_findNumber 12 = .ok (.aload_n 1, 1) := by decide +kernel
theorem dX10_findNumber_13 : decode cX10_findNumber 13 = .ok (.iload_n 2, 1) := by decide +kernel
theorem dX10_findNumber_14 : decode cX10_findNumber 14 = .ok (.aload_n 0, 1) := by decide +kernel
theorem dX10_findNumber_15 : decode cX10_findNumber 15 = .ok (.getfield 42, 3) := by decide +kernel
theorem dX10_findNumber_18 : decode cX10_findNumber 18 = .ok (.getfield 260, 3) := by decide +kernel
theorem dX10_findNumber_21 : decode cX10_findNumber 21 = .ok (.invokevirtual 127, 3) := by decide +kernel
theorem dX10_findNumber_24 : decode cX10_findNumber 24 = .ok (.return_, 1) := by decide +kernel
theorem dX10_refuseAt_0 : decode cX10_refuseAt 0 = .ok (.aload_n 0, 1) := by decide +kernel
theorem dX10_refuseAt_1 : decode cX10_refuseAt 1 = .ok (.iload_n 1, 1) := by decide +kernel
theorem dX10_refuseAt_2 : decode cX10_refuseAt 2 = .ok (.putfield 56, 3) := by decide +kernel
theorem dX10_refuseAt_5 : decode cX10_refuseAt 5 = .ok (.bipush (-5), 2) := by decide +kernel
theorem dX10_refuseAt_7 : decode cX10_refuseAt 7 = .ok (.ireturn, 1) := by decide +kernel
set_option maxRecDepth 20000 in
theorem ggX10_convertSlots_X2_argumentAt : GoodIn wsX10_convertSlots wsX2_argumentAt := goodIn_r _ [7, 8, 9, 10, 11, 12, 13, 14, 159, 160, 161, 162, 163] (by decide +kernel) (by decide +kernel)
set_option maxRecDepth 20000 in
theorem gX10_convertSlots_X2_argumentAt : GoodIn wsX10_convertSlots (wsV RX10 263 RX2 yX2_argumentAt wsX2_argumentAt) := goodIn_app (goodIn_of _ (by decide +kernel)) ggX10_convertSlots_X2_argumentAt
set_option maxRecDepth 20000 in
theorem ggX10_convertSlots_X10_thingAt : GoodIn wsX10_convertSlots wsX10_thingAt := goodIn_r _ [18] (by decide +kernel) (by decide +kernel)
set_option maxRecDepth 20000 in
theorem gX10_convertSlots_X10_thingAt : GoodIn wsX10_convertSlots (va_wsS RX10 111 yX10_thingAt wsX10_thingAt) := goodIn_app (goodIn_of _ (by decide +kernel)) ggX10_convertSlots_X10_thingAt
set_option maxRecDepth 20000 in
theorem ggX10_convertSlots_X1_convert : GoodIn wsX10_convertSlots wsX1_convert := goodIn_r _ [22, 23, 24, 25, 26, 27, 28, 29, 30, 31, 32, 33, 34, 35, 36, 37, 38, 39, 40, 41, 42, 43, 44, 45, 46, 47, 48, 49, 50, 51, 52, 21, 53, 54, 55, 56, 57, 58, 59, 60, 61, 62, 63, 64, 65, 66, 67, 68, 69, 70, 71, 72, 73, 74, 75, 76, 77, 78, 79, 80, 81, 82, 83, 84, 16, 17, 18, 85, 86, 87, 88, 89, 90, 91, 92, 93, 94, 95, 96, 97, 98, 99, 100, 101, 102, 103, 104, 105, 106, 107, 12, 108, 109, 110, 111, 112, 113, 114, 115, 116, 117, 118, 119, 120, 121, 122, 123, 124, 125, 126, 127, 128, 129, 130, 131, 132, 133, 134, 135, 136, 137, 138, 139, 140, 141, 142, 143, 144, 145, 146, 147, 148, 149, 164, 165, 166, 167, 168, 169, 170, 171, 172, 173, 174, 175, 176, 177, 178, 179, 180] (by decide +kernel) (by decide +kernel)
set_option maxRecDepth 20000 in
theorem gX10_convertSlots_X1_convert : GoodIn wsX10_convertSlots (va_wsS RX10 267 yX1_convert wsX1_convert) := goodIn_app (goodIn_of _ (by decide +kernel)) ggX10_convertSlots_X1_convert
theorem dX10_convertSlots_0 : decode cX10_convertSlots 0 = .ok (.iload_n 2, 1) := by decide +kernel
theorem dX10_convertSlots_1 : decode cX10_convertSlots 1 = .ok (.istore 4, 2) := by decide +kernel
theorem dX10_convertSlots_3 : decode cX10_convertSlots 3 = .ok (.iload 4, 2) := by decide +kernel
theorem dX10_convertSlots_5 : decode cX10_convertSlots 5 = .ok (.iload_n 3, 1) := by decide +kernel
theorem dX10_convertSlots_6 : decode cX10_convertSlots 6 = .ok (.if_icmp .ge 69, 3) := by decide +kernel
theorem dX10_convertSlots_9 : decode cX10_convertSlots 9 = .ok (.aload_n 1, 1) := by decide +kernel
theorem dX10_convertSlots_10 : decode cX10_convertSlots 10 = .ok (.iload 4, 2) := by decide +kernel
theorem dX10_convertSlots_12 : decode cX10_convertSlots 12 = .ok (.invokevirtual 263, 3) := by decide +kernel
theorem dX10_convertSlots_15 : decode cX10_convertSlots 15 = .ok (.astore 5, 2) := by decide +kernel
theorem dX10_convertSlots_17 : decode cX10_convertSlots 17 = .ok (.aload_n 0, 1) := by decide +kernel
theorem dX10_convertSlots_18 : decode cX10_convertSlots 18 = .ok (.getfield 35, 3) := by decide +kernel
theorem dX10_convertSlots_21 : decode cX10_convertSlots 21 = .ok (.iload 4, 2) := by decide +kernel
theorem dX10_convertSlots_23 : decode cX10_convertSlots 23 = .ok (.invokestatic 111, 3) := by decide +kernel
theorem dX10_convertSlots_26 : decode cX10_convertSlots 26 = .ok (.astore 6, 2) := by decide +kernel
theorem dX10_convertSlots_28 : decode cX10_convertSlots 28 = .ok (.aload_n 0, 1) := by decide +kernel
theorem dX10_convertSlots_29 : decode cX10_convertSlots 29 = .ok (.getfield 49, 3) := by decide +kernel
theorem dX10_convertSlots_32 : decode cX10_convertSlots 32 = .ok (.iload 4, 2) := by decide +kernel
theorem dX10_convertSlots_34 : decode cX10_convertSlots 34 = .ok (.invokestatic 111, 3) := by decide +kernel
theorem dX10_convertSlots_37 : decode cX10_convertSlots 37 = .ok (.astore 7, 2) := by decide +kernel
theorem dX10_convertSlots_39 : decode cX10_convertSlots 39 = .ok (.aload 5, 2) := by decide +kernel
theorem dX10_convertSlots_41 : decode cX10_convertSlots 41 = .ok (.ifnull 25, 3) := by decide +kernel
theorem dX10_convertSlots_44 : decode cX10_convertSlots 44 = .ok (.aload 6, 2) := by decide +kernel
theorem dX10_convertSlots_46 : decode cX10_convertSlots 46 = .ok (.ifnull 20, 3) := by decide +kernel
theorem dX10_convertSlots_49 : decode cX10_convertSlots 49 = .ok (.aload 7, 2) := by decide +kernel
theorem dX10_convertSlots_51 : decode cX10_convertSlots 51 = .ok (.ifnull 15, 3) := by decide +kernel
theorem dX10_convertSlots_54 : decode cX10_convertSlots 54 = .ok (.aload 5, 2) := by decide +kernel
theorem dX10_convertSlots_56 : decode cX10_convertSlots 56 = .ok (.aload 6, 2) := by decide +kernel
theorem dX10_convertSlots_58 : decode cX10_convertSlots 58 = .ok (.aload 7, 2) := by decide +kernel
theorem dX10_convertSlots_60 : decode cX10_convertSlots 60 = .ok (.invokestatic 267, 3) := by decide +kernel
theorem dX10_convertSlots_63 : decode cX10_convertSlots 63 = .ok (.ifCond .ne 6, 3) := by decide +kernel
theorem dX10_convertSlots_66 : decode cX10_convertSlots 66 = .ok (.iload 4, 2) := by decide +kernel
theorem dX10_convertSlots_68 : decode cX10_convertSlots 68 = .ok (.ireturn, 1) := by decide +kernel
theorem dX10_convertSlots_69 : decode cX10_convertSlots 69 = .ok (.iinc 4 1, 3) := by decide +kernel
theorem dX10_convertSlots_72 : decode cX10_convertSlots 72 = .ok (.goto (-69), 3) := by decide +kernel
theorem dX10_convertSlots_75 : decode cX10_convertSlots 75 = .ok (.iconst (-1), 1) := by decide +kernel
theorem dX10_convertSlots_76 : decode cX10_convertSlots 76 = .ok (.ireturn, 1) := by decide +kernel
set_option maxRecDepth 20000 in
theorem ggX10_finish_X10_thingAt : GoodIn wsX10_finish wsX10_thingAt := goodIn_r _ [14] (by decide +kernel) (by decide +kernel)
set_option maxRecDepth 20000 in
theorem gX10_finish_X10_thingAt : GoodIn wsX10_finish (va_wsS RX10 111 yX10_thingAt wsX10_thingAt) := goodIn_app (goodIn_of _ (by decide +kernel)) ggX10_finish_X10_thingAt
set_option maxRecDepth 20000 in
theorem ggX10_finish_X8_become : GoodIn wsX10_finish wsX8_become := goodIn_r _ [19, 20, 21, 22, 23, 24, 25, 26, 41, 42, 43, 44, 45, 46, 47, 48, 49] (by decide +kernel) (by decide +kernel)
set_option maxRecDepth 20000 in
theorem gX10_finish_X8_become : GoodIn wsX10_finish (wsV RX10 145 RX8 yX8_become wsX8_become) := goodIn_app (goodIn_of _ (by decide +kernel)) ggX10_finish_X8_become
theorem dX10_finish_0 : decode cX10_finish 0 = .ok (.iload_n 2, 1) := by decide +kernel
theorem dX10_finish_1 : decode cX10_finish 1 = .ok (.istore_n 3, 1) := by decide +kernel
theorem dX10_finish_2 : decode cX10_finish 2 = .ok (.iload_n 3, 1) := by decide +kernel
theorem dX10_finish_3 : decode cX10_finish 3 = .ok (.aload_n 1, 1) := by decide +kernel
theorem dX10_finish_4 : decode cX10_finish 4 = .ok (.getfield 273, 3) := by decide +kernel
theorem dX10_finish_7 : decode cX10_finish 7 = .ok (.if_icmp .ge 30, 3) := by decide +kernel
theorem dX10_finish_10 : decode cX10_finish 10 = .ok (.aload_n 0, 1) := by decide +kernel
theorem dX10_finish_11 : decode cX10_finish 11 = .ok (.getfield 49, 3) := by decide +kernel
theorem dX10_finish_14 : decode cX10_finish 14 = .ok (.iload_n 3, 1) := by decide +kernel
theorem dX10_finish_15 : decode cX10_finish 15 = .ok (.invokestatic 111, 3) := by decide +kernel
theorem dX10_finish_18 : decode cX10_finish 18 = .ok (.astore 4, 2) := by decide +kernel
theorem dX10_finish_20 : decode cX10_finish 20 = .ok (.aload 4, 2) := by decide +kernel
theorem dX10_finish_22 : decode cX10_finish 22 = .ok (.ifnull 9, 3) := by decide +kernel
theorem dX10_finish_25 : decode cX10_finish 25 = .ok (.aload 4, 2) := by decide +kernel
theorem dX10_finish_27 : decode cX10_finish 27 = .ok (.iconst 0, 1) := by decide +kernel
theorem dX10_finish_28 : decode cX10_finish 28 = .ok (.invokevirtual 145, 3) := by decide +kernel
theorem dX10_finish_31 : decode cX10_finish 31 = .ok (.iinc 3 1, 3) := by decide +kernel
theorem dX10_finish_34 : decode cX10_finish 34 = .ok (.goto (-32), 3) := by decide +kernel
theorem dX10_finish_37 : decode cX10_finish 37 = .ok (.aload_n 0, 1) := by decide +kernel
theorem dX10_finish_38 : decode cX10_finish 38 = .ok (.getfield 46, 3) := by decide +kernel
theorem dX10_finish_41 : decode cX10_finish 41 = .ok (.astore_n 3, 1) := by decide +kernel
theorem dX10_finish_42 : decode cX10_finish 42 = .ok (.aload_n 0, 1) := by decide +kernel
theorem dX10_finish_43 : decode cX10_finish 43 = .ok (.aload_n 0, 1) := by decide +kernel
theorem dX10_finish_44 : decode cX10_finish 44 = .ok (.getfield 49, 3) := by decide +kernel
theorem dX10_finish_47 : decode cX10_finish 47 = .ok (.putfield 46, 3) := by decide +kernel
theorem dX10_finish_50 : decode cX10_finish 50 = .ok (.aload_n 0, 1) := by decide +kernel
theorem dX10_finish_51 : decode cX10_finish 51 = .ok (.aload_n 3, 1) := by decide +kernel
theorem dX10_finish_52 : decode cX10_finish 52 = .ok (.putfield 49, 3) := by decide +kernel
theorem dX10_finish_55 : decode cX10_finish 55 = .ok (.aload_n 0, 1) := by decide +kernel
theorem dX10_finish_56 : decode cX10_finish 56 = .ok (.iload_n 2, 1) := by decide +kernel
theorem dX10_finish_57 : decode cX10_finish 57 = .ok (.aload_n 1, 1) := by decide +kernel
theorem dX10_finish_58 : decode cX10_finish 58 = .ok (.getfield 273, 3) := by decide +kernel
theorem dX10_finish_61 : decode cX10_finish 61 = .ok (.invokestatic 206, 3) := by decide +kernel
theorem dX10_finish_64 : decode cX10_finish 64 = .ok (.putfield 52, 3) := by decide +kernel
theorem dX10_finish_67 : decode cX10_finish 67 = .ok (.aload_n 0, 1) := by decide +kernel
theorem dX10_finish_68 : decode cX10_finish 68 = .ok (.iconst (-1), 1) := by decide +kernel
theorem dX10_finish_69 : decode cX10_finish 69 = .ok (.putfield 56, 3) := by decide +kernel
theorem dX10_finish_72 : decode cX10_finish 72 = .ok (.aload_n 1, 1) := by decide +kernel
theorem dX10_finish_73 : decode cX10_finish 73 = .ok (.getfield 274, 3) := by decide +kernel
theorem dX10_finish_76 : decode cX10_finish 76 = .ok (.ireturn, 1) := by decide +kernel
theorem dX11_init_0 : decode cX11_init 0 = .ok (.aload_n 0, 1) := by decide +kernel
theorem dX11_init_1 : decode cX11_init 1 = .ok (.invokespecial 1, 3) := by decide +kernel
theorem dX11_init_4 : decode cX11_init 4 = .ok (.aload_n 0, 1) := by decide +kernel
theorem dX11_init_5 : decode cX11_init 5 = .ok (.bipush 100, 2) := by decide +kernel
theorem dX11_init_7 : decode cX11_init 7 = .ok (.newarray .char, 2) := by decide +kernel
theorem dX11_init_9 : decode cX11_init 9 = .ok (.putfield 7, 3) := by decide +kernel
theorem dX11_init_12 : decode cX11_init 12 = .ok (.aload_n 0, 1) := by decide +kernel
theorem dX11_init_13 : decode cX11_init 13 = .ok (.iconst (-1), 1) := by decide +kernel
theorem dX11_init_14 : decode cX11_init 14 = .ok (.putfield 13, 3) := by decide +kernel
theorem dX11_init_17 : decode cX11_init 17 = .ok (.aload_n 0, 1) := by decide +kernel
theorem dX11_init_18 : decode cX11_init 18 = .ok (.bipush 6, 2) := by decide +kernel
theorem dX11_init_20 : decode cX11_init 20 = .ok (.newarray .int, 2) := by decide +kernel
theorem dX11_init_22 : decode cX11_init 22 = .ok (.putfield 17, 3) := by decide +kernel
theorem dX11_init_25 : decode cX11_init 25 = .ok (.aload_n 0, 1) := by decide +kernel
theorem dX11_init_26 : decode cX11_init 26 = .ok (.bipush 37, 2) := by decide +kernel
theorem dX11_init_28 : decode cX11_init 28 = .ok (.newarray .int, 2) := by decide +kernel
theorem dX11_init_30 : decode cX11_init 30 = .ok (.putfield 21, 3) := by decide +kernel
theorem dX11_init_33 : decode cX11_init 33 = .ok (.aload_n 0, 1) := by decide +kernel
theorem dX11_init_34 : decode cX11_init 34 = .ok (.sipush 185, 3) := by decide +kernel
theorem dX11_init_37 : decode cX11_init 37 = .ok (.newarray .boolean, 2) := by decide +kernel
theorem dX11_init_39 : decode cX11_init 39 = .ok (.putfield 24, 3) := by decide +kernel
theorem dX11_init_42 : decode cX11_init 42 = .ok (.aload_n 0, 1) := by decide +kernel
theorem dX11_init_43 : decode cX11_init 43 = .ok (.sipush 185, 3) := by decide +kernel
theorem dX11_init_46 : decode cX11_init 46 = .ok (.newarray .boolean, 2) := by decide +kernel
theorem dX11_init_48 : decode cX11_init 48 = .ok (.putfield 28, 3) := by decide +kernel
theorem dX11_init_51 : decode cX11_init 51 = .ok (.aload_n 0, 1) := by decide +kernel
theorem dX11_init_52 : decode cX11_init 52 = .ok (.sipush 370, 3) := by decide +kernel
theorem dX11_init_55 : decode cX11_init 55 = .ok (.newarray .int, 2) := by decide +kernel
theorem dX11_init_57 : decode cX11_init 57 = .ok (.putfield 31, 3) := by decide +kernel
theorem dX11_init_60 : decode cX11_init 60 = .ok (.aload_n 0, 1) := by decide +kernel
theorem dX11_init_61 : decode cX11_init 61 = .ok (.sipush 370, 3) := by decide +kernel
theorem dX11_init_64 : decode cX11_init 64 = .ok (.newarray .int, 2) := by decide +kernel
theorem dX11_init_66 : decode cX11_init 66 = .ok (.putfield 34, 3) := by decide +kernel
theorem dX11_init_69 : decode cX11_init 69 = .ok (.aload_n 0, 1) := by decide +kernel
theorem dX11_init_70 : decode cX11_init 70 = .ok (.sipush 370, 3) := by decide +kernel
theorem dX11_init_73 : decode cX11_init 73 = .ok (.newarray .boolean, 2) := by decide +kernel
theorem dX11_init_75 : decode cX11_init 75 = .ok (.putfield 37, 3) := by decide +kernel
theorem dX11_init_78 : decode cX11_init 78 = .ok (.aload_n 0, 1) := by decide +kernel
theorem dX11_init_79 : decode cX11_init 79 = .ok (.sipush 370, 3) := by decide +kernel
theorem dX11_init_82 : decode cX11_init 82 = .ok (.newarray .int, 2) := by decide +kernel
theorem dX11_init_84 : decode cX11_init 84 = .ok (.putfield 40, 3) := by decide +kernel
theorem dX11_init_87 : decode cX11_init 87 = .ok (.aload_n 0, 1) := by decide +kernel
theorem dX11_init_88 : decode cX11_init 88 = .ok (.sipush 14800, 3) := by decide +kernel
theorem dX11_init_91 : decode cX11_init 91 = .ok (.newarray .char, 2) := by decide +kernel
theorem dX11_init_93 : decode cX11_init 93 = .ok (.putfield 43, 3) := by decide +kernel
theorem dX11_init_96 : decode cX11_init 96 = .ok (.aload_n 0, 1) := by decide +kernel
theorem dX11_init_97 : decode cX11_init 97 = .ok (.bipush 48, 2) := by decide +kernel
theorem dX11_init_99 : decode cX11_init 99 = .ok (.newarray .int, 2) := by decide +kernel
theorem dX11_init_101 : decode cX11_init 101 = .ok (.putfield 46, 3) := by decide +kernel
theorem dX11_init_104 : decode cX11_init 104 = .ok (.aload_n 0, 1) := by decide +kernel
theorem dX11_init_105 : decode cX11_init 105 = .ok (.bipush 48, 2) := by decide +kernel
theorem dX11_init_107 : decode cX11_init 107 = .ok (.newarray .boolean, 2) := by decide +kernel
theorem dX11_init_109 : decode cX11_init 109 = .ok (.putfield 49, 3) := by decide +kernel
theorem dX11_init_112 : decode cX11_init 112 = .ok (.aload_n 0, 1) := by decide +kernel
theorem dX11_init_113 : decode cX11_init 113 = .ok (.bipush 48, 2) := by decide +kernel
theorem dX11_init_115 : decode cX11_init 115 = .ok (.newarray .double, 2) := by decide +kernel
theorem dX11_init_117 : decode cX11_init 117 = .ok (.putfield 52, 3) := by decide +kernel
theorem dX11_init_120 : decode cX11_init 120 = .ok (.aload_n 0, 1) := by decide +kernel
theorem dX11_init_121 : decode cX11_init 121 = .ok (.bipush 48, 2) := by decide +kernel
theorem dX11_init_123 : decode cX11_init 123 = .ok (.newarray .int, 2) := by decide +kernel
theorem dX11_init_125 : decode cX11_init 125 = .ok (.putfield 56, 3) := by decide +kernel
theorem dX11_init_128 : decode cX11_init 128 = .ok (.aload_n 0, 1) := by decide +kernel
theorem dX11_init_129 : decode cX11_init 129 = .ok (.sipush 576, 3) := by decide +kernel
theorem dX11_init_132 : decode cX11_init 132 = .ok (.newarray .char, 2) := by decide +kernel
theorem dX11_init_134 : decode cX11_init 134 = .ok (.putfield 59, 3) := by decide +kernel
theorem dX11_init_137 : decode cX11_init 137 = .ok (.aload_n 0, 1) := by decide +kernel
theorem dX11_init_138 : decode cX11_init 138 = .ok (.bipush 96, 2) := by decide +kernel
theorem dX11_init_140 : decode cX11_init 140 = .ok (.newarray .int, 2) := by decide +kernel
theorem dX11_init_142 : decode cX11_init 142 = .ok (.putfield 62, 3) := by decide +kernel
theorem dX11_init_145 : decode cX11_init 145 = .ok (.aload_n 0, 1) := by decide +kernel
theorem dX11_init_146 : decode cX11_init 146 = .ok (.bipush 96, 2) := by decide +kernel
theorem dX11_init_148 : decode cX11_init 148 = .ok (.newarray .long, 2) := by decide +kernel
theorem dX11_init_150 : decode cX11_init 150 = .ok (.putfield 65, 3) := by decide +kernel
theorem dX11_init_153 : decode cX11_init 153 = .ok (.aload_n 0, 1) := by decide +kernel
theorem dX11_init_154 : decode cX11_init 154 = .ok (.bipush 96, 2) := by decide +kernel
theorem dX11_init_156 : decode cX11_init 156 = .ok (.newarray .double, 2) := by decide +kernel
theorem dX11_init_158 : decode cX11_init 158 = .ok (.putfield 69, 3) := by decide +kernel
theorem dX11_init_161 : decode cX11_init 161 = .ok (.aload_n 0, 1) := by decide +kernel
theorem dX11_init_162 : decode cX11_init 162 = .ok (.sipush 7680, 3) := by decide +kernel
theorem dX11_init_165 : decode cX11_init 165 = .ok (.newarray .char, 2) := by decide +kernel
theorem dX11_init_167 : decode cX11_init 167 = .ok (.putfield 72, 3) := by decide +kernel
theorem dX11_init_170 : decode cX11_init 170 = .ok (.aload_n 0, 1) := by decide +kernel
theorem dX11_init_171 : decode cX11_init 171 = .ok (.bipush 100, 2) := by decide +kernel
theorem dX11_init_173 : decode cX11_init 173 = .ok (.newarray .char, 2) := by decide +kernel
theorem dX11_init_175 : decode cX11_init 175 = .ok (.putfield 75, 3) := by decide +kernel
theorem dX11_init_178 : decode cX11_init 178 = .ok (.return_, 1) := by decide +kernel
theorem dX11_thrown_0 : decode cX11_thrown 0 = .ok (.aload_n 0, 1) := by decide +kernel
theorem dX11_thrown_1 : decode cX11_thrown 1 = .ok (.getfield 78, 3) := by decide +kernel
theorem dX11_thrown_4 : decode cX11_thrown 4 = .ok (.ireturn, 1) := by decide +kernel
theorem dX11_refused_0 : decode cX11_refused 0 = .ok (.aload_n 0, 1) := by decide +kernel
theorem dX11_refused_1 : decode cX11_refused 1 = .ok (.iload_n 1, 1) := by decide +kernel
theorem dX11_refused_2 : decode cX11_refused 2 = .ok (.putfield 78, 3) := by decide +kernel
theorem dX11_refused_5 : decode cX11_refused 5 = .ok (.iload_n 1, 1) := by decide +kernel
theorem dX11_refused_6 : decode cX11_refused 6 = .ok (.ifCond .le 7, 3) := by decide +kernel
theorem dX11_refused_9 : decode cX11_refused 9 = .ok (.iconst 1, 1) := by decide +kernel
theorem dX11_refused_10 : decode cX11_refused 10 = .ok (.goto 4, 3) := by decide +kernel
theorem dX11_refused_13 : decode cX11_refused 13 = .ok (.iconst 0, 1) := by decide +kernel
theorem dX11_refused_14 : decode cX11_refused 14 = .ok (.ireturn, 1) := by decide +kernel
theorem dX11_isIn_0 : decode cX11_isIn 0 = .ok (.iload_n 0, 1) := by decide +kernel
theorem dX11_isIn_1 : decode cX11_isIn 1 = .ok (.iload_n 1, 1) := by decide +kernel
theorem dX11_isIn_2 : decode cX11_isIn 2 = .ok (.if_icmp .lt 12, 3) := by decide +kernel
theorem dX11_isIn_5 : decode cX11_isIn 5 = .ok (.iload_n 0, 1) := by decide +kernel
theorem dX11_isIn_6 : decode cX11_isIn 6 = .ok (.iload_n 2, 1) := by decide +kernel
theorem dX11_isIn_7 : decode cX11_isIn 7 = .ok (.if_icmp .gt 7, 3) := by decide +kernel
theorem dX11_isIn_10 : decode cX11_isIn 10 = .ok (.iconst 1, 1) := by decide +kernel
theorem dX11_isIn_11 : decode cX11_isIn 11 = .ok (.goto 4, 3) := by decide +kernel
theorem dX11_isIn_14 : decode cX11_isIn 14 = .ok (.iconst 0, 1) := by decide +kernel
theorem dX11_isIn_15 : decode cX11_isIn 15 = .ok (.ireturn, 1) := by decide +kernel
theorem dX11_put_0 : decode cX11_put 0 = .ok (.iload_n 1, 1) := by decide +kernel
theorem dX11_put_1 : decode cX11_put 1 = .ok (.iload_n 2, 1) := by decide +kernel
theorem dX11_put_2 : decode cX11_put 2 = .ok (.ishr, 1) := by decide +kernel
theorem dX11_put_3 : decode cX11_put 3 = .ok (.sipush 255, 3) := by decide +kernel
theorem dX11_put_6 : decode cX11_put 6 = .ok (.iand, 1) := by decide +kernel
theorem dX11_put_7 : decode cX11_put 7 = .ok (.istore_n 3, 1) := by decide +kernel
theorem dX11_put_8 : decode cX11_put 8 = .ok (.iload_n 3, 1) := by decide +kernel
theorem dX11_put_9 : decode cX11_put 9 = .ok (.ifCond .le 33, 3) := by decide +kernel
theorem dX11_put_12 : decode cX11_put 12 = .ok (.aload_n 0, 1) := by decide +kernel
theorem dX11_put_13 : decode cX11_put 13 = .ok (.getfield 81, 3) := by decide +kernel
theorem dX11_put_16 : decode cX11_put 16 = .ok (.bipush 100, 2) := by decide +kernel
theorem dX11_put_18 : decode cX11_put 18 = .ok (.if_icmp .ge 14, 3) := by decide +kernel
theorem dX11_put_21 : decode cX11_put 21 = .ok (.aload_n 0, 1) := by decide +kernel
theorem dX11_put_22 : decode cX11_put 22 = .ok (.getfield 7, 3) := by decide +kernel
theorem dX11_put_25 : decode cX11_put 25 = .ok (.aload_n 0, 1) := by decide +kernel
theorem dX11_put_26 : decode cX11_put 26 = .ok (.getfield 81, 3) := by decide +kernel
theorem dX11_put_29 : decode cX11_put 29 = .ok (.iload_n 3, 1) := by decide +kernel
theorem dX11_put_30 : decode cX11_put 30 = .ok (.i2c, 1) := by decide +kernel
theorem dX11_put_31 : decode cX11_put 31 = .ok (.castore, 1) := by decide +kernel
theorem dX11_put_32 : decode cX11_put 32 = .ok (.aload_n 0, 1) := by decide +kernel
theorem dX11_put_33 : decode cX11_put 33 = .ok (.dup, 1) := by decide +kernel
theorem dX11_put_34 : decode cX11_put 34 = .ok (.getfield 81, 3) := by decide +kernel
theorem dX11_put_37 : decode cX11_put 37 = .ok (.iconst 1, 1) := by decide +kernel
theorem dX11_put_38 : decode cX11_put 38 = .ok (.iadd, 1) := by decide +kernel
theorem dX11_put_39 : decode cX11_put 39 = .ok (.putfield 81, 3) := by decide +kernel
theorem dX11_put_42 : decode cX11_put 42 = .ok (.return_, 1) := by decide +kernel
set_option maxRecDepth 20000 in
theorem ggX11_type_X11_put : GoodIn wsX11_type wsX11_put := goodIn_r _ [6, 1, 7, 13, 14, 15, 16, 17, 18, 19, 20, 21, 22, 23, 24, 25, 26, 27, 28, 29, 30, 31, 32, 33, 34, 35, 36, 37, 38, 39, 40] (by decide +kernel) (by decide +kernel)
set_option maxRecDepth 20000 in
theorem gX11_type_X11_put : GoodIn wsX11_type (wsV RX11 84 RX11 yX11_put wsX11_put) := goodIn_app (goodIn_of _ (by decide +kernel)) ggX11_type_X11_put
set_option maxRecDepth 20000 in
theorem ggX11_type_X11_refused : GoodIn wsX11_type wsX11_refused := goodIn_r _ [11, 12, 13, 14, 15, 16, 17, 18, 19, 20, 21, 22, 23, 24, 25, 26, 27, 28, 29, 30, 31, 32, 33, 34, 35, 36, 37, 38, 39, 40] (by decide +kernel) (by decide +kernel)
set_option maxRecDepth 20000 in
theorem gX11_type_X11_refused : GoodIn wsX11_type (wsV RX11 88 RX11 yX11_refused wsX11_refused) := goodIn_app (goodIn_of _ (by decide +kernel)) ggX11_type_X11_refused
theorem dX11_type_0 : decode cX11_type 0 = .ok (.aload_n 0, 1) := by decide +kernel
theorem dX11_type_1 : decode cX11_type 1 = .ok (.getfield 81, 3) := by decide +kernel
theorem dX11_type_4 : decode cX11_type 4 = .ok (.istore 6, 2) := by decide +kernel
theorem dX11_type_6 : decode cX11_type 6 = .ok (.iconst 0, 1) := by decide +kernel
theorem dX11_type_7 : decode cX11_type 7 = .ok (.istore 7, 2) := by decide +kernel
theorem dX11_type_9 : decode cX11_type 9 = .ok (.iload 7, 2) := by decide +kernel
theorem dX11_type_11 : decode cX11_type 11 = .ok (.iconst 5, 1) := by decide +kernel
theorem dX11_type_12 : decode cX11_type 12 = .ok (.if_icmp .ge 80, 3) := by decide +kernel
theorem dX11_type_15 : decode cX11_type 15 = .ok (.iload 7, 2) := by decide +kernel
theorem dX11_type_17 : decode cX11_type 17 = .ok (.ifCond .ne 7, 3) := by decide +kernel
theorem dX11_type_20 : decode cX11_type 20 = .ok (.iload_n 1, 1) := by decide +kernel
theorem dX11_type_21 : decode cX11_type 21 = .ok (.goto 36, 3) := by decide +kernel
theorem dX11_type_24 : decode cX11_type 24 = .ok (.iload 7, 2) := by decide +kernel
theorem dX11_type_26 : decode cX11_type 26 = .ok (.iconst 1, 1) := by decide +kernel
theorem dX11_type_27 : decode cX11_type 27 = .ok (.if_icmp .ne 7, 3) := by decide +kernel
theorem dX11_type_30 : decode cX11_type 30 = .ok (.iload_n 2, 1) := by decide +kernel
theorem dX11_type_31 : decode cX11_type 31 = .ok (.goto 26, 3) := by decide +kernel
theorem dX11_type_34 : decode cX11_type 34 = .ok (.iload 7, 2) := by decide +kernel
theorem dX11_type_36 : decode cX11_type 36 = .ok (.iconst 2, 1) := by decide +kernel
theorem dX11_type_37 : decode cX11_type 37 = .ok (.if_icmp .ne 7, 3) := by decide +kernel
theorem dX11_type_40 : decode cX11_type 40 = .ok (.iload_n 3, 1) := by decide +kernel
theorem dX11_type_41 : decode cX11_type 41 = .ok (.goto 16, 3) := by decide +kernel
theorem dX11_type_44 : decode cX11_type 44 = .ok (.iload 7, 2) := by decide +kernel
theorem dX11_type_46 : decode cX11_type 46 = .ok (.iconst 3, 1) := by decide +kernel
theorem dX11_type_47 : decode cX11_type 47 = .ok (.if_icmp .ne 8, 3) := by decide +kernel
theorem dX11_type_50 : decode cX11_type 50 = .ok (.iload 4, 2) := by decide +kernel
theorem dX11_type_52 : decode cX11_type 52 = .ok (.goto 5, 3) := by decide +kernel
theorem dX11_type_55 : decode cX11_type 55 = .ok (.iload 5, 2) := by decide +kernel
theorem dX11_type_57 : decode cX11_type 57 = .ok (.istore 8, 2) := by decide +kernel
theorem dX11_type_59 : decode cX11_type 59 = .ok (.bipush 24, 2) := by decide +kernel
theorem dX11_type_61 : decode cX11_type 61 = .ok (.istore 9, 2) := by decide +kernel
theorem dX11_type_63 : decode cX11_type 63 = .ok (.iload 9, 2) := by decide +kernel
theorem dX11_type_65 : decode cX11_type 65 = .ok (.ifCond .lt 21, 3) := by decide +kernel
theorem dX11_type_68 : decode cX11_type 68 = .ok (.aload_n 0, 1) := by decide +kernel
theorem dX11_type_69 : decode cX11_type 69 = .ok (.iload 8, 2) := by decide +kernel
theorem dX11_type_71 : decode cX11_type 71 = .ok (.iload 9, 2) := by decide +kernel
theorem dX11_type_73 : decode cX11_type 73 = .ok (.invokevirtual 84, 3) := by decide +kernel
theorem dX11_type_76 : decode cX11_type 76 = .ok (.iload 9, 2) := by decide +kernel
theorem dX11_type_78 : decode cX11_type 78 = .ok (.bipush 8, 2) := by decide +kernel
theorem dX11_type_80 : decode cX11_type 80 = .ok (.isub, 1) := by decide +kernel
theorem dX11_type_81 : decode cX11_type 81 = .ok (.istore 9, 2) := by decide +kernel
theorem dX11_type_83 : decode cX11_type 83 = .ok (.goto (-20), 3) := by decide +kernel
theorem dX11_type_86 : decode cX11_type 86 = .ok (.iinc 7 1, 3) := by decide +kernel
theorem dX11_type_89 : decode cX11_type 89 = .ok (.goto (-80), 3) := by decide +kernel
theorem dX11_type_92 : decode cX11_type 92 = .ok (.aload_n 0, 1) := by decide +kernel
theorem dX11_type_93 : decode cX11_type 93 = .ok (.aload_n 0, 1) := by decide +kernel
theorem dX11_type_94 : decode cX11_type 94 = .ok (.getfield 81, 3) := by decide +kernel
theorem dX11_type_97 : decode cX11_type 97 = .ok (.bipush 100, 2) := by decide +kernel
theorem dX11_type_99 : decode cX11_type 99 = .ok (.if_icmp .le 7, 3) := by decide +kernel
theorem dX11_type_102 : decode cX11_type 102 = .ok (.iconst 1, 1) := by decide +kernel
theorem dX11_type_103 : decode cX11_type 103 = .ok (.goto 4, 3) := by decide +kernel
theorem dX11_type_106 : decode cX11_type 106 = .ok (.iconst 0, 1) := by decide +kernel
theorem dX11_type_107 : decode cX11_type 107 = .ok (.invokevirtual 88, 3) := by decide +kernel
theorem dX11_type_110 : decode cX11_type 110 = .ok (.ifCond .eq 11, 3) := by decide +kernel
theorem dX11_type_113 : decode cX11_type 113 = .ok (.aload_n 0, 1) := by decide +kernel
theorem dX11_type_114 : decode cX11_type 114 = .ok (.iload 6, 2) := by decide +kernel
theorem dX11_type_116 : decode cX11_type 116 = .ok (.putfield 81, 3) := by decide +kernel
theorem dX11_type_119 : decode cX11_type 119 = .ok (.iconst 0, 1) := by decide +kernel
theorem dX11_type_120 : decode cX11_type 120 = .ok (.ireturn, 1) := by decide +kernel
theorem dX11_type_121 : decode cX11_type 121 = .ok (.aload_n 0, 1) := by decide +kernel
theorem dX11_type_122 : decode cX11_type 122 = .ok (.getfield 81, 3) := by decide +kernel
theorem dX11_type_125 : decode cX11_type 125 = .ok (.ireturn, 1) := by decide +kernel
theorem dX11_erase_0 : decode cX11_erase 0 = .ok (.aload_n 0, 1) := by decide +kernel
theorem dX11_erase_1 : decode cX11_erase 1 = .ok (.iconst 0, 1) := by decide +kernel
theorem dX11_erase_2 : decode cX11_erase 2 = .ok (.putfield 78, 3) := by decide +kernel
theorem dX11_erase_5 : decode cX11_erase 5 = .ok (.aload_n 0, 1) := by decide +kernel
theorem dX11_erase_6 : decode cX11_erase 6 = .ok (.getfield 81, 3) := by decide +kernel
theorem dX11_erase_9 : decode cX11_erase 9 = .ok (.istore_n 1, 1) := by decide +kernel
theorem dX11_erase_10 : decode cX11_erase 10 = .ok (.aload_n 0, 1) := by decide +kernel
theorem dX11_erase_11 : decode cX11_erase 11 = .ok (.iconst 0, 1) := by decide +kernel
theorem dX11_erase_12 : decode cX11_erase 12 = .ok (.putfield 81, 3) := by decide +kernel
theorem dX11_erase_15 : decode cX11_erase 15 = .ok (.iload_n 1, 1) := by decide +kernel
theorem dX11_erase_16 : decode cX11_erase 16 = .ok (.ireturn, 1) := by decide +kernel
theorem dX11_next_0 : decode cX11_next 0 = .ok (.aload_n 0, 1) := by decide +kernel
theorem dX11_next_1 : decode cX11_next 1 = .ok (.getfield 92, 3) := by decide +kernel
theorem dX11_next_4 : decode cX11_next 4 = .ok (.aload_n 0, 1) := by decide +kernel
theorem dX11_next_5 : decode cX11_next 5 = .ok (.getfield 81, 3) := by decide +kernel
theorem dX11_next_8 : decode cX11_next 8 = .ok (.if_icmp .ge 30, 3) := by decide +kernel
theorem dX11_next_11 : decode cX11_next 11 = .ok (.aload_n 0, 1) := by decide +kernel
theorem dX11_next_12 : decode cX11_next 12 = .ok (.getfield 7, 3) := by decide +kernel
theorem dX11_next_15 : decode cX11_next 15 = .ok (.aload_n 0, 1) := by decide +kernel
theorem dX11_next_16 : decode cX11_next 16 = .ok (.getfield 92, 3) := by decide +kernel
theorem dX11_next_19 : decode cX11_next 19 = .ok (.caload, 1) := by decide +kernel
theorem dX11_next_20 : decode cX11_next 20 = .ok (.bipush 32, 2) := by decide +kernel
theorem dX11_next_22 : decode cX11_next 22 = .ok (.if_icmp .ne 16, 3) := by decide +kernel
theorem dX11_next_25 : decode cX11_next 25 = .ok (.aload_n 0, 1) := by decide +kernel
theorem dX11_next_26 : decode cX11_next 26 = .ok (.dup, 1) := by decide +kernel
theorem dX11_next_27 : decode cX11_next 27 = .ok (.getfield 92, 3) := by decide +kernel
theorem dX11_next_30 : decode cX11_next 30 = .ok (.iconst 1, 1) := by decide +kernel
theorem dX11_next_31 : decode cX11_next 31 = .ok (.iadd, 1) := by decide +kernel
theorem dX11_next_32 : decode cX11_next 32 = .ok (.putfield 92, 3) := by decide +kernel
theorem dX11_next_35 : decode cX11_next 35 = .ok (.goto (-35), 3) := by decide +kernel
theorem dX11_next_38 : decode cX11_next 38 = .ok (.aload_n 0, 1) := by decide +kernel
theorem dX11_next_39 : decode cX11_next 39 = .ok (.getfield 92, 3) := by decide +kernel
theorem dX11_next_42 : decode cX11_next 42 = .ok (.aload_n 0, 1) := by decide +kernel
theorem dX11_next_43 : decode cX11_next 43 = .ok (.getfield 81, 3) := by decide +kernel
theorem dX11_next_46 : decode cX11_next 46 = .ok (.if_icmp .ge 15, 3) := by decide +kernel
theorem dX11_next_49 : decode cX11_next 49 = .ok (.aload_n 0, 1) := by decide +kernel
theorem dX11_next_50 : decode cX11_next 50 = .ok (.getfield 7, 3) := by decide +kernel
theorem dX11_next_53 : decode cX11_next 53 = .ok (.aload_n 0, 1) := by decide +kernel
theorem dX11_next_54 : decode cX11_next 54 = .ok (.getfield 92, 3) := by decide +kernel
theorem dX11_next_57 : decode cX11_next 57 = .ok (.caload, 1) := by decide +kernel
theorem dX11_next_58 : decode cX11_next 58 = .ok (.goto 4, 3) := by decide +kernel
theorem dX11_next_61 : decode cX11_next 61 = .ok (.iconst 0, 1) := by decide +kernel
theorem dX11_next_62 : decode cX11_next 62 = .ok (.ireturn, 1) := by decide +kernel
theorem dX11_wrong_0 : decode cX11_wrong 0 = .ok (.aload_n 0, 1) := by decide +kernel
theorem dX11_wrong_1 : decode cX11_wrong 1 = .ok (.getfield 95, 3) := by decide +kernel
theorem dX11_wrong_4 : decode cX11_wrong 4 = .ok (.ifCond .ne 8, 3) := by decide +kernel
theorem dX11_wrong_7 : decode cX11_wrong 7 = .ok (.aload_n 0, 1) := by decide +kernel
theorem dX11_wrong_8 : decode cX11_wrong 8 = .ok (.iload_n 1, 1) := by decide +kernel
theorem dX11_wrong_9 : decode cX11_wrong 9 = .ok (.putfield 13, 3) := by decide +kernel
theorem dX11_wrong_12 : decode cX11_wrong 12 = .ok (.aload_n 0, 1) := by decide +kernel
theorem dX11_wrong_13 : decode cX11_wrong 13 = .ok (.iconst 1, 1) := by decide +kernel
theorem dX11_wrong_14 : decode cX11_wrong 14 = .ok (.putfield 95, 3) := by decide +kernel
theorem dX11_wrong_17 : decode cX11_wrong 17 = .ok (.return_, 1) := by decide +kernel
set_option maxRecDepth 20000 in
theorem ggX11_takes_X11_next : GoodIn wsX11_takes wsX11_next := goodIn_r _ [7, 2, 8, 9, 10, 11, 12, 13, 14, 15, 16, 17, 18, 19, 20, 21, 22, 23, 24, 25, 26, 27, 28, 29, 30, 31, 32, 33, 34, 35, 36, 37] (by decide +kernel) (by decide +kernel)
set_option maxRecDepth 20000 in
theorem gX11_takes_X11_next : GoodIn wsX11_takes (wsV RX11 99 RX11 yX11_next wsX11_next) := goodIn_app (goodIn_of _ (by decide +kernel)) ggX11_takes_X11_next
theorem dX11_takes_0 : decode cX11_takes 0 = .ok (.aload_n 0, 1) := by decide +kernel
theorem dX11_takes_1 : decode cX11_takes 1 = .ok (.getfield 95, 3) := by decide +kernel
theorem dX11_takes_4 : decode cX11_takes 4 = .ok (.ifCond .ne 11, 3) := by decide +kernel
theorem dX11_takes_7 : decode cX11_takes 7 = .ok (.aload_n 0, 1) := by decide +kernel
theorem dX11_takes_8 : decode cX11_takes 8 = .ok (.invokevirtual 99, 3) := by decide +kernel
theorem dX11_takes_11 : decode cX11_takes 11 = .ok (.iload_n 1, 1) := by decide +kernel
theorem dX11_takes_12 : decode cX11_takes 12 = .ok (.if_icmp .eq 5, 3) := by decide +kernel
theorem dX11_takes_15 : decode cX11_takes 15 = .ok (.iconst 0, 1) := by decide +kernel
theorem dX11_takes_16 : decode cX11_takes 16 = .ok (.ireturn, 1) := by decide +kernel
theorem dX11_takes_17 : decode cX11_takes 17 = .ok (.aload_n 0, 1) := by decide +kernel
theorem dX11_takes_18 : decode cX11_takes 18 = .ok (.dup, 1) := by decide +kernel
theorem dX11_takes_19 : decode cX11_takes 19 = .ok (.getfield 92, 3) := by decide +kernel
theorem dX11_takes_22 : decode cX11_takes 22 = .ok (.iconst 1, 1) := by decide +kernel
theorem dX11_takes_23 : decode cX11_takes 23 = .ok (.iadd, 1) := by decide +kernel
theorem dX11_takes_24 : decode cX11_takes 24 = .ok (.putfield 92, 3) := by decide +kernel
theorem dX11_takes_27 : decode cX11_takes 27 = .ok (.iconst 1, 1) := by decide +kernel
theorem dX11_takes_28 : decode cX11_takes 28 = .ok (.ireturn, 1) := by decide +kernel
set_option maxRecDepth 20000 in
theorem ggX11_want_X11_takes : GoodIn wsX11_want wsX11_takes := goodIn_r _ [6, 7, 1, 8, 9, 10, 5, 11, 12, 13, 19, 20, 21, 22, 23, 24, 25, 26, 27, 28, 29, 30, 31, 32, 33, 34, 35, 36, 37, 38, 39, 40, 41, 42, 43, 44, 45, 46] (by decide +kernel) (by decide +kernel)
set_option maxRecDepth 20000 in
theorem gX11_want_X11_takes : GoodIn wsX11_want (wsV RX11 103 RX11 yX11_takes wsX11_takes) := goodIn_app (goodIn_of _ (by decide +kernel)) ggX11_want_X11_takes
set_option maxRecDepth 20000 in
theorem ggX11_want_X11_wrong : GoodIn wsX11_want wsX11_wrong := goodIn_r _ [17, 7, 18, 19, 20, 21, 22, 23, 24, 25, 26, 27, 28, 29, 30, 31, 32, 33, 34, 35, 36, 37, 38, 39, 40, 41, 42, 43, 44, 45, 46] (by decide +kernel) (by decide +kernel)
set_option maxRecDepth 20000 in
theorem gX11_want_X11_wrong : GoodIn wsX11_want (wsV RX11 107 RX11 yX11_wrong wsX11_wrong) := goodIn_app (goodIn_of _ (by decide +kernel)) ggX11_want_X11_wrong
theorem dX11_want_0 : decode cX11_want 0 = .ok (.aload_n 0, 1) := by decide +kernel
theorem dX11_want_1 : decode cX11_want 1 = .ok (.iload_n 1, 1) := by decide +kernel
theorem dX11_want_2 : decode cX11_want 2 = .ok (.invokevirtual 103, 3) := by decide +kernel
theorem dX11_want_5 : decode cX11_want 5 = .ok (.ifCond .ne 11, 3) := by decide +kernel
theorem dX11_want_8 : decode cX11_want 8 = .ok (.aload_n 0, 1) := by decide +kernel
theorem dX11_want_9 : decode cX11_want 9 = .ok (.aload_n 0, 1) := by decide +kernel
theorem dX11_want_10 : decode cX11_want 10 = .ok (.getfield 92, 3) := by decide +kernel
theorem dX11_want_13 : decode cX11_want 13 = .ok (.invokevirtual 107, 3) := by decide +kernel
theorem dX11_want_16 : decode cX11_want 16 = .ok (.return_, 1) := by decide +kernel
theorem dX11_isLetter_0 : decode cX11_isLetter 0 = .ok (.iload_n 0, 1) := by decide +kernel
theorem dX11_isLetter_1 : decode cX11_isLetter 1 = .ok (.bipush 97, 2) := by decide +kernel
theorem dX11_isLetter_3 : decode cX11_isLetter 3 = .ok (.if_icmp .lt 13, 3) := by decide +kernel
theorem dX11_isLetter_6 : decode cX11_isLetter 6 = .ok (.iload_n 0, 1) := by decide +kernel
theorem dX11_isLetter_7 : decode cX11_isLetter 7 = .ok (.bipush 122, 2) := by decide +kernel
theorem dX11_isLetter_9 : decode cX11_isLetter 9 = .ok (.if_icmp .gt 7, 3) := by decide +kernel
theorem dX11_isLetter_12 : decode cX11_isLetter 12 = .ok (.iconst 1, 1) := by decide +kernel
theorem dX11_isLetter_13 : decode cX11_isLetter 13 = .ok (.goto 4, 3) := by decide +kernel
theorem dX11_isLetter_16 : decode cX11_isLetter 16 = .ok (.iconst 0, 1) := by decide +kernel
theorem dX11_isLetter_17 : decode cX11_isLetter 17 = .ok (.ireturn, 1) := by decide +kernel
set_option maxRecDepth 20000 in
theorem ggX11_wordEnd_X11_next : GoodIn wsX11_wordEnd wsX11_next := goodIn_r _ [8, 1, 2, 3, 12, 13, 14, 15, 16, 17, 18, 19, 20, 21, 22, 23, 24, 25, 26, 27, 28, 29, 30, 31, 32, 33, 34, 35, 36, 37, 38, 39] (by decide +kernel) (by decide +kernel)
set_option maxRecDepth 20000 in
theorem gX11_wordEnd_X11_next : GoodIn wsX11_wordEnd (wsV RX11 99 RX11 yX11_next wsX11_next) := goodIn_app (goodIn_of _ (by decide +kernel)) ggX11_wordEnd_X11_next
set_option maxRecDepth 20000 in
theorem ggX11_wordEnd_X11_isLetter : GoodIn wsX11_wordEnd wsX11_isLetter := goodIn_r _ [11] (by decide +kernel) (by decide +kernel)
set_option maxRecDepth 20000 in
theorem gX11_wordEnd_X11_isLetter : GoodIn wsX11_wordEnd (va_wsS RX11 111 yX11_isLetter wsX11_isLetter) := goodIn_app (goodIn_of _ (by decide +kernel)) ggX11_wordEnd_X11_isLetter
theorem dX11_wordEnd_0 : decode cX11_wordEnd 0 = .ok (.aload_n 0, 1) := by decide +kernel
theorem dX11_wordEnd_1 : decode cX11_wordEnd 1 = .ok (.invokevirtual 99, 3) := by decide +kernel
theorem dX11_wordEnd_4 : decode cX11_wordEnd 4 = .ok (.pop, 1) := by decide +kernel
theorem dX11_wordEnd_5 : decode cX11_wordEnd 5 = .ok (.aload_n 0, 1) := by decide +kernel
theorem dX11_wordEnd_6 : decode cX11_wordEnd 6 = .ok (.getfield 92, 3) := by decide +kernel
theorem dX11_wordEnd_9 : decode cX11_wordEnd 9 = .ok (.istore_n 1, 1) := by decide +kernel
theorem dX11_wordEnd_10 : decode cX11_wordEnd 10 = .ok (.iload_n 1, 1) := by decide +kernel
theorem dX11_wordEnd_11 : decode cX11_wordEnd 11 = .ok (.aload_n 0, 1) := by decide +kernel
theorem dX11_wordEnd_12 : decode cX11_wordEnd 12 = .ok (.getfield 81, 3) := by decide +kernel
theorem dX11_wordEnd_15 : decode cX11_wordEnd 15 = .ok (.if_icmp .ge 21, 3) := by decide +kernel
theorem dX11_wordEnd_18 : decode cX11_wordEnd 18 = .ok (.aload_n 0, 1) := by decide +kernel
theorem dX11_wordEnd_19 : decode cX11_wordEnd 19 = .ok (.getfield 7, 3) := by decide +kernel
theorem dX11_wordEnd_22 : decode cX11_wordEnd 22 = .ok (.iload_n 1, 1) := by decide +kernel
theorem dX11_wordEnd_23 : decode cX11_wordEnd 23 = .ok (.caload, 1) := by decide +kernel
theorem dX11_wordEnd_24 : decode cX11_wordEnd 24 = .ok (.invokestatic 111, 3) := by decide +kernel
theorem dX11_wordEnd_27 : decode cX11_wordEnd 27 = .ok (.ifCond .eq 9, 3) := by decide +kernel
theorem dX11_wordEnd_30 : decode cX11_wordEnd 30 = .ok (.iinc 1 1, 3) := by decide +kernel
theorem dX11_wordEnd_33 : decode cX11_wordEnd 33 = .ok (.goto (-23), 3) := by decide +kernel
theorem dX11_wordEnd_36 : decode cX11_wordEnd 36 = .ok (.iload_n 1, 1) := by decide +kernel
theorem dX11_wordEnd_37 : decode cX11_wordEnd 37 = .ok (.ireturn, 1) := by decide +kernel
set_option maxRecDepth 20000 in
theorem ggX11_isWord_X11_wordEnd : GoodIn wsX11_isWord wsX11_wordEnd := goodIn_r _ [8, 1, 9, 2, 10, 11, 12, 7, 13, 14, 15, 16, 17, 18, 19, 20, 21, 22, 23, 24, 25, 26, 27, 28, 29, 30, 31, 32, 33, 34, 35, 36, 37, 38, 39, 40, 41, 42, 43, 44] (by decide +kernel) (by decide +kernel)
set_option maxRecDepth 20000 in
theorem gX11_isWord_X11_wordEnd : GoodIn wsX11_isWord (wsV RX11 114 RX11 yX11_wordEnd wsX11_wordEnd) := goodIn_app (goodIn_of _ (by decide +kernel)) ggX11_isWord_X11_wordEnd
theorem dX11_isWord_0 : decode cX11_isWord 0 = .ok (.iconst 0, 1) := by decide +kernel
theorem dX11_isWord_1 : decode cX11_isWord 1 = .ok (.istore_n 3, 1) := by decide +kernel
theorem dX11_isWord_2 : decode cX11_isWord 2 = .ok (.lload_n 1, 1) := by decide +kernel
theorem dX11_isWord_3 : decode cX11_isWord 3 = .ok (.lstore 4, 2) := by decide +kernel
theorem dX11_isWord_5 : decode cX11_isWord 5 = .ok (.lload 4, 2) := by decide +kernel
theorem dX11_isWord_7 : decode cX11_isWord 7 = .ok (.lconst 0, 1) := by decide +kernel
theorem dX11_isWord_8 : decode cX11_isWord 8 = .ok (.lcmp, 1) := by decide +kernel
theorem dX11_isWord_9 : decode cX11_isWord 9 = .ok (.ifCond .eq 16, 3) := by decide +kernel
theorem dX11_isWord_12 : decode cX11_isWord 12 = .ok (.iinc 3 1, 3) := by decide +kernel
theorem dX11_isWord_15 : decode cX11_isWord 15 = .ok (.lload 4, 2) := by decide +kernel
theorem dX11_isWord_17 : decode cX11_isWord 17 = .ok (.bipush 8, 2) := by decide +kernel
theorem dX11_isWord_19 : decode cX11_isWord 19 = .ok (.lshr, 1) := by decide +kernel
theorem dX11_isWord_20 : decode cX11_isWord 20 = .ok (.lstore 4, 2) := by decide +kernel
theorem dX11_isWord_22 : decode cX11_isWord 22 = .ok (.goto (-17), 3) := by decide +kernel
theorem dX11_isWord_25 : decode cX11_isWord 25 = .ok (.aload_n 0, 1) := by decide +kernel
theorem dX11_isWord_26 : decode cX11_isWord 26 = .ok (.invokevirtual 114, 3) := by decide +kernel
theorem dX11_isWord_29 : decode cX11_isWord 29 = .ok (.aload_n 0, 1) := by decide +kernel
theorem dX11_isWord_30 : decode cX11_isWord 30 = .ok (.getfield 92, 3) := by decide +kernel
theorem dX11_isWord_33 : decode cX11_isWord 33 = .ok (.isub, 1) := by decide +kernel
theorem dX11_isWord_34 : decode cX11_isWord 34 = .ok (.iload_n 3, 1) := by decide +kernel
theorem dX11_isWord_35 : decode cX11_isWord 35 = .ok (.if_icmp .ne 7, 3) := by decide +kernel
theorem dX11_isWord_38 : decode cX11_isWord 38 = .ok (.iconst 1, 1) := by decide +kernel
theorem dX11_isWord_39 : decode cX11_isWord 39 = .ok (.goto 4, 3) := by decide +kernel
theorem dX11_isWord_42 : decode cX11_isWord 42 = .ok (.iconst 0, 1) := by decide +kernel
theorem dX11_isWord_43 : decode cX11_isWord 43 = .ok (.istore 4, 2) := by decide +kernel
theorem dX11_isWord_45 : decode cX11_isWord 45 = .ok (.iconst 0, 1) := by decide +kernel
theorem dX11_isWord_46 : decode cX11_isWord 46 = .ok (.istore 5, 2) := by decide +kernel
theorem dX11_isWord_48 : decode cX11_isWord 48 = .ok (.iload 5, 2) := by decide +kernel
theorem dX11_isWord_50 : decode cX11_isWord 50 = .ok (.iload_n 3, 1) := by decide +kernel
theorem dX11_isWord_51 : decode cX11_isWord 51 = .ok (.if_icmp .ge 53, 3) := by decide +kernel
theorem dX11_isWord_54 : decode cX11_isWord 54 = .ok (.iload 4, 2) := by decide +kernel
theorem dX11_isWord_56 : decode cX11_isWord 56 = .ok (.ifCond .eq 48, 3) := by decide +kernel
theorem dX11_isWord_59 : decode cX11_isWord 59 = .ok (.aload_n 0, 1) := by decide +kernel
theorem dX11_isWord_60 : decode cX11_isWord 60 = .ok (.getfield 7, 3) := by decide +kernel
theorem dX11_isWord_63 : decode cX11_isWord 63 = .ok (.aload_n 0, 1) := by decide +kernel
theorem dX11_isWord_64 : decode cX11_isWord 64 = .ok (.getfield 92, 3) := by decide +kernel
theorem dX11_isWord_67 : decode cX11_isWord 67 = .ok (.iload 5, 2) := by decide +kernel
theorem dX11_isWord_69 : decode cX11_isWord 69 = .ok (.iadd, 1) := by decide +kernel
theorem dX11_isWord_70 : decode cX11_isWord 70 = .ok (.caload, 1) := by decide +kernel
theorem dX11_isWord_71 : decode cX11_isWord 71 = .ok (.lload_n 1, 1) := by decide +kernel
theorem dX11_isWord_72 : decode cX11_isWord 72 = .ok (.bipush 8, 2) := by decide +kernel
theorem dX11_isWord_74 : decode cX11_isWord 74 = .ok (.iload_n 3, 1) := by decide +kernel
theorem dX11_isWord_75 : decode cX11_isWord 75 = .ok (.iconst 1, 1) := by decide +kernel
theorem dX11_isWord_76 : decode cX11_isWord 76 = .ok (.isub, 1) := by decide +kernel
theorem dX11_isWord_77 : decode cX11_isWord 77 = .ok (.iload 5, 2) := by decide +kernel
theorem dX11_isWord_79 : decode cX11_isWord 79 = .ok (.isub, 1) := by decide +kernel
theorem dX11_isWord_80 : decode cX11_isWord 80 = .ok (.imul, 1) := by decide +kernel
theorem dX11_isWord_81 : decode cX11_isWord 81 = .ok (.lshr, 1) := by decide +kernel
theorem dX11_isWord_82 : decode cX11_isWord 82 = .ok (.ldc2_w 118, 3) := by decide +kernel
theorem dX11_isWord_85 : decode cX11_isWord 85 = .ok (.land, 1) := by decide +kernel
theorem dX11_isWord_86 : decode cX11_isWord 86 = .ok (.l2i, 1) := by decide +kernel
theorem dX11_isWord_87 : decode cX11_isWord 87 = .ok (.i2c, 1) := by decide +kernel
theorem dX11_isWord_88 : decode cX11_isWord 88 = .ok (.if_icmp .ne 7, 3) := by decide +kernel
theorem dX11_isWord_91 : decode cX11_isWord 91 = .ok (.iconst 1, 1) := by decide +kernel
theorem dX11_isWord_92 : decode cX11_isWord 92 = .ok (.goto 4, 3) := by decide +kernel
theorem dX11_isWord_95 : decode cX11_isWord 95 = .ok (.iconst 0, 1) := by decide +kernel
theorem dX11_isWord_96 : decode cX11_isWord 96 = .ok (.istore 4, 2) := by decide +kernel
theorem dX11_isWord_98 : decode cX11_isWord 98 = .ok (.iinc 5 1, 3) := by decide +kernel
theorem dX11_isWord_101 : decode cX11_isWord 101 = .ok (.goto (-53), 3) := by decide +kernel
theorem dX11_isWord_104 : decode cX11_isWord 104 = .ok (.iload 4, 2) := by decide +kernel
theorem dX11_isWord_106 : decode cX11_isWord 106 = .ok (.ireturn, 1) := by decide +kernel
set_option maxRecDepth 20000 in
theorem ggX11_typeHere_X11_isWord : GoodIn wsX11_typeHere wsX11_isWord := goodIn_r _ [15, 16, 17, 18, 19, 20, 21, 14, 22, 23, 24, 25, 26, 27, 28, 29, 30, 31, 32, 33, 34, 35, 36, 37, 38, 39, 40, 41, 42, 43, 44, 45, 46, 47, 48, 49, 50, 51, 52, 53, 54, 55, 56, 57, 58] (by decide +kernel) (by decide +kernel)
set_option maxRecDepth 20000 in
theorem gX11_typeHere_X11_isWord : GoodIn wsX11_typeHere (wsV RX11 122 RX11 yX11_isWord wsX11_isWord) := goodIn_app (goodIn_of _ (by decide +kernel)) ggX11_typeHere_X11_isWord
theorem dX11_typeHere_0 : decode cX11_typeHere 0 = .ok (.aload_n 0, 1) := by decide +kernel
theorem dX11_typeHere_1 : decode cX11_typeHere 1 = .ok (.ldc2_w 120, 3) := by decide +kernel
theorem dX11_typeHere_4 : decode cX11_typeHere 4 = .ok (.invokevirtual 122, 3) := by decide +kernel
theorem dX11_typeHere_7 : decode cX11_typeHere 7 = .ok (.ifCond .eq 7, 3) := by decide +kernel
theorem dX11_typeHere_10 : decode cX11_typeHere 10 = .ok (.iconst 0, 1) := by decide +kernel
theorem dX11_typeHere_11 : decode cX11_typeHere 11 = .ok (.goto 134, 3) := by decide +kernel
theorem dX11_typeHere_14 : decode cX11_typeHere 14 = .ok (.aload_n 0, 1) := by decide +kernel
theorem dX11_typeHere_15 : decode cX11_typeHere 15 = .ok (.ldc2_w 126, 3) := by decide +kernel
theorem dX11_typeHere_18 : decode cX11_typeHere 18 = .ok (.invokevirtual 122, 3) := by decide +kernel
theorem dX11_typeHere_21 : decode cX11_typeHere 21 = .ok (.ifCond .eq 7, 3) := by decide +kernel
theorem dX11_typeHere_24 : decode cX11_typeHere 24 = .ok (.iconst 1, 1) := by decide +kernel
theorem dX11_typeHere_25 : decode cX11_typeHere 25 = .ok (.goto 120, 3) := by decide +kernel
theorem dX11_typeHere_28 : decode cX11_typeHere 28 = .ok (.aload_n 0, 1) := by decide +kernel
theorem dX11_typeHere_29 : decode cX11_typeHere 29 = .ok (.ldc2_w 128, 3) := by decide +kernel
theorem dX11_typeHere_32 : decode cX11_typeHere 32 = .ok (.invokevirtual 122, 3) := by decide +kernel
theorem dX11_typeHere_35 : decode cX11_typeHere 35 = .ok (.ifCond .eq 7, 3) := by decide +kernel
theorem dX11_typeHere_38 : decode cX11_typeHere 38 = .ok (.iconst 2, 1) := by decide +kernel
theorem dX11_typeHere_39 : decode cX11_typeHere 39 = .ok (.goto 106, 3) := by decide +kernel
theorem dX11_typeHere_42 : decode cX11_typeHere 42 = .ok (.aload_n 0, 1) := by decide +kernel
theorem dX11_typeHere_43 : decode cX11_typeHere 43 = .ok (.ldc2_w 130, 3) := by decide +kernel
theorem dX11_typeHere_46 : decode cX11_typeHere 46 = .ok (.invokevirtual 122, 3) := by decide +kernel
theorem dX11_typeHere_49 : decode cX11_typeHere 49 = .ok (.ifCond .eq 7, 3) := by decide +kernel
theorem dX11_typeHere_52 : decode cX11_typeHere 52 = .ok (.iconst 3, 1) := by decide +kernel
theorem dX11_typeHere_53 : decode cX11_typeHere 53 = .ok (.goto 92, 3) := by decide +kernel
theorem dX11_typeHere_56 : decode cX11_typeHere 56 = .ok (.aload_n 0, 1) := by decide +kernel
theorem dX11_typeHere_57 : decode cX11_typeHere 57 = .ok (.ldc2_w 132, 3) := by decide +kernel
theorem dX11_typeHere_60 : decode cX11_typeHere 60 = .ok (.invokevirtual 122, 3) := by decide +kernel
theorem dX11_typeHere_63 : decode cX11_typeHere 63 = .ok (.ifCond .eq 7, 3) := by decide +kernel
theorem dX11_typeHere_66 : decode cX11_typeHere 66 = .ok (.iconst 4, 1) := by decide +kernel
theorem dX11_typeHere_67 : decode cX11_typeHere 67 = .ok (.goto 78, 3) := by decide +kernel
theorem dX11_typeHere_70 : decode cX11_typeHere 70 = .ok (.aload_n 0, 1) := by decide +kernel
theorem dX11_typeHere_71 : decode cX11_typeHere 71 = .ok (.ldc2_w 134, 3) := by decide +kernel
theorem dX11_typeHere_74 : decode cX11_typeHere 74 = .ok (.invokevirtual 122, 3) := by decide +kernel
theorem dX11_typeHere_77 : decode cX11_typeHere 77 = .ok (.ifCond .eq 7, 3) := by decide +kernel
theorem dX11_typeHere_80 : decode cX11_typeHere 80 = .ok (.iconst 5, 1) := by decide +kernel
theorem dX11_typeHere_81 : decode cX11_typeHere 81 = .ok (.goto 64, 3) := by decide +kernel
theorem dX11_typeHere_84 : decode cX11_typeHere 84 = .ok (.aload_n 0, 1) := by decide +kernel
theorem dX11_typeHere_85 : decode cX11_typeHere 85 = .ok (.ldc2_w 136, 3) := by decide +kernel
theorem dX11_typeHere_88 : decode cX11_typeHere 88 = .ok (.invokevirtual 122, 3) := by decide +kernel
theorem dX11_typeHere_91 : decode cX11_typeHere 91 = .ok (.ifCond .eq 8, 3) := by decide +kernel
theorem dX11_typeHere_94 : decode cX11_typeHere 94 = .ok (.bipush 6, 2) := by decide +kernel
theorem dX11_typeHere_96 : decode cX11_typeHere 96 = .ok (.goto 49, 3) := by decide +kernel
theorem dX11_typeHere_99 : decode cX11_typeHere 99 = .ok (.aload_n 0, 1) := by decide +kernel
theorem dX11_typeHere_100 : decode cX11_typeHere 100 = .ok (.ldc2_w 138, 3) := by decide +kernel
theorem dX11_typeHere_103 : decode cX11_typeHere 103 = .ok (.invokevirtual 122, 3) := by decide +kernel
theorem dX11_typeHere_106 : decode cX11_typeHere 106 = .ok (.ifCond .eq 8, 3) := by decide +kernel
theorem dX11_typeHere_109 : decode cX11_typeHere 109 = .ok (.bipush 7, 2) := by decide +kernel
theorem dX11_typeHere_111 : decode cX11_typeHere 111 = .ok (.goto 34, 3) := by decide +kernel
theorem dX11_typeHere_114 : decode cX11_typeHere 114 = .ok (.aload_n 0, 1) := by decide +kernel
theorem dX11_typeHere_115 : decode cX11_typeHere 115 = .ok (.ldc2_w 140, 3) := by decide +kernel
theorem dX11_typeHere_118 : decode cX11_typeHere 118 = .ok (.invokevirtual 122, 3) := by decide +kernel
theorem dX11_typeHere_121 : decode cX11_typeHere 121 = .ok (.ifCond .eq 8, 3) := by decide +kernel
theorem dX11_typeHere_124 : decode cX11_typeHere 124 = .ok (.bipush 8, 2) := by decide +kernel
theorem dX11_typeHere_126 : decode cX11_typeHere 126 = .ok (.goto 19, 3) := by decide +kernel
theorem dX11_typeHere_129 : decode cX11_typeHere 129 = .ok (.aload_n 0, 1) := by decide +kernel
theorem dX11_typeHere_130 : decode cX11_typeHere 130 = .ok (.ldc2_w 142, 3) := by decide +kernel
theorem dX11_typeHere_133 : decode cX11_typeHere 133 = .ok (.invokevirtual 122, 3) := by decide +kernel
theorem dX11_typeHere_136 : decode cX11_typeHere 136 = .ok (.ifCond .eq 8, 3) := by decide +kernel
theorem dX11_typeHere_139 : decode cX11_typeHere 139 = .ok (.bipush 9, 2) := by decide +kernel
theorem dX11_typeHere_141 : decode cX11_typeHere 141 = .ok (.goto 4, 3) := by decide +kernel
theorem dX11_typeHere_144 : decode cX11_typeHere 144 = .ok (.iconst (-1), 1) := by decide +kernel
theorem dX11_typeHere_145 : decode cX11_typeHere 145 = .ok (.ireturn, 1) := by decide +kernel
theorem dX11_isSameWord_0 : decode cX11_isSameWord 0 = .ok (.iconst 1, 1) := by decide +kernel
theorem dX11_isSameWord_1 : decode cX11_isSameWord 1 = .ok (.istore_n 3, 1) := by decide +kernel
theorem dX11_isSameWord_2 : decode cX11_isSameWord 2 = .ok (.iconst 0, 1) := by decide +kernel
theorem dX11_isSameWord_3 : decode cX11_isSameWord 3 = .ok (.istore 4, 2) := by decide +kernel
theorem dX11_isSameWord_5 : decode cX11_isSameWord 5 = .ok (.iload 4, 2) := by decide +kernel
theorem dX11_isSameWord_7 : decode cX11_isSameWord 7 = .ok (.bipush 8, 2) := by decide +kernel
theorem dX11_isSameWord_9 : decode cX11_isSameWord 9 = .ok (.if_icmp .ge 46, 3) := by decide +kernel
theorem dX11_isSameWord_12 : decode cX11_isSameWord 12 = .ok (.iload_n 3, 1) := by decide +kernel
theorem dX11_isSameWord_13 : decode cX11_isSameWord 13 = .ok (.ifCond .eq 34, 3) := by decide +kernel
theorem dX11_isSameWord_16 : decode cX11_isSameWord 16 = .ok (.aload_n 0, 1) := by decide +kernel
theorem dX11_isSameWord_17 : decode cX11_isSameWord 17 = .ok (.getfield 43, 3) := by decide +kernel
theorem dX11_isSameWord_20 : decode cX11_isSameWord 20 = .ok (.bipush 8, 2) := by decide +kernel
theorem dX11_isSameWord_22 : decode cX11_isSameWord 22 = .ok (.iload_n 1, 1) := by decide +kernel
theorem dX11_isSameWord_23 : decode cX11_isSameWord 23 = .ok (.imul, 1) := by decide +kernel
theorem dX11_isSameWord_24 : decode cX11_isSameWord 24 = .ok (.iload 4, 2) := by decide +kernel
theorem dX11_isSameWord_26 : decode cX11_isSameWord 26 = .ok (.iadd, 1) := by decide +kernel
theorem dX11_isSameWord_27 : decode cX11_isSameWord 27 = .ok (.caload, 1) := by decide +kernel
theorem dX11_isSameWord_28 : decode cX11_isSameWord 28 = .ok (.aload_n 0, 1) := by decide +kernel
theorem dX11_isSameWord_29 : decode cX11_isSameWord 29 = .ok (.getfield 43, 3) := by decide +kernel
theorem dX11_isSameWord_32 : decode cX11_isSameWord 32 = .ok (.bipush 8, 2) := by decide +kernel
theorem dX11_isSameWord_34 : decode cX11_isSameWord 34 = .ok (.iload_n 2, 1) := by decide +kernel
theorem dX11_isSameWord_35 : decode cX11_isSameWord 35 = .ok (.imul, 1) := by decide +kernel
theorem dX11_isSameWord_36 : decode cX11_isSameWord 36 = .ok (.iload 4, 2) := by decide +kernel
theorem dX11_isSameWord_38 : decode cX11_isSameWord 38 = .ok (.iadd, 1) := by decide +kernel
theorem dX11_isSameWord_39 : decode cX11_isSameWord 39 = .ok (.caload, 1) := by decide +kernel
theorem dX11_isSameWord_40 : decode cX11_isSameWord 40 = .ok (.if_icmp .ne 7, 3) := by decide +kernel
theorem dX11_isSameWord_43 : decode cX11_isSameWord 43 = .ok (.iconst 1, 1) := by decide +kernel
theorem dX11_isSameWord_44 : decode cX11_isSameWord 44 = .ok (.goto 4, 3) := by decide +kernel
theorem dX11_isSameWord_47 : decode cX11_isSameWord 47 = .ok (.iconst 0, 1) := by decide +kernel
theorem dX11_isSameWord_48 : decode cX11_isSameWord 48 = .ok (.istore_n 3, 1) := by decide +kernel
theorem dX11_isSameWord_49 : decode cX11_isSameWord 49 = .ok (.iinc 4 1, 3) := by decide +kernel
theorem dX11_isSameWord_52 : decode cX11_isSameWord 52 = .ok (.goto (-47), 3) := by decide +kernel
theorem dX11_isSameWord_55 : decode cX11_isSameWord 55 = .ok (.iload_n 3, 1) := by decide +kernel
theorem dX11_isSameWord_56 : decode cX11_isSameWord 56 = .ok (.ireturn, 1) := by decide +kernel
set_option maxRecDepth 20000 in
theorem ggX11_readWord_X11_wordEnd : GoodIn wsX11_readWord wsX11_wordEnd := goodIn_r _ [9, 2, 10, 4, 11, 12, 13, 8, 14, 15, 16, 17, 28, 29, 30, 31, 32, 33, 34, 35, 36, 37, 38, 39, 40, 41, 42, 43, 44, 45, 46, 47, 48, 49, 50, 51, 52, 53, 54, 55] (by decide +kernel) (by decide +kernel)
set_option maxRecDepth 20000 in
theorem gX11_readWord_X11_wordEnd : GoodIn wsX11_readWord (wsV RX11 114 RX11 yX11_wordEnd wsX11_wordEnd) := goodIn_app (goodIn_of _ (by decide +kernel)) ggX11_readWord_X11_wordEnd
set_option maxRecDepth 20000 in
theorem ggX11_readWord_X11_wrong : GoodIn wsX11_readWord wsX11_wrong := goodIn_r _ [21, 22, 23, 28, 29, 30, 31, 32, 33, 34, 35, 36, 37, 38, 39, 40, 41, 42, 43, 44, 45, 46, 47, 48, 49, 50, 51, 52, 53, 54, 55] (by decide +kernel) (by decide +kernel)
set_option maxRecDepth 20000 in
theorem gX11_readWord_X11_wrong : GoodIn wsX11_readWord (wsV RX11 107 RX11 yX11_wrong wsX11_wrong) := goodIn_app (goodIn_of _ (by decide +kernel)) ggX11_readWord_X11_wrong
set_option maxRecDepth 20000 in
theorem ggX11_readWord_X11_isSameWord : GoodIn wsX11_readWord wsX11_isSameWord := goodIn_r _ [27, 3, 28, 29, 30, 31, 32, 33, 34, 35, 36, 37, 38, 39, 40, 41, 42, 43, 44, 45, 46, 47, 48, 49, 50, 51, 52, 53, 54, 55] (by decide +kernel) (by decide +kernel)
set_option maxRecDepth 20000 in
theorem gX11_readWord_X11_isSameWord : GoodIn wsX11_readWord (wsV RX11 144 RX11 yX11_isSameWord wsX11_isSameWord) := goodIn_app (goodIn_of _ (by decide +kernel)) ggX11_readWord_X11_isSameWord
theorem dX11_readWord_0 : decode cX11_readWord 0 = .ok (.iconst 5, 1) := by decide +kernel
theorem dX11_readWord_1 : decode cX11_readWord 1 = .ok (.iload_n 1, 1) := by decide +kernel
theorem dX11_readWord_2 : decode cX11_readWord 2 = .ok (.imul, 1) := by decide +kernel
theorem dX11_readWord_3 : decode cX11_readWord 3 = .ok (.aload_n 0, 1) := by decide +kernel
theorem dX11_readWord_4 : decode cX11_readWord 4 = .ok (.getfield 40, 3) := by decide +kernel
theorem dX11_readWord_7 : decode cX11_readWord 7 = .ok (.iload_n 1, 1) := by decide +kernel
theorem dX11_readWord_8 : decode cX11_readWord 8 = .ok (.iaload, 1) := by decide +kernel
theorem dX11_readWord_9 : decode cX11_readWord 9 = .ok (.iadd, 1) := by decide +kernel
theorem dX11_readWord_10 : decode cX11_readWord 10 = .ok (.istore_n 2, 1) := by decide +kernel
theorem dX11_readWord_11 : decode cX11_readWord 11 = .ok (.aload_n 0, 1) := by decide +kernel
theorem dX11_readWord_12 : decode cX11_readWord 12 = .ok (.invokevirtual 114, 3) := by decide +kernel
theorem dX11_readWord_15 : decode cX11_readWord 15 = .ok (.istore_n 3, 1) := by decide +kernel
theorem dX11_readWord_16 : decode cX11_readWord 16 = .ok (.iload_n 3, 1) := by decide +kernel
theorem dX11_readWord_17 : decode cX11_readWord 17 = .ok (.aload_n 0, 1) := by decide +kernel
theorem dX11_readWord_18 : decode cX11_readWord 18 = .ok (.getfield 92, 3) := by decide +kernel
theorem dX11_readWord_21 : decode cX11_readWord 21 = .ok (.isub, 1) := by decide +kernel
theorem dX11_readWord_22 : decode cX11_readWord 22 = .ok (.istore 4, 2) := by decide +kernel
theorem dX11_readWord_24 : decode cX11_readWord 24 = .ok (.iload 4, 2) := by decide +kernel
theorem dX11_readWord_26 : decode cX11_readWord 26 = .ok (.iconst 1, 1) := by decide +kernel
theorem dX11_readWord_27 : decode cX11_readWord 27 = .ok (.if_icmp .lt 10, 3) := by decide +kernel
theorem dX11_readWord_30 : decode cX11_readWord 30 = .ok (.iload 4, 2) := by decide +kernel
theorem dX11_readWord_32 : decode cX11_readWord 32 = .ok (.bipush 8, 2) := by decide +kernel
theorem dX11_readWord_34 : decode cX11_readWord 34 = .ok (.if_icmp .le 12, 3) := by decide +kernel
theorem dX11_readWord_37 : decode cX11_readWord 37 = .ok (.aload_n 0, 1) := by decide +kernel
theorem dX11_readWord_38 : decode cX11_readWord 38 = .ok (.aload_n 0, 1) := by decide +kernel
theorem dX11_readWord_39 : decode cX11_readWord 39 = .ok (.getfield 92, 3) := by decide +kernel
theorem dX11_readWord_42 : decode cX11_readWord 42 = .ok (.invokevirtual 107, 3) := by decide +kernel
theorem dX11_readWord_45 : decode cX11_readWord 45 = .ok (.return_, 1) := by decide +kernel
theorem dX11_readWord_46 : decode cX11_readWord 46 = .ok (.iconst 0, 1) := by decide +kernel
theorem dX11_readWord_47 : decode cX11_readWord 47 = .ok (.istore 5, 2) := by decide +kernel
theorem dX11_readWord_49 : decode cX11_readWord 49 = .ok (.iload 5, 2) := by decide +kernel
theorem dX11_readWord_51 : decode cX11_readWord 51 = .ok (.bipush 8, 2) := by decide +kernel
theorem dX11_readWord_53 : decode cX11_readWord 53 = .ok (.if_icmp .ge 44, 3) := by decide +kernel
theorem dX11_readWord_56 : decode cX11_readWord 56 = .ok (.aload_n 0, 1) := by decide +kernel
theorem dX11_readWord_57 : decode cX11_readWord 57 = .ok (.getfield 43, 3) := by decide +kernel
theorem dX11_readWord_60 : decode cX11_readWord 60 = .ok (.bipush 8, 2) := by decide +kernel
theorem dX11_readWord_62 : decode cX11_readWord 62 = .ok (.iload_n 2, 1) := by decide +kernel
theorem dX11_readWord_63 : decode cX11_readWord 63 = .ok (.imul, 1) := by decide +kernel
theorem dX11_readWord_64 : decode cX11_readWord 64 = .ok (.iload 5, 2) := by decide +kernel
theorem dX11_readWord_66 : decode cX11_readWord 66 = .ok (.iadd, 1) := by decide +kernel
theorem dX11_readWord_67 : decode cX11_readWord 67 = .ok (.iload 5, 2) := by decide +kernel
theorem dX11_readWord_69 : decode cX11_readWord 69 = .ok (.iload 4, 2) := by decide +kernel
theorem dX11_readWord_71 : decode cX11_readWord 71 = .ok (.if_icmp .ge 18, 3) := by decide +kernel
theorem dX11_readWord_74 : decode cX11_readWord 74 = .ok (.aload_n 0, 1) := by decide +kernel
theorem dX11_readWord_75 : decode cX11_readWord 75 = .ok (.getfield 7, 3) := by decide +kernel
theorem dX11_readWord_78 : decode cX11_readWord 78 = .ok (.aload_n 0, 1) := by decide +kernel
theorem dX11_readWord_79 : decode cX11_readWord 79 = .ok (.getfield 92, 3) := by decide +kernel
theorem dX11_readWord_82 : decode cX11_readWord 82 = .ok (.iload 5, 2) := by decide +kernel
theorem dX11_readWord_84 : decode cX11_readWord 84 = .ok (.iadd, 1) := by decide +kernel
theorem dX11_readWord_85 : decode cX11_readWord 85 = .ok (.caload, 1) := by decide +kernel
theorem dX11_readWord_86 : decode cX11_readWord 86 = .ok (.goto 4, 3) := by decide +kernel
theorem dX11_readWord_89 : decode cX11_readWord 89 = .ok (.iconst 0, 1) := by decide +kernel
theorem dX11_readWord_90 : decode cX11_readWord 90 = .ok (.castore, 1) := by decide +kernel
theorem dX11_readWord_91 : decode cX11_readWord 91 = .ok (.iinc 5 1, 3) := by decide +kernel
theorem dX11_readWord_94 : decode cX11_readWord 94 = .ok (.goto (-45), 3) := by decide +kernel
theorem dX11_readWord_97 : decode cX11_readWord 97 = .ok (.iconst 5, 1) := by decide +kernel
theorem dX11_readWord_98 : decode cX11_readWord 98 = .ok (.iload_n 1, 1) := by decide +kernel
theorem dX11_readWord_99 : decode cX11_readWord 99 = .ok (.imul, 1) := by decide +kernel
theorem dX11_readWord_100 : decode cX11_readWord 100 = .ok (.istore 5, 2) := by decide +kernel
theorem dX11_readWord_102 : decode cX11_readWord 102 = .ok (.iload 5, 2) := by decide +kernel
theorem dX11_readWord_104 : decode cX11_readWord 104 = .ok (.iload_n 2, 1) := by decide +kernel
theorem dX11_readWord_105 : decode cX11_readWord 105 = .ok (.if_icmp .ge 27, 3) := by decide +kernel
theorem dX11_readWord_108 : decode cX11_readWord 108 = .ok (.aload_n 0, 1) := by decide +kernel
theorem dX11_readWord_109 : decode cX11_readWord 109 = .ok (.iload 5, 2) := by decide +kernel
theorem dX11_readWord_111 : decode cX11_readWord 111 = .ok (.iload_n 2, 1) := by decide +kernel
theorem dX11_readWord_112 : decode cX11_readWord 112 = .ok (.invokevirtual 144, 3) := by decide +kernel
theorem dX11_readWord_115 : decode cX11_readWord 115 = .ok (.ifCond .eq 11, 3) := by decide +kernel
theorem dX11_readWord_118 : decode cX11_readWord 118 = .ok (.aload_n 0, 1) := by decide +kernel
theorem dX11_readWord_119 : decode cX11_readWord 119 = .ok (.aload_n 0, 1) := by decide +kernel
theorem dX11_readWord_120 : decode cX11_readWord 120 = .ok (.getfield 92, 3) := by decide +kernel
theorem dX11_readWord_123 : decode cX11_readWord 123 = .ok (.invokevirtual 107, 3) := by decide +kernel
theorem dX11_readWord_126 : decode cX11_readWord 126 = .ok (.iinc 5 1, 3) := by decide +kernel
theorem dX11_readWord_129 : decode cX11_readWord 129 = .ok (.goto (-27), 3) := by decide +kernel
theorem dX11_readWord_132 : decode cX11_readWord 132 = .ok (.aload_n 0, 1) := by decide +kernel
theorem dX11_readWord_133 : decode cX11_readWord 133 = .ok (.getfield 40, 3) := by decide +kernel
theorem dX11_readWord_136 : decode cX11_readWord 136 = .ok (.iload_n 1, 1) := by decide +kernel
theorem dX11_readWord_137 : decode cX11_readWord 137 = .ok (.dup2, 1) := by decide +kernel
theorem dX11_readWord_138 : decode cX11_readWord 138 = .ok (.iaload, 1) := by decide +kernel
theorem dX11_readWord_139 : decode cX11_readWord 139 = .ok (.iconst 1, 1) := by decide +kernel
theorem dX11_readWord_140 : decode cX11_readWord 140 = .ok (.iadd, 1) := by decide +kernel
theorem dX11_readWord_141 : decode cX11_readWord 141 = .ok (.iastore, 1) := by decide +kernel
theorem dX11_readWord_142 : decode cX11_readWord 142 = .ok (.aload_n 0, 1) := by decide +kernel
theorem dX11_readWord_143 : decode cX11_readWord 143 = .ok (.iload_n 3, 1) := by decide +kernel
theorem dX11_readWord_144 : decode cX11_readWord 144 = .ok (.putfield 92, 3) := by decide +kernel
theorem dX11_readWord_147 : decode cX11_readWord 147 = .ok (.return_, 1) := by decide +kernel
set_option maxRecDepth 20000 in
theorem ggX11_readWords_X11_want : GoodIn wsX11_readWords wsX11_want := goodIn_r _ [7, 8, 9, 10, 11, 6, 12, 2, 13, 14, 15, 16, 17, 18, 19, 20, 21, 22, 23, 40, 41, 42, 43, 44, 45, 46, 47, 48, 49, 50, 51, 52, 53, 54, 55, 56, 57, 58, 59, 60, 61, 62, 63, 64, 65, 66, 67] (by decide +kernel) (by decide +kernel)
set_option maxRecDepth 20000 in
theorem gX11_readWords_X11_want : GoodIn wsX11_readWords (wsV RX11 148 RX11 yX11_want wsX11_want) := goodIn_app (goodIn_of _ (by decide +kernel)) ggX11_readWords_X11_want
set_option maxRecDepth 20000 in
theorem ggX11_readWords_X11_readWord : GoodIn wsX11_readWords wsX11_readWord := goodIn_r _ [27, 1, 8, 28, 18, 29, 30, 31, 6, 32, 17, 13, 14, 15, 16, 33, 34, 35, 19, 20, 21, 22, 2, 23, 36, 37, 38, 39, 40, 41, 42, 43, 44, 45, 46, 47, 48, 49, 50, 51, 52, 53, 54, 55, 56, 57, 58, 59, 60, 61, 62, 63, 64, 65, 66, 67] (by decide +kernel) (by decide +kernel)
set_option maxRecDepth 20000 in
theorem gX11_readWords_X11_readWord : GoodIn wsX11_readWords (wsV RX11 152 RX11 yX11_readWord wsX11_readWord) := goodIn_app (goodIn_of _ (by decide +kernel)) ggX11_readWords_X11_readWord
set_option maxRecDepth 20000 in
theorem ggX11_readWords_X11_takes : GoodIn wsX11_readWords wsX11_takes := goodIn_r _ [12, 2, 8, 13, 14, 15, 6, 16, 17, 18, 40, 41, 42, 43, 44, 45, 46, 47, 48, 49, 50, 51, 52, 53, 54, 55, 56, 57, 58, 59, 60, 61, 62, 63, 64, 65, 66, 67] (by decide +kernel) (by decide +kernel)
set_option maxRecDepth 20000 in
theorem gX11_readWords_X11_takes : GoodIn wsX11_readWords (wsV RX11 103 RX11 yX11_takes wsX11_takes) := goodIn_app (goodIn_of _ (by decide +kernel)) ggX11_readWords_X11_takes
theorem dX11_readWords_0 : decode cX11_readWords 0 = .ok (.aload_n 0, 1) := by decide +kernel
theorem dX11_readWords_1 : decode cX11_readWords 1 = .ok (.getfield 40, 3) := by decide +kernel
theorem dX11_readWords_4 : decode cX11_readWords 4 = .ok (.iload_n 1, 1) := by decide +kernel
