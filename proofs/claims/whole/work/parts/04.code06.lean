theorem dX10_number_0 : decode cX10_number 0 = .ok (.aload_n 0, 1) := by decide +kernel
theorem dX10_number_1 : decode cX10_number 1 = .ok (.getfield 35, 3) := by decide +kernel
theorem dX10_number_4 : decode cX10_number 4 = .ok (.iload_n 1, 1) := by decide +kernel
theorem dX10_number_5 : decode cX10_number 5 = .ok (.invokestatic 111, 3) := by decide +kernel
theorem dX10_number_8 : decode cX10_number 8 = .ok (.astore 4, 2) := by decide +kernel
theorem dX10_number_10 : decode cX10_number 10 = .ok (.aload 4, 2) := by decide +kernel
theorem dX10_number_12 : decode cX10_number 12 = .ok (.ifnull 10, 3) := by decide +kernel
theorem dX10_number_15 : decode cX10_number 15 = .ok (.dload_n 2, 1) := by decide +kernel
theorem dX10_number_16 : decode cX10_number 16 = .ok (.invokestatic 152, 3) := by decide +kernel
theorem dX10_number_19 : decode cX10_number 19 = .ok (.ifCond .ne 13, 3) := by decide +kernel
theorem dX10_number_22 : decode cX10_number 22 = .ok (.new 100, 3) := by decide +kernel
theorem dX10_number_25 : decode cX10_number 25 = .ok (.dup, 1) := by decide +kernel
theorem dX10_number_26 : decode cX10_number 26 = .ok (.ldc 156, 2) := by decide +kernel
theorem dX10_number_28 : decode cX10_number 28 = .ok (.invokespecial 104, 3) := by decide +kernel
theorem dX10_number_31 : decode cX10_number 31 = .ok (.athrow, 1) := by decide +kernel
theorem dX10_number_32 : decode cX10_number 32 = .ok (.aload 4, 2) := by decide +kernel
theorem dX10_number_34 : decode cX10_number 34 = .ok (.dload_n 2, 1) := by decide +kernel
theorem dX10_number_35 : decode cX10_number 35 = .ok (.invokevirtual 158, 3) := by decide +kernel
theorem dX10_number_38 : decode cX10_number 38 = .ok (.aload 4, 2) := by decide +kernel
theorem dX10_number_40 : decode cX10_number 40 = .ok (.getfield 135, 3) := by decide +kernel
theorem dX10_number_43 : decode cX10_number 43 = .ok (.dload_n 2, 1) := by decide +kernel
theorem dX10_number_44 : decode cX10_number 44 = .ok (.invokevirtual 162, 3) := by decide +kernel
theorem dX10_number_47 : decode cX10_number 47 = .ok (.return_, 1) := by decide +kernel
set_option maxRecDepth 20000 in
theorem ggX10_text_X10_thingAt : GoodIn wsX10_text wsX10_thingAt := goodIn_r _ [9] (by decide +kernel) (by decide +kernel)
set_option maxRecDepth 20000 in
theorem gX10_text_X10_thingAt : GoodIn wsX10_text (va_wsS RX10 111 yX10_thingAt wsX10_thingAt) := goodIn_app (goodIn_of _ (by decide +kernel)) ggX10_text_X10_thingAt
set_option maxRecDepth 20000 in
theorem ggX10_text_X8_become : GoodIn wsX10_text wsX8_become := goodIn_r _ [14, 15, 16, 17, 18, 19, 20, 21, 80, 81, 82, 83, 84, 85, 86, 87, 88] (by decide +kernel) (by decide +kernel)
set_option maxRecDepth 20000 in
theorem gX10_text_X8_become : GoodIn wsX10_text (wsV RX10 145 RX8 yX8_become wsX8_become) := goodIn_app (goodIn_of _ (by decide +kernel)) ggX10_text_X8_become
set_option maxRecDepth 20000 in
theorem ggX10_text_X7_appendSigns : GoodIn wsX10_text wsX7_appendSigns := goodIn_r _ [26, 27, 28, 29, 25, 30, 31, 32, 87, 88] (by decide +kernel) (by decide +kernel)
set_option maxRecDepth 20000 in
theorem gX10_text_X7_appendSigns : GoodIn wsX10_text (wsV RX10 74 RX7 yX7_appendSigns wsX7_appendSigns) := goodIn_app (goodIn_of _ (by decide +kernel)) ggX10_text_X7_appendSigns
set_option maxRecDepth 20000 in
theorem ggX10_text_X10_findNumber : GoodIn wsX10_text wsX10_findNumber := goodIn_r _ [36, 37, 4, 38, 39, 40, 41, 42, 43, 44, 45, 46, 47, 48, 25, 49, 31, 32, 50, 51, 52, 53, 54, 55, 56, 57, 58, 59, 60, 61, 62, 63, 64, 65, 66, 67, 68, 69, 13, 70, 18, 17, 71, 72, 73, 74, 75, 76, 77, 78, 79, 80, 81, 82, 83, 84, 85, 86, 89, 87, 88] (by decide +kernel) (by decide +kernel)
set_option maxRecDepth 20000 in
theorem gX10_text_X10_findNumber : GoodIn wsX10_text (wsV RX10 148 RX10 yX10_findNumber wsX10_findNumber) := goodIn_app (goodIn_of _ (by decide +kernel)) ggX10_text_X10_findNumber
theorem dX10_text_0 : decode cX10_text 0 = .ok (.aload_n 0, 1) := by decide +kernel
theorem dX10_text_1 : decode cX10_text 1 = .ok (.getfield 35, 3) := by decide +kernel
theorem dX10_text_4 : decode cX10_text 4 = .ok (.iload_n 1, 1) := by decide +kernel
theorem dX10_text_5 : decode cX10_text 5 = .ok (.invokestatic 111, 3) := by decide +kernel
theorem dX10_text_8 : decode cX10_text 8 = .ok (.astore 5, 2) := by decide +kernel
theorem dX10_text_10 : decode cX10_text 10 = .ok (.aload 5, 2) := by decide +kernel
theorem dX10_text_12 : decode cX10_text 12 = .ok (.ifnonnull 13, 3) := by decide +kernel
theorem dX10_text_15 : decode cX10_text 15 = .ok (.new 100, 3) := by decide +kernel
theorem dX10_text_18 : decode cX10_text 18 = .ok (.dup, 1) := by decide +kernel
theorem dX10_text_19 : decode cX10_text 19 = .ok (.ldc 165, 2) := by decide +kernel
theorem dX10_text_21 : decode cX10_text 21 = .ok (.invokespecial 104, 3) := by decide +kernel
theorem dX10_text_24 : decode cX10_text 24 = .ok (.athrow, 1) := by decide +kernel
theorem dX10_text_25 : decode cX10_text 25 = .ok (.aload 5, 2) := by decide +kernel
theorem dX10_text_27 : decode cX10_text 27 = .ok (.iconst 5, 1) := by decide +kernel
theorem dX10_text_28 : decode cX10_text 28 = .ok (.invokevirtual 145, 3) := by decide +kernel
theorem dX10_text_31 : decode cX10_text 31 = .ok (.aload 5, 2) := by decide +kernel
theorem dX10_text_33 : decode cX10_text 33 = .ok (.getfield 135, 3) := by decide +kernel
theorem dX10_text_36 : decode cX10_text 36 = .ok (.iload_n 2, 1) := by decide +kernel
theorem dX10_text_37 : decode cX10_text 37 = .ok (.invokevirtual 74, 3) := by decide +kernel
theorem dX10_text_40 : decode cX10_text 40 = .ok (.aload 5, 2) := by decide +kernel
theorem dX10_text_42 : decode cX10_text 42 = .ok (.getfield 135, 3) := by decide +kernel
theorem dX10_text_45 : decode cX10_text 45 = .ok (.iload_n 3, 1) := by decide +kernel
theorem dX10_text_46 : decode cX10_text 46 = .ok (.invokevirtual 74, 3) := by decide +kernel
theorem dX10_text_49 : decode cX10_text 49 = .ok (.aload 5, 2) := by decide +kernel
theorem dX10_text_51 : decode cX10_text 51 = .ok (.getfield 135, 3) := by decide +kernel
theorem dX10_text_54 : decode cX10_text 54 = .ok (.iload 4, 2) := by decide +kernel
theorem dX10_text_56 : decode cX10_text 56 = .ok (.invokevirtual 74, 3) := by decide +kernel
theorem dX10_text_59 : decode cX10_text 59 = .ok (.aload_n 0, 1) := by decide +kernel
theorem dX10_text_60 : decode cX10_text 60 = .ok (.aload 5, 2) := by decide +kernel
theorem dX10_text_62 : decode cX10_text 62 = .ok (.invokevirtual 148, 3) := by decide +kernel
theorem dX10_text_65 : decode cX10_text 65 = .ok (.aload 5, 2) := by decide +kernel
theorem dX10_text_67 : decode cX10_text 67 = .ok (.getfield 135, 3) := by decide +kernel
theorem dX10_text_70 : decode cX10_text 70 = .ok (.getfield 64, 3) := by decide +kernel
theorem dX10_text_73 : decode cX10_text 73 = .ok (.ireturn, 1) := by decide +kernel
set_option maxRecDepth 20000 in
theorem ggX10_add_X10_thingAt : GoodIn wsX10_add wsX10_thingAt := goodIn_r _ [11] (by decide +kernel) (by decide +kernel)
set_option maxRecDepth 20000 in
theorem gX10_add_X10_thingAt : GoodIn wsX10_add (va_wsS RX10 111 yX10_thingAt wsX10_thingAt) := goodIn_app (goodIn_of _ (by decide +kernel)) ggX10_add_X10_thingAt
set_option maxRecDepth 20000 in
theorem ggX10_add_X8_appendItem : GoodIn wsX10_add wsX8_appendItem := goodIn_r _ [16, 17, 18, 19, 20, 21, 22, 15, 23, 24, 9, 10, 11, 25, 26, 27, 28, 29, 30, 31, 32, 33, 34, 35, 36, 37, 38, 39, 40, 41, 42, 43, 44, 45, 46, 47, 48, 49, 50, 51, 52, 53, 54, 55, 56, 57, 58, 59, 102, 103, 104, 105, 106, 107, 108, 109, 110] (by decide +kernel) (by decide +kernel)
set_option maxRecDepth 20000 in
theorem gX10_add_X8_appendItem : GoodIn wsX10_add (wsV RX10 177 RX8 yX8_appendItem wsX8_appendItem) := goodIn_app (goodIn_of _ (by decide +kernel)) ggX10_add_X8_appendItem
set_option maxRecDepth 20000 in
theorem ggX10_add_X10_findNumber : GoodIn wsX10_add wsX10_findNumber := goodIn_r _ [63, 64, 65, 66, 67, 68, 69, 70, 71, 72, 73, 74, 57, 58, 44, 59, 46, 47, 75, 76, 77, 78, 79, 80, 81, 82, 83, 84, 85, 86, 87, 88, 89, 90, 91, 92, 38, 39, 15, 40, 31, 32, 93, 94, 95, 96, 97, 98, 99, 100, 101, 102, 103, 104, 105, 106, 107, 108, 111, 109, 110] (by decide +kernel) (by decide +kernel)
set_option maxRecDepth 20000 in
theorem gX10_add_X10_findNumber : GoodIn wsX10_add (wsV RX10 148 RX10 yX10_findNumber wsX10_findNumber) := goodIn_app (goodIn_of _ (by decide +kernel)) ggX10_add_X10_findNumber
theorem dX10_add_0 : decode cX10_add 0 = .ok (.aload_n 0, 1) := by decide +kernel
theorem dX10_add_1 : decode cX10_add 1 = .ok (.getfield 35, 3) := by decide +kernel
theorem dX10_add_4 : decode cX10_add 4 = .ok (.iload_n 1, 1) := by decide +kernel
theorem dX10_add_5 : decode cX10_add 5 = .ok (.invokestatic 111, 3) := by decide +kernel
theorem dX10_add_8 : decode cX10_add 8 = .ok (.astore_n 3, 1) := by decide +kernel
theorem dX10_add_9 : decode cX10_add 9 = .ok (.aload_n 0, 1) := by decide +kernel
theorem dX10_add_10 : decode cX10_add 10 = .ok (.getfield 35, 3) := by decide +kernel
theorem dX10_add_13 : decode cX10_add 13 = .ok (.iload_n 2, 1) := by decide +kernel
theorem dX10_add_14 : decode cX10_add 14 = .ok (.invokestatic 111, 3) := by decide +kernel
theorem dX10_add_17 : decode cX10_add 17 = .ok (.astore 4, 2) := by decide +kernel
theorem dX10_add_19 : decode cX10_add 19 = .ok (.aload_n 3, 1) := by decide +kernel
theorem dX10_add_20 : decode cX10_add 20 = .ok (.ifnull 8, 3) := by decide +kernel
theorem dX10_add_23 : decode cX10_add 23 = .ok (.aload 4, 2) := by decide +kernel
theorem dX10_add_25 : decode cX10_add 25 = .ok (.ifnonnull 13, 3) := by decide +kernel
theorem dX10_add_28 : decode cX10_add 28 = .ok (.new 100, 3) := by decide +kernel
theorem dX10_add_31 : decode cX10_add 31 = .ok (.dup, 1) := by decide +kernel
theorem dX10_add_32 : decode cX10_add 32 = .ok (.ldc 167, 2) := by decide +kernel
theorem dX10_add_34 : decode cX10_add 34 = .ok (.invokespecial 104, 3) := by decide +kernel
theorem dX10_add_37 : decode cX10_add 37 = .ok (.athrow, 1) := by decide +kernel
theorem dX10_add_38 : decode cX10_add 38 = .ok (.aload_n 3, 1) := by decide +kernel
theorem dX10_add_39 : decode cX10_add 39 = .ok (.getfield 169, 3) := by decide +kernel
theorem dX10_add_42 : decode cX10_add 42 = .ok (.bipush 6, 2) := by decide +kernel
theorem dX10_add_44 : decode cX10_add 44 = .ok (.if_icmp .ne 21, 3) := by decide +kernel
theorem dX10_add_47 : decode cX10_add 47 = .ok (.aload 4, 2) := by decide +kernel
theorem dX10_add_49 : decode cX10_add 49 = .ok (.getfield 169, 3) := by decide +kernel
theorem dX10_add_52 : decode cX10_add 52 = .ok (.bipush 6, 2) := by decide +kernel
theorem dX10_add_54 : decode cX10_add 54 = .ok (.if_icmp .eq 11, 3) := by decide +kernel
theorem dX10_add_57 : decode cX10_add 57 = .ok (.aload_n 3, 1) := by decide +kernel
theorem dX10_add_58 : decode cX10_add 58 = .ok (.getfield 172, 3) := by decide +kernel
theorem dX10_add_61 : decode cX10_add 61 = .ok (.iconst 5, 1) := by decide +kernel
theorem dX10_add_62 : decode cX10_add 62 = .ok (.if_icmp .lt 13, 3) := by decide +kernel
theorem dX10_add_65 : decode cX10_add 65 = .ok (.new 67, 3) := by decide +kernel
theorem dX10_add_68 : decode cX10_add 68 = .ok (.dup, 1) := by decide +kernel
theorem dX10_add_69 : decode cX10_add 69 = .ok (.ldc 175, 2) := by decide +kernel
theorem dX10_add_71 : decode cX10_add 71 = .ok (.invokespecial 71, 3) := by decide +kernel
theorem dX10_add_74 : decode cX10_add 74 = .ok (.athrow, 1) := by decide +kernel
theorem dX10_add_75 : decode cX10_add 75 = .ok (.aload_n 3, 1) := by decide +kernel
theorem dX10_add_76 : decode cX10_add 76 = .ok (.aload 4, 2) := by decide +kernel
theorem dX10_add_78 : decode cX10_add 78 = .ok (.invokevirtual 177, 3) := by decide +kernel
theorem dX10_add_81 : decode cX10_add 81 = .ok (.aload_n 0, 1) := by decide +kernel
theorem dX10_add_82 : decode cX10_add 82 = .ok (.aload_n 3, 1) := by decide +kernel
theorem dX10_add_83 : decode cX10_add 83 = .ok (.invokevirtual 148, 3) := by decide +kernel
theorem dX10_add_86 : decode cX10_add 86 = .ok (.aload_n 3, 1) := by decide +kernel
theorem dX10_add_87 : decode cX10_add 87 = .ok (.getfield 172, 3) := by decide +kernel
theorem dX10_add_90 : decode cX10_add 90 = .ok (.ireturn, 1) := by decide +kernel
set_option maxRecDepth 20000 in
theorem ggX10_call_X10_operationAt : GoodIn wsX10_call wsX10_operationAt := goodIn_r _ [15, 16, 294, 295, 296, 297, 298, 299, 300, 301, 302] (by decide +kernel) (by decide +kernel)
set_option maxRecDepth 20000 in
theorem gX10_call_X10_operationAt : GoodIn wsX10_call (wsV RX10 86 RX10 yX10_operationAt wsX10_operationAt) := goodIn_app (goodIn_of _ (by decide +kernel)) ggX10_call_X10_operationAt
set_option maxRecDepth 20000 in
theorem ggX10_call_X5_mostArguments : GoodIn wsX10_call wsX5_mostArguments := goodIn_r _ [21, 22, 23, 8, 5, 9, 24, 25, 26, 20, 27, 28, 29, 30, 31, 32, 33, 34, 35, 303, 304, 305, 306, 307, 308, 309, 310, 311] (by decide +kernel) (by decide +kernel)
set_option maxRecDepth 20000 in
theorem gX10_call_X5_mostArguments : GoodIn wsX10_call (wsV RX10 182 RX5 yX5_mostArguments wsX5_mostArguments) := goodIn_app (goodIn_of _ (by decide +kernel)) ggX10_call_X5_mostArguments
set_option maxRecDepth 20000 in
theorem ggX10_call_X5_gather : GoodIn wsX10_call wsX5_gather := goodIn_r _ [39, 40, 22, 24, 25, 26, 20, 27, 28, 41, 42, 43, 44, 45, 46, 47, 48, 32, 49, 50, 51, 52, 53, 35, 54, 55, 56, 57, 34, 58, 4, 5, 6, 59, 60, 61, 62, 63, 64, 65, 66, 67, 30, 31, 33, 303, 304, 305, 306, 307, 308, 309, 310, 311, 312, 313, 314] (by decide +kernel) (by decide +kernel)
set_option maxRecDepth 20000 in
theorem gX10_call_X5_gather : GoodIn wsX10_call (wsV RX10 192 RX5 yX5_gather wsX5_gather) := goodIn_app (goodIn_of _ (by decide +kernel)) ggX10_call_X5_gather
set_option maxRecDepth 20000 in
theorem ggX10_call_X5_ableAt : GoodIn wsX10_call wsX5_ableAt := goodIn_r _ [71, 40, 45, 303, 304, 305, 306] (by decide +kernel) (by decide +kernel)
set_option maxRecDepth 20000 in
theorem gX10_call_X5_ableAt : GoodIn wsX10_call (wsV RX10 196 RX5 yX5_ableAt wsX5_ableAt) := goodIn_app (goodIn_of _ (by decide +kernel)) ggX10_call_X5_ableAt
set_option maxRecDepth 20000 in
theorem ggX10_call_X10_refuseAt : GoodIn wsX10_call wsX10_refuseAt := goodIn_r _ [75, 76, 294, 295, 296, 297, 298, 299, 300, 301, 302] (by decide +kernel) (by decide +kernel)
set_option maxRecDepth 20000 in
theorem gX10_call_X10_refuseAt : GoodIn wsX10_call (wsV RX10 200 RX10 yX10_refuseAt wsX10_refuseAt) := goodIn_app (goodIn_of _ (by decide +kernel)) ggX10_call_X10_refuseAt
set_option maxRecDepth 20000 in
theorem ggX10_call_X5_decidingFor : GoodIn wsX10_call wsX5_decidingFor := goodIn_r _ [80, 40, 81, 82, 83, 20, 84, 85, 86, 87, 88, 89, 90, 91, 92, 93, 94, 69, 70, 71, 45, 95, 55, 56, 32, 57, 34, 35, 58, 4, 5, 6, 59, 96, 97, 98, 99, 100, 101, 102, 103, 104, 105, 106, 107, 108, 109, 110, 63, 111, 65, 66, 112, 113, 114, 115, 116, 117, 118, 119, 120, 121, 122, 123, 124, 125, 126, 127, 303, 304, 305, 306, 312, 313, 314, 307, 308, 309, 310, 311, 315, 316, 317, 318, 319] (by decide +kernel) (by decide +kernel)
set_option maxRecDepth 20000 in
theorem gX10_call_X5_decidingFor : GoodIn wsX10_call (wsV RX10 203 RX5 yX5_decidingFor wsX5_decidingFor) := goodIn_app (goodIn_of _ (by decide +kernel)) ggX10_call_X5_decidingFor
set_option maxRecDepth 20000 in
theorem ggX10_call_X10_convertSlots : GoodIn wsX10_call wsX10_convertSlots := goodIn_r _ [131, 10, 132, 133, 55, 56, 32, 57, 34, 35, 58, 4, 5, 6, 59, 134, 135, 14, 136, 137, 138, 139, 140, 141, 142, 143, 144, 145, 146, 61, 62, 63, 64, 65, 66, 147, 148, 149, 150, 151, 152, 153, 154, 155, 156, 157, 158, 159, 160, 161, 162, 163, 164, 165, 166, 167, 168, 169, 170, 171, 172, 173, 174, 175, 176, 177, 178, 179, 180, 181, 182, 183, 184, 185, 186, 187, 188, 189, 190, 191, 192, 193, 194, 195, 196, 197, 198, 199, 200, 201, 202, 203, 204, 205, 206, 207, 208, 209, 210, 211, 212, 213, 214, 215, 216, 217, 218, 219, 220, 221, 222, 223, 224, 225, 226, 227, 228, 229, 230, 231, 232, 233, 234, 235, 236, 237, 238, 239, 240, 241, 242, 243, 244, 245, 246, 247, 248, 249, 250, 251, 252, 99, 253, 127, 254, 255, 256, 257, 258, 259, 294, 295, 296, 297, 298, 299, 300, 301, 302, 307, 308, 309, 310, 311, 320, 321, 322, 323, 324, 325, 326, 312, 313, 314, 315, 316, 317, 318, 319, 327, 328] (by decide +kernel) (by decide +kernel)
set_option maxRecDepth 20000 in
theorem gX10_call_X10_convertSlots : GoodIn wsX10_call (wsV RX10 209 RX10 yX10_convertSlots wsX10_convertSlots) := goodIn_app (goodIn_of _ (by decide +kernel)) ggX10_call_X10_convertSlots
set_option maxRecDepth 20000 in
theorem ggX10_call_X10_thingAt : GoodIn wsX10_call wsX10_thingAt := goodIn_r _ [136] (by decide +kernel) (by decide +kernel)
set_option maxRecDepth 20000 in
theorem gX10_call_X10_thingAt : GoodIn wsX10_call (va_wsS RX10 111 yX10_thingAt wsX10_thingAt) := goodIn_app (goodIn_of _ (by decide +kernel)) ggX10_call_X10_thingAt
set_option maxRecDepth 20000 in
theorem ggX10_call_X5_choose : GoodIn wsX10_call wsX5_choose := goodIn_r _ [263, 264, 265, 266, 267, 20, 268, 40, 90, 91, 92, 93, 94, 69, 70, 71, 45, 95, 55, 56, 32, 57, 34, 35, 58, 4, 5, 6, 59, 269, 61, 62, 63, 64, 65, 66, 270, 160, 161, 150, 162, 152, 271, 272, 273, 274, 275, 85, 86, 87, 88, 89, 276, 277, 278, 279, 280, 281, 282, 283, 284, 320, 321, 322, 323, 324, 325, 326, 303, 304, 305, 306, 307, 308, 309, 310, 311, 312, 313, 314, 315, 316, 317, 318, 319] (by decide +kernel) (by decide +kernel)
set_option maxRecDepth 20000 in
theorem gX10_call_X5_choose : GoodIn wsX10_call (wsV RX10 213 RX5 yX5_choose wsX5_choose) := goodIn_app (goodIn_of _ (by decide +kernel)) ggX10_call_X5_choose
set_option maxRecDepth 20000 in
theorem ggX10_call_X10_finish : GoodIn wsX10_call wsX10_finish := goodIn_r _ [288, 289, 132, 290, 7, 8, 5, 9, 291, 76, 292, 134, 135, 14, 136, 293, 148, 149, 150, 151, 152, 153, 154, 155, 156, 157, 158, 307, 308, 309, 310, 311, 294, 295, 296, 297, 298, 299, 300, 301, 302, 320, 321, 322, 323, 324, 325, 326, 327, 328] (by decide +kernel) (by decide +kernel)
set_option maxRecDepth 20000 in
theorem gX10_call_X10_finish : GoodIn wsX10_call (wsV RX10 217 RX10 yX10_finish wsX10_finish) := goodIn_app (goodIn_of _ (by decide +kernel)) ggX10_call_X10_finish
theorem dX10_call_0 : decode cX10_call 0 = .ok (.aload_n 0, 1) := by decide +kernel
theorem dX10_call_1 : decode cX10_call 1 = .ok (.iload_n 1, 1) := by decide +kernel
theorem dX10_call_2 : decode cX10_call 2 = .ok (.invokevirtual 86, 3) := by decide +kernel
theorem dX10_call_5 : decode cX10_call 5 = .ok (.astore_n 3, 1) := by decide +kernel
theorem dX10_call_6 : decode cX10_call 6 = .ok (.aload_n 3, 1) := by decide +kernel
theorem dX10_call_7 : decode cX10_call 7 = .ok (.ifnull 13, 3) := by decide +kernel
theorem dX10_call_10 : decode cX10_call 10 = .ok (.iload_n 2, 1) := by decide +kernel
theorem dX10_call_11 : decode cX10_call 11 = .ok (.ifCond .lt 9, 3) := by decide +kernel
theorem dX10_call_14 : decode cX10_call 14 = .ok (.iload_n 2, 1) := by decide +kernel
theorem dX10_call_15 : decode cX10_call 15 = .ok (.bipush 8, 2) := by decide +kernel
theorem dX10_call_17 : decode cX10_call 17 = .ok (.if_icmp .le 13, 3) := by decide +kernel
theorem dX10_call_20 : decode cX10_call 20 = .ok (.new 100, 3) := by decide +kernel
theorem dX10_call_23 : decode cX10_call 23 = .ok (.dup, 1) := by decide +kernel
theorem dX10_call_24 : decode cX10_call 24 = .ok (.ldc 180, 2) := by decide +kernel
theorem dX10_call_26 : decode cX10_call 26 = .ok (.invokespecial 104, 3) := by decide +kernel
theorem dX10_call_29 : decode cX10_call 29 = .ok (.athrow, 1) := by decide +kernel
theorem dX10_call_30 : decode cX10_call 30 = .ok (.iload_n 2, 1) := by decide +kernel
theorem dX10_call_31 : decode cX10_call 31 = .ok (.aload_n 3, 1) := by decide +kernel
theorem dX10_call_32 : decode cX10_call 32 = .ok (.invokevirtual 182, 3) := by decide +kernel
theorem dX10_call_35 : decode cX10_call 35 = .ok (.invokestatic 186, 3) := by decide +kernel
theorem dX10_call_38 : decode cX10_call 38 = .ok (.istore 4, 2) := by decide +kernel
theorem dX10_call_40 : decode cX10_call 40 = .ok (.aload_n 3, 1) := by decide +kernel
theorem dX10_call_41 : decode cX10_call 41 = .ok (.iload 4, 2) := by decide +kernel
theorem dX10_call_43 : decode cX10_call 43 = .ok (.aconst_null, 1) := by decide +kernel
theorem dX10_call_44 : decode cX10_call 44 = .ok (.invokevirtual 192, 3) := by decide +kernel
theorem dX10_call_47 : decode cX10_call 47 = .ok (.aload_n 3, 1) := by decide +kernel
theorem dX10_call_48 : decode cX10_call 48 = .ok (.iconst 0, 1) := by decide +kernel
theorem dX10_call_49 : decode cX10_call 49 = .ok (.invokevirtual 196, 3) := by decide +kernel
theorem dX10_call_52 : decode cX10_call 52 = .ok (.astore 5, 2) := by decide +kernel
theorem dX10_call_54 : decode cX10_call 54 = .ok (.aload 5, 2) := by decide +kernel
theorem dX10_call_56 : decode cX10_call 56 = .ok (.ifnonnull 9, 3) := by decide +kernel
theorem dX10_call_59 : decode cX10_call 59 = .ok (.aload_n 0, 1) := by decide +kernel
theorem dX10_call_60 : decode cX10_call 60 = .ok (.iload_n 2, 1) := by decide +kernel
theorem dX10_call_61 : decode cX10_call 61 = .ok (.invokevirtual 200, 3) := by decide +kernel
theorem dX10_call_64 : decode cX10_call 64 = .ok (.ireturn, 1) := by decide +kernel
theorem dX10_call_65 : decode cX10_call 65 = .ok (.aload_n 3, 1) := by decide +kernel
theorem dX10_call_66 : decode cX10_call 66 = .ok (.iload 4, 2) := by decide +kernel
theorem dX10_call_68 : decode cX10_call 68 = .ok (.invokevirtual 203, 3) := by decide +kernel
theorem dX10_call_71 : decode cX10_call 71 = .ok (.istore 6, 2) := by decide +kernel
theorem dX10_call_73 : decode cX10_call 73 = .ok (.iload 6, 2) := by decide +kernel
theorem dX10_call_75 : decode cX10_call 75 = .ok (.iconst 0, 1) := by decide +kernel
theorem dX10_call_76 : decode cX10_call 76 = .ok (.invokestatic 206, 3) := by decide +kernel
theorem dX10_call_79 : decode cX10_call 79 = .ok (.istore 7, 2) := by decide +kernel
theorem dX10_call_81 : decode cX10_call 81 = .ok (.aload_n 0, 1) := by decide +kernel
theorem dX10_call_82 : decode cX10_call 82 = .ok (.aload 5, 2) := by decide +kernel
theorem dX10_call_84 : decode cX10_call 84 = .ok (.iconst 0, 1) := by decide +kernel
theorem dX10_call_85 : decode cX10_call 85 = .ok (.iload 7, 2) := by decide +kernel
theorem dX10_call_87 : decode cX10_call 87 = .ok (.invokevirtual 209, 3) := by decide +kernel
theorem dX10_call_90 : decode cX10_call 90 = .ok (.istore 8, 2) := by decide +kernel
theorem dX10_call_92 : decode cX10_call 92 = .ok (.iload 8, 2) := by decide +kernel
theorem dX10_call_94 : decode cX10_call 94 = .ok (.iconst (-1), 1) := by decide +kernel
theorem dX10_call_95 : decode cX10_call 95 = .ok (.if_icmp .eq 10, 3) := by decide +kernel
theorem dX10_call_98 : decode cX10_call 98 = .ok (.aload_n 0, 1) := by decide +kernel
theorem dX10_call_99 : decode cX10_call 99 = .ok (.iload 8, 2) := by decide +kernel
theorem dX10_call_101 : decode cX10_call 101 = .ok (.invokevirtual 200, 3) := by decide +kernel
theorem dX10_call_104 : decode cX10_call 104 = .ok (.ireturn, 1) := by decide +kernel
theorem dX10_call_105 : decode cX10_call 105 = .ok (.iload 6, 2) := by decide +kernel
theorem dX10_call_107 : decode cX10_call 107 = .ok (.iconst (-1), 1) := by decide +kernel
theorem dX10_call_108 : decode cX10_call 108 = .ok (.if_icmp .eq 20, 3) := by decide +kernel
theorem dX10_call_111 : decode cX10_call 111 = .ok (.aload_n 3, 1) := by decide +kernel
theorem dX10_call_112 : decode cX10_call 112 = .ok (.iload 6, 2) := by decide +kernel
theorem dX10_call_114 : decode cX10_call 114 = .ok (.aload_n 0, 1) := by decide +kernel
theorem dX10_call_115 : decode cX10_call 115 = .ok (.getfield 35, 3) := by decide +kernel
theorem dX10_call_118 : decode cX10_call 118 = .ok (.iload 6, 2) := by decide +kernel
theorem dX10_call_120 : decode cX10_call 120 = .ok (.invokestatic 111, 3) := by decide +kernel
theorem dX10_call_123 : decode cX10_call 123 = .ok (.invokevirtual 213, 3) := by decide +kernel
theorem dX10_call_126 : decode cX10_call 126 = .ok (.astore 5, 2) := by decide +kernel
theorem dX10_call_128 : decode cX10_call 128 = .ok (.aload 5, 2) := by decide +kernel
theorem dX10_call_130 : decode cX10_call 130 = .ok (.ifnonnull 10, 3) := by decide +kernel
theorem dX10_call_133 : decode cX10_call 133 = .ok (.aload_n 0, 1) := by decide +kernel
theorem dX10_call_134 : decode cX10_call 134 = .ok (.iload 6, 2) := by decide +kernel
theorem dX10_call_136 : decode cX10_call 136 = .ok (.invokevirtual 200, 3) := by decide +kernel
theorem dX10_call_139 : decode cX10_call 139 = .ok (.ireturn, 1) := by decide +kernel
theorem dX10_call_140 : decode cX10_call 140 = .ok (.aload_n 0, 1) := by decide +kernel
theorem dX10_call_141 : decode cX10_call 141 = .ok (.aload 5, 2) := by decide +kernel
theorem dX10_call_143 : decode cX10_call 143 = .ok (.iload 7, 2) := by decide +kernel
theorem dX10_call_145 : decode cX10_call 145 = .ok (.iload 4, 2) := by decide +kernel
theorem dX10_call_147 : decode cX10_call 147 = .ok (.invokevirtual 209, 3) := by decide +kernel
theorem dX10_call_150 : decode cX10_call 150 = .ok (.istore 8, 2) := by decide +kernel
theorem dX10_call_152 : decode cX10_call 152 = .ok (.iload 8, 2) := by decide +kernel
theorem dX10_call_154 : decode cX10_call 154 = .ok (.iconst (-1), 1) := by decide +kernel
theorem dX10_call_155 : decode cX10_call 155 = .ok (.if_icmp .eq 12, 3) := by decide +kernel
theorem dX10_call_158 : decode cX10_call 158 = .ok (.aload_n 0, 1) := by decide +kernel
theorem dX10_call_159 : decode cX10_call 159 = .ok (.iload 8, 2) := by decide +kernel
theorem dX10_call_161 : decode cX10_call 161 = .ok (.invokevirtual 200, 3) := by decide +kernel
theorem dX10_call_164 : decode cX10_call 164 = .ok (.goto 11, 3) := by decide +kernel
theorem dX10_call_167 : decode cX10_call 167 = .ok (.aload_n 0, 1) := by decide +kernel
theorem dX10_call_168 : decode cX10_call 168 = .ok (.aload 5, 2) := by decide +kernel
theorem dX10_call_170 : decode cX10_call 170 = .ok (.iload 4, 2) := by decide +kernel
theorem dX10_call_172 : decode cX10_call 172 = .ok (.invokevirtual 217, 3) := by decide +kernel
theorem dX10_call_175 : decode cX10_call 175 = .ok (.ireturn, 1) := by decide +kernel
set_option maxRecDepth 20000 in
theorem ggX10_operation_X10_operationAt : GoodIn wsX10_operation wsX10_operationAt := goodIn_r _ [8, 9, 130, 131, 132, 133, 134, 135, 136, 137, 138] (by decide +kernel) (by decide +kernel)
set_option maxRecDepth 20000 in
theorem gX10_operation_X10_operationAt : GoodIn wsX10_operation (wsV RX10 86 RX10 yX10_operationAt wsX10_operationAt) := goodIn_app (goodIn_of _ (by decide +kernel)) ggX10_operation_X10_operationAt
set_option maxRecDepth 20000 in
theorem ggX10_operation_X5_mostArguments : GoodIn wsX10_operation wsX5_mostArguments := goodIn_r _ [14, 15, 16, 17, 18, 19, 20, 21, 22, 13, 23, 24, 25, 26, 27, 28, 29, 30, 31, 126, 127, 128, 129, 139, 140, 141, 142, 143] (by decide +kernel) (by decide +kernel)
set_option maxRecDepth 20000 in
theorem gX10_operation_X5_mostArguments : GoodIn wsX10_operation (wsV RX10 182 RX5 yX5_mostArguments wsX5_mostArguments) := goodIn_app (goodIn_of _ (by decide +kernel)) ggX10_operation_X5_mostArguments
set_option maxRecDepth 20000 in
theorem ggX10_operation_X5_leastArguments : GoodIn wsX10_operation wsX5_leastArguments := goodIn_r _ [35, 15, 36, 37, 18, 38, 20, 21, 22, 13, 23, 24, 39, 40, 41, 28, 42, 31, 43, 44, 45, 46, 30, 47, 48, 49, 50, 51, 52, 53, 54, 55, 126, 127, 128, 129, 139, 140, 141, 142, 143, 144, 145, 146] (by decide +kernel) (by decide +kernel)
set_option maxRecDepth 20000 in
theorem gX10_operation_X5_leastArguments : GoodIn wsX10_operation (wsV RX10 223 RX5 yX5_leastArguments wsX5_leastArguments) := goodIn_app (goodIn_of _ (by decide +kernel)) ggX10_operation_X5_leastArguments
set_option maxRecDepth 20000 in
theorem ggX10_operation_X5_gather : GoodIn wsX10_operation wsX5_gather := goodIn_r _ [59, 60, 15, 20, 21, 22, 13, 23, 24, 61, 62, 63, 64, 65, 66, 67, 68, 28, 69, 70, 40, 41, 42, 31, 43, 44, 45, 46, 30, 47, 37, 18, 38, 48, 49, 50, 51, 52, 53, 54, 55, 71, 26, 27, 29, 126, 127, 128, 129, 139, 140, 141, 142, 143, 144, 145, 146] (by decide +kernel) (by decide +kernel)
set_option maxRecDepth 20000 in
theorem gX10_operation_X5_gather : GoodIn wsX10_operation (wsV RX10 192 RX5 yX5_gather wsX5_gather) := goodIn_app (goodIn_of _ (by decide +kernel)) ggX10_operation_X5_gather
set_option maxRecDepth 20000 in
theorem ggX10_operation_X5_decidingFor : GoodIn wsX10_operation wsX5_decidingFor := goodIn_r _ [75, 60, 76, 77, 78, 13, 79, 80, 81, 82, 83, 84, 85, 86, 87, 88, 89, 90, 91, 92, 65, 93, 44, 45, 28, 46, 30, 31, 47, 37, 18, 38, 48, 94, 95, 96, 97, 98, 99, 100, 101, 102, 103, 104, 105, 106, 107, 108, 52, 109, 54, 55, 110, 111, 112, 113, 114, 115, 116, 117, 118, 119, 120, 121, 122, 123, 124, 125, 126, 127, 128, 129, 144, 145, 146, 139, 140, 141, 142, 143, 147, 148, 149, 150, 151] (by decide +kernel) (by decide +kernel)
set_option maxRecDepth 20000 in
theorem gX10_operation_X5_decidingFor : GoodIn wsX10_operation (wsV RX10 203 RX5 yX5_decidingFor wsX5_decidingFor) := goodIn_app (goodIn_of _ (by decide +kernel)) ggX10_operation_X5_decidingFor
theorem dX10_operation_0 : decode cX10_operation 0 = .ok (.aload_n 0, 1) := by decide +kernel
theorem dX10_operation_1 : decode cX10_operation 1 = .ok (.iload_n 1, 1) := by decide +kernel
theorem dX10_operation_2 : decode cX10_operation 2 = .ok (.invokevirtual 86, 3) := by decide +kernel
theorem dX10_operation_5 : decode cX10_operation 5 = .ok (.astore_n 3, 1) := by decide +kernel
theorem dX10_operation_6 : decode cX10_operation 6 = .ok (.aload_n 3, 1) := by decide +kernel
theorem dX10_operation_7 : decode cX10_operation 7 = .ok (.ifnull 13, 3) := by decide +kernel
theorem dX10_operation_10 : decode cX10_operation 10 = .ok (.iload_n 2, 1) := by decide +kernel
theorem dX10_operation_11 : decode cX10_operation 11 = .ok (.ifCond .lt 9, 3) := by decide +kernel
theorem dX10_operation_14 : decode cX10_operation 14 = .ok (.iload_n 2, 1) := by decide +kernel
theorem dX10_operation_15 : decode cX10_operation 15 = .ok (.bipush 11, 2) := by decide +kernel
theorem dX10_operation_17 : decode cX10_operation 17 = .ok (.if_icmp .le 13, 3) := by decide +kernel
theorem dX10_operation_20 : decode cX10_operation 20 = .ok (.new 100, 3) := by decide +kernel
theorem dX10_operation_23 : decode cX10_operation 23 = .ok (.dup, 1) := by decide +kernel
theorem dX10_operation_24 : decode cX10_operation 24 = .ok (.ldc 221, 2) := by decide +kernel
theorem dX10_operation_26 : decode cX10_operation 26 = .ok (.invokespecial 104, 3) := by decide +kernel
theorem dX10_operation_29 : decode cX10_operation 29 = .ok (.athrow, 1) := by decide +kernel
theorem dX10_operation_30 : decode cX10_operation 30 = .ok (.iload_n 2, 1) := by decide +kernel
theorem dX10_operation_31 : decode cX10_operation 31 = .ok (.ifCond .ne 8, 3) := by decide +kernel
theorem dX10_operation_34 : decode cX10_operation 34 = .ok (.aload_n 3, 1) := by decide +kernel
theorem dX10_operation_35 : decode cX10_operation 35 = .ok (.getfield 105, 3) := by decide +kernel
theorem dX10_operation_38 : decode cX10_operation 38 = .ok (.ireturn, 1) := by decide +kernel
theorem dX10_operation_39 : decode cX10_operation 39 = .ok (.iload_n 2, 1) := by decide +kernel
theorem dX10_operation_40 : decode cX10_operation 40 = .ok (.iconst 1, 1) := by decide +kernel
theorem dX10_operation_41 : decode cX10_operation 41 = .ok (.if_icmp .ne 8, 3) := by decide +kernel
theorem dX10_operation_44 : decode cX10_operation 44 = .ok (.aload_n 3, 1) := by decide +kernel
theorem dX10_operation_45 : decode cX10_operation 45 = .ok (.invokevirtual 182, 3) := by decide +kernel
theorem dX10_operation_48 : decode cX10_operation 48 = .ok (.ireturn, 1) := by decide +kernel
theorem dX10_operation_49 : decode cX10_operation 49 = .ok (.iload_n 2, 1) := by decide +kernel
theorem dX10_operation_50 : decode cX10_operation 50 = .ok (.iconst 2, 1) := by decide +kernel
theorem dX10_operation_51 : decode cX10_operation 51 = .ok (.if_icmp .ne 8, 3) := by decide +kernel
theorem dX10_operation_54 : decode cX10_operation 54 = .ok (.aload_n 3, 1) := by decide +kernel
theorem dX10_operation_55 : decode cX10_operation 55 = .ok (.invokevirtual 223, 3) := by decide +kernel
theorem dX10_operation_58 : decode cX10_operation 58 = .ok (.ireturn, 1) := by decide +kernel
theorem dX10_operation_59 : decode cX10_operation 59 = .ok (.aload_n 3, 1) := by decide +kernel
theorem dX10_operation_60 : decode cX10_operation 60 = .ok (.iload_n 2, 1) := by decide +kernel
theorem dX10_operation_61 : decode cX10_operation 61 = .ok (.iconst 3, 1) := by decide +kernel
theorem dX10_operation_62 : decode cX10_operation 62 = .ok (.isub, 1) := by decide +kernel
theorem dX10_operation_63 : decode cX10_operation 63 = .ok (.aconst_null, 1) := by decide +kernel
theorem dX10_operation_64 : decode cX10_operation 64 = .ok (.invokevirtual 192, 3) := by decide +kernel
theorem dX10_operation_67 : decode cX10_operation 67 = .ok (.aload_n 3, 1) := by decide +kernel
theorem dX10_operation_68 : decode cX10_operation 68 = .ok (.iload_n 2, 1) := by decide +kernel
theorem dX10_operation_69 : decode cX10_operation 69 = .ok (.iconst 3, 1) := by decide +kernel
theorem dX10_operation_70 : decode cX10_operation 70 = .ok (.isub, 1) := by decide +kernel
theorem dX10_operation_71 : decode cX10_operation 71 = .ok (.invokevirtual 203, 3) := by decide +kernel
theorem dX10_operation_74 : decode cX10_operation 74 = .ok (.ireturn, 1) := by decide +kernel
set_option maxRecDepth 20000 in
theorem ggX10_kind_X10_partAt : GoodIn wsX10_kind wsX10_partAt := goodIn_r _ [6, 7, 8, 9, 10, 5, 11, 12, 13, 14, 15, 16, 17, 18, 26, 27, 28, 29, 30, 31, 32, 33, 34, 19, 20, 21, 22, 23, 24, 25] (by decide +kernel) (by decide +kernel)
set_option maxRecDepth 20000 in
theorem gX10_kind_X10_partAt : GoodIn wsX10_kind (wsV RX10 226 RX10 yX10_partAt wsX10_partAt) := goodIn_app (goodIn_of _ (by decide +kernel)) ggX10_kind_X10_partAt
theorem dX10_kind_0 : decode cX10_kind 0 = .ok (.aload_n 0, 1) := by decide +kernel
theorem dX10_kind_1 : decode cX10_kind 1 = .ok (.iload_n 1, 1) := by decide +kernel
theorem dX10_kind_2 : decode cX10_kind 2 = .ok (.iconst (-1), 1) := by decide +kernel
theorem dX10_kind_3 : decode cX10_kind 3 = .ok (.invokevirtual 226, 3) := by decide +kernel
theorem dX10_kind_6 : decode cX10_kind 6 = .ok (.astore_n 2, 1) := by decide +kernel
theorem dX10_kind_7 : decode cX10_kind 7 = .ok (.aload_n 2, 1) := by decide +kernel
theorem dX10_kind_8 : decode cX10_kind 8 = .ok (.ifnonnull 7, 3) := by decide +kernel
theorem dX10_kind_11 : decode cX10_kind 11 = .ok (.iconst (-1), 1) := by decide +kernel
theorem dX10_kind_12 : decode cX10_kind 12 = .ok (.goto 7, 3) := by decide +kernel
theorem dX10_kind_15 : decode cX10_kind 15 = .ok (.aload_n 2, 1) := by decide +kernel
theorem dX10_kind_16 : decode cX10_kind 16 = .ok (.getfield 169, 3) := by decide +kernel
theorem dX10_kind_19 : decode cX10_kind 19 = .ok (.ireturn, 1) := by decide +kernel
set_option maxRecDepth 20000 in
theorem ggX10_item_X10_partAt : GoodIn wsX10_item wsX10_partAt := goodIn_r _ [6, 7, 8, 9, 10, 5, 11, 12, 13, 14, 15, 16, 17, 18, 26, 27, 28, 29, 30, 31, 32, 33, 34, 19, 20, 21, 22, 23, 24, 25] (by decide +kernel) (by decide +kernel)
set_option maxRecDepth 20000 in
theorem gX10_item_X10_partAt : GoodIn wsX10_item (wsV RX10 226 RX10 yX10_partAt wsX10_partAt) := goodIn_app (goodIn_of _ (by decide +kernel)) ggX10_item_X10_partAt
theorem dX10_item_0 : decode cX10_item 0 = .ok (.iload_n 2, 1) := by decide +kernel
theorem dX10_item_1 : decode cX10_item 1 = .ok (.ifCond .ge 7, 3) := by decide +kernel
theorem dX10_item_4 : decode cX10_item 4 = .ok (.aconst_null, 1) := by decide +kernel
theorem dX10_item_5 : decode cX10_item 5 = .ok (.goto 9, 3) := by decide +kernel
theorem dX10_item_8 : decode cX10_item 8 = .ok (.aload_n 0, 1) := by decide +kernel
theorem dX10_item_9 : decode cX10_item 9 = .ok (.iload_n 1, 1) := by decide +kernel
theorem dX10_item_10 : decode cX10_item 10 = .ok (.iload_n 2, 1) := by decide +kernel
theorem dX10_item_11 : decode cX10_item 11 = .ok (.invokevirtual 226, 3) := by decide +kernel
theorem dX10_item_14 : decode cX10_item 14 = .ok (.astore_n 3, 1) := by decide +kernel
theorem dX10_item_15 : decode cX10_item 15 = .ok (.aload_n 3, 1) := by decide +kernel
theorem dX10_item_16 : decode cX10_item 16 = .ok (.ifnonnull 7, 3) := by decide +kernel
theorem dX10_item_19 : decode cX10_item 19 = .ok (.iconst (-1), 1) := by decide +kernel
theorem dX10_item_20 : decode cX10_item 20 = .ok (.goto 7, 3) := by decide +kernel
theorem dX10_item_23 : decode cX10_item 23 = .ok (.aload_n 3, 1) := by decide +kernel
theorem dX10_item_24 : decode cX10_item 24 = .ok (.getfield 169, 3) := by decide +kernel
theorem dX10_item_27 : decode cX10_item 27 = .ok (.ireturn, 1) := by decide +kernel
set_option maxRecDepth 20000 in
theorem ggX10_whole_X10_partAt : GoodIn wsX10_whole wsX10_partAt := goodIn_r _ [10, 11, 12, 13, 14, 9, 15, 16, 17, 18, 19, 20, 21, 22, 32, 33, 34, 35, 36, 37, 38, 39, 40, 23, 24, 25, 26, 27, 28, 29] (by decide +kernel) (by decide +kernel)
set_option maxRecDepth 20000 in
theorem gX10_whole_X10_partAt : GoodIn wsX10_whole (wsV RX10 226 RX10 yX10_partAt wsX10_partAt) := goodIn_app (goodIn_of _ (by decide +kernel)) ggX10_whole_X10_partAt
theorem dX10_whole_0 : decode cX10_whole 0 = .ok (.aload_n 0, 1) := by decide +kernel
theorem dX10_whole_1 : decode cX10_whole 1 = .ok (.iload_n 1, 1) := by decide +kernel
theorem dX10_whole_2 : decode cX10_whole 2 = .ok (.iload_n 2, 1) := by decide +kernel
theorem dX10_whole_3 : decode cX10_whole 3 = .ok (.invokevirtual 226, 3) := by decide +kernel
theorem dX10_whole_6 : decode cX10_whole 6 = .ok (.astore_n 3, 1) := by decide +kernel
theorem dX10_whole_7 : decode cX10_whole 7 = .ok (.aload_n 3, 1) := by decide +kernel
theorem dX10_whole_8 : decode cX10_whole 8 = .ok (.ifnonnull 5, 3) := by decide +kernel
theorem dX10_whole_11 : decode cX10_whole 11 = .ok (.lconst 0, 1) := by decide +kernel
theorem dX10_whole_12 : decode cX10_whole 12 = .ok (.lreturn, 1) := by decide +kernel
theorem dX10_whole_13 : decode cX10_whole 13 = .ok (.aload_n 3, 1) := by decide +kernel
theorem dX10_whole_14 : decode cX10_whole 14 = .ok (.getfield 169, 3) := by decide +kernel
theorem dX10_whole_17 : decode cX10_whole 17 = .ok (.iconst 2, 1) := by decide +kernel
theorem dX10_whole_18 : decode cX10_whole 18 = .ok (.if_icmp .eq 11, 3) := by decide +kernel
theorem dX10_whole_21 : decode cX10_whole 21 = .ok (.aload_n 3, 1) := by decide +kernel
theorem dX10_whole_22 : decode cX10_whole 22 = .ok (.getfield 169, 3) := by decide +kernel
theorem dX10_whole_25 : decode cX10_whole 25 = .ok (.iconst 3, 1) := by decide +kernel
theorem dX10_whole_26 : decode cX10_whole 26 = .ok (.if_icmp .ne 8, 3) := by decide +kernel
theorem dX10_whole_29 : decode cX10_whole 29 = .ok (.aload_n 3, 1) := by decide +kernel
theorem dX10_whole_30 : decode cX10_whole 30 = .ok (.getfield 230, 3) := by decide +kernel
theorem dX10_whole_33 : decode cX10_whole 33 = .ok (.lreturn, 1) := by decide +kernel
theorem dX10_whole_34 : decode cX10_whole 34 = .ok (.aload_n 3, 1) := by decide +kernel
theorem dX10_whole_35 : decode cX10_whole 35 = .ok (.getfield 169, 3) := by decide +kernel
theorem dX10_whole_38 : decode cX10_whole 38 = .ok (.iconst 5, 1) := by decide +kernel
theorem dX10_whole_39 : decode cX10_whole 39 = .ok (.if_icmp .ne 12, 3) := by decide +kernel
theorem dX10_whole_42 : decode cX10_whole 42 = .ok (.aload_n 3, 1) := by decide +kernel
theorem dX10_whole_43 : decode cX10_whole 43 = .ok (.getfield 135, 3) := by decide +kernel
theorem dX10_whole_46 : decode cX10_whole 46 = .ok (.getfield 64, 3) := by decide +kernel
theorem dX10_whole_49 : decode cX10_whole 49 = .ok (.i2l, 1) := by decide +kernel
theorem dX10_whole_50 : decode cX10_whole 50 = .ok (.lreturn, 1) := by decide +kernel
theorem dX10_whole_51 : decode cX10_whole 51 = .ok (.aload_n 3, 1) := by decide +kernel
theorem dX10_whole_52 : decode cX10_whole 52 = .ok (.getfield 169, 3) := by decide +kernel
theorem dX10_whole_55 : decode cX10_whole 55 = .ok (.bipush 6, 2) := by decide +kernel
theorem dX10_whole_57 : decode cX10_whole 57 = .ok (.if_icmp .ne 11, 3) := by decide +kernel
theorem dX10_whole_60 : decode cX10_whole 60 = .ok (.aload_n 3, 1) := by decide +kernel
theorem dX10_whole_61 : decode cX10_whole 61 = .ok (.getfield 172, 3) := by decide +kernel
theorem dX10_whole_64 : decode cX10_whole 64 = .ok (.i2l, 1) := by decide +kernel
theorem dX10_whole_65 : decode cX10_whole 65 = .ok (.goto 4, 3) := by decide +kernel
theorem dX10_whole_68 : decode cX10_whole 68 = .ok (.lconst 0, 1) := by decide +kernel
theorem dX10_whole_69 : decode cX10_whole 69 = .ok (.lreturn, 1) := by decide +kernel
set_option maxRecDepth 20000 in
theorem ggX10_real_X10_partAt : GoodIn wsX10_real wsX10_partAt := goodIn_r _ [7, 8, 9, 10, 11, 6, 12, 13, 14, 15, 16, 17, 18, 19, 27, 28, 29, 30, 31, 32, 33, 34, 35, 20, 21, 22, 23, 24, 25, 26] (by decide +kernel) (by decide +kernel)
set_option maxRecDepth 20000 in
theorem gX10_real_X10_partAt : GoodIn wsX10_real (wsV RX10 226 RX10 yX10_partAt wsX10_partAt) := goodIn_app (goodIn_of _ (by decide +kernel)) ggX10_real_X10_partAt
theorem dX10_real_0 : decode cX10_real 0 = .ok (.aload_n 0, 1) := by decide +kernel
theorem dX10_real_1 : decode cX10_real 1 = .ok (.iload_n 1, 1) := by decide +kernel
theorem dX10_real_2 : decode cX10_real 2 = .ok (.iload_n 2, 1) := by decide +kernel
theorem dX10_real_3 : decode cX10_real 3 = .ok (.invokevirtual 226, 3) := by decide +kernel
theorem dX10_real_6 : decode cX10_real 6 = .ok (.astore_n 3, 1) := by decide +kernel
theorem dX10_real_7 : decode cX10_real 7 = .ok (.aload_n 3, 1) := by decide +kernel
theorem dX10_real_8 : decode cX10_real 8 = .ok (.ifnull 11, 3) := by decide +kernel
theorem dX10_real_11 : decode cX10_real 11 = .ok (.aload_n 3, 1) := by decide +kernel
theorem dX10_real_12 : decode cX10_real 12 = .ok (.getfield 169, 3) := by decide +kernel
theorem dX10_real_15 : decode cX10_real 15 = .ok (.iconst 4, 1) := by decide +kernel
theorem dX10_real_16 : decode cX10_real 16 = .ok (.if_icmp .eq 7, 3) := by decide +kernel
theorem dX10_real_19 : decode cX10_real 19 = .ok (.dconst 0, 1) := by decide +kernel
theorem dX10_real_20 : decode cX10_real 20 = .ok (.goto 7, 3) := by decide +kernel
theorem dX10_real_23 : decode cX10_real 23 = .ok (.aload_n 3, 1) := by decide +kernel
theorem dX10_real_24 : decode cX10_real 24 = .ok (.getfield 234, 3) := by decide +kernel
theorem dX10_real_27 : decode cX10_real 27 = .ok (.dreturn, 1) := by decide +kernel
set_option maxRecDepth 20000 in
theorem ggX10_sign_X10_partAt : GoodIn wsX10_sign wsX10_partAt := goodIn_r _ [7, 8, 9, 10, 11, 6, 12, 13, 14, 15, 16, 17, 18, 19, 34, 35, 36, 37, 38, 39, 40, 41, 42, 27, 28, 29, 30, 31, 32, 33] (by decide +kernel) (by decide +kernel)
set_option maxRecDepth 20000 in
theorem gX10_sign_X10_partAt : GoodIn wsX10_sign (wsV RX10 226 RX10 yX10_partAt wsX10_partAt) := goodIn_app (goodIn_of _ (by decide +kernel)) ggX10_sign_X10_partAt
set_option maxRecDepth 20000 in
theorem ggX10_sign_X7_at : GoodIn wsX10_sign wsX7_at := goodIn_r _ [24, 25, 26, 43, 44] (by decide +kernel) (by decide +kernel)
set_option maxRecDepth 20000 in
theorem gX10_sign_X7_at : GoodIn wsX10_sign (wsV RX10 238 RX7 yX7_at wsX7_at) := goodIn_app (goodIn_of _ (by decide +kernel)) ggX10_sign_X7_at
theorem dX10_sign_0 : decode cX10_sign 0 = .ok (.aload_n 0, 1) := by decide +kernel
theorem dX10_sign_1 : decode cX10_sign 1 = .ok (.iload_n 1, 1) := by decide +kernel
theorem dX10_sign_2 : decode cX10_sign 2 = .ok (.iload_n 2, 1) := by decide +kernel
theorem dX10_sign_3 : decode cX10_sign 3 = .ok (.invokevirtual 226, 3) := by decide +kernel
theorem dX10_sign_6 : decode cX10_sign 6 = .ok (.astore 4, 2) := by decide +kernel
theorem dX10_sign_8 : decode cX10_sign 8 = .ok (.aload 4, 2) := by decide +kernel
theorem dX10_sign_10 : decode cX10_sign 10 = .ok (.ifnull 12, 3) := by decide +kernel
theorem dX10_sign_13 : decode cX10_sign 13 = .ok (.aload 4, 2) := by decide +kernel
theorem dX10_sign_15 : decode cX10_sign 15 = .ok (.getfield 169, 3) := by decide +kernel
theorem dX10_sign_18 : decode cX10_sign 18 = .ok (.iconst 5, 1) := by decide +kernel
theorem dX10_sign_19 : decode cX10_sign 19 = .ok (.if_icmp .eq 6, 3) := by decide +kernel
theorem dX10_sign_22 : decode cX10_sign 22 = .ok (.bipush 32, 2) := by decide +kernel
theorem dX10_sign_24 : decode cX10_sign 24 = .ok (.ireturn, 1) := by decide +kernel
theorem dX10_sign_25 : decode cX10_sign 25 = .ok (.aload 4, 2) := by decide +kernel
theorem dX10_sign_27 : decode cX10_sign 27 = .ok (.getfield 135, 3) := by decide +kernel
theorem dX10_sign_30 : decode cX10_sign 30 = .ok (.iload_n 3, 1) := by decide +kernel
theorem dX10_sign_31 : decode cX10_sign 31 = .ok (.invokevirtual 238, 3) := by decide +kernel
theorem dX10_sign_34 : decode cX10_sign 34 = .ok (.istore 5, 2) := by decide +kernel
theorem dX10_sign_36 : decode cX10_sign 36 = .ok (.iload 5, 2) := by decide +kernel
theorem dX10_sign_38 : decode cX10_sign 38 = .ok (.ifCond .ne 8, 3) := by decide +kernel
theorem dX10_sign_41 : decode cX10_sign 41 = .ok (.bipush 32, 2) := by decide +kernel
theorem dX10_sign_43 : decode cX10_sign 43 = .ok (.goto 5, 3) := by decide +kernel
theorem dX10_sign_46 : decode cX10_sign 46 = .ok (.iload 5, 2) := by decide +kernel
theorem dX10_sign_48 : decode cX10_sign 48 = .ok (.ireturn, 1) := by decide +kernel
theorem dX10_operationAt_0 : decode cX10_operationAt 0 = .ok (.iload_n 1, 1) := by decide +kernel
theorem dX10_operationAt_1 : decode cX10_operationAt 1 = .ok (.ifCond .lt 21, 3) := by decide +kernel
theorem dX10_operationAt_4 : decode cX10_operationAt 4 = .ok (.iload_n 1, 1) := by decide +kernel
theorem dX10_operationAt_5 : decode cX10_operationAt 5 = .ok (.aload_n 0, 1) := by decide +kernel
theorem dX10_operationAt_6 : decode cX10_operationAt 6 = .ok (.getfield 27, 3) := by decide +kernel
theorem dX10_operationAt_9 : decode cX10_operationAt 9 = .ok (.arraylength, 1) := by decide +kernel
theorem dX10_operationAt_10 : decode cX10_operationAt 10 = .ok (.if_icmp .ge 12, 3) := by decide +kernel
theorem dX10_operationAt_13 : decode cX10_operationAt 13 = .ok (.aload_n 0, 1) := by decide +kernel
theorem dX10_operationAt_14 : decode cX10_operationAt 14 = .ok (.getfield 27, 3) := by decide +kernel
theorem dX10_operationAt_17 : decode cX10_operationAt 17 = .ok (.iload_n 1, 1) := by decide +kernel
theorem dX10_operationAt_18 : decode cX10_operationAt 18 = .ok (.aaload, 1) := by decide +kernel
theorem dX10_operationAt_19 : decode cX10_operationAt 19 = .ok (.goto 4, 3) := by decide +kernel
theorem dX10_operationAt_22 : decode cX10_operationAt 22 = .ok (.aconst_null, 1) := by decide +kernel
theorem dX10_operationAt_23 : decode cX10_operationAt 23 = .ok (.areturn, 1) := by decide +kernel
set_option maxRecDepth 20000 in
theorem ggX10_rowOfThings_X8_withItems : GoodIn wsX10_rowOfThings wsX8_withItems := goodIn_r _ [5, 6, 7, 4, 8, 9, 10, 11, 12, 13, 14, 15, 16, 17, 18, 19, 20, 21, 22, 23, 24, 25, 26, 27, 28, 29, 30, 31, 32, 33, 34, 35, 36, 37, 38, 39, 40, 41, 42, 43, 44, 45, 46, 47, 48, 49, 50, 51, 52, 53, 54, 55, 56, 57, 58, 59, 60, 61, 62, 63, 64, 65, 66, 67, 68, 69, 70, 71, 72, 73, 74, 75, 76, 77, 78, 79, 80, 81, 82, 83, 84, 85, 86, 87, 88, 89, 90, 91, 92, 93, 94, 95, 96, 97, 98, 99, 100, 101, 102, 103, 104, 105, 106, 107, 108, 109] (by decide +kernel) (by decide +kernel)
set_option maxRecDepth 20000 in
theorem gX10_rowOfThings_X8_withItems : GoodIn wsX10_rowOfThings (va_wsS RX10 242 yX8_withItems wsX8_withItems) := goodIn_app (goodIn_of _ (by decide +kernel)) ggX10_rowOfThings_X8_withItems
theorem dX10_rowOfThings_0 : decode cX10_rowOfThings 0 = .ok (.bipush 8, 2) := by decide +kernel
theorem dX10_rowOfThings_2 : decode cX10_rowOfThings 2 = .ok (.anewarray 120, 3) := by decide +kernel
theorem dX10_rowOfThings_5 : decode cX10_rowOfThings 5 = .ok (.astore_n 0, 1) := by decide +kernel
theorem dX10_rowOfThings_6 : decode cX10_rowOfThings 6 = .ok (.iconst 0, 1) := by decide +kernel
theorem dX10_rowOfThings_7 : decode cX10_rowOfThings 7 = .ok (.istore_n 1, 1) := by decide +kernel
theorem dX10_rowOfThings_8 : decode cX10_rowOfThings 8 = .ok (.iload_n 1, 1) := by decide +kernel
theorem dX10_rowOfThings_9 : decode cX10_rowOfThings 9 = .ok (.aload_n 0, 1) := by decide +kernel
theorem dX10_rowOfThings_10 : decode cX10_rowOfThings 10 = .ok (.arraylength, 1) := by decide +kernel
theorem dX10_rowOfThings_11 : decode cX10_rowOfThings 11 = .ok (.if_icmp .ge 15, 3) := by decide +kernel
theorem dX10_rowOfThings_14 : decode cX10_rowOfThings 14 = .ok (.aload_n 0, 1) := by decide +kernel
theorem dX10_rowOfThings_15 : decode cX10_rowOfThings 15 = .ok (.iload_n 1, 1) := by decide +kernel
theorem dX10_rowOfThings_16 : decode cX10_rowOfThings 16 = .ok (.invokestatic 242, 3) := by decide +kernel
theorem dX10_rowOfThings_19 : decode cX10_rowOfThings 19 = .ok (.aastore, 1) := by decide +kernel
theorem dX10_rowOfThings_20 : decode cX10_rowOfThings 20 = .ok (.iinc 1 1, 3) := by decide +kernel
theorem dX10_rowOfThings_23 : decode cX10_rowOfThings 23 = .ok (.goto (-15), 3) := by decide +kernel
theorem dX10_rowOfThings_26 : decode cX10_rowOfThings 26 = .ok (.aload_n 0, 1) := by decide +kernel
theorem dX10_rowOfThings_27 : decode cX10_rowOfThings 27 = .ok (.areturn, 1) := by decide +kernel
theorem dX10_thingAt_0 : decode cX10_thingAt 0 = .ok (.aload_n 0, 1) := by decide +kernel
theorem dX10_thingAt_1 : decode cX10_thingAt 1 = .ok (.ifnull 19, 3) := by decide +kernel
theorem dX10_thingAt_4 : decode cX10_thingAt 4 = .ok (.iload_n 1, 1) := by decide +kernel
theorem dX10_thingAt_5 : decode cX10_thingAt 5 = .ok (.ifCond .lt 15, 3) := by decide +kernel
theorem dX10_thingAt_8 : decode cX10_thingAt 8 = .ok (.iload_n 1, 1) := by decide +kernel
theorem dX10_thingAt_9 : decode cX10_thingAt 9 = .ok (.aload_n 0, 1) := by decide +kernel
theorem dX10_thingAt_10 : decode cX10_thingAt 10 = .ok (.arraylength, 1) := by decide +kernel
theorem dX10_thingAt_11 : decode cX10_thingAt 11 = .ok (.if_icmp .ge 9, 3) := by decide +kernel
theorem dX10_thingAt_14 : decode cX10_thingAt 14 = .ok (.aload_n 0, 1) := by decide +kernel
theorem dX10_thingAt_15 : decode cX10_thingAt 15 = .ok (.iload_n 1, 1) := by decide +kernel
theorem dX10_thingAt_16 : decode cX10_thingAt 16 = .ok (.aaload, 1) := by decide +kernel
theorem dX10_thingAt_17 : decode cX10_thingAt 17 = .ok (.goto 4, 3) := by decide +kernel
theorem dX10_thingAt_20 : decode cX10_thingAt 20 = .ok (.aconst_null, 1) := by decide +kernel
theorem dX10_thingAt_21 : decode cX10_thingAt 21 = .ok (.areturn, 1) := by decide +kernel
set_option maxRecDepth 20000 in
theorem ggX10_partAt_X10_thingAt : GoodIn wsX10_partAt wsX10_thingAt := goodIn_r _ [6] (by decide +kernel) (by decide +kernel)
set_option maxRecDepth 20000 in
theorem gX10_partAt_X10_thingAt : GoodIn wsX10_partAt (va_wsS RX10 111 yX10_thingAt wsX10_thingAt) := goodIn_app (goodIn_of _ (by decide +kernel)) ggX10_partAt_X10_thingAt
set_option maxRecDepth 20000 in
theorem ggX10_partAt_X8_itemAt : GoodIn wsX10_partAt wsX8_itemAt := goodIn_r _ [11, 12, 13, 4, 5, 6, 23, 24, 25, 26, 27, 28, 29] (by decide +kernel) (by decide +kernel)
set_option maxRecDepth 20000 in
theorem gX10_partAt_X8_itemAt : GoodIn wsX10_partAt (wsV RX10 246 RX8 yX8_itemAt wsX8_itemAt) := goodIn_app (goodIn_of _ (by decide +kernel)) ggX10_partAt_X8_itemAt
theorem dX10_partAt_0 : decode cX10_partAt 0 = .ok (.iload_n 1, 1) := by decide +kernel
theorem dX10_partAt_1 : decode cX10_partAt 1 = .ok (.aload_n 0, 1) := by decide +kernel
theorem dX10_partAt_2 : decode cX10_partAt 2 = .ok (.getfield 52, 3) := by decide +kernel
theorem dX10_partAt_5 : decode cX10_partAt 5 = .ok (.if_icmp .ge 14, 3) := by decide +kernel
theorem dX10_partAt_8 : decode cX10_partAt 8 = .ok (.aload_n 0, 1) := by decide +kernel
theorem dX10_partAt_9 : decode cX10_partAt 9 = .ok (.getfield 46, 3) := by decide +kernel
theorem dX10_partAt_12 : decode cX10_partAt 12 = .ok (.iload_n 1, 1) := by decide +kernel
theorem dX10_partAt_13 : decode cX10_partAt 13 = .ok (.invokestatic 111, 3) := by decide +kernel
theorem dX10_partAt_16 : decode cX10_partAt 16 = .ok (.goto 4, 3) := by decide +kernel
theorem dX10_partAt_19 : decode cX10_partAt 19 = .ok (.aconst_null, 1) := by decide +kernel
theorem dX10_partAt_20 : decode cX10_partAt 20 = .ok (.astore_n 3, 1) := by decide +kernel
theorem dX10_partAt_21 : decode cX10_partAt 21 = .ok (.aload_n 3, 1) := by decide +kernel
theorem dX10_partAt_22 : decode cX10_partAt 22 = .ok (.ifnull 8, 3) := by decide +kernel
theorem dX10_partAt_25 : decode cX10_partAt 25 = .ok (.iload_n 2, 1) := by decide +kernel
theorem dX10_partAt_26 : decode cX10_partAt 26 = .ok (.iconst (-1), 1) := by decide +kernel
theorem dX10_partAt_27 : decode cX10_partAt 27 = .ok (.if_icmp .ne 7, 3) := by decide +kernel
theorem dX10_partAt_30 : decode cX10_partAt 30 = .ok (.aload_n 3, 1) := by decide +kernel
theorem dX10_partAt_31 : decode cX10_partAt 31 = .ok (.goto 8, 3) := by decide +kernel
theorem dX10_partAt_34 : decode cX10_partAt 34 = .ok (.aload_n 3, 1) := by decide +kernel
theorem dX10_partAt_35 : decode cX10_partAt 35 = .ok (.iload_n 2, 1) := by decide +kernel
theorem dX10_partAt_36 : decode cX10_partAt 36 = .ok (.invokevirtual 246, 3) := by decide +kernel
theorem dX10_partAt_39 : decode cX10_partAt 39 = .ok (.areturn, 1) := by decide +kernel
theorem dX10_canBeTold_0 : decode cX10_canBeTold 0 = .ok (.dload_n 0, 1) := by decide +kernel
theorem dX10_canBeTold_1 : decode cX10_canBeTold 1 = .ok (.ldc2_w 250, 3) := by decide +kernel
theorem dX10_canBeTold_4 : decode cX10_canBeTold 4 = .ok (.dcmp .l, 1) := by decide +kernel
theorem dX10_canBeTold_5 : decode cX10_canBeTold 5 = .ok (.ifCond .lt 31, 3) := by decide +kernel
theorem dX10_canBeTold_8 : decode cX10_canBeTold 8 = .ok (.dload_n 0, 1) := by decide +kernel
theorem dX10_canBeTold_9 : decode cX10_canBeTold 9 = .ok (.ldc2_w 252, 3) := by decide +kernel
theorem dX10_canBeTold_12 : decode cX10_canBeTold 12 = .ok (.dcmp .g, 1) := by decide +kernel
theorem dX10_canBeTold_13 : decode cX10_canBeTold 13 = .ok (.ifCond .gt 23, 3) := by decide +kernel
theorem dX10_canBeTold_16 : decode cX10_canBeTold 16 = .ok (.dload_n 0, 1) := by decide +kernel
theorem dX10_canBeTold_17 : decode cX10_canBeTold 17 = .ok (.ldc2_w 254, 3) := by decide +kernel
theorem dX10_canBeTold_20 : decode cX10_canBeTold 20 = .ok (.dmul, 1) := by decide +kernel
theorem dX10_canBeTold_21 : decode cX10_canBeTold 21 = .ok (.dstore_n 2, 1) := by decide +kernel
theorem dX10_canBeTold_22 : decode cX10_canBeTold 22 = .ok (.dload_n 2, 1) := by decide +kernel
theorem dX10_canBeTold_23 : decode cX10_canBeTold 23 = .ok (.d2l, 1) := by decide +kernel
theorem dX10_canBeTold_24 : decode cX10_canBeTold 24 = .ok (.l2d, 1) := by decide +kernel
theorem dX10_canBeTold_25 : decode cX10_canBeTold 25 = .ok (.dload_n 2, 1) := by decide +kernel
theorem dX10_canBeTold_26 : decode cX10_canBeTold 26 = .ok (.dcmp .l, 1) := by decide +kernel
theorem dX10_canBeTold_27 : decode cX10_canBeTold 27 = .ok (.ifCond .ne 7, 3) := by decide +kernel
theorem dX10_canBeTold_30 : decode cX10_canBeTold 30 = .ok (.iconst 1, 1) := by decide +kernel
theorem dX10_canBeTold_31 : decode cX10_canBeTold 31 = .ok (.goto 4, 3) := by decide +kernel
theorem dX10_canBeTold_34 : decode cX10_canBeTold 34 = .ok (.iconst 0, 1) := by decide +kernel
theorem dX10_canBeTold_35 : decode cX10_canBeTold 35 = .ok (.ireturn, 1) := by decide +kernel
theorem dX10_canBeTold_36 : decode cX10_canBeTold 36 = .ok (.iconst 0, 1) := by decide +kernel
theorem dX10_canBeTold_37 : decode cX10_canBeTold 37 = .ok (.ireturn, 1) := by decide +kernel
set_option maxRecDepth 20000 in
theorem ggX10_findNumber_X4_read : GoodIn wsX10_findNumber wsX4_read := goodIn_r _ [8, 9, 10, 11, 12, 13, 14, 15, 16, 17, 18, 19, 20, 7, 21, 22, 23, 24, 25, 26, 27, 28, 29, 30, 31, 32, 33, 34, 58, 59, 60] (by decide +kernel) (by decide +kernel)
set_option maxRecDepth 20000 in
theorem gX10_findNumber_X4_read : GoodIn wsX10_findNumber (wsV RX10 256 RX4 yX4_read wsX4_read) := goodIn_app (goodIn_of _ (by decide +kernel)) ggX10_findNumber_X4_read
set_option maxRecDepth 20000 in
theorem ggX10_findNumber_X8_knowNumber : GoodIn wsX10_findNumber wsX8_knowNumber := goodIn_r _ [39, 40, 41, 51, 52, 53, 54, 55, 56, 57] (by decide +kernel) (by decide +kernel)
set_option maxRecDepth 20000 in
theorem gX10_findNumber_X8_knowNumber : GoodIn wsX10_findNumber (wsV RX10 127 RX8 yX8_knowNumber wsX8_knowNumber) := goodIn_app (goodIn_of _ (by decide +kernel)) ggX10_findNumber_X8_knowNumber
theorem dX10_findNumber_0 : decode cX10_findNumber 0 = .ok (.aload_n 0, 1) := by decide +kernel
theorem dX10_findNumber_1 : decode cX10_findNumber 1 = .ok (.getfield 42, 3) := by decide +kernel
theorem dX10_findNumber_4 : decode cX10_findNumber 4 = .ok (.aload_n 1, 1) := by decide +kernel
theorem dX10_findNumber_5 : decode cX10_findNumber 5 = .ok (.getfield 135, 3) := by decide +kernel
theorem dX10_findNumber_8 : decode cX10_findNumber 8 = .ok (.invokevirtual 256, 3) := by decide +kernel
theorem dX10_findNumber_11 : decode cX10_findNumber 11 = .ok (.istore_n 2, 1) := by decide +kernel
theorem dX10_findNumber_12 : decode cX10_findNumber 12 = .ok (.aload_n 1, 1) := by decide +kernel
theorem dX10_findNumber_13 : decode cX10_findNumber 13 = .ok (.iload_n 2, 1) := by decide +kernel
theorem dX10_findNumber_14 : decode cX10_findNumber 14 = .ok (.aload_n 0, 1) := by decide +kernel
theorem dX10_findNumber_15 : decode cX10_findNumber 15 = .ok (.getfield 42, 3) := by decide +kernel
theorem dX10_findNumber_18 : decode cX10_findNumber 18 = .ok (.getfield 260, 3) := by decide +kernel
theorem dX10_findNumber_21 : decode cX10_findNumber 21 = .ok (.invokevirtual 127, 3) := by decide +kernel
theorem dX10_findNumber_24 : decode cX10_findNumber 24 = .ok (.return_, 1) := by decide +kernel
theorem dX10_refuseAt_0 : decode cX10_refuseAt 0 = .ok (.aload_n 0, 1) := by decide +kernel
theorem dX10_refuseAt_1 : decode cX10_refuseAt 1 = .ok (.iload_n 1, 1) := by decide +kernel
theorem dX10_refuseAt_2 : decode cX10_refuseAt 2 = .ok (.putfield 56, 3) := by decide +kernel
theorem dX10_refuseAt_5 : decode cX10_refuseAt 5 = .ok (.bipush (-5), 2) := by decide +kernel
theorem dX10_refuseAt_7 : decode cX10_refuseAt 7 = .ok (.ireturn, 1) := by decide +kernel
set_option maxRecDepth 20000 in
theorem ggX10_convertSlots_X2_argumentAt : GoodIn wsX10_convertSlots wsX2_argumentAt := goodIn_r _ [7, 8, 9, 10, 11, 12, 13, 14, 159, 160, 161, 162, 163] (by decide +kernel) (by decide +kernel)
set_option maxRecDepth 20000 in
theorem gX10_convertSlots_X2_argumentAt : GoodIn wsX10_convertSlots (wsV RX10 263 RX2 yX2_argumentAt wsX2_argumentAt) := goodIn_app (goodIn_of _ (by decide +kernel)) ggX10_convertSlots_X2_argumentAt
set_option maxRecDepth 20000 in
theorem ggX10_convertSlots_X10_thingAt : GoodIn wsX10_convertSlots wsX10_thingAt := goodIn_r _ [18] (by decide +kernel) (by decide +kernel)
set_option maxRecDepth 20000 in
theorem gX10_convertSlots_X10_thingAt : GoodIn wsX10_convertSlots (va_wsS RX10 111 yX10_thingAt wsX10_thingAt) := goodIn_app (goodIn_of _ (by decide +kernel)) ggX10_convertSlots_X10_thingAt
set_option maxRecDepth 20000 in
theorem ggX10_convertSlots_X1_convert : GoodIn wsX10_convertSlots wsX1_convert := goodIn_r _ [22, 23, 24, 25, 26, 27, 28, 29, 30, 31, 32, 33, 34, 35, 36, 37, 38, 39, 40, 41, 42, 43, 44, 45, 46, 47, 48, 49, 50, 51, 52, 21, 53, 54, 55, 56, 57, 58, 59, 60, 61, 62, 63, 64, 65, 66, 67, 68, 69, 70, 71, 72, 73, 74, 75, 76, 77, 78, 79, 80, 81, 82, 83, 84, 16, 17, 18, 85, 86, 87, 88, 89, 90, 91, 92, 93, 94, 95, 96, 97, 98, 99, 100, 101, 102, 103, 104, 105, 106, 107, 12, 108, 109, 110, 111, 112, 113, 114, 115, 116, 117, 118, 119, 120, 121, 122, 123, 124, 125, 126, 127, 128, 129, 130, 131, 132, 133, 134, 135, 136, 137, 138, 139, 140, 141, 142, 143, 144, 145, 146, 147, 148, 149, 164, 165, 166, 167, 168, 169, 170, 171, 172, 173, 174, 175, 176, 177, 178, 179, 180] (by decide +kernel) (by decide +kernel)
set_option maxRecDepth 20000 in
theorem gX10_convertSlots_X1_convert : GoodIn wsX10_convertSlots (va_wsS RX10 267 yX1_convert wsX1_convert) := goodIn_app (goodIn_of _ (by decide +kernel)) ggX10_convertSlots_X1_convert
theorem dX10_convertSlots_0 : decode cX10_convertSlots 0 = .ok (.iload_n 2, 1) := by decide +kernel
theorem dX10_convertSlots_1 : decode cX10_convertSlots 1 = .ok (.istore 4, 2) := by decide +kernel
theorem dX10_convertSlots_3 : decode cX10_convertSlots 3 = .ok (.iload 4, 2) := by decide +kernel
theorem dX10_convertSlots_5 : decode cX10_convertSlots 5 = .ok (.iload_n 3, 1) := by decide +kernel
theorem dX10_convertSlots_6 : decode cX10_convertSlots 6 = .ok (.if_icmp .ge 69, 3) := by decide +kernel
theorem dX10_convertSlots_9 : decode cX10_convertSlots 9 = .ok (.aload_n 1, 1) := by decide +kernel
theorem dX10_convertSlots_10 : decode cX10_convertSlots 10 = .ok (.iload 4, 2) := by decide +kernel
theorem dX10_convertSlots_12 : decode cX10_convertSlots 12 = .ok (.invokevirtual 263, 3) := by decide +kernel
theorem dX10_convertSlots_15 : decode cX10_convertSlots 15 = .ok (.astore 5, 2) := by decide +kernel
theorem dX10_convertSlots_17 : decode cX10_convertSlots 17 = .ok (.aload_n 0, 1) := by decide +kernel
theorem dX10_convertSlots_18 : decode cX10_convertSlots 18 = .ok (.getfield 35, 3) := by decide +kernel
theorem dX10_convertSlots_21 : decode cX10_convertSlots 21 = .ok (.iload 4, 2) := by decide +kernel
theorem dX10_convertSlots_23 : decode cX10_convertSlots 23 = .ok (.invokestatic 111, 3) := by decide +kernel
theorem dX10_convertSlots_26 : decode cX10_convertSlots 26 = .ok (.astore 6, 2) := by decide +kernel
theorem dX10_convertSlots_28 : decode cX10_convertSlots 28 = .ok (.aload_n 0, 1) := by decide +kernel
theorem dX10_convertSlots_29 : decode cX10_convertSlots 29 = .ok (.getfield 49, 3) := by decide +kernel
theorem dX10_convertSlots_32 : decode cX10_convertSlots 32 = .ok (.iload 4, 2) := by decide +kernel
theorem dX10_convertSlots_34 : decode cX10_convertSlots 34 = .ok (.invokestatic 111, 3) := by decide +kernel
theorem dX10_convertSlots_37 : decode cX10_convertSlots 37 = .ok (.astore 7, 2) := by decide +kernel
theorem dX10_convertSlots_39 : decode cX10_convertSlots 39 = .ok (.aload 5, 2) := by decide +kernel
theorem dX10_convertSlots_41 : decode cX10_convertSlots 41 = .ok (.ifnull 25, 3) := by decide +kernel
theorem dX10_convertSlots_44 : decode cX10_convertSlots 44 = .ok (.aload 6, 2) := by decide +kernel
theorem dX10_convertSlots_46 : decode cX10_convertSlots 46 = .ok (.ifnull 20, 3) := by decide +kernel
theorem dX10_convertSlots_49 : decode cX10_convertSlots 49 = .ok (.aload 7, 2) := by decide +kernel
theorem dX10_convertSlots_51 : decode cX10_convertSlots 51 = .ok (.ifnull 15, 3) := by decide +kernel
theorem dX10_convertSlots_54 : decode cX10_convertSlots 54 = .ok (.aload 5, 2) := by decide +kernel
theorem dX10_convertSlots_56 : decode cX10_convertSlots 56 = .ok (.aload 6, 2) := by decide +kernel
theorem dX10_convertSlots_58 : decode cX10_convertSlots 58 = .ok (.aload 7, 2) := by decide +kernel
theorem dX10_convertSlots_60 : decode cX10_convertSlots 60 = .ok (.invokestatic 267, 3) := by decide +kernel
theorem dX10_convertSlots_63 : decode cX10_convertSlots 63 = .ok (.ifCond .ne 6, 3) := by decide +kernel
theorem dX10_convertSlots_66 : decode cX10_convertSlots 66 = .ok (.iload 4, 2) := by decide +kernel
theorem dX10_convertSlots_68 : decode cX10_convertSlots 68 = .ok (.ireturn, 1) := by decide +kernel
theorem dX10_convertSlots_69 : decode cX10_convertSlots 69 = .ok (.iinc 4 1, 3) := by decide +kernel
theorem dX10_convertSlots_72 : decode cX10_convertSlots 72 = .ok (.goto (-69), 3) := by decide +kernel
theorem dX10_convertSlots_75 : decode cX10_convertSlots 75 = .ok (.iconst (-1), 1) := by decide +kernel
theorem dX10_convertSlots_76 : decode cX10_convertSlots 76 = .ok (.ireturn, 1) := by decide +kernel
set_option maxRecDepth 20000 in
theorem ggX10_finish_X10_thingAt : GoodIn wsX10_finish wsX10_thingAt := goodIn_r _ [14] (by decide +kernel) (by decide +kernel)
set_option maxRecDepth 20000 in
theorem gX10_finish_X10_thingAt : GoodIn wsX10_finish (va_wsS RX10 111 yX10_thingAt wsX10_thingAt) := goodIn_app (goodIn_of _ (by decide +kernel)) ggX10_finish_X10_thingAt
set_option maxRecDepth 20000 in
theorem ggX10_finish_X8_become : GoodIn wsX10_finish wsX8_become := goodIn_r _ [19, 20, 21, 22, 23, 24, 25, 26, 41, 42, 43, 44, 45, 46, 47, 48, 49] (by decide +kernel) (by decide +kernel)
set_option maxRecDepth 20000 in
theorem gX10_finish_X8_become : GoodIn wsX10_finish (wsV RX10 145 RX8 yX8_become wsX8_become) := goodIn_app (goodIn_of _ (by decide +kernel)) ggX10_finish_X8_become
theorem dX10_finish_0 : decode cX10_finish 0 = .ok (.iload_n 2, 1) := by decide +kernel
theorem dX10_finish_1 : decode cX10_finish 1 = .ok (.istore_n 3, 1) := by decide +kernel
theorem dX10_finish_2 : decode cX10_finish 2 = .ok (.iload_n 3, 1) := by decide +kernel
theorem dX10_finish_3 : decode cX10_finish 3 = .ok (.aload_n 1, 1) := by decide +kernel
theorem dX10_finish_4 : decode cX10_finish 4 = .ok (.getfield 273, 3) := by decide +kernel
theorem dX10_finish_7 : decode cX10_finish 7 = .ok (.if_icmp .ge 30, 3) := by decide +kernel
theorem dX10_finish_10 : decode cX10_finish 10 = .ok (.aload_n 0, 1) := by decide +kernel
theorem dX10_finish_11 : decode cX10_finish 11 = .ok (.getfield 49, 3) := by decide +kernel
theorem dX10_finish_14 : decode cX10_finish 14 = .ok (.iload_n 3, 1) := by decide +kernel
theorem dX10_finish_15 : decode cX10_finish 15 = .ok (.invokestatic 111, 3) := by decide +kernel
theorem dX10_finish_18 : decode cX10_finish 18 = .ok (.astore 4, 2) := by decide +kernel
theorem dX10_finish_20 : decode cX10_finish 20 = .ok (.aload 4, 2) := by decide +kernel
theorem dX10_finish_22 : decode cX10_finish 22 = .ok (.ifnull 9, 3) := by decide +kernel
theorem dX10_finish_25 : decode cX10_finish 25 = .ok (.aload 4, 2) := by decide +kernel
theorem dX10_finish_27 : decode cX10_finish 27 = .ok (.iconst 0, 1) := by decide +kernel
theorem dX10_finish_28 : decode cX10_finish 28 = .ok (.invokevirtual 145, 3) := by decide +kernel
theorem dX10_finish_31 : decode cX10_finish 31 = .ok (.iinc 3 1, 3) := by decide +kernel
theorem dX10_finish_34 : decode cX10_finish 34 = .ok (.goto (-32), 3) := by decide +kernel
theorem dX10_finish_37 : decode cX10_finish 37 = .ok (.aload_n 0, 1) := by decide +kernel
theorem dX10_finish_38 : decode cX10_finish 38 = .ok (.getfield 46, 3) := by decide +kernel
theorem dX10_finish_41 : decode cX10_finish 41 = .ok (.astore_n 3, 1) := by decide +kernel
theorem dX10_finish_42 : decode cX10_finish 42 = .ok (.aload_n 0, 1) := by decide +kernel
theorem dX10_finish_43 : decode cX10_finish 43 = .ok (.aload_n 0, 1) := by decide +kernel
theorem dX10_finish_44 : decode cX10_finish 44 = .ok (.getfield 49, 3) := by decide +kernel
theorem dX10_finish_47 : decode cX10_finish 47 = .ok (.putfield 46, 3) := by decide +kernel
theorem dX10_finish_50 : decode cX10_finish 50 = .ok (.aload_n 0, 1) := by decide +kernel
theorem dX10_finish_51 : decode cX10_finish 51 = .ok (.aload_n 3, 1) := by decide +kernel
theorem dX10_finish_52 : decode cX10_finish 52 = .ok (.putfield 49, 3) := by decide +kernel
theorem dX10_finish_55 : decode cX10_finish 55 = .ok (.aload_n 0, 1) := by decide +kernel
theorem dX10_finish_56 : decode cX10_finish 56 = .ok (.iload_n 2, 1) := by decide +kernel
theorem dX10_finish_57 : decode cX10_finish 57 = .ok (.aload_n 1, 1) := by decide +kernel
theorem dX10_finish_58 : decode cX10_finish 58 = .ok (.getfield 273, 3) := by decide +kernel
theorem dX10_finish_61 : decode cX10_finish 61 = .ok (.invokestatic 206, 3) := by decide +kernel
theorem dX10_finish_64 : decode cX10_finish 64 = .ok (.putfield 52, 3) := by decide +kernel
theorem dX10_finish_67 : decode cX10_finish 67 = .ok (.aload_n 0, 1) := by decide +kernel
theorem dX10_finish_68 : decode cX10_finish 68 = .ok (.iconst (-1), 1) := by decide +kernel
theorem dX10_finish_69 : decode cX10_finish 69 = .ok (.putfield 56, 3) := by decide +kernel
theorem dX10_finish_72 : decode cX10_finish 72 = .ok (.aload_n 1, 1) := by decide +kernel
theorem dX10_finish_73 : decode cX10_finish 73 = .ok (.getfield 274, 3) := by decide +kernel
theorem dX10_finish_76 : decode cX10_finish 76 = .ok (.ireturn, 1) := by decide +kernel
theorem dX11_init_0 : decode cX11_init 0 = .ok (.aload_n 0, 1) := by decide +kernel
theorem dX11_init_1 : decode cX11_init 1 = .ok (.invokespecial 1, 3) := by decide +kernel
theorem dX11_init_4 : decode cX11_init 4 = .ok (.aload_n 0, 1) := by decide +kernel
theorem dX11_init_5 : decode cX11_init 5 = .ok (.bipush 100, 2) := by decide +kernel
theorem dX11_init_7 : decode cX11_init 7 = .ok (.newarray .char, 2) := by decide +kernel
theorem dX11_init_9 : decode cX11_init 9 = .ok (.putfield 7, 3) := by decide +kernel
theorem dX11_init_12 : decode cX11_init 12 = .ok (.aload_n 0, 1) := by decide +kernel
theorem dX11_init_13 : decode cX11_init 13 = .ok (.iconst (-1), 1) := by decide +kernel
theorem dX11_init_14 : decode cX11_init 14 = .ok (.putfield 13, 3) := by decide +kernel
theorem dX11_init_17 : decode cX11_init 17 = .ok (.aload_n 0, 1) := by decide +kernel
theorem dX11_init_18 : decode cX11_init 18 = .ok (.bipush 6, 2) := by decide +kernel
theorem dX11_init_20 : decode cX11_init 20 = .ok (.newarray .int, 2) := by decide +kernel
theorem dX11_init_22 : decode cX11_init 22 = .ok (.putfield 17, 3) := by decide +kernel
theorem dX11_init_25 : decode cX11_init 25 = .ok (.aload_n 0, 1) := by decide +kernel
theorem dX11_init_26 : decode cX11_init 26 = .ok (.bipush 37, 2) := by decide +kernel
theorem dX11_init_28 : decode cX11_init 28 = .ok (.newarray .int, 2) := by decide +kernel
theorem dX11_init_30 : decode cX11_init 30 = .ok (.putfield 21, 3) := by decide +kernel
theorem dX11_init_33 : decode cX11_init 33 = .ok (.aload_n 0, 1) := by decide +kernel
