theorem dX10_whole_46 : decode cX10_whole 46 = .ok (.getfield 64, 3) := by decide +kernel
theorem dX10_whole_49 : decode cX10_whole 49 = .ok (.i2l, 1) := by decide +kernel
theorem dX10_whole_50 : decode cX10_whole 50 = .ok (.lreturn, 1) := by decide +kernel
theorem dX10_whole_51 : decode cX10_whole 51 = .ok (.aload_n 3, 1) := by decide +kernel
theorem dX10_whole_52 : decode cX10_whole 52 = .ok (.getfield 169, 3) := by decide +kernel
theorem dX10_whole_55 : decode cX10_whole 55 = .ok (.bipush 6, 2) := by decide +kernel
theorem dX10_whole_57 : decode cX10_whole 57 = .ok (.if_icmp .ne 11, 3) := by decide +kernel
theorem dX10_whole_60 : decode cX10_whole 60 = .ok (.aload_n 3, 1) := by decide +kernel
theorem dX10_whole_61 : decode cX10_whole 61 = .ok (.getfield 172, 3) := by decide +kernel
theorem dX10_whole_64 : decode cX10_whole 64 = .ok (.i2l, 1) := by decide +kernel
theorem dX10_whole_65 : decode cX10_whole 65 = .ok (.goto 4, 3) := by decide +kernel
theorem dX10_whole_68 : decode cX10_whole 68 = .ok (.lconst 0, 1) := by decide +kernel
theorem dX10_whole_69 : decode cX10_whole 69 = .ok (.lreturn, 1) := by decide +kernel
set_option maxRecDepth 20000 in
theorem ggX10_real_X10_partAt : GoodIn wsX10_real wsX10_partAt := goodIn_r _ [7, 8, 9, 10, 11, 6, 12, 13, 14, 15, 16, 17, 18, 19, 27, 28, 29, 30, 31, 32, 33, 34, 35, 20, 21, 22, 23, 24, 25, 26] rfl (by decide +kernel)
set_option maxRecDepth 20000 in
theorem gX10_real_X10_partAt : GoodIn wsX10_real (wsV RX10 226 RX10 yX10_partAt wsX10_partAt) := goodIn_app (goodIn_of _ (by decide +kernel)) ggX10_real_X10_partAt
theorem dX10_real_0 : decode cX10_real 0 = .ok (.aload_n 0, 1) := by decide +kernel
theorem dX10_real_1 : decode cX10_real 1 = .ok (.iload_n 1, 1) := by decide +kernel
theorem dX10_real_2 : decode cX10_real 2 = .ok (.iload_n 2, 1) := by decide +kernel
theorem dX10_real_3 : decode cX10_real 3 = .ok (.invokevirtual 226, 3) := by decide +kernel
theorem dX10_real_6 : decode cX10_real 6 = .ok (.astore_n 3, 1) := by decide +kernel
theorem dX10_real_7 : decode cX10_real 7 = .ok (.aload_n 3, 1) := by decide +kernel
theorem dX10_real_8 : decode cX10_real 8 = .ok (.ifnull 11, 3) := by decide +kernel
theorem dX10_real_11 : decode cX10_real 11 = .ok (.aload_n 3, 1) := by decide +kernel
theorem dX10_real_12 : decode cX10_real 12 = .ok (.getfield 169, 3) := by decide +kernel
theorem dX10_real_15 : decode cX10_real 15 = .ok (.iconst 4, 1) := by decide +kernel
theorem dX10_real_16 : decode cX10_real 16 = .ok (.if_icmp .eq 7, 3) := by decide +kernel
theorem dX10_real_19 : decode cX10_real 19 = .ok (.dconst 0, 1) := by decide +kernel
theorem dX10_real_20 : decode cX10_real 20 = .ok (.goto 7, 3) := by decide +kernel
theorem dX10_real_23 : decode cX10_real 23 = .ok (.aload_n 3, 1) := by decide +kernel
theorem dX10_real_24 : decode cX10_real 24 = .ok (.getfield 234, 3) := by decide +kernel
theorem dX10_real_27 : decode cX10_real 27 = .ok (.dreturn, 1) := by decide +kernel
set_option maxRecDepth 20000 in
theorem ggX10_sign_X10_partAt : GoodIn wsX10_sign wsX10_partAt := goodIn_r _ [7, 8, 9, 10, 11, 6, 12, 13, 14, 15, 16, 17, 18, 19, 34, 35, 36, 37, 38, 39, 40, 41, 42, 27, 28, 29, 30, 31, 32, 33] rfl (by decide +kernel)
set_option maxRecDepth 20000 in
theorem gX10_sign_X10_partAt : GoodIn wsX10_sign (wsV RX10 226 RX10 yX10_partAt wsX10_partAt) := goodIn_app (goodIn_of _ (by decide +kernel)) ggX10_sign_X10_partAt
set_option maxRecDepth 20000 in
theorem ggX10_sign_X7_at : GoodIn wsX10_sign wsX7_at := goodIn_r _ [24, 25, 26, 43, 44] rfl (by decide +kernel)
set_option maxRecDepth 20000 in
theorem gX10_sign_X7_at : GoodIn wsX10_sign (wsV RX10 238 RX7 yX7_at wsX7_at) := goodIn_app (goodIn_of _ (by decide +kernel)) ggX10_sign_X7_at
theorem dX10_sign_0 : decode cX10_sign 0 = .ok (.aload_n 0, 1) := by decide +kernel
theorem dX10_sign_1 : decode cX10_sign 1 = .ok (.iload_n 1, 1) := by decide +kernel
theorem dX10_sign_2 : decode cX10_sign 2 = .ok (.iload_n 2, 1) := by decide +kernel
theorem dX10_sign_3 : decode cX10_sign 3 = .ok (.invokevirtual 226, 3) := by decide +kernel
theorem dX10_sign_6 : decode cX10_sign 6 = .ok (.astore 4, 2) := by decide +kernel
theorem dX10_sign_8 : decode cX10_sign 8 = .ok (.aload 4, 2) := by decide +kernel
theorem dX10_sign_10 : decode cX10_sign 10 = .ok (.ifnull 12, 3) := by decide +kernel
theorem dX10_sign_13 : decode cX10_sign 13 = .ok (.aload 4, 2) := by decide +kernel
theorem dX10_sign_15 : decode cX10_sign 15 = .ok (.getfield 169, 3) := by decide +kernel
theorem dX10_sign_18 : decode cX10_sign 18 = .ok (.iconst 5, 1) := by decide +kernel
theorem dX10_sign_19 : decode cX10_sign 19 = .ok (.if_icmp .eq 6, 3) := by decide +kernel
theorem dX10_sign_22 : decode cX10_sign 22 = .ok (.bipush 32, 2) := by decide +kernel
theorem dX10_sign_24 : decode cX10_sign 24 = .ok (.ireturn, 1) := by decide +kernel
theorem dX10_sign_25 : decode cX10_sign 25 = .ok (.aload 4, 2) := by decide +kernel
theorem dX10_sign_27 : decode cX10_sign 27 = .ok (.getfield 135, 3) := by decide +kernel
theorem dX10_sign_30 : decode cX10_sign 30 = .ok (.iload_n 3, 1) := by decide +kernel
theorem dX10_sign_31 : decode cX10_sign 31 = .ok (.invokevirtual 238, 3) := by decide +kernel
theorem dX10_sign_34 : decode cX10_sign 34 = .ok (.istore 5, 2) := by decide +kernel
theorem dX10_sign_36 : decode cX10_sign 36 = .ok (.iload 5, 2) := by decide +kernel
theorem dX10_sign_38 : decode cX10_sign 38 = .ok (.ifCond .ne 8, 3) := by decide +kernel
theorem dX10_sign_41 : decode cX10_sign 41 = .ok (.bipush 32, 2) := by decide +kernel
theorem dX10_sign_43 : decode cX10_sign 43 = .ok (.goto 5, 3) := by decide +kernel
theorem dX10_sign_46 : decode cX10_sign 46 = .ok (.iload 5, 2) := by decide +kernel
theorem dX10_sign_48 : decode cX10_sign 48 = .ok (.ireturn, 1) := by decide +kernel
theorem dX10_operationAt_0 : decode cX10_operationAt 0 = .ok (.iload_n 1, 1) := by decide +kernel
theorem dX10_operationAt_1 : decode cX10_operationAt 1 = .ok (.ifCond .lt 21, 3) := by decide +kernel
theorem dX10_operationAt_4 : decode cX10_operationAt 4 = .ok (.iload_n 1, 1) := by decide +kernel
theorem dX10_operationAt_5 : decode cX10_operationAt 5 = .ok (.aload_n 0, 1) := by decide +kernel
theorem dX10_operationAt_6 : decode cX10_operationAt 6 = .ok (.getfield 27, 3) := by decide +kernel
theorem dX10_operationAt_9 : decode cX10_operationAt 9 = .ok (.arraylength, 1) := by decide +kernel
theorem dX10_operationAt_10 : decode cX10_operationAt 10 = .ok (.if_icmp .ge 12, 3) := by decide +kernel
theorem dX10_operationAt_13 : decode cX10_operationAt 13 = .ok (.aload_n 0, 1) := by decide +kernel
theorem dX10_operationAt_14 : decode cX10_operationAt 14 = .ok (.getfield 27, 3) := by decide +kernel
theorem dX10_operationAt_17 : decode cX10_operationAt 17 = .ok (.iload_n 1, 1) := by decide +kernel
theorem dX10_operationAt_18 : decode cX10_operationAt 18 = .ok (.aaload, 1) := by decide +kernel
theorem dX10_operationAt_19 : decode cX10_operationAt 19 = .ok (.goto 4, 3) := by decide +kernel
theorem dX10_operationAt_22 : decode cX10_operationAt 22 = .ok (.aconst_null, 1) := by decide +kernel
theorem dX10_operationAt_23 : decode cX10_operationAt 23 = .ok (.areturn, 1) := by decide +kernel
set_option maxRecDepth 20000 in
theorem ggX10_rowOfThings_X8_withItems : GoodIn wsX10_rowOfThings wsX8_withItems := goodIn_r _ [5, 6, 7, 4, 8, 9, 10, 11, 12, 13, 14, 15, 16, 17, 18, 19, 20, 21, 22, 23, 24, 25, 26, 27, 28, 29, 30, 31, 32, 33, 34, 35, 36, 37, 38, 39, 40, 41, 42, 43, 44, 45, 46, 47, 48, 49, 50, 51, 52, 53, 54, 55, 56, 57, 58, 59, 60, 61, 62, 63, 64, 65, 66, 67, 68, 69, 70, 71, 72, 73, 74, 75, 76, 77, 78, 79, 80, 81, 82, 83, 84, 85, 86, 87, 88, 89, 90, 91, 92, 93, 94, 95, 96, 97, 98, 99, 100, 101, 102, 103, 104, 105, 106, 107, 108, 109] rfl (by decide +kernel)
set_option maxRecDepth 20000 in
theorem gX10_rowOfThings_X8_withItems : GoodIn wsX10_rowOfThings (va_wsS RX10 242 yX8_withItems wsX8_withItems) := goodIn_app (goodIn_of _ (by decide +kernel)) ggX10_rowOfThings_X8_withItems
theorem dX10_rowOfThings_0 : decode cX10_rowOfThings 0 = .ok (.bipush 8, 2) := by decide +kernel
theorem dX10_rowOfThings_2 : decode cX10_rowOfThings 2 = .ok (.anewarray 120, 3) := by decide +kernel
theorem dX10_rowOfThings_5 : decode cX10_rowOfThings 5 = .ok (.astore_n 0, 1) := by decide +kernel
theorem dX10_rowOfThings_6 : decode cX10_rowOfThings 6 = .ok (.iconst 0, 1) := by decide +kernel
theorem dX10_rowOfThings_7 : decode cX10_rowOfThings 7 = .ok (.istore_n 1, 1) := by decide +kernel
theorem dX10_rowOfThings_8 : decode cX10_rowOfThings 8 = .ok (.iload_n 1, 1) := by decide +kernel
theorem dX10_rowOfThings_9 : decode cX10_rowOfThings 9 = .ok (.aload_n 0, 1) := by decide +kernel
theorem dX10_rowOfThings_10 : decode cX10_rowOfThings 10 = .ok (.arraylength, 1) := by decide +kernel
theorem dX10_rowOfThings_11 : decode cX10_rowOfThings 11 = .ok (.if_icmp .ge 15, 3) := by decide +kernel
theorem dX10_rowOfThings_14 : decode cX10_rowOfThings 14 = .ok (.aload_n 0, 1) := by decide +kernel
theorem dX10_rowOfThings_15 : decode cX10_rowOfThings 15 = .ok (.iload_n 1, 1) := by decide +kernel
theorem dX10_rowOfThings_16 : decode cX10_rowOfThings 16 = .ok (.invokestatic 242, 3) := by decide +kernel
theorem dX10_rowOfThings_19 : decode cX10_rowOfThings 19 = .ok (.aastore, 1) := by decide +kernel
theorem dX10_rowOfThings_20 : decode cX10_rowOfThings 20 = .ok (.iinc 1 1, 3) := by decide +kernel
theorem dX10_rowOfThings_23 : decode cX10_rowOfThings 23 = .ok (.goto (-15), 3) := by decide +kernel
theorem dX10_rowOfThings_26 : decode cX10_rowOfThings 26 = .ok (.aload_n 0, 1) := by decide +kernel
theorem dX10_rowOfThings_27 : decode cX10_rowOfThings 27 = .ok (.areturn, 1) := by decide +kernel
theorem dX10_thingAt_0 : decode cX10_thingAt 0 = .ok (.aload_n 0, 1) := by decide +kernel
theorem dX10_thingAt_1 : decode cX10_thingAt 1 = .ok (.ifnull 19, 3) := by decide +kernel
theorem dX10_thingAt_4 : decode cX10_thingAt 4 = .ok (.iload_n 1, 1) := by decide +kernel
theorem dX10_thingAt_5 : decode cX10_thingAt 5 = .ok (.ifCond .lt 15, 3) := by decide +kernel
theorem dX10_thingAt_8 : decode cX10_thingAt 8 = .ok (.iload_n 1, 1) := by decide +kernel
theorem dX10_thingAt_9 : decode cX10_thingAt 9 = .ok (.aload_n 0, 1) := by decide +kernel
theorem dX10_thingAt_10 : decode cX10_thingAt 10 = .ok (.arraylength, 1) := by decide +kernel
theorem dX10_thingAt_11 : decode cX10_thingAt 11 = .ok (.if_icmp .ge 9, 3) := by decide +kernel
theorem dX10_thingAt_14 : decode cX10_thingAt 14 = .ok (.aload_n 0, 1) := by decide +kernel
theorem dX10_thingAt_15 : decode cX10_thingAt 15 = .ok (.iload_n 1, 1) := by decide +kernel
theorem dX10_thingAt_16 : decode cX10_thingAt 16 = .ok (.aaload, 1) := by decide +kernel
theorem dX10_thingAt_17 : decode cX10_thingAt 17 = .ok (.goto 4, 3) := by decide +kernel
theorem dX10_thingAt_20 : decode cX10_thingAt 20 = .ok (.aconst_null, 1) := by decide +kernel
theorem dX10_thingAt_21 : decode cX10_thingAt 21 = .ok (.areturn, 1) := by decide +kernel
set_option maxRecDepth 20000 in
theorem ggX10_partAt_X10_thingAt : GoodIn wsX10_partAt wsX10_thingAt := goodIn_r _ [6] rfl (by decide +kernel)
set_option maxRecDepth 20000 in
theorem gX10_partAt_X10_thingAt : GoodIn wsX10_partAt (va_wsS RX10 111 yX10_thingAt wsX10_thingAt) := goodIn_app (goodIn_of _ (by decide +kernel)) ggX10_partAt_X10_thingAt
set_option maxRecDepth 20000 in
theorem ggX10_partAt_X8_itemAt : GoodIn wsX10_partAt wsX8_itemAt := goodIn_r _ [11, 12, 13, 4, 5, 6, 23, 24, 25, 26, 27, 28, 29] rfl (by decide +kernel)
set_option maxRecDepth 20000 in
theorem gX10_partAt_X8_itemAt : GoodIn wsX10_partAt (wsV RX10 246 RX8 yX8_itemAt wsX8_itemAt) := goodIn_app (goodIn_of _ (by decide +kernel)) ggX10_partAt_X8_itemAt
theorem dX10_partAt_0 : decode cX10_partAt 0 = .ok (.iload_n 1, 1) := by decide +kernel
theorem dX10_partAt_1 : decode cX10_partAt 1 = .ok (.aload_n 0, 1) := by decide +kernel
theorem dX10_partAt_2 : decode cX10_partAt 2 = .ok (.getfield 52, 3) := by decide +kernel
theorem dX10_partAt_5 : decode cX10_partAt 5 = .ok (.if_icmp .ge 14, 3) := by decide +kernel
theorem dX10_partAt_8 : decode cX10_partAt 8 = .ok (.aload_n 0, 1) := by decide +kernel
theorem dX10_partAt_9 : decode cX10_partAt 9 = .ok (.getfield 46, 3) := by decide +kernel
theorem dX10_partAt_12 : decode cX10_partAt 12 = .ok (.iload_n 1, 1) := by decide +kernel
theorem dX10_partAt_13 : decode cX10_partAt 13 = .ok (.invokestatic 111, 3) := by decide +kernel
theorem dX10_partAt_16 : decode cX10_partAt 16 = .ok (.goto 4, 3) := by decide +kernel
theorem dX10_partAt_19 : decode cX10_partAt 19 = .ok (.aconst_null, 1) := by decide +kernel
theorem dX10_partAt_20 : decode cX10_partAt 20 = .ok (.astore_n 3, 1) := by decide +kernel
theorem dX10_partAt_21 : decode cX10_partAt 21 = .ok (.aload_n 3, 1) := by decide +kernel
theorem dX10_partAt_22 : decode cX10_partAt 22 = .ok (.ifnull 8, 3) := by decide +kernel
theorem dX10_partAt_25 : decode cX10_partAt 25 = .ok (.iload_n 2, 1) := by decide +kernel
theorem dX10_partAt_26 : decode cX10_partAt 26 = .ok (.iconst (-1), 1) := by decide +kernel
theorem dX10_partAt_27 : decode cX10_partAt 27 = .ok (.if_icmp .ne 7, 3) := by decide +kernel
theorem dX10_partAt_30 : decode cX10_partAt 30 = .ok (.aload_n 3, 1) := by decide +kernel
theorem dX10_partAt_31 : decode cX10_partAt 31 = .ok (.goto 8, 3) := by decide +kernel
theorem dX10_partAt_34 : decode cX10_partAt 34 = .ok (.aload_n 3, 1) := by decide +kernel
theorem dX10_partAt_35 : decode cX10_partAt 35 = .ok (.iload_n 2, 1) := by decide +kernel
theorem dX10_partAt_36 : decode cX10_partAt 36 = .ok (.invokevirtual 246, 3) := by decide +kernel
theorem dX10_partAt_39 : decode cX10_partAt 39 = .ok (.areturn, 1) := by decide +kernel
theorem dX10_canBeTold_0 : decode cX10_canBeTold 0 = .ok (.dload_n 0, 1) := by decide +kernel
theorem dX10_canBeTold_1 : decode cX10_canBeTold 1 = .ok (.ldc2_w 250, 3) := by decide +kernel
theorem dX10_canBeTold_4 : decode cX10_canBeTold 4 = .ok (.dcmp .l, 1) := by decide +kernel
theorem dX10_canBeTold_5 : decode cX10_canBeTold 5 = .ok (.ifCond .lt 31, 3) := by decide +kernel
theorem dX10_canBeTold_8 : decode cX10_canBeTold 8 = .ok (.dload_n 0, 1) := by decide +kernel
theorem dX10_canBeTold_9 : decode cX10_canBeTold 9 = .ok (.ldc2_w 252, 3) := by decide +kernel
theorem dX10_canBeTold_12 : decode cX10_canBeTold 12 = .ok (.dcmp .g, 1) := by decide +kernel
theorem dX10_canBeTold_13 : decode cX10_canBeTold 13 = .ok (.ifCond .gt 23, 3) := by decide +kernel
theorem dX10_canBeTold_16 : decode cX10_canBeTold 16 = .ok (.dload_n 0, 1) := by decide +kernel
theorem dX10_canBeTold_17 : decode cX10_canBeTold 17 = .ok (.ldc2_w 254, 3) := by decide +kernel
theorem dX10_canBeTold_20 : decode cX10_canBeTold 20 = .ok (.dmul, 1) := by decide +kernel
theorem dX10_canBeTold_21 : decode cX10_canBeTold 21 = .ok (.dstore_n 2, 1) := by decide +kernel
theorem dX10_canBeTold_22 : decode cX10_canBeTold 22 = .ok (.dload_n 2, 1) := by decide +kernel
theorem dX10_canBeTold_23 : decode cX10_canBeTold 23 = .ok (.d2l, 1) := by decide +kernel
theorem dX10_canBeTold_24 : decode cX10_canBeTold 24 = .ok (.l2d, 1) := by decide +kernel
theorem dX10_canBeTold_25 : decode cX10_canBeTold 25 = .ok (.dload_n 2, 1) := by decide +kernel
theorem dX10_canBeTold_26 : decode cX10_canBeTold 26 = .ok (.dcmp .l, 1) := by decide +kernel
theorem dX10_canBeTold_27 : decode cX10_canBeTold 27 = .ok (.ifCond .ne 7, 3) := by decide +kernel
theorem dX10_canBeTold_30 : decode cX10_canBeTold 30 = .ok (.iconst 1, 1) := by decide +kernel
theorem dX10_canBeTold_31 : decode cX10_canBeTold 31 = .ok (.goto 4, 3) := by decide +kernel
theorem dX10_canBeTold_34 : decode cX10_canBeTold 34 = .ok (.iconst 0, 1) := by decide +kernel
theorem dX10_canBeTold_35 : decode cX10_canBeTold 35 = .ok (.ireturn, 1) := by decide +kernel
theorem dX10_canBeTold_36 : decode cX10_canBeTold 36 = .ok (.iconst 0, 1) := by decide +kernel
theorem dX10_canBeTold_37 : decode cX10_canBeTold 37 = .ok (.ireturn, 1) := by decide +kernel
set_option maxRecDepth 20000 in
theorem ggX10_findNumber_X4_read : GoodIn wsX10_findNumber wsX4_read := goodIn_r _ [8, 9, 10, 11, 12, 13, 14, 15, 16, 17, 18, 19, 20, 7, 21, 22, 23, 24, 25, 26, 27, 28, 29, 30, 31, 32, 33, 34, 58, 59, 60] rfl (by decide +kernel)
set_option maxRecDepth 20000 in
theorem gX10_findNumber_X4_read : GoodIn wsX10_findNumber (wsV RX10 256 RX4 yX4_read wsX4_read) := goodIn_app (goodIn_of _ (by decide +kernel)) ggX10_findNumber_X4_read
set_option maxRecDepth 20000 in
theorem ggX10_findNumber_X8_knowNumber : GoodIn wsX10_findNumber wsX8_knowNumber := goodIn_r _ [39, 40, 41, 51, 52, 53, 54, 55, 56, 57] rfl (by decide +kernel)
set_option maxRecDepth 20000 in
theorem gX10_findNumber_X8_knowNumber : GoodIn wsX10_findNumber (wsV RX10 127 RX8 yX8_knowNumber wsX8_knowNumber) := goodIn_app (goodIn_of _ (by decide +kernel)) ggX10_findNumber_X8_knowNumber
theorem dX10_findNumber_0 : decode cX10_findNumber 0 = .ok (.aload_n 0, 1) := by decide +kernel
theorem dX10_findNumber_1 : decode cX10_findNumber 1 = .ok (.getfield 42, 3) := by decide +kernel
theorem dX10_findNumber_4 : decode cX10_findNumber 4 = .ok (.aload_n 1, 1) := by decide +kernel
theorem dX10_findNumber_5 : decode cX10_findNumber 5 = .ok (.getfield 135, 3) := by decide +kernel
theorem dX10_findNumber_8 : decode cX10_findNumber 8 = .ok (.invokevirtual 256, 3) := by decide +kernel
theorem dX10_findNumber_11 : decode cX10_findNumber 11 = .ok (.istore_n 2, 1) := by decide +kernel
theorem dX10_findNumber_12 : decode cX10_findNumber 12 = .ok (.aload_n 1, 1) := by decide +kernel
theorem dX10_findNumber_13 : decode cX10_findNumber 13 = .ok (.iload_n 2, 1) := by decide +kernel
theorem dX10_findNumber_14 : decode cX10_findNumber 14 = .ok (.aload_n 0, 1) := by decide +kernel
theorem dX10_findNumber_15 : decode cX10_findNumber 15 = .ok (.getfield 42, 3) := by decide +kernel
theorem dX10_findNumber_18 : decode cX10_findNumber 18 = .ok (.getfield 260, 3) := by decide +kernel
theorem dX10_findNumber_21 : decode cX10_findNumber 21 = .ok (.invokevirtual 127, 3) := by decide +kernel
theorem dX10_findNumber_24 : decode cX10_findNumber 24 = .ok (.return_, 1) := by decide +kernel
theorem dX10_refuseAt_0 : decode cX10_refuseAt 0 = .ok (.aload_n 0, 1) := by decide +kernel
theorem dX10_refuseAt_1 : decode cX10_refuseAt 1 = .ok (.iload_n 1, 1) := by decide +kernel
theorem dX10_refuseAt_2 : decode cX10_refuseAt 2 = .ok (.putfield 56, 3) := by decide +kernel
theorem dX10_refuseAt_5 : decode cX10_refuseAt 5 = .ok (.bipush (-5), 2) := by decide +kernel
theorem dX10_refuseAt_7 : decode cX10_refuseAt 7 = .ok (.ireturn, 1) := by decide +kernel
set_option maxRecDepth 20000 in
theorem ggX10_convertSlots_X2_argumentAt : GoodIn wsX10_convertSlots wsX2_argumentAt := goodIn_r _ [7, 8, 9, 10, 11, 12, 13, 14, 159, 160, 161, 162, 163] rfl (by decide +kernel)
set_option maxRecDepth 20000 in
theorem gX10_convertSlots_X2_argumentAt : GoodIn wsX10_convertSlots (wsV RX10 263 RX2 yX2_argumentAt wsX2_argumentAt) := goodIn_app (goodIn_of _ (by decide +kernel)) ggX10_convertSlots_X2_argumentAt
set_option maxRecDepth 20000 in
theorem ggX10_convertSlots_X10_thingAt : GoodIn wsX10_convertSlots wsX10_thingAt := goodIn_r _ [18] rfl (by decide +kernel)
set_option maxRecDepth 20000 in
theorem gX10_convertSlots_X10_thingAt : GoodIn wsX10_convertSlots (va_wsS RX10 111 yX10_thingAt wsX10_thingAt) := goodIn_app (goodIn_of _ (by decide +kernel)) ggX10_convertSlots_X10_thingAt
set_option maxRecDepth 20000 in
theorem ggX10_convertSlots_X1_convert : GoodIn wsX10_convertSlots wsX1_convert := goodIn_r _ [22, 23, 24, 25, 26, 27, 28, 29, 30, 31, 32, 33, 34, 35, 36, 37, 38, 39, 40, 41, 42, 43, 44, 45, 46, 47, 48, 49, 50, 51, 52, 21, 53, 54, 55, 56, 57, 58, 59, 60, 61, 62, 63, 64, 65, 66, 67, 68, 69, 70, 71, 72, 73, 74, 75, 76, 77, 78, 79, 80, 81, 82, 83, 84, 16, 17, 18, 85, 86, 87, 88, 89, 90, 91, 92, 93, 94, 95, 96, 97, 98, 99, 100, 101, 102, 103, 104, 105, 106, 107, 12, 108, 109, 110, 111, 112, 113, 114, 115, 116, 117, 118, 119, 120, 121, 122, 123, 124, 125, 126, 127, 128, 129, 130, 131, 132, 133, 134, 135, 136, 137, 138, 139, 140, 141, 142, 143, 144, 145, 146, 147, 148, 149, 164, 165, 166, 167, 168, 169, 170, 171, 172, 173, 174, 175, 176, 177, 178, 179, 180] rfl (by decide +kernel)
set_option maxRecDepth 20000 in
theorem gX10_convertSlots_X1_convert : GoodIn wsX10_convertSlots (va_wsS RX10 267 yX1_convert wsX1_convert) := goodIn_app (goodIn_of _ (by decide +kernel)) ggX10_convertSlots_X1_convert
theorem dX10_convertSlots_0 : decode cX10_convertSlots 0 = .ok (.iload_n 2, 1) := by decide +kernel
theorem dX10_convertSlots_1 : decode cX10_convertSlots 1 = .ok (.istore 4, 2) := by decide +kernel
theorem dX10_convertSlots_3 : decode cX10_convertSlots 3 = .ok (.iload 4, 2) := by decide +kernel
theorem dX10_convertSlots_5 : decode cX10_convertSlots 5 = .ok (.iload_n 3, 1) := by decide +kernel
theorem dX10_convertSlots_6 : decode cX10_convertSlots 6 = .ok (.if_icmp .ge 69, 3) := by decide +kernel
theorem dX10_convertSlots_9 : decode cX10_convertSlots 9 = .ok (.aload_n 1, 1) := by decide +kernel
theorem dX10_convertSlots_10 : decode cX10_convertSlots 10 = .ok (.iload 4, 2) := by decide +kernel
theorem dX10_convertSlots_12 : decode cX10_convertSlots 12 = .ok (.invokevirtual 263, 3) := by decide +kernel
theorem dX10_convertSlots_15 : decode cX10_convertSlots 15 = .ok (.astore 5, 2) := by decide +kernel
theorem dX10_convertSlots_17 : decode cX10_convertSlots 17 = .ok (.aload_n 0, 1) := by decide +kernel
theorem dX10_convertSlots_18 : decode cX10_convertSlots 18 = .ok (.getfield 35, 3) := by decide +kernel
theorem dX10_convertSlots_21 : decode cX10_convertSlots 21 = .ok (.iload 4, 2) := by decide +kernel
theorem dX10_convertSlots_23 : decode cX10_convertSlots 23 = .ok (.invokestatic 111, 3) := by decide +kernel
theorem dX10_convertSlots_26 : decode cX10_convertSlots 26 = .ok (.astore 6, 2) := by decide +kernel
theorem dX10_convertSlots_28 : decode cX10_convertSlots 28 = .ok (.aload_n 0, 1) := by decide +kernel
theorem dX10_convertSlots_29 : decode cX10_convertSlots 29 = .ok (.getfield 49, 3) := by decide +kernel
theorem dX10_convertSlots_32 : decode cX10_convertSlots 32 = .ok (.iload 4, 2) := by decide +kernel
theorem dX10_convertSlots_34 : decode cX10_convertSlots 34 = .ok (.invokestatic 111, 3) := by decide +kernel
theorem dX10_convertSlots_37 : decode cX10_convertSlots 37 = .ok (.astore 7, 2) := by decide +kernel
theorem dX10_convertSlots_39 : decode cX10_convertSlots 39 = .ok (.aload 5, 2) := by decide +kernel
theorem dX10_convertSlots_41 : decode cX10_convertSlots 41 = .ok (.ifnull 25, 3) := by decide +kernel
theorem dX10_convertSlots_44 : decode cX10_convertSlots 44 = .ok (.aload 6, 2) := by decide +kernel
theorem dX10_convertSlots_46 : decode cX10_convertSlots 46 = .ok (.ifnull 20, 3) := by decide +kernel
theorem dX10_convertSlots_49 : decode cX10_convertSlots 49 = .ok (.aload 7, 2) := by decide +kernel
theorem dX10_convertSlots_51 : decode cX10_convertSlots 51 = .ok (.ifnull 15, 3) := by decide +kernel
theorem dX10_convertSlots_54 : decode cX10_convertSlots 54 = .ok (.aload 5, 2) := by decide +kernel
theorem dX10_convertSlots_56 : decode cX10_convertSlots 56 = .ok (.aload 6, 2) := by decide +kernel
theorem dX10_convertSlots_58 : decode cX10_convertSlots 58 = .ok (.aload 7, 2) := by decide +kernel
theorem dX10_convertSlots_60 : decode cX10_convertSlots 60 = .ok (.invokestatic 267, 3) := by decide +kernel
theorem dX10_convertSlots_63 : decode cX10_convertSlots 63 = .ok (.ifCond .ne 6, 3) := by decide +kernel
theorem dX10_convertSlots_66 : decode cX10_convertSlots 66 = .ok (.iload 4, 2) := by decide +kernel
theorem dX10_convertSlots_68 : decode cX10_convertSlots 68 = .ok (.ireturn, 1) := by decide +kernel
theorem dX10_convertSlots_69 : decode cX10_convertSlots 69 = .ok (.iinc 4 1, 3) := by decide +kernel
theorem dX10_convertSlots_72 : decode cX10_convertSlots 72 = .ok (.goto (-69), 3) := by decide +kernel
theorem dX10_convertSlots_75 : decode cX10_convertSlots 75 = .ok (.iconst (-1), 1) := by decide +kernel
theorem dX10_convertSlots_76 : decode cX10_convertSlots 76 = .ok (.ireturn, 1) := by decide +kernel
set_option maxRecDepth 20000 in
theorem ggX10_finish_X10_thingAt : GoodIn wsX10_finish wsX10_thingAt := goodIn_r _ [14] rfl (by decide +kernel)
set_option maxRecDepth 20000 in
theorem gX10_finish_X10_thingAt : GoodIn wsX10_finish (va_wsS RX10 111 yX10_thingAt wsX10_thingAt) := goodIn_app (goodIn_of _ (by decide +kernel)) ggX10_finish_X10_thingAt
set_option maxRecDepth 20000 in
theorem ggX10_finish_X8_become : GoodIn wsX10_finish wsX8_become := goodIn_r _ [19, 20, 21, 22, 23, 24, 25, 26, 41, 42, 43, 44, 45, 46, 47, 48, 49] rfl (by decide +kernel)
set_option maxRecDepth 20000 in
theorem gX10_finish_X8_become : GoodIn wsX10_finish (wsV RX10 145 RX8 yX8_become wsX8_become) := goodIn_app (goodIn_of _ (by decide +kernel)) ggX10_finish_X8_become
theorem dX10_finish_0 : decode cX10_finish 0 = .ok (.iload_n 2, 1) := by decide +kernel
theorem dX10_finish_1 : decode cX10_finish 1 = .ok (.istore_n 3, 1) := by decide +kernel
theorem dX10_finish_2 : decode cX10_finish 2 = .ok (.iload_n 3, 1) := by decide +kernel
theorem dX10_finish_3 : decode cX10_finish 3 = .ok (.aload_n 1, 1) := by decide +kernel
theorem dX10_finish_4 : decode cX10_finish 4 = .ok (.getfield 273, 3) := by decide +kernel
theorem dX10_finish_7 : decode cX10_finish 7 = .ok (.if_icmp .ge 30, 3) := by decide +kernel
theorem dX10_finish_10 : decode cX10_finish 10 = .ok (.aload_n 0, 1) := by decide +kernel
theorem dX10_finish_11 : decode cX10_finish 11 = .ok (.getfield 49, 3) := by decide +kernel
theorem dX10_finish_14 : decode cX10_finish 14 = .ok (.iload_n 3, 1) := by decide +kernel
theorem dX10_finish_15 : decode cX10_finish 15 = .ok (.invokestatic 111, 3) := by decide +kernel
theorem dX10_finish_18 : decode cX10_finish 18 = .ok (.astore 4, 2) := by decide +kernel
theorem dX10_finish_20 : decode cX10_finish 20 = .ok (.aload 4, 2) := by decide +kernel
theorem dX10_finish_22 : decode cX10_finish 22 = .ok (.ifnull 9, 3) := by decide +kernel
theorem dX10_finish_25 : decode cX10_finish 25 = .ok (.aload 4, 2) := by decide +kernel
theorem dX10_finish_27 : decode cX10_finish 27 = .ok (.iconst 0, 1) := by decide +kernel
theorem dX10_finish_28 : decode cX10_finish 28 = .ok (.invokevirtual 145, 3) := by decide +kernel
theorem dX10_finish_31 : decode cX10_finish 31 = .ok (.iinc 3 1, 3) := by decide +kernel
theorem dX10_finish_34 : decode cX10_finish 34 = .ok (.goto (-32), 3) := by decide +kernel
theorem dX10_finish_37 : decode cX10_finish 37 = .ok (.aload_n 0, 1) := by decide +kernel
theorem dX10_finish_38 : decode cX10_finish 38 = .ok (.getfield 46, 3) := by decide +kernel
theorem dX10_finish_41 : decode cX10_finish 41 = .ok (.astore_n 3, 1) := by decide +kernel
theorem dX10_finish_42 : decode cX10_finish 42 = .ok (.aload_n 0, 1) := by decide +kernel
theorem dX10_finish_43 : decode cX10_finish 43 = .ok (.aload_n 0, 1) := by decide +kernel
theorem dX10_finish_44 : decode cX10_finish 44 = .ok (.getfield 49, 3) := by decide +kernel
theorem dX10_finish_47 : decode cX10_finish 47 = .ok (.putfield 46, 3) := by decide +kernel
theorem dX10_finish_50 : decode cX10_finish 50 = .ok (.aload_n 0, 1) := by decide +kernel
theorem dX10_finish_51 : decode cX10_finish 51 = .ok (.aload_n 3, 1) := by decide +kernel
theorem dX10_finish_52 : decode cX10_finish 52 = .ok (.putfield 49, 3) := by decide +kernel
theorem dX10_finish_55 : decode cX10_finish 55 = .ok (.aload_n 0, 1) := by decide +kernel
theorem dX10_finish_56 : decode cX10_finish 56 = .ok (.iload_n 2, 1) := by decide +kernel
theorem dX10_finish_57 : decode cX10_finish 57 = .ok (.aload_n 1, 1) := by decide +kernel
theorem dX10_finish_58 : decode cX10_finish 58 = .ok (.getfield 273, 3) := by decide +kernel
theorem dX10_finish_61 : decode cX10_finish 61 = .ok (.invokestatic 206, 3) := by decide +kernel
theorem dX10_finish_64 : decode cX10_finish 64 = .ok (.putfield 52, 3) := by decide +kernel
theorem dX10_finish_67 : decode cX10_finish 67 = .ok (.aload_n 0, 1) := by decide +kernel
theorem dX10_finish_68 : decode cX10_finish 68 = .ok (.iconst (-1), 1) := by decide +kernel
theorem dX10_finish_69 : decode cX10_finish 69 = .ok (.putfield 56, 3) := by decide +kernel
theorem dX10_finish_72 : decode cX10_finish 72 = .ok (.aload_n 1, 1) := by decide +kernel
theorem dX10_finish_73 : decode cX10_finish 73 = .ok (.getfield 274, 3) := by decide +kernel
theorem dX10_finish_76 : decode cX10_finish 76 = .ok (.ireturn, 1) := by decide +kernel
theorem dX11_init_0 : decode cX11_init 0 = .ok (.aload_n 0, 1) := by decide +kernel
theorem dX11_init_1 : decode cX11_init 1 = .ok (.invokespecial 1, 3) := by decide +kernel
theorem dX11_init_4 : decode cX11_init 4 = .ok (.aload_n 0, 1) := by decide +kernel
theorem dX11_init_5 : decode cX11_init 5 = .ok (.bipush 100, 2) := by decide +kernel
theorem dX11_init_7 : decode cX11_init 7 = .ok (.newarray .char, 2) := by decide +kernel
theorem dX11_init_9 : decode cX11_init 9 = .ok (.putfield 7, 3) := by decide +kernel
theorem dX11_init_12 : decode cX11_init 12 = .ok (.aload_n 0, 1) := by decide +kernel
theorem dX11_init_13 : decode cX11_init 13 = .ok (.iconst (-1), 1) := by decide +kernel
theorem dX11_init_14 : decode cX11_init 14 = .ok (.putfield 13, 3) := by decide +kernel
theorem dX11_init_17 : decode cX11_init 17 = .ok (.aload_n 0, 1) := by decide +kernel
theorem dX11_init_18 : decode cX11_init 18 = .ok (.bipush 6, 2) := by decide +kernel
theorem dX11_init_20 : decode cX11_init 20 = .ok (.newarray .int, 2) := by decide +kernel
theorem dX11_init_22 : decode cX11_init 22 = .ok (.putfield 17, 3) := by decide +kernel
theorem dX11_init_25 : decode cX11_init 25 = .ok (.aload_n 0, 1) := by decide +kernel
theorem dX11_init_26 : decode cX11_init 26 = .ok (.bipush 37, 2) := by decide +kernel
theorem dX11_init_28 : decode cX11_init 28 = .ok (.newarray .int, 2) := by decide +kernel
theorem dX11_init_30 : decode cX11_init 30 = .ok (.putfield 21, 3) := by decide +kernel
theorem dX11_init_33 : decode cX11_init 33 = .ok (.aload_n 0, 1) := by decide +kernel
theorem dX11_init_34 : decode cX11_init 34 = .ok (.sipush 185, 3) := by decide +kernel
theorem dX11_init_37 : decode cX11_init 37 = .ok (.newarray .boolean, 2) := by decide +kernel
theorem dX11_init_39 : decode cX11_init 39 = .ok (.putfield 24, 3) := by decide +kernel
theorem dX11_init_42 : decode cX11_init 42 = .ok (.aload_n 0, 1) := by decide +kernel
theorem dX11_init_43 : decode cX11_init 43 = .ok (.sipush 185, 3) := by decide +kernel
theorem dX11_init_46 : decode cX11_init 46 = .ok (.newarray .boolean, 2) := by decide +kernel
theorem dX11_init_48 : decode cX11_init 48 = .ok (.putfield 28, 3) := by decide +kernel
theorem dX11_init_51 : decode cX11_init 51 = .ok (.aload_n 0, 1) := by decide +kernel
theorem dX11_init_52 : decode cX11_init 52 = .ok (.sipush 370, 3) := by decide +kernel
theorem dX11_init_55 : decode cX11_init 55 = .ok (.newarray .int, 2) := by decide +kernel
theorem dX11_init_57 : decode cX11_init 57 = .ok (.putfield 31, 3) := by decide +kernel
theorem dX11_init_60 : decode cX11_init 60 = .ok (.aload_n 0, 1) := by decide +kernel
theorem dX11_init_61 : decode cX11_init 61 = .ok (.sipush 370, 3) := by decide +kernel
theorem dX11_init_64 : decode cX11_init 64 = .ok (.newarray .int, 2) := by decide +kernel
theorem dX11_init_66 : decode cX11_init 66 = .ok (.putfield 34, 3) := by decide +kernel
theorem dX11_init_69 : decode cX11_init 69 = .ok (.aload_n 0, 1) := by decide +kernel
theorem dX11_init_70 : decode cX11_init 70 = .ok (.sipush 370, 3) := by decide +kernel
theorem dX11_init_73 : decode cX11_init 73 = .ok (.newarray .boolean, 2) := by decide +kernel
theorem dX11_init_75 : decode cX11_init 75 = .ok (.putfield 37, 3) := by decide +kernel
theorem dX11_init_78 : decode cX11_init 78 = .ok (.aload_n 0, 1) := by decide +kernel
theorem dX11_init_79 : decode cX11_init 79 = .ok (.sipush 370, 3) := by decide +kernel
theorem dX11_init_82 : decode cX11_init 82 = .ok (.newarray .int, 2) := by decide +kernel
theorem dX11_init_84 : decode cX11_init 84 = .ok (.putfield 40, 3) := by decide +kernel
theorem dX11_init_87 : decode cX11_init 87 = .ok (.aload_n 0, 1) := by decide +kernel
theorem dX11_init_88 : decode cX11_init 88 = .ok (.sipush 14800, 3) := by decide +kernel
theorem dX11_init_91 : decode cX11_init 91 = .ok (.newarray .char, 2) := by decide +kernel
theorem dX11_init_93 : decode cX11_init 93 = .ok (.putfield 43, 3) := by decide +kernel
theorem dX11_init_96 : decode cX11_init 96 = .ok (.aload_n 0, 1) := by decide +kernel
theorem dX11_init_97 : decode cX11_init 97 = .ok (.bipush 48, 2) := by decide +kernel
theorem dX11_init_99 : decode cX11_init 99 = .ok (.newarray .int, 2) := by decide +kernel
theorem dX11_init_101 : decode cX11_init 101 = .ok (.putfield 46, 3) := by decide +kernel
theorem dX11_init_104 : decode cX11_init 104 = .ok (.aload_n 0, 1) := by decide +kernel
theorem dX11_init_105 : decode cX11_init 105 = .ok (.bipush 48, 2) := by decide +kernel
theorem dX11_init_107 : decode cX11_init 107 = .ok (.newarray .boolean, 2) := by decide +kernel
theorem dX11_init_109 : decode cX11_init 109 = .ok (.putfield 49, 3) := by decide +kernel
theorem dX11_init_112 : decode cX11_init 112 = .ok (.aload_n 0, 1) := by decide +kernel
theorem dX11_init_113 : decode cX11_init 113 = .ok (.bipush 48, 2) := by decide +kernel
theorem dX11_init_115 : decode cX11_init 115 = .ok (.newarray .double, 2) := by decide +kernel
theorem dX11_init_117 : decode cX11_init 117 = .ok (.putfield 52, 3) := by decide +kernel
theorem dX11_init_120 : decode cX11_init 120 = .ok (.aload_n 0, 1) := by decide +kernel
theorem dX11_init_121 : decode cX11_init 121 = .ok (.bipush 48, 2) := by decide +kernel
theorem dX11_init_123 : decode cX11_init 123 = .ok (.newarray .int, 2) := by decide +kernel
theorem dX11_init_125 : decode cX11_init 125 = .ok (.putfield 56, 3) := by decide +kernel
theorem dX11_init_128 : decode cX11_init 128 = .ok (.aload_n 0, 1) := by decide +kernel
theorem dX11_init_129 : decode cX11_init 129 = .ok (.sipush 576, 3) := by decide +kernel
theorem dX11_init_132 : decode cX11_init 132 = .ok (.newarray .char, 2) := by decide +kernel
theorem dX11_init_134 : decode cX11_init 134 = .ok (.putfield 59, 3) := by decide +kernel
theorem dX11_init_137 : decode cX11_init 137 = .ok (.aload_n 0, 1) := by decide +kernel
theorem dX11_init_138 : decode cX11_init 138 = .ok (.bipush 96, 2) := by decide +kernel
theorem dX11_init_140 : decode cX11_init 140 = .ok (.newarray .int, 2) := by decide +kernel
theorem dX11_init_142 : decode cX11_init 142 = .ok (.putfield 62, 3) := by decide +kernel
theorem dX11_init_145 : decode cX11_init 145 = .ok (.aload_n 0, 1) := by decide +kernel
theorem dX11_init_146 : decode cX11_init 146 = .ok (.bipush 96, 2) := by decide +kernel
theorem dX11_init_148 : decode cX11_init 148 = .ok (.newarray .long, 2) := by decide +kernel
theorem dX11_init_150 : decode cX11_init 150 = .ok (.putfield 65, 3) := by decide +kernel
theorem dX11_init_153 : decode cX11_init 153 = .ok (.aload_n 0, 1) := by decide +kernel
theorem dX11_init_154 : decode cX11_init 154 = .ok (.bipush 96, 2) := by decide +kernel
theorem dX11_init_156 : decode cX11_init 156 = .ok (.newarray .double, 2) := by decide +kernel
theorem dX11_init_158 : decode cX11_init 158 = .ok (.putfield 69, 3) := by decide +kernel
theorem dX11_init_161 : decode cX11_init 161 = .ok (.aload_n 0, 1) := by decide +kernel
theorem dX11_init_162 : decode cX11_init 162 = .ok (.sipush 7680, 3) := by decide +kernel
theorem dX11_init_165 : decode cX11_init 165 = .ok (.newarray .char, 2) := by decide +kernel
theorem dX11_init_167 : decode cX11_init 167 = .ok (.putfield 72, 3) := by decide +kernel
theorem dX11_init_170 : decode cX11_init 170 = .ok (.aload_n 0, 1) := by decide +kernel
theorem dX11_init_171 : decode cX11_init 171 = .ok (.bipush 100, 2) := by decide +kernel
theorem dX11_init_173 : decode cX11_init 173 = .ok (.newarray .char, 2) := by decide +kernel
theorem dX11_init_175 : decode cX11_init 175 = .ok (.putfield 75, 3) := by decide +kernel
theorem dX11_init_178 : decode cX11_init 178 = .ok (.return_, 1) := by decide +kernel
theorem dX11_thrown_0 : decode cX11_thrown 0 = .ok (.aload_n 0, 1) := by decide +kernel
theorem dX11_thrown_1 : decode cX11_thrown 1 = .ok (.getfield 78, 3) := by decide +kernel
theorem dX11_thrown_4 : decode cX11_thrown 4 = .ok (.ireturn, 1) := by decide +kernel
theorem dX11_refused_0 : decode cX11_refused 0 = .ok (.aload_n 0, 1) := by decide +kernel
theorem dX11_refused_1 : decode cX11_refused 1 = .ok (.iload_n 1, 1) := by decide +kernel
theorem dX11_refused_2 : decode cX11_refused 2 = .ok (.putfield 78, 3) := by decide +kernel
theorem dX11_refused_5 : decode cX11_refused 5 = .ok (.iload_n 1, 1) := by decide +kernel
theorem dX11_refused_6 : decode cX11_refused 6 = .ok (.ifCond .le 7, 3) := by decide +kernel
theorem dX11_refused_9 : decode cX11_refused 9 = .ok (.iconst 1, 1) := by decide +kernel
theorem dX11_refused_10 : decode cX11_refused 10 = .ok (.goto 4, 3) := by decide +kernel
theorem dX11_refused_13 : decode cX11_refused 13 = .ok (.iconst 0, 1) := by decide +kernel
theorem dX11_refused_14 : decode cX11_refused 14 = .ok (.ireturn, 1) := by decide +kernel
theorem dX11_isIn_0 : decode cX11_isIn 0 = .ok (.iload_n 0, 1) := by decide +kernel
theorem dX11_isIn_1 : decode cX11_isIn 1 = .ok (.iload_n 1, 1) := by decide +kernel
theorem dX11_isIn_2 : decode cX11_isIn 2 = .ok (.if_icmp .lt 12, 3) := by decide +kernel
theorem dX11_isIn_5 : decode cX11_isIn 5 = .ok (.iload_n 0, 1) := by decide +kernel
theorem dX11_isIn_6 : decode cX11_isIn 6 = .ok (.iload_n 2, 1) := by decide +kernel
theorem dX11_isIn_7 : decode cX11_isIn 7 = .ok (.if_icmp .gt 7, 3) := by decide +kernel
theorem dX11_isIn_10 : decode cX11_isIn 10 = .ok (.iconst 1, 1) := by decide +kernel
theorem dX11_isIn_11 : decode cX11_isIn 11 = .ok (.goto 4, 3) := by decide +kernel
theorem dX11_isIn_14 : decode cX11_isIn 14 = .ok (.iconst 0, 1) := by decide +kernel
theorem dX11_isIn_15 : decode cX11_isIn 15 = .ok (.ireturn, 1) := by decide +kernel
theorem dX11_put_0 : decode cX11_put 0 = .ok (.iload_n 1, 1) := by decide +kernel
theorem dX11_put_1 : decode cX11_put 1 = .ok (.iload_n 2, 1) := by decide +kernel
theorem dX11_put_2 : decode cX11_put 2 = .ok (.ishr, 1) := by decide +kernel
theorem dX11_put_3 : decode cX11_put 3 = .ok (.sipush 255, 3) := by decide +kernel
theorem dX11_put_6 : decode cX11_put 6 = .ok (.iand, 1) := by decide +kernel
theorem dX11_put_7 : decode cX11_put 7 = .ok (.istore_n 3, 1) := by decide +kernel
theorem dX11_put_8 : decode cX11_put 8 = .ok (.iload_n 3, 1) := by decide +kernel
theorem dX11_put_9 : decode cX11_put 9 = .ok (.ifCond .le 33, 3) := by decide +kernel
theorem dX11_put_12 : decode cX11_put 12 = .ok (.aload_n 0, 1) := by decide +kernel
theorem dX11_put_13 : decode cX11_put 13 = .ok (.getfield 81, 3) := by decide +kernel
theorem dX11_put_16 : decode cX11_put 16 = .ok (.bipush 100, 2) := by decide +kernel
theorem dX11_put_18 : decode cX11_put 18 = .ok (.if_icmp .ge 14, 3) := by decide +kernel
theorem dX11_put_21 : decode cX11_put 21 = .ok (.aload_n 0, 1) := by decide +kernel
theorem dX11_put_22 : decode cX11_put 22 = .ok (.getfield 7, 3) := by decide +kernel
theorem dX11_put_25 : decode cX11_put 25 = .ok (.aload_n 0, 1) := by decide +kernel
theorem dX11_put_26 : decode cX11_put 26 = .ok (.getfield 81, 3) := by decide +kernel
theorem dX11_put_29 : decode cX11_put 29 = .ok (.iload_n 3, 1) := by decide +kernel
theorem dX11_put_30 : decode cX11_put 30 = .ok (.i2c, 1) := by decide +kernel
theorem dX11_put_31 : decode cX11_put 31 = .ok (.castore, 1) := by decide +kernel
theorem dX11_put_32 : decode cX11_put 32 = .ok (.aload_n 0, 1) := by decide +kernel
theorem dX11_put_33 : decode cX11_put 33 = .ok (.dup, 1) := by decide +kernel
theorem dX11_put_34 : decode cX11_put 34 = .ok (.getfield 81, 3) := by decide +kernel
theorem dX11_put_37 : decode cX11_put 37 = .ok (.iconst 1, 1) := by decide +kernel
theorem dX11_put_38 : decode cX11_put 38 = .ok (.iadd, 1) := by decide +kernel
theorem dX11_put_39 : decode cX11_put 39 = .ok (.putfield 81, 3) := by decide +kernel
theorem dX11_put_42 : decode cX11_put 42 = .ok (.return_, 1) := by decide +kernel
set_option maxRecDepth 20000 in
theorem ggX11_type_X11_put : GoodIn wsX11_type wsX11_put := goodIn_r _ [6, 1, 7, 13, 14, 15, 16, 17, 18, 19, 20, 21, 22, 23, 24, 25, 26, 27, 28, 29, 30, 31, 32, 33, 34, 35, 36, 37, 38, 39, 40] rfl (by decide +kernel)
set_option maxRecDepth 20000 in
theorem gX11_type_X11_put : GoodIn wsX11_type (wsV RX11 84 RX11 yX11_put wsX11_put) := goodIn_app (goodIn_of _ (by decide +kernel)) ggX11_type_X11_put
set_option maxRecDepth 20000 in
theorem ggX11_type_X11_refused : GoodIn wsX11_type wsX11_refused := goodIn_r _ [11, 12, 13, 14, 15, 16, 17, 18, 19, 20, 21, 22, 23, 24, 25, 26, 27, 28, 29, 30, 31, 32, 33, 34, 35, 36, 37, 38, 39, 40] rfl (by decide +kernel)
set_option maxRecDepth 20000 in
theorem gX11_type_X11_refused : GoodIn wsX11_type (wsV RX11 88 RX11 yX11_refused wsX11_refused) := goodIn_app (goodIn_of _ (by decide +kernel)) ggX11_type_X11_refused
theorem dX11_type_0 : decode cX11_type 0 = .ok (.aload_n 0, 1) := by decide +kernel
theorem dX11_type_1 : decode cX11_type 1 = .ok (.getfield 81, 3) := by decide +kernel
theorem dX11_type_4 : decode cX11_type 4 = .ok (.istore 6, 2) := by decide +kernel
theorem dX11_type_6 : decode cX11_type 6 = .ok (.iconst 0, 1) := by decide +kernel
theorem dX11_type_7 : decode cX11_type 7 = .ok (.istore 7, 2) := by decide +kernel
theorem dX11_type_9 : decode cX11_type 9 = .ok (.iload 7, 2) := by decide +kernel
theorem dX11_type_11 : decode cX11_type 11 = .ok (.iconst 5, 1) := by decide +kernel
theorem dX11_type_12 : decode cX11_type 12 = .ok (.if_icmp .ge 80, 3) := by decide +kernel
theorem dX11_type_15 : decode cX11_type 15 = .ok (.iload 7, 2) := by decide +kernel
theorem dX11_type_17 : decode cX11_type 17 = .ok (.ifCond .ne 7, 3) := by decide +kernel
theorem dX11_type_20 : decode cX11_type 20 = .ok (.iload_n 1, 1) := by decide +kernel
theorem dX11_type_21 : decode cX11_type 21 = .ok (.goto 36, 3) := by decide +kernel
theorem dX11_type_24 : decode cX11_type 24 = .ok (.iload 7, 2) := by decide +kernel
theorem dX11_type_26 : decode cX11_type 26 = .ok (.iconst 1, 1) := by decide +kernel
theorem dX11_type_27 : decode cX11_type 27 = .ok (.if_icmp .ne 7, 3) := by decide +kernel
theorem dX11_type_30 : decode cX11_type 30 = .ok (.iload_n 2, 1) := by decide +kernel
theorem dX11_type_31 : decode cX11_type 31 = .ok (.goto 26, 3) := by decide +kernel
theorem dX11_type_34 : decode cX11_type 34 = .ok (.iload 7, 2) := by decide +kernel
theorem dX11_type_36 : decode cX11_type 36 = .ok (.iconst 2, 1) := by decide +kernel
theorem dX11_type_37 : decode cX11_type 37 = .ok (.if_icmp .ne 7, 3) := by decide +kernel
theorem dX11_type_40 : decode cX11_type 40 = .ok (.iload_n 3, 1) := by decide +kernel
theorem dX11_type_41 : decode cX11_type 41 = .ok (.goto 16, 3) := by decide +kernel
theorem dX11_type_44 : decode cX11_type 44 = .ok (.iload 7, 2) := by decide +kernel
theorem dX11_type_46 : decode cX11_type 46 = .ok (.iconst 3, 1) := by decide +kernel
theorem dX11_type_47 : decode cX11_type 47 = .ok (.if_icmp .ne 8, 3) := by decide +kernel
theorem dX11_type_50 : decode cX11_type 50 = .ok (.iload 4, 2) := by decide +kernel
theorem dX11_type_52 : decode cX11_type 52 = .ok (.goto 5, 3) := by decide +kernel
theorem dX11_type_55 : decode cX11_type 55 = .ok (.iload 5, 2) := by decide +kernel
theorem dX11_type_57 : decode cX11_type 57 = .ok (.istore 8, 2) := by decide +kernel
theorem dX11_type_59 : decode cX11_type 59 = .ok (.bipush 24, 2) := by decide +kernel
theorem dX11_type_61 : decode cX11_type 61 = .ok (.istore 9, 2) := by decide +kernel
theorem dX11_type_63 : decode cX11_type 63 = .ok (.iload 9, 2) := by decide +kernel
theorem dX11_type_65 : decode cX11_type 65 = .ok (.ifCond .lt 21, 3) := by decide +kernel
theorem dX11_type_68 : decode cX11_type 68 = .ok (.aload_n 0, 1) := by decide +kernel
theorem dX11_type_69 : decode cX11_type 69 = .ok (.iload 8, 2) := by decide +kernel
theorem dX11_type_71 : decode cX11_type 71 = .ok (.iload 9, 2) := by decide +kernel
theorem dX11_type_73 : decode cX11_type 73 = .ok (.invokevirtual 84, 3) := by decide +kernel
theorem dX11_type_76 : decode cX11_type 76 = .ok (.iload 9, 2) := by decide +kernel
theorem dX11_type_78 : decode cX11_type 78 = .ok (.bipush 8, 2) := by decide +kernel
theorem dX11_type_80 : decode cX11_type 80 = .ok (.isub, 1) := by decide +kernel
theorem dX11_type_81 : decode cX11_type 81 = .ok (.istore 9, 2) := by decide +kernel
theorem dX11_type_83 : decode cX11_type 83 = .ok (.goto (-20), 3) := by decide +kernel
theorem dX11_type_86 : decode cX11_type 86 = .ok (.iinc 7 1, 3) := by decide +kernel
theorem dX11_type_89 : decode cX11_type 89 = .ok (.goto (-80), 3) := by decide +kernel
theorem dX11_type_92 : decode cX11_type 92 = .ok (.aload_n 0, 1) := by decide +kernel
theorem dX11_type_93 : decode cX11_type 93 = .ok (.aload_n 0, 1) := by decide +kernel
theorem dX11_type_94 : decode cX11_type 94 = .ok (.getfield 81, 3) := by decide +kernel
theorem dX11_type_97 : decode cX11_type 97 = .ok (.bipush 100, 2) := by decide +kernel
theorem dX11_type_99 : decode cX11_type 99 = .ok (.if_icmp .le 7, 3) := by decide +kernel
theorem dX11_type_102 : decode cX11_type 102 = .ok (.iconst 1, 1) := by decide +kernel
theorem dX11_type_103 : decode cX11_type 103 = .ok (.goto 4, 3) := by decide +kernel
theorem dX11_type_106 : decode cX11_type 106 = .ok (.iconst 0, 1) := by decide +kernel
theorem dX11_type_107 : decode cX11_type 107 = .ok (.invokevirtual 88, 3) := by decide +kernel
theorem dX11_type_110 : decode cX11_type 110 = .ok (.ifCond .eq 11, 3) := by decide +kernel
theorem dX11_type_113 : decode cX11_type 113 = .ok (.aload_n 0, 1) := by decide +kernel
theorem dX11_type_114 : decode cX11_type 114 = .ok (.iload 6, 2) := by decide +kernel
theorem dX11_type_116 : decode cX11_type 116 = .ok (.putfield 81, 3) := by decide +kernel
theorem dX11_type_119 : decode cX11_type 119 = .ok (.iconst 0, 1) := by decide +kernel
theorem dX11_type_120 : decode cX11_type 120 = .ok (.ireturn, 1) := by decide +kernel
theorem dX11_type_121 : decode cX11_type 121 = .ok (.aload_n 0, 1) := by decide +kernel
theorem dX11_type_122 : decode cX11_type 122 = .ok (.getfield 81, 3) := by decide +kernel
theorem dX11_type_125 : decode cX11_type 125 = .ok (.ireturn, 1) := by decide +kernel
theorem dX11_erase_0 : decode cX11_erase 0 = .ok (.aload_n 0, 1) := by decide +kernel
theorem dX11_erase_1 : decode cX11_erase 1 = .ok (.iconst 0, 1) := by decide +kernel
theorem dX11_erase_2 : decode cX11_erase 2 = .ok (.putfield 78, 3) := by decide +kernel
theorem dX11_erase_5 : decode cX11_erase 5 = .ok (.aload_n 0, 1) := by decide +kernel
theorem dX11_erase_6 : decode cX11_erase 6 = .ok (.getfield 81, 3) := by decide +kernel
theorem dX11_erase_9 : decode cX11_erase 9 = .ok (.istore_n 1, 1) := by decide +kernel
theorem dX11_erase_10 : decode cX11_erase 10 = .ok (.aload_n 0, 1) := by decide +kernel
theorem dX11_erase_11 : decode cX11_erase 11 = .ok (.iconst 0, 1) := by decide +kernel
theorem dX11_erase_12 : decode cX11_erase 12 = .ok (.putfield 81, 3) := by decide +kernel
theorem dX11_erase_15 : decode cX11_erase 15 = .ok (.iload_n 1, 1) := by decide +kernel
theorem dX11_erase_16 : decode cX11_erase 16 = .ok (.ireturn, 1) := by decide +kernel
theorem dX11_next_0 : decode cX11_next 0 = .ok (.aload_n 0, 1) := by decide +kernel
theorem dX11_next_1 : decode cX11_next 1 = .ok (.getfield 92, 3) := by decide +kernel
theorem dX11_next_4 : decode cX11_next 4 = .ok (.aload_n 0, 1) := by decide +kernel
theorem dX11_next_5 : decode cX11_next 5 = .ok (.getfield 81, 3) := by decide +kernel
theorem dX11_next_8 : decode cX11_next 8 = .ok (.if_icmp .ge 30, 3) := by decide +kernel
theorem dX11_next_11 : decode cX11_next 11 = .ok (.aload_n 0, 1) := by decide +kernel
theorem dX11_next_12 : decode cX11_next 12 = .ok (.getfield 7, 3) := by decide +kernel
theorem dX11_next_15 : decode cX11_next 15 = .ok (.aload_n 0, 1) := by decide +kernel
theorem dX11_next_16 : decode cX11_next 16 = .ok (.getfield 92, 3) := by decide +kernel
theorem dX11_next_19 : decode cX11_next 19 = .ok (.caload, 1) := by decide +kernel
theorem dX11_next_20 : decode cX11_next 20 = .ok (.bipush 32, 2) := by decide +kernel
theorem dX11_next_22 : decode cX11_next 22 = .ok (.if_icmp .ne 16, 3) := by decide +kernel
theorem dX11_next_25 : decode cX11_next 25 = .ok (.aload_n 0, 1) := by decide +kernel
theorem dX11_next_26 : decode cX11_next 26 = .ok (.dup, 1) := by decide +kernel
theorem dX11_next_27 : decode cX11_next 27 = .ok (.getfield 92, 3) := by decide +kernel
theorem dX11_next_30 : decode cX11_next 30 = .ok (.iconst 1, 1) := by decide +kernel
theorem dX11_next_31 : decode cX11_next 31 = .ok (.iadd, 1) := by decide +kernel
theorem dX11_next_32 : decode cX11_next 32 = .ok (.putfield 92, 3) := by decide +kernel
theorem dX11_next_35 : decode cX11_next 35 = .ok (.goto (-35), 3) := by decide +kernel
theorem dX11_next_38 : decode cX11_next 38 = .ok (.aload_n 0, 1) := by decide +kernel
theorem dX11_next_39 : decode cX11_next 39 = .ok (.getfield 92, 3) := by decide +kernel
theorem dX11_next_42 : decode cX11_next 42 = .ok (.aload_n 0, 1) := by decide +kernel
theorem dX11_next_43 : decode cX11_next 43 = .ok (.getfield 81, 3) := by decide +kernel
theorem dX11_next_46 : decode cX11_next 46 = .ok (.if_icmp .ge 15, 3) := by decide +kernel
theorem dX11_next_49 : decode cX11_next 49 = .ok (.aload_n 0, 1) := by decide +kernel
theorem dX11_next_50 : decode cX11_next 50 = .ok (.getfield 7, 3) := by decide +kernel
theorem dX11_next_53 : decode cX11_next 53 = .ok (.aload_n 0, 1) := by decide +kernel
theorem dX11_next_54 : decode cX11_next 54 = .ok (.getfield 92, 3) := by decide +kernel
theorem dX11_next_57 : decode cX11_next 57 = .ok (.caload, 1) := by decide +kernel
theorem dX11_next_58 : decode cX11_next 58 = .ok (.goto 4, 3) := by decide +kernel
theorem dX11_next_61 : decode cX11_next 61 = .ok (.iconst 0, 1) := by decide +kernel
theorem dX11_next_62 : decode cX11_next 62 = .ok (.ireturn, 1) := by decide +kernel
theorem dX11_wrong_0 : decode cX11_wrong 0 = .ok (.aload_n 0, 1) := by decide +kernel
theorem dX11_wrong_1 : decode cX11_wrong 1 = .ok (.getfield 95, 3) := by decide +kernel
theorem dX11_wrong_4 : decode cX11_wrong 4 = .ok (.ifCond .ne 8, 3) := by decide +kernel
theorem dX11_wrong_7 : decode cX11_wrong 7 = .ok (.aload_n 0, 1) := by decide +kernel
theorem dX11_wrong_8 : decode cX11_wrong 8 = .ok (.iload_n 1, 1) := by decide +kernel
theorem dX11_wrong_9 : decode cX11_wrong 9 = .ok (.putfield 13, 3) := by decide +kernel
theorem dX11_wrong_12 : decode cX11_wrong 12 = .ok (.aload_n 0, 1) := by decide +kernel
theorem dX11_wrong_13 : decode cX11_wrong 13 = .ok (.iconst 1, 1) := by decide +kernel
theorem dX11_wrong_14 : decode cX11_wrong 14 = .ok (.putfield 95, 3) := by decide +kernel
theorem dX11_wrong_17 : decode cX11_wrong 17 = .ok (.return_, 1) := by decide +kernel
set_option maxRecDepth 20000 in
theorem ggX11_takes_X11_next : GoodIn wsX11_takes wsX11_next := goodIn_r _ [7, 2, 8, 9, 10, 11, 12, 13, 14, 15, 16, 17, 18, 19, 20, 21, 22, 23, 24, 25, 26, 27, 28, 29, 30, 31, 32, 33, 34, 35, 36, 37] rfl (by decide +kernel)
set_option maxRecDepth 20000 in
theorem gX11_takes_X11_next : GoodIn wsX11_takes (wsV RX11 99 RX11 yX11_next wsX11_next) := goodIn_app (goodIn_of _ (by decide +kernel)) ggX11_takes_X11_next
theorem dX11_takes_0 : decode cX11_takes 0 = .ok (.aload_n 0, 1) := by decide +kernel
theorem dX11_takes_1 : decode cX11_takes 1 = .ok (.getfield 95, 3) := by decide +kernel
theorem dX11_takes_4 : decode cX11_takes 4 = .ok (.ifCond .ne 11, 3) := by decide +kernel
theorem dX11_takes_7 : decode cX11_takes 7 = .ok (.aload_n 0, 1) := by decide +kernel
theorem dX11_takes_8 : decode cX11_takes 8 = .ok (.invokevirtual 99, 3) := by decide +kernel
theorem dX11_takes_11 : decode cX11_takes 11 = .ok (.iload_n 1, 1) := by decide +kernel
theorem dX11_takes_12 : decode cX11_takes 12 = .ok (.if_icmp .eq 5, 3) := by decide +kernel
theorem dX11_takes_15 : decode cX11_takes 15 = .ok (.iconst 0, 1) := by decide +kernel
theorem dX11_takes_16 : decode cX11_takes 16 = .ok (.ireturn, 1) := by decide +kernel
theorem dX11_takes_17 : decode cX11_takes 17 = .ok (.aload_n 0, 1) := by decide +kernel
theorem dX11_takes_18 : decode cX11_takes 18 = .ok (.dup, 1) := by decide +kernel
theorem dX11_takes_19 : decode cX11_takes 19 = .ok (.getfield 92, 3) := by decide +kernel
theorem dX11_takes_22 : decode cX11_takes 22 = .ok (.iconst 1, 1) := by decide +kernel
theorem dX11_takes_23 : decode cX11_takes 23 = .ok (.iadd, 1) := by decide +kernel
theorem dX11_takes_24 : decode cX11_takes 24 = .ok (.putfield 92, 3) := by decide +kernel
theorem dX11_takes_27 : decode cX11_takes 27 = .ok (.iconst 1, 1) := by decide +kernel
theorem dX11_takes_28 : decode cX11_takes 28 = .ok (.ireturn, 1) := by decide +kernel
set_option maxRecDepth 20000 in
theorem ggX11_want_X11_takes : GoodIn wsX11_want wsX11_takes := goodIn_r _ [6, 7, 1, 8, 9, 10, 5, 11, 12, 13, 19, 20, 21, 22, 23, 24, 25, 26, 27, 28, 29, 30, 31, 32, 33, 34, 35, 36, 37, 38, 39, 40, 41, 42, 43, 44, 45, 46] rfl (by decide +kernel)
set_option maxRecDepth 20000 in
theorem gX11_want_X11_takes : GoodIn wsX11_want (wsV RX11 103 RX11 yX11_takes wsX11_takes) := goodIn_app (goodIn_of _ (by decide +kernel)) ggX11_want_X11_takes
set_option maxRecDepth 20000 in
theorem ggX11_want_X11_wrong : GoodIn wsX11_want wsX11_wrong := goodIn_r _ [17, 7, 18, 19, 20, 21, 22, 23, 24, 25, 26, 27, 28, 29, 30, 31, 32, 33, 34, 35, 36, 37, 38, 39, 40, 41, 42, 43, 44, 45, 46] rfl (by decide +kernel)
set_option maxRecDepth 20000 in
theorem gX11_want_X11_wrong : GoodIn wsX11_want (wsV RX11 107 RX11 yX11_wrong wsX11_wrong) := goodIn_app (goodIn_of _ (by decide +kernel)) ggX11_want_X11_wrong
theorem dX11_want_0 : decode cX11_want 0 = .ok (.aload_n 0, 1) := by decide +kernel
theorem dX11_want_1 : decode cX11_want 1 = .ok (.iload_n 1, 1) := by decide +kernel
theorem dX11_want_2 : decode cX11_want 2 = .ok (.invokevirtual 103, 3) := by decide +kernel
theorem dX11_want_5 : decode cX11_want 5 = .ok (.ifCond .ne 11, 3) := by decide +kernel
theorem dX11_want_8 : decode cX11_want 8 = .ok (.aload_n 0, 1) := by decide +kernel
theorem dX11_want_9 : decode cX11_want 9 = .ok (.aload_n 0, 1) := by decide +kernel
theorem dX11_want_10 : decode cX11_want 10 = .ok (.getfield 92, 3) := by decide +kernel
theorem dX11_want_13 : decode cX11_want 13 = .ok (.invokevirtual 107, 3) := by decide +kernel
theorem dX11_want_16 : decode cX11_want 16 = .ok (.return_, 1) := by decide +kernel
theorem dX11_isLetter_0 : decode cX11_isLetter 0 = .ok (.iload_n 0, 1) := by decide +kernel
theorem dX11_isLetter_1 : decode cX11_isLetter 1 = .ok (.bipush 97, 2) := by decide +kernel
theorem dX11_isLetter_3 : decode cX11_isLetter 3 = .ok (.if_icmp .lt 13, 3) := by decide +kernel
theorem dX11_isLetter_6 : decode cX11_isLetter 6 = .ok (.iload_n 0, 1) := by decide +kernel
theorem dX11_isLetter_7 : decode cX11_isLetter 7 = .ok (.bipush 122, 2) := by decide +kernel
theorem dX11_isLetter_9 : decode cX11_isLetter 9 = .ok (.if_icmp .gt 7, 3) := by decide +kernel
theorem dX11_isLetter_12 : decode cX11_isLetter 12 = .ok (.iconst 1, 1) := by decide +kernel
theorem dX11_isLetter_13 : decode cX11_isLetter 13 = .ok (.goto 4, 3) := by decide +kernel
theorem dX11_isLetter_16 : decode cX11_isLetter 16 = .ok (.iconst 0, 1) := by decide +kernel
theorem dX11_isLetter_17 : decode cX11_isLetter 17 = .ok (.ireturn, 1) := by decide +kernel
set_option maxRecDepth 20000 in
theorem ggX11_wordEnd_X11_next : GoodIn wsX11_wordEnd wsX11_next := goodIn_r _ [8, 1, 2, 3, 12, 13, 14, 15, 16, 17, 18, 19, 20, 21, 22, 23, 24, 25, 26, 27, 28, 29, 30, 31, 32, 33, 34, 35, 36, 37, 38, 39] rfl (by decide +kernel)
set_option maxRecDepth 20000 in
theorem gX11_wordEnd_X11_next : GoodIn wsX11_wordEnd (wsV RX11 99 RX11 yX11_next wsX11_next) := goodIn_app (goodIn_of _ (by decide +kernel)) ggX11_wordEnd_X11_next
set_option maxRecDepth 20000 in
theorem ggX11_wordEnd_X11_isLetter : GoodIn wsX11_wordEnd wsX11_isLetter := goodIn_r _ [11] rfl (by decide +kernel)
set_option maxRecDepth 20000 in
theorem gX11_wordEnd_X11_isLetter : GoodIn wsX11_wordEnd (va_wsS RX11 111 yX11_isLetter wsX11_isLetter) := goodIn_app (goodIn_of _ (by decide +kernel)) ggX11_wordEnd_X11_isLetter
theorem dX11_wordEnd_0 : decode cX11_wordEnd 0 = .ok (.aload_n 0, 1) := by decide +kernel
theorem dX11_wordEnd_1 : decode cX11_wordEnd 1 = .ok (.invokevirtual 99, 3) := by decide +kernel
theorem dX11_wordEnd_4 : decode cX11_wordEnd 4 = .ok (.pop, 1) := by decide +kernel
theorem dX11_wordEnd_5 : decode cX11_wordEnd 5 = .ok (.aload_n 0, 1) := by decide +kernel
theorem dX11_wordEnd_6 : decode cX11_wordEnd 6 = .ok (.getfield 92, 3) := by decide +kernel
theorem dX11_wordEnd_9 : decode cX11_wordEnd 9 = .ok (.istore_n 1, 1) := by decide +kernel
theorem dX11_wordEnd_10 : decode cX11_wordEnd 10 = .ok (.iload_n 1, 1) := by decide +kernel
theorem dX11_wordEnd_11 : decode cX11_wordEnd 11 = .ok (.aload_n 0, 1) := by decide +kernel
theorem dX11_wordEnd_12 : decode cX11_wordEnd 12 = .ok (.getfield 81, 3) := by decide +kernel
theorem dX11_wordEnd_15 : decode cX11_wordEnd 15 = .ok (.if_icmp .ge 21, 3) := by decide +kernel
theorem dX11_wordEnd_18 : decode cX11_wordEnd 18 = .ok (.aload_n 0, 1) := by decide +kernel
theorem dX11_wordEnd_19 : decode cX11_wordEnd 19 = .ok (.getfield 7, 3) := by decide +kernel
theorem dX11_wordEnd_22 : decode cX11_wordEnd 22 = .ok (.iload_n 1, 1) := by decide +kernel
theorem dX11_wordEnd_23 : decode cX11_wordEnd 23 = .ok (.caload, 1) := by decide +kernel
theorem dX11_wordEnd_24 : decode cX11_wordEnd 24 = .ok (.invokestatic 111, 3) := by decide +kernel
theorem dX11_wordEnd_27 : decode cX11_wordEnd 27 = .ok (.ifCond .eq 9, 3) := by decide +kernel
theorem dX11_wordEnd_30 : decode cX11_wordEnd 30 = .ok (.iinc 1 1, 3) := by decide +kernel
theorem dX11_wordEnd_33 : decode cX11_wordEnd 33 = .ok (.goto (-23), 3) := by decide +kernel
theorem dX11_wordEnd_36 : decode cX11_wordEnd 36 = .ok (.iload_n 1, 1) := by decide +kernel
theorem dX11_wordEnd_37 : decode cX11_wordEnd 37 = .ok (.ireturn, 1) := by decide +kernel
set_option maxRecDepth 20000 in
theorem ggX11_isWord_X11_wordEnd : GoodIn wsX11_isWord wsX11_wordEnd := goodIn_r _ [8, 1, 9, 2, 10, 11, 12, 7, 13, 14, 15, 16, 17, 18, 19, 20, 21, 22, 23, 24, 25, 26, 27, 28, 29, 30, 31, 32, 33, 34, 35, 36, 37, 38, 39, 40, 41, 42, 43, 44] rfl (by decide +kernel)
set_option maxRecDepth 20000 in
theorem gX11_isWord_X11_wordEnd : GoodIn wsX11_isWord (wsV RX11 114 RX11 yX11_wordEnd wsX11_wordEnd) := goodIn_app (goodIn_of _ (by decide +kernel)) ggX11_isWord_X11_wordEnd
theorem dX11_isWord_0 : decode cX11_isWord 0 = .ok (.iconst 0, 1) := by decide +kernel
theorem dX11_isWord_1 : decode cX11_isWord 1 = .ok (.istore_n 3, 1) := by decide +kernel
theorem dX11_isWord_2 : decode cX11_isWord 2 = .ok (.lload_n 1, 1) := by decide +kernel
theorem dX11_isWord_3 : decode cX11_isWord 3 = .ok (.lstore 4, 2) := by decide +kernel
theorem dX11_isWord_5 : decode cX11_isWord 5 = .ok (.lload 4, 2) := by decide +kernel
theorem dX11_isWord_7 : decode cX11_isWord 7 = .ok (.lconst 0, 1) := by decide +kernel
theorem dX11_isWord_8 : decode cX11_isWord 8 = .ok (.lcmp, 1) := by decide +kernel
theorem dX11_isWord_9 : decode cX11_isWord 9 = .ok (.ifCond .eq 16, 3) := by decide +kernel
theorem dX11_isWord_12 : decode cX11_isWord 12 = .ok (.iinc 3 1, 3) := by decide +kernel
theorem dX11_isWord_15 : decode cX11_isWord 15 = .ok (.lload 4, 2) := by decide +kernel
theorem dX11_isWord_17 : decode cX11_isWord 17 = .ok (.bipush 8, 2) := by decide +kernel
theorem dX11_isWord_19 : decode cX11_isWord 19 = .ok (.lshr, 1) := by decide +kernel
theorem dX11_isWord_20 : decode cX11_isWord 20 = .ok (.lstore 4, 2) := by decide +kernel
theorem dX11_isWord_22 : decode cX11_isWord 22 = .ok (.goto (-17), 3) := by decide +kernel
theorem dX11_isWord_25 : decode cX11_isWord 25 = .ok (.aload_n 0, 1) := by decide +kernel
theorem dX11_isWord_26 : decode cX11_isWord 26 = .ok (.invokevirtual 114, 3) := by decide +kernel
theorem dX11_isWord_29 : decode cX11_isWord 29 = .ok (.aload_n 0, 1) := by decide +kernel
theorem dX11_isWord_30 : decode cX11_isWord 30 = .ok (.getfield 92, 3) := by decide +kernel
theorem dX11_isWord_33 : decode cX11_isWord 33 = .ok (.isub, 1) := by decide +kernel
theorem dX11_isWord_34 : decode cX11_isWord 34 = .ok (.iload_n 3, 1) := by decide +kernel
theorem dX11_isWord_35 : decode cX11_isWord 35 = .ok (.if_icmp .ne 7, 3) := by decide +kernel
theorem dX11_isWord_38 : decode cX11_isWord 38 = .ok (.iconst 1, 1) := by decide +kernel
theorem dX11_isWord_39 : decode cX11_isWord 39 = .ok (.goto 4, 3) := by decide +kernel
theorem dX11_isWord_42 : decode cX11_isWord 42 = .ok (.iconst 0, 1) := by decide +kernel
theorem dX11_isWord_43 : decode cX11_isWord 43 = .ok (.istore 4, 2) := by decide +kernel
theorem dX11_isWord_45 : decode cX11_isWord 45 = .ok (.iconst 0, 1) := by decide +kernel
theorem dX11_isWord_46 : decode cX11_isWord 46 = .ok (.istore 5, 2) := by decide +kernel
theorem dX11_isWord_48 : decode cX11_isWord 48 = .ok (.iload 5, 2) := by decide +kernel
theorem dX11_isWord_50 : decode cX11_isWord 50 = .ok (.iload_n 3, 1) := by decide +kernel
theorem dX11_isWord_51 : decode cX11_isWord 51 = .ok (.if_icmp .ge 53, 3) := by decide +kernel
theorem dX11_isWord_54 : decode cX11_isWord 54 = .ok (.iload 4, 2) := by decide +kernel
theorem dX11_isWord_56 : decode cX11_isWord 56 = .ok (.ifCond .eq 48, 3) := by decide +kernel
theorem dX11_isWord_59 : decode cX11_isWord 59 = .ok (.aload_n 0, 1) := by decide +kernel
theorem dX11_isWord_60 : decode cX11_isWord 60 = .ok (.getfield 7, 3) := by decide +kernel
theorem dX11_isWord_63 : decode cX11_isWord 63 = .ok (.aload_n 0, 1) := by decide +kernel
theorem dX11_isWord_64 : decode cX11_isWord 64 = .ok (.getfield 92, 3) := by decide +kernel
theorem dX11_isWord_67 : decode cX11_isWord 67 = .ok (.iload 5, 2) := by decide +kernel
theorem dX11_isWord_69 : decode cX11_isWord 69 = .ok (.iadd, 1) := by decide +kernel
theorem dX11_isWord_70 : decode cX11_isWord 70 = .ok (.caload, 1) := by decide +kernel
theorem dX11_isWord_71 : decode cX11_isWord 71 = .ok (.lload_n 1, 1) := by decide +kernel
theorem dX11_isWord_72 : decode cX11_isWord 72 = .ok (.bipush 8, 2) := by decide +kernel
theorem dX11_isWord_74 : decode cX11_isWord 74 = .ok (.iload_n 3, 1) := by decide +kernel
theorem dX11_isWord_75 : decode cX11_isWord 75 = .ok (.iconst 1, 1) := by decide +kernel
theorem dX11_isWord_76 : decode cX11_isWord 76 = .ok (.isub, 1) := by decide +kernel
theorem dX11_isWord_77 : decode cX11_isWord 77 = .ok (.iload 5, 2) := by decide +kernel
theorem dX11_isWord_79 : decode cX11_isWord 79 = .ok (.isub, 1) := by decide +kernel
theorem dX11_isWord_80 : decode cX11_isWord 80 = .ok (.imul, 1) := by decide +kernel
theorem dX11_isWord_81 : decode cX11_isWord 81 = .ok (.lshr, 1) := by decide +kernel
theorem dX11_isWord_82 : decode cX11_isWord 82 = .ok (.ldc2_w 118, 3) := by decide +kernel
theorem dX11_isWord_85 : decode cX11_isWord 85 = .ok (.land, 1) := by decide +kernel
theorem dX11_isWord_86 : decode cX11_isWord 86 = .ok (.l2i, 1) := by decide +kernel
theorem dX11_isWord_87 : decode cX11_isWord 87 = .ok (.i2c, 1) := by decide +kernel
theorem dX11_isWord_88 : decode cX11_isWord 88 = .ok (.if_icmp .ne 7, 3) := by decide +kernel
theorem dX11_isWord_91 : decode cX11_isWord 91 = .ok (.iconst 1, 1) := by decide +kernel
theorem dX11_isWord_92 : decode cX11_isWord 92 = .ok (.goto 4, 3) := by decide +kernel
theorem dX11_isWord_95 : decode cX11_isWord 95 = .ok (.iconst 0, 1) := by decide +kernel
theorem dX11_isWord_96 : decode cX11_isWord 96 = .ok (.istore 4, 2) := by decide +kernel
theorem dX11_isWord_98 : decode cX11_isWord 98 = .ok (.iinc 5 1, 3) := by decide +kernel
theorem dX11_isWord_101 : decode cX11_isWord 101 = .ok (.goto (-53), 3) := by decide +kernel
theorem dX11_isWord_104 : decode cX11_isWord 104 = .ok (.iload 4, 2) := by decide +kernel
theorem dX11_isWord_106 : decode cX11_isWord 106 = .ok (.ireturn, 1) := by decide +kernel
set_option maxRecDepth 20000 in
theorem ggX11_typeHere_X11_isWord : GoodIn wsX11_typeHere wsX11_isWord := goodIn_r _ [15, 16, 17, 18, 19, 20, 21, 14, 22, 23, 24, 25, 26, 27, 28, 29, 30, 31, 32, 33, 34, 35, 36, 37, 38, 39, 40, 41, 42, 43, 44, 45, 46, 47, 48, 49, 50, 51, 52, 53, 54, 55, 56, 57, 58] rfl (by decide +kernel)
set_option maxRecDepth 20000 in
theorem gX11_typeHere_X11_isWord : GoodIn wsX11_typeHere (wsV RX11 122 RX11 yX11_isWord wsX11_isWord) := goodIn_app (goodIn_of _ (by decide +kernel)) ggX11_typeHere_X11_isWord
theorem dX11_typeHere_0 : decode cX11_typeHere 0 = .ok (.aload_n 0, 1) := by decide +kernel
theorem dX11_typeHere_1 : decode cX11_typeHere 1 = .ok (.ldc2_w 120, 3) := by decide +kernel
theorem dX11_typeHere_4 : decode cX11_typeHere 4 = .ok (.invokevirtual 122, 3) := by decide +kernel
theorem dX11_typeHere_7 : decode cX11_typeHere 7 = .ok (.ifCond .eq 7, 3) := by decide +kernel
theorem dX11_typeHere_10 : decode cX11_typeHere 10 = .ok (.iconst 0, 1) := by decide +kernel
theorem dX11_typeHere_11 : decode cX11_typeHere 11 = .ok (.goto 134, 3) := by decide +kernel
theorem dX11_typeHere_14 : decode cX11_typeHere 14 = .ok (.aload_n 0, 1) := by decide +kernel
theorem dX11_typeHere_15 : decode cX11_typeHere 15 = .ok (.ldc2_w 126, 3) := by decide +kernel
theorem dX11_typeHere_18 : decode cX11_typeHere 18 = .ok (.invokevirtual 122, 3) := by decide +kernel
theorem dX11_typeHere_21 : decode cX11_typeHere 21 = .ok (.ifCond .eq 7, 3) := by decide +kernel
theorem dX11_typeHere_24 : decode cX11_typeHere 24 = .ok (.iconst 1, 1) := by decide +kernel
theorem dX11_typeHere_25 : decode cX11_typeHere 25 = .ok (.goto 120, 3) := by decide +kernel
theorem dX11_typeHere_28 : decode cX11_typeHere 28 = .ok (.aload_n 0, 1) := by decide +kernel
theorem dX11_typeHere_29 : decode cX11_typeHere 29 = .ok (.ldc2_w 128, 3) := by decide +kernel
theorem dX11_typeHere_32 : decode cX11_typeHere 32 = .ok (.invokevirtual 122, 3) := by decide +kernel
theorem dX11_typeHere_35 : decode cX11_typeHere 35 = .ok (.ifCond .eq 7, 3) := by decide +kernel
theorem dX11_typeHere_38 : decode cX11_typeHere 38 = .ok (.iconst 2, 1) := by decide +kernel
theorem dX11_typeHere_39 : decode cX11_typeHere 39 = .ok (.goto 106, 3) := by decide +kernel
theorem dX11_typeHere_42 : decode cX11_typeHere 42 = .ok (.aload_n 0, 1) := by decide +kernel
theorem dX11_typeHere_43 : decode cX11_typeHere 43 = .ok (.ldc2_w 130, 3) := by decide +kernel
theorem dX11_typeHere_46 : decode cX11_typeHere 46 = .ok (.invokevirtual 122, 3) := by decide +kernel
theorem dX11_typeHere_49 : decode cX11_typeHere 49 = .ok (.ifCond .eq 7, 3) := by decide +kernel
theorem dX11_typeHere_52 : decode cX11_typeHere 52 = .ok (.iconst 3, 1) := by decide +kernel
theorem dX11_typeHere_53 : decode cX11_typeHere 53 = .ok (.goto 92, 3) := by decide +kernel
theorem dX11_typeHere_56 : decode cX11_typeHere 56 = .ok (.aload_n 0, 1) := by decide +kernel
theorem dX11_typeHere_57 : decode cX11_typeHere 57 = .ok (.ldc2_w 132, 3) := by decide +kernel
theorem dX11_typeHere_60 : decode cX11_typeHere 60 = .ok (.invokevirtual 122, 3) := by decide +kernel
theorem dX11_typeHere_63 : decode cX11_typeHere 63 = .ok (.ifCond .eq 7, 3) := by decide +kernel
theorem dX11_typeHere_66 : decode cX11_typeHere 66 = .ok (.iconst 4, 1) := by decide +kernel
theorem dX11_typeHere_67 : decode cX11_typeHere 67 = .ok (.goto 78, 3) := by decide +kernel
theorem dX11_typeHere_70 : decode cX11_typeHere 70 = .ok (.aload_n 0, 1) := by decide +kernel
theorem dX11_typeHere_71 : decode cX11_typeHere 71 = .ok (.ldc2_w 134, 3) := by decide +kernel
theorem dX11_typeHere_74 : decode cX11_typeHere 74 = .ok (.invokevirtual 122, 3) := by decide +kernel
theorem dX11_typeHere_77 : decode cX11_typeHere 77 = .ok (.ifCond .eq 7, 3) := by decide +kernel
theorem dX11_typeHere_80 : decode cX11_typeHere 80 = .ok (.iconst 5, 1) := by decide +kernel
theorem dX11_typeHere_81 : decode cX11_typeHere 81 = .ok (.goto 64, 3) := by decide +kernel
theorem dX11_typeHere_84 : decode cX11_typeHere 84 = .ok (.aload_n 0, 1) := by decide +kernel
theorem dX11_typeHere_85 : decode cX11_typeHere 85 = .ok (.ldc2_w 136, 3) := by decide +kernel
theorem dX11_typeHere_88 : decode cX11_typeHere 88 = .ok (.invokevirtual 122, 3) := by decide +kernel
theorem dX11_typeHere_91 : decode cX11_typeHere 91 = .ok (.ifCond .eq 8, 3) := by decide +kernel
theorem dX11_typeHere_94 : decode cX11_typeHere 94 = .ok (.bipush 6, 2) := by decide +kernel
theorem dX11_typeHere_96 : decode cX11_typeHere 96 = .ok (.goto 49, 3) := by decide +kernel
theorem dX11_typeHere_99 : decode cX11_typeHere 99 = .ok (.aload_n 0, 1) := by decide +kernel
theorem dX11_typeHere_100 : decode cX11_typeHere 100 = .ok (.ldc2_w 138, 3) := by decide +kernel
theorem dX11_typeHere_103 : decode cX11_typeHere 103 = .ok (.invokevirtual 122, 3) := by decide +kernel
theorem dX11_typeHere_106 : decode cX11_typeHere 106 = .ok (.ifCond .eq 8, 3) := by decide +kernel
theorem dX11_typeHere_109 : decode cX11_typeHere 109 = .ok (.bipush 7, 2) := by decide +kernel
theorem dX11_typeHere_111 : decode cX11_typeHere 111 = .ok (.goto 34, 3) := by decide +kernel
theorem dX11_typeHere_114 : decode cX11_typeHere 114 = .ok (.aload_n 0, 1) := by decide +kernel
theorem dX11_typeHere_115 : decode cX11_typeHere 115 = .ok (.ldc2_w 140, 3) := by decide +kernel
theorem dX11_typeHere_118 : decode cX11_typeHere 118 = .ok (.invokevirtual 122, 3) := by decide +kernel
theorem dX11_typeHere_121 : decode cX11_typeHere 121 = .ok (.ifCond .eq 8, 3) := by decide +kernel
theorem dX11_typeHere_124 : decode cX11_typeHere 124 = .ok (.bipush 8, 2) := by decide +kernel
theorem dX11_typeHere_126 : decode cX11_typeHere 126 = .ok (.goto 19, 3) := by decide +kernel
theorem dX11_typeHere_129 : decode cX11_typeHere 129 = .ok (.aload_n 0, 1) := by decide +kernel
theorem dX11_typeHere_130 : decode cX11_typeHere 130 = .ok (.ldc2_w 142, 3) := by decide +kernel
theorem dX11_typeHere_133 : decode cX11_typeHere 133 = .ok (.invokevirtual 122, 3) := by decide +kernel
theorem dX11_typeHere_136 : decode cX11_typeHere 136 = .ok (.ifCond .eq 8, 3) := by decide +kernel
theorem dX11_typeHere_139 : decode cX11_typeHere 139 = .ok (.bipush 9, 2) := by decide +kernel
theorem dX11_typeHere_141 : decode cX11_typeHere 141 = .ok (.goto 4, 3) := by decide +kernel
theorem dX11_typeHere_144 : decode cX11_typeHere 144 = .ok (.iconst (-1), 1) := by decide +kernel
theorem dX11_typeHere_145 : decode cX11_typeHere 145 = .ok (.ireturn, 1) := by decide +kernel
theorem dX11_isSameWord_0 : decode cX11_isSameWord 0 = .ok (.iconst 1, 1) := by decide +kernel
theorem dX11_isSameWord_1 : decode cX11_isSameWord 1 = .ok (.istore_n 3, 1) := by decide +kernel
theorem dX11_isSameWord_2 : decode cX11_isSameWord 2 = .ok (.iconst 0, 1) := by decide +kernel
theorem dX11_isSameWord_3 : decode cX11_isSameWord 3 = .ok (.istore 4, 2) := by decide +kernel
theorem dX11_isSameWord_5 : decode cX11_isSameWord 5 = .ok (.iload 4, 2) := by decide +kernel
theorem dX11_isSameWord_7 : decode cX11_isSameWord 7 = .ok (.bipush 8, 2) := by decide +kernel
theorem dX11_isSameWord_9 : decode cX11_isSameWord 9 = .ok (.if_icmp .ge 46, 3) := by decide +kernel
theorem dX11_isSameWord_12 : decode cX11_isSameWord 12 = .ok (.iload_n 3, 1) := by decide +kernel
theorem dX11_isSameWord_13 : decode cX11_isSameWord 13 = .ok (.ifCond .eq 34, 3) := by decide +kernel
theorem dX11_isSameWord_16 : decode cX11_isSameWord 16 = .ok (.aload_n 0, 1) := by decide +kernel
theorem dX11_isSameWord_17 : decode cX11_isSameWord 17 = .ok (.getfield 43, 3) := by decide +kernel
theorem dX11_isSameWord_20 : decode cX11_isSameWord 20 = .ok (.bipush 8, 2) := by decide +kernel
theorem dX11_isSameWord_22 : decode cX11_isSameWord 22 = .ok (.iload_n 1, 1) := by decide +kernel
theorem dX11_isSameWord_23 : decode cX11_isSameWord 23 = .ok (.imul, 1) := by decide +kernel
theorem dX11_isSameWord_24 : decode cX11_isSameWord 24 = .ok (.iload 4, 2) := by decide +kernel
theorem dX11_isSameWord_26 : decode cX11_isSameWord 26 = .ok (.iadd, 1) := by decide +kernel
theorem dX11_isSameWord_27 : decode cX11_isSameWord 27 = .ok (.caload, 1) := by decide +kernel
theorem dX11_isSameWord_28 : decode cX11_isSameWord 28 = .ok (.aload_n 0, 1) := by decide +kernel
theorem dX11_isSameWord_29 : decode cX11_isSameWord 29 = .ok (.getfield 43, 3) := by decide +kernel
theorem dX11_isSameWord_32 : decode cX11_isSameWord 32 = .ok (.bipush 8, 2) := by decide +kernel
theorem dX11_isSameWord_34 : decode cX11_isSameWord 34 = .ok (.iload_n 2, 1) := by decide +kernel
theorem dX11_isSameWord_35 : decode cX11_isSameWord 35 = .ok (.imul, 1) := by decide +kernel
theorem dX11_isSameWord_36 : decode cX11_isSameWord 36 = .ok (.iload 4, 2) := by decide +kernel
theorem dX11_isSameWord_38 : decode cX11_isSameWord 38 = .ok (.iadd, 1) := by decide +kernel
theorem dX11_isSameWord_39 : decode cX11_isSameWord 39 = .ok (.caload, 1) := by decide +kernel
theorem dX11_isSameWord_40 : decode cX11_isSameWord 40 = .ok (.if_icmp .ne 7, 3) := by decide +kernel
theorem dX11_isSameWord_43 : decode cX11_isSameWord 43 = .ok (.iconst 1, 1) := by decide +kernel
theorem dX11_isSameWord_44 : decode cX11_isSameWord 44 = .ok (.goto 4, 3) := by decide +kernel
theorem dX11_isSameWord_47 : decode cX11_isSameWord 47 = .ok (.iconst 0, 1) := by decide +kernel
theorem dX11_isSameWord_48 : decode cX11_isSameWord 48 = .ok (.istore_n 3, 1) := by decide +kernel
theorem dX11_isSameWord_49 : decode cX11_isSameWord 49 = .ok (.iinc 4 1, 3) := by decide +kernel
theorem dX11_isSameWord_52 : decode cX11_isSameWord 52 = .ok (.goto (-47), 3) := by decide +kernel
theorem dX11_isSameWord_55 : decode cX11_isSameWord 55 = .ok (.iload_n 3, 1) := by decide +kernel
theorem dX11_isSameWord_56 : decode cX11_isSameWord 56 = .ok (.ireturn, 1) := by decide +kernel
set_option maxRecDepth 20000 in
theorem ggX11_readWord_X11_wordEnd : GoodIn wsX11_readWord wsX11_wordEnd := goodIn_r _ [9, 2, 10, 4, 11, 12, 13, 8, 14, 15, 16, 17, 28, 29, 30, 31, 32, 33, 34, 35, 36, 37, 38, 39, 40, 41, 42, 43, 44, 45, 46, 47, 48, 49, 50, 51, 52, 53, 54, 55] rfl (by decide +kernel)
set_option maxRecDepth 20000 in
theorem gX11_readWord_X11_wordEnd : GoodIn wsX11_readWord (wsV RX11 114 RX11 yX11_wordEnd wsX11_wordEnd) := goodIn_app (goodIn_of _ (by decide +kernel)) ggX11_readWord_X11_wordEnd
set_option maxRecDepth 20000 in
theorem ggX11_readWord_X11_wrong : GoodIn wsX11_readWord wsX11_wrong := goodIn_r _ [21, 22, 23, 28, 29, 30, 31, 32, 33, 34, 35, 36, 37, 38, 39, 40, 41, 42, 43, 44, 45, 46, 47, 48, 49, 50, 51, 52, 53, 54, 55] rfl (by decide +kernel)
set_option maxRecDepth 20000 in
theorem gX11_readWord_X11_wrong : GoodIn wsX11_readWord (wsV RX11 107 RX11 yX11_wrong wsX11_wrong) := goodIn_app (goodIn_of _ (by decide +kernel)) ggX11_readWord_X11_wrong
set_option maxRecDepth 20000 in
theorem ggX11_readWord_X11_isSameWord : GoodIn wsX11_readWord wsX11_isSameWord := goodIn_r _ [27, 3, 28, 29, 30, 31, 32, 33, 34, 35, 36, 37, 38, 39, 40, 41, 42, 43, 44, 45, 46, 47, 48, 49, 50, 51, 52, 53, 54, 55] rfl (by decide +kernel)
set_option maxRecDepth 20000 in
theorem gX11_readWord_X11_isSameWord : GoodIn wsX11_readWord (wsV RX11 144 RX11 yX11_isSameWord wsX11_isSameWord) := goodIn_app (goodIn_of _ (by decide +kernel)) ggX11_readWord_X11_isSameWord
theorem dX11_readWord_0 : decode cX11_readWord 0 = .ok (.iconst 5, 1) := by decide +kernel
theorem dX11_readWord_1 : decode cX11_readWord 1 = .ok (.iload_n 1, 1) := by decide +kernel
theorem dX11_readWord_2 : decode cX11_readWord 2 = .ok (.imul, 1) := by decide +kernel
theorem dX11_readWord_3 : decode cX11_readWord 3 = .ok (.aload_n 0, 1) := by decide +kernel
theorem dX11_readWord_4 : decode cX11_readWord 4 = .ok (.getfield 40, 3) := by decide +kernel
theorem dX11_readWord_7 : decode cX11_readWord 7 = .ok (.iload_n 1, 1) := by decide +kernel
theorem dX11_readWord_8 : decode cX11_readWord 8 = .ok (.iaload, 1) := by decide +kernel
theorem dX11_readWord_9 : decode cX11_readWord 9 = .ok (.iadd, 1) := by decide +kernel
theorem dX11_readWord_10 : decode cX11_readWord 10 = .ok (.istore_n 2, 1) := by decide +kernel
theorem dX11_readWord_11 : decode cX11_readWord 11 = .ok (.aload_n 0, 1) := by decide +kernel
theorem dX11_readWord_12 : decode cX11_readWord 12 = .ok (.invokevirtual 114, 3) := by decide +kernel
theorem dX11_readWord_15 : decode cX11_readWord 15 = .ok (.istore_n 3, 1) := by decide +kernel
theorem dX11_readWord_16 : decode cX11_readWord 16 = .ok (.iload_n 3, 1) := by decide +kernel
theorem dX11_readWord_17 : decode cX11_readWord 17 = .ok (.aload_n 0, 1) := by decide +kernel
theorem dX11_readWord_18 : decode cX11_readWord 18 = .ok (.getfield 92, 3) := by decide +kernel
theorem dX11_readWord_21 : decode cX11_readWord 21 = .ok (.isub, 1) := by decide +kernel
theorem dX11_readWord_22 : decode cX11_readWord 22 = .ok (.istore 4, 2) := by decide +kernel
theorem dX11_readWord_24 : decode cX11_readWord 24 = .ok (.iload 4, 2) := by decide +kernel
theorem dX11_readWord_26 : decode cX11_readWord 26 = .ok (.iconst 1, 1) := by decide +kernel
theorem dX11_readWord_27 : decode cX11_readWord 27 = .ok (.if_icmp .lt 10, 3) := by decide +kernel
theorem dX11_readWord_30 : decode cX11_readWord 30 = .ok (.iload 4, 2) := by decide +kernel
theorem dX11_readWord_32 : decode cX11_readWord 32 = .ok (.bipush 8, 2) := by decide +kernel
theorem dX11_readWord_34 : decode cX11_readWord 34 = .ok (.if_icmp .le 12, 3) := by decide +kernel
theorem dX11_readWord_37 : decode cX11_readWord 37 = .ok (.aload_n 0, 1) := by decide +kernel
theorem dX11_readWord_38 : decode cX11_readWord 38 = .ok (.aload_n 0, 1) := by decide +kernel
theorem dX11_readWord_39 : decode cX11_readWord 39 = .ok (.getfield 92, 3) := by decide +kernel
theorem dX11_readWord_42 : decode cX11_readWord 42 = .ok (.invokevirtual 107, 3) := by decide +kernel
theorem dX11_readWord_45 : decode cX11_readWord 45 = .ok (.return_, 1) := by decide +kernel
theorem dX11_readWord_46 : decode cX11_readWord 46 = .ok (.iconst 0, 1) := by decide +kernel
theorem dX11_readWord_47 : decode cX11_readWord 47 = .ok (.istore 5, 2) := by decide +kernel
theorem dX11_readWord_49 : decode cX11_readWord 49 = .ok (.iload 5, 2) := by decide +kernel
theorem dX11_readWord_51 : decode cX11_readWord 51 = .ok (.bipush 8, 2) := by decide +kernel
theorem dX11_readWord_53 : decode cX11_readWord 53 = .ok (.if_icmp .ge 44, 3) := by decide +kernel
theorem dX11_readWord_56 : decode cX11_readWord 56 = .ok (.aload_n 0, 1) := by decide +kernel
theorem dX11_readWord_57 : decode cX11_readWord 57 = .ok (.getfield 43, 3) := by decide +kernel
theorem dX11_readWord_60 : decode cX11_readWord 60 = .ok (.bipush 8, 2) := by decide +kernel
theorem dX11_readWord_62 : decode cX11_readWord 62 = .ok (.iload_n 2, 1) := by decide +kernel
theorem dX11_readWord_63 : decode cX11_readWord 63 = .ok (.imul, 1) := by decide +kernel
theorem dX11_readWord_64 : decode cX11_readWord 64 = .ok (.iload 5, 2) := by decide +kernel
theorem dX11_readWord_66 : decode cX11_readWord 66 = .ok (.iadd, 1) := by decide +kernel
theorem dX11_readWord_67 : decode cX11_readWord 67 = .ok (.iload 5, 2) := by decide +kernel
theorem dX11_readWord_69 : decode cX11_readWord 69 = .ok (.iload 4, 2) := by decide +kernel
theorem dX11_readWord_71 : decode cX11_readWord 71 = .ok (.if_icmp .ge 18, 3) := by decide +kernel
theorem dX11_readWord_74 : decode cX11_readWord 74 = .ok (.aload_n 0, 1) := by decide +kernel
theorem dX11_readWord_75 : decode cX11_readWord 75 = .ok (.getfield 7, 3) := by decide +kernel
theorem dX11_readWord_78 : decode cX11_readWord 78 = .ok (.aload_n 0, 1) := by decide +kernel
theorem dX11_readWord_79 : decode cX11_readWord 79 = .ok (.getfield 92, 3) := by decide +kernel
theorem dX11_readWord_82 : decode cX11_readWord 82 = .ok (.iload 5, 2) := by decide +kernel
theorem dX11_readWord_84 : decode cX11_readWord 84 = .ok (.iadd, 1) := by decide +kernel
theorem dX11_readWord_85 : decode cX11_readWord 85 = .ok (.caload, 1) := by decide +kernel
theorem dX11_readWord_86 : decode cX11_readWord 86 = .ok (.goto 4, 3) := by decide +kernel
theorem dX11_readWord_89 : decode cX11_readWord 89 = .ok (.iconst 0, 1) := by decide +kernel
theorem dX11_readWord_90 : decode cX11_readWord 90 = .ok (.castore, 1) := by decide +kernel
theorem dX11_readWord_91 : decode cX11_readWord 91 = .ok (.iinc 5 1, 3) := by decide +kernel
theorem dX11_readWord_94 : decode cX11_readWord 94 = .ok (.goto (-45), 3) := by decide +kernel
theorem dX11_readWord_97 : decode cX11_readWord 97 = .ok (.iconst 5, 1) := by decide +kernel
theorem dX11_readWord_98 : decode cX11_readWord 98 = .ok (.iload_n 1, 1) := by decide +kernel
theorem dX11_readWord_99 : decode cX11_readWord 99 = .ok (.imul, 1) := by decide +kernel
theorem dX11_readWord_100 : decode cX11_readWord 100 = .ok (.istore 5, 2) := by decide +kernel
theorem dX11_readWord_102 : decode cX11_readWord 102 = .ok (.iload 5, 2) := by decide +kernel
theorem dX11_readWord_104 : decode cX11_readWord 104 = .ok (.iload_n 2, 1) := by decide +kernel
theorem dX11_readWord_105 : decode cX11_readWord 105 = .ok (.if_icmp .ge 27, 3) := by decide +kernel
theorem dX11_readWord_108 : decode cX11_readWord 108 = .ok (.aload_n 0, 1) := by decide +kernel
theorem dX11_readWord_109 : decode cX11_readWord 109 = .ok (.iload 5, 2) := by decide +kernel
theorem dX11_readWord_111 : decode cX11_readWord 111 = .ok (.iload_n 2, 1) := by decide +kernel
theorem dX11_readWord_112 : decode cX11_readWord 112 = .ok (.invokevirtual 144, 3) := by decide +kernel
theorem dX11_readWord_115 : decode cX11_readWord 115 = .ok (.ifCond .eq 11, 3) := by decide +kernel
theorem dX11_readWord_118 : decode cX11_readWord 118 = .ok (.aload_n 0, 1) := by decide +kernel
theorem dX11_readWord_119 : decode cX11_readWord 119 = .ok (.aload_n 0, 1) := by decide +kernel
theorem dX11_readWord_120 : decode cX11_readWord 120 = .ok (.getfield 92, 3) := by decide +kernel
theorem dX11_readWord_123 : decode cX11_readWord 123 = .ok (.invokevirtual 107, 3) := by decide +kernel
theorem dX11_readWord_126 : decode cX11_readWord 126 = .ok (.iinc 5 1, 3) := by decide +kernel
theorem dX11_readWord_129 : decode cX11_readWord 129 = .ok (.goto (-27), 3) := by decide +kernel
theorem dX11_readWord_132 : decode cX11_readWord 132 = .ok (.aload_n 0, 1) := by decide +kernel
theorem dX11_readWord_133 : decode cX11_readWord 133 = .ok (.getfield 40, 3) := by decide +kernel
theorem dX11_readWord_136 : decode cX11_readWord 136 = .ok (.iload_n 1, 1) := by decide +kernel
theorem dX11_readWord_137 : decode cX11_readWord 137 = .ok (.dup2, 1) := by decide +kernel
theorem dX11_readWord_138 : decode cX11_readWord 138 = .ok (.iaload, 1) := by decide +kernel
theorem dX11_readWord_139 : decode cX11_readWord 139 = .ok (.iconst 1, 1) := by decide +kernel
theorem dX11_readWord_140 : decode cX11_readWord 140 = .ok (.iadd, 1) := by decide +kernel
theorem dX11_readWord_141 : decode cX11_readWord 141 = .ok (.iastore, 1) := by decide +kernel
theorem dX11_readWord_142 : decode cX11_readWord 142 = .ok (.aload_n 0, 1) := by decide +kernel
theorem dX11_readWord_143 : decode cX11_readWord 143 = .ok (.iload_n 3, 1) := by decide +kernel
theorem dX11_readWord_144 : decode cX11_readWord 144 = .ok (.putfield 92, 3) := by decide +kernel
theorem dX11_readWord_147 : decode cX11_readWord 147 = .ok (.return_, 1) := by decide +kernel
set_option maxRecDepth 20000 in
theorem ggX11_readWords_X11_want : GoodIn wsX11_readWords wsX11_want := goodIn_r _ [7, 8, 9, 10, 11, 6, 12, 2, 13, 14, 15, 16, 17, 18, 19, 20, 21, 22, 23, 40, 41, 42, 43, 44, 45, 46, 47, 48, 49, 50, 51, 52, 53, 54, 55, 56, 57, 58, 59, 60, 61, 62, 63, 64, 65, 66, 67] rfl (by decide +kernel)
set_option maxRecDepth 20000 in
theorem gX11_readWords_X11_want : GoodIn wsX11_readWords (wsV RX11 148 RX11 yX11_want wsX11_want) := goodIn_app (goodIn_of _ (by decide +kernel)) ggX11_readWords_X11_want
set_option maxRecDepth 20000 in
theorem ggX11_readWords_X11_readWord : GoodIn wsX11_readWords wsX11_readWord := goodIn_r _ [27, 1, 8, 28, 18, 29, 30, 31, 6, 32, 17, 13, 14, 15, 16, 33, 34, 35, 19, 20, 21, 22, 2, 23, 36, 37, 38, 39, 40, 41, 42, 43, 44, 45, 46, 47, 48, 49, 50, 51, 52, 53, 54, 55, 56, 57, 58, 59, 60, 61, 62, 63, 64, 65, 66, 67] rfl (by decide +kernel)
set_option maxRecDepth 20000 in
theorem gX11_readWords_X11_readWord : GoodIn wsX11_readWords (wsV RX11 152 RX11 yX11_readWord wsX11_readWord) := goodIn_app (goodIn_of _ (by decide +kernel)) ggX11_readWords_X11_readWord
set_option maxRecDepth 20000 in
theorem ggX11_readWords_X11_takes : GoodIn wsX11_readWords wsX11_takes := goodIn_r _ [12, 2, 8, 13, 14, 15, 6, 16, 17, 18, 40, 41, 42, 43, 44, 45, 46, 47, 48, 49, 50, 51, 52, 53, 54, 55, 56, 57, 58, 59, 60, 61, 62, 63, 64, 65, 66, 67] rfl (by decide +kernel)
set_option maxRecDepth 20000 in
theorem gX11_readWords_X11_takes : GoodIn wsX11_readWords (wsV RX11 103 RX11 yX11_takes wsX11_takes) := goodIn_app (goodIn_of _ (by decide +kernel)) ggX11_readWords_X11_takes
theorem dX11_readWords_0 : decode cX11_readWords 0 = .ok (.aload_n 0, 1) := by decide +kernel
theorem dX11_readWords_1 : decode cX11_readWords 1 = .ok (.getfield 40, 3) := by decide +kernel
theorem dX11_readWords_4 : decode cX11_readWords 4 = .ok (.iload_n 1, 1) := by decide +kernel
theorem dX11_readWords_5 : decode cX11_readWords 5 = .ok (.iconst 0, 1) := by decide +kernel
theorem dX11_readWords_6 : decode cX11_readWords 6 = .ok (.iastore, 1) := by decide +kernel
theorem dX11_readWords_7 : decode cX11_readWords 7 = .ok (.aload_n 0, 1) := by decide +kernel
theorem dX11_readWords_8 : decode cX11_readWords 8 = .ok (.bipush 40, 2) := by decide +kernel
theorem dX11_readWords_10 : decode cX11_readWords 10 = .ok (.invokevirtual 148, 3) := by decide +kernel
theorem dX11_readWords_13 : decode cX11_readWords 13 = .ok (.aload_n 0, 1) := by decide +kernel
theorem dX11_readWords_14 : decode cX11_readWords 14 = .ok (.getfield 95, 3) := by decide +kernel
theorem dX11_readWords_17 : decode cX11_readWords 17 = .ok (.ifCond .ne 7, 3) := by decide +kernel
theorem dX11_readWords_20 : decode cX11_readWords 20 = .ok (.iconst 1, 1) := by decide +kernel
theorem dX11_readWords_21 : decode cX11_readWords 21 = .ok (.goto 4, 3) := by decide +kernel
theorem dX11_readWords_24 : decode cX11_readWords 24 = .ok (.iconst 0, 1) := by decide +kernel
theorem dX11_readWords_25 : decode cX11_readWords 25 = .ok (.istore_n 2, 1) := by decide +kernel
theorem dX11_readWords_26 : decode cX11_readWords 26 = .ok (.iload_n 2, 1) := by decide +kernel
theorem dX11_readWords_27 : decode cX11_readWords 27 = .ok (.ifCond .eq 43, 3) := by decide +kernel
theorem dX11_readWords_30 : decode cX11_readWords 30 = .ok (.aload_n 0, 1) := by decide +kernel
theorem dX11_readWords_31 : decode cX11_readWords 31 = .ok (.iload_n 1, 1) := by decide +kernel
theorem dX11_readWords_32 : decode cX11_readWords 32 = .ok (.invokevirtual 152, 3) := by decide +kernel
theorem dX11_readWords_35 : decode cX11_readWords 35 = .ok (.aload_n 0, 1) := by decide +kernel
theorem dX11_readWords_36 : decode cX11_readWords 36 = .ok (.getfield 95, 3) := by decide +kernel
theorem dX11_readWords_39 : decode cX11_readWords 39 = .ok (.ifCond .ne 26, 3) := by decide +kernel
theorem dX11_readWords_42 : decode cX11_readWords 42 = .ok (.aload_n 0, 1) := by decide +kernel
theorem dX11_readWords_43 : decode cX11_readWords 43 = .ok (.getfield 40, 3) := by decide +kernel
theorem dX11_readWords_46 : decode cX11_readWords 46 = .ok (.iload_n 1, 1) := by decide +kernel
theorem dX11_readWords_47 : decode cX11_readWords 47 = .ok (.iaload, 1) := by decide +kernel
theorem dX11_readWords_48 : decode cX11_readWords 48 = .ok (.iconst 5, 1) := by decide +kernel
theorem dX11_readWords_49 : decode cX11_readWords 49 = .ok (.if_icmp .ge 16, 3) := by decide +kernel
theorem dX11_readWords_52 : decode cX11_readWords 52 = .ok (.aload_n 0, 1) := by decide +kernel
theorem dX11_readWords_53 : decode cX11_readWords 53 = .ok (.bipush 44, 2) := by decide +kernel
theorem dX11_readWords_55 : decode cX11_readWords 55 = .ok (.invokevirtual 103, 3) := by decide +kernel
theorem dX11_readWords_58 : decode cX11_readWords 58 = .ok (.ifCond .eq 7, 3) := by decide +kernel
theorem dX11_readWords_61 : decode cX11_readWords 61 = .ok (.iconst 1, 1) := by decide +kernel
theorem dX11_readWords_62 : decode cX11_readWords 62 = .ok (.goto 4, 3) := by decide +kernel
theorem dX11_readWords_65 : decode cX11_readWords 65 = .ok (.iconst 0, 1) := by decide +kernel
theorem dX11_readWords_66 : decode cX11_readWords 66 = .ok (.istore_n 2, 1) := by decide +kernel
theorem dX11_readWords_67 : decode cX11_readWords 67 = .ok (.goto (-41), 3) := by decide +kernel
theorem dX11_readWords_70 : decode cX11_readWords 70 = .ok (.aload_n 0, 1) := by decide +kernel
theorem dX11_readWords_71 : decode cX11_readWords 71 = .ok (.bipush 41, 2) := by decide +kernel
theorem dX11_readWords_73 : decode cX11_readWords 73 = .ok (.invokevirtual 148, 3) := by decide +kernel
theorem dX11_readWords_76 : decode cX11_readWords 76 = .ok (.return_, 1) := by decide +kernel
set_option maxRecDepth 20000 in
theorem ggX11_readName_X11_takes : GoodIn wsX11_readName wsX11_takes := goodIn_r _ [10, 3, 2, 11, 12, 13, 9, 14, 15, 16, 68, 69, 70, 71, 72, 73, 74, 75, 76, 77, 78, 79, 80, 81, 82, 83, 84, 85, 86, 87, 88, 89, 90, 91, 92, 93, 94, 95] rfl (by decide +kernel)
set_option maxRecDepth 20000 in
theorem gX11_readName_X11_takes : GoodIn wsX11_readName (wsV RX11 103 RX11 yX11_takes wsX11_takes) := goodIn_app (goodIn_of _ (by decide +kernel)) ggX11_readName_X11_takes
set_option maxRecDepth 20000 in
theorem ggX11_readName_X11_wrong : GoodIn wsX11_readName wsX11_wrong := goodIn_r _ [20, 3, 21, 68, 69, 70, 71, 72, 73, 74, 75, 76, 77, 78, 79, 80, 81, 82, 83, 84, 85, 86, 87, 88, 89, 90, 91, 92, 93, 94, 95] rfl (by decide +kernel)
set_option maxRecDepth 20000 in
theorem gX11_readName_X11_wrong : GoodIn wsX11_readName (wsV RX11 107 RX11 yX11_wrong wsX11_wrong) := goodIn_app (goodIn_of _ (by decide +kernel)) ggX11_readName_X11_wrong
set_option maxRecDepth 20000 in
theorem ggX11_readName_X11_want : GoodIn wsX11_readName wsX11_want := goodIn_r _ [25, 2, 6, 7, 8, 9, 10, 3, 11, 12, 13, 14, 15, 16, 17, 18, 19, 20, 21, 68, 69, 70, 71, 72, 73, 74, 75, 76, 77, 78, 79, 80, 81, 82, 83, 84, 85, 86, 87, 88, 89, 90, 91, 92, 93, 94, 95] rfl (by decide +kernel)
set_option maxRecDepth 20000 in
theorem gX11_readName_X11_want : GoodIn wsX11_readName (wsV RX11 148 RX11 yX11_want wsX11_want) := goodIn_app (goodIn_of _ (by decide +kernel)) ggX11_readName_X11_want
set_option maxRecDepth 20000 in
theorem ggX11_readName_X11_typeHere : GoodIn wsX11_readName wsX11_typeHere := goodIn_r _ [29, 30, 31, 32, 33, 34, 35, 36, 37, 38, 39, 40, 41, 42, 9, 43, 2, 16, 44, 45, 46, 47, 48, 15, 11, 12, 13, 14, 49, 50, 51, 68, 69, 70, 71, 72, 73, 74, 75, 76, 77, 78, 79, 80, 81, 82, 83, 84, 85, 86, 87, 88, 89, 90, 91, 92, 93, 94, 95] rfl (by decide +kernel)
set_option maxRecDepth 20000 in
theorem gX11_readName_X11_typeHere : GoodIn wsX11_readName (wsV RX11 155 RX11 yX11_typeHere wsX11_typeHere) := goodIn_app (goodIn_of _ (by decide +kernel)) ggX11_readName_X11_typeHere
set_option maxRecDepth 20000 in
theorem ggX11_readName_X11_isIn : GoodIn wsX11_readName wsX11_isIn := goodIn_r _ [54] rfl (by decide +kernel)
set_option maxRecDepth 20000 in
theorem gX11_readName_X11_isIn : GoodIn wsX11_readName (va_wsS RX11 158 yX11_isIn wsX11_isIn) := goodIn_app (goodIn_of _ (by decide +kernel)) ggX11_readName_X11_isIn
set_option maxRecDepth 20000 in
theorem ggX11_readName_X11_wordEnd : GoodIn wsX11_readName wsX11_wordEnd := goodIn_r _ [48, 2, 15, 16, 11, 12, 13, 9, 14, 49, 50, 51, 68, 69, 70, 71, 72, 73, 74, 75, 76, 77, 78, 79, 80, 81, 82, 83, 84, 85, 86, 87, 88, 89, 90, 91, 92, 93, 94, 95] rfl (by decide +kernel)
set_option maxRecDepth 20000 in
theorem gX11_readName_X11_wordEnd : GoodIn wsX11_readName (wsV RX11 114 RX11 yX11_wordEnd wsX11_wordEnd) := goodIn_app (goodIn_of _ (by decide +kernel)) ggX11_readName_X11_wordEnd
set_option maxRecDepth 20000 in
theorem ggX11_readName_X11_readWords : GoodIn wsX11_readName wsX11_readWords := goodIn_r _ [58, 5, 3, 22, 23, 24, 9, 25, 2, 6, 7, 8, 10, 11, 12, 13, 14, 15, 16, 17, 18, 19, 20, 21, 59, 60, 61, 62, 63, 45, 46, 47, 48, 49, 50, 51, 64, 65, 66, 67, 68, 69, 70, 71, 72, 73, 74, 75, 76, 77, 78, 79, 80, 81, 82, 83, 84, 85, 86, 87, 88, 89, 90, 91, 92, 93, 94, 95] rfl (by decide +kernel)
set_option maxRecDepth 20000 in
theorem gX11_readName_X11_readWords : GoodIn wsX11_readName (wsV RX11 162 RX11 yX11_readWords wsX11_readWords) := goodIn_app (goodIn_of _ (by decide +kernel)) ggX11_readName_X11_readWords
theorem dX11_readName_0 : decode cX11_readName 0 = .ok (.aload_n 0, 1) := by decide +kernel
theorem dX11_readName_1 : decode cX11_readName 1 = .ok (.getfield 34, 3) := by decide +kernel
theorem dX11_readName_4 : decode cX11_readName 4 = .ok (.iload_n 1, 1) := by decide +kernel
theorem dX11_readName_5 : decode cX11_readName 5 = .ok (.iconst 0, 1) := by decide +kernel
theorem dX11_readName_6 : decode cX11_readName 6 = .ok (.iastore, 1) := by decide +kernel
theorem dX11_readName_7 : decode cX11_readName 7 = .ok (.aload_n 0, 1) := by decide +kernel
theorem dX11_readName_8 : decode cX11_readName 8 = .ok (.bipush 91, 2) := by decide +kernel
theorem dX11_readName_10 : decode cX11_readName 10 = .ok (.invokevirtual 103, 3) := by decide +kernel
theorem dX11_readName_13 : decode cX11_readName 13 = .ok (.ifCond .eq 59, 3) := by decide +kernel
theorem dX11_readName_16 : decode cX11_readName 16 = .ok (.aload_n 0, 1) := by decide +kernel
theorem dX11_readName_17 : decode cX11_readName 17 = .ok (.getfield 34, 3) := by decide +kernel
theorem dX11_readName_20 : decode cX11_readName 20 = .ok (.iload_n 1, 1) := by decide +kernel
theorem dX11_readName_21 : decode cX11_readName 21 = .ok (.aload_n 0, 1) := by decide +kernel
theorem dX11_readName_22 : decode cX11_readName 22 = .ok (.bipush 67, 2) := by decide +kernel
theorem dX11_readName_24 : decode cX11_readName 24 = .ok (.invokevirtual 103, 3) := by decide +kernel
theorem dX11_readName_27 : decode cX11_readName 27 = .ok (.ifCond .eq 7, 3) := by decide +kernel
theorem dX11_readName_30 : decode cX11_readName 30 = .ok (.iconst 1, 1) := by decide +kernel
theorem dX11_readName_31 : decode cX11_readName 31 = .ok (.goto 17, 3) := by decide +kernel
theorem dX11_readName_34 : decode cX11_readName 34 = .ok (.aload_n 0, 1) := by decide +kernel
theorem dX11_readName_35 : decode cX11_readName 35 = .ok (.bipush 69, 2) := by decide +kernel
theorem dX11_readName_37 : decode cX11_readName 37 = .ok (.invokevirtual 103, 3) := by decide +kernel
theorem dX11_readName_40 : decode cX11_readName 40 = .ok (.ifCond .eq 7, 3) := by decide +kernel
theorem dX11_readName_43 : decode cX11_readName 43 = .ok (.iconst 2, 1) := by decide +kernel
theorem dX11_readName_44 : decode cX11_readName 44 = .ok (.goto 4, 3) := by decide +kernel
theorem dX11_readName_47 : decode cX11_readName 47 = .ok (.iconst 0, 1) := by decide +kernel
theorem dX11_readName_48 : decode cX11_readName 48 = .ok (.iastore, 1) := by decide +kernel
theorem dX11_readName_49 : decode cX11_readName 49 = .ok (.aload_n 0, 1) := by decide +kernel
theorem dX11_readName_50 : decode cX11_readName 50 = .ok (.getfield 34, 3) := by decide +kernel
theorem dX11_readName_53 : decode cX11_readName 53 = .ok (.iload_n 1, 1) := by decide +kernel
theorem dX11_readName_54 : decode cX11_readName 54 = .ok (.iaload, 1) := by decide +kernel
theorem dX11_readName_55 : decode cX11_readName 55 = .ok (.ifCond .ne 11, 3) := by decide +kernel
theorem dX11_readName_58 : decode cX11_readName 58 = .ok (.aload_n 0, 1) := by decide +kernel
theorem dX11_readName_59 : decode cX11_readName 59 = .ok (.aload_n 0, 1) := by decide +kernel
theorem dX11_readName_60 : decode cX11_readName 60 = .ok (.getfield 92, 3) := by decide +kernel
theorem dX11_readName_63 : decode cX11_readName 63 = .ok (.invokevirtual 107, 3) := by decide +kernel
theorem dX11_readName_66 : decode cX11_readName 66 = .ok (.aload_n 0, 1) := by decide +kernel
theorem dX11_readName_67 : decode cX11_readName 67 = .ok (.bipush 93, 2) := by decide +kernel
theorem dX11_readName_69 : decode cX11_readName 69 = .ok (.invokevirtual 148, 3) := by decide +kernel
theorem dX11_readName_72 : decode cX11_readName 72 = .ok (.aload_n 0, 1) := by decide +kernel
theorem dX11_readName_73 : decode cX11_readName 73 = .ok (.getfield 95, 3) := by decide +kernel
theorem dX11_readName_76 : decode cX11_readName 76 = .ok (.ifCond .eq 4, 3) := by decide +kernel
theorem dX11_readName_79 : decode cX11_readName 79 = .ok (.return_, 1) := by decide +kernel
theorem dX11_readName_80 : decode cX11_readName 80 = .ok (.aload_n 0, 1) := by decide +kernel
theorem dX11_readName_81 : decode cX11_readName 81 = .ok (.getfield 31, 3) := by decide +kernel
theorem dX11_readName_84 : decode cX11_readName 84 = .ok (.iload_n 1, 1) := by decide +kernel
theorem dX11_readName_85 : decode cX11_readName 85 = .ok (.aload_n 0, 1) := by decide +kernel
theorem dX11_readName_86 : decode cX11_readName 86 = .ok (.invokevirtual 155, 3) := by decide +kernel
theorem dX11_readName_89 : decode cX11_readName 89 = .ok (.iastore, 1) := by decide +kernel
theorem dX11_readName_90 : decode cX11_readName 90 = .ok (.aload_n 0, 1) := by decide +kernel
theorem dX11_readName_91 : decode cX11_readName 91 = .ok (.getfield 40, 3) := by decide +kernel
theorem dX11_readName_94 : decode cX11_readName 94 = .ok (.iload_n 1, 1) := by decide +kernel
theorem dX11_readName_95 : decode cX11_readName 95 = .ok (.iconst 0, 1) := by decide +kernel
theorem dX11_readName_96 : decode cX11_readName 96 = .ok (.iastore, 1) := by decide +kernel
theorem dX11_readName_97 : decode cX11_readName 97 = .ok (.aload_n 0, 1) := by decide +kernel
theorem dX11_readName_98 : decode cX11_readName 98 = .ok (.getfield 31, 3) := by decide +kernel
theorem dX11_readName_101 : decode cX11_readName 101 = .ok (.iload_n 1, 1) := by decide +kernel
theorem dX11_readName_102 : decode cX11_readName 102 = .ok (.iaload, 1) := by decide +kernel
theorem dX11_readName_103 : decode cX11_readName 103 = .ok (.ifCond .lt 41, 3) := by decide +kernel
theorem dX11_readName_106 : decode cX11_readName 106 = .ok (.aload_n 0, 1) := by decide +kernel
theorem dX11_readName_107 : decode cX11_readName 107 = .ok (.getfield 31, 3) := by decide +kernel
theorem dX11_readName_110 : decode cX11_readName 110 = .ok (.iload_n 1, 1) := by decide +kernel
theorem dX11_readName_111 : decode cX11_readName 111 = .ok (.iaload, 1) := by decide +kernel
theorem dX11_readName_112 : decode cX11_readName 112 = .ok (.bipush 9, 2) := by decide +kernel
theorem dX11_readName_114 : decode cX11_readName 114 = .ok (.if_icmp .ne 7, 3) := by decide +kernel
theorem dX11_readName_117 : decode cX11_readName 117 = .ok (.iload_n 2, 1) := by decide +kernel
theorem dX11_readName_118 : decode cX11_readName 118 = .ok (.ifCond .eq 26, 3) := by decide +kernel
theorem dX11_readName_121 : decode cX11_readName 121 = .ok (.aload_n 0, 1) := by decide +kernel
theorem dX11_readName_122 : decode cX11_readName 122 = .ok (.getfield 34, 3) := by decide +kernel
theorem dX11_readName_125 : decode cX11_readName 125 = .ok (.iload_n 1, 1) := by decide +kernel
theorem dX11_readName_126 : decode cX11_readName 126 = .ok (.iaload, 1) := by decide +kernel
theorem dX11_readName_127 : decode cX11_readName 127 = .ok (.ifCond .le 26, 3) := by decide +kernel
theorem dX11_readName_130 : decode cX11_readName 130 = .ok (.aload_n 0, 1) := by decide +kernel
theorem dX11_readName_131 : decode cX11_readName 131 = .ok (.getfield 31, 3) := by decide +kernel
theorem dX11_readName_134 : decode cX11_readName 134 = .ok (.iload_n 1, 1) := by decide +kernel
theorem dX11_readName_135 : decode cX11_readName 135 = .ok (.iaload, 1) := by decide +kernel
theorem dX11_readName_136 : decode cX11_readName 136 = .ok (.iconst 1, 1) := by decide +kernel
theorem dX11_readName_137 : decode cX11_readName 137 = .ok (.iconst 4, 1) := by decide +kernel
theorem dX11_readName_138 : decode cX11_readName 138 = .ok (.invokestatic 158, 3) := by decide +kernel
theorem dX11_readName_141 : decode cX11_readName 141 = .ok (.ifCond .ne 12, 3) := by decide +kernel
theorem dX11_readName_144 : decode cX11_readName 144 = .ok (.aload_n 0, 1) := by decide +kernel
theorem dX11_readName_145 : decode cX11_readName 145 = .ok (.aload_n 0, 1) := by decide +kernel
theorem dX11_readName_146 : decode cX11_readName 146 = .ok (.getfield 92, 3) := by decide +kernel
theorem dX11_readName_149 : decode cX11_readName 149 = .ok (.invokevirtual 107, 3) := by decide +kernel
theorem dX11_readName_152 : decode cX11_readName 152 = .ok (.return_, 1) := by decide +kernel
theorem dX11_readName_153 : decode cX11_readName 153 = .ok (.aload_n 0, 1) := by decide +kernel
theorem dX11_readName_154 : decode cX11_readName 154 = .ok (.aload_n 0, 1) := by decide +kernel
theorem dX11_readName_155 : decode cX11_readName 155 = .ok (.invokevirtual 114, 3) := by decide +kernel
theorem dX11_readName_158 : decode cX11_readName 158 = .ok (.putfield 92, 3) := by decide +kernel
theorem dX11_readName_161 : decode cX11_readName 161 = .ok (.aload_n 0, 1) := by decide +kernel
theorem dX11_readName_162 : decode cX11_readName 162 = .ok (.getfield 31, 3) := by decide +kernel
theorem dX11_readName_165 : decode cX11_readName 165 = .ok (.iload_n 1, 1) := by decide +kernel
theorem dX11_readName_166 : decode cX11_readName 166 = .ok (.iaload, 1) := by decide +kernel
theorem dX11_readName_167 : decode cX11_readName 167 = .ok (.bipush 8, 2) := by decide +kernel
theorem dX11_readName_169 : decode cX11_readName 169 = .ok (.if_icmp .ne 8, 3) := by decide +kernel
theorem dX11_readName_172 : decode cX11_readName 172 = .ok (.aload_n 0, 1) := by decide +kernel
theorem dX11_readName_173 : decode cX11_readName 173 = .ok (.iload_n 1, 1) := by decide +kernel
theorem dX11_readName_174 : decode cX11_readName 174 = .ok (.invokevirtual 162, 3) := by decide +kernel
theorem dX11_readName_177 : decode cX11_readName 177 = .ok (.return_, 1) := by decide +kernel
set_option maxRecDepth 20000 in
theorem ggX11_readMark_X11_takes : GoodIn wsX11_readMark wsX11_takes := goodIn_r _ [8, 2, 9, 10, 11, 12, 7, 13, 14, 15, 16, 17, 18, 19, 20, 21, 22, 23, 24, 25, 26, 27, 28, 29, 30, 31, 32, 33, 34, 35, 36, 37, 38, 39, 40, 41, 42, 43] rfl (by decide +kernel)
set_option maxRecDepth 20000 in
theorem gX11_readMark_X11_takes : GoodIn wsX11_readMark (wsV RX11 103 RX11 yX11_takes wsX11_takes) := goodIn_app (goodIn_of _ (by decide +kernel)) ggX11_readMark_X11_takes
theorem dX11_readMark_0 : decode cX11_readMark 0 = .ok (.aload_n 0, 1) := by decide +kernel
theorem dX11_readMark_1 : decode cX11_readMark 1 = .ok (.getfield 37, 3) := by decide +kernel
theorem dX11_readMark_4 : decode cX11_readMark 4 = .ok (.iload_n 1, 1) := by decide +kernel
theorem dX11_readMark_5 : decode cX11_readMark 5 = .ok (.aload_n 0, 1) := by decide +kernel
theorem dX11_readMark_6 : decode cX11_readMark 6 = .ok (.getfield 95, 3) := by decide +kernel
theorem dX11_readMark_9 : decode cX11_readMark 9 = .ok (.ifCond .ne 27, 3) := by decide +kernel
theorem dX11_readMark_12 : decode cX11_readMark 12 = .ok (.aload_n 0, 1) := by decide +kernel
theorem dX11_readMark_13 : decode cX11_readMark 13 = .ok (.getfield 31, 3) := by decide +kernel
theorem dX11_readMark_16 : decode cX11_readMark 16 = .ok (.iload_n 1, 1) := by decide +kernel
theorem dX11_readMark_17 : decode cX11_readMark 17 = .ok (.iaload, 1) := by decide +kernel
theorem dX11_readMark_18 : decode cX11_readMark 18 = .ok (.bipush 7, 2) := by decide +kernel
theorem dX11_readMark_20 : decode cX11_readMark 20 = .ok (.if_icmp .eq 16, 3) := by decide +kernel
theorem dX11_readMark_23 : decode cX11_readMark 23 = .ok (.aload_n 0, 1) := by decide +kernel
theorem dX11_readMark_24 : decode cX11_readMark 24 = .ok (.bipush 63, 2) := by decide +kernel
theorem dX11_readMark_26 : decode cX11_readMark 26 = .ok (.invokevirtual 103, 3) := by decide +kernel
theorem dX11_readMark_29 : decode cX11_readMark 29 = .ok (.ifCond .eq 7, 3) := by decide +kernel
theorem dX11_readMark_32 : decode cX11_readMark 32 = .ok (.iconst 1, 1) := by decide +kernel
theorem dX11_readMark_33 : decode cX11_readMark 33 = .ok (.goto 4, 3) := by decide +kernel
theorem dX11_readMark_36 : decode cX11_readMark 36 = .ok (.iconst 0, 1) := by decide +kernel
theorem dX11_readMark_37 : decode cX11_readMark 37 = .ok (.bastore, 1) := by decide +kernel
theorem dX11_readMark_38 : decode cX11_readMark 38 = .ok (.return_, 1) := by decide +kernel
set_option maxRecDepth 20000 in
theorem ggX11_readArgument_X11_isWord : GoodIn wsX11_readArgument wsX11_isWord := goodIn_r _ [11, 4, 12, 13, 14, 15, 16, 10, 17, 18, 19, 20, 21, 22, 23, 24, 25, 80, 81, 82, 83, 84, 85, 86, 87, 88, 89, 90, 91, 92, 93, 94, 95, 96, 97, 98, 99, 100, 101, 102, 103, 104, 105, 106, 107] rfl (by decide +kernel)
set_option maxRecDepth 20000 in
theorem gX11_readArgument_X11_isWord : GoodIn wsX11_readArgument (wsV RX11 122 RX11 yX11_isWord wsX11_isWord) := goodIn_app (goodIn_of _ (by decide +kernel)) ggX11_readArgument_X11_isWord
set_option maxRecDepth 20000 in
theorem ggX11_readArgument_X11_wordEnd : GoodIn wsX11_readArgument wsX11_wordEnd := goodIn_r _ [17, 4, 18, 12, 19, 20, 21, 10, 22, 23, 24, 25, 80, 81, 82, 83, 84, 85, 86, 87, 88, 89, 90, 91, 92, 93, 94, 95, 96, 97, 98, 99, 100, 101, 102, 103, 104, 105, 106, 107] rfl (by decide +kernel)
set_option maxRecDepth 20000 in
theorem gX11_readArgument_X11_wordEnd : GoodIn wsX11_readArgument (wsV RX11 114 RX11 yX11_wordEnd wsX11_wordEnd) := goodIn_app (goodIn_of _ (by decide +kernel)) ggX11_readArgument_X11_wordEnd
set_option maxRecDepth 20000 in
theorem ggX11_readArgument_X11_readName : GoodIn wsX11_readArgument wsX11_readName := goodIn_r _ [29, 30, 4, 5, 6, 31, 32, 33, 34, 10, 35, 19, 20, 21, 22, 18, 12, 36, 37, 38, 39, 40, 41, 42, 43, 44, 45, 46, 47, 48, 49, 50, 51, 52, 53, 54, 55, 56, 57, 58, 7, 8, 9, 11, 13, 14, 15, 16, 17, 23, 24, 25, 59, 60, 61, 62, 63, 64, 65, 66, 67, 68, 69, 70, 71, 72, 73, 74, 80, 81, 82, 83, 84, 85, 86, 87, 88, 89, 90, 91, 92, 93, 94, 95, 96, 97, 98, 99, 100, 101, 102, 103, 104, 105, 106, 107] rfl (by decide +kernel)
set_option maxRecDepth 20000 in
theorem gX11_readArgument_X11_readName : GoodIn wsX11_readArgument (wsV RX11 167 RX11 yX11_readName wsX11_readName) := goodIn_app (goodIn_of _ (by decide +kernel)) ggX11_readArgument_X11_readName
set_option maxRecDepth 20000 in
theorem ggX11_readArgument_X11_want : GoodIn wsX11_readArgument wsX11_want := goodIn_r _ [44, 4, 32, 33, 34, 10, 35, 5, 19, 20, 21, 22, 18, 12, 36, 37, 38, 39, 40, 80, 81, 82, 83, 84, 85, 86, 87, 88, 89, 90, 91, 92, 93, 94, 95, 96, 97, 98, 99, 100, 101, 102, 103, 104, 105, 106, 107] rfl (by decide +kernel)
set_option maxRecDepth 20000 in
theorem gX11_readArgument_X11_want : GoodIn wsX11_readArgument (wsV RX11 148 RX11 yX11_want wsX11_want) := goodIn_app (goodIn_of _ (by decide +kernel)) ggX11_readArgument_X11_want
set_option maxRecDepth 20000 in
theorem ggX11_readArgument_X11_readMark : GoodIn wsX11_readArgument wsX11_readMark := goodIn_r _ [78, 79, 5, 6, 32, 33, 34, 10, 35, 4, 19, 20, 21, 22, 18, 12, 80, 81, 82, 83, 84, 85, 86, 87, 88, 89, 90, 91, 92, 93, 94, 95, 96, 97, 98, 99, 100, 101, 102, 103, 104, 105, 106, 107] rfl (by decide +kernel)
set_option maxRecDepth 20000 in
theorem gX11_readArgument_X11_readMark : GoodIn wsX11_readArgument (wsV RX11 171 RX11 yX11_readMark wsX11_readMark) := goodIn_app (goodIn_of _ (by decide +kernel)) ggX11_readArgument_X11_readMark
set_option maxRecDepth 20000 in
theorem ggX11_readArgument_X11_takes : GoodIn wsX11_readArgument wsX11_takes := goodIn_r _ [35, 5, 4, 19, 20, 21, 10, 22, 18, 12, 80, 81, 82, 83, 84, 85, 86, 87, 88, 89, 90, 91, 92, 93, 94, 95, 96, 97, 98, 99, 100, 101, 102, 103, 104, 105, 106, 107] rfl (by decide +kernel)
set_option maxRecDepth 20000 in
theorem gX11_readArgument_X11_takes : GoodIn wsX11_readArgument (wsV RX11 103 RX11 yX11_takes wsX11_takes) := goodIn_app (goodIn_of _ (by decide +kernel)) ggX11_readArgument_X11_takes
theorem dX11_readArgument_0 : decode cX11_readArgument 0 = .ok (.aload_n 0, 1) := by decide +kernel
theorem dX11_readArgument_1 : decode cX11_readArgument 1 = .ok (.getfield 24, 3) := by decide +kernel
theorem dX11_readArgument_4 : decode cX11_readArgument 4 = .ok (.iload_n 1, 1) := by decide +kernel
theorem dX11_readArgument_5 : decode cX11_readArgument 5 = .ok (.iconst 0, 1) := by decide +kernel
theorem dX11_readArgument_6 : decode cX11_readArgument 6 = .ok (.bastore, 1) := by decide +kernel
theorem dX11_readArgument_7 : decode cX11_readArgument 7 = .ok (.aload_n 0, 1) := by decide +kernel
theorem dX11_readArgument_8 : decode cX11_readArgument 8 = .ok (.getfield 28, 3) := by decide +kernel
theorem dX11_readArgument_11 : decode cX11_readArgument 11 = .ok (.iload_n 1, 1) := by decide +kernel
theorem dX11_readArgument_12 : decode cX11_readArgument 12 = .ok (.iconst 0, 1) := by decide +kernel
theorem dX11_readArgument_13 : decode cX11_readArgument 13 = .ok (.bastore, 1) := by decide +kernel
theorem dX11_readArgument_14 : decode cX11_readArgument 14 = .ok (.aload_n 0, 1) := by decide +kernel
theorem dX11_readArgument_15 : decode cX11_readArgument 15 = .ok (.ldc2_w 165, 3) := by decide +kernel
theorem dX11_readArgument_18 : decode cX11_readArgument 18 = .ok (.invokevirtual 122, 3) := by decide +kernel
theorem dX11_readArgument_21 : decode cX11_readArgument 21 = .ok (.ifCond .eq 18, 3) := by decide +kernel
theorem dX11_readArgument_24 : decode cX11_readArgument 24 = .ok (.aload_n 0, 1) := by decide +kernel
theorem dX11_readArgument_25 : decode cX11_readArgument 25 = .ok (.getfield 24, 3) := by decide +kernel
theorem dX11_readArgument_28 : decode cX11_readArgument 28 = .ok (.iload_n 1, 1) := by decide +kernel
theorem dX11_readArgument_29 : decode cX11_readArgument 29 = .ok (.iconst 1, 1) := by decide +kernel
theorem dX11_readArgument_30 : decode cX11_readArgument 30 = .ok (.bastore, 1) := by decide +kernel
theorem dX11_readArgument_31 : decode cX11_readArgument 31 = .ok (.aload_n 0, 1) := by decide +kernel
theorem dX11_readArgument_32 : decode cX11_readArgument 32 = .ok (.aload_n 0, 1) := by decide +kernel
theorem dX11_readArgument_33 : decode cX11_readArgument 33 = .ok (.invokevirtual 114, 3) := by decide +kernel
theorem dX11_readArgument_36 : decode cX11_readArgument 36 = .ok (.putfield 92, 3) := by decide +kernel
theorem dX11_readArgument_39 : decode cX11_readArgument 39 = .ok (.iconst 2, 1) := by decide +kernel
theorem dX11_readArgument_40 : decode cX11_readArgument 40 = .ok (.iload_n 1, 1) := by decide +kernel
theorem dX11_readArgument_41 : decode cX11_readArgument 41 = .ok (.imul, 1) := by decide +kernel
theorem dX11_readArgument_42 : decode cX11_readArgument 42 = .ok (.istore_n 2, 1) := by decide +kernel
theorem dX11_readArgument_43 : decode cX11_readArgument 43 = .ok (.aload_n 0, 1) := by decide +kernel
theorem dX11_readArgument_44 : decode cX11_readArgument 44 = .ok (.iload_n 2, 1) := by decide +kernel
theorem dX11_readArgument_45 : decode cX11_readArgument 45 = .ok (.iconst 1, 1) := by decide +kernel
theorem dX11_readArgument_46 : decode cX11_readArgument 46 = .ok (.invokevirtual 167, 3) := by decide +kernel
theorem dX11_readArgument_49 : decode cX11_readArgument 49 = .ok (.aload_n 0, 1) := by decide +kernel
theorem dX11_readArgument_50 : decode cX11_readArgument 50 = .ok (.getfield 95, 3) := by decide +kernel
theorem dX11_readArgument_53 : decode cX11_readArgument 53 = .ok (.ifCond .ne 41, 3) := by decide +kernel
theorem dX11_readArgument_56 : decode cX11_readArgument 56 = .ok (.aload_n 0, 1) := by decide +kernel
theorem dX11_readArgument_57 : decode cX11_readArgument 57 = .ok (.getfield 31, 3) := by decide +kernel
theorem dX11_readArgument_60 : decode cX11_readArgument 60 = .ok (.iload_n 2, 1) := by decide +kernel
theorem dX11_readArgument_61 : decode cX11_readArgument 61 = .ok (.iaload, 1) := by decide +kernel
theorem dX11_readArgument_62 : decode cX11_readArgument 62 = .ok (.bipush 9, 2) := by decide +kernel
theorem dX11_readArgument_64 : decode cX11_readArgument 64 = .ok (.if_icmp .ne 30, 3) := by decide +kernel
theorem dX11_readArgument_67 : decode cX11_readArgument 67 = .ok (.aload_n 0, 1) := by decide +kernel
theorem dX11_readArgument_68 : decode cX11_readArgument 68 = .ok (.bipush 60, 2) := by decide +kernel
theorem dX11_readArgument_70 : decode cX11_readArgument 70 = .ok (.invokevirtual 148, 3) := by decide +kernel
theorem dX11_readArgument_73 : decode cX11_readArgument 73 = .ok (.aload_n 0, 1) := by decide +kernel
theorem dX11_readArgument_74 : decode cX11_readArgument 74 = .ok (.iload_n 2, 1) := by decide +kernel
theorem dX11_readArgument_75 : decode cX11_readArgument 75 = .ok (.iconst 1, 1) := by decide +kernel
theorem dX11_readArgument_76 : decode cX11_readArgument 76 = .ok (.iadd, 1) := by decide +kernel
theorem dX11_readArgument_77 : decode cX11_readArgument 77 = .ok (.iconst 0, 1) := by decide +kernel
theorem dX11_readArgument_78 : decode cX11_readArgument 78 = .ok (.invokevirtual 167, 3) := by decide +kernel
theorem dX11_readArgument_81 : decode cX11_readArgument 81 = .ok (.aload_n 0, 1) := by decide +kernel
theorem dX11_readArgument_82 : decode cX11_readArgument 82 = .ok (.iload_n 2, 1) := by decide +kernel
theorem dX11_readArgument_83 : decode cX11_readArgument 83 = .ok (.iconst 1, 1) := by decide +kernel
theorem dX11_readArgument_84 : decode cX11_readArgument 84 = .ok (.iadd, 1) := by decide +kernel
theorem dX11_readArgument_85 : decode cX11_readArgument 85 = .ok (.invokevirtual 171, 3) := by decide +kernel
theorem dX11_readArgument_88 : decode cX11_readArgument 88 = .ok (.aload_n 0, 1) := by decide +kernel
theorem dX11_readArgument_89 : decode cX11_readArgument 89 = .ok (.bipush 62, 2) := by decide +kernel
theorem dX11_readArgument_91 : decode cX11_readArgument 91 = .ok (.invokevirtual 148, 3) := by decide +kernel
theorem dX11_readArgument_94 : decode cX11_readArgument 94 = .ok (.aload_n 0, 1) := by decide +kernel
theorem dX11_readArgument_95 : decode cX11_readArgument 95 = .ok (.iload_n 2, 1) := by decide +kernel
theorem dX11_readArgument_96 : decode cX11_readArgument 96 = .ok (.invokevirtual 171, 3) := by decide +kernel
theorem dX11_readArgument_99 : decode cX11_readArgument 99 = .ok (.aload_n 0, 1) := by decide +kernel
theorem dX11_readArgument_100 : decode cX11_readArgument 100 = .ok (.getfield 95, 3) := by decide +kernel
theorem dX11_readArgument_103 : decode cX11_readArgument 103 = .ok (.ifCond .ne 40, 3) := by decide +kernel
theorem dX11_readArgument_106 : decode cX11_readArgument 106 = .ok (.aload_n 0, 1) := by decide +kernel
theorem dX11_readArgument_107 : decode cX11_readArgument 107 = .ok (.getfield 24, 3) := by decide +kernel
theorem dX11_readArgument_110 : decode cX11_readArgument 110 = .ok (.iload_n 1, 1) := by decide +kernel
theorem dX11_readArgument_111 : decode cX11_readArgument 111 = .ok (.baload, 1) := by decide +kernel
theorem dX11_readArgument_112 : decode cX11_readArgument 112 = .ok (.ifCond .ne 31, 3) := by decide +kernel
theorem dX11_readArgument_115 : decode cX11_readArgument 115 = .ok (.aload_n 0, 1) := by decide +kernel
theorem dX11_readArgument_116 : decode cX11_readArgument 116 = .ok (.bipush 46, 2) := by decide +kernel
theorem dX11_readArgument_118 : decode cX11_readArgument 118 = .ok (.invokevirtual 103, 3) := by decide +kernel
theorem dX11_readArgument_121 : decode cX11_readArgument 121 = .ok (.ifCond .eq 22, 3) := by decide +kernel
theorem dX11_readArgument_124 : decode cX11_readArgument 124 = .ok (.aload_n 0, 1) := by decide +kernel
theorem dX11_readArgument_125 : decode cX11_readArgument 125 = .ok (.bipush 46, 2) := by decide +kernel
theorem dX11_readArgument_127 : decode cX11_readArgument 127 = .ok (.invokevirtual 148, 3) := by decide +kernel
theorem dX11_readArgument_130 : decode cX11_readArgument 130 = .ok (.aload_n 0, 1) := by decide +kernel
theorem dX11_readArgument_131 : decode cX11_readArgument 131 = .ok (.bipush 46, 2) := by decide +kernel
theorem dX11_readArgument_133 : decode cX11_readArgument 133 = .ok (.invokevirtual 148, 3) := by decide +kernel
theorem dX11_readArgument_136 : decode cX11_readArgument 136 = .ok (.aload_n 0, 1) := by decide +kernel
theorem dX11_readArgument_137 : decode cX11_readArgument 137 = .ok (.getfield 28, 3) := by decide +kernel
theorem dX11_readArgument_140 : decode cX11_readArgument 140 = .ok (.iload_n 1, 1) := by decide +kernel
theorem dX11_readArgument_141 : decode cX11_readArgument 141 = .ok (.iconst 1, 1) := by decide +kernel
theorem dX11_readArgument_142 : decode cX11_readArgument 142 = .ok (.bastore, 1) := by decide +kernel
theorem dX11_readArgument_143 : decode cX11_readArgument 143 = .ok (.return_, 1) := by decide +kernel
set_option maxRecDepth 20000 in
theorem ggX11_read_X11_next : GoodIn wsX11_read wsX11_next := goodIn_r _ [10, 1, 11, 12, 85, 86, 87, 88, 89, 90, 91, 92, 93, 94, 95, 96, 97, 98, 99, 100, 101, 102, 103, 104, 105, 106, 107, 108, 109, 110, 111, 112] rfl (by decide +kernel)
set_option maxRecDepth 20000 in
theorem gX11_read_X11_next : GoodIn wsX11_read (wsV RX11 99 RX11 yX11_next wsX11_next) := goodIn_app (goodIn_of _ (by decide +kernel)) ggX11_read_X11_next
set_option maxRecDepth 20000 in
theorem ggX11_read_X11_wrong : GoodIn wsX11_read wsX11_wrong := goodIn_r _ [16, 3, 17, 85, 86, 87, 88, 89, 90, 91, 92, 93, 94, 95, 96, 97, 98, 99, 100, 101, 102, 103, 104, 105, 106, 107, 108, 109, 110, 111, 112] rfl (by decide +kernel)
set_option maxRecDepth 20000 in
theorem gX11_read_X11_wrong : GoodIn wsX11_read (wsV RX11 107 RX11 yX11_wrong wsX11_wrong) := goodIn_app (goodIn_of _ (by decide +kernel)) ggX11_read_X11_wrong
set_option maxRecDepth 20000 in
theorem ggX11_read_X11_want : GoodIn wsX11_read wsX11_want := goodIn_r _ [21, 1, 22, 23, 24, 9, 25, 3, 6, 7, 8, 10, 11, 12, 13, 14, 15, 16, 17, 85, 86, 87, 88, 89, 90, 91, 92, 93, 94, 95, 96, 97, 98, 99, 100, 101, 102, 103, 104, 105, 106, 107, 108, 109, 110, 111, 112] rfl (by decide +kernel)
set_option maxRecDepth 20000 in
theorem gX11_read_X11_want : GoodIn wsX11_read (wsV RX11 148 RX11 yX11_want wsX11_want) := goodIn_app (goodIn_of _ (by decide +kernel)) ggX11_read_X11_want
set_option maxRecDepth 20000 in
theorem ggX11_read_X11_readArgument : GoodIn wsX11_read wsX11_readArgument := goodIn_r _ [29, 4, 5, 30, 1, 3, 31, 32, 33, 34, 9, 35, 12, 36, 37, 38, 39, 40, 11, 6, 7, 8, 10, 41, 42, 43, 44, 45, 46, 47, 48, 49, 22, 23, 24, 25, 13, 14, 15, 16, 17, 18, 19, 20, 21, 50, 51, 52, 53, 54, 55, 56, 57, 58, 59, 60, 61, 62, 63, 64, 65, 66, 67, 68, 69, 70, 71, 72, 73, 74, 75, 76, 77, 78, 79, 80, 81, 82, 83, 84, 85, 86, 87, 88, 89, 90, 91, 92, 93, 94, 95, 96, 97, 98, 99, 100, 101, 102, 103, 104, 105, 106, 107, 108, 109, 110, 111, 112] rfl (by decide +kernel)
set_option maxRecDepth 20000 in
theorem gX11_read_X11_readArgument : GoodIn wsX11_read (wsV RX11 174 RX11 yX11_readArgument wsX11_readArgument) := goodIn_app (goodIn_of _ (by decide +kernel)) ggX11_read_X11_readArgument
set_option maxRecDepth 20000 in
theorem ggX11_read_X11_takes : GoodIn wsX11_read wsX11_takes := goodIn_r _ [25, 3, 1, 6, 7, 8, 9, 10, 11, 12, 85, 86, 87, 88, 89, 90, 91, 92, 93, 94, 95, 96, 97, 98, 99, 100, 101, 102, 103, 104, 105, 106, 107, 108, 109, 110, 111, 112] rfl (by decide +kernel)
set_option maxRecDepth 20000 in
theorem gX11_read_X11_takes : GoodIn wsX11_read (wsV RX11 103 RX11 yX11_takes wsX11_takes) := goodIn_app (goodIn_of _ (by decide +kernel)) ggX11_read_X11_takes
theorem dX11_read_0 : decode cX11_read 0 = .ok (.aload_n 0, 1) := by decide +kernel
theorem dX11_read_1 : decode cX11_read 1 = .ok (.invokevirtual 99, 3) := by decide +kernel
theorem dX11_read_4 : decode cX11_read 4 = .ok (.istore_n 1, 1) := by decide +kernel
theorem dX11_read_5 : decode cX11_read 5 = .ok (.iload_n 1, 1) := by decide +kernel
theorem dX11_read_6 : decode cX11_read 6 = .ok (.bipush 97, 2) := by decide +kernel
theorem dX11_read_8 : decode cX11_read 8 = .ok (.if_icmp .lt 9, 3) := by decide +kernel
theorem dX11_read_11 : decode cX11_read 11 = .ok (.iload_n 1, 1) := by decide +kernel
theorem dX11_read_12 : decode cX11_read 12 = .ok (.bipush 102, 2) := by decide +kernel
theorem dX11_read_14 : decode cX11_read 14 = .ok (.if_icmp .le 13, 3) := by decide +kernel
theorem dX11_read_17 : decode cX11_read 17 = .ok (.aload_n 0, 1) := by decide +kernel
theorem dX11_read_18 : decode cX11_read 18 = .ok (.aload_n 0, 1) := by decide +kernel
theorem dX11_read_19 : decode cX11_read 19 = .ok (.getfield 92, 3) := by decide +kernel
theorem dX11_read_22 : decode cX11_read 22 = .ok (.invokevirtual 107, 3) := by decide +kernel
theorem dX11_read_25 : decode cX11_read 25 = .ok (.iconst 0, 1) := by decide +kernel
theorem dX11_read_26 : decode cX11_read 26 = .ok (.ireturn, 1) := by decide +kernel
theorem dX11_read_27 : decode cX11_read 27 = .ok (.aload_n 0, 1) := by decide +kernel
theorem dX11_read_28 : decode cX11_read 28 = .ok (.dup, 1) := by decide +kernel
theorem dX11_read_29 : decode cX11_read 29 = .ok (.getfield 92, 3) := by decide +kernel
theorem dX11_read_32 : decode cX11_read 32 = .ok (.iconst 1, 1) := by decide +kernel
theorem dX11_read_33 : decode cX11_read 33 = .ok (.iadd, 1) := by decide +kernel
theorem dX11_read_34 : decode cX11_read 34 = .ok (.putfield 92, 3) := by decide +kernel
theorem dX11_read_37 : decode cX11_read 37 = .ok (.aload_n 0, 1) := by decide +kernel
theorem dX11_read_38 : decode cX11_read 38 = .ok (.bipush 40, 2) := by decide +kernel
theorem dX11_read_40 : decode cX11_read 40 = .ok (.invokevirtual 148, 3) := by decide +kernel
theorem dX11_read_43 : decode cX11_read 43 = .ok (.aload_n 0, 1) := by decide +kernel
theorem dX11_read_44 : decode cX11_read 44 = .ok (.getfield 21, 3) := by decide +kernel
theorem dX11_read_47 : decode cX11_read 47 = .ok (.bipush 36, 2) := by decide +kernel
theorem dX11_read_49 : decode cX11_read 49 = .ok (.iconst 0, 1) := by decide +kernel
theorem dX11_read_50 : decode cX11_read 50 = .ok (.iastore, 1) := by decide +kernel
theorem dX11_read_51 : decode cX11_read 51 = .ok (.aload_n 0, 1) := by decide +kernel
theorem dX11_read_52 : decode cX11_read 52 = .ok (.getfield 95, 3) := by decide +kernel
theorem dX11_read_55 : decode cX11_read 55 = .ok (.ifCond .ne 16, 3) := by decide +kernel
theorem dX11_read_58 : decode cX11_read 58 = .ok (.aload_n 0, 1) := by decide +kernel
theorem dX11_read_59 : decode cX11_read 59 = .ok (.invokevirtual 99, 3) := by decide +kernel
theorem dX11_read_62 : decode cX11_read 62 = .ok (.bipush 41, 2) := by decide +kernel
theorem dX11_read_64 : decode cX11_read 64 = .ok (.if_icmp .eq 7, 3) := by decide +kernel
theorem dX11_read_67 : decode cX11_read 67 = .ok (.iconst 1, 1) := by decide +kernel
theorem dX11_read_68 : decode cX11_read 68 = .ok (.goto 4, 3) := by decide +kernel
theorem dX11_read_71 : decode cX11_read 71 = .ok (.iconst 0, 1) := by decide +kernel
theorem dX11_read_72 : decode cX11_read 72 = .ok (.istore_n 2, 1) := by decide +kernel
theorem dX11_read_73 : decode cX11_read 73 = .ok (.iload_n 2, 1) := by decide +kernel
theorem dX11_read_74 : decode cX11_read 74 = .ok (.ifCond .eq 147, 3) := by decide +kernel
theorem dX11_read_77 : decode cX11_read 77 = .ok (.sipush 180, 3) := by decide +kernel
theorem dX11_read_80 : decode cX11_read 80 = .ok (.aload_n 0, 1) := by decide +kernel
theorem dX11_read_81 : decode cX11_read 81 = .ok (.getfield 21, 3) := by decide +kernel
theorem dX11_read_84 : decode cX11_read 84 = .ok (.bipush 36, 2) := by decide +kernel
theorem dX11_read_86 : decode cX11_read 86 = .ok (.iaload, 1) := by decide +kernel
theorem dX11_read_87 : decode cX11_read 87 = .ok (.iadd, 1) := by decide +kernel
theorem dX11_read_88 : decode cX11_read 88 = .ok (.istore_n 3, 1) := by decide +kernel
theorem dX11_read_89 : decode cX11_read 89 = .ok (.aload_n 0, 1) := by decide +kernel
theorem dX11_read_90 : decode cX11_read 90 = .ok (.getfield 21, 3) := by decide +kernel
theorem dX11_read_93 : decode cX11_read 93 = .ok (.bipush 36, 2) := by decide +kernel
theorem dX11_read_95 : decode cX11_read 95 = .ok (.iaload, 1) := by decide +kernel
theorem dX11_read_96 : decode cX11_read 96 = .ok (.ifCond .le 18, 3) := by decide +kernel
theorem dX11_read_99 : decode cX11_read 99 = .ok (.aload_n 0, 1) := by decide +kernel
theorem dX11_read_100 : decode cX11_read 100 = .ok (.getfield 24, 3) := by decide +kernel
theorem dX11_read_103 : decode cX11_read 103 = .ok (.iload_n 3, 1) := by decide +kernel
theorem dX11_read_104 : decode cX11_read 104 = .ok (.iconst 1, 1) := by decide +kernel
theorem dX11_read_105 : decode cX11_read 105 = .ok (.isub, 1) := by decide +kernel
theorem dX11_read_106 : decode cX11_read 106 = .ok (.baload, 1) := by decide +kernel
theorem dX11_read_107 : decode cX11_read 107 = .ok (.ifCond .eq 7, 3) := by decide +kernel
theorem dX11_read_110 : decode cX11_read 110 = .ok (.iconst 1, 1) := by decide +kernel
theorem dX11_read_111 : decode cX11_read 111 = .ok (.goto 4, 3) := by decide +kernel
theorem dX11_read_114 : decode cX11_read 114 = .ok (.iconst 0, 1) := by decide +kernel
theorem dX11_read_115 : decode cX11_read 115 = .ok (.istore 4, 2) := by decide +kernel
theorem dX11_read_117 : decode cX11_read 117 = .ok (.aload_n 0, 1) := by decide +kernel
theorem dX11_read_118 : decode cX11_read 118 = .ok (.iload_n 3, 1) := by decide +kernel
theorem dX11_read_119 : decode cX11_read 119 = .ok (.invokevirtual 174, 3) := by decide +kernel
theorem dX11_read_122 : decode cX11_read 122 = .ok (.aload_n 0, 1) := by decide +kernel
theorem dX11_read_123 : decode cX11_read 123 = .ok (.getfield 95, 3) := by decide +kernel
theorem dX11_read_126 : decode cX11_read 126 = .ok (.ifCond .ne 39, 3) := by decide +kernel
theorem dX11_read_129 : decode cX11_read 129 = .ok (.iload 4, 2) := by decide +kernel
theorem dX11_read_131 : decode cX11_read 131 = .ok (.ifCond .eq 34, 3) := by decide +kernel
theorem dX11_read_134 : decode cX11_read 134 = .ok (.aload_n 0, 1) := by decide +kernel
theorem dX11_read_135 : decode cX11_read 135 = .ok (.getfield 24, 3) := by decide +kernel
theorem dX11_read_138 : decode cX11_read 138 = .ok (.iload_n 3, 1) := by decide +kernel
theorem dX11_read_139 : decode cX11_read 139 = .ok (.baload, 1) := by decide +kernel
theorem dX11_read_140 : decode cX11_read 140 = .ok (.ifCond .ne 25, 3) := by decide +kernel
theorem dX11_read_143 : decode cX11_read 143 = .ok (.aload_n 0, 1) := by decide +kernel
theorem dX11_read_144 : decode cX11_read 144 = .ok (.getfield 28, 3) := by decide +kernel
theorem dX11_read_147 : decode cX11_read 147 = .ok (.iload_n 3, 1) := by decide +kernel
theorem dX11_read_148 : decode cX11_read 148 = .ok (.baload, 1) := by decide +kernel
