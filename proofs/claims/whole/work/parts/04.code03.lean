theorem dX7_codeOf_22 : decode cX7_codeOf 22 = .ok (.iinc 3 1, 3) := by decide +kernel
theorem dX7_codeOf_25 : decode cX7_codeOf 25 = .ok (.goto (-21), 3) := by decide +kernel
theorem dX7_codeOf_28 : decode cX7_codeOf 28 = .ok (.lload_n 1, 1) := by decide +kernel
theorem dX7_codeOf_29 : decode cX7_codeOf 29 = .ok (.lreturn, 1) := by decide +kernel
set_option maxRecDepth 20000 in
theorem ggX8_init_X7_init : GoodIn wsX8_init wsX7_init := goodIn_r _ [16, 17, 2, 3, 18, 19, 20, 21, 22, 23, 24, 32, 33] rfl (by decide +kernel)
set_option maxRecDepth 20000 in
theorem gX8_init_X7_init : GoodIn wsX8_init (wsX7_init) := ggX8_init_X7_init
theorem dX8_init_0 : decode cX8_init 0 = .ok (.aload_n 0, 1) := by decide +kernel
theorem dX8_init_1 : decode cX8_init 1 = .ok (.invokespecial 3, 3) := by decide +kernel
theorem dX8_init_4 : decode cX8_init 4 = .ok (.aload_n 0, 1) := by decide +kernel
theorem dX8_init_5 : decode cX8_init 5 = .ok (.bipush 7, 2) := by decide +kernel
theorem dX8_init_7 : decode cX8_init 7 = .ok (.putfield 9, 3) := by decide +kernel
theorem dX8_init_10 : decode cX8_init 10 = .ok (.aload_n 0, 1) := by decide +kernel
theorem dX8_init_11 : decode cX8_init 11 = .ok (.lconst 0, 1) := by decide +kernel
theorem dX8_init_12 : decode cX8_init 12 = .ok (.putfield 15, 3) := by decide +kernel
theorem dX8_init_15 : decode cX8_init 15 = .ok (.aload_n 0, 1) := by decide +kernel
theorem dX8_init_16 : decode cX8_init 16 = .ok (.dconst 0, 1) := by decide +kernel
theorem dX8_init_17 : decode cX8_init 17 = .ok (.putfield 19, 3) := by decide +kernel
theorem dX8_init_20 : decode cX8_init 20 = .ok (.aload_n 0, 1) := by decide +kernel
theorem dX8_init_21 : decode cX8_init 21 = .ok (.iconst 0, 1) := by decide +kernel
theorem dX8_init_22 : decode cX8_init 22 = .ok (.putfield 23, 3) := by decide +kernel
theorem dX8_init_25 : decode cX8_init 25 = .ok (.aload_n 0, 1) := by decide +kernel
theorem dX8_init_26 : decode cX8_init 26 = .ok (.iconst 0, 1) := by decide +kernel
theorem dX8_init_27 : decode cX8_init 27 = .ok (.putfield 27, 3) := by decide +kernel
theorem dX8_init_30 : decode cX8_init 30 = .ok (.aload_n 0, 1) := by decide +kernel
theorem dX8_init_31 : decode cX8_init 31 = .ok (.new 30, 3) := by decide +kernel
theorem dX8_init_34 : decode cX8_init 34 = .ok (.dup, 1) := by decide +kernel
theorem dX8_init_35 : decode cX8_init 35 = .ok (.iload_n 1, 1) := by decide +kernel
theorem dX8_init_36 : decode cX8_init 36 = .ok (.invokespecial 32, 3) := by decide +kernel
theorem dX8_init_39 : decode cX8_init 39 = .ok (.putfield 35, 3) := by decide +kernel
theorem dX8_init_42 : decode cX8_init 42 = .ok (.aload_n 0, 1) := by decide +kernel
theorem dX8_init_43 : decode cX8_init 43 = .ok (.aload_n 2, 1) := by decide +kernel
theorem dX8_init_44 : decode cX8_init 44 = .ok (.putfield 39, 3) := by decide +kernel
theorem dX8_init_47 : decode cX8_init 47 = .ok (.return_, 1) := by decide +kernel
set_option maxRecDepth 20000 in
theorem ggX8_withItems_X8_init : GoodIn wsX8_withItems wsX8_init := goodIn_r _ [6, 7, 8, 9, 10, 11, 12, 13, 14, 15, 16, 17, 18, 19, 20, 21, 22, 23, 24, 25, 26, 27, 28, 29, 30, 97, 98, 99, 100, 101, 102, 103, 104, 105] rfl (by decide +kernel)
set_option maxRecDepth 20000 in
theorem gX8_withItems_X8_init : GoodIn wsX8_withItems (wsX8_init) := ggX8_withItems_X8_init
set_option maxRecDepth 20000 in
theorem ggX8_withItems_X8_becomeNamed : GoodIn wsX8_withItems wsX8_becomeNamed := goodIn_r _ [34, 18, 35, 36, 37, 3, 38, 10, 11, 12, 13, 14, 39, 40, 41, 42, 17, 43, 44, 45, 46, 47, 48, 49, 50, 51, 52, 53, 54, 55, 56, 57, 58, 59, 60, 61, 62, 63, 64, 65, 66, 67, 68, 69, 70, 71, 72, 73, 74, 75, 76, 77, 78, 79, 80, 81, 82, 83, 84, 85, 86, 87, 88, 89, 90, 91, 92, 93, 94, 95, 96, 24, 30, 97, 98, 99, 100, 101, 102, 103, 104, 105] rfl (by decide +kernel)
set_option maxRecDepth 20000 in
theorem gX8_withItems_X8_becomeNamed : GoodIn wsX8_withItems (wsV RX8 48 RX8 yX8_becomeNamed wsX8_becomeNamed) := goodIn_app (goodIn_of _ (by decide +kernel)) ggX8_withItems_X8_becomeNamed
theorem dX8_withItems_0 : decode cX8_withItems 0 = .ok (.iconst 0, 1) := by decide +kernel
theorem dX8_withItems_1 : decode cX8_withItems 1 = .ok (.anewarray 10, 3) := by decide +kernel
theorem dX8_withItems_4 : decode cX8_withItems 4 = .ok (.astore_n 0, 1) := by decide +kernel
theorem dX8_withItems_5 : decode cX8_withItems 5 = .ok (.iconst 5, 1) := by decide +kernel
theorem dX8_withItems_6 : decode cX8_withItems 6 = .ok (.anewarray 10, 3) := by decide +kernel
theorem dX8_withItems_9 : decode cX8_withItems 9 = .ok (.astore_n 1, 1) := by decide +kernel
theorem dX8_withItems_10 : decode cX8_withItems 10 = .ok (.iconst 0, 1) := by decide +kernel
theorem dX8_withItems_11 : decode cX8_withItems 11 = .ok (.istore_n 2, 1) := by decide +kernel
theorem dX8_withItems_12 : decode cX8_withItems 12 = .ok (.iload_n 2, 1) := by decide +kernel
theorem dX8_withItems_13 : decode cX8_withItems 13 = .ok (.aload_n 1, 1) := by decide +kernel
theorem dX8_withItems_14 : decode cX8_withItems 14 = .ok (.arraylength, 1) := by decide +kernel
theorem dX8_withItems_15 : decode cX8_withItems 15 = .ok (.if_icmp .ge 22, 3) := by decide +kernel
theorem dX8_withItems_18 : decode cX8_withItems 18 = .ok (.aload_n 1, 1) := by decide +kernel
theorem dX8_withItems_19 : decode cX8_withItems 19 = .ok (.iload_n 2, 1) := by decide +kernel
theorem dX8_withItems_20 : decode cX8_withItems 20 = .ok (.new 10, 3) := by decide +kernel
theorem dX8_withItems_23 : decode cX8_withItems 23 = .ok (.dup, 1) := by decide +kernel
theorem dX8_withItems_24 : decode cX8_withItems 24 = .ok (.bipush 16, 2) := by decide +kernel
theorem dX8_withItems_26 : decode cX8_withItems 26 = .ok (.aload_n 0, 1) := by decide +kernel
theorem dX8_withItems_27 : decode cX8_withItems 27 = .ok (.invokespecial 43, 3) := by decide +kernel
theorem dX8_withItems_30 : decode cX8_withItems 30 = .ok (.aastore, 1) := by decide +kernel
theorem dX8_withItems_31 : decode cX8_withItems 31 = .ok (.iinc 2 1, 3) := by decide +kernel
theorem dX8_withItems_34 : decode cX8_withItems 34 = .ok (.goto (-22), 3) := by decide +kernel
theorem dX8_withItems_37 : decode cX8_withItems 37 = .ok (.new 10, 3) := by decide +kernel
theorem dX8_withItems_40 : decode cX8_withItems 40 = .ok (.dup, 1) := by decide +kernel
theorem dX8_withItems_41 : decode cX8_withItems 41 = .ok (.bipush 84, 2) := by decide +kernel
theorem dX8_withItems_43 : decode cX8_withItems 43 = .ok (.aload_n 1, 1) := by decide +kernel
theorem dX8_withItems_44 : decode cX8_withItems 44 = .ok (.invokespecial 43, 3) := by decide +kernel
theorem dX8_withItems_47 : decode cX8_withItems 47 = .ok (.astore_n 2, 1) := by decide +kernel
theorem dX8_withItems_48 : decode cX8_withItems 48 = .ok (.aload_n 2, 1) := by decide +kernel
theorem dX8_withItems_49 : decode cX8_withItems 49 = .ok (.bipush 7, 2) := by decide +kernel
theorem dX8_withItems_51 : decode cX8_withItems 51 = .ok (.ldc 46, 2) := by decide +kernel
theorem dX8_withItems_53 : decode cX8_withItems 53 = .ok (.invokevirtual 48, 3) := by decide +kernel
theorem dX8_withItems_56 : decode cX8_withItems 56 = .ok (.aload_n 2, 1) := by decide +kernel
theorem dX8_withItems_57 : decode cX8_withItems 57 = .ok (.areturn, 1) := by decide +kernel
set_option maxRecDepth 20000 in
theorem ggX8_itemAt_X10_thingAt : GoodIn wsX8_itemAt wsX10_thingAt := goodIn_r _ [5] rfl (by decide +kernel)
set_option maxRecDepth 20000 in
theorem gX8_itemAt_X10_thingAt_n52 : GoodIn wsX8_itemAt (wsX10_thingAt) := ggX8_itemAt_X10_thingAt
theorem dX8_itemAt_0 : decode cX8_itemAt 0 = .ok (.iload_n 1, 1) := by decide +kernel
theorem dX8_itemAt_1 : decode cX8_itemAt 1 = .ok (.aload_n 0, 1) := by decide +kernel
theorem dX8_itemAt_2 : decode cX8_itemAt 2 = .ok (.getfield 27, 3) := by decide +kernel
theorem dX8_itemAt_5 : decode cX8_itemAt 5 = .ok (.if_icmp .ge 14, 3) := by decide +kernel
theorem dX8_itemAt_8 : decode cX8_itemAt 8 = .ok (.aload_n 0, 1) := by decide +kernel
theorem dX8_itemAt_9 : decode cX8_itemAt 9 = .ok (.getfield 39, 3) := by decide +kernel
theorem dX8_itemAt_12 : decode cX8_itemAt 12 = .ok (.iload_n 1, 1) := by decide +kernel
theorem dX8_itemAt_13 : decode cX8_itemAt 13 = .ok (.invokestatic 52, 3) := by decide +kernel
theorem dX8_itemAt_16 : decode cX8_itemAt 16 = .ok (.goto 4, 3) := by decide +kernel
theorem dX8_itemAt_19 : decode cX8_itemAt 19 = .ok (.aconst_null, 1) := by decide +kernel
theorem dX8_itemAt_20 : decode cX8_itemAt 20 = .ok (.areturn, 1) := by decide +kernel
set_option maxRecDepth 20000 in
theorem ggX8_nextItem_X10_thingAt : GoodIn wsX8_nextItem wsX10_thingAt := goodIn_r _ [5] rfl (by decide +kernel)
set_option maxRecDepth 20000 in
theorem gX8_nextItem_X10_thingAt_n52 : GoodIn wsX8_nextItem (wsX10_thingAt) := ggX8_nextItem_X10_thingAt
theorem dX8_nextItem_0 : decode cX8_nextItem 0 = .ok (.aload_n 0, 1) := by decide +kernel
theorem dX8_nextItem_1 : decode cX8_nextItem 1 = .ok (.getfield 39, 3) := by decide +kernel
theorem dX8_nextItem_4 : decode cX8_nextItem 4 = .ok (.aload_n 0, 1) := by decide +kernel
theorem dX8_nextItem_5 : decode cX8_nextItem 5 = .ok (.getfield 27, 3) := by decide +kernel
theorem dX8_nextItem_8 : decode cX8_nextItem 8 = .ok (.invokestatic 52, 3) := by decide +kernel
theorem dX8_nextItem_11 : decode cX8_nextItem 11 = .ok (.astore_n 1, 1) := by decide +kernel
theorem dX8_nextItem_12 : decode cX8_nextItem 12 = .ok (.aload_n 1, 1) := by decide +kernel
theorem dX8_nextItem_13 : decode cX8_nextItem 13 = .ok (.ifnull 13, 3) := by decide +kernel
theorem dX8_nextItem_16 : decode cX8_nextItem 16 = .ok (.aload_n 0, 1) := by decide +kernel
theorem dX8_nextItem_17 : decode cX8_nextItem 17 = .ok (.dup, 1) := by decide +kernel
theorem dX8_nextItem_18 : decode cX8_nextItem 18 = .ok (.getfield 27, 3) := by decide +kernel
theorem dX8_nextItem_21 : decode cX8_nextItem 21 = .ok (.iconst 1, 1) := by decide +kernel
theorem dX8_nextItem_22 : decode cX8_nextItem 22 = .ok (.iadd, 1) := by decide +kernel
theorem dX8_nextItem_23 : decode cX8_nextItem 23 = .ok (.putfield 27, 3) := by decide +kernel
theorem dX8_nextItem_26 : decode cX8_nextItem 26 = .ok (.aload_n 1, 1) := by decide +kernel
theorem dX8_nextItem_27 : decode cX8_nextItem 27 = .ok (.areturn, 1) := by decide +kernel
set_option maxRecDepth 20000 in
theorem ggX8_appendItem_X8_nextItem : GoodIn wsX8_appendItem wsX8_nextItem := goodIn_r _ [8, 9, 1, 10, 11, 12, 48, 49, 50, 51, 52, 53, 54] rfl (by decide +kernel)
set_option maxRecDepth 20000 in
theorem gX8_appendItem_X8_nextItem : GoodIn wsX8_appendItem (wsV RX8 56 RX8 yX8_nextItem wsX8_nextItem) := goodIn_app (goodIn_of _ (by decide +kernel)) ggX8_appendItem_X8_nextItem
set_option maxRecDepth 20000 in
theorem ggX8_appendItem_X8_copyPlain : GoodIn wsX8_appendItem wsX8_copyPlain := goodIn_r _ [16, 17, 18, 19, 20, 2, 21, 22, 23, 7, 24, 1, 3, 25, 26, 27, 28, 29, 30, 31, 32, 33, 34, 35, 48, 49, 50, 51, 52, 53, 54, 55, 56] rfl (by decide +kernel)
set_option maxRecDepth 20000 in
theorem gX8_appendItem_X8_copyPlain : GoodIn wsX8_appendItem (wsV RX8 60 RX8 yX8_copyPlain wsX8_copyPlain) := goodIn_app (goodIn_of _ (by decide +kernel)) ggX8_appendItem_X8_copyPlain
set_option maxRecDepth 20000 in
theorem ggX8_appendItem_X7_append : GoodIn wsX8_appendItem wsX7_append := goodIn_r _ [39, 34, 35, 55, 56] rfl (by decide +kernel)
set_option maxRecDepth 20000 in
theorem gX8_appendItem_X7_append : GoodIn wsX8_appendItem (wsV RX8 64 RX7 yX7_append wsX7_append) := goodIn_app (goodIn_of _ (by decide +kernel)) ggX8_appendItem_X7_append
set_option maxRecDepth 20000 in
theorem ggX8_appendItem_X8_isUndefinedOrNull : GoodIn wsX8_appendItem wsX8_isUndefinedOrNull := goodIn_r _ [43, 17, 48, 49, 50, 51, 52, 53, 54] rfl (by decide +kernel)
set_option maxRecDepth 20000 in
theorem gX8_appendItem_X8_isUndefinedOrNull : GoodIn wsX8_appendItem (wsV RX8 71 RX8 yX8_isUndefinedOrNull wsX8_isUndefinedOrNull) := goodIn_app (goodIn_of _ (by decide +kernel)) ggX8_appendItem_X8_isUndefinedOrNull
set_option maxRecDepth 20000 in
theorem ggX8_appendItem_X7_at : GoodIn wsX8_appendItem wsX7_at := goodIn_r _ [47, 34, 35, 55, 56] rfl (by decide +kernel)
set_option maxRecDepth 20000 in
theorem gX8_appendItem_X7_at : GoodIn wsX8_appendItem (wsV RX8 75 RX7 yX7_at wsX7_at) := goodIn_app (goodIn_of _ (by decide +kernel)) ggX8_appendItem_X7_at
theorem dX8_appendItem_0 : decode cX8_appendItem 0 = .ok (.aload_n 0, 1) := by decide +kernel
theorem dX8_appendItem_1 : decode cX8_appendItem 1 = .ok (.invokevirtual 56, 3) := by decide +kernel
theorem dX8_appendItem_4 : decode cX8_appendItem 4 = .ok (.astore_n 2, 1) := by decide +kernel
theorem dX8_appendItem_5 : decode cX8_appendItem 5 = .ok (.aload_n 2, 1) := by decide +kernel
theorem dX8_appendItem_6 : decode cX8_appendItem 6 = .ok (.ifnonnull 4, 3) := by decide +kernel
theorem dX8_appendItem_9 : decode cX8_appendItem 9 = .ok (.return_, 1) := by decide +kernel
theorem dX8_appendItem_10 : decode cX8_appendItem 10 = .ok (.aload_n 2, 1) := by decide +kernel
theorem dX8_appendItem_11 : decode cX8_appendItem 11 = .ok (.aload_n 1, 1) := by decide +kernel
theorem dX8_appendItem_12 : decode cX8_appendItem 12 = .ok (.invokevirtual 60, 3) := by decide +kernel
theorem dX8_appendItem_15 : decode cX8_appendItem 15 = .ok (.aload_n 0, 1) := by decide +kernel
theorem dX8_appendItem_16 : decode cX8_appendItem 16 = .ok (.getfield 27, 3) := by decide +kernel
theorem dX8_appendItem_19 : decode cX8_appendItem 19 = .ok (.iconst 1, 1) := by decide +kernel
theorem dX8_appendItem_20 : decode cX8_appendItem 20 = .ok (.if_icmp .le 12, 3) := by decide +kernel
theorem dX8_appendItem_23 : decode cX8_appendItem 23 = .ok (.aload_n 0, 1) := by decide +kernel
theorem dX8_appendItem_24 : decode cX8_appendItem 24 = .ok (.getfield 35, 3) := by decide +kernel
theorem dX8_appendItem_27 : decode cX8_appendItem 27 = .ok (.bipush 44, 2) := by decide +kernel
theorem dX8_appendItem_29 : decode cX8_appendItem 29 = .ok (.invokevirtual 64, 3) := by decide +kernel
theorem dX8_appendItem_32 : decode cX8_appendItem 32 = .ok (.iconst 0, 1) := by decide +kernel
theorem dX8_appendItem_33 : decode cX8_appendItem 33 = .ok (.istore_n 3, 1) := by decide +kernel
theorem dX8_appendItem_34 : decode cX8_appendItem 34 = .ok (.iload_n 3, 1) := by decide +kernel
theorem dX8_appendItem_35 : decode cX8_appendItem 35 = .ok (.aload_n 1, 1) := by decide +kernel
theorem dX8_appendItem_36 : decode cX8_appendItem 36 = .ok (.getfield 35, 3) := by decide +kernel
theorem dX8_appendItem_39 : decode cX8_appendItem 39 = .ok (.getfield 68, 3) := by decide +kernel
theorem dX8_appendItem_42 : decode cX8_appendItem 42 = .ok (.if_icmp .ge 31, 3) := by decide +kernel
theorem dX8_appendItem_45 : decode cX8_appendItem 45 = .ok (.aload_n 1, 1) := by decide +kernel
theorem dX8_appendItem_46 : decode cX8_appendItem 46 = .ok (.invokevirtual 71, 3) := by decide +kernel
theorem dX8_appendItem_49 : decode cX8_appendItem 49 = .ok (.ifCond .ne 24, 3) := by decide +kernel
theorem dX8_appendItem_52 : decode cX8_appendItem 52 = .ok (.aload_n 0, 1) := by decide +kernel
theorem dX8_appendItem_53 : decode cX8_appendItem 53 = .ok (.getfield 35, 3) := by decide +kernel
theorem dX8_appendItem_56 : decode cX8_appendItem 56 = .ok (.aload_n 1, 1) := by decide +kernel
theorem dX8_appendItem_57 : decode cX8_appendItem 57 = .ok (.getfield 35, 3) := by decide +kernel
theorem dX8_appendItem_60 : decode cX8_appendItem 60 = .ok (.iload_n 3, 1) := by decide +kernel
theorem dX8_appendItem_61 : decode cX8_appendItem 61 = .ok (.invokevirtual 75, 3) := by decide +kernel
theorem dX8_appendItem_64 : decode cX8_appendItem 64 = .ok (.invokevirtual 64, 3) := by decide +kernel
theorem dX8_appendItem_67 : decode cX8_appendItem 67 = .ok (.iinc 3 1, 3) := by decide +kernel
theorem dX8_appendItem_70 : decode cX8_appendItem 70 = .ok (.goto (-36), 3) := by decide +kernel
theorem dX8_appendItem_73 : decode cX8_appendItem 73 = .ok (.return_, 1) := by decide +kernel
theorem dX8_become_0 : decode cX8_become 0 = .ok (.aload_n 0, 1) := by decide +kernel
theorem dX8_become_1 : decode cX8_become 1 = .ok (.iload_n 1, 1) := by decide +kernel
theorem dX8_become_2 : decode cX8_become 2 = .ok (.putfield 9, 3) := by decide +kernel
theorem dX8_become_5 : decode cX8_become 5 = .ok (.aload_n 0, 1) := by decide +kernel
theorem dX8_become_6 : decode cX8_become 6 = .ok (.lconst 0, 1) := by decide +kernel
theorem dX8_become_7 : decode cX8_become 7 = .ok (.putfield 15, 3) := by decide +kernel
theorem dX8_become_10 : decode cX8_become 10 = .ok (.aload_n 0, 1) := by decide +kernel
theorem dX8_become_11 : decode cX8_become 11 = .ok (.dconst 0, 1) := by decide +kernel
theorem dX8_become_12 : decode cX8_become 12 = .ok (.putfield 19, 3) := by decide +kernel
theorem dX8_become_15 : decode cX8_become 15 = .ok (.aload_n 0, 1) := by decide +kernel
theorem dX8_become_16 : decode cX8_become 16 = .ok (.iconst 0, 1) := by decide +kernel
theorem dX8_become_17 : decode cX8_become 17 = .ok (.putfield 23, 3) := by decide +kernel
theorem dX8_become_20 : decode cX8_become 20 = .ok (.aload_n 0, 1) := by decide +kernel
theorem dX8_become_21 : decode cX8_become 21 = .ok (.iconst 0, 1) := by decide +kernel
theorem dX8_become_22 : decode cX8_become 22 = .ok (.putfield 27, 3) := by decide +kernel
theorem dX8_become_25 : decode cX8_become 25 = .ok (.aload_n 0, 1) := by decide +kernel
theorem dX8_become_26 : decode cX8_become 26 = .ok (.getfield 35, 3) := by decide +kernel
theorem dX8_become_29 : decode cX8_become 29 = .ok (.iconst 0, 1) := by decide +kernel
theorem dX8_become_30 : decode cX8_become 30 = .ok (.putfield 68, 3) := by decide +kernel
theorem dX8_become_33 : decode cX8_become 33 = .ok (.return_, 1) := by decide +kernel
theorem dX8_knowNumber_0 : decode cX8_knowNumber 0 = .ok (.aload_n 0, 1) := by decide +kernel
theorem dX8_knowNumber_1 : decode cX8_knowNumber 1 = .ok (.iload_n 1, 1) := by decide +kernel
theorem dX8_knowNumber_2 : decode cX8_knowNumber 2 = .ok (.putfield 23, 3) := by decide +kernel
theorem dX8_knowNumber_5 : decode cX8_knowNumber 5 = .ok (.aload_n 0, 1) := by decide +kernel
theorem dX8_knowNumber_6 : decode cX8_knowNumber 6 = .ok (.dload_n 2, 1) := by decide +kernel
theorem dX8_knowNumber_7 : decode cX8_knowNumber 7 = .ok (.putfield 19, 3) := by decide +kernel
theorem dX8_knowNumber_10 : decode cX8_knowNumber 10 = .ok (.return_, 1) := by decide +kernel
set_option maxRecDepth 20000 in
theorem ggX8_becomeNamed_X8_become : GoodIn wsX8_becomeNamed wsX8_become := goodIn_r _ [6, 7, 8, 9, 10, 11, 1, 12, 73, 74, 75, 76, 77, 78, 79, 80, 81] rfl (by decide +kernel)
set_option maxRecDepth 20000 in
theorem gX8_becomeNamed_X8_become : GoodIn wsX8_becomeNamed (wsV RX8 79 RX8 yX8_become wsX8_become) := goodIn_app (goodIn_of _ (by decide +kernel)) ggX8_becomeNamed_X8_become
set_option maxRecDepth 20000 in
theorem ggX8_becomeNamed_X7_appendLetters : GoodIn wsX8_becomeNamed wsX7_appendLetters := goodIn_r _ [17, 18, 19, 20, 21, 22, 23, 24, 25, 26, 27, 28, 29, 30, 31, 32, 33, 34, 35, 36, 37, 38, 39, 40, 41, 42, 43, 44, 45, 46, 47, 48, 49, 50, 51, 52, 53, 54, 55, 56, 57, 58, 59, 60, 61, 62, 63, 64, 65, 66, 67, 68, 69, 16, 70, 71, 72, 80, 81] rfl (by decide +kernel)
set_option maxRecDepth 20000 in
theorem gX8_becomeNamed_X7_appendLetters : GoodIn wsX8_becomeNamed (wsV RX8 82 RX7 yX7_appendLetters wsX7_appendLetters) := goodIn_app (goodIn_of _ (by decide +kernel)) ggX8_becomeNamed_X7_appendLetters
theorem dX8_becomeNamed_0 : decode cX8_becomeNamed 0 = .ok (.aload_n 0, 1) := by decide +kernel
theorem dX8_becomeNamed_1 : decode cX8_becomeNamed 1 = .ok (.iload_n 1, 1) := by decide +kernel
theorem dX8_becomeNamed_2 : decode cX8_becomeNamed 2 = .ok (.invokevirtual 79, 3) := by decide +kernel
theorem dX8_becomeNamed_5 : decode cX8_becomeNamed 5 = .ok (.aload_n 0, 1) := by decide +kernel
theorem dX8_becomeNamed_6 : decode cX8_becomeNamed 6 = .ok (.getfield 35, 3) := by decide +kernel
theorem dX8_becomeNamed_9 : decode cX8_becomeNamed 9 = .ok (.aload_n 2, 1) := by decide +kernel
theorem dX8_becomeNamed_10 : decode cX8_becomeNamed 10 = .ok (.invokevirtual 82, 3) := by decide +kernel
theorem dX8_becomeNamed_13 : decode cX8_becomeNamed 13 = .ok (.return_, 1) := by decide +kernel
set_option maxRecDepth 20000 in
theorem ggX8_becomeWhole_X8_become : GoodIn wsX8_becomeWhole wsX8_become := goodIn_r _ [6, 7, 1, 8, 9, 10, 11, 12, 13, 14, 15, 16, 17, 18, 19, 20, 21] rfl (by decide +kernel)
set_option maxRecDepth 20000 in
theorem gX8_becomeWhole_X8_become : GoodIn wsX8_becomeWhole (wsV RX8 79 RX8 yX8_become wsX8_become) := goodIn_app (goodIn_of _ (by decide +kernel)) ggX8_becomeWhole_X8_become
theorem dX8_becomeWhole_0 : decode cX8_becomeWhole 0 = .ok (.aload_n 0, 1) := by decide +kernel
theorem dX8_becomeWhole_1 : decode cX8_becomeWhole 1 = .ok (.iload_n 1, 1) := by decide +kernel
theorem dX8_becomeWhole_2 : decode cX8_becomeWhole 2 = .ok (.invokevirtual 79, 3) := by decide +kernel
theorem dX8_becomeWhole_5 : decode cX8_becomeWhole 5 = .ok (.aload_n 0, 1) := by decide +kernel
theorem dX8_becomeWhole_6 : decode cX8_becomeWhole 6 = .ok (.lload_n 2, 1) := by decide +kernel
theorem dX8_becomeWhole_7 : decode cX8_becomeWhole 7 = .ok (.putfield 15, 3) := by decide +kernel
theorem dX8_becomeWhole_10 : decode cX8_becomeWhole 10 = .ok (.return_, 1) := by decide +kernel
set_option maxRecDepth 20000 in
theorem ggX8_becomeDouble_X8_become : GoodIn wsX8_becomeDouble wsX8_become := goodIn_r _ [5, 6, 7, 8, 9, 10, 11, 12, 17, 18, 19, 20, 21, 22, 23, 24, 25] rfl (by decide +kernel)
set_option maxRecDepth 20000 in
theorem gX8_becomeDouble_X8_become : GoodIn wsX8_becomeDouble (wsV RX8 79 RX8 yX8_become wsX8_become) := goodIn_app (goodIn_of _ (by decide +kernel)) ggX8_becomeDouble_X8_become
set_option maxRecDepth 20000 in
theorem ggX8_becomeDouble_X8_knowNumber : GoodIn wsX8_becomeDouble wsX8_knowNumber := goodIn_r _ [16, 9, 8, 17, 18, 19, 20, 21, 22, 23] rfl (by decide +kernel)
set_option maxRecDepth 20000 in
theorem gX8_becomeDouble_X8_knowNumber : GoodIn wsX8_becomeDouble (wsV RX8 86 RX8 yX8_knowNumber wsX8_knowNumber) := goodIn_app (goodIn_of _ (by decide +kernel)) ggX8_becomeDouble_X8_knowNumber
theorem dX8_becomeDouble_0 : decode cX8_becomeDouble 0 = .ok (.aload_n 0, 1) := by decide +kernel
theorem dX8_becomeDouble_1 : decode cX8_becomeDouble 1 = .ok (.iconst 4, 1) := by decide +kernel
theorem dX8_becomeDouble_2 : decode cX8_becomeDouble 2 = .ok (.invokevirtual 79, 3) := by decide +kernel
theorem dX8_becomeDouble_5 : decode cX8_becomeDouble 5 = .ok (.aload_n 0, 1) := by decide +kernel
theorem dX8_becomeDouble_6 : decode cX8_becomeDouble 6 = .ok (.iconst 1, 1) := by decide +kernel
theorem dX8_becomeDouble_7 : decode cX8_becomeDouble 7 = .ok (.dload_n 1, 1) := by decide +kernel
theorem dX8_becomeDouble_8 : decode cX8_becomeDouble 8 = .ok (.invokevirtual 86, 3) := by decide +kernel
theorem dX8_becomeDouble_11 : decode cX8_becomeDouble 11 = .ok (.return_, 1) := by decide +kernel
set_option maxRecDepth 20000 in
theorem ggX8_becomeText_X8_become : GoodIn wsX8_becomeText wsX8_become := goodIn_r _ [6, 7, 8, 9, 10, 11, 1, 12, 20, 21, 22, 23, 24, 25, 26, 27, 28] rfl (by decide +kernel)
set_option maxRecDepth 20000 in
theorem gX8_becomeText_X8_become : GoodIn wsX8_becomeText (wsV RX8 79 RX8 yX8_become wsX8_become) := goodIn_app (goodIn_of _ (by decide +kernel)) ggX8_becomeText_X8_become
set_option maxRecDepth 20000 in
theorem ggX8_becomeText_X7_copy : GoodIn wsX8_becomeText wsX7_copy := goodIn_r _ [17, 18, 19, 27, 28] rfl (by decide +kernel)
set_option maxRecDepth 20000 in
theorem gX8_becomeText_X7_copy : GoodIn wsX8_becomeText (wsV RX8 90 RX7 yX7_copy wsX7_copy) := goodIn_app (goodIn_of _ (by decide +kernel)) ggX8_becomeText_X7_copy
theorem dX8_becomeText_0 : decode cX8_becomeText 0 = .ok (.aload_n 0, 1) := by decide +kernel
theorem dX8_becomeText_1 : decode cX8_becomeText 1 = .ok (.iconst 5, 1) := by decide +kernel
theorem dX8_becomeText_2 : decode cX8_becomeText 2 = .ok (.invokevirtual 79, 3) := by decide +kernel
theorem dX8_becomeText_5 : decode cX8_becomeText 5 = .ok (.aload_n 0, 1) := by decide +kernel
theorem dX8_becomeText_6 : decode cX8_becomeText 6 = .ok (.getfield 35, 3) := by decide +kernel
theorem dX8_becomeText_9 : decode cX8_becomeText 9 = .ok (.aload_n 1, 1) := by decide +kernel
theorem dX8_becomeText_10 : decode cX8_becomeText 10 = .ok (.invokevirtual 90, 3) := by decide +kernel
theorem dX8_becomeText_13 : decode cX8_becomeText 13 = .ok (.return_, 1) := by decide +kernel
set_option maxRecDepth 20000 in
theorem ggX8_copyPlain_X8_become : GoodIn wsX8_copyPlain wsX8_become := goodIn_r _ [10, 1, 2, 4, 3, 11, 5, 12, 24, 25, 26, 27, 28, 29, 30, 31, 32] rfl (by decide +kernel)
set_option maxRecDepth 20000 in
theorem gX8_copyPlain_X8_become : GoodIn wsX8_copyPlain (wsV RX8 79 RX8 yX8_become wsX8_become) := goodIn_app (goodIn_of _ (by decide +kernel)) ggX8_copyPlain_X8_become
set_option maxRecDepth 20000 in
theorem ggX8_copyPlain_X8_knowNumber : GoodIn wsX8_copyPlain wsX8_knowNumber := goodIn_r _ [16, 3, 4, 24, 25, 26, 27, 28, 29, 30] rfl (by decide +kernel)
set_option maxRecDepth 20000 in
theorem gX8_copyPlain_X8_knowNumber : GoodIn wsX8_copyPlain (wsV RX8 86 RX8 yX8_knowNumber wsX8_knowNumber) := goodIn_app (goodIn_of _ (by decide +kernel)) ggX8_copyPlain_X8_knowNumber
set_option maxRecDepth 20000 in
theorem ggX8_copyPlain_X7_copy : GoodIn wsX8_copyPlain wsX7_copy := goodIn_r _ [21, 22, 23, 31, 32] rfl (by decide +kernel)
set_option maxRecDepth 20000 in
theorem gX8_copyPlain_X7_copy : GoodIn wsX8_copyPlain (wsV RX8 90 RX7 yX7_copy wsX7_copy) := goodIn_app (goodIn_of _ (by decide +kernel)) ggX8_copyPlain_X7_copy
theorem dX8_copyPlain_0 : decode cX8_copyPlain 0 = .ok (.aload_n 0, 1) := by decide +kernel
theorem dX8_copyPlain_1 : decode cX8_copyPlain 1 = .ok (.aload_n 1, 1) := by decide +kernel
theorem dX8_copyPlain_2 : decode cX8_copyPlain 2 = .ok (.getfield 9, 3) := by decide +kernel
theorem dX8_copyPlain_5 : decode cX8_copyPlain 5 = .ok (.invokevirtual 79, 3) := by decide +kernel
theorem dX8_copyPlain_8 : decode cX8_copyPlain 8 = .ok (.aload_n 0, 1) := by decide +kernel
theorem dX8_copyPlain_9 : decode cX8_copyPlain 9 = .ok (.aload_n 1, 1) := by decide +kernel
theorem dX8_copyPlain_10 : decode cX8_copyPlain 10 = .ok (.getfield 15, 3) := by decide +kernel
theorem dX8_copyPlain_13 : decode cX8_copyPlain 13 = .ok (.putfield 15, 3) := by decide +kernel
theorem dX8_copyPlain_16 : decode cX8_copyPlain 16 = .ok (.aload_n 0, 1) := by decide +kernel
theorem dX8_copyPlain_17 : decode cX8_copyPlain 17 = .ok (.aload_n 1, 1) := by decide +kernel
theorem dX8_copyPlain_18 : decode cX8_copyPlain 18 = .ok (.getfield 23, 3) := by decide +kernel
theorem dX8_copyPlain_21 : decode cX8_copyPlain 21 = .ok (.aload_n 1, 1) := by decide +kernel
theorem dX8_copyPlain_22 : decode cX8_copyPlain 22 = .ok (.getfield 19, 3) := by decide +kernel
theorem dX8_copyPlain_25 : decode cX8_copyPlain 25 = .ok (.invokevirtual 86, 3) := by decide +kernel
theorem dX8_copyPlain_28 : decode cX8_copyPlain 28 = .ok (.aload_n 0, 1) := by decide +kernel
theorem dX8_copyPlain_29 : decode cX8_copyPlain 29 = .ok (.getfield 35, 3) := by decide +kernel
theorem dX8_copyPlain_32 : decode cX8_copyPlain 32 = .ok (.aload_n 1, 1) := by decide +kernel
theorem dX8_copyPlain_33 : decode cX8_copyPlain 33 = .ok (.getfield 35, 3) := by decide +kernel
theorem dX8_copyPlain_36 : decode cX8_copyPlain 36 = .ok (.invokevirtual 90, 3) := by decide +kernel
theorem dX8_copyPlain_39 : decode cX8_copyPlain 39 = .ok (.return_, 1) := by decide +kernel
set_option maxRecDepth 20000 in
theorem ggX8_copyAll_X8_copyPlain : GoodIn wsX8_copyAll wsX8_copyPlain := goodIn_r _ [6, 7, 8, 9, 10, 11, 12, 13, 14, 5, 15, 1, 16, 17, 18, 19, 20, 21, 22, 23, 24, 25, 26, 27, 40, 41, 42, 43, 44, 45, 46, 47, 48] rfl (by decide +kernel)
set_option maxRecDepth 20000 in
theorem gX8_copyAll_X8_copyPlain : GoodIn wsX8_copyAll (wsV RX8 60 RX8 yX8_copyPlain wsX8_copyPlain) := goodIn_app (goodIn_of _ (by decide +kernel)) ggX8_copyAll_X8_copyPlain
set_option maxRecDepth 20000 in
theorem ggX8_copyAll_X8_itemAt : GoodIn wsX8_copyAll wsX8_itemAt := goodIn_r _ [31, 1, 32, 33, 34, 35, 40, 41, 42, 43, 44, 45, 46] rfl (by decide +kernel)
set_option maxRecDepth 20000 in
theorem gX8_copyAll_X8_itemAt : GoodIn wsX8_copyAll (wsV RX8 94 RX8 yX8_itemAt wsX8_itemAt) := goodIn_app (goodIn_of _ (by decide +kernel)) ggX8_copyAll_X8_itemAt
set_option maxRecDepth 20000 in
theorem ggX8_copyAll_X8_nextItem : GoodIn wsX8_copyAll wsX8_nextItem := goodIn_r _ [39, 32, 1, 33, 34, 35, 40, 41, 42, 43, 44, 45, 46] rfl (by decide +kernel)
set_option maxRecDepth 20000 in
theorem gX8_copyAll_X8_nextItem : GoodIn wsX8_copyAll (wsV RX8 56 RX8 yX8_nextItem wsX8_nextItem) := goodIn_app (goodIn_of _ (by decide +kernel)) ggX8_copyAll_X8_nextItem
theorem dX8_copyAll_0 : decode cX8_copyAll 0 = .ok (.aload_n 0, 1) := by decide +kernel
theorem dX8_copyAll_1 : decode cX8_copyAll 1 = .ok (.aload_n 1, 1) := by decide +kernel
theorem dX8_copyAll_2 : decode cX8_copyAll 2 = .ok (.invokevirtual 60, 3) := by decide +kernel
theorem dX8_copyAll_5 : decode cX8_copyAll 5 = .ok (.iconst 0, 1) := by decide +kernel
theorem dX8_copyAll_6 : decode cX8_copyAll 6 = .ok (.istore_n 2, 1) := by decide +kernel
theorem dX8_copyAll_7 : decode cX8_copyAll 7 = .ok (.iload_n 2, 1) := by decide +kernel
theorem dX8_copyAll_8 : decode cX8_copyAll 8 = .ok (.aload_n 1, 1) := by decide +kernel
theorem dX8_copyAll_9 : decode cX8_copyAll 9 = .ok (.getfield 27, 3) := by decide +kernel
theorem dX8_copyAll_12 : decode cX8_copyAll 12 = .ok (.if_icmp .ge 36, 3) := by decide +kernel
theorem dX8_copyAll_15 : decode cX8_copyAll 15 = .ok (.aload_n 1, 1) := by decide +kernel
theorem dX8_copyAll_16 : decode cX8_copyAll 16 = .ok (.iload_n 2, 1) := by decide +kernel
theorem dX8_copyAll_17 : decode cX8_copyAll 17 = .ok (.invokevirtual 94, 3) := by decide +kernel
theorem dX8_copyAll_20 : decode cX8_copyAll 20 = .ok (.astore_n 3, 1) := by decide +kernel
theorem dX8_copyAll_21 : decode cX8_copyAll 21 = .ok (.aload_n 0, 1) := by decide +kernel
theorem dX8_copyAll_22 : decode cX8_copyAll 22 = .ok (.invokevirtual 56, 3) := by decide +kernel
theorem dX8_copyAll_25 : decode cX8_copyAll 25 = .ok (.astore 4, 2) := by decide +kernel
theorem dX8_copyAll_27 : decode cX8_copyAll 27 = .ok (.aload_n 3, 1) := by decide +kernel
theorem dX8_copyAll_28 : decode cX8_copyAll 28 = .ok (.ifnull 14, 3) := by decide +kernel
theorem dX8_copyAll_31 : decode cX8_copyAll 31 = .ok (.aload 4, 2) := by decide +kernel
theorem dX8_copyAll_33 : decode cX8_copyAll 33 = .ok (.ifnull 9, 3) := by decide +kernel
theorem dX8_copyAll_36 : decode cX8_copyAll 36 = .ok (.aload 4, 2) := by decide +kernel
theorem dX8_copyAll_38 : decode cX8_copyAll 38 = .ok (.aload_n 3, 1) := by decide +kernel
theorem dX8_copyAll_39 : decode cX8_copyAll 39 = .ok (.invokevirtual 60, 3) := by decide +kernel
theorem dX8_copyAll_42 : decode cX8_copyAll 42 = .ok (.iinc 2 1, 3) := by decide +kernel
theorem dX8_copyAll_45 : decode cX8_copyAll 45 = .ok (.goto (-38), 3) := by decide +kernel
theorem dX8_copyAll_48 : decode cX8_copyAll 48 = .ok (.return_, 1) := by decide +kernel
theorem dX8_isUndefinedOrNull_0 : decode cX8_isUndefinedOrNull 0 = .ok (.aload_n 0, 1) := by decide +kernel
theorem dX8_isUndefinedOrNull_1 : decode cX8_isUndefinedOrNull 1 = .ok (.getfield 9, 3) := by decide +kernel
theorem dX8_isUndefinedOrNull_4 : decode cX8_isUndefinedOrNull 4 = .ok (.bipush 7, 2) := by decide +kernel
theorem dX8_isUndefinedOrNull_6 : decode cX8_isUndefinedOrNull 6 = .ok (.if_icmp .eq 12, 3) := by decide +kernel
theorem dX8_isUndefinedOrNull_9 : decode cX8_isUndefinedOrNull 9 = .ok (.aload_n 0, 1) := by decide +kernel
theorem dX8_isUndefinedOrNull_10 : decode cX8_isUndefinedOrNull 10 = .ok (.getfield 9, 3) := by decide +kernel
theorem dX8_isUndefinedOrNull_13 : decode cX8_isUndefinedOrNull 13 = .ok (.bipush 8, 2) := by decide +kernel
theorem dX8_isUndefinedOrNull_15 : decode cX8_isUndefinedOrNull 15 = .ok (.if_icmp .ne 7, 3) := by decide +kernel
theorem dX8_isUndefinedOrNull_18 : decode cX8_isUndefinedOrNull 18 = .ok (.iconst 1, 1) := by decide +kernel
theorem dX8_isUndefinedOrNull_19 : decode cX8_isUndefinedOrNull 19 = .ok (.goto 4, 3) := by decide +kernel
theorem dX8_isUndefinedOrNull_22 : decode cX8_isUndefinedOrNull 22 = .ok (.iconst 0, 1) := by decide +kernel
theorem dX8_isUndefinedOrNull_23 : decode cX8_isUndefinedOrNull 23 = .ok (.ireturn, 1) := by decide +kernel
theorem dX8_isTrue_0 : decode cX8_isTrue 0 = .ok (.aload_n 0, 1) := by decide +kernel
theorem dX8_isTrue_1 : decode cX8_isTrue 1 = .ok (.getfield 9, 3) := by decide +kernel
theorem dX8_isTrue_4 : decode cX8_isTrue 4 = .ok (.iconst 2, 1) := by decide +kernel
theorem dX8_isTrue_5 : decode cX8_isTrue 5 = .ok (.if_icmp .eq 11, 3) := by decide +kernel
theorem dX8_isTrue_8 : decode cX8_isTrue 8 = .ok (.aload_n 0, 1) := by decide +kernel
theorem dX8_isTrue_9 : decode cX8_isTrue 9 = .ok (.getfield 9, 3) := by decide +kernel
theorem dX8_isTrue_12 : decode cX8_isTrue 12 = .ok (.iconst 4, 1) := by decide +kernel
theorem dX8_isTrue_13 : decode cX8_isTrue 13 = .ok (.if_icmp .ne 18, 3) := by decide +kernel
theorem dX8_isTrue_16 : decode cX8_isTrue 16 = .ok (.aload_n 0, 1) := by decide +kernel
theorem dX8_isTrue_17 : decode cX8_isTrue 17 = .ok (.getfield 19, 3) := by decide +kernel
theorem dX8_isTrue_20 : decode cX8_isTrue 20 = .ok (.dconst 0, 1) := by decide +kernel
theorem dX8_isTrue_21 : decode cX8_isTrue 21 = .ok (.dcmp .l, 1) := by decide +kernel
theorem dX8_isTrue_22 : decode cX8_isTrue 22 = .ok (.ifCond .eq 7, 3) := by decide +kernel
theorem dX8_isTrue_25 : decode cX8_isTrue 25 = .ok (.iconst 1, 1) := by decide +kernel
theorem dX8_isTrue_26 : decode cX8_isTrue 26 = .ok (.goto 4, 3) := by decide +kernel
theorem dX8_isTrue_29 : decode cX8_isTrue 29 = .ok (.iconst 0, 1) := by decide +kernel
theorem dX8_isTrue_30 : decode cX8_isTrue 30 = .ok (.ireturn, 1) := by decide +kernel
theorem dX8_isTrue_31 : decode cX8_isTrue 31 = .ok (.aload_n 0, 1) := by decide +kernel
theorem dX8_isTrue_32 : decode cX8_isTrue 32 = .ok (.getfield 9, 3) := by decide +kernel
theorem dX8_isTrue_35 : decode cX8_isTrue 35 = .ok (.bipush 6, 2) := by decide +kernel
theorem dX8_isTrue_37 : decode cX8_isTrue 37 = .ok (.if_icmp .eq 21, 3) := by decide +kernel
theorem dX8_isTrue_40 : decode cX8_isTrue 40 = .ok (.aload_n 0, 1) := by decide +kernel
theorem dX8_isTrue_41 : decode cX8_isTrue 41 = .ok (.getfield 9, 3) := by decide +kernel
theorem dX8_isTrue_44 : decode cX8_isTrue 44 = .ok (.iconst 5, 1) := by decide +kernel
theorem dX8_isTrue_45 : decode cX8_isTrue 45 = .ok (.if_icmp .ne 17, 3) := by decide +kernel
theorem dX8_isTrue_48 : decode cX8_isTrue 48 = .ok (.aload_n 0, 1) := by decide +kernel
theorem dX8_isTrue_49 : decode cX8_isTrue 49 = .ok (.getfield 35, 3) := by decide +kernel
theorem dX8_isTrue_52 : decode cX8_isTrue 52 = .ok (.getfield 68, 3) := by decide +kernel
theorem dX8_isTrue_55 : decode cX8_isTrue 55 = .ok (.ifCond .le 7, 3) := by decide +kernel
theorem dX8_isTrue_58 : decode cX8_isTrue 58 = .ok (.iconst 1, 1) := by decide +kernel
theorem dX8_isTrue_59 : decode cX8_isTrue 59 = .ok (.goto 4, 3) := by decide +kernel
theorem dX8_isTrue_62 : decode cX8_isTrue 62 = .ok (.iconst 0, 1) := by decide +kernel
theorem dX8_isTrue_63 : decode cX8_isTrue 63 = .ok (.ireturn, 1) := by decide +kernel
theorem dX9_init_0 : decode cX9_init 0 = .ok (.aload_n 0, 1) := by decide +kernel
theorem dX9_init_1 : decode cX9_init 1 = .ok (.invokespecial 3, 3) := by decide +kernel
theorem dX9_init_4 : decode cX9_init 4 = .ok (.aload_n 0, 1) := by decide +kernel
theorem dX9_init_5 : decode cX9_init 5 = .ok (.aload_n 1, 1) := by decide +kernel
theorem dX9_init_6 : decode cX9_init 6 = .ok (.putfield 9, 3) := by decide +kernel
theorem dX9_init_9 : decode cX9_init 9 = .ok (.aload_n 0, 1) := by decide +kernel
theorem dX9_init_10 : decode cX9_init 10 = .ok (.iload_n 2, 1) := by decide +kernel
theorem dX9_init_11 : decode cX9_init 11 = .ok (.putfield 15, 3) := by decide +kernel
theorem dX9_init_14 : decode cX9_init 14 = .ok (.aload_n 0, 1) := by decide +kernel
theorem dX9_init_15 : decode cX9_init 15 = .ok (.iload_n 3, 1) := by decide +kernel
theorem dX9_init_16 : decode cX9_init 16 = .ok (.putfield 19, 3) := by decide +kernel
theorem dX9_init_19 : decode cX9_init 19 = .ok (.aload_n 0, 1) := by decide +kernel
theorem dX9_init_20 : decode cX9_init 20 = .ok (.aload 4, 2) := by decide +kernel
theorem dX9_init_22 : decode cX9_init 22 = .ok (.putfield 23, 3) := by decide +kernel
theorem dX9_init_25 : decode cX9_init 25 = .ok (.aload_n 0, 1) := by decide +kernel
theorem dX9_init_26 : decode cX9_init 26 = .ok (.aload 5, 2) := by decide +kernel
theorem dX9_init_28 : decode cX9_init 28 = .ok (.putfield 27, 3) := by decide +kernel
theorem dX9_init_31 : decode cX9_init 31 = .ok (.return_, 1) := by decide +kernel
theorem dX9_isDistinctFrom_0 : decode cX9_isDistinctFrom 0 = .ok (.aload_n 0, 1) := by decide +kernel
theorem dX9_isDistinctFrom_1 : decode cX9_isDistinctFrom 1 = .ok (.getfield 9, 3) := by decide +kernel
theorem dX9_isDistinctFrom_4 : decode cX9_isDistinctFrom 4 = .ok (.getfield 31, 3) := by decide +kernel
theorem dX9_isDistinctFrom_7 : decode cX9_isDistinctFrom 7 = .ok (.ifCond .eq 27, 3) := by decide +kernel
theorem dX9_isDistinctFrom_10 : decode cX9_isDistinctFrom 10 = .ok (.aload_n 1, 1) := by decide +kernel
theorem dX9_isDistinctFrom_11 : decode cX9_isDistinctFrom 11 = .ok (.getfield 9, 3) := by decide +kernel
theorem dX9_isDistinctFrom_14 : decode cX9_isDistinctFrom 14 = .ok (.getfield 31, 3) := by decide +kernel
theorem dX9_isDistinctFrom_17 : decode cX9_isDistinctFrom 17 = .ok (.ifCond .eq 17, 3) := by decide +kernel
theorem dX9_isDistinctFrom_20 : decode cX9_isDistinctFrom 20 = .ok (.aload_n 0, 1) := by decide +kernel
theorem dX9_isDistinctFrom_21 : decode cX9_isDistinctFrom 21 = .ok (.getfield 19, 3) := by decide +kernel
theorem dX9_isDistinctFrom_24 : decode cX9_isDistinctFrom 24 = .ok (.ifCond .eq 12, 3) := by decide +kernel
theorem dX9_isDistinctFrom_27 : decode cX9_isDistinctFrom 27 = .ok (.aload_n 1, 1) := by decide +kernel
theorem dX9_isDistinctFrom_28 : decode cX9_isDistinctFrom 28 = .ok (.getfield 19, 3) := by decide +kernel
theorem dX9_isDistinctFrom_31 : decode cX9_isDistinctFrom 31 = .ok (.ifCond .eq 5, 3) := by decide +kernel
theorem dX9_isDistinctFrom_34 : decode cX9_isDistinctFrom 34 = .ok (.iconst 0, 1) := by decide +kernel
theorem dX9_isDistinctFrom_35 : decode cX9_isDistinctFrom 35 = .ok (.ireturn, 1) := by decide +kernel
theorem dX9_isDistinctFrom_36 : decode cX9_isDistinctFrom 36 = .ok (.aload_n 0, 1) := by decide +kernel
theorem dX9_isDistinctFrom_37 : decode cX9_isDistinctFrom 37 = .ok (.getfield 9, 3) := by decide +kernel
theorem dX9_isDistinctFrom_40 : decode cX9_isDistinctFrom 40 = .ok (.getfield 31, 3) := by decide +kernel
theorem dX9_isDistinctFrom_43 : decode cX9_isDistinctFrom 43 = .ok (.aload_n 1, 1) := by decide +kernel
theorem dX9_isDistinctFrom_44 : decode cX9_isDistinctFrom 44 = .ok (.getfield 9, 3) := by decide +kernel
theorem dX9_isDistinctFrom_47 : decode cX9_isDistinctFrom 47 = .ok (.getfield 31, 3) := by decide +kernel
theorem dX9_isDistinctFrom_50 : decode cX9_isDistinctFrom 50 = .ok (.if_icmp .eq 7, 3) := by decide +kernel
theorem dX9_isDistinctFrom_53 : decode cX9_isDistinctFrom 53 = .ok (.iconst 1, 1) := by decide +kernel
theorem dX9_isDistinctFrom_54 : decode cX9_isDistinctFrom 54 = .ok (.goto 4, 3) := by decide +kernel
theorem dX9_isDistinctFrom_57 : decode cX9_isDistinctFrom 57 = .ok (.iconst 0, 1) := by decide +kernel
theorem dX9_isDistinctFrom_58 : decode cX9_isDistinctFrom 58 = .ok (.ireturn, 1) := by decide +kernel
set_option maxRecDepth 20000 in
theorem ggX9_isSameAs_X9_isSameButElement : GoodIn wsX9_isSameAs wsX9_isSameButElement := goodIn_r _ [6, 7, 8, 9, 10, 11, 12, 5, 13, 14, 15, 16, 17, 18, 19] rfl (by decide +kernel)
set_option maxRecDepth 20000 in
theorem gX9_isSameAs_X9_isSameButElement : GoodIn wsX9_isSameAs (wsV RX9 36 RX9 yX9_isSameButElement wsX9_isSameButElement) := goodIn_app (goodIn_of _ (by decide +kernel)) ggX9_isSameAs_X9_isSameButElement
theorem dX9_isSameAs_0 : decode cX9_isSameAs 0 = .ok (.aload_n 0, 1) := by decide +kernel
theorem dX9_isSameAs_1 : decode cX9_isSameAs 1 = .ok (.getfield 27, 3) := by decide +kernel
theorem dX9_isSameAs_4 : decode cX9_isSameAs 4 = .ok (.ifnull 10, 3) := by decide +kernel
theorem dX9_isSameAs_7 : decode cX9_isSameAs 7 = .ok (.aload_n 1, 1) := by decide +kernel
theorem dX9_isSameAs_8 : decode cX9_isSameAs 8 = .ok (.getfield 27, 3) := by decide +kernel
theorem dX9_isSameAs_11 : decode cX9_isSameAs 11 = .ok (.ifnonnull 31, 3) := by decide +kernel
theorem dX9_isSameAs_14 : decode cX9_isSameAs 14 = .ok (.aload_n 0, 1) := by decide +kernel
theorem dX9_isSameAs_15 : decode cX9_isSameAs 15 = .ok (.getfield 27, 3) := by decide +kernel
theorem dX9_isSameAs_18 : decode cX9_isSameAs 18 = .ok (.ifnonnull 22, 3) := by decide +kernel
theorem dX9_isSameAs_21 : decode cX9_isSameAs 21 = .ok (.aload_n 1, 1) := by decide +kernel
theorem dX9_isSameAs_22 : decode cX9_isSameAs 22 = .ok (.getfield 27, 3) := by decide +kernel
theorem dX9_isSameAs_25 : decode cX9_isSameAs 25 = .ok (.ifnonnull 15, 3) := by decide +kernel
theorem dX9_isSameAs_28 : decode cX9_isSameAs 28 = .ok (.aload_n 0, 1) := by decide +kernel
theorem dX9_isSameAs_29 : decode cX9_isSameAs 29 = .ok (.aload_n 1, 1) := by decide +kernel
theorem dX9_isSameAs_30 : decode cX9_isSameAs 30 = .ok (.invokevirtual 36, 3) := by decide +kernel
theorem dX9_isSameAs_33 : decode cX9_isSameAs 33 = .ok (.ifCond .eq 7, 3) := by decide +kernel
theorem dX9_isSameAs_36 : decode cX9_isSameAs 36 = .ok (.iconst 1, 1) := by decide +kernel
theorem dX9_isSameAs_37 : decode cX9_isSameAs 37 = .ok (.goto 4, 3) := by decide +kernel
theorem dX9_isSameAs_40 : decode cX9_isSameAs 40 = .ok (.iconst 0, 1) := by decide +kernel
theorem dX9_isSameAs_41 : decode cX9_isSameAs 41 = .ok (.ireturn, 1) := by decide +kernel
theorem dX9_isSameAs_42 : decode cX9_isSameAs 42 = .ok (.aload_n 0, 1) := by decide +kernel
theorem dX9_isSameAs_43 : decode cX9_isSameAs 43 = .ok (.aload_n 1, 1) := by decide +kernel
theorem dX9_isSameAs_44 : decode cX9_isSameAs 44 = .ok (.invokevirtual 36, 3) := by decide +kernel
theorem dX9_isSameAs_47 : decode cX9_isSameAs 47 = .ok (.ifCond .eq 21, 3) := by decide +kernel
theorem dX9_isSameAs_50 : decode cX9_isSameAs 50 = .ok (.aload_n 0, 1) := by decide +kernel
theorem dX9_isSameAs_51 : decode cX9_isSameAs 51 = .ok (.getfield 27, 3) := by decide +kernel
theorem dX9_isSameAs_54 : decode cX9_isSameAs 54 = .ok (.aload_n 1, 1) := by decide +kernel
theorem dX9_isSameAs_55 : decode cX9_isSameAs 55 = .ok (.getfield 27, 3) := by decide +kernel
theorem dX9_isSameAs_58 : decode cX9_isSameAs 58 = .ok (.invokevirtual 36, 3) := by decide +kernel
theorem dX9_isSameAs_61 : decode cX9_isSameAs 61 = .ok (.ifCond .eq 7, 3) := by decide +kernel
theorem dX9_isSameAs_64 : decode cX9_isSameAs 64 = .ok (.iconst 1, 1) := by decide +kernel
theorem dX9_isSameAs_65 : decode cX9_isSameAs 65 = .ok (.goto 4, 3) := by decide +kernel
theorem dX9_isSameAs_68 : decode cX9_isSameAs 68 = .ok (.iconst 0, 1) := by decide +kernel
theorem dX9_isSameAs_69 : decode cX9_isSameAs 69 = .ok (.ireturn, 1) := by decide +kernel
set_option maxRecDepth 20000 in
theorem ggX9_isSameButElement_X9_hasSameWords : GoodIn wsX9_isSameButElement wsX9_hasSameWords := goodIn_r _ [8, 9, 10, 11, 12, 13, 14] rfl (by decide +kernel)
set_option maxRecDepth 20000 in
theorem gX9_isSameButElement_X9_hasSameWords : GoodIn wsX9_isSameButElement (wsV RX9 40 RX9 yX9_hasSameWords wsX9_hasSameWords) := goodIn_app (goodIn_of _ (by decide +kernel)) ggX9_isSameButElement_X9_hasSameWords
theorem dX9_isSameButElement_0 : decode cX9_isSameButElement 0 = .ok (.aload_n 0, 1) := by decide +kernel
theorem dX9_isSameButElement_1 : decode cX9_isSameButElement 1 = .ok (.getfield 9, 3) := by decide +kernel
theorem dX9_isSameButElement_4 : decode cX9_isSameButElement 4 = .ok (.aload_n 1, 1) := by decide +kernel
theorem dX9_isSameButElement_5 : decode cX9_isSameButElement 5 = .ok (.getfield 9, 3) := by decide +kernel
theorem dX9_isSameButElement_8 : decode cX9_isSameButElement 8 = .ok (.if_acmp .ne 37, 3) := by decide +kernel
theorem dX9_isSameButElement_11 : decode cX9_isSameButElement 11 = .ok (.aload_n 0, 1) := by decide +kernel
theorem dX9_isSameButElement_12 : decode cX9_isSameButElement 12 = .ok (.getfield 15, 3) := by decide +kernel
theorem dX9_isSameButElement_15 : decode cX9_isSameButElement 15 = .ok (.aload_n 1, 1) := by decide +kernel
theorem dX9_isSameButElement_16 : decode cX9_isSameButElement 16 = .ok (.getfield 15, 3) := by decide +kernel
theorem dX9_isSameButElement_19 : decode cX9_isSameButElement 19 = .ok (.if_icmp .ne 26, 3) := by decide +kernel
theorem dX9_isSameButElement_22 : decode cX9_isSameButElement 22 = .ok (.aload_n 0, 1) := by decide +kernel
theorem dX9_isSameButElement_23 : decode cX9_isSameButElement 23 = .ok (.getfield 19, 3) := by decide +kernel
theorem dX9_isSameButElement_26 : decode cX9_isSameButElement 26 = .ok (.aload_n 1, 1) := by decide +kernel
theorem dX9_isSameButElement_27 : decode cX9_isSameButElement 27 = .ok (.getfield 19, 3) := by decide +kernel
theorem dX9_isSameButElement_30 : decode cX9_isSameButElement 30 = .ok (.if_icmp .ne 15, 3) := by decide +kernel
theorem dX9_isSameButElement_33 : decode cX9_isSameButElement 33 = .ok (.aload_n 0, 1) := by decide +kernel
theorem dX9_isSameButElement_34 : decode cX9_isSameButElement 34 = .ok (.aload_n 1, 1) := by decide +kernel
theorem dX9_isSameButElement_35 : decode cX9_isSameButElement 35 = .ok (.invokevirtual 40, 3) := by decide +kernel
theorem dX9_isSameButElement_38 : decode cX9_isSameButElement 38 = .ok (.ifCond .eq 7, 3) := by decide +kernel
theorem dX9_isSameButElement_41 : decode cX9_isSameButElement 41 = .ok (.iconst 1, 1) := by decide +kernel
theorem dX9_isSameButElement_42 : decode cX9_isSameButElement 42 = .ok (.goto 4, 3) := by decide +kernel
theorem dX9_isSameButElement_45 : decode cX9_isSameButElement 45 = .ok (.iconst 0, 1) := by decide +kernel
theorem dX9_isSameButElement_46 : decode cX9_isSameButElement 46 = .ok (.ireturn, 1) := by decide +kernel
theorem dX9_hasSameWords_0 : decode cX9_hasSameWords 0 = .ok (.aload_n 0, 1) := by decide +kernel
theorem dX9_hasSameWords_1 : decode cX9_hasSameWords 1 = .ok (.getfield 23, 3) := by decide +kernel
theorem dX9_hasSameWords_4 : decode cX9_hasSameWords 4 = .ok (.ifnull 10, 3) := by decide +kernel
theorem dX9_hasSameWords_7 : decode cX9_hasSameWords 7 = .ok (.aload_n 1, 1) := by decide +kernel
theorem dX9_hasSameWords_8 : decode cX9_hasSameWords 8 = .ok (.getfield 23, 3) := by decide +kernel
theorem dX9_hasSameWords_11 : decode cX9_hasSameWords 11 = .ok (.ifnonnull 23, 3) := by decide +kernel
theorem dX9_hasSameWords_14 : decode cX9_hasSameWords 14 = .ok (.aload_n 0, 1) := by decide +kernel
theorem dX9_hasSameWords_15 : decode cX9_hasSameWords 15 = .ok (.getfield 23, 3) := by decide +kernel
theorem dX9_hasSameWords_18 : decode cX9_hasSameWords 18 = .ok (.ifnonnull 14, 3) := by decide +kernel
theorem dX9_hasSameWords_21 : decode cX9_hasSameWords 21 = .ok (.aload_n 1, 1) := by decide +kernel
theorem dX9_hasSameWords_22 : decode cX9_hasSameWords 22 = .ok (.getfield 23, 3) := by decide +kernel
theorem dX9_hasSameWords_25 : decode cX9_hasSameWords 25 = .ok (.ifnonnull 7, 3) := by decide +kernel
theorem dX9_hasSameWords_28 : decode cX9_hasSameWords 28 = .ok (.iconst 1, 1) := by decide +kernel
theorem dX9_hasSameWords_29 : decode cX9_hasSameWords 29 = .ok (.goto 4, 3) := by decide +kernel
theorem dX9_hasSameWords_32 : decode cX9_hasSameWords 32 = .ok (.iconst 0, 1) := by decide +kernel
theorem dX9_hasSameWords_33 : decode cX9_hasSameWords 33 = .ok (.ireturn, 1) := by decide +kernel
theorem dX9_hasSameWords_34 : decode cX9_hasSameWords 34 = .ok (.aload_n 0, 1) := by decide +kernel
theorem dX9_hasSameWords_35 : decode cX9_hasSameWords 35 = .ok (.getfield 23, 3) := by decide +kernel
theorem dX9_hasSameWords_38 : decode cX9_hasSameWords 38 = .ok (.arraylength, 1) := by decide +kernel
theorem dX9_hasSameWords_39 : decode cX9_hasSameWords 39 = .ok (.aload_n 1, 1) := by decide +kernel
theorem dX9_hasSameWords_40 : decode cX9_hasSameWords 40 = .ok (.getfield 23, 3) := by decide +kernel
theorem dX9_hasSameWords_43 : decode cX9_hasSameWords 43 = .ok (.arraylength, 1) := by decide +kernel
theorem dX9_hasSameWords_44 : decode cX9_hasSameWords 44 = .ok (.if_icmp .eq 5, 3) := by decide +kernel
theorem dX9_hasSameWords_47 : decode cX9_hasSameWords 47 = .ok (.iconst 0, 1) := by decide +kernel
theorem dX9_hasSameWords_48 : decode cX9_hasSameWords 48 = .ok (.ireturn, 1) := by decide +kernel
theorem dX9_hasSameWords_49 : decode cX9_hasSameWords 49 = .ok (.iconst 0, 1) := by decide +kernel
theorem dX9_hasSameWords_50 : decode cX9_hasSameWords 50 = .ok (.istore_n 2, 1) := by decide +kernel
theorem dX9_hasSameWords_51 : decode cX9_hasSameWords 51 = .ok (.iload_n 2, 1) := by decide +kernel
theorem dX9_hasSameWords_52 : decode cX9_hasSameWords 52 = .ok (.aload_n 0, 1) := by decide +kernel
theorem dX9_hasSameWords_53 : decode cX9_hasSameWords 53 = .ok (.getfield 23, 3) := by decide +kernel
theorem dX9_hasSameWords_56 : decode cX9_hasSameWords 56 = .ok (.arraylength, 1) := by decide +kernel
theorem dX9_hasSameWords_57 : decode cX9_hasSameWords 57 = .ok (.if_icmp .ge 36, 3) := by decide +kernel
theorem dX9_hasSameWords_60 : decode cX9_hasSameWords 60 = .ok (.iload_n 2, 1) := by decide +kernel
theorem dX9_hasSameWords_61 : decode cX9_hasSameWords 61 = .ok (.aload_n 1, 1) := by decide +kernel
theorem dX9_hasSameWords_62 : decode cX9_hasSameWords 62 = .ok (.getfield 23, 3) := by decide +kernel
theorem dX9_hasSameWords_65 : decode cX9_hasSameWords 65 = .ok (.arraylength, 1) := by decide +kernel
theorem dX9_hasSameWords_66 : decode cX9_hasSameWords 66 = .ok (.if_icmp .ge 27, 3) := by decide +kernel
theorem dX9_hasSameWords_69 : decode cX9_hasSameWords 69 = .ok (.aload_n 0, 1) := by decide +kernel
theorem dX9_hasSameWords_70 : decode cX9_hasSameWords 70 = .ok (.getfield 23, 3) := by decide +kernel
theorem dX9_hasSameWords_73 : decode cX9_hasSameWords 73 = .ok (.iload_n 2, 1) := by decide +kernel
theorem dX9_hasSameWords_74 : decode cX9_hasSameWords 74 = .ok (.laload, 1) := by decide +kernel
theorem dX9_hasSameWords_75 : decode cX9_hasSameWords 75 = .ok (.aload_n 1, 1) := by decide +kernel
theorem dX9_hasSameWords_76 : decode cX9_hasSameWords 76 = .ok (.getfield 23, 3) := by decide +kernel
theorem dX9_hasSameWords_79 : decode cX9_hasSameWords 79 = .ok (.iload_n 2, 1) := by decide +kernel
theorem dX9_hasSameWords_80 : decode cX9_hasSameWords 80 = .ok (.laload, 1) := by decide +kernel
theorem dX9_hasSameWords_81 : decode cX9_hasSameWords 81 = .ok (.lcmp, 1) := by decide +kernel
theorem dX9_hasSameWords_82 : decode cX9_hasSameWords 82 = .ok (.ifCond .eq 5, 3) := by decide +kernel
theorem dX9_hasSameWords_85 : decode cX9_hasSameWords 85 = .ok (.iconst 0, 1) := by decide +kernel
theorem dX9_hasSameWords_86 : decode cX9_hasSameWords 86 = .ok (.ireturn, 1) := by decide +kernel
theorem dX9_hasSameWords_87 : decode cX9_hasSameWords 87 = .ok (.iinc 2 1, 3) := by decide +kernel
theorem dX9_hasSameWords_90 : decode cX9_hasSameWords 90 = .ok (.goto (-39), 3) := by decide +kernel
theorem dX9_hasSameWords_93 : decode cX9_hasSameWords 93 = .ok (.iconst 1, 1) := by decide +kernel
theorem dX9_hasSameWords_94 : decode cX9_hasSameWords 94 = .ok (.ireturn, 1) := by decide +kernel
theorem dX9_hasWord_0 : decode cX9_hasWord 0 = .ok (.aload_n 0, 1) := by decide +kernel
theorem dX9_hasWord_1 : decode cX9_hasWord 1 = .ok (.getfield 23, 3) := by decide +kernel
theorem dX9_hasWord_4 : decode cX9_hasWord 4 = .ok (.ifnull 9, 3) := by decide +kernel
theorem dX9_hasWord_7 : decode cX9_hasWord 7 = .ok (.lload_n 1, 1) := by decide +kernel
theorem dX9_hasWord_8 : decode cX9_hasWord 8 = .ok (.lconst 0, 1) := by decide +kernel
theorem dX9_hasWord_9 : decode cX9_hasWord 9 = .ok (.lcmp, 1) := by decide +kernel
theorem dX9_hasWord_10 : decode cX9_hasWord 10 = .ok (.ifCond .ne 5, 3) := by decide +kernel
theorem dX9_hasWord_13 : decode cX9_hasWord 13 = .ok (.iconst 0, 1) := by decide +kernel
theorem dX9_hasWord_14 : decode cX9_hasWord 14 = .ok (.ireturn, 1) := by decide +kernel
theorem dX9_hasWord_15 : decode cX9_hasWord 15 = .ok (.aload_n 0, 1) := by decide +kernel
theorem dX9_hasWord_16 : decode cX9_hasWord 16 = .ok (.getfield 23, 3) := by decide +kernel
theorem dX9_hasWord_19 : decode cX9_hasWord 19 = .ok (.astore_n 3, 1) := by decide +kernel
theorem dX9_hasWord_20 : decode cX9_hasWord 20 = .ok (.aload_n 3, 1) := by decide +kernel
theorem dX9_hasWord_21 : decode cX9_hasWord 21 = .ok (.arraylength, 1) := by decide +kernel
theorem dX9_hasWord_22 : decode cX9_hasWord 22 = .ok (.istore 4, 2) := by decide +kernel
theorem dX9_hasWord_24 : decode cX9_hasWord 24 = .ok (.iconst 0, 1) := by decide +kernel
theorem dX9_hasWord_25 : decode cX9_hasWord 25 = .ok (.istore 5, 2) := by decide +kernel
theorem dX9_hasWord_27 : decode cX9_hasWord 27 = .ok (.iload 5, 2) := by decide +kernel
theorem dX9_hasWord_29 : decode cX9_hasWord 29 = .ok (.iload 4, 2) := by decide +kernel
theorem dX9_hasWord_31 : decode cX9_hasWord 31 = .ok (.if_icmp .ge 24, 3) := by decide +kernel
theorem dX9_hasWord_34 : decode cX9_hasWord 34 = .ok (.aload_n 3, 1) := by decide +kernel
theorem dX9_hasWord_35 : decode cX9_hasWord 35 = .ok (.iload 5, 2) := by decide +kernel
theorem dX9_hasWord_37 : decode cX9_hasWord 37 = .ok (.laload, 1) := by decide +kernel
theorem dX9_hasWord_38 : decode cX9_hasWord 38 = .ok (.lstore 6, 2) := by decide +kernel
theorem dX9_hasWord_40 : decode cX9_hasWord 40 = .ok (.lload 6, 2) := by decide +kernel
theorem dX9_hasWord_42 : decode cX9_hasWord 42 = .ok (.lload_n 1, 1) := by decide +kernel
theorem dX9_hasWord_43 : decode cX9_hasWord 43 = .ok (.lcmp, 1) := by decide +kernel
theorem dX9_hasWord_44 : decode cX9_hasWord 44 = .ok (.ifCond .ne 5, 3) := by decide +kernel
theorem dX9_hasWord_47 : decode cX9_hasWord 47 = .ok (.iconst 1, 1) := by decide +kernel
theorem dX9_hasWord_48 : decode cX9_hasWord 48 = .ok (.ireturn, 1) := by decide +kernel
theorem dX9_hasWord_49 : decode cX9_hasWord 49 = .ok (.iinc 5 1, 3) := by decide +kernel
theorem dX9_hasWord_52 : decode cX9_hasWord 52 = .ok (.goto (-25), 3) := by decide +kernel
theorem dX9_hasWord_55 : decode cX9_hasWord 55 = .ok (.iconst 0, 1) := by decide +kernel
theorem dX9_hasWord_56 : decode cX9_hasWord 56 = .ok (.ireturn, 1) := by decide +kernel
set_option maxRecDepth 20000 in
theorem ggX10_init_X7_init : GoodIn wsX10_init wsX7_init := goodIn_r _ [27, 28, 2, 3, 29, 30, 31, 32, 33, 34, 35, 149, 150] rfl (by decide +kernel)
set_option maxRecDepth 20000 in
theorem gX10_init_X7_init : GoodIn wsX10_init (wsX7_init) := ggX10_init_X7_init
set_option maxRecDepth 20000 in
theorem ggX10_init_X6_init : GoodIn wsX10_init wsX6_init := goodIn_r _ [37, 38, 2, 3, 34, 39, 40, 41, 42, 43, 44, 45, 46, 160, 161, 162, 163, 164, 165, 166] rfl (by decide +kernel)
set_option maxRecDepth 20000 in
theorem gX10_init_X6_init_n20 : GoodIn wsX10_init (wsX6_init) := ggX10_init_X6_init
set_option maxRecDepth 20000 in
theorem ggX10_init_X10_rowOfThings : GoodIn wsX10_init wsX10_rowOfThings := goodIn_r _ [50, 51, 52, 53, 54, 55, 56, 57, 58, 59, 60, 61, 2, 3, 62, 63, 64, 65, 66, 67, 5, 6, 68, 69, 70, 26, 27, 28, 29, 30, 31, 32, 33, 34, 35, 71, 72, 73, 74, 75, 76, 77, 78, 79, 80, 81, 82, 83, 84, 85, 86, 87, 88, 89, 90, 91, 92, 93, 94, 95, 96, 97, 98, 99, 100, 101, 102, 103, 104, 105, 106, 107, 108, 109, 110, 111, 112, 113, 114, 115, 116, 117, 118, 119, 120, 121, 122, 123, 124, 125, 126, 127, 128, 129, 130, 131, 132, 133, 134, 135, 136, 172, 173, 174, 175, 176, 177, 178, 149, 150] rfl (by decide +kernel)
set_option maxRecDepth 20000 in
theorem gX10_init_X10_rowOfThings : GoodIn wsX10_init (va_wsS RX10 31 yX10_rowOfThings wsX10_rowOfThings) := goodIn_app (goodIn_of _ (by decide +kernel)) ggX10_init_X10_rowOfThings
set_option maxRecDepth 20000 in
theorem ggX10_init_X4_init : GoodIn wsX10_init wsX4_init := goodIn_r _ [138, 139, 2, 3, 140, 167] rfl (by decide +kernel)
set_option maxRecDepth 20000 in
theorem gX10_init_X4_init_n41 : GoodIn wsX10_init (wsX4_init) := ggX10_init_X4_init
set_option maxRecDepth 20000 in
theorem ggX10_init_X5_init : GoodIn wsX10_init wsX5_init := goodIn_r _ [142, 143, 2, 3, 144, 145, 146, 147, 148, 168, 169, 170, 171] rfl (by decide +kernel)
set_option maxRecDepth 20000 in
theorem gX10_init_X5_init_n59 : GoodIn wsX10_init (wsX5_init) := ggX10_init_X5_init
theorem dX10_init_0 : decode cX10_init 0 = .ok (.aload_n 0, 1) := by decide +kernel
theorem dX10_init_1 : decode cX10_init 1 = .ok (.invokespecial 1, 3) := by decide +kernel
theorem dX10_init_4 : decode cX10_init 4 = .ok (.aload_n 0, 1) := by decide +kernel
theorem dX10_init_5 : decode cX10_init 5 = .ok (.new 7, 3) := by decide +kernel
theorem dX10_init_8 : decode cX10_init 8 = .ok (.dup, 1) := by decide +kernel
theorem dX10_init_9 : decode cX10_init 9 = .ok (.bipush 100, 2) := by decide +kernel
theorem dX10_init_11 : decode cX10_init 11 = .ok (.invokespecial 11, 3) := by decide +kernel
theorem dX10_init_14 : decode cX10_init 14 = .ok (.putfield 14, 3) := by decide +kernel
theorem dX10_init_17 : decode cX10_init 17 = .ok (.aload_n 0, 1) := by decide +kernel
theorem dX10_init_18 : decode cX10_init 18 = .ok (.new 18, 3) := by decide +kernel
theorem dX10_init_21 : decode cX10_init 21 = .ok (.dup, 1) := by decide +kernel
theorem dX10_init_22 : decode cX10_init 22 = .ok (.invokespecial 20, 3) := by decide +kernel
theorem dX10_init_25 : decode cX10_init 25 = .ok (.putfield 21, 3) := by decide +kernel
theorem dX10_init_28 : decode cX10_init 28 = .ok (.aload_n 0, 1) := by decide +kernel
theorem dX10_init_29 : decode cX10_init 29 = .ok (.bipush 6, 2) := by decide +kernel
theorem dX10_init_31 : decode cX10_init 31 = .ok (.anewarray 25, 3) := by decide +kernel
theorem dX10_init_34 : decode cX10_init 34 = .ok (.putfield 27, 3) := by decide +kernel
theorem dX10_init_37 : decode cX10_init 37 = .ok (.aload_n 0, 1) := by decide +kernel
theorem dX10_init_38 : decode cX10_init 38 = .ok (.invokestatic 31, 3) := by decide +kernel
theorem dX10_init_41 : decode cX10_init 41 = .ok (.putfield 35, 3) := by decide +kernel
theorem dX10_init_44 : decode cX10_init 44 = .ok (.aload_n 0, 1) := by decide +kernel
theorem dX10_init_45 : decode cX10_init 45 = .ok (.new 39, 3) := by decide +kernel
theorem dX10_init_48 : decode cX10_init 48 = .ok (.dup, 1) := by decide +kernel
theorem dX10_init_49 : decode cX10_init 49 = .ok (.invokespecial 41, 3) := by decide +kernel
theorem dX10_init_52 : decode cX10_init 52 = .ok (.putfield 42, 3) := by decide +kernel
theorem dX10_init_55 : decode cX10_init 55 = .ok (.aload_n 0, 1) := by decide +kernel
theorem dX10_init_56 : decode cX10_init 56 = .ok (.invokestatic 31, 3) := by decide +kernel
theorem dX10_init_59 : decode cX10_init 59 = .ok (.putfield 46, 3) := by decide +kernel
theorem dX10_init_62 : decode cX10_init 62 = .ok (.aload_n 0, 1) := by decide +kernel
theorem dX10_init_63 : decode cX10_init 63 = .ok (.invokestatic 31, 3) := by decide +kernel
theorem dX10_init_66 : decode cX10_init 66 = .ok (.putfield 49, 3) := by decide +kernel
theorem dX10_init_69 : decode cX10_init 69 = .ok (.aload_n 0, 1) := by decide +kernel
theorem dX10_init_70 : decode cX10_init 70 = .ok (.iconst 0, 1) := by decide +kernel
theorem dX10_init_71 : decode cX10_init 71 = .ok (.putfield 52, 3) := by decide +kernel
theorem dX10_init_74 : decode cX10_init 74 = .ok (.aload_n 0, 1) := by decide +kernel
theorem dX10_init_75 : decode cX10_init 75 = .ok (.iconst (-1), 1) := by decide +kernel
theorem dX10_init_76 : decode cX10_init 76 = .ok (.putfield 56, 3) := by decide +kernel
theorem dX10_init_79 : decode cX10_init 79 = .ok (.iconst 0, 1) := by decide +kernel
theorem dX10_init_80 : decode cX10_init 80 = .ok (.istore_n 1, 1) := by decide +kernel
theorem dX10_init_81 : decode cX10_init 81 = .ok (.iload_n 1, 1) := by decide +kernel
theorem dX10_init_82 : decode cX10_init 82 = .ok (.aload_n 0, 1) := by decide +kernel
theorem dX10_init_83 : decode cX10_init 83 = .ok (.getfield 27, 3) := by decide +kernel
theorem dX10_init_86 : decode cX10_init 86 = .ok (.arraylength, 1) := by decide +kernel
theorem dX10_init_87 : decode cX10_init 87 = .ok (.if_icmp .ge 22, 3) := by decide +kernel
theorem dX10_init_90 : decode cX10_init 90 = .ok (.aload_n 0, 1) := by decide +kernel
theorem dX10_init_91 : decode cX10_init 91 = .ok (.getfield 27, 3) := by decide +kernel
theorem dX10_init_94 : decode cX10_init 94 = .ok (.iload_n 1, 1) := by decide +kernel
theorem dX10_init_95 : decode cX10_init 95 = .ok (.new 25, 3) := by decide +kernel
theorem dX10_init_98 : decode cX10_init 98 = .ok (.dup, 1) := by decide +kernel
theorem dX10_init_99 : decode cX10_init 99 = .ok (.invokespecial 59, 3) := by decide +kernel
theorem dX10_init_102 : decode cX10_init 102 = .ok (.aastore, 1) := by decide +kernel
theorem dX10_init_103 : decode cX10_init 103 = .ok (.iinc 1 1, 3) := by decide +kernel
theorem dX10_init_106 : decode cX10_init 106 = .ok (.goto (-25), 3) := by decide +kernel
theorem dX10_init_109 : decode cX10_init 109 = .ok (.return_, 1) := by decide +kernel
set_option maxRecDepth 20000 in
theorem ggX10_type_X7_signsIn : GoodIn wsX10_type wsX7_signsIn := goodIn_r _ [8] rfl (by decide +kernel)
set_option maxRecDepth 20000 in
theorem gX10_type_X7_signsIn : GoodIn wsX10_type (va_wsS RX10 60 yX7_signsIn wsX7_signsIn) := goodIn_app (goodIn_of _ (by decide +kernel)) ggX10_type_X7_signsIn
set_option maxRecDepth 20000 in
theorem ggX10_type_X7_appendSigns : GoodIn wsX10_type wsX7_appendSigns := goodIn_r _ [12, 13, 14, 15, 7, 16, 17, 18, 28, 29] rfl (by decide +kernel)
set_option maxRecDepth 20000 in
theorem gX10_type_X7_appendSigns : GoodIn wsX10_type (wsV RX10 74 RX7 yX7_appendSigns wsX7_appendSigns) := goodIn_app (goodIn_of _ (by decide +kernel)) ggX10_type_X7_appendSigns
theorem dX10_type_0 : decode cX10_type 0 = .ok (.iload_n 1, 1) := by decide +kernel
theorem dX10_type_1 : decode cX10_type 1 = .ok (.invokestatic 60, 3) := by decide +kernel
theorem dX10_type_4 : decode cX10_type 4 = .ok (.iload_n 2, 1) := by decide +kernel
theorem dX10_type_5 : decode cX10_type 5 = .ok (.invokestatic 60, 3) := by decide +kernel
theorem dX10_type_8 : decode cX10_type 8 = .ok (.iadd, 1) := by decide +kernel
theorem dX10_type_9 : decode cX10_type 9 = .ok (.iload_n 3, 1) := by decide +kernel
theorem dX10_type_10 : decode cX10_type 10 = .ok (.invokestatic 60, 3) := by decide +kernel
theorem dX10_type_13 : decode cX10_type 13 = .ok (.iadd, 1) := by decide +kernel
theorem dX10_type_14 : decode cX10_type 14 = .ok (.iload 4, 2) := by decide +kernel
theorem dX10_type_16 : decode cX10_type 16 = .ok (.invokestatic 60, 3) := by decide +kernel
theorem dX10_type_19 : decode cX10_type 19 = .ok (.iadd, 1) := by decide +kernel
theorem dX10_type_20 : decode cX10_type 20 = .ok (.iload 5, 2) := by decide +kernel
theorem dX10_type_22 : decode cX10_type 22 = .ok (.invokestatic 60, 3) := by decide +kernel
theorem dX10_type_25 : decode cX10_type 25 = .ok (.iadd, 1) := by decide +kernel
theorem dX10_type_26 : decode cX10_type 26 = .ok (.istore 6, 2) := by decide +kernel
theorem dX10_type_28 : decode cX10_type 28 = .ok (.aload_n 0, 1) := by decide +kernel
theorem dX10_type_29 : decode cX10_type 29 = .ok (.getfield 14, 3) := by decide +kernel
theorem dX10_type_32 : decode cX10_type 32 = .ok (.getfield 64, 3) := by decide +kernel
theorem dX10_type_35 : decode cX10_type 35 = .ok (.iload 6, 2) := by decide +kernel
theorem dX10_type_37 : decode cX10_type 37 = .ok (.iadd, 1) := by decide +kernel
theorem dX10_type_38 : decode cX10_type 38 = .ok (.bipush 100, 2) := by decide +kernel
theorem dX10_type_40 : decode cX10_type 40 = .ok (.if_icmp .le 13, 3) := by decide +kernel
theorem dX10_type_43 : decode cX10_type 43 = .ok (.new 67, 3) := by decide +kernel
theorem dX10_type_46 : decode cX10_type 46 = .ok (.dup, 1) := by decide +kernel
theorem dX10_type_47 : decode cX10_type 47 = .ok (.ldc 69, 2) := by decide +kernel
theorem dX10_type_49 : decode cX10_type 49 = .ok (.invokespecial 71, 3) := by decide +kernel
theorem dX10_type_52 : decode cX10_type 52 = .ok (.athrow, 1) := by decide +kernel
theorem dX10_type_53 : decode cX10_type 53 = .ok (.aload_n 0, 1) := by decide +kernel
theorem dX10_type_54 : decode cX10_type 54 = .ok (.getfield 14, 3) := by decide +kernel
theorem dX10_type_57 : decode cX10_type 57 = .ok (.iload_n 1, 1) := by decide +kernel
theorem dX10_type_58 : decode cX10_type 58 = .ok (.invokevirtual 74, 3) := by decide +kernel
theorem dX10_type_61 : decode cX10_type 61 = .ok (.aload_n 0, 1) := by decide +kernel
theorem dX10_type_62 : decode cX10_type 62 = .ok (.getfield 14, 3) := by decide +kernel
theorem dX10_type_65 : decode cX10_type 65 = .ok (.iload_n 2, 1) := by decide +kernel
theorem dX10_type_66 : decode cX10_type 66 = .ok (.invokevirtual 74, 3) := by decide +kernel
theorem dX10_type_69 : decode cX10_type 69 = .ok (.aload_n 0, 1) := by decide +kernel
theorem dX10_type_70 : decode cX10_type 70 = .ok (.getfield 14, 3) := by decide +kernel
theorem dX10_type_73 : decode cX10_type 73 = .ok (.iload_n 3, 1) := by decide +kernel
theorem dX10_type_74 : decode cX10_type 74 = .ok (.invokevirtual 74, 3) := by decide +kernel
theorem dX10_type_77 : decode cX10_type 77 = .ok (.aload_n 0, 1) := by decide +kernel
theorem dX10_type_78 : decode cX10_type 78 = .ok (.getfield 14, 3) := by decide +kernel
theorem dX10_type_81 : decode cX10_type 81 = .ok (.iload 4, 2) := by decide +kernel
theorem dX10_type_83 : decode cX10_type 83 = .ok (.invokevirtual 74, 3) := by decide +kernel
theorem dX10_type_86 : decode cX10_type 86 = .ok (.aload_n 0, 1) := by decide +kernel
theorem dX10_type_87 : decode cX10_type 87 = .ok (.getfield 14, 3) := by decide +kernel
theorem dX10_type_90 : decode cX10_type 90 = .ok (.iload 5, 2) := by decide +kernel
theorem dX10_type_92 : decode cX10_type 92 = .ok (.invokevirtual 74, 3) := by decide +kernel
theorem dX10_type_95 : decode cX10_type 95 = .ok (.aload_n 0, 1) := by decide +kernel
theorem dX10_type_96 : decode cX10_type 96 = .ok (.getfield 14, 3) := by decide +kernel
theorem dX10_type_99 : decode cX10_type 99 = .ok (.getfield 64, 3) := by decide +kernel
theorem dX10_type_102 : decode cX10_type 102 = .ok (.ireturn, 1) := by decide +kernel
theorem dX10_erase_0 : decode cX10_erase 0 = .ok (.aload_n 0, 1) := by decide +kernel
theorem dX10_erase_1 : decode cX10_erase 1 = .ok (.getfield 14, 3) := by decide +kernel
theorem dX10_erase_4 : decode cX10_erase 4 = .ok (.getfield 64, 3) := by decide +kernel
theorem dX10_erase_7 : decode cX10_erase 7 = .ok (.istore_n 1, 1) := by decide +kernel
theorem dX10_erase_8 : decode cX10_erase 8 = .ok (.aload_n 0, 1) := by decide +kernel
theorem dX10_erase_9 : decode cX10_erase 9 = .ok (.getfield 14, 3) := by decide +kernel
theorem dX10_erase_12 : decode cX10_erase 12 = .ok (.iconst 0, 1) := by decide +kernel
theorem dX10_erase_13 : decode cX10_erase 13 = .ok (.putfield 64, 3) := by decide +kernel
theorem dX10_erase_16 : decode cX10_erase 16 = .ok (.iload_n 1, 1) := by decide +kernel
theorem dX10_erase_17 : decode cX10_erase 17 = .ok (.ireturn, 1) := by decide +kernel
set_option maxRecDepth 20000 in
theorem ggX10_define_X6_readForm : GoodIn wsX10_define wsX6_readForm := goodIn_r _ [10, 11, 12, 13, 14, 15, 16, 17, 18, 19, 9, 20, 21, 22, 23, 24, 25, 26, 27, 28, 29, 30, 31, 32, 33, 34, 35, 36, 37, 38, 39, 40, 41, 42, 43, 44, 45, 46, 47, 48, 49, 50, 51, 52, 53, 54, 55, 56, 57, 58, 59, 60, 61, 62, 63, 64, 65, 66, 67, 68, 69, 70, 71, 72, 73, 74, 75, 76, 77, 78, 79, 80, 81, 82, 83, 84, 85, 86, 87, 88, 89, 90, 91, 92, 93, 94, 95, 96, 97, 98, 99, 100, 101, 102, 103, 104, 105, 106, 107, 108, 109, 110, 111, 112, 113, 114, 115, 116, 117, 118, 119, 120, 121, 122, 123, 124, 125, 126, 127, 128, 129, 130, 131, 132, 133, 134, 135, 136, 137, 138, 139, 140, 141, 142, 143, 144, 145, 146, 147, 148, 149, 150, 151, 152, 153, 154, 155, 156, 157, 158, 159, 160, 161, 162, 163, 164, 165, 166, 167, 168, 169, 170, 171, 172, 173, 174, 175, 176, 177, 178, 179, 180, 181, 182, 183, 184, 185, 186, 187, 188, 189, 190, 191, 192, 193, 194, 304, 305, 306, 307, 308, 309, 310, 311, 312, 313, 314, 315, 316, 317, 318, 319, 320, 321, 322, 323, 324, 325] rfl (by decide +kernel)
set_option maxRecDepth 20000 in
theorem gX10_define_X6_readForm : GoodIn wsX10_define (wsV RX10 77 RX6 yX6_readForm wsX6_readForm) := goodIn_app (goodIn_of _ (by decide +kernel)) ggX10_define_X6_readForm
set_option maxRecDepth 20000 in
theorem ggX10_define_X10_operationAt : GoodIn wsX10_define wsX10_operationAt := goodIn_r _ [199, 200, 295, 296, 297, 298, 299, 300, 301, 302, 303] rfl (by decide +kernel)
set_option maxRecDepth 20000 in
theorem gX10_define_X10_operationAt : GoodIn wsX10_define (wsV RX10 86 RX10 yX10_operationAt wsX10_operationAt) := goodIn_app (goodIn_of _ (by decide +kernel)) ggX10_define_X10_operationAt
set_option maxRecDepth 20000 in
theorem ggX10_define_X5_clashOf : GoodIn wsX10_define wsX5_clashOf := goodIn_r _ [205, 206, 207, 208, 209, 13, 210, 211, 212, 213, 214, 54, 215, 216, 217, 218, 55, 219, 220, 221, 222, 53, 223, 192, 193, 71, 194, 184, 185, 224, 225, 226, 227, 228, 229, 230, 204, 231, 232, 233, 234, 235, 236, 237, 238, 239, 240, 241, 242, 243, 244, 245, 246, 247, 248, 249, 250, 251, 252, 253, 254, 255, 256, 257, 258, 259, 260, 261, 262, 263, 264, 265, 266, 267, 146, 268, 174, 269, 176, 270, 271, 272, 273, 274, 275, 276, 277, 183, 278, 279, 280, 281, 178, 282, 283, 284, 285, 175, 286, 287, 288, 289, 177, 326, 327, 328, 329, 304, 305, 306, 307, 308, 316, 317, 318, 321, 322, 323, 324, 325] rfl (by decide +kernel)
set_option maxRecDepth 20000 in
theorem gX10_define_X5_clashOf : GoodIn wsX10_define (wsV RX10 93 RX5 yX5_clashOf wsX5_clashOf) := goodIn_app (goodIn_of _ (by decide +kernel)) ggX10_define_X5_clashOf
set_option maxRecDepth 20000 in
theorem ggX10_define_X5_append : GoodIn wsX10_define wsX5_append := goodIn_r _ [293, 232, 237, 294, 326, 327, 328, 329, 304, 305, 306, 307, 308] rfl (by decide +kernel)
set_option maxRecDepth 20000 in
theorem gX10_define_X5_append : GoodIn wsX10_define (wsV RX10 97 RX5 yX5_append wsX5_append) := goodIn_app (goodIn_of _ (by decide +kernel)) ggX10_define_X5_append
theorem dX10_define_0 : decode cX10_define 0 = .ok (.aload_n 0, 1) := by decide +kernel
theorem dX10_define_1 : decode cX10_define 1 = .ok (.getfield 21, 3) := by decide +kernel
theorem dX10_define_4 : decode cX10_define 4 = .ok (.aload_n 0, 1) := by decide +kernel
theorem dX10_define_5 : decode cX10_define 5 = .ok (.getfield 14, 3) := by decide +kernel
theorem dX10_define_8 : decode cX10_define 8 = .ok (.invokevirtual 77, 3) := by decide +kernel
theorem dX10_define_11 : decode cX10_define 11 = .ok (.astore_n 1, 1) := by decide +kernel
theorem dX10_define_12 : decode cX10_define 12 = .ok (.aload_n 1, 1) := by decide +kernel
theorem dX10_define_13 : decode cX10_define 13 = .ok (.ifnonnull 7, 3) := by decide +kernel
theorem dX10_define_16 : decode cX10_define 16 = .ok (.aconst_null, 1) := by decide +kernel
theorem dX10_define_17 : decode cX10_define 17 = .ok (.goto 11, 3) := by decide +kernel
theorem dX10_define_20 : decode cX10_define 20 = .ok (.aload_n 0, 1) := by decide +kernel
theorem dX10_define_21 : decode cX10_define 21 = .ok (.aload_n 1, 1) := by decide +kernel
theorem dX10_define_22 : decode cX10_define 22 = .ok (.getfield 81, 3) := by decide +kernel
theorem dX10_define_25 : decode cX10_define 25 = .ok (.invokevirtual 86, 3) := by decide +kernel
theorem dX10_define_28 : decode cX10_define 28 = .ok (.astore_n 2, 1) := by decide +kernel
theorem dX10_define_29 : decode cX10_define 29 = .ok (.aload_n 2, 1) := by decide +kernel
theorem dX10_define_30 : decode cX10_define 30 = .ok (.ifnonnull 17, 3) := by decide +kernel
theorem dX10_define_33 : decode cX10_define 33 = .ok (.aload_n 0, 1) := by decide +kernel
theorem dX10_define_34 : decode cX10_define 34 = .ok (.aload_n 0, 1) := by decide +kernel
theorem dX10_define_35 : decode cX10_define 35 = .ok (.getfield 21, 3) := by decide +kernel
theorem dX10_define_38 : decode cX10_define 38 = .ok (.getfield 90, 3) := by decide +kernel
theorem dX10_define_41 : decode cX10_define 41 = .ok (.putfield 56, 3) := by decide +kernel
theorem dX10_define_44 : decode cX10_define 44 = .ok (.bipush (-2), 2) := by decide +kernel
theorem dX10_define_46 : decode cX10_define 46 = .ok (.ireturn, 1) := by decide +kernel
theorem dX10_define_47 : decode cX10_define 47 = .ok (.aload_n 0, 1) := by decide +kernel
theorem dX10_define_48 : decode cX10_define 48 = .ok (.aload_n 2, 1) := by decide +kernel
theorem dX10_define_49 : decode cX10_define 49 = .ok (.aload_n 1, 1) := by decide +kernel
theorem dX10_define_50 : decode cX10_define 50 = .ok (.invokevirtual 93, 3) := by decide +kernel
theorem dX10_define_53 : decode cX10_define 53 = .ok (.putfield 56, 3) := by decide +kernel
theorem dX10_define_56 : decode cX10_define 56 = .ok (.aload_n 0, 1) := by decide +kernel
theorem dX10_define_57 : decode cX10_define 57 = .ok (.getfield 56, 3) := by decide +kernel
theorem dX10_define_60 : decode cX10_define 60 = .ok (.iconst (-1), 1) := by decide +kernel
theorem dX10_define_61 : decode cX10_define 61 = .ok (.if_icmp .eq 6, 3) := by decide +kernel
theorem dX10_define_64 : decode cX10_define 64 = .ok (.bipush (-3), 2) := by decide +kernel
theorem dX10_define_66 : decode cX10_define 66 = .ok (.ireturn, 1) := by decide +kernel
theorem dX10_define_67 : decode cX10_define 67 = .ok (.aload_n 2, 1) := by decide +kernel
theorem dX10_define_68 : decode cX10_define 68 = .ok (.aload_n 1, 1) := by decide +kernel
theorem dX10_define_69 : decode cX10_define 69 = .ok (.invokevirtual 97, 3) := by decide +kernel
theorem dX10_define_72 : decode cX10_define 72 = .ok (.ireturn, 1) := by decide +kernel
set_option maxRecDepth 20000 in
theorem ggX10_drop_X10_operationAt : GoodIn wsX10_drop wsX10_operationAt := goodIn_r _ [8, 9, 20, 21, 22, 23, 24, 25, 26, 27, 28] rfl (by decide +kernel)
set_option maxRecDepth 20000 in
theorem gX10_drop_X10_operationAt : GoodIn wsX10_drop (wsV RX10 86 RX10 yX10_operationAt wsX10_operationAt) := goodIn_app (goodIn_of _ (by decide +kernel)) ggX10_drop_X10_operationAt
set_option maxRecDepth 20000 in
theorem ggX10_drop_X5_clear : GoodIn wsX10_drop wsX5_clear := goodIn_r _ [14, 15, 16, 17, 18, 19] rfl (by decide +kernel)
set_option maxRecDepth 20000 in
theorem gX10_drop_X5_clear : GoodIn wsX10_drop (wsV RX10 108 RX5 yX5_clear wsX5_clear) := goodIn_app (goodIn_of _ (by decide +kernel)) ggX10_drop_X5_clear
theorem dX10_drop_0 : decode cX10_drop 0 = .ok (.aload_n 0, 1) := by decide +kernel
theorem dX10_drop_1 : decode cX10_drop 1 = .ok (.iload_n 1, 1) := by decide +kernel
theorem dX10_drop_2 : decode cX10_drop 2 = .ok (.invokevirtual 86, 3) := by decide +kernel
theorem dX10_drop_5 : decode cX10_drop 5 = .ok (.astore_n 2, 1) := by decide +kernel
theorem dX10_drop_6 : decode cX10_drop 6 = .ok (.aload_n 2, 1) := by decide +kernel
theorem dX10_drop_7 : decode cX10_drop 7 = .ok (.ifnonnull 13, 3) := by decide +kernel
theorem dX10_drop_10 : decode cX10_drop 10 = .ok (.new 100, 3) := by decide +kernel
theorem dX10_drop_13 : decode cX10_drop 13 = .ok (.dup, 1) := by decide +kernel
theorem dX10_drop_14 : decode cX10_drop 14 = .ok (.ldc 102, 2) := by decide +kernel
theorem dX10_drop_16 : decode cX10_drop 16 = .ok (.invokespecial 104, 3) := by decide +kernel
theorem dX10_drop_19 : decode cX10_drop 19 = .ok (.athrow, 1) := by decide +kernel
theorem dX10_drop_20 : decode cX10_drop 20 = .ok (.aload_n 2, 1) := by decide +kernel
theorem dX10_drop_21 : decode cX10_drop 21 = .ok (.getfield 105, 3) := by decide +kernel
theorem dX10_drop_24 : decode cX10_drop 24 = .ok (.istore_n 3, 1) := by decide +kernel
theorem dX10_drop_25 : decode cX10_drop 25 = .ok (.aload_n 2, 1) := by decide +kernel
theorem dX10_drop_26 : decode cX10_drop 26 = .ok (.invokevirtual 108, 3) := by decide +kernel
theorem dX10_drop_29 : decode cX10_drop 29 = .ok (.iload_n 3, 1) := by decide +kernel
theorem dX10_drop_30 : decode cX10_drop 30 = .ok (.ireturn, 1) := by decide +kernel
theorem dX10_place_0 : decode cX10_place 0 = .ok (.aload_n 0, 1) := by decide +kernel
theorem dX10_place_1 : decode cX10_place 1 = .ok (.getfield 56, 3) := by decide +kernel
theorem dX10_place_4 : decode cX10_place 4 = .ok (.ireturn, 1) := by decide +kernel
set_option maxRecDepth 20000 in
theorem ggX10_simple_X10_thingAt : GoodIn wsX10_simple wsX10_thingAt := goodIn_r _ [8] rfl (by decide +kernel)
set_option maxRecDepth 20000 in
theorem gX10_simple_X10_thingAt : GoodIn wsX10_simple (va_wsS RX10 111 yX10_thingAt wsX10_thingAt) := goodIn_app (goodIn_of _ (by decide +kernel)) ggX10_simple_X10_thingAt
set_option maxRecDepth 20000 in
theorem ggX10_simple_X8_becomeNamed : GoodIn wsX10_simple wsX8_becomeNamed := goodIn_r _ [13, 14, 15, 16, 17, 12, 18, 19, 20, 21, 22, 23, 24, 25, 26, 27, 28, 29, 30, 31, 32, 33, 34, 35, 36, 37, 38, 39, 40, 41, 42, 43, 44, 45, 46, 47, 48, 49, 50, 51, 52, 53, 54, 55, 56, 57, 58, 59, 60, 61, 62, 63, 64, 65, 66, 67, 68, 69, 70, 71, 72, 73, 74, 75, 76, 77, 78, 79, 80, 81, 82, 83, 84, 138, 139, 140, 141, 142, 143, 144, 145, 146] rfl (by decide +kernel)
set_option maxRecDepth 20000 in
theorem gX10_simple_X8_becomeNamed : GoodIn wsX10_simple (wsV RX10 119 RX8 yX8_becomeNamed wsX8_becomeNamed) := goodIn_app (goodIn_of _ (by decide +kernel)) ggX10_simple_X8_becomeNamed
set_option maxRecDepth 20000 in
theorem ggX10_simple_X8_knowNumber : GoodIn wsX10_simple wsX8_knowNumber := goodIn_r _ [88, 22, 21, 138, 139, 140, 141, 142, 143, 144] rfl (by decide +kernel)
set_option maxRecDepth 20000 in
theorem gX10_simple_X8_knowNumber : GoodIn wsX10_simple (wsV RX10 127 RX8 yX8_knowNumber wsX8_knowNumber) := goodIn_app (goodIn_of _ (by decide +kernel)) ggX10_simple_X8_knowNumber
set_option maxRecDepth 20000 in
theorem ggX10_simple_X8_becomeWhole : GoodIn wsX10_simple wsX8_becomeWhole := goodIn_r _ [92, 20, 15, 16, 17, 12, 18, 19, 21, 22, 23, 14, 24, 138, 139, 140, 141, 142, 143, 144, 145, 146] rfl (by decide +kernel)
set_option maxRecDepth 20000 in
theorem gX10_simple_X8_becomeWhole : GoodIn wsX10_simple (wsV RX10 131 RX8 yX8_becomeWhole wsX8_becomeWhole) := goodIn_app (goodIn_of _ (by decide +kernel)) ggX10_simple_X8_becomeWhole
set_option maxRecDepth 20000 in
theorem ggX10_simple_X7_appendLetters : GoodIn wsX10_simple wsX7_appendLetters := goodIn_r _ [29, 30, 31, 32, 33, 34, 35, 36, 37, 38, 39, 40, 41, 42, 43, 44, 45, 46, 47, 48, 49, 50, 51, 52, 53, 54, 55, 56, 57, 58, 59, 60, 61, 62, 63, 64, 65, 66, 67, 68, 69, 70, 71, 72, 73, 74, 75, 76, 77, 78, 79, 80, 81, 28, 82, 83, 84, 145, 146] rfl (by decide +kernel)
set_option maxRecDepth 20000 in
theorem gX10_simple_X7_appendLetters : GoodIn wsX10_simple (wsV RX10 142 RX7 yX7_appendLetters wsX7_appendLetters) := goodIn_app (goodIn_of _ (by decide +kernel)) ggX10_simple_X7_appendLetters
set_option maxRecDepth 20000 in
theorem ggX10_simple_X8_become : GoodIn wsX10_simple wsX8_become := goodIn_r _ [18, 19, 20, 21, 22, 23, 14, 24, 138, 139, 140, 141, 142, 143, 144, 145, 146] rfl (by decide +kernel)
set_option maxRecDepth 20000 in
theorem gX10_simple_X8_become : GoodIn wsX10_simple (wsV RX10 145 RX8 yX8_become wsX8_become) := goodIn_app (goodIn_of _ (by decide +kernel)) ggX10_simple_X8_become
set_option maxRecDepth 20000 in
theorem ggX10_simple_X10_findNumber : GoodIn wsX10_simple wsX10_findNumber := goodIn_r _ [98, 99, 4, 100, 101, 102, 103, 104, 105, 106, 107, 108, 109, 110, 28, 111, 83, 84, 112, 113, 114, 115, 116, 117, 118, 119, 120, 121, 122, 123, 124, 125, 126, 127, 128, 85, 86, 87, 12, 88, 22, 21, 129, 130, 131, 132, 133, 134, 135, 136, 137, 138, 139, 140, 141, 142, 143, 144, 147, 145, 146] rfl (by decide +kernel)
set_option maxRecDepth 20000 in
theorem gX10_simple_X10_findNumber : GoodIn wsX10_simple (wsV RX10 148 RX10 yX10_findNumber wsX10_findNumber) := goodIn_app (goodIn_of _ (by decide +kernel)) ggX10_simple_X10_findNumber
theorem dX10_simple_0 : decode cX10_simple 0 = .ok (.aload_n 0, 1) := by decide +kernel
theorem dX10_simple_1 : decode cX10_simple 1 = .ok (.getfield 35, 3) := by decide +kernel
theorem dX10_simple_4 : decode cX10_simple 4 = .ok (.iload_n 1, 1) := by decide +kernel
theorem dX10_simple_5 : decode cX10_simple 5 = .ok (.invokestatic 111, 3) := by decide +kernel
theorem dX10_simple_8 : decode cX10_simple 8 = .ok (.astore_n 3, 1) := by decide +kernel
theorem dX10_simple_9 : decode cX10_simple 9 = .ok (.aload_n 3, 1) := by decide +kernel
theorem dX10_simple_10 : decode cX10_simple 10 = .ok (.ifnull 12, 3) := by decide +kernel
theorem dX10_simple_13 : decode cX10_simple 13 = .ok (.iload_n 2, 1) := by decide +kernel
theorem dX10_simple_14 : decode cX10_simple 14 = .ok (.ifCond .lt 8, 3) := by decide +kernel
theorem dX10_simple_17 : decode cX10_simple 17 = .ok (.iload_n 2, 1) := by decide +kernel
theorem dX10_simple_18 : decode cX10_simple 18 = .ok (.iconst 4, 1) := by decide +kernel
theorem dX10_simple_19 : decode cX10_simple 19 = .ok (.if_icmp .le 13, 3) := by decide +kernel
theorem dX10_simple_22 : decode cX10_simple 22 = .ok (.new 100, 3) := by decide +kernel
theorem dX10_simple_25 : decode cX10_simple 25 = .ok (.dup, 1) := by decide +kernel
theorem dX10_simple_26 : decode cX10_simple 26 = .ok (.ldc 115, 2) := by decide +kernel
theorem dX10_simple_28 : decode cX10_simple 28 = .ok (.invokespecial 104, 3) := by decide +kernel
theorem dX10_simple_31 : decode cX10_simple 31 = .ok (.athrow, 1) := by decide +kernel
theorem dX10_simple_32 : decode cX10_simple 32 = .ok (.iload_n 2, 1) := by decide +kernel
theorem dX10_simple_33 : decode cX10_simple 33 = .ok (.ifCond .ne 14, 3) := by decide +kernel
theorem dX10_simple_36 : decode cX10_simple 36 = .ok (.aload_n 3, 1) := by decide +kernel
theorem dX10_simple_37 : decode cX10_simple 37 = .ok (.bipush 7, 2) := by decide +kernel
theorem dX10_simple_39 : decode cX10_simple 39 = .ok (.ldc 117, 2) := by decide +kernel
theorem dX10_simple_41 : decode cX10_simple 41 = .ok (.invokevirtual 119, 3) := by decide +kernel
theorem dX10_simple_44 : decode cX10_simple 44 = .ok (.goto 81, 3) := by decide +kernel
theorem dX10_simple_47 : decode cX10_simple 47 = .ok (.iload_n 2, 1) := by decide +kernel
theorem dX10_simple_48 : decode cX10_simple 48 = .ok (.iconst 1, 1) := by decide +kernel
theorem dX10_simple_49 : decode cX10_simple 49 = .ok (.if_icmp .ne 20, 3) := by decide +kernel
theorem dX10_simple_52 : decode cX10_simple 52 = .ok (.aload_n 3, 1) := by decide +kernel
theorem dX10_simple_53 : decode cX10_simple 53 = .ok (.bipush 8, 2) := by decide +kernel
theorem dX10_simple_55 : decode cX10_simple 55 = .ok (.ldc 125, 2) := by decide +kernel
theorem dX10_simple_57 : decode cX10_simple 57 = .ok (.invokevirtual 119, 3) := by decide +kernel
theorem dX10_simple_60 : decode cX10_simple 60 = .ok (.aload_n 3, 1) := by decide +kernel
theorem dX10_simple_61 : decode cX10_simple 61 = .ok (.iconst 1, 1) := by decide +kernel
theorem dX10_simple_62 : decode cX10_simple 62 = .ok (.dconst 0, 1) := by decide +kernel
theorem dX10_simple_63 : decode cX10_simple 63 = .ok (.invokevirtual 127, 3) := by decide +kernel
theorem dX10_simple_66 : decode cX10_simple 66 = .ok (.goto 59, 3) := by decide +kernel
theorem dX10_simple_69 : decode cX10_simple 69 = .ok (.iload_n 2, 1) := by decide +kernel
theorem dX10_simple_70 : decode cX10_simple 70 = .ok (.iconst 4, 1) := by decide +kernel
theorem dX10_simple_71 : decode cX10_simple 71 = .ok (.if_icmp .ge 43, 3) := by decide +kernel
theorem dX10_simple_74 : decode cX10_simple 74 = .ok (.aload_n 3, 1) := by decide +kernel
theorem dX10_simple_75 : decode cX10_simple 75 = .ok (.iconst 2, 1) := by decide +kernel
theorem dX10_simple_76 : decode cX10_simple 76 = .ok (.iload_n 2, 1) := by decide +kernel
theorem dX10_simple_77 : decode cX10_simple 77 = .ok (.iconst 2, 1) := by decide +kernel
theorem dX10_simple_78 : decode cX10_simple 78 = .ok (.isub, 1) := by decide +kernel
theorem dX10_simple_79 : decode cX10_simple 79 = .ok (.i2l, 1) := by decide +kernel
theorem dX10_simple_80 : decode cX10_simple 80 = .ok (.invokevirtual 131, 3) := by decide +kernel
theorem dX10_simple_83 : decode cX10_simple 83 = .ok (.aload_n 3, 1) := by decide +kernel
theorem dX10_simple_84 : decode cX10_simple 84 = .ok (.getfield 135, 3) := by decide +kernel
theorem dX10_simple_87 : decode cX10_simple 87 = .ok (.iload_n 2, 1) := by decide +kernel
theorem dX10_simple_88 : decode cX10_simple 88 = .ok (.iconst 2, 1) := by decide +kernel
theorem dX10_simple_89 : decode cX10_simple 89 = .ok (.if_icmp .ne 8, 3) := by decide +kernel
theorem dX10_simple_92 : decode cX10_simple 92 = .ok (.ldc 138, 2) := by decide +kernel
theorem dX10_simple_94 : decode cX10_simple 94 = .ok (.goto 5, 3) := by decide +kernel
theorem dX10_simple_97 : decode cX10_simple 97 = .ok (.ldc 140, 2) := by decide +kernel
theorem dX10_simple_99 : decode cX10_simple 99 = .ok (.invokevirtual 142, 3) := by decide +kernel
theorem dX10_simple_102 : decode cX10_simple 102 = .ok (.aload_n 3, 1) := by decide +kernel
theorem dX10_simple_103 : decode cX10_simple 103 = .ok (.iconst 1, 1) := by decide +kernel
theorem dX10_simple_104 : decode cX10_simple 104 = .ok (.iload_n 2, 1) := by decide +kernel
theorem dX10_simple_105 : decode cX10_simple 105 = .ok (.iconst 2, 1) := by decide +kernel
theorem dX10_simple_106 : decode cX10_simple 106 = .ok (.isub, 1) := by decide +kernel
theorem dX10_simple_107 : decode cX10_simple 107 = .ok (.i2d, 1) := by decide +kernel
theorem dX10_simple_108 : decode cX10_simple 108 = .ok (.invokevirtual 127, 3) := by decide +kernel
theorem dX10_simple_111 : decode cX10_simple 111 = .ok (.goto 14, 3) := by decide +kernel
theorem dX10_simple_114 : decode cX10_simple 114 = .ok (.aload_n 3, 1) := by decide +kernel
theorem dX10_simple_115 : decode cX10_simple 115 = .ok (.bipush 6, 2) := by decide +kernel
theorem dX10_simple_117 : decode cX10_simple 117 = .ok (.invokevirtual 145, 3) := by decide +kernel
theorem dX10_simple_120 : decode cX10_simple 120 = .ok (.aload_n 0, 1) := by decide +kernel
theorem dX10_simple_121 : decode cX10_simple 121 = .ok (.aload_n 3, 1) := by decide +kernel
theorem dX10_simple_122 : decode cX10_simple 122 = .ok (.invokevirtual 148, 3) := by decide +kernel
theorem dX10_simple_125 : decode cX10_simple 125 = .ok (.return_, 1) := by decide +kernel
set_option maxRecDepth 20000 in
theorem ggX10_number_X10_thingAt : GoodIn wsX10_number wsX10_thingAt := goodIn_r _ [8] rfl (by decide +kernel)
set_option maxRecDepth 20000 in
theorem gX10_number_X10_thingAt : GoodIn wsX10_number (va_wsS RX10 111 yX10_thingAt wsX10_thingAt) := goodIn_app (goodIn_of _ (by decide +kernel)) ggX10_number_X10_thingAt
set_option maxRecDepth 20000 in
theorem ggX10_number_X10_canBeTold : GoodIn wsX10_number wsX10_canBeTold := goodIn_r _ [11, 12, 13, 14] rfl (by decide +kernel)
set_option maxRecDepth 20000 in
theorem gX10_number_X10_canBeTold : GoodIn wsX10_number (va_wsS RX10 152 yX10_canBeTold wsX10_canBeTold) := goodIn_app (goodIn_of _ (by decide +kernel)) ggX10_number_X10_canBeTold
set_option maxRecDepth 20000 in
theorem ggX10_number_X8_becomeDouble : GoodIn wsX10_number wsX8_becomeDouble := goodIn_r _ [19, 20, 21, 22, 18, 23, 24, 25, 26, 27, 28, 29, 30, 31, 32, 33, 34, 66, 67, 68, 69, 70, 71, 72, 73, 74] rfl (by decide +kernel)
set_option maxRecDepth 20000 in
theorem gX10_number_X8_becomeDouble : GoodIn wsX10_number (wsV RX10 158 RX8 yX8_becomeDouble wsX8_becomeDouble) := goodIn_app (goodIn_of _ (by decide +kernel)) ggX10_number_X8_becomeDouble
set_option maxRecDepth 20000 in
theorem ggX10_number_X7_appendNumber : GoodIn wsX10_number wsX7_appendNumber := goodIn_r _ [39, 40, 41, 42, 43, 44, 45, 46, 47, 48, 38, 49, 50, 51, 52, 53, 54, 55, 56, 73, 74] rfl (by decide +kernel)
set_option maxRecDepth 20000 in
theorem gX10_number_X7_appendNumber : GoodIn wsX10_number (wsV RX10 162 RX7 yX7_appendNumber wsX7_appendNumber) := goodIn_app (goodIn_of _ (by decide +kernel)) ggX10_number_X7_appendNumber
theorem dX10_number_0 : decode cX10_number 0 = .ok (.aload_n 0, 1) := by decide +kernel
theorem dX10_number_1 : decode cX10_number 1 = .ok (.getfield 35, 3) := by decide +kernel
theorem dX10_number_4 : decode cX10_number 4 = .ok (.iload_n 1, 1) := by decide +kernel
theorem dX10_number_5 : decode cX10_number 5 = .ok (.invokestatic 111, 3) := by decide +kernel
theorem dX10_number_8 : decode cX10_number 8 = .ok (.astore 4, 2) := by decide +kernel
theorem dX10_number_10 : decode cX10_number 10 = .ok (.aload 4, 2) := by decide +kernel
theorem dX10_number_12 : decode cX10_number 12 = .ok (.ifnull 10, 3) := by decide +kernel
theorem dX10_number_15 : decode cX10_number 15 = .ok (.dload_n 2, 1) := by decide +kernel
theorem dX10_number_16 : decode cX10_number 16 = .ok (.invokestatic 152, 3) := by decide +kernel
theorem dX10_number_19 : decode cX10_number 19 = .ok (.ifCond .ne 13, 3) := by decide +kernel
theorem dX10_number_22 : decode cX10_number 22 = .ok (.new 100, 3) := by decide +kernel
theorem dX10_number_25 : decode cX10_number 25 = .ok (.dup, 1) := by decide +kernel
theorem dX10_number_26 : decode cX10_number 26 = .ok (.ldc 156, 2) := by decide +kernel
theorem dX10_number_28 : decode cX10_number 28 = .ok (.invokespecial 104, 3) := by decide +kernel
theorem dX10_number_31 : decode cX10_number 31 = .ok (.athrow, 1) := by decide +kernel
theorem dX10_number_32 : decode cX10_number 32 = .ok (.aload 4, 2) := by decide +kernel
theorem dX10_number_34 : decode cX10_number 34 = .ok (.dload_n 2, 1) := by decide +kernel
theorem dX10_number_35 : decode cX10_number 35 = .ok (.invokevirtual 158, 3) := by decide +kernel
theorem dX10_number_38 : decode cX10_number 38 = .ok (.aload 4, 2) := by decide +kernel
theorem dX10_number_40 : decode cX10_number 40 = .ok (.getfield 135, 3) := by decide +kernel
theorem dX10_number_43 : decode cX10_number 43 = .ok (.dload_n 2, 1) := by decide +kernel
theorem dX10_number_44 : decode cX10_number 44 = .ok (.invokevirtual 162, 3) := by decide +kernel
theorem dX10_number_47 : decode cX10_number 47 = .ok (.return_, 1) := by decide +kernel
set_option maxRecDepth 20000 in
theorem ggX10_text_X10_thingAt : GoodIn wsX10_text wsX10_thingAt := goodIn_r _ [9] rfl (by decide +kernel)
set_option maxRecDepth 20000 in
theorem gX10_text_X10_thingAt : GoodIn wsX10_text (va_wsS RX10 111 yX10_thingAt wsX10_thingAt) := goodIn_app (goodIn_of _ (by decide +kernel)) ggX10_text_X10_thingAt
set_option maxRecDepth 20000 in
theorem ggX10_text_X8_become : GoodIn wsX10_text wsX8_become := goodIn_r _ [14, 15, 16, 17, 18, 19, 20, 21, 80, 81, 82, 83, 84, 85, 86, 87, 88] rfl (by decide +kernel)
set_option maxRecDepth 20000 in
theorem gX10_text_X8_become : GoodIn wsX10_text (wsV RX10 145 RX8 yX8_become wsX8_become) := goodIn_app (goodIn_of _ (by decide +kernel)) ggX10_text_X8_become
set_option maxRecDepth 20000 in
theorem ggX10_text_X7_appendSigns : GoodIn wsX10_text wsX7_appendSigns := goodIn_r _ [26, 27, 28, 29, 25, 30, 31, 32, 87, 88] rfl (by decide +kernel)
set_option maxRecDepth 20000 in
theorem gX10_text_X7_appendSigns : GoodIn wsX10_text (wsV RX10 74 RX7 yX7_appendSigns wsX7_appendSigns) := goodIn_app (goodIn_of _ (by decide +kernel)) ggX10_text_X7_appendSigns
set_option maxRecDepth 20000 in
theorem ggX10_text_X10_findNumber : GoodIn wsX10_text wsX10_findNumber := goodIn_r _ [36, 37, 4, 38, 39, 40, 41, 42, 43, 44, 45, 46, 47, 48, 25, 49, 31, 32, 50, 51, 52, 53, 54, 55, 56, 57, 58, 59, 60, 61, 62, 63, 64, 65, 66, 67, 68, 69, 13, 70, 18, 17, 71, 72, 73, 74, 75, 76, 77, 78, 79, 80, 81, 82, 83, 84, 85, 86, 89, 87, 88] rfl (by decide +kernel)
set_option maxRecDepth 20000 in
theorem gX10_text_X10_findNumber : GoodIn wsX10_text (wsV RX10 148 RX10 yX10_findNumber wsX10_findNumber) := goodIn_app (goodIn_of _ (by decide +kernel)) ggX10_text_X10_findNumber
theorem dX10_text_0 : decode cX10_text 0 = .ok (.aload_n 0, 1) := by decide +kernel
theorem dX10_text_1 : decode cX10_text 1 = .ok (.getfield 35, 3) := by decide +kernel
theorem dX10_text_4 : decode cX10_text 4 = .ok (.iload_n 1, 1) := by decide +kernel
theorem dX10_text_5 : decode cX10_text 5 = .ok (.invokestatic 111, 3) := by decide +kernel
theorem dX10_text_8 : decode cX10_text 8 = .ok (.astore 5, 2) := by decide +kernel
theorem dX10_text_10 : decode cX10_text 10 = .ok (.aload 5, 2) := by decide +kernel
theorem dX10_text_12 : decode cX10_text 12 = .ok (.ifnonnull 13, 3) := by decide +kernel
theorem dX10_text_15 : decode cX10_text 15 = .ok (.new 100, 3) := by decide +kernel
theorem dX10_text_18 : decode cX10_text 18 = .ok (.dup, 1) := by decide +kernel
theorem dX10_text_19 : decode cX10_text 19 = .ok (.ldc 165, 2) := by decide +kernel
theorem dX10_text_21 : decode cX10_text 21 = .ok (.invokespecial 104, 3) := by decide +kernel
theorem dX10_text_24 : decode cX10_text 24 = .ok (.athrow, 1) := by decide +kernel
theorem dX10_text_25 : decode cX10_text 25 = .ok (.aload 5, 2) := by decide +kernel
theorem dX10_text_27 : decode cX10_text 27 = .ok (.iconst 5, 1) := by decide +kernel
theorem dX10_text_28 : decode cX10_text 28 = .ok (.invokevirtual 145, 3) := by decide +kernel
theorem dX10_text_31 : decode cX10_text 31 = .ok (.aload 5, 2) := by decide +kernel
theorem dX10_text_33 : decode cX10_text 33 = .ok (.getfield 135, 3) := by decide +kernel
theorem dX10_text_36 : decode cX10_text 36 = .ok (.iload_n 2, 1) := by decide +kernel
theorem dX10_text_37 : decode cX10_text 37 = .ok (.invokevirtual 74, 3) := by decide +kernel
theorem dX10_text_40 : decode cX10_text 40 = .ok (.aload 5, 2) := by decide +kernel
theorem dX10_text_42 : decode cX10_text 42 = .ok (.getfield 135, 3) := by decide +kernel
theorem dX10_text_45 : decode cX10_text 45 = .ok (.iload_n 3, 1) := by decide +kernel
theorem dX10_text_46 : decode cX10_text 46 = .ok (.invokevirtual 74, 3) := by decide +kernel
theorem dX10_text_49 : decode cX10_text 49 = .ok (.aload 5, 2) := by decide +kernel
theorem dX10_text_51 : decode cX10_text 51 = .ok (.getfield 135, 3) := by decide +kernel
theorem dX10_text_54 : decode cX10_text 54 = .ok (.iload 4, 2) := by decide +kernel
theorem dX10_text_56 : decode cX10_text 56 = .ok (.invokevirtual 74, 3) := by decide +kernel
theorem dX10_text_59 : decode cX10_text 59 = .ok (.aload_n 0, 1) := by decide +kernel
theorem dX10_text_60 : decode cX10_text 60 = .ok (.aload 5, 2) := by decide +kernel
theorem dX10_text_62 : decode cX10_text 62 = .ok (.invokevirtual 148, 3) := by decide +kernel
theorem dX10_text_65 : decode cX10_text 65 = .ok (.aload 5, 2) := by decide +kernel
theorem dX10_text_67 : decode cX10_text 67 = .ok (.getfield 135, 3) := by decide +kernel
theorem dX10_text_70 : decode cX10_text 70 = .ok (.getfield 64, 3) := by decide +kernel
theorem dX10_text_73 : decode cX10_text 73 = .ok (.ireturn, 1) := by decide +kernel
set_option maxRecDepth 20000 in
theorem ggX10_add_X10_thingAt : GoodIn wsX10_add wsX10_thingAt := goodIn_r _ [11] rfl (by decide +kernel)
set_option maxRecDepth 20000 in
theorem gX10_add_X10_thingAt : GoodIn wsX10_add (va_wsS RX10 111 yX10_thingAt wsX10_thingAt) := goodIn_app (goodIn_of _ (by decide +kernel)) ggX10_add_X10_thingAt
set_option maxRecDepth 20000 in
theorem ggX10_add_X8_appendItem : GoodIn wsX10_add wsX8_appendItem := goodIn_r _ [16, 17, 18, 19, 20, 21, 22, 15, 23, 24, 9, 10, 11, 25, 26, 27, 28, 29, 30, 31, 32, 33, 34, 35, 36, 37, 38, 39, 40, 41, 42, 43, 44, 45, 46, 47, 48, 49, 50, 51, 52, 53, 54, 55, 56, 57, 58, 59, 102, 103, 104, 105, 106, 107, 108, 109, 110] rfl (by decide +kernel)
set_option maxRecDepth 20000 in
theorem gX10_add_X8_appendItem : GoodIn wsX10_add (wsV RX10 177 RX8 yX8_appendItem wsX8_appendItem) := goodIn_app (goodIn_of _ (by decide +kernel)) ggX10_add_X8_appendItem
set_option maxRecDepth 20000 in
theorem ggX10_add_X10_findNumber : GoodIn wsX10_add wsX10_findNumber := goodIn_r _ [63, 64, 65, 66, 67, 68, 69, 70, 71, 72, 73, 74, 57, 58, 44, 59, 46, 47, 75, 76, 77, 78, 79, 80, 81, 82, 83, 84, 85, 86, 87, 88, 89, 90, 91, 92, 38, 39, 15, 40, 31, 32, 93, 94, 95, 96, 97, 98, 99, 100, 101, 102, 103, 104, 105, 106, 107, 108, 111, 109, 110] rfl (by decide +kernel)
set_option maxRecDepth 20000 in
theorem gX10_add_X10_findNumber : GoodIn wsX10_add (wsV RX10 148 RX10 yX10_findNumber wsX10_findNumber) := goodIn_app (goodIn_of _ (by decide +kernel)) ggX10_add_X10_findNumber
theorem dX10_add_0 : decode cX10_add 0 = .ok (.aload_n 0, 1) := by decide +kernel
theorem dX10_add_1 : decode cX10_add 1 = .ok (.getfield 35, 3) := by decide +kernel
theorem dX10_add_4 : decode cX10_add 4 = .ok (.iload_n 1, 1) := by decide +kernel
theorem dX10_add_5 : decode cX10_add 5 = .ok (.invokestatic 111, 3) := by decide +kernel
theorem dX10_add_8 : decode cX10_add 8 = .ok (.astore_n 3, 1) := by decide +kernel
theorem dX10_add_9 : decode cX10_add 9 = .ok (.aload_n 0, 1) := by decide +kernel
theorem dX10_add_10 : decode cX10_add 10 = .ok (.getfield 35, 3) := by decide +kernel
theorem dX10_add_13 : decode cX10_add 13 = .ok (.iload_n 2, 1) := by decide +kernel
theorem dX10_add_14 : decode cX10_add 14 = .ok (.invokestatic 111, 3) := by decide +kernel
theorem dX10_add_17 : decode cX10_add 17 = .ok (.astore 4, 2) := by decide +kernel
theorem dX10_add_19 : decode cX10_add 19 = .ok (.aload_n 3, 1) := by decide +kernel
theorem dX10_add_20 : decode cX10_add 20 = .ok (.ifnull 8, 3) := by decide +kernel
theorem dX10_add_23 : decode cX10_add 23 = .ok (.aload 4, 2) := by decide +kernel
theorem dX10_add_25 : decode cX10_add 25 = .ok (.ifnonnull 13, 3) := by decide +kernel
theorem dX10_add_28 : decode cX10_add 28 = .ok (.new 100, 3) := by decide +kernel
theorem dX10_add_31 : decode cX10_add 31 = .ok (.dup, 1) := by decide +kernel
theorem dX10_add_32 : decode cX10_add 32 = .ok (.ldc 167, 2) := by decide +kernel
theorem dX10_add_34 : decode cX10_add 34 = .ok (.invokespecial 104, 3) := by decide +kernel
theorem dX10_add_37 : decode cX10_add 37 = .ok (.athrow, 1) := by decide +kernel
theorem dX10_add_38 : decode cX10_add 38 = .ok (.aload_n 3, 1) := by decide +kernel
theorem dX10_add_39 : decode cX10_add 39 = .ok (.getfield 169, 3) := by decide +kernel
theorem dX10_add_42 : decode cX10_add 42 = .ok (.bipush 6, 2) := by decide +kernel
theorem dX10_add_44 : decode cX10_add 44 = .ok (.if_icmp .ne 21, 3) := by decide +kernel
theorem dX10_add_47 : decode cX10_add 47 = .ok (.aload 4, 2) := by decide +kernel
theorem dX10_add_49 : decode cX10_add 49 = .ok (.getfield 169, 3) := by decide +kernel
theorem dX10_add_52 : decode cX10_add 52 = .ok (.bipush 6, 2) := by decide +kernel
theorem dX10_add_54 : decode cX10_add 54 = .ok (.if_icmp .eq 11, 3) := by decide +kernel
theorem dX10_add_57 : decode cX10_add 57 = .ok (.aload_n 3, 1) := by decide +kernel
theorem dX10_add_58 : decode cX10_add 58 = .ok (.getfield 172, 3) := by decide +kernel
theorem dX10_add_61 : decode cX10_add 61 = .ok (.iconst 5, 1) := by decide +kernel
theorem dX10_add_62 : decode cX10_add 62 = .ok (.if_icmp .lt 13, 3) := by decide +kernel
theorem dX10_add_65 : decode cX10_add 65 = .ok (.new 67, 3) := by decide +kernel
theorem dX10_add_68 : decode cX10_add 68 = .ok (.dup, 1) := by decide +kernel
theorem dX10_add_69 : decode cX10_add 69 = .ok (.ldc 175, 2) := by decide +kernel
theorem dX10_add_71 : decode cX10_add 71 = .ok (.invokespecial 71, 3) := by decide +kernel
theorem dX10_add_74 : decode cX10_add 74 = .ok (.athrow, 1) := by decide +kernel
theorem dX10_add_75 : decode cX10_add 75 = .ok (.aload_n 3, 1) := by decide +kernel
theorem dX10_add_76 : decode cX10_add 76 = .ok (.aload 4, 2) := by decide +kernel
theorem dX10_add_78 : decode cX10_add 78 = .ok (.invokevirtual 177, 3) := by decide +kernel
theorem dX10_add_81 : decode cX10_add 81 = .ok (.aload_n 0, 1) := by decide +kernel
theorem dX10_add_82 : decode cX10_add 82 = .ok (.aload_n 3, 1) := by decide +kernel
theorem dX10_add_83 : decode cX10_add 83 = .ok (.invokevirtual 148, 3) := by decide +kernel
theorem dX10_add_86 : decode cX10_add 86 = .ok (.aload_n 3, 1) := by decide +kernel
theorem dX10_add_87 : decode cX10_add 87 = .ok (.getfield 172, 3) := by decide +kernel
theorem dX10_add_90 : decode cX10_add 90 = .ok (.ireturn, 1) := by decide +kernel
set_option maxRecDepth 20000 in
theorem ggX10_call_X10_operationAt : GoodIn wsX10_call wsX10_operationAt := goodIn_r _ [15, 16, 294, 295, 296, 297, 298, 299, 300, 301, 302] rfl (by decide +kernel)
set_option maxRecDepth 20000 in
theorem gX10_call_X10_operationAt : GoodIn wsX10_call (wsV RX10 86 RX10 yX10_operationAt wsX10_operationAt) := goodIn_app (goodIn_of _ (by decide +kernel)) ggX10_call_X10_operationAt
set_option maxRecDepth 20000 in
theorem ggX10_call_X5_mostArguments : GoodIn wsX10_call wsX5_mostArguments := goodIn_r _ [21, 22, 23, 8, 5, 9, 24, 25, 26, 20, 27, 28, 29, 30, 31, 32, 33, 34, 35, 303, 304, 305, 306, 307, 308, 309, 310, 311] rfl (by decide +kernel)
set_option maxRecDepth 20000 in
theorem gX10_call_X5_mostArguments : GoodIn wsX10_call (wsV RX10 182 RX5 yX5_mostArguments wsX5_mostArguments) := goodIn_app (goodIn_of _ (by decide +kernel)) ggX10_call_X5_mostArguments
set_option maxRecDepth 20000 in
theorem ggX10_call_X5_gather : GoodIn wsX10_call wsX5_gather := goodIn_r _ [39, 40, 22, 24, 25, 26, 20, 27, 28, 41, 42, 43, 44, 45, 46, 47, 48, 32, 49, 50, 51, 52, 53, 35, 54, 55, 56, 57, 34, 58, 4, 5, 6, 59, 60, 61, 62, 63, 64, 65, 66, 67, 30, 31, 33, 303, 304, 305, 306, 307, 308, 309, 310, 311, 312, 313, 314] rfl (by decide +kernel)
set_option maxRecDepth 20000 in
theorem gX10_call_X5_gather : GoodIn wsX10_call (wsV RX10 192 RX5 yX5_gather wsX5_gather) := goodIn_app (goodIn_of _ (by decide +kernel)) ggX10_call_X5_gather
set_option maxRecDepth 20000 in
theorem ggX10_call_X5_ableAt : GoodIn wsX10_call wsX5_ableAt := goodIn_r _ [71, 40, 45, 303, 304, 305, 306] rfl (by decide +kernel)
set_option maxRecDepth 20000 in
theorem gX10_call_X5_ableAt : GoodIn wsX10_call (wsV RX10 196 RX5 yX5_ableAt wsX5_ableAt) := goodIn_app (goodIn_of _ (by decide +kernel)) ggX10_call_X5_ableAt
set_option maxRecDepth 20000 in
theorem ggX10_call_X10_refuseAt : GoodIn wsX10_call wsX10_refuseAt := goodIn_r _ [75, 76, 294, 295, 296, 297, 298, 299, 300, 301, 302] rfl (by decide +kernel)
set_option maxRecDepth 20000 in
theorem gX10_call_X10_refuseAt : GoodIn wsX10_call (wsV RX10 200 RX10 yX10_refuseAt wsX10_refuseAt) := goodIn_app (goodIn_of _ (by decide +kernel)) ggX10_call_X10_refuseAt
set_option maxRecDepth 20000 in
theorem ggX10_call_X5_decidingFor : GoodIn wsX10_call wsX5_decidingFor := goodIn_r _ [80, 40, 81, 82, 83, 20, 84, 85, 86, 87, 88, 89, 90, 91, 92, 93, 94, 69, 70, 71, 45, 95, 55, 56, 32, 57, 34, 35, 58, 4, 5, 6, 59, 96, 97, 98, 99, 100, 101, 102, 103, 104, 105, 106, 107, 108, 109, 110, 63, 111, 65, 66, 112, 113, 114, 115, 116, 117, 118, 119, 120, 121, 122, 123, 124, 125, 126, 127, 303, 304, 305, 306, 312, 313, 314, 307, 308, 309, 310, 311, 315, 316, 317, 318, 319] rfl (by decide +kernel)
set_option maxRecDepth 20000 in
theorem gX10_call_X5_decidingFor : GoodIn wsX10_call (wsV RX10 203 RX5 yX5_decidingFor wsX5_decidingFor) := goodIn_app (goodIn_of _ (by decide +kernel)) ggX10_call_X5_decidingFor
set_option maxRecDepth 20000 in
theorem ggX10_call_X10_convertSlots : GoodIn wsX10_call wsX10_convertSlots := goodIn_r _ [131, 10, 132, 133, 55, 56, 32, 57, 34, 35, 58, 4, 5, 6, 59, 134, 135, 14, 136, 137, 138, 139, 140, 141, 142, 143, 144, 145, 146, 61, 62, 63, 64, 65, 66, 147, 148, 149, 150, 151, 152, 153, 154, 155, 156, 157, 158, 159, 160, 161, 162, 163, 164, 165, 166, 167, 168, 169, 170, 171, 172, 173, 174, 175, 176, 177, 178, 179, 180, 181, 182, 183, 184, 185, 186, 187, 188, 189, 190, 191, 192, 193, 194, 195, 196, 197, 198, 199, 200, 201, 202, 203, 204, 205, 206, 207, 208, 209, 210, 211, 212, 213, 214, 215, 216, 217, 218, 219, 220, 221, 222, 223, 224, 225, 226, 227, 228, 229, 230, 231, 232, 233, 234, 235, 236, 237, 238, 239, 240, 241, 242, 243, 244, 245, 246, 247, 248, 249, 250, 251, 252, 99, 253, 127, 254, 255, 256, 257, 258, 259, 294, 295, 296, 297, 298, 299, 300, 301, 302, 307, 308, 309, 310, 311, 320, 321, 322, 323, 324, 325, 326, 312, 313, 314, 315, 316, 317, 318, 319, 327, 328] rfl (by decide +kernel)
set_option maxRecDepth 20000 in
theorem gX10_call_X10_convertSlots : GoodIn wsX10_call (wsV RX10 209 RX10 yX10_convertSlots wsX10_convertSlots) := goodIn_app (goodIn_of _ (by decide +kernel)) ggX10_call_X10_convertSlots
set_option maxRecDepth 20000 in
theorem ggX10_call_X10_thingAt : GoodIn wsX10_call wsX10_thingAt := goodIn_r _ [136] rfl (by decide +kernel)
set_option maxRecDepth 20000 in
theorem gX10_call_X10_thingAt : GoodIn wsX10_call (va_wsS RX10 111 yX10_thingAt wsX10_thingAt) := goodIn_app (goodIn_of _ (by decide +kernel)) ggX10_call_X10_thingAt
set_option maxRecDepth 20000 in
theorem ggX10_call_X5_choose : GoodIn wsX10_call wsX5_choose := goodIn_r _ [263, 264, 265, 266, 267, 20, 268, 40, 90, 91, 92, 93, 94, 69, 70, 71, 45, 95, 55, 56, 32, 57, 34, 35, 58, 4, 5, 6, 59, 269, 61, 62, 63, 64, 65, 66, 270, 160, 161, 150, 162, 152, 271, 272, 273, 274, 275, 85, 86, 87, 88, 89, 276, 277, 278, 279, 280, 281, 282, 283, 284, 320, 321, 322, 323, 324, 325, 326, 303, 304, 305, 306, 307, 308, 309, 310, 311, 312, 313, 314, 315, 316, 317, 318, 319] rfl (by decide +kernel)
set_option maxRecDepth 20000 in
theorem gX10_call_X5_choose : GoodIn wsX10_call (wsV RX10 213 RX5 yX5_choose wsX5_choose) := goodIn_app (goodIn_of _ (by decide +kernel)) ggX10_call_X5_choose
set_option maxRecDepth 20000 in
theorem ggX10_call_X10_finish : GoodIn wsX10_call wsX10_finish := goodIn_r _ [288, 289, 132, 290, 7, 8, 5, 9, 291, 76, 292, 134, 135, 14, 136, 293, 148, 149, 150, 151, 152, 153, 154, 155, 156, 157, 158, 307, 308, 309, 310, 311, 294, 295, 296, 297, 298, 299, 300, 301, 302, 320, 321, 322, 323, 324, 325, 326, 327, 328] rfl (by decide +kernel)
set_option maxRecDepth 20000 in
theorem gX10_call_X10_finish : GoodIn wsX10_call (wsV RX10 217 RX10 yX10_finish wsX10_finish) := goodIn_app (goodIn_of _ (by decide +kernel)) ggX10_call_X10_finish
theorem dX10_call_0 : decode cX10_call 0 = .ok (.aload_n 0, 1) := by decide +kernel
theorem dX10_call_1 : decode cX10_call 1 = .ok (.iload_n 1, 1) := by decide +kernel
theorem dX10_call_2 : decode cX10_call 2 = .ok (.invokevirtual 86, 3) := by decide +kernel
theorem dX10_call_5 : decode cX10_call 5 = .ok (.astore_n 3, 1) := by decide +kernel
theorem dX10_call_6 : decode cX10_call 6 = .ok (.aload_n 3, 1) := by decide +kernel
theorem dX10_call_7 : decode cX10_call 7 = .ok (.ifnull 13, 3) := by decide +kernel
theorem dX10_call_10 : decode cX10_call 10 = .ok (.iload_n 2, 1) := by decide +kernel
theorem dX10_call_11 : decode cX10_call 11 = .ok (.ifCond .lt 9, 3) := by decide +kernel
theorem dX10_call_14 : decode cX10_call 14 = .ok (.iload_n 2, 1) := by decide +kernel
theorem dX10_call_15 : decode cX10_call 15 = .ok (.bipush 8, 2) := by decide +kernel
theorem dX10_call_17 : decode cX10_call 17 = .ok (.if_icmp .le 13, 3) := by decide +kernel
theorem dX10_call_20 : decode cX10_call 20 = .ok (.new 100, 3) := by decide +kernel
theorem dX10_call_23 : decode cX10_call 23 = .ok (.dup, 1) := by decide +kernel
theorem dX10_call_24 : decode cX10_call 24 = .ok (.ldc 180, 2) := by decide +kernel
theorem dX10_call_26 : decode cX10_call 26 = .ok (.invokespecial 104, 3) := by decide +kernel
theorem dX10_call_29 : decode cX10_call 29 = .ok (.athrow, 1) := by decide +kernel
theorem dX10_call_30 : decode cX10_call 30 = .ok (.iload_n 2, 1) := by decide +kernel
theorem dX10_call_31 : decode cX10_call 31 = .ok (.aload_n 3, 1) := by decide +kernel
theorem dX10_call_32 : decode cX10_call 32 = .ok (.invokevirtual 182, 3) := by decide +kernel
theorem dX10_call_35 : decode cX10_call 35 = .ok (.invokestatic 186, 3) := by decide +kernel
theorem dX10_call_38 : decode cX10_call 38 = .ok (.istore 4, 2) := by decide +kernel
theorem dX10_call_40 : decode cX10_call 40 = .ok (.aload_n 3, 1) := by decide +kernel
theorem dX10_call_41 : decode cX10_call 41 = .ok (.iload 4, 2) := by decide +kernel
theorem dX10_call_43 : decode cX10_call 43 = .ok (.aconst_null, 1) := by decide +kernel
theorem dX10_call_44 : decode cX10_call 44 = .ok (.invokevirtual 192, 3) := by decide +kernel
theorem dX10_call_47 : decode cX10_call 47 = .ok (.aload_n 3, 1) := by decide +kernel
theorem dX10_call_48 : decode cX10_call 48 = .ok (.iconst 0, 1) := by decide +kernel
theorem dX10_call_49 : decode cX10_call 49 = .ok (.invokevirtual 196, 3) := by decide +kernel
theorem dX10_call_52 : decode cX10_call 52 = .ok (.astore 5, 2) := by decide +kernel
theorem dX10_call_54 : decode cX10_call 54 = .ok (.aload 5, 2) := by decide +kernel
theorem dX10_call_56 : decode cX10_call 56 = .ok (.ifnonnull 9, 3) := by decide +kernel
theorem dX10_call_59 : decode cX10_call 59 = .ok (.aload_n 0, 1) := by decide +kernel
theorem dX10_call_60 : decode cX10_call 60 = .ok (.iload_n 2, 1) := by decide +kernel
theorem dX10_call_61 : decode cX10_call 61 = .ok (.invokevirtual 200, 3) := by decide +kernel
theorem dX10_call_64 : decode cX10_call 64 = .ok (.ireturn, 1) := by decide +kernel
theorem dX10_call_65 : decode cX10_call 65 = .ok (.aload_n 3, 1) := by decide +kernel
theorem dX10_call_66 : decode cX10_call 66 = .ok (.iload 4, 2) := by decide +kernel
theorem dX10_call_68 : decode cX10_call 68 = .ok (.invokevirtual 203, 3) := by decide +kernel
theorem dX10_call_71 : decode cX10_call 71 = .ok (.istore 6, 2) := by decide +kernel
theorem dX10_call_73 : decode cX10_call 73 = .ok (.iload 6, 2) := by decide +kernel
theorem dX10_call_75 : decode cX10_call 75 = .ok (.iconst 0, 1) := by decide +kernel
theorem dX10_call_76 : decode cX10_call 76 = .ok (.invokestatic 206, 3) := by decide +kernel
theorem dX10_call_79 : decode cX10_call 79 = .ok (.istore 7, 2) := by decide +kernel
theorem dX10_call_81 : decode cX10_call 81 = .ok (.aload_n 0, 1) := by decide +kernel
theorem dX10_call_82 : decode cX10_call 82 = .ok (.aload 5, 2) := by decide +kernel
theorem dX10_call_84 : decode cX10_call 84 = .ok (.iconst 0, 1) := by decide +kernel
theorem dX10_call_85 : decode cX10_call 85 = .ok (.iload 7, 2) := by decide +kernel
theorem dX10_call_87 : decode cX10_call 87 = .ok (.invokevirtual 209, 3) := by decide +kernel
theorem dX10_call_90 : decode cX10_call 90 = .ok (.istore 8, 2) := by decide +kernel
theorem dX10_call_92 : decode cX10_call 92 = .ok (.iload 8, 2) := by decide +kernel
theorem dX10_call_94 : decode cX10_call 94 = .ok (.iconst (-1), 1) := by decide +kernel
theorem dX10_call_95 : decode cX10_call 95 = .ok (.if_icmp .eq 10, 3) := by decide +kernel
theorem dX10_call_98 : decode cX10_call 98 = .ok (.aload_n 0, 1) := by decide +kernel
theorem dX10_call_99 : decode cX10_call 99 = .ok (.iload 8, 2) := by decide +kernel
theorem dX10_call_101 : decode cX10_call 101 = .ok (.invokevirtual 200, 3) := by decide +kernel
theorem dX10_call_104 : decode cX10_call 104 = .ok (.ireturn, 1) := by decide +kernel
theorem dX10_call_105 : decode cX10_call 105 = .ok (.iload 6, 2) := by decide +kernel
theorem dX10_call_107 : decode cX10_call 107 = .ok (.iconst (-1), 1) := by decide +kernel
theorem dX10_call_108 : decode cX10_call 108 = .ok (.if_icmp .eq 20, 3) := by decide +kernel
theorem dX10_call_111 : decode cX10_call 111 = .ok (.aload_n 3, 1) := by decide +kernel
theorem dX10_call_112 : decode cX10_call 112 = .ok (.iload 6, 2) := by decide +kernel
theorem dX10_call_114 : decode cX10_call 114 = .ok (.aload_n 0, 1) := by decide +kernel
theorem dX10_call_115 : decode cX10_call 115 = .ok (.getfield 35, 3) := by decide +kernel
theorem dX10_call_118 : decode cX10_call 118 = .ok (.iload 6, 2) := by decide +kernel
theorem dX10_call_120 : decode cX10_call 120 = .ok (.invokestatic 111, 3) := by decide +kernel
theorem dX10_call_123 : decode cX10_call 123 = .ok (.invokevirtual 213, 3) := by decide +kernel
theorem dX10_call_126 : decode cX10_call 126 = .ok (.astore 5, 2) := by decide +kernel
theorem dX10_call_128 : decode cX10_call 128 = .ok (.aload 5, 2) := by decide +kernel
theorem dX10_call_130 : decode cX10_call 130 = .ok (.ifnonnull 10, 3) := by decide +kernel
theorem dX10_call_133 : decode cX10_call 133 = .ok (.aload_n 0, 1) := by decide +kernel
theorem dX10_call_134 : decode cX10_call 134 = .ok (.iload 6, 2) := by decide +kernel
theorem dX10_call_136 : decode cX10_call 136 = .ok (.invokevirtual 200, 3) := by decide +kernel
theorem dX10_call_139 : decode cX10_call 139 = .ok (.ireturn, 1) := by decide +kernel
theorem dX10_call_140 : decode cX10_call 140 = .ok (.aload_n 0, 1) := by decide +kernel
theorem dX10_call_141 : decode cX10_call 141 = .ok (.aload 5, 2) := by decide +kernel
theorem dX10_call_143 : decode cX10_call 143 = .ok (.iload 7, 2) := by decide +kernel
theorem dX10_call_145 : decode cX10_call 145 = .ok (.iload 4, 2) := by decide +kernel
theorem dX10_call_147 : decode cX10_call 147 = .ok (.invokevirtual 209, 3) := by decide +kernel
theorem dX10_call_150 : decode cX10_call 150 = .ok (.istore 8, 2) := by decide +kernel
theorem dX10_call_152 : decode cX10_call 152 = .ok (.iload 8, 2) := by decide +kernel
theorem dX10_call_154 : decode cX10_call 154 = .ok (.iconst (-1), 1) := by decide +kernel
theorem dX10_call_155 : decode cX10_call 155 = .ok (.if_icmp .eq 12, 3) := by decide +kernel
theorem dX10_call_158 : decode cX10_call 158 = .ok (.aload_n 0, 1) := by decide +kernel
theorem dX10_call_159 : decode cX10_call 159 = .ok (.iload 8, 2) := by decide +kernel
theorem dX10_call_161 : decode cX10_call 161 = .ok (.invokevirtual 200, 3) := by decide +kernel
theorem dX10_call_164 : decode cX10_call 164 = .ok (.goto 11, 3) := by decide +kernel
theorem dX10_call_167 : decode cX10_call 167 = .ok (.aload_n 0, 1) := by decide +kernel
theorem dX10_call_168 : decode cX10_call 168 = .ok (.aload 5, 2) := by decide +kernel
theorem dX10_call_170 : decode cX10_call 170 = .ok (.iload 4, 2) := by decide +kernel
theorem dX10_call_172 : decode cX10_call 172 = .ok (.invokevirtual 217, 3) := by decide +kernel
theorem dX10_call_175 : decode cX10_call 175 = .ok (.ireturn, 1) := by decide +kernel
set_option maxRecDepth 20000 in
theorem ggX10_operation_X10_operationAt : GoodIn wsX10_operation wsX10_operationAt := goodIn_r _ [8, 9, 130, 131, 132, 133, 134, 135, 136, 137, 138] rfl (by decide +kernel)
set_option maxRecDepth 20000 in
theorem gX10_operation_X10_operationAt : GoodIn wsX10_operation (wsV RX10 86 RX10 yX10_operationAt wsX10_operationAt) := goodIn_app (goodIn_of _ (by decide +kernel)) ggX10_operation_X10_operationAt
set_option maxRecDepth 20000 in
theorem ggX10_operation_X5_mostArguments : GoodIn wsX10_operation wsX5_mostArguments := goodIn_r _ [14, 15, 16, 17, 18, 19, 20, 21, 22, 13, 23, 24, 25, 26, 27, 28, 29, 30, 31, 126, 127, 128, 129, 139, 140, 141, 142, 143] rfl (by decide +kernel)
set_option maxRecDepth 20000 in
theorem gX10_operation_X5_mostArguments : GoodIn wsX10_operation (wsV RX10 182 RX5 yX5_mostArguments wsX5_mostArguments) := goodIn_app (goodIn_of _ (by decide +kernel)) ggX10_operation_X5_mostArguments
set_option maxRecDepth 20000 in
theorem ggX10_operation_X5_leastArguments : GoodIn wsX10_operation wsX5_leastArguments := goodIn_r _ [35, 15, 36, 37, 18, 38, 20, 21, 22, 13, 23, 24, 39, 40, 41, 28, 42, 31, 43, 44, 45, 46, 30, 47, 48, 49, 50, 51, 52, 53, 54, 55, 126, 127, 128, 129, 139, 140, 141, 142, 143, 144, 145, 146] rfl (by decide +kernel)
set_option maxRecDepth 20000 in
theorem gX10_operation_X5_leastArguments : GoodIn wsX10_operation (wsV RX10 223 RX5 yX5_leastArguments wsX5_leastArguments) := goodIn_app (goodIn_of _ (by decide +kernel)) ggX10_operation_X5_leastArguments
set_option maxRecDepth 20000 in
theorem ggX10_operation_X5_gather : GoodIn wsX10_operation wsX5_gather := goodIn_r _ [59, 60, 15, 20, 21, 22, 13, 23, 24, 61, 62, 63, 64, 65, 66, 67, 68, 28, 69, 70, 40, 41, 42, 31, 43, 44, 45, 46, 30, 47, 37, 18, 38, 48, 49, 50, 51, 52, 53, 54, 55, 71, 26, 27, 29, 126, 127, 128, 129, 139, 140, 141, 142, 143, 144, 145, 146] rfl (by decide +kernel)
set_option maxRecDepth 20000 in
theorem gX10_operation_X5_gather : GoodIn wsX10_operation (wsV RX10 192 RX5 yX5_gather wsX5_gather) := goodIn_app (goodIn_of _ (by decide +kernel)) ggX10_operation_X5_gather
set_option maxRecDepth 20000 in
theorem ggX10_operation_X5_decidingFor : GoodIn wsX10_operation wsX5_decidingFor := goodIn_r _ [75, 60, 76, 77, 78, 13, 79, 80, 81, 82, 83, 84, 85, 86, 87, 88, 89, 90, 91, 92, 65, 93, 44, 45, 28, 46, 30, 31, 47, 37, 18, 38, 48, 94, 95, 96, 97, 98, 99, 100, 101, 102, 103, 104, 105, 106, 107, 108, 52, 109, 54, 55, 110, 111, 112, 113, 114, 115, 116, 117, 118, 119, 120, 121, 122, 123, 124, 125, 126, 127, 128, 129, 144, 145, 146, 139, 140, 141, 142, 143, 147, 148, 149, 150, 151] rfl (by decide +kernel)
set_option maxRecDepth 20000 in
theorem gX10_operation_X5_decidingFor : GoodIn wsX10_operation (wsV RX10 203 RX5 yX5_decidingFor wsX5_decidingFor) := goodIn_app (goodIn_of _ (by decide +kernel)) ggX10_operation_X5_decidingFor
theorem dX10_operation_0 : decode cX10_operation 0 = .ok (.aload_n 0, 1) := by decide +kernel
theorem dX10_operation_1 : decode cX10_operation 1 = .ok (.iload_n 1, 1) := by decide +kernel
theorem dX10_operation_2 : decode cX10_operation 2 = .ok (.invokevirtual 86, 3) := by decide +kernel
theorem dX10_operation_5 : decode cX10_operation 5 = .ok (.astore_n 3, 1) := by decide +kernel
theorem dX10_operation_6 : decode cX10_operation 6 = .ok (.aload_n 3, 1) := by decide +kernel
theorem dX10_operation_7 : decode cX10_operation 7 = .ok (.ifnull 13, 3) := by decide +kernel
theorem dX10_operation_10 : decode cX10_operation 10 = .ok (.iload_n 2, 1) := by decide +kernel
theorem dX10_operation_11 : decode cX10_operation 11 = .ok (.ifCond .lt 9, 3) := by decide +kernel
theorem dX10_operation_14 : decode cX10_operation 14 = .ok (.iload_n 2, 1) := by decide +kernel
theorem dX10_operation_15 : decode cX10_operation 15 = .ok (.bipush 11, 2) := by decide +kernel
theorem dX10_operation_17 : decode cX10_operation 17 = .ok (.if_icmp .le 13, 3) := by decide +kernel
theorem dX10_operation_20 : decode cX10_operation 20 = .ok (.new 100, 3) := by decide +kernel
theorem dX10_operation_23 : decode cX10_operation 23 = .ok (.dup, 1) := by decide +kernel
theorem dX10_operation_24 : decode cX10_operation 24 = .ok (.ldc 221, 2) := by decide +kernel
theorem dX10_operation_26 : decode cX10_operation 26 = .ok (.invokespecial 104, 3) := by decide +kernel
theorem dX10_operation_29 : decode cX10_operation 29 = .ok (.athrow, 1) := by decide +kernel
theorem dX10_operation_30 : decode cX10_operation 30 = .ok (.iload_n 2, 1) := by decide +kernel
theorem dX10_operation_31 : decode cX10_operation 31 = .ok (.ifCond .ne 8, 3) := by decide +kernel
theorem dX10_operation_34 : decode cX10_operation 34 = .ok (.aload_n 3, 1) := by decide +kernel
theorem dX10_operation_35 : decode cX10_operation 35 = .ok (.getfield 105, 3) := by decide +kernel
theorem dX10_operation_38 : decode cX10_operation 38 = .ok (.ireturn, 1) := by decide +kernel
theorem dX10_operation_39 : decode cX10_operation 39 = .ok (.iload_n 2, 1) := by decide +kernel
theorem dX10_operation_40 : decode cX10_operation 40 = .ok (.iconst 1, 1) := by decide +kernel
theorem dX10_operation_41 : decode cX10_operation 41 = .ok (.if_icmp .ne 8, 3) := by decide +kernel
theorem dX10_operation_44 : decode cX10_operation 44 = .ok (.aload_n 3, 1) := by decide +kernel
theorem dX10_operation_45 : decode cX10_operation 45 = .ok (.invokevirtual 182, 3) := by decide +kernel
theorem dX10_operation_48 : decode cX10_operation 48 = .ok (.ireturn, 1) := by decide +kernel
theorem dX10_operation_49 : decode cX10_operation 49 = .ok (.iload_n 2, 1) := by decide +kernel
theorem dX10_operation_50 : decode cX10_operation 50 = .ok (.iconst 2, 1) := by decide +kernel
theorem dX10_operation_51 : decode cX10_operation 51 = .ok (.if_icmp .ne 8, 3) := by decide +kernel
theorem dX10_operation_54 : decode cX10_operation 54 = .ok (.aload_n 3, 1) := by decide +kernel
theorem dX10_operation_55 : decode cX10_operation 55 = .ok (.invokevirtual 223, 3) := by decide +kernel
theorem dX10_operation_58 : decode cX10_operation 58 = .ok (.ireturn, 1) := by decide +kernel
theorem dX10_operation_59 : decode cX10_operation 59 = .ok (.aload_n 3, 1) := by decide +kernel
theorem dX10_operation_60 : decode cX10_operation 60 = .ok (.iload_n 2, 1) := by decide +kernel
theorem dX10_operation_61 : decode cX10_operation 61 = .ok (.iconst 3, 1) := by decide +kernel
theorem dX10_operation_62 : decode cX10_operation 62 = .ok (.isub, 1) := by decide +kernel
theorem dX10_operation_63 : decode cX10_operation 63 = .ok (.aconst_null, 1) := by decide +kernel
theorem dX10_operation_64 : decode cX10_operation 64 = .ok (.invokevirtual 192, 3) := by decide +kernel
theorem dX10_operation_67 : decode cX10_operation 67 = .ok (.aload_n 3, 1) := by decide +kernel
theorem dX10_operation_68 : decode cX10_operation 68 = .ok (.iload_n 2, 1) := by decide +kernel
theorem dX10_operation_69 : decode cX10_operation 69 = .ok (.iconst 3, 1) := by decide +kernel
theorem dX10_operation_70 : decode cX10_operation 70 = .ok (.isub, 1) := by decide +kernel
theorem dX10_operation_71 : decode cX10_operation 71 = .ok (.invokevirtual 203, 3) := by decide +kernel
theorem dX10_operation_74 : decode cX10_operation 74 = .ok (.ireturn, 1) := by decide +kernel
set_option maxRecDepth 20000 in
theorem ggX10_kind_X10_partAt : GoodIn wsX10_kind wsX10_partAt := goodIn_r _ [6, 7, 8, 9, 10, 5, 11, 12, 13, 14, 15, 16, 17, 18, 26, 27, 28, 29, 30, 31, 32, 33, 34, 19, 20, 21, 22, 23, 24, 25] rfl (by decide +kernel)
set_option maxRecDepth 20000 in
theorem gX10_kind_X10_partAt : GoodIn wsX10_kind (wsV RX10 226 RX10 yX10_partAt wsX10_partAt) := goodIn_app (goodIn_of _ (by decide +kernel)) ggX10_kind_X10_partAt
theorem dX10_kind_0 : decode cX10_kind 0 = .ok (.aload_n 0, 1) := by decide +kernel
theorem dX10_kind_1 : decode cX10_kind 1 = .ok (.iload_n 1, 1) := by decide +kernel
theorem dX10_kind_2 : decode cX10_kind 2 = .ok (.iconst (-1), 1) := by decide +kernel
theorem dX10_kind_3 : decode cX10_kind 3 = .ok (.invokevirtual 226, 3) := by decide +kernel
theorem dX10_kind_6 : decode cX10_kind 6 = .ok (.astore_n 2, 1) := by decide +kernel
theorem dX10_kind_7 : decode cX10_kind 7 = .ok (.aload_n 2, 1) := by decide +kernel
theorem dX10_kind_8 : decode cX10_kind 8 = .ok (.ifnonnull 7, 3) := by decide +kernel
theorem dX10_kind_11 : decode cX10_kind 11 = .ok (.iconst (-1), 1) := by decide +kernel
theorem dX10_kind_12 : decode cX10_kind 12 = .ok (.goto 7, 3) := by decide +kernel
theorem dX10_kind_15 : decode cX10_kind 15 = .ok (.aload_n 2, 1) := by decide +kernel
theorem dX10_kind_16 : decode cX10_kind 16 = .ok (.getfield 169, 3) := by decide +kernel
theorem dX10_kind_19 : decode cX10_kind 19 = .ok (.ireturn, 1) := by decide +kernel
set_option maxRecDepth 20000 in
theorem ggX10_item_X10_partAt : GoodIn wsX10_item wsX10_partAt := goodIn_r _ [6, 7, 8, 9, 10, 5, 11, 12, 13, 14, 15, 16, 17, 18, 26, 27, 28, 29, 30, 31, 32, 33, 34, 19, 20, 21, 22, 23, 24, 25] rfl (by decide +kernel)
set_option maxRecDepth 20000 in
theorem gX10_item_X10_partAt : GoodIn wsX10_item (wsV RX10 226 RX10 yX10_partAt wsX10_partAt) := goodIn_app (goodIn_of _ (by decide +kernel)) ggX10_item_X10_partAt
theorem dX10_item_0 : decode cX10_item 0 = .ok (.iload_n 2, 1) := by decide +kernel
theorem dX10_item_1 : decode cX10_item 1 = .ok (.ifCond .ge 7, 3) := by decide +kernel
theorem dX10_item_4 : decode cX10_item 4 = .ok (.aconst_null, 1) := by decide +kernel
theorem dX10_item_5 : decode cX10_item 5 = .ok (.goto 9, 3) := by decide +kernel
theorem dX10_item_8 : decode cX10_item 8 = .ok (.aload_n 0, 1) := by decide +kernel
theorem dX10_item_9 : decode cX10_item 9 = .ok (.iload_n 1, 1) := by decide +kernel
theorem dX10_item_10 : decode cX10_item 10 = .ok (.iload_n 2, 1) := by decide +kernel
theorem dX10_item_11 : decode cX10_item 11 = .ok (.invokevirtual 226, 3) := by decide +kernel
theorem dX10_item_14 : decode cX10_item 14 = .ok (.astore_n 3, 1) := by decide +kernel
theorem dX10_item_15 : decode cX10_item 15 = .ok (.aload_n 3, 1) := by decide +kernel
theorem dX10_item_16 : decode cX10_item 16 = .ok (.ifnonnull 7, 3) := by decide +kernel
theorem dX10_item_19 : decode cX10_item 19 = .ok (.iconst (-1), 1) := by decide +kernel
theorem dX10_item_20 : decode cX10_item 20 = .ok (.goto 7, 3) := by decide +kernel
theorem dX10_item_23 : decode cX10_item 23 = .ok (.aload_n 3, 1) := by decide +kernel
theorem dX10_item_24 : decode cX10_item 24 = .ok (.getfield 169, 3) := by decide +kernel
theorem dX10_item_27 : decode cX10_item 27 = .ok (.ireturn, 1) := by decide +kernel
set_option maxRecDepth 20000 in
theorem ggX10_whole_X10_partAt : GoodIn wsX10_whole wsX10_partAt := goodIn_r _ [10, 11, 12, 13, 14, 9, 15, 16, 17, 18, 19, 20, 21, 22, 32, 33, 34, 35, 36, 37, 38, 39, 40, 23, 24, 25, 26, 27, 28, 29] rfl (by decide +kernel)
set_option maxRecDepth 20000 in
theorem gX10_whole_X10_partAt : GoodIn wsX10_whole (wsV RX10 226 RX10 yX10_partAt wsX10_partAt) := goodIn_app (goodIn_of _ (by decide +kernel)) ggX10_whole_X10_partAt
theorem dX10_whole_0 : decode cX10_whole 0 = .ok (.aload_n 0, 1) := by decide +kernel
theorem dX10_whole_1 : decode cX10_whole 1 = .ok (.iload_n 1, 1) := by decide +kernel
theorem dX10_whole_2 : decode cX10_whole 2 = .ok (.iload_n 2, 1) := by decide +kernel
theorem dX10_whole_3 : decode cX10_whole 3 = .ok (.invokevirtual 226, 3) := by decide +kernel
theorem dX10_whole_6 : decode cX10_whole 6 = .ok (.astore_n 3, 1) := by decide +kernel
theorem dX10_whole_7 : decode cX10_whole 7 = .ok (.aload_n 3, 1) := by decide +kernel
theorem dX10_whole_8 : decode cX10_whole 8 = .ok (.ifnonnull 5, 3) := by decide +kernel
theorem dX10_whole_11 : decode cX10_whole 11 = .ok (.lconst 0, 1) := by decide +kernel
theorem dX10_whole_12 : decode cX10_whole 12 = .ok (.lreturn, 1) := by decide +kernel
theorem dX10_whole_13 : decode cX10_whole 13 = .ok (.aload_n 3, 1) := by decide +kernel
theorem dX10_whole_14 : decode cX10_whole 14 = .ok (.getfield 169, 3) := by decide +kernel
theorem dX10_whole_17 : decode cX10_whole 17 = .ok (.iconst 2, 1) := by decide +kernel
theorem dX10_whole_18 : decode cX10_whole 18 = .ok (.if_icmp .eq 11, 3) := by decide +kernel
theorem dX10_whole_21 : decode cX10_whole 21 = .ok (.aload_n 3, 1) := by decide +kernel
theorem dX10_whole_22 : decode cX10_whole 22 = .ok (.getfield 169, 3) := by decide +kernel
theorem dX10_whole_25 : decode cX10_whole 25 = .ok (.iconst 3, 1) := by decide +kernel
theorem dX10_whole_26 : decode cX10_whole 26 = .ok (.if_icmp .ne 8, 3) := by decide +kernel
theorem dX10_whole_29 : decode cX10_whole 29 = .ok (.aload_n 3, 1) := by decide +kernel
theorem dX10_whole_30 : decode cX10_whole 30 = .ok (.getfield 230, 3) := by decide +kernel
theorem dX10_whole_33 : decode cX10_whole 33 = .ok (.lreturn, 1) := by decide +kernel
theorem dX10_whole_34 : decode cX10_whole 34 = .ok (.aload_n 3, 1) := by decide +kernel
theorem dX10_whole_35 : decode cX10_whole 35 = .ok (.getfield 169, 3) := by decide +kernel
theorem dX10_whole_38 : decode cX10_whole 38 = .ok (.iconst 5, 1) := by decide +kernel
theorem dX10_whole_39 : decode cX10_whole 39 = .ok (.if_icmp .ne 12, 3) := by decide +kernel
theorem dX10_whole_42 : decode cX10_whole 42 = .ok (.aload_n 3, 1) := by decide +kernel
theorem dX10_whole_43 : decode cX10_whole 43 = .ok (.getfield 135, 3) := by decide +kernel
