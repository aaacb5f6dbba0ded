theorem dX8_becomeNamed_6 : decode cX8_becomeNamed 6 = .ok (.getfield 35, 3) := by decide +kernel
theorem dX8_becomeNamed_9 : decode cX8_becomeNamed 9 = .ok (.aload_n 2, 1) := by decide +kernel
theorem dX8_becomeNamed_10 : decode cX8_becomeNamed 10 = .ok (.invokevirtual 82, 3) := by decide +kernel
theorem dX8_becomeNamed_13 : decode cX8_becomeNamed 13 = .ok (.return_, 1) := by decide +kernel
set_option maxRecDepth 20000 in
theorem ggX8_becomeWhole_X8_become : GoodIn wsX8_becomeWhole wsX8_become := goodIn_r _ [6, 7, 1, 8, 9, 10, 11, 12, 13, 14, 15, 16, 17, 18, 19, 20, 21] (by decide +kernel) (by decide +kernel)
set_option maxRecDepth 20000 in
theorem gX8_becomeWhole_X8_become : GoodIn wsX8_becomeWhole (wsV RX8 79 RX8 yX8_become wsX8_become) := goodIn_app (goodIn_of _ (by decide +kernel)) ggX8_becomeWhole_X8_become
theorem dX8_becomeWhole_0 : decode cX8_becomeWhole 0 = .ok (.aload_n 0, 1) := by decide +kernel
theorem dX8_becomeWhole_1 : decode cX8_becomeWhole 1 = .ok (.iload_n 1, 1) := by decide +kernel
theorem dX8_becomeWhole_2 : decode cX8_becomeWhole 2 = .ok (.invokevirtual 79, 3) := by decide +kernel
theorem dX8_becomeWhole_5 : decode cX8_becomeWhole 5 = .ok (.aload_n 0, 1) := by decide +kernel
theorem dX8_becomeWhole_6 : decode cX8_becomeWhole 6 = .ok (.lload_n 2, 1) := by decide +kernel
theorem dX8_becomeWhole_7 : decode cX8_becomeWhole 7 = .ok (.putfield 15, 3) := by decide +kernel
theorem dX8_becomeWhole_10 : decode cX8_becomeWhole 10 = .ok (.return_, 1) := by decide +kernel
set_option maxRecDepth 20000 in
theorem ggX8_becomeDouble_X8_become : GoodIn wsX8_becomeDouble wsX8_become := goodIn_r _ [5, 6, 7, 8, 9, 10, 11, 12, 17, 18, 19, 20, 21, 22, 23, 24, 25] (by decide +kernel) (by decide +kernel)
set_option maxRecDepth 20000 in
theorem gX8_becomeDouble_X8_become : GoodIn wsX8_becomeDouble (wsV RX8 79 RX8 yX8_become wsX8_become) := goodIn_app (goodIn_of _ (by decide +kernel)) ggX8_becomeDouble_X8_become
set_option maxRecDepth 20000 in
theorem ggX8_becomeDouble_X8_knowNumber : GoodIn wsX8_becomeDouble wsX8_knowNumber := goodIn_r _ [16, 9, 8, 17, 18, 19, 20, 21, 22, 23] (by decide +kernel) (by decide +kernel)
set_option maxRecDepth 20000 in
theorem gX8_becomeDouble_X8_knowNumber : GoodIn wsX8_becomeDouble (wsV RX8 86 RX8 yX8_knowNumber wsX8_knowNumber) := goodIn_app (goodIn_of _ (by decide +kernel)) ggX8_becomeDouble_X8_knowNumber
theorem dX8_becomeDouble_0 : decode cX8_becomeDouble 0 = .ok (.aload_n 0, 1) := by decide +kernel
theorem dX8_becomeDouble_1 : decode cX8_becomeDouble 1 = .ok (.iconst 4, 1) := by decide +kernel
theorem dX8_becomeDouble_2 : decode cX8_becomeDouble 2 = .ok (.invokevirtual 79, 3) := by decide +kernel
theorem dX8_becomeDouble_5 : decode cX8_becomeDouble 5 = .ok (.aload_n 0, 1) := by decide +kernel
theorem dX8_becomeDouble_6 : decode cX8_becomeDouble 6 = .ok (.iconst 1, 1) := by decide +kernel
theorem dX8_becomeDouble_7 : decode cX8_becomeDouble 7 = .ok (.dload_n 1, 1) := by decide +kernel
theorem dX8_becomeDouble_8 : decode cX8_becomeDouble 8 = .ok (.invokevirtual 86, 3) := by decide +kernel
theorem dX8_becomeDouble_11 : decode cX8_becomeDouble 11 = .ok (.return_, 1) := by decide +kernel
set_option maxRecDepth 20000 in
theorem ggX8_becomeText_X8_become : GoodIn wsX8_becomeText wsX8_become := goodIn_r _ [6, 7, 8, 9, 10, 11, 1, 12, 20, 21, 22, 23, 24, 25, 26, 27, 28] (by decide +kernel) (by decide +kernel)
set_option maxRecDepth 20000 in
theorem gX8_becomeText_X8_become : GoodIn wsX8_becomeText (wsV RX8 79 RX8 yX8_become wsX8_become) := goodIn_app (goodIn_of _ (by decide +kernel)) ggX8_becomeText_X8_become
set_option maxRecDepth 20000 in
theorem ggX8_becomeText_X7_copy : GoodIn wsX8_becomeText wsX7_copy := goodIn_r _ [17, 18, 19, 27, 28] (by decide +kernel) (by decide +kernel)
set_option maxRecDepth 20000 in
theorem gX8_becomeText_X7_copy : GoodIn wsX8_becomeText (wsV RX8 90 RX7 yX7_copy wsX7_copy) := goodIn_app (goodIn_of _ (by decide +kernel)) ggX8_becomeText_X7_copy
theorem dX8_becomeText_0 : decode cX8_becomeText 0 = .ok (.aload_n 0, 1) := by decide +kernel
theorem dX8_becomeText_1 : decode cX8_becomeText 1 = .ok (.iconst 5, 1) := by decide +kernel
theorem dX8_becomeText_2 : decode cX8_becomeText 2 = .ok (.invokevirtual 79, 3) := by decide +kernel
theorem dX8_becomeText_5 : decode cX8_becomeText 5 = .ok (.aload_n 0, 1) := by decide +kernel
theorem dX8_becomeText_6 : decode cX8_becomeText 6 = .ok (.getfield 35, 3) := by decide +kernel
theorem dX8_becomeText_9 : decode cX8_becomeText 9 = .ok (.aload_n 1, 1) := by decide +kernel
theorem dX8_becomeText_10 : decode cX8_becomeText 10 = .ok (.invokevirtual 90, 3) := by decide +kernel
theorem dX8_becomeText_13 : decode cX8_becomeText 13 = .ok (.return_, 1) := by decide +kernel
set_option maxRecDepth 20000 in
theorem ggX8_copyPlain_X8_become : GoodIn wsX8_copyPlain wsX8_become := goodIn_r _ [10, 1, 2, 4, 3, 11, 5, 12, 24, 25, 26, 27, 28, 29, 30, 31, 32] (by decide +kernel) (by decide +kernel)
set_option maxRecDepth 20000 in
theorem gX8_copyPlain_X8_become : GoodIn wsX8_copyPlain (wsV RX8 79 RX8 yX8_become wsX8_become) := goodIn_app (goodIn_of _ (by decide +kernel)) ggX8_copyPlain_X8_become
set_option maxRecDepth 20000 in
theorem ggX8_copyPlain_X8_knowNumber : GoodIn wsX8_copyPlain wsX8_knowNumber := goodIn_r _ [16, 3, 4, 24, 25, 26, 27, 28, 29, 30] (by decide +kernel) (by decide +kernel)
set_option maxRecDepth 20000 in
theorem gX8_copyPlain_X8_knowNumber : GoodIn wsX8_copyPlain (wsV RX8 86 RX8 yX8_knowNumber wsX8_knowNumber) := goodIn_app (goodIn_of _ (by decide +kernel)) ggX8_copyPlain_X8_knowNumber
set_option maxRecDepth 20000 in
theorem ggX8_copyPlain_X7_copy : GoodIn wsX8_copyPlain wsX7_copy := goodIn_r _ [21, 22, 23, 31, 32] (by decide +kernel) (by decide +kernel)
set_option maxRecDepth 20000 in
theorem gX8_copyPlain_X7_copy : GoodIn wsX8_copyPlain (wsV RX8 90 RX7 yX7_copy wsX7_copy) := goodIn_app (goodIn_of _ (by decide +kernel)) ggX8_copyPlain_X7_copy
theorem dX8_copyPlain_0 : decode cX8_copyPlain 0 = .ok (.aload_n 0, 1) := by decide +kernel
theorem dX8_copyPlain_1 : decode cX8_copyPlain 1 = .ok (.aload_n 1, 1) := by decide +kernel
theorem dX8_copyPlain_2 : decode cX8_copyPlain 2 = .ok (.getfield 9, 3) := by decide +kernel
theorem dX8_copyPlain_5 : decode cX8_copyPlain 5 = .ok (.invokevirtual 79, 3) := by decide +kernel
theorem dX8_copyPlain_8 : decode cX8_copyPlain 8 = .ok (.aload_n 0, 1) := by decide +kernel
theorem dX8_copyPlain_9 : decode cX8_copyPlain 9 = .ok (.aload_n 1, 1) := by decide +kernel
theorem dX8_copyPlain_10 : decode cX8_copyPlain 10 = .ok (.getfield 15, 3) := by decide +kernel
theorem dX8_copyPlain_13 : decode cX8_copyPlain 13 = .ok (.putfield 15, 3) := by decide +kernel
theorem dX8_copyPlain_16 : decode cX8_copyPlain 16 = .ok (.aload_n 0, 1) := by decide +kernel
theorem dX8_copyPlain_17 : decode cX8_copyPlain 17 = .ok (.aload_n 1, 1) := by decide +kernel
theorem dX8_copyPlain_18 : decode cX8_copyPlain 18 = .ok (.getfield 23, 3) := by decide +kernel
theorem dX8_copyPlain_21 : decode cX8_copyPlain 21 = .ok (.aload_n 1, 1) := by decide +kernel
theorem dX8_copyPlain_22 : decode cX8_copyPlain 22 = .ok (.getfield 19, 3) := by decide +kernel
theorem dX8_copyPlain_25 : decode cX8_copyPlain 25 = .ok (.invokevirtual 86, 3) := by decide +kernel
theorem dX8_copyPlain_28 : decode cX8_copyPlain 28 = .ok (.aload_n 0, 1) := by decide +kernel
theorem dX8_copyPlain_29 : decode cX8_copyPlain 29 = .ok (.getfield 35, 3) := by decide +kernel
theorem dX8_copyPlain_32 : decode cX8_copyPlain 32 = .ok (.aload_n 1, 1) := by decide +kernel
theorem dX8_copyPlain_33 : decode cX8_copyPlain 33 = .ok (.getfield 35, 3) := by decide +kernel
theorem dX8_copyPlain_36 : decode cX8_copyPlain 36 = .ok (.invokevirtual 90, 3) := by decide +kernel
theorem dX8_copyPlain_39 : decode cX8_copyPlain 39 = .ok (.return_, 1) := by decide +kernel
set_option maxRecDepth 20000 in
theorem ggX8_copyAll_X8_copyPlain : GoodIn wsX8_copyAll wsX8_copyPlain := goodIn_r _ [6, 7, 8, 9, 10, 11, 12, 13, 14, 5, 15, 1, 16, 17, 18, 19, 20, 21, 22, 23, 24, 25, 26, 27, 40, 41, 42, 43, 44, 45, 46, 47, 48] (by decide +kernel) (by decide +kernel)
set_option maxRecDepth 20000 in
theorem gX8_copyAll_X8_copyPlain : GoodIn wsX8_copyAll (wsV RX8 60 RX8 yX8_copyPlain wsX8_copyPlain) := goodIn_app (goodIn_of _ (by decide +kernel)) ggX8_copyAll_X8_copyPlain
set_option maxRecDepth 20000 in
theorem ggX8_copyAll_X8_itemAt : GoodIn wsX8_copyAll wsX8_itemAt := goodIn_r _ [31, 1, 32, 33, 34, 35, 40, 41, 42, 43, 44, 45, 46] (by decide +kernel) (by decide +kernel)
set_option maxRecDepth 20000 in
theorem gX8_copyAll_X8_itemAt : GoodIn wsX8_copyAll (wsV RX8 94 RX8 yX8_itemAt wsX8_itemAt) := goodIn_app (goodIn_of _ (by decide +kernel)) ggX8_copyAll_X8_itemAt
set_option maxRecDepth 20000 in
theorem ggX8_copyAll_X8_nextItem : GoodIn wsX8_copyAll wsX8_nextItem := goodIn_r _ [39, 32, 1, 33, 34, 35, 40, 41, 42, 43, 44, 45, 46] (by decide +kernel) (by decide +kernel)
set_option maxRecDepth 20000 in
theorem gX8_copyAll_X8_nextItem : GoodIn wsX8_copyAll (wsV RX8 56 RX8 yX8_nextItem wsX8_nextItem) := goodIn_app (goodIn_of _ (by decide +kernel)) ggX8_copyAll_X8_nextItem
theorem dX8_copyAll_0 : decode cX8_copyAll 0 = .ok (.aload_n 0, 1) := by decide +kernel
theorem dX8_copyAll_1 : decode cX8_copyAll 1 = .ok (.aload_n 1, 1) := by decide +kernel
theorem dX8_copyAll_2 : decode cX8_copyAll 2 = .ok (.invokevirtual 60, 3) := by decide +kernel
theorem dX8_copyAll_5 : decode cX8_copyAll 5 = .ok (.iconst 0, 1) := by decide +kernel
theorem dX8_copyAll_6 : decode cX8_copyAll 6 = .ok (.istore_n 2, 1) := by decide +kernel
theorem dX8_copyAll_7 : decode cX8_copyAll 7 = .ok (.iload_n 2, 1) := by decide +kernel
theorem dX8_copyAll_8 : decode cX8_copyAll 8 = .ok (.aload_n 1, 1) := by decide +kernel
theorem dX8_copyAll_9 : decode cX8_copyAll 9 = .ok (.getfield 27, 3) := by decide +kernel
theorem dX8_copyAll_12 : decode cX8_copyAll 12 = .ok (.if_icmp .ge 36, 3) := by decide +kernel
theorem dX8_copyAll_15 : decode cX8_copyAll 15 = .ok (.aload_n 1, 1) := by decide +kernel
theorem dX8_copyAll_16 : decode cX8_copyAll 16 = .ok (.iload_n 2, 1) := by decide +kernel
theorem dX8_copyAll_17 : decode cX8_copyAll 17 = .ok (.invokevirtual 94, 3) := by decide +kernel
theorem dX8_copyAll_20 : decode cX8_copyAll 20 = .ok (.astore_n 3, 1) := by decide +kernel
theorem dX8_copyAll_21 : decode cX8_copyAll 21 = .ok (.aload_n 0, 1) := by decide +kernel
theorem dX8_copyAll_22 : decode cX8_copyAll 22 = .ok (.invokevirtual 56, 3) := by decide +kernel
theorem dX8_copyAll_25 : decode cX8_copyAll 25 = .ok (.astore 4, 2) := by decide +kernel
theorem dX8_copyAll_27 : decode cX8_copyAll 27 = .ok (.aload_n 3, 1) := by decide +kernel
theorem dX8_copyAll_28 : decode cX8_copyAll 28 = .ok (.ifnull 14, 3) := by decide +kernel
theorem dX8_copyAll_31 : decode cX8_copyAll 31 = .ok (.aload 4, 2) := by decide +kernel
theorem dX8_copyAll_33 : decode cX8_copyAll 33 = .ok (.ifnull 9, 3) := by decide +kernel
theorem dX8_copyAll_36 : decode cX8_copyAll 36 = .ok (.aload 4, 2) := by decide +kernel
theorem dX8_copyAll_38 : decode cX8_copyAll 38 = .ok (.aload_n 3, 1) := by decide +kernel
theorem dX8_copyAll_39 : decode cX8_copyAll 39 = .ok (.invokevirtual 60, 3) := by decide +kernel
theorem dX8_copyAll_42 : decode cX8_copyAll 42 = .ok (.iinc 2 1, 3) := by decide +kernel
theorem dX8_copyAll_45 : decode cX8_copyAll 45 = .ok (.goto (-38), 3) := by decide +kernel
theorem dX8_copyAll_48 : decode cX8_copyAll 48 = .ok (.return_, 1) := by decide +kernel
theorem dX8_isUndefinedOrNull_0 : decode cX8_isUndefinedOrNull 0 = .ok (.aload_n 0, 1) := by decide +kernel
theorem dX8_isUndefinedOrNull_1 : decode cX8_isUndefinedOrNull 1 = .ok (.getfield 9, 3) := by decide +kernel
theorem dX8_isUndefinedOrNull_4 : decode cX8_isUndefinedOrNull 4 = .ok (.bipush 7, 2) := by decide +kernel
theorem dX8_isUndefinedOrNull_6 : decode cX8_isUndefinedOrNull 6 = .ok (.if_icmp .eq 12, 3) := by decide +kernel
theorem dX8_isUndefinedOrNull_9 : decode cX8_isUndefinedOrNull 9 = .ok (.aload_n 0, 1) := by decide +kernel
theorem dX8_isUndefinedOrNull_10 : decode cX8_isUndefinedOrNull 10 = .ok (.getfield 9, 3) := by decide +kernel
theorem dX8_isUndefinedOrNull_13 : decode cX8_isUndefinedOrNull 13 = .ok (.bipush 8, 2) := by decide +kernel
theorem dX8_isUndefinedOrNull_15 : decode cX8_isUndefinedOrNull 15 = .ok (.if_icmp .ne 7, 3) := by decide +kernel
theorem dX8_isUndefinedOrNull_18 : decode cX8_isUndefinedOrNull 18 = .ok (.iconst 1, 1) := by decide +kernel
theorem dX8_isUndefinedOrNull_19 : decode cX8_isUndefinedOrNull 19 = .ok (.goto 4, 3) := by decide +kernel
theorem dX8_isUndefinedOrNull_22 : decode cX8_isUndefinedOrNull 22 = .ok (.iconst 0, 1) := by decide +kernel
theorem dX8_isUndefinedOrNull_23 : decode cX8_isUndefinedOrNull 23 = .ok (.ireturn, 1) := by decide +kernel
theorem dX8_isTrue_0 : decode cX8_isTrue 0 = .ok (.aload_n 0, 1) := by decide +kernel
theorem dX8_isTrue_1 : decode cX8_isTrue 1 = .ok (.getfield 9, 3) := by decide +kernel
theorem dX8_isTrue_4 : decode cX8_isTrue 4 = .ok (.iconst 2, 1) := by decide +kernel
theorem dX8_isTrue_5 : decode cX8_isTrue 5 = .ok (.if_icmp .eq 11, 3) := by decide +kernel
theorem dX8_isTrue_8 : decode cX8_isTrue 8 = .ok (.aload_n 0, 1) := by decide +kernel
theorem dX8_isTrue_9 : decode cX8_isTrue 9 = .ok (.getfield 9, 3) := by decide +kernel
theorem dX8_isTrue_12 : decode cX8_isTrue 12 = .ok (.iconst 4, 1) := by decide +kernel
theorem dX8_isTrue_13 : decode cX8_isTrue 13 = .ok (.if_icmp .ne 18, 3) := by decide +kernel
theorem dX8_isTrue_16 : decode cX8_isTrue 16 = .ok (.aload_n 0, 1) := by decide +kernel
theorem dX8_isTrue_17 : decode cX8_isTrue 17 = .ok (.getfield 19, 3) := by decide +kernel
theorem dX8_isTrue_20 : decode cX8_isTrue 20 = .ok (.dconst 0, 1) := by decide +kernel
theorem dX8_isTrue_21 : decode cX8_isTrue 21 = .ok (.dcmp .l, 1) := by decide +kernel
theorem dX8_isTrue_22 : decode cX8_isTrue 22 = .ok (.ifCond .eq 7, 3) := by decide +kernel
theorem dX8_isTrue_25 : decode cX8_isTrue 25 = .ok (.iconst 1, 1) := by decide +kernel
theorem dX8_isTrue_26 : decode cX8_isTrue 26 = .ok (.goto 4, 3) := by decide +kernel
theorem dX8_isTrue_29 : decode cX8_isTrue 29 = .ok (.iconst 0, 1) := by decide +kernel
theorem dX8_isTrue_30 : decode cX8_isTrue 30 = .ok (.ireturn, 1) := by decide +kernel
theorem dX8_isTrue_31 : decode cX8_isTrue 31 = .ok (.aload_n 0, 1) := by decide +kernel
theorem dX8_isTrue_32 : decode cX8_isTrue 32 = .ok (.getfield 9, 3) := by decide +kernel
theorem dX8_isTrue_35 : decode cX8_isTrue 35 = .ok (.bipush 6, 2) := by decide +kernel
theorem dX8_isTrue_37 : decode cX8_isTrue 37 = .ok (.if_icmp .eq 21, 3) := by decide +kernel
theorem dX8_isTrue_40 : decode cX8_isTrue 40 = .ok (.aload_n 0, 1) := by decide +kernel
theorem dX8_isTrue_41 : decode cX8_isTrue 41 = .ok (.getfield 9, 3) := by decide +kernel
theorem dX8_isTrue_44 : decode cX8_isTrue 44 = .ok (.iconst 5, 1) := by decide +kernel
theorem dX8_isTrue_45 : decode cX8_isTrue 45 = .ok (.if_icmp .ne 17, 3) := by decide +kernel
theorem dX8_isTrue_48 : decode cX8_isTrue 48 = .ok (.aload_n 0, 1) := by decide +kernel
theorem dX8_isTrue_49 : decode cX8_isTrue 49 = .ok (.getfield 35, 3) := by decide +kernel
theorem dX8_isTrue_52 : decode cX8_isTrue 52 = .ok (.getfield 68, 3) := by decide +kernel
theorem dX8_isTrue_55 : decode cX8_isTrue 55 = .ok (.ifCond .le 7, 3) := by decide +kernel
theorem dX8_isTrue_58 : decode cX8_isTrue 58 = .ok (.iconst 1, 1) := by decide +kernel
theorem dX8_isTrue_59 : decode cX8_isTrue 59 = .ok (.goto 4, 3) := by decide +kernel
theorem dX8_isTrue_62 : decode cX8_isTrue 62 = .ok (.iconst 0, 1) := by decide +kernel
theorem dX8_isTrue_63 : decode cX8_isTrue 63 = .ok (.ireturn, 1) := by decide +kernel
theorem dX9_init_0 : decode cX9_init 0 = .ok (.aload_n 0, 1) := by decide +kernel
theorem dX9_init_1 : decode cX9_init 1 = .ok (.invokespecial 3, 3) := by decide +kernel
theorem dX9_init_4 : decode cX9_init 4 = .ok (.aload_n 0, 1) := by decide +kernel
theorem dX9_init_5 : decode cX9_init 5 = .ok (.aload_n 1, 1) := by decide +kernel
theorem dX9_init_6 : decode cX9_init 6 = .ok (.putfield 9, 3) := by decide +kernel
theorem dX9_init_9 : decode cX9_init 9 = .ok (.aload_n 0, 1) := by decide +kernel
theorem dX9_init_10 : decode cX9_init 10 = .ok (.iload_n 2, 1) := by decide +kernel
theorem dX9_init_11 : decode cX9_init 11 = .ok (.putfield 15, 3) := by decide +kernel
theorem dX9_init_14 : decode cX9_init 14 = .ok (.aload_n 0, 1) := by decide +kernel
theorem dX9_init_15 : decode cX9_init 15 = .ok (.iload_n 3, 1) := by decide +kernel
theorem dX9_init_16 : decode cX9_init 16 = .ok (.putfield 19, 3) := by decide +kernel
theorem dX9_init_19 : decode cX9_init 19 = .ok (.aload_n 0, 1) := by decide +kernel
theorem dX9_init_20 : decode cX9_init 20 = .ok (.aload 4, 2) := by decide +kernel
theorem dX9_init_22 : decode cX9_init 22 = .ok (.putfield 23, 3) := by decide +kernel
theorem dX9_init_25 : decode cX9_init 25 = .ok (.aload_n 0, 1) := by decide +kernel
theorem dX9_init_26 : decode cX9_init 26 = .ok (.aload 5, 2) := by decide +kernel
theorem dX9_init_28 : decode cX9_init 28 = .ok (.putfield 27, 3) := by decide +kernel
theorem dX9_init_31 : decode cX9_init 31 = .ok (.return_, 1) := by decide +kernel
theorem dX9_isDistinctFrom_0 : decode cX9_isDistinctFrom 0 = .ok (.aload_n 0, 1) := by decide +kernel
theorem dX9_isDistinctFrom_1 : decode cX9_isDistinctFrom 1 = .ok (.getfield 9, 3) := by decide +kernel
theorem dX9_isDistinctFrom_4 : decode cX9_isDistinctFrom 4 = .ok (.getfield 31, 3) := by decide +kernel
theorem dX9_isDistinctFrom_7 : decode cX9_isDistinctFrom 7 = .ok (.ifCond .eq 27, 3) := by decide +kernel
theorem dX9_isDistinctFrom_10 : decode cX9_isDistinctFrom 10 = .ok (.aload_n 1, 1) := by decide +kernel
theorem dX9_isDistinctFrom_11 : decode cX9_isDistinctFrom 11 = .ok (.getfield 9, 3) := by decide +kernel
theorem dX9_isDistinctFrom_14 : decode cX9_isDistinctFrom 14 = .ok (.getfield 31, 3) := by decide +kernel
theorem dX9_isDistinctFrom_17 : decode cX9_isDistinctFrom 17 = .ok (.ifCond .eq 17, 3) := by decide +kernel
theorem dX9_isDistinctFrom_20 : decode cX9_isDistinctFrom 20 = .ok (.aload_n 0, 1) := by decide +kernel
theorem dX9_isDistinctFrom_21 : decode cX9_isDistinctFrom 21 = .ok (.getfield 19, 3) := by decide +kernel
theorem dX9_isDistinctFrom_24 : decode cX9_isDistinctFrom 24 = .ok (.ifCond .eq 12, 3) := by decide +kernel
theorem dX9_isDistinctFrom_27 : decode cX9_isDistinctFrom 27 = .ok (.aload_n 1, 1) := by decide +kernel
theorem dX9_isDistinctFrom_28 : decode cX9_isDistinctFrom 28 = .ok (.getfield 19, 3) := by decide +kernel
theorem dX9_isDistinctFrom_31 : decode cX9_isDistinctFrom 31 = .ok (.ifCond .eq 5, 3) := by decide +kernel
theorem dX9_isDistinctFrom_34 : decode cX9_isDistinctFrom 34 = .ok (.iconst 0, 1) := by decide +kernel
theorem dX9_isDistinctFrom_35 : decode cX9_isDistinctFrom 35 = .ok (.ireturn, 1) := by decide +kernel
theorem dX9_isDistinctFrom_36 : decode cX9_isDistinctFrom 36 = .ok (.aload_n 0, 1) := by decide +kernel
theorem dX9_isDistinctFrom_37 : decode cX9_isDistinctFrom 37 = .ok (.getfield 9, 3) := by decide +kernel
theorem dX9_isDistinctFrom_40 : decode cX9_isDistinctFrom 40 = .ok (.getfield 31, 3) := by decide +kernel
theorem dX9_isDistinctFrom_43 : decode cX9_isDistinctFrom 43 = .ok (.aload_n 1, 1) := by decide +kernel
theorem dX9_isDistinctFrom_44 : decode cX9_isDistinctFrom 44 = .ok (.getfield 9, 3) := by decide +kernel
theorem dX9_isDistinctFrom_47 : decode cX9_isDistinctFrom 47 = .ok (.getfield 31, 3) := by decide +kernel
theorem dX9_isDistinctFrom_50 : decode cX9_isDistinctFrom 50 = .ok (.if_icmp .eq 7, 3) := by decide +kernel
theorem dX9_isDistinctFrom_53 : decode cX9_isDistinctFrom 53 = .ok (.iconst 1, 1) := by decide +kernel
theorem dX9_isDistinctFrom_54 : decode cX9_isDistinctFrom 54 = .ok (.goto 4, 3) := by decide +kernel
theorem dX9_isDistinctFrom_57 : decode cX9_isDistinctFrom 57 = .ok (.iconst 0, 1) := by decide +kernel
theorem dX9_isDistinctFrom_58 : decode cX9_isDistinctFrom 58 = .ok (.ireturn, 1) := by decide +kernel
set_option maxRecDepth 20000 in
theorem ggX9_isSameAs_X9_isSameButElement : GoodIn wsX9_isSameAs wsX9_isSameButElement := goodIn_r _ [6, 7, 8, 9, 10, 11, 12, 5, 13, 14, 15, 16, 17, 18, 19] (by decide +kernel) (by decide +kernel)
set_option maxRecDepth 20000 in
theorem gX9_isSameAs_X9_isSameButElement : GoodIn wsX9_isSameAs (wsV RX9 36 RX9 yX9_isSameButElement wsX9_isSameButElement) := goodIn_app (goodIn_of _ (by decide +kernel)) ggX9_isSameAs_X9_isSameButElement
theorem dX9_isSameAs_0 : decode cX9_isSameAs 0 = .ok (.aload_n 0, 1) := by decide +kernel
theorem dX9_isSameAs_1 : decode cX9_isSameAs 1 = .ok (.getfield 27, 3) := by decide +kernel
theorem dX9_isSameAs_4 : decode cX9_isSameAs 4 = .ok (.ifnull 10, 3) := by decide +kernel
theorem dX9_isSameAs_7 : decode cX9_isSameAs 7 = .ok (.aload_n 1, 1) := by decide +kernel
theorem dX9_isSameAs_8 : decode cX9_isSameAs 8 = .ok (.getfield 27, 3) := by decide +kernel
theorem dX9_isSameAs_11 : decode cX9_isSameAs 11 = .ok (.ifnonnull 31, 3) := by decide +kernel
theorem dX9_isSameAs_14 : decode cX9_isSameAs 14 = .ok (.aload_n 0, 1) := by decide +kernel
theorem dX9_isSameAs_15 : decode cX9_isSameAs 15 = .ok (.getfield 27, 3) := by decide +kernel
theorem dX9_isSameAs_18 : decode cX9_isSameAs 18 = .ok (.ifnonnull 22, 3) := by decide +kernel
theorem dX9_isSameAs_21 : decode cX9_isSameAs 21 = .ok (.aload_n 1, 1) := by decide +kernel
theorem dX9_isSameAs_22 : decode cX9_isSameAs 22 = .ok (.getfield 27, 3) := by decide +kernel
theorem dX9_isSameAs_25 : decode cX9_isSameAs 25 = .ok (.ifnonnull 15, 3) := by decide +kernel
theorem dX9_isSameAs_28 : decode cX9_isSameAs 28 = .ok (.aload_n 0, 1) := by decide +kernel
theorem dX9_isSameAs_29 : decode cX9_isSameAs 29 = .ok (.aload_n 1, 1) := by decide +kernel
theorem dX9_isSameAs_30 : decode cX9_isSameAs 30 = .ok (.invokevirtual 36, 3) := by decide +kernel
theorem dX9_isSameAs_33 : decode cX9_isSameAs 33 = .ok (.ifCond .eq 7, 3) := by decide +kernel
theorem dX9_isSameAs_36 : decode cX9_isSameAs 36 = .ok (.iconst 1, 1) := by decide +kernel
theorem dX9_isSameAs_37 : decode cX9_isSameAs 37 = .ok (.goto 4, 3) := by decide +kernel
theorem dX9_isSameAs_40 : decode cX9_isSameAs 40 = .ok (.iconst 0, 1) := by decide +kernel
theorem dX9_isSameAs_41 : decode cX9_isSameAs 41 = .ok (.ireturn, 1) := by decide +kernel
theorem dX9_isSameAs_42 : decode cX9_isSameAs 42 = .ok (.aload_n 0, 1) := by decide +kernel
theorem dX9_isSameAs_43 : decode cX9_isSameAs 43 = .ok (.aload_n 1, 1) := by decide +kernel
theorem dX9_isSameAs_44 : decode cX9_isSameAs 44 = .ok (.invokevirtual 36, 3) := by decide +kernel
theorem dX9_isSameAs_47 : decode cX9_isSameAs 47 = .ok (.ifCond .eq 21, 3) := by decide +kernel
theorem dX9_isSameAs_50 : decode cX9_isSameAs 50 = .ok (.aload_n 0, 1) := by decide +kernel
theorem dX9_isSameAs_51 : decode cX9_isSameAs 51 = .ok (.getfield 27, 3) := by decide +kernel
theorem dX9_isSameAs_54 : decode cX9_isSameAs 54 = .ok (.aload_n 1, 1) := by decide +kernel
theorem dX9_isSameAs_55 : decode cX9_isSameAs 55 = .ok (.getfield 27, 3) := by decide +kernel
theorem dX9_isSameAs_58 : decode cX9_isSameAs 58 = .ok (.invokevirtual 36, 3) := by decide +kernel
theorem dX9_isSameAs_61 : decode cX9_isSameAs 61 = .ok (.ifCond .eq 7, 3) := by decide +kernel
theorem dX9_isSameAs_64 : decode cX9_isSameAs 64 = .ok (.iconst 1, 1) := by decide +kernel
theorem dX9_isSameAs_65 : decode cX9_isSameAs 65 = .ok (.goto 4, 3) := by decide +kernel
theorem dX9_isSameAs_68 : decode cX9_isSameAs 68 = .ok (.iconst 0, 1) := by decide +kernel
theorem dX9_isSameAs_69 : decode cX9_isSameAs 69 = .ok (.ireturn, 1) := by decide +kernel
set_option maxRecDepth 20000 in
theorem ggX9_isSameButElement_X9_hasSameWords : GoodIn wsX9_isSameButElement wsX9_hasSameWords := goodIn_r _ [8, 9, 10, 11, 12, 13, 14] (by decide +kernel) (by decide +kernel)
set_option maxRecDepth 20000 in
theorem gX9_isSameButElement_X9_hasSameWords : GoodIn wsX9_isSameButElement (wsV RX9 40 RX9 yX9_hasSameWords wsX9_hasSameWords) := goodIn_app (goodIn_of _ (by decide +kernel)) ggX9_isSameButElement_X9_hasSameWords
theorem dX9_isSameButElement_0 : decode cX9_isSameButElement 0 = .ok (.aload_n 0, 1) := by decide +kernel
theorem dX9_isSameButElement_1 : decode cX9_isSameButElement 1 = .ok (.getfield 9, 3) := by decide +kernel
theorem dX9_isSameButElement_4 : decode cX9_isSameButElement 4 = .ok (.aload_n 1, 1) := by decide +kernel
theorem dX9_isSameButElement_5 : decode cX9_isSameButElement 5 = .ok (.getfield 9, 3) := by decide +kernel
theorem dX9_isSameButElement_8 : decode cX9_isSameButElement 8 = .ok (.if_acmp .ne 37, 3) := by decide +kernel
theorem dX9_isSameButElement_11 : decode cX9_isSameButElement 11 = .ok (.aload_n 0, 1) := by decide +kernel
theorem dX9_isSameButElement_12 : decode cX9_isSameButElement 12 = .ok (.getfield 15, 3) := by decide +kernel
theorem dX9_isSameButElement_15 : decode cX9_isSameButElement 15 = .ok (.aload_n 1, 1) := by decide +kernel
theorem dX9_isSameButElement_16 : decode cX9_isSameButElement 16 = .ok (.getfield 15, 3) := by decide +kernel
theorem dX9_isSameButElement_19 : decode cX9_isSameButElement 19 = .ok (.if_icmp .ne 26, 3) := by decide +kernel
theorem dX9_isSameButElement_22 : decode cX9_isSameButElement 22 = .ok (.aload_n 0, 1) := by decide +kernel
theorem dX9_isSameButElement_23 : decode cX9_isSameButElement 23 = .ok (.getfield 19, 3) := by decide +kernel
theorem dX9_isSameButElement_26 : decode cX9_isSameButElement 26 = .ok (.aload_n 1, 1) := by decide +kernel
theorem dX9_isSameButElement_27 : decode cX9_isSameButElement 27 = .ok (.getfield 19, 3) := by decide +kernel
theorem dX9_isSameButElement_30 : decode cX9_isSameButElement 30 = .ok (.if_icmp .ne 15, 3) := by decide +kernel
theorem dX9_isSameButElement_33 : decode cX9_isSameButElement 33 = .ok (.aload_n 0, 1) := by decide +kernel
theorem dX9_isSameButElement_34 : decode cX9_isSameButElement 34 = .ok (.aload_n 1, 1) := by decide +kernel
theorem dX9_isSameButElement_35 : decode cX9_isSameButElement 35 = .ok (.invokevirtual 40, 3) := by decide +kernel
theorem dX9_isSameButElement_38 : decode cX9_isSameButElement 38 = .ok (.ifCond .eq 7, 3) := by decide +kernel
theorem dX9_isSameButElement_41 : decode cX9_isSameButElement 41 = .ok (.iconst 1, 1) := by decide +kernel
theorem dX9_isSameButElement_42 : decode cX9_isSameButElement 42 = .ok (.goto 4, 3) := by decide +kernel
theorem dX9_isSameButElement_45 : decode cX9_isSameButElement 45 = .ok (.iconst 0, 1) := by decide +kernel
theorem dX9_isSameButElement_46 : decode cX9_isSameButElement 46 = .ok (.ireturn, 1) := by decide +kernel
theorem dX9_hasSameWords_0 : decode cX9_hasSameWords 0 = .ok (.aload_n 0, 1) := by decide +kernel
theorem dX9_hasSameWords_1 : decode cX9_hasSameWords 1 = .ok (.getfield 23, 3) := by decide +kernel
theorem dX9_hasSameWords_4 : decode cX9_hasSameWords 4 = .ok (.ifnull 10, 3) := by decide +kernel
theorem dX9_hasSameWords_7 : decode cX9_hasSameWords 7 = .ok (.aload_n 1, 1) := by decide +kernel
theorem dX9_hasSameWords_8 : decode cX9_hasSameWords 8 = .ok (.getfield 23, 3) := by decide +kernel
theorem dX9_hasSameWords_11 : decode cX9_hasSameWords 11 = .ok (.ifnonnull 23, 3) := by decide +kernel
theorem dX9_hasSameWords_14 : decode cX9_hasSameWords 14 = .ok (.aload_n 0, 1) := by decide +kernel
theorem dX9_hasSameWords_15 : decode cX9_hasSameWords 15 = .ok (.getfield 23, 3) := by decide +kernel
theorem dX9_hasSameWords_18 : decode cX9_hasSameWords 18 = .ok (.ifnonnull 14, 3) := by decide +kernel
theorem dX9_hasSameWords_21 : decode cX9_hasSameWords 21 = .ok (.aload_n 1, 1) := by decide +kernel
theorem dX9_hasSameWords_22 : decode cX9_hasSameWords 22 = .ok (.getfield 23, 3) := by decide +kernel
theorem dX9_hasSameWords_25 : decode cX9_hasSameWords 25 = .ok (.ifnonnull 7, 3) := by decide +kernel
theorem dX9_hasSameWords_28 : decode cX9_hasSameWords 28 = .ok (.iconst 1, 1) := by decide +kernel
theorem dX9_hasSameWords_29 : decode cX9_hasSameWords 29 = .ok (.goto 4, 3) := by decide +kernel
theorem dX9_hasSameWords_32 : decode cX9_hasSameWords 32 = .ok (.iconst 0, 1) := by decide +kernel
theorem dX9_hasSameWords_33 : decode cX9_hasSameWords 33 = .ok (.ireturn, 1) := by decide +kernel
theorem dX9_hasSameWords_34 : decode cX9_hasSameWords 34 = .ok (.aload_n 0, 1) := by decide +kernel
theorem dX9_hasSameWords_35 : decode cX9_hasSameWords 35 = .ok (.getfield 23, 3) := by decide +kernel
theorem dX9_hasSameWords_38 : decode cX9_hasSameWords 38 = .ok (.arraylength, 1) := by decide +kernel
theorem dX9_hasSameWords_39 : decode cX9_hasSameWords 39 = .ok (.aload_n 1, 1) := by decide +kernel
theorem dX9_hasSameWords_40 : decode cX9_hasSameWords 40 = .ok (.getfield 23, 3) := by decide +kernel
theorem dX9_hasSameWords_43 : decode cX9_hasSameWords 43 = .ok (.arraylength, 1) := by decide +kernel
theorem dX9_hasSameWords_44 : decode cX9_hasSameWords 44 = .ok (.if_icmp .eq 5, 3) := by decide +kernel
theorem dX9_hasSameWords_47 : decode cX9_hasSameWords 47 = .ok (.iconst 0, 1) := by decide +kernel
theorem dX9_hasSameWords_48 : decode cX9_hasSameWords 48 = .ok (.ireturn, 1) := by decide +kernel
theorem dX9_hasSameWords_49 : decode cX9_hasSameWords 49 = .ok (.iconst 0, 1) := by decide +kernel
theorem dX9_hasSameWords_50 : decode cX9_hasSameWords 50 = .ok (.istore_n 2, 1) := by decide +kernel
theorem dX9_hasSameWords_51 : decode cX9_hasSameWords 51 = .ok (.iload_n 2, 1) := by decide +kernel
theorem dX9_hasSameWords_52 : decode cX9_hasSameWords 52 = .ok (.aload_n 0, 1) := by decide +kernel
theorem dX9_hasSameWords_53 : decode cX9_hasSameWords 53 = .ok (.getfield 23, 3) := by decide +kernel
theorem dX9_hasSameWords_56 : decode cX9_hasSameWords 56 = .ok (.arraylength, 1) := by decide +kernel
theorem dX9_hasSameWords_57 : decode cX9_hasSameWords 57 = .ok (.if_icmp .ge 36, 3) := by decide +kernel
theorem dX9_hasSameWords_60 : decode cX9_hasSameWords 60 = .ok (.iload_n 2, 1) := by decide +kernel
theorem dX9_hasSameWords_61 : decode cX9_hasSameWords 61 = .ok (.aload_n 1, 1) := by decide +kernel
theorem dX9_hasSameWords_62 : decode cX9_hasSameWords 62 = .ok (.getfield 23, 3) := by decide +kernel
theorem dX9_hasSameWords_65 : decode cX9_hasSameWords 65 = .ok (.arraylength, 1) := by decide +kernel
theorem dX9_hasSameWords_66 : decode cX9_hasSameWords 66 = .ok (.if_icmp .ge 27, 3) := by decide +kernel
theorem dX9_hasSameWords_69 : decode cX9_hasSameWords 69 = .ok (.aload_n 0, 1) := by decide +kernel
theorem dX9_hasSameWords_70 : decode cX9_hasSameWords 70 = .ok (.getfield 23, 3) := by decide +kernel
theorem dX9_hasSameWords_73 : decode cX9_hasSameWords 73 = .ok (.iload_n 2, 1) := by decide +kernel
theorem dX9_hasSameWords_74 : decode cX9_hasSameWords 74 = .ok (.laload, 1) := by decide +kernel
theorem dX9_hasSameWords_75 : decode cX9_hasSameWords 75 = .ok (.aload_n 1, 1) := by decide +kernel
theorem dX9_hasSameWords_76 : decode cX9_hasSameWords 76 = .ok (.getfield 23, 3) := by decide +kernel
theorem dX9_hasSameWords_79 : decode cX9_hasSameWords 79 = .ok (.iload_n 2, 1) := by decide +kernel
theorem dX9_hasSameWords_80 : decode cX9_hasSameWords 80 = .ok (.laload, 1) := by decide +kernel
theorem dX9_hasSameWords_81 : decode cX9_hasSameWords 81 = .ok (.lcmp, 1) := by decide +kernel
theorem dX9_hasSameWords_82 : decode cX9_hasSameWords 82 = .ok (.ifCond .eq 5, 3) := by decide +kernel
theorem dX9_hasSameWords_85 : decode cX9_hasSameWords 85 = .ok (.iconst 0, 1) := by decide +kernel
theorem dX9_hasSameWords_86 : decode cX9_hasSameWords 86 = .ok (.ireturn, 1) := by decide +kernel
theorem dX9_hasSameWords_87 : decode cX9_hasSameWords 87 = .ok (.iinc 2 1, 3) := by decide +kernel
theorem dX9_hasSameWords_90 : decode cX9_hasSameWords 90 = .ok (.goto (-39), 3) := by decide +kernel
theorem dX9_hasSameWords_93 : decode cX9_hasSameWords 93 = .ok (.iconst 1, 1) := by decide +kernel
theorem dX9_hasSameWords_94 : decode cX9_hasSameWords 94 = .ok (.ireturn, 1) := by decide +kernel
theorem dX9_hasWord_0 : decode cX9_hasWord 0 = .ok (.aload_n 0, 1) := by decide +kernel
theorem dX9_hasWord_1 : decode cX9_hasWord 1 = .ok (.getfield 23, 3) := by decide +kernel
theorem dX9_hasWord_4 : decode cX9_hasWord 4 = .ok (.ifnull 9, 3) := by decide +kernel
theorem dX9_hasWord_7 : decode cX9_hasWord 7 = .ok (.lload_n 1, 1) := by decide +kernel
theorem dX9_hasWord_8 : decode cX9_hasWord 8 = .ok (.lconst 0, 1) := by decide +kernel
theorem dX9_hasWord_9 : decode cX9_hasWord 9 = .ok (.lcmp, 1) := by decide +kernel
theorem dX9_hasWord_10 : decode cX9_hasWord 10 = .ok (.ifCond .ne 5, 3) := by decide +kernel
theorem dX9_hasWord_13 : decode cX9_hasWord 13 = .ok (.iconst 0, 1) := by decide +kernel
theorem dX9_hasWord_14 : decode cX9_hasWord 14 = .ok (.ireturn, 1) := by decide +kernel
theorem dX9_hasWord_15 : decode cX9_hasWord 15 = .ok (.aload_n 0, 1) := by decide +kernel
theorem dX9_hasWord_16 : decode cX9_hasWord 16 = .ok (.getfield 23, 3) := by decide +kernel
theorem dX9_hasWord_19 : decode cX9_hasWord 19 = .ok (.astore_n 3, 1) := by decide +kernel
theorem dX9_hasWord_20 : decode cX9_hasWord 20 = .ok (.aload_n 3, 1) := by decide +kernel
theorem dX9_hasWord_21 : decode cX9_hasWord 21 = .ok (.arraylength, 1) := by decide +kernel
theorem dX9_hasWord_22 : decode cX9_hasWord 22 = .ok (.istore 4, 2) := by decide +kernel
theorem dX9_hasWord_24 : decode cX9_hasWord 24 = .ok (.iconst 0, 1) := by decide +kernel
theorem dX9_hasWord_25 : decode cX9_hasWord 25 = .ok (.istore 5, 2) := by decide +kernel
theorem dX9_hasWord_27 : decode cX9_hasWord 27 = .ok (.iload 5, 2) := by decide +kernel
theorem dX9_hasWord_29 : decode cX9_hasWord 29 = .ok (.iload 4, 2) := by decide +kernel
theorem dX9_hasWord_31 : decode cX9_hasWord 31 = .ok (.if_icmp .ge 24, 3) := by decide +kernel
theorem dX9_hasWord_34 : decode cX9_hasWord 34 = .ok (.aload_n 3, 1) := by decide +kernel
theorem dX9_hasWord_35 : decode cX9_hasWord 35 = .ok (.iload 5, 2) := by decide +kernel
theorem dX9_hasWord_37 : decode cX9_hasWord 37 = .ok (.laload, 1) := by decide +kernel
theorem dX9_hasWord_38 : decode cX9_hasWord 38 = .ok (.lstore 6, 2) := by decide +kernel
theorem dX9_hasWord_40 : decode cX9_hasWord 40 = .ok (.lload 6, 2) := by decide +kernel
theorem dX9_hasWord_42 : decode cX9_hasWord 42 = .ok (.lload_n 1, 1) := by decide +kernel
theorem dX9_hasWord_43 : decode cX9_hasWord 43 = .ok (.lcmp, 1) := by decide +kernel
theorem dX9_hasWord_44 : decode cX9_hasWord 44 = .ok (.ifCond .ne 5, 3) := by decide +kernel
theorem dX9_hasWord_47 : decode cX9_hasWord 47 = .ok (.iconst 1, 1) := by decide +kernel
theorem dX9_hasWord_48 : decode cX9_hasWord 48 = .ok (.ireturn, 1) := by decide +kernel
theorem dX9_hasWord_49 : decode cX9_hasWord 49 = .ok (.iinc 5 1, 3) := by decide +kernel
theorem dX9_hasWord_52 : decode cX9_hasWord 52 = .ok (.goto (-25), 3) := by decide +kernel
theorem dX9_hasWord_55 : decode cX9_hasWord 55 = .ok (.iconst 0, 1) := by decide +kernel
theorem dX9_hasWord_56 : decode cX9_hasWord 56 = .ok (.ireturn, 1) := by decide +kernel
set_option maxRecDepth 20000 in
theorem ggX10_init_X7_init : GoodIn wsX10_init wsX7_init := goodIn_r _ [27, 28, 2, 3, 29, 30, 31, 32, 33, 34, 35, 149, 150] (by decide +kernel) (by decide +kernel)
set_option maxRecDepth 20000 in
theorem gX10_init_X7_init : GoodIn wsX10_init (wsX7_init) := ggX10_init_X7_init
set_option maxRecDepth 20000 in
theorem ggX10_init_X6_init : GoodIn wsX10_init wsX6_init := goodIn_r _ [37, 38, 2, 3, 34, 39, 40, 41, 42, 43, 44, 45, 46, 160, 161, 162, 163, 164, 165, 166] (by decide +kernel) (by decide +kernel)
set_option maxRecDepth 20000 in
theorem gX10_init_X6_init_n20 : GoodIn wsX10_init (wsX6_init) := ggX10_init_X6_init
set_option maxRecDepth 20000 in
theorem ggX10_init_X10_rowOfThings : GoodIn wsX10_init wsX10_rowOfThings := goodIn_r _ [50, 51, 52, 53, 54, 55, 56, 57, 58, 59, 60, 61, 2, 3, 62, 63, 64, 65, 66, 67, 5, 6, 68, 69, 70, 26, 27, 28, 29, 30, 31, 32, 33, 34, 35, 71, 72, 73, 74, 75, 76, 77, 78, 79, 80, 81, 82, 83, 84, 85, 86, 87, 88, 89, 90, 91, 92, 93, 94, 95, 96, 97, 98, 99, 100, 101, 102, 103, 104, 105, 106, 107, 108, 109, 110, 111, 112, 113, 114, 115, 116, 117, 118, 119, 120, 121, 122, 123, 124, 125, 126, 127, 128, 129, 130, 131, 132, 133, 134, 135, 136, 172, 173, 174, 175, 176, 177, 178, 149, 150] (by decide +kernel) (by decide +kernel)
set_option maxRecDepth 20000 in
theorem gX10_init_X10_rowOfThings : GoodIn wsX10_init (va_wsS RX10 31 yX10_rowOfThings wsX10_rowOfThings) := goodIn_app (goodIn_of _ (by decide +kernel)) ggX10_init_X10_rowOfThings
set_option maxRecDepth 20000 in
theorem ggX10_init_X4_init : GoodIn wsX10_init wsX4_init := goodIn_r _ [138, 139, 2, 3, 140, 167] (by decide +kernel) (by decide +kernel)
set_option maxRecDepth 20000 in
theorem gX10_init_X4_init_n41 : GoodIn wsX10_init (wsX4_init) := ggX10_init_X4_init
set_option maxRecDepth 20000 in
theorem ggX10_init_X5_init : GoodIn wsX10_init wsX5_init := goodIn_r _ [142, 143, 2, 3, 144, 145, 146, 147, 148, 168, 169, 170, 171] (by decide +kernel) (by decide +kernel)
set_option maxRecDepth 20000 in
theorem gX10_init_X5_init_n59 : GoodIn wsX10_init (wsX5_init) := ggX10_init_X5_init
theorem dX10_init_0 : decode cX10_init 0 = .ok (.aload_n 0, 1) := by decide +kernel
theorem dX10_init_1 : decode cX10_init 1 = .ok (.invokespecial 1, 3) := by decide +kernel
theorem dX10_init_4 : decode cX10_init 4 = .ok (.aload_n 0, 1) := by decide +kernel
theorem dX10_init_5 : decode cX10_init 5 = .ok (.new 7, 3) := by decide +kernel
theorem dX10_init_8 : decode cX10_init 8 = .ok (.dup, 1) := by decide +kernel
theorem dX10_init_9 : decode cX10_init 9 = .ok (.bipush 100, 2) := by decide +kernel
theorem dX10_init_11 : decode cX10_init 11 = .ok (.invokespecial 11, 3) := by decide +kernel
theorem dX10_init_14 : decode cX10_init 14 = .ok (.putfield 14, 3) := by decide +kernel
theorem dX10_init_17 : decode cX10_init 17 = .ok (.aload_n 0, 1) := by decide +kernel
theorem dX10_init_18 : decode cX10_init 18 = .ok (.new 18, 3) := by decide +kernel
theorem dX10_init_21 : decode cX10_init 21 = .ok (.dup, 1) := by decide +kernel
theorem dX10_init_22 : decode cX10_init 22 = .ok (.invokespecial 20, 3) := by decide +kernel
theorem dX10_init_25 : decode cX10_init 25 = .ok (.putfield 21, 3) := by decide +kernel
theorem dX10_init_28 : decode cX10_init 28 = .ok (.aload_n 0, 1) := by decide +kernel
theorem dX10_init_29 : decode cX10_init 29 = .ok (.bipush 6, 2) := by decide +kernel
theorem dX10_init_31 : decode cX10_init 31 = .ok (.anewarray 25, 3) := by decide +kernel
theorem dX10_init_34 : decode cX10_init 34 = .ok (.putfield 27, 3) := by decide +kernel
theorem dX10_init_37 : decode cX10_init 37 = .ok (.aload_n 0, 1) := by decide +kernel
theorem dX10_init_38 : decode cX10_init 38 = .ok (.invokestatic 31, 3) := by decide +kernel
theorem dX10_init_41 : decode cX10_init 41 = .ok (.putfield 35, 3) := by decide +kernel
theorem dX10_init_44 : decode cX10_init 44 = .ok (.aload_n 0, 1) := by decide +kernel
theorem dX10_init_45 : decode cX10_init 45 = .ok (.new 39, 3) := by decide +kernel
theorem dX10_init_48 : decode cX10_init 48 = .ok (.dup, 1) := by decide +kernel
theorem dX10_init_49 : decode cX10_init 49 = .ok (.invokespecial 41, 3) := by decide +kernel
theorem dX10_init_52 : decode cX10_init 52 = .ok (.putfield 42, 3) := by decide +kernel
theorem dX10_init_55 : decode cX10_init 55 = .ok (.aload_n 0, 1) := by decide +kernel
theorem dX10_init_56 : decode cX10_init 56 = .ok (.invokestatic 31, 3) := by decide +kernel
theorem dX10_init_59 : decode cX10_init 59 = .ok (.putfield 46, 3) := by decide +kernel
theorem dX10_init_62 : decode cX10_init 62 = .ok (.aload_n 0, 1) := by decide +kernel
theorem dX10_init_63 : decode cX10_init 63 = .ok (.invokestatic 31, 3) := by decide +kernel
theorem dX10_init_66 : decode cX10_init 66 = .ok (.putfield 49, 3) := by decide +kernel
theorem dX10_init_69 : decode cX10_init 69 = .ok (.aload_n 0, 1) := by decide +kernel
theorem dX10_init_70 : decode cX10_init 70 = .ok (.iconst 0, 1) := by decide +kernel
theorem dX10_init_71 : decode cX10_init 71 = .ok (.putfield 52, 3) := by decide +kernel
theorem dX10_init_74 : decode cX10_init 74 = .ok (.aload_n 0, 1) := by decide +kernel
theorem dX10_init_75 : decode cX10_init 75 = .ok (.iconst (-1), 1) := by decide +kernel
theorem dX10_init_76 : decode cX10_init 76 = .ok (.putfield 56, 3) := by decide +kernel
theorem dX10_init_79 : decode cX10_init 79 = .ok (.iconst 0, 1) := by decide +kernel
theorem dX10_init_80 : decode cX10_init 80 = .ok (.istore_n 1, 1) := by decide +kernel
theorem dX10_init_81 : decode cX10_init 81 = .ok (.iload_n 1, 1) := by decide +kernel
theorem dX10_init_82 : decode cX10_init 82 = .ok (.aload_n 0, 1) := by decide +kernel
theorem dX10_init_83 : decode cX10_init 83 = .ok (.getfield 27, 3) := by decide +kernel
theorem dX10_init_86 : decode cX10_init 86 = .ok (.arraylength, 1) := by decide +kernel
theorem dX10_init_87 : decode cX10_init 87 = .ok (.if_icmp .ge 22, 3) := by decide +kernel
theorem dX10_init_90 : decode cX10_init 90 = .ok (.aload_n 0, 1) := by decide +kernel
theorem dX10_init_91 : decode cX10_init 91 = .ok (.getfield 27, 3) := by decide +kernel
theorem dX10_init_94 : decode cX10_init 94 = .ok (.iload_n 1, 1) := by decide +kernel
theorem dX10_init_95 : decode cX10_init 95 = .ok (.new 25, 3) := by decide +kernel
theorem dX10_init_98 : decode cX10_init 98 = .ok (.dup, 1) := by decide +kernel
theorem dX10_init_99 : decode cX10_init 99 = .ok (.invokespecial 59, 3) := by decide +kernel
theorem dX10_init_102 : decode cX10_init 102 = .ok (.aastore, 1) := by decide +kernel
theorem dX10_init_103 : decode cX10_init 103 = .ok (.iinc 1 1, 3) := by decide +kernel
theorem dX10_init_106 : decode cX10_init 106 = .ok (.goto (-25), 3) := by decide +kernel
theorem dX10_init_109 : decode cX10_init 109 = .ok (.return_, 1) := by decide +kernel
set_option maxRecDepth 20000 in
theorem ggX10_type_X7_signsIn : GoodIn wsX10_type wsX7_signsIn := goodIn_r _ [8] (by decide +kernel) (by decide +kernel)
set_option maxRecDepth 20000 in
theorem gX10_type_X7_signsIn : GoodIn wsX10_type (va_wsS RX10 60 yX7_signsIn wsX7_signsIn) := goodIn_app (goodIn_of _ (by decide +kernel)) ggX10_type_X7_signsIn
set_option maxRecDepth 20000 in
theorem ggX10_type_X7_appendSigns : GoodIn wsX10_type wsX7_appendSigns := goodIn_r _ [12, 13, 14, 15, 7, 16, 17, 18, 28, 29] (by decide +kernel) (by decide +kernel)
set_option maxRecDepth 20000 in
theorem gX10_type_X7_appendSigns : GoodIn wsX10_type (wsV RX10 74 RX7 yX7_appendSigns wsX7_appendSigns) := goodIn_app (goodIn_of _ (by decide +kernel)) ggX10_type_X7_appendSigns
theorem dX10_type_0 : decode cX10_type 0 = .ok (.iload_n 1, 1) := by decide +kernel
theorem dX10_type_1 : decode cX10_type 1 = .ok (.invokestatic 60, 3) := by decide +kernel
theorem dX10_type_4 : decode cX10_type 4 = .ok (.iload_n 2, 1) := by decide +kernel
theorem dX10_type_5 : decode cX10_type 5 = .ok (.invokestatic 60, 3) := by decide +kernel
theorem dX10_type_8 : decode cX10_type 8 = .ok (.iadd, 1) := by decide +kernel
theorem dX10_type_9 : decode cX10_type 9 = .ok (.iload_n 3, 1) := by decide +kernel
theorem dX10_type_10 : decode cX10_type 10 = .ok (.invokestatic 60, 3) := by decide +kernel
theorem dX10_type_13 : decode cX10_type 13 = .ok (.iadd, 1) := by decide +kernel
theorem dX10_type_14 : decode cX10_type 14 = .ok (.iload 4, 2) := by decide +kernel
theorem dX10_type_16 : decode cX10_type 16 = .ok (.invokestatic 60, 3) := by decide +kernel
theorem dX10_type_19 : decode cX10_type 19 = .ok (.iadd, 1) := by decide +kernel
theorem dX10_type_20 : decode cX10_type 20 = .ok (.iload 5, 2) := by decide +kernel
theorem dX10_type_22 : decode cX10_type 22 = .ok (.invokestatic 60, 3) := by decide +kernel
theorem dX10_type_25 : decode cX10_type 25 = .ok (.iadd, 1) := by decide +kernel
theorem dX10_type_26 : decode cX10_type 26 = .ok (.istore 6, 2) := by decide +kernel
theorem dX10_type_28 : decode cX10_type 28 = .ok (.aload_n 0, 1) := by decide +kernel
theorem dX10_type_29 : decode cX10_type 29 = .ok (.getfield 14, 3) := by decide +kernel
theorem dX10_type_32 : decode cX10_type 32 = .ok (.getfield 64, 3) := by decide +kernel
theorem dX10_type_35 : decode cX10_type 35 = .ok (.iload 6, 2) := by decide +kernel
theorem dX10_type_37 : decode cX10_type 37 = .ok (.iadd, 1) := by decide +kernel
theorem dX10_type_38 : decode cX10_type 38 = .ok (.bipush 100, 2) := by decide +kernel
theorem dX10_type_40 : decode cX10_type 40 = .ok (.if_icmp .le 13, 3) := by decide +kernel
theorem dX10_type_43 : decode cX10_type 43 = .ok (.new 67, 3) := by decide +kernel
theorem dX10_type_46 : decode cX10_type 46 = .ok (.dup, 1) := by decide +kernel
theorem dX10_type_47 : decode cX10_type 47 = .ok (.ldc 69, 2) := by decide +kernel
theorem dX10_type_49 : decode cX10_type 49 = .ok (.invokespecial 71, 3) := by decide +kernel
theorem dX10_type_52 : decode cX10_type 52 = .ok (.athrow, 1) := by decide +kernel
theorem dX10_type_53 : decode cX10_type 53 = .ok (.aload_n 0, 1) := by decide +kernel
theorem dX10_type_54 : decode cX10_type 54 = .ok (.getfield 14, 3) := by decide +kernel
theorem dX10_type_57 : decode cX10_type 57 = .ok (.iload_n 1, 1) := by decide +kernel
theorem dX10_type_58 : decode cX10_type 58 = .ok (.invokevirtual 74, 3) := by decide +kernel
theorem dX10_type_61 : decode cX10_type 61 = .ok (.aload_n 0, 1) := by decide +kernel
theorem dX10_type_62 : decode cX10_type 62 = .ok (.getfield 14, 3) := by decide +kernel
theorem dX10_type_65 : decode cX10_type 65 = .ok (.iload_n 2, 1) := by decide +kernel
theorem dX10_type_66 : decode cX10_type 66 = .ok (.invokevirtual 74, 3) := by decide +kernel
theorem dX10_type_69 : decode cX10_type 69 = .ok (.aload_n 0, 1) := by decide +kernel
theorem dX10_type_70 : decode cX10_type 70 = .ok (.getfield 14, 3) := by decide +kernel
theorem dX10_type_73 : decode cX10_type 73 = .ok (.iload_n 3, 1) := by decide +kernel
theorem dX10_type_74 : decode cX10_type 74 = .ok (.invokevirtual 74, 3) := by decide +kernel
theorem dX10_type_77 : decode cX10_type 77 = .ok (.aload_n 0, 1) := by decide +kernel
theorem dX10_type_78 : decode cX10_type 78 = .ok (.getfield 14, 3) := by decide +kernel
theorem dX10_type_81 : decode cX10_type 81 = .ok (.iload 4, 2) := by decide +kernel
theorem dX10_type_83 : decode cX10_type 83 = .ok (.invokevirtual 74, 3) := by decide +kernel
theorem dX10_type_86 : decode cX10_type 86 = .ok (.aload_n 0, 1) := by decide +kernel
theorem dX10_type_87 : decode cX10_type 87 = .ok (.getfield 14, 3) := by decide +kernel
theorem dX10_type_90 : decode cX10_type 90 = .ok (.iload 5, 2) := by decide +kernel
theorem dX10_type_92 : decode cX10_type 92 = .ok (.invokevirtual 74, 3) := by decide +kernel
theorem dX10_type_95 : decode cX10_type 95 = .ok (.aload_n 0, 1) := by decide +kernel
theorem dX10_type_96 : decode cX10_type 96 = .ok (.getfield 14, 3) := by decide +kernel
theorem dX10_type_99 : decode cX10_type 99 = .ok (.getfield 64, 3) := by decide +kernel
theorem dX10_type_102 : decode cX10_type 102 = .ok (.ireturn, 1) := by decide +kernel
theorem dX10_erase_0 : decode cX10_erase 0 = .ok (.aload_n 0, 1) := by decide +kernel
theorem dX10_erase_1 : decode cX10_erase 1 = .ok (.getfield 14, 3) := by decide +kernel
theorem dX10_erase_4 : decode cX10_erase 4 = .ok (.getfield 64, 3) := by decide +kernel
theorem dX10_erase_7 : decode cX10_erase 7 = .ok (.istore_n 1, 1) := by decide +kernel
theorem dX10_erase_8 : decode cX10_erase 8 = .ok (.aload_n 0, 1) := by decide +kernel
theorem dX10_erase_9 : decode cX10_erase 9 = .ok (.getfield 14, 3) := by decide +kernel
theorem dX10_erase_12 : decode cX10_erase 12 = .ok (.iconst 0, 1) := by decide +kernel
theorem dX10_erase_13 : decode cX10_erase 13 = .ok (.putfield 64, 3) := by decide +kernel
theorem dX10_erase_16 : decode cX10_erase 16 = .ok (.iload_n 1, 1) := by decide +kernel
theorem dX10_erase_17 : decode cX10_erase 17 = .ok (.ireturn, 1) := by decide +kernel
set_option maxRecDepth 20000 in
theorem ggX10_define_X6_readForm : GoodIn wsX10_define wsX6_readForm := goodIn_r _ [10, 11, 12, 13, 14, 15, 16, 17, 18, 19, 9, 20, 21, 22, 23, 24, 25, 26, 27, 28, 29, 30, 31, 32, 33, 34, 35, 36, 37, 38, 39, 40, 41, 42, 43, 44, 45, 46, 47, 48, 49, 50, 51, 52, 53, 54, 55, 56, 57, 58, 59, 60, 61, 62, 63, 64, 65, 66, 67, 68, 69, 70, 71, 72, 73, 74, 75, 76, 77, 78, 79, 80, 81, 82, 83, 84, 85, 86, 87, 88, 89, 90, 91, 92, 93, 94, 95, 96, 97, 98, 99, 100, 101, 102, 103, 104, 105, 106, 107, 108, 109, 110, 111, 112, 113, 114, 115, 116, 117, 118, 119, 120, 121, 122, 123, 124, 125, 126, 127, 128, 129, 130, 131, 132, 133, 134, 135, 136, 137, 138, 139, 140, 141, 142, 143, 144, 145, 146, 147, 148, 149, 150, 151, 152, 153, 154, 155, 156, 157, 158, 159, 160, 161, 162, 163, 164, 165, 166, 167, 168, 169, 170, 171, 172, 173, 174, 175, 176, 177, 178, 179, 180, 181, 182, 183, 184, 185, 186, 187, 188, 189, 190, 191, 192, 193, 194, 304, 305, 306, 307, 308, 309, 310, 311, 312, 313, 314, 315, 316, 317, 318, 319, 320, 321, 322, 323, 324, 325] (by decide +kernel) (by decide +kernel)
set_option maxRecDepth 20000 in
theorem gX10_define_X6_readForm : GoodIn wsX10_define (wsV RX10 77 RX6 yX6_readForm wsX6_readForm) := goodIn_app (goodIn_of _ (by decide +kernel)) ggX10_define_X6_readForm
set_option maxRecDepth 20000 in
theorem ggX10_define_X10_operationAt : GoodIn wsX10_define wsX10_operationAt := goodIn_r _ [199, 200, 295, 296, 297, 298, 299, 300, 301, 302, 303] (by decide +kernel) (by decide +kernel)
set_option maxRecDepth 20000 in
theorem gX10_define_X10_operationAt : GoodIn wsX10_define (wsV RX10 86 RX10 yX10_operationAt wsX10_operationAt) := goodIn_app (goodIn_of _ (by decide +kernel)) ggX10_define_X10_operationAt
set_option maxRecDepth 20000 in
theorem ggX10_define_X5_clashOf : GoodIn wsX10_define wsX5_clashOf := goodIn_r _ [205, 206, 207, 208, 209, 13, 210, 211, 212, 213, 214, 54, 215, 216, 217, 218, 55, 219, 220, 221, 222, 53, 223, 192, 193, 71, 194, 184, 185, 224, 225, 226, 227, 228, 229, 230, 204, 231, 232, 233, 234, 235, 236, 237, 238, 239, 240, 241, 242, 243, 244, 245, 246, 247, 248, 249, 250, 251, 252, 253, 254, 255, 256, 257, 258, 259, 260, 261, 262, 263, 264, 265, 266, 267, 146, 268, 174, 269, 176, 270, 271, 272, 273, 274, 275, 276, 277, 183, 278, 279, 280, 281, 178, 282, 283, 284, 285, 175, 286, 287, 288, 289, 177, 326, 327, 328, 329, 304, 305, 306, 307, 308, 316, 317, 318, 321, 322, 323, 324, 325] (by decide +kernel) (by decide +kernel)
set_option maxRecDepth 20000 in
theorem gX10_define_X5_clashOf : GoodIn wsX10_define (wsV RX10 93 RX5 yX5_clashOf wsX5_clashOf) := goodIn_app (goodIn_of _ (by decide +kernel)) ggX10_define_X5_clashOf
set_option maxRecDepth 20000 in
theorem ggX10_define_X5_append : GoodIn wsX10_define wsX5_append := goodIn_r _ [293, 232, 237, 294, 326, 327, 328, 329, 304, 305, 306, 307, 308] (by decide +kernel) (by decide +kernel)
set_option maxRecDepth 20000 in
theorem gX10_define_X5_append : GoodIn wsX10_define (wsV RX10 97 RX5 yX5_append wsX5_append) := goodIn_app (goodIn_of _ (by decide +kernel)) ggX10_define_X5_append
theorem dX10_define_0 : decode cX10_define 0 = .ok (.aload_n 0, 1) := by decide +kernel
theorem dX10_define_1 : decode cX10_define 1 = .ok (.getfield 21, 3) := by decide +kernel
theorem dX10_define_4 : decode cX10_define 4 = .ok (.aload_n 0, 1) := by decide +kernel
theorem dX10_define_5 : decode cX10_define 5 = .ok (.getfield 14, 3) := by decide +kernel
theorem dX10_define_8 : decode cX10_define 8 = .ok (.invokevirtual 77, 3) := by decide +kernel
theorem dX10_define_11 : decode cX10_define 11 = .ok (.astore_n 1, 1) := by decide +kernel
theorem dX10_define_12 : decode cX10_define 12 = .ok (.aload_n 1, 1) := by decide +kernel
theorem dX10_define_13 : decode cX10_define 13 = .ok (.ifnonnull 7, 3) := by decide +kernel
theorem dX10_define_16 : decode cX10_define 16 = .ok (.aconst_null, 1) := by decide +kernel
theorem dX10_define_17 : decode cX10_define 17 = .ok (.goto 11, 3) := by decide +kernel
theorem dX10_define_20 : decode cX10_define 20 = .ok (.aload_n 0, 1) := by decide +kernel
theorem dX10_define_21 : decode cX10_define 21 = .ok (.aload_n 1, 1) := by decide +kernel
theorem dX10_define_22 : decode cX10_define 22 = .ok (.getfield 81, 3) := by decide +kernel
theorem dX10_define_25 : decode cX10_define 25 = .ok (.invokevirtual 86, 3) := by decide +kernel
theorem dX10_define_28 : decode cX10_define 28 = .ok (.astore_n 2, 1) := by decide +kernel
theorem dX10_define_29 : decode cX10_define 29 = .ok (.aload_n 2, 1) := by decide +kernel
theorem dX10_define_30 : decode cX10_define 30 = .ok (.ifnonnull 17, 3) := by decide +kernel
theorem dX10_define_33 : decode cX10_define 33 = .ok (.aload_n 0, 1) := by decide +kernel
theorem dX10_define_34 : decode cX10_define 34 = .ok (.aload_n 0, 1) := by decide +kernel
theorem dX10_define_35 : decode cX10_define 35 = .ok (.getfield 21, 3) := by decide +kernel
theorem dX10_define_38 : decode cX10_define 38 = .ok (.getfield 90, 3) := by decide +kernel
theorem dX10_define_41 : decode cX10_define 41 = .ok (.putfield 56, 3) := by decide +kernel
theorem dX10_define_44 : decode cX10_define 44 = .ok (.bipush (-2), 2) := by decide +kernel
theorem dX10_define_46 : decode cX10_define 46 = .ok (.ireturn, 1) := by decide +kernel
theorem dX10_define_47 : decode cX10_define 47 = .ok (.aload_n 0, 1) := by decide +kernel
theorem dX10_define_48 : decode cX10_define 48 = .ok (.aload_n 2, 1) := by decide +kernel
theorem dX10_define_49 : decode cX10_define 49 = .ok (.aload_n 1, 1) := by decide +kernel
theorem dX10_define_50 : decode cX10_define 50 = .ok (.invokevirtual 93, 3) := by decide +kernel
theorem dX10_define_53 : decode cX10_define 53 = .ok (.putfield 56, 3) := by decide +kernel
theorem dX10_define_56 : decode cX10_define 56 = .ok (.aload_n 0, 1) := by decide +kernel
theorem dX10_define_57 : decode cX10_define 57 = .ok (.getfield 56, 3) := by decide +kernel
theorem dX10_define_60 : decode cX10_define 60 = .ok (.iconst (-1), 1) := by decide +kernel
theorem dX10_define_61 : decode cX10_define 61 = .ok (.if_icmp .eq 6, 3) := by decide +kernel
theorem dX10_define_64 : decode cX10_define 64 = .ok (.bipush (-3), 2) := by decide +kernel
theorem dX10_define_66 : decode cX10_define 66 = .ok (.ireturn, 1) := by decide +kernel
theorem dX10_define_67 : decode cX10_define 67 = .ok (.aload_n 2, 1) := by decide +kernel
theorem dX10_define_68 : decode cX10_define 68 = .ok (.aload_n 1, 1) := by decide +kernel
theorem dX10_define_69 : decode cX10_define 69 = .ok (.invokevirtual 97, 3) := by decide +kernel
theorem dX10_define_72 : decode cX10_define 72 = .ok (.ireturn, 1) := by decide +kernel
set_option maxRecDepth 20000 in
theorem ggX10_drop_X10_operationAt : GoodIn wsX10_drop wsX10_operationAt := goodIn_r _ [8, 9, 20, 21, 22, 23, 24, 25, 26, 27, 28] (by decide +kernel) (by decide +kernel)
set_option maxRecDepth 20000 in
theorem gX10_drop_X10_operationAt : GoodIn wsX10_drop (wsV RX10 86 RX10 yX10_operationAt wsX10_operationAt) := goodIn_app (goodIn_of _ (by decide +kernel)) ggX10_drop_X10_operationAt
set_option maxRecDepth 20000 in
theorem ggX10_drop_X5_clear : GoodIn wsX10_drop wsX5_clear := goodIn_r _ [14, 15, 16, 17, 18, 19] (by decide +kernel) (by decide +kernel)
set_option maxRecDepth 20000 in
theorem gX10_drop_X5_clear : GoodIn wsX10_drop (wsV RX10 108 RX5 yX5_clear wsX5_clear) := goodIn_app (goodIn_of _ (by decide +kernel)) ggX10_drop_X5_clear
theorem dX10_drop_0 : decode cX10_drop 0 = .ok (.aload_n 0, 1) := by decide +kernel
theorem dX10_drop_1 : decode cX10_drop 1 = .ok (.iload_n 1, 1) := by decide +kernel
theorem dX10_drop_2 : decode cX10_drop 2 = .ok (.invokevirtual 86, 3) := by decide +kernel
theorem dX10_drop_5 : decode cX10_drop 5 = .ok (.astore_n 2, 1) := by decide +kernel
theorem dX10_drop_6 : decode cX10_drop 6 = .ok (.aload_n 2, 1) := by decide +kernel
theorem dX10_drop_7 : decode cX10_drop 7 = .ok (.ifnonnull 13, 3) := by decide +kernel
theorem dX10_drop_10 : decode cX10_drop 10 = .ok (.new 100, 3) := by decide +kernel
theorem dX10_drop_13 : decode cX10_drop 13 = .ok (.dup, 1) := by decide +kernel
theorem dX10_drop_14 : decode cX10_drop 14 = .ok (.ldc 102, 2) := by decide +kernel
theorem dX10_drop_16 : decode cX10_drop 16 = .ok (.invokespecial 104, 3) := by decide +kernel
theorem dX10_drop_19 : decode cX10_drop 19 = .ok (.athrow, 1) := by decide +kernel
theorem dX10_drop_20 : decode cX10_drop 20 = .ok (.aload_n 2, 1) := by decide +kernel
theorem dX10_drop_21 : decode cX10_drop 21 = .ok (.getfield 105, 3) := by decide +kernel
theorem dX10_drop_24 : decode cX10_drop 24 = .ok (.istore_n 3, 1) := by decide +kernel
theorem dX10_drop_25 : decode cX10_drop 25 = .ok (.aload_n 2, 1) := by decide +kernel
theorem dX10_drop_26 : decode cX10_drop 26 = .ok (.invokevirtual 108, 3) := by decide +kernel
theorem dX10_drop_29 : decode cX10_drop 29 = .ok (.iload_n 3, 1) := by decide +kernel
theorem dX10_drop_30 : decode cX10_drop 30 = .ok (.ireturn, 1) := by decide +kernel
theorem dX10_place_0 : decode cX10_place 0 = .ok (.aload_n 0, 1) := by decide +kernel
theorem dX10_place_1 : decode cX10_place 1 = .ok (.getfield 56, 3) := by decide +kernel
theorem dX10_place_4 : decode cX10_place 4 = .ok (.ireturn, 1) := by decide +kernel
set_option maxRecDepth 20000 in
theorem ggX10_simple_X10_thingAt : GoodIn wsX10_simple wsX10_thingAt := goodIn_r _ [8] (by decide +kernel) (by decide +kernel)
set_option maxRecDepth 20000 in
theorem gX10_simple_X10_thingAt : GoodIn wsX10_simple (va_wsS RX10 111 yX10_thingAt wsX10_thingAt) := goodIn_app (goodIn_of _ (by decide +kernel)) ggX10_simple_X10_thingAt
set_option maxRecDepth 20000 in
theorem ggX10_simple_X8_becomeNamed : GoodIn wsX10_simple wsX8_becomeNamed := goodIn_r _ [13, 14, 15, 16, 17, 12, 18, 19, 20, 21, 22, 23, 24, 25, 26, 27, 28, 29, 30, 31, 32, 33, 34, 35, 36, 37, 38, 39, 40, 41, 42, 43, 44, 45, 46, 47, 48, 49, 50, 51, 52, 53, 54, 55, 56, 57, 58, 59, 60, 61, 62, 63, 64, 65, 66, 67, 68, 69, 70, 71, 72, 73, 74, 75, 76, 77, 78, 79, 80, 81, 82, 83, 84, 138, 139, 140, 141, 142, 143, 144, 145, 146] (by decide +kernel) (by decide +kernel)
set_option maxRecDepth 20000 in
theorem gX10_simple_X8_becomeNamed : GoodIn wsX10_simple (wsV RX10 119 RX8 yX8_becomeNamed wsX8_becomeNamed) := goodIn_app (goodIn_of _ (by decide +kernel)) ggX10_simple_X8_becomeNamed
set_option maxRecDepth 20000 in
theorem ggX10_simple_X8_knowNumber : GoodIn wsX10_simple wsX8_knowNumber := goodIn_r _ [88, 22, 21, 138, 139, 140, 141, 142, 143, 144] (by decide +kernel) (by decide +kernel)
set_option maxRecDepth 20000 in
theorem gX10_simple_X8_knowNumber : GoodIn wsX10_simple (wsV RX10 127 RX8 yX8_knowNumber wsX8_knowNumber) := goodIn_app (goodIn_of _ (by decide +kernel)) ggX10_simple_X8_knowNumber
set_option maxRecDepth 20000 in
theorem ggX10_simple_X8_becomeWhole : GoodIn wsX10_simple wsX8_becomeWhole := goodIn_r _ [92, 20, 15, 16, 17, 12, 18, 19, 21, 22, 23, 14, 24, 138, 139, 140, 141, 142, 143, 144, 145, 146] (by decide +kernel) (by decide +kernel)
set_option maxRecDepth 20000 in
theorem gX10_simple_X8_becomeWhole : GoodIn wsX10_simple (wsV RX10 131 RX8 yX8_becomeWhole wsX8_becomeWhole) := goodIn_app (goodIn_of _ (by decide +kernel)) ggX10_simple_X8_becomeWhole
set_option maxRecDepth 20000 in
theorem ggX10_simple_X7_appendLetters : GoodIn wsX10_simple wsX7_appendLetters := goodIn_r _ [29, 30, 31, 32, 33, 34, 35, 36, 37, 38, 39, 40, 41, 42, 43, 44, 45, 46, 47, 48, 49, 50, 51, 52, 53, 54, 55, 56, 57, 58, 59, 60, 61, 62, 63, 64, 65, 66, 67, 68, 69, 70, 71, 72, 73, 74, 75, 76, 77, 78, 79, 80, 81, 28, 82, 83, 84, 145, 146] (by decide +kernel) (by decide +kernel)
set_option maxRecDepth 20000 in
theorem gX10_simple_X7_appendLetters : GoodIn wsX10_simple (wsV RX10 142 RX7 yX7_appendLetters wsX7_appendLetters) := goodIn_app (goodIn_of _ (by decide +kernel)) ggX10_simple_X7_appendLetters
set_option maxRecDepth 20000 in
theorem ggX10_simple_X8_become : GoodIn wsX10_simple wsX8_become := goodIn_r _ [18, 19, 20, 21, 22, 23, 14, 24, 138, 139, 140, 141, 142, 143, 144, 145, 146] (by decide +kernel) (by decide +kernel)
set_option maxRecDepth 20000 in
theorem gX10_simple_X8_become : GoodIn wsX10_simple (wsV RX10 145 RX8 yX8_become wsX8_become) := goodIn_app (goodIn_of _ (by decide +kernel)) ggX10_simple_X8_become
set_option maxRecDepth 20000 in
theorem ggX10_simple_X10_findNumber : GoodIn wsX10_simple wsX10_findNumber := goodIn_r _ [98, 99, 4, 100, 101, 102, 103, 104, 105, 106, 107, 108, 109, 110, 28, 111, 83, 84, 112, 113, 114, 115, 116, 117, 118, 119, 120, 121, 122, 123, 124, 125, 126, 127, 128, 85, 86, 87, 12, 88, 22, 21, 129, 130, 131, 132, 133, 134, 135, 136, 137, 138, 139, 140, 141, 142, 143, 144, 147, 145, 146] (by decide +kernel) (by decide +kernel)
set_option maxRecDepth 20000 in
theorem gX10_simple_X10_findNumber : GoodIn wsX10_simple (wsV RX10 148 RX10 yX10_findNumber wsX10_findNumber) := goodIn_app (goodIn_of _ (by decide +kernel)) ggX10_simple_X10_findNumber
theorem dX10_simple_0 : decode cX10_simple 0 = .ok (.aload_n 0, 1) := by decide +kernel
theorem dX10_simple_1 : decode cX10_simple 1 = .ok (.getfield 35, 3) := by decide +kernel
theorem dX10_simple_4 : decode cX10_simple 4 = .ok (.iload_n 1, 1) := by decide +kernel
theorem dX10_simple_5 : decode cX10_simple 5 = .ok (.invokestatic 111, 3) := by decide +kernel
theorem dX10_simple_8 : decode cX10_simple 8 = .ok (.astore_n 3, 1) := by decide +kernel
theorem dX10_simple_9 : decode cX10_simple 9 = .ok (.aload_n 3, 1) := by decide +kernel
theorem dX10_simple_10 : decode cX10_simple 10 = .ok (.ifnull 12, 3) := by decide +kernel
theorem dX10_simple_13 : decode cX10_simple 13 = .ok (.iload_n 2, 1) := by decide +kernel
theorem dX10_simple_14 : decode cX10_simple 14 = .ok (.ifCond .lt 8, 3) := by decide +kernel
theorem dX10_simple_17 : decode cX10_simple 17 = .ok (.iload_n 2, 1) := by decide +kernel
theorem dX10_simple_18 : decode cX10_simple 18 = .ok (.iconst 4, 1) := by decide +kernel
theorem dX10_simple_19 : decode cX10_simple 19 = .ok (.if_icmp .le 13, 3) := by decide +kernel
theorem dX10_simple_22 : decode cX10_simple 22 = .ok (.new 100, 3) := by decide +kernel
theorem dX10_simple_25 : decode cX10_simple 25 = .ok (.dup, 1) := by decide +kernel
theorem dX10_simple_26 : decode cX10_simple 26 = .ok (.ldc 115, 2) := by decide +kernel
theorem dX10_simple_28 : decode cX10_simple 28 = .ok (.invokespecial 104, 3) := by decide +kernel
theorem dX10_simple_31 : decode cX10_simple 31 = .ok (.athrow, 1) := by decide +kernel
theorem dX10_simple_32 : decode cX10_simple 32 = .ok (.iload_n 2, 1) := by decide +kernel
theorem dX10_simple_33 : decode cX10_simple 33 = .ok (.ifCond .ne 14, 3) := by decide +kernel
theorem dX10_simple_36 : decode cX10_simple 36 = .ok (.aload_n 3, 1) := by decide +kernel
theorem dX10_simple_37 : decode cX10_simple 37 = .ok (.bipush 7, 2) := by decide +kernel
theorem dX10_simple_39 : decode cX10_simple 39 = .ok (.ldc 117, 2) := by decide +kernel
theorem dX10_simple_41 : decode cX10_simple 41 = .ok (.invokevirtual 119, 3) := by decide +kernel
theorem dX10_simple_44 : decode cX10_simple 44 = .ok (.goto 81, 3) := by decide +kernel
theorem dX10_simple_47 : decode cX10_simple 47 = .ok (.iload_n 2, 1) := by decide +kernel
theorem dX10_simple_48 : decode cX10_simple 48 = .ok (.iconst 1, 1) := by decide +kernel
theorem dX10_simple_49 : decode cX10_simple 49 = .ok (.if_icmp .ne 20, 3) := by decide +kernel
theorem dX10_simple_52 : decode cX10_simple 52 = .ok (.aload_n 3, 1) := by decide +kernel
theorem dX10_simple_53 : decode cX10_simple 53 = .ok (.bipush 8, 2) := by decide +kernel
theorem dX10_simple_55 : decode cX10_simple 55 = .ok (.ldc 125, 2) := by decide +kernel
theorem dX10_simple_57 : decode cX10_simple 57 = .ok (.invokevirtual 119, 3) := by decide +kernel
theorem dX10_simple_60 : decode cX10_simple 60 = .ok (.aload_n 3, 1) := by decide +kernel
theorem dX10_simple_61 : decode cX10_simple 61 = .ok (.iconst 1, 1) := by decide +kernel
theorem dX10_simple_62 : decode cX10_simple 62 = .ok (.dconst 0, 1) := by decide +kernel
theorem dX10_simple_63 : decode cX10_simple 63 = .ok (.invokevirtual 127, 3) := by decide +kernel
theorem dX10_simple_66 : decode cX10_simple 66 = .ok (.goto 59, 3) := by decide +kernel
theorem dX10_simple_69 : decode cX10_simple 69 = .ok (.iload_n 2, 1) := by decide +kernel
theorem dX10_simple_70 : decode cX10_simple 70 = .ok (.iconst 4, 1) := by decide +kernel
theorem dX10_simple_71 : decode cX10_simple 71 = .ok (.if_icmp .ge 43, 3) := by decide +kernel
theorem dX10_simple_74 : decode cX10_simple 74 = .ok (.aload_n 3, 1) := by decide +kernel
theorem dX10_simple_75 : decode cX10_simple 75 = .ok (.iconst 2, 1) := by decide +kernel
theorem dX10_simple_76 : decode cX10_simple 76 = .ok (.iload_n 2, 1) := by decide +kernel
theorem dX10_simple_77 : decode cX10_simple 77 = .ok (.iconst 2, 1) := by decide +kernel
theorem dX10_simple_78 : decode cX10_simple 78 = .ok (.isub, 1) := by decide +kernel
theorem dX10_simple_79 : decode cX10_simple 79 = .ok (.i2l, 1) := by decide +kernel
theorem dX10_simple_80 : decode cX10_simple 80 = .ok (.invokevirtual 131, 3) := by decide +kernel
theorem dX10_simple_83 : decode cX10_simple 83 = .ok (.aload_n 3, 1) := by decide +kernel
theorem dX10_simple_84 : decode cX10_simple 84 = .ok (.getfield 135, 3) := by decide +kernel
theorem dX10_simple_87 : decode cX10_simple 87 = .ok (.iload_n 2, 1) := by decide +kernel
theorem dX10_simple_88 : decode cX10_simple 88 = .ok (.iconst 2, 1) := by decide +kernel
theorem dX10_simple_89 : decode cX10_simple 89 = .ok (.if_icmp .ne 8, 3) := by decide +kernel
theorem dX10_simple_92 : decode cX10_simple 92 = .ok (.ldc 138, 2) := by decide +kernel
theorem dX10_simple_94 : decode cX10_simple 94 = .ok (.goto 5, 3) := by decide +kernel
theorem dX10_simple_97 : decode cX10_simple 97 = .ok (.ldc 140, 2) := by decide +kernel
theorem dX10_simple_99 : decode cX10_simple 99 = .ok (.invokevirtual 142, 3) := by decide +kernel
theorem dX10_simple_102 : decode cX10_simple 102 = .ok (.aload_n 3, 1) := by decide +kernel
theorem dX10_simple_103 : decode cX10_simple 103 = .ok (.iconst 1, 1) := by decide +kernel
theorem dX10_simple_104 : decode cX10_simple 104 = .ok (.iload_n 2, 1) := by decide +kernel
theorem dX10_simple_105 : decode cX10_simple 105 = .ok (.iconst 2, 1) := by decide +kernel
theorem dX10_simple_106 : decode cX10_simple 106 = .ok (.isub, 1) := by decide +kernel
theorem dX10_simple_107 : decode cX10_simple 107 = .ok (.i2d, 1) := by decide +kernel
theorem dX10_simple_108 : decode cX10_simple 108 = .ok (.invokevirtual 127, 3) := by decide +kernel
theorem dX10_simple_111 : decode cX10_simple 111 = .ok (.goto 14, 3) := by decide +kernel
theorem dX10_simple_114 : decode cX10_simple 114 = .ok (.aload_n 3, 1) := by decide +kernel
theorem dX10_simple_115 : decode cX10_simple 115 = .ok (.bipush 6, 2) := by decide +kernel
theorem dX10_simple_117 : decode cX10_simple 117 = .ok (.invokevirtual 145, 3) := by decide +kernel
theorem dX10_simple_120 : decode cX10_simple 120 = .ok (.aload_n 0, 1) := by decide +kernel
theorem dX10_simple_121 : decode cX10_simple 121 = .ok (.aload_n 3, 1) := by decide +kernel
theorem dX10_simple_122 : decode cX10_simple 122 = .ok (.invokevirtual 148, 3) := by decide +kernel
theorem dX10_simple_125 : decode cX10_simple 125 = .ok (.return_, 1) := by decide +kernel
set_option maxRecDepth 20000 in
theorem ggX10_number_X10_thingAt : GoodIn wsX10_number wsX10_thingAt := goodIn_r _ [8] (by decide +kernel) (by decide +kernel)
set_option maxRecDepth 20000 in
theorem gX10_number_X10_thingAt : GoodIn wsX10_number (va_wsS RX10 111 yX10_thingAt wsX10_thingAt) := goodIn_app (goodIn_of _ (by decide +kernel)) ggX10_number_X10_thingAt
set_option maxRecDepth 20000 in
theorem ggX10_number_X10_canBeTold : GoodIn wsX10_number wsX10_canBeTold := goodIn_r _ [11, 12, 13, 14] (by decide +kernel) (by decide +kernel)
set_option maxRecDepth 20000 in
theorem gX10_number_X10_canBeTold : GoodIn wsX10_number (va_wsS RX10 152 yX10_canBeTold wsX10_canBeTold) := goodIn_app (goodIn_of _ (by decide +kernel)) ggX10_number_X10_canBeTold
set_option maxRecDepth 20000 in
theorem ggX10_number_X8_becomeDouble : GoodIn wsX10_number wsX8_becomeDouble := goodIn_r _ [19, 20, 21, 22, 18, 23, 24, 25, 26, 27, 28, 29, 30, 31, 32, 33, 34, 66, 67, 68, 69, 70, 71, 72, 73, 74] (by decide +kernel) (by decide +kernel)
set_option maxRecDepth 20000 in
theorem gX10_number_X8_becomeDouble : GoodIn wsX10_number (wsV RX10 158 RX8 yX8_becomeDouble wsX8_becomeDouble) := goodIn_app (goodIn_of _ (by decide +kernel)) ggX10_number_X8_becomeDouble
set_option maxRecDepth 20000 in
theorem ggX10_number_X7_appendNumber : GoodIn wsX10_number wsX7_appendNumber := goodIn_r _ [39, 40, 41, 42, 43, 44, 45, 46, 47, 48, 38, 49, 50, 51, 52, 53, 54, 55, 56, 73, 74] (by decide +kernel) (by decide +kernel)
set_option maxRecDepth 20000 in
theorem gX10_number_X7_appendNumber : GoodIn wsX10_number (wsV RX10 162 RX7 yX7_appendNumber wsX7_appendNumber) := goodIn_app (goodIn_of _ (by decide +kernel)) ggX10_number_X7_appendNumber
