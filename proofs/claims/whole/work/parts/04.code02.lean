theorem dX5_choose_73 : decode cX5_choose 73 = .ok (.iconst 2, 1) := by decide +kernel
theorem dX5_choose_74 : decode cX5_choose 74 = .ok (.invokevirtual 120, 3) := by decide +kernel
theorem dX5_choose_77 : decode cX5_choose 77 = .ok (.astore_n 3, 1) := by decide +kernel
theorem dX5_choose_78 : decode cX5_choose 78 = .ok (.aload_n 3, 1) := by decide +kernel
theorem dX5_choose_79 : decode cX5_choose 79 = .ok (.ifnull 7, 3) := by decide +kernel
theorem dX5_choose_82 : decode cX5_choose 82 = .ok (.aload_n 3, 1) := by decide +kernel
theorem dX5_choose_83 : decode cX5_choose 83 = .ok (.goto 9, 3) := by decide +kernel
theorem dX5_choose_86 : decode cX5_choose 86 = .ok (.aload_n 0, 1) := by decide +kernel
theorem dX5_choose_87 : decode cX5_choose 87 = .ok (.iload_n 1, 1) := by decide +kernel
theorem dX5_choose_88 : decode cX5_choose 88 = .ok (.iconst 1, 1) := by decide +kernel
theorem dX5_choose_89 : decode cX5_choose 89 = .ok (.invokevirtual 120, 3) := by decide +kernel
theorem dX5_choose_92 : decode cX5_choose 92 = .ok (.areturn, 1) := by decide +kernel
theorem dX5_sortOf_0 : decode cX5_sortOf 0 = .ok (.aload_n 0, 1) := by decide +kernel
theorem dX5_sortOf_1 : decode cX5_sortOf 1 = .ok (.getfield 101, 3) := by decide +kernel
theorem dX5_sortOf_4 : decode cX5_sortOf 4 = .ok (.bipush 6, 2) := by decide +kernel
theorem dX5_sortOf_6 : decode cX5_sortOf 6 = .ok (.if_icmp .ne 5, 3) := by decide +kernel
theorem dX5_sortOf_9 : decode cX5_sortOf 9 = .ok (.iconst 4, 1) := by decide +kernel
theorem dX5_sortOf_10 : decode cX5_sortOf 10 = .ok (.ireturn, 1) := by decide +kernel
theorem dX5_sortOf_11 : decode cX5_sortOf 11 = .ok (.aload_n 0, 1) := by decide +kernel
theorem dX5_sortOf_12 : decode cX5_sortOf 12 = .ok (.getfield 101, 3) := by decide +kernel
theorem dX5_sortOf_15 : decode cX5_sortOf 15 = .ok (.iconst 2, 1) := by decide +kernel
theorem dX5_sortOf_16 : decode cX5_sortOf 16 = .ok (.if_icmp .ne 5, 3) := by decide +kernel
theorem dX5_sortOf_19 : decode cX5_sortOf 19 = .ok (.iconst 1, 1) := by decide +kernel
theorem dX5_sortOf_20 : decode cX5_sortOf 20 = .ok (.ireturn, 1) := by decide +kernel
theorem dX5_sortOf_21 : decode cX5_sortOf 21 = .ok (.aload_n 0, 1) := by decide +kernel
theorem dX5_sortOf_22 : decode cX5_sortOf 22 = .ok (.getfield 101, 3) := by decide +kernel
theorem dX5_sortOf_25 : decode cX5_sortOf 25 = .ok (.iconst 4, 1) := by decide +kernel
theorem dX5_sortOf_26 : decode cX5_sortOf 26 = .ok (.if_icmp .ne 7, 3) := by decide +kernel
theorem dX5_sortOf_29 : decode cX5_sortOf 29 = .ok (.iconst 2, 1) := by decide +kernel
theorem dX5_sortOf_30 : decode cX5_sortOf 30 = .ok (.goto 4, 3) := by decide +kernel
theorem dX5_sortOf_33 : decode cX5_sortOf 33 = .ok (.iconst 3, 1) := by decide +kernel
theorem dX5_sortOf_34 : decode cX5_sortOf 34 = .ok (.ireturn, 1) := by decide +kernel
set_option maxRecDepth 20000 in
theorem ggX5_firstThatMayMiss_X5_argumentAt : GoodIn wsX5_firstThatMayMiss wsX5_argumentAt := goodIn_r _ [6, 7, 8, 9, 5, 10, 1, 11, 12, 13, 14, 15, 16, 17, 18, 19, 20, 21, 22, 23, 31, 32, 33, 34, 35, 36, 37, 38, 39] rfl (by decide +kernel)
set_option maxRecDepth 20000 in
theorem gX5_firstThatMayMiss_X5_argumentAt : GoodIn wsX5_firstThatMayMiss (wsV RX5 74 RX5 yX5_argumentAt wsX5_argumentAt) := goodIn_app (goodIn_of _ (by decide +kernel)) ggX5_firstThatMayMiss_X5_argumentAt
set_option maxRecDepth 20000 in
theorem ggX5_firstThatMayMiss_X0_canBeMissing : GoodIn wsX5_firstThatMayMiss wsX0_canBeMissing := goodIn_r _ [28, 29, 30, 40, 41, 42] rfl (by decide +kernel)
set_option maxRecDepth 20000 in
theorem gX5_firstThatMayMiss_X0_canBeMissing : GoodIn wsX5_firstThatMayMiss (wsV RX5 124 RX0 yX0_canBeMissing wsX0_canBeMissing) := goodIn_app (goodIn_of _ (by decide +kernel)) ggX5_firstThatMayMiss_X0_canBeMissing
set_option maxRecDepth 20000 in
theorem ggX5_firstThatMayMiss_X5_ableAt : GoodIn wsX5_firstThatMayMiss wsX5_ableAt := goodIn_r _ [10, 1, 11, 31, 32, 33, 34] rfl (by decide +kernel)
set_option maxRecDepth 20000 in
theorem gX5_firstThatMayMiss_X5_ableAt : GoodIn wsX5_firstThatMayMiss (wsV RX5 84 RX5 yX5_ableAt wsX5_ableAt) := goodIn_app (goodIn_of _ (by decide +kernel)) ggX5_firstThatMayMiss_X5_ableAt
theorem dX5_firstThatMayMiss_0 : decode cX5_firstThatMayMiss 0 = .ok (.iconst 0, 1) := by decide +kernel
theorem dX5_firstThatMayMiss_1 : decode cX5_firstThatMayMiss 1 = .ok (.istore_n 2, 1) := by decide +kernel
theorem dX5_firstThatMayMiss_2 : decode cX5_firstThatMayMiss 2 = .ok (.iload_n 2, 1) := by decide +kernel
theorem dX5_firstThatMayMiss_3 : decode cX5_firstThatMayMiss 3 = .ok (.aload_n 0, 1) := by decide +kernel
theorem dX5_firstThatMayMiss_4 : decode cX5_firstThatMayMiss 4 = .ok (.getfield 24, 3) := by decide +kernel
theorem dX5_firstThatMayMiss_7 : decode cX5_firstThatMayMiss 7 = .ok (.if_icmp .ge 33, 3) := by decide +kernel
theorem dX5_firstThatMayMiss_10 : decode cX5_firstThatMayMiss 10 = .ok (.aload_n 0, 1) := by decide +kernel
theorem dX5_firstThatMayMiss_11 : decode cX5_firstThatMayMiss 11 = .ok (.iload_n 2, 1) := by decide +kernel
theorem dX5_firstThatMayMiss_12 : decode cX5_firstThatMayMiss 12 = .ok (.iload_n 1, 1) := by decide +kernel
theorem dX5_firstThatMayMiss_13 : decode cX5_firstThatMayMiss 13 = .ok (.invokevirtual 74, 3) := by decide +kernel
theorem dX5_firstThatMayMiss_16 : decode cX5_firstThatMayMiss 16 = .ok (.astore_n 3, 1) := by decide +kernel
theorem dX5_firstThatMayMiss_17 : decode cX5_firstThatMayMiss 17 = .ok (.aload_n 3, 1) := by decide +kernel
theorem dX5_firstThatMayMiss_18 : decode cX5_firstThatMayMiss 18 = .ok (.ifnull 16, 3) := by decide +kernel
theorem dX5_firstThatMayMiss_21 : decode cX5_firstThatMayMiss 21 = .ok (.aload_n 3, 1) := by decide +kernel
theorem dX5_firstThatMayMiss_22 : decode cX5_firstThatMayMiss 22 = .ok (.invokevirtual 124, 3) := by decide +kernel
theorem dX5_firstThatMayMiss_25 : decode cX5_firstThatMayMiss 25 = .ok (.ifCond .eq 9, 3) := by decide +kernel
theorem dX5_firstThatMayMiss_28 : decode cX5_firstThatMayMiss 28 = .ok (.aload_n 0, 1) := by decide +kernel
theorem dX5_firstThatMayMiss_29 : decode cX5_firstThatMayMiss 29 = .ok (.iload_n 2, 1) := by decide +kernel
theorem dX5_firstThatMayMiss_30 : decode cX5_firstThatMayMiss 30 = .ok (.invokevirtual 84, 3) := by decide +kernel
theorem dX5_firstThatMayMiss_33 : decode cX5_firstThatMayMiss 33 = .ok (.areturn, 1) := by decide +kernel
theorem dX5_firstThatMayMiss_34 : decode cX5_firstThatMayMiss 34 = .ok (.iinc 2 1, 3) := by decide +kernel
theorem dX5_firstThatMayMiss_37 : decode cX5_firstThatMayMiss 37 = .ok (.goto (-35), 3) := by decide +kernel
theorem dX5_firstThatMayMiss_40 : decode cX5_firstThatMayMiss 40 = .ok (.aconst_null, 1) := by decide +kernel
theorem dX5_firstThatMayMiss_41 : decode cX5_firstThatMayMiss 41 = .ok (.areturn, 1) := by decide +kernel
set_option maxRecDepth 20000 in
theorem ggX5_firstNullable_X5_typeAt : GoodIn wsX5_firstNullable wsX5_typeAt := goodIn_r _ [7, 8, 9, 10, 11, 6, 12, 13, 14, 15, 16, 1, 17, 18, 19, 20, 21, 22, 23, 24, 25, 26, 27, 28, 29, 39, 40, 41, 30, 31, 32, 33, 42, 43, 44, 45, 46] rfl (by decide +kernel)
set_option maxRecDepth 20000 in
theorem gX5_firstNullable_X5_typeAt : GoodIn wsX5_firstNullable (wsV RX5 64 RX5 yX5_typeAt wsX5_typeAt) := goodIn_app (goodIn_of _ (by decide +kernel)) ggX5_firstNullable_X5_typeAt
set_option maxRecDepth 20000 in
theorem ggX5_firstNullable_X5_ableAt : GoodIn wsX5_firstNullable wsX5_ableAt := goodIn_r _ [16, 1, 17, 30, 31, 32, 33] rfl (by decide +kernel)
set_option maxRecDepth 20000 in
theorem gX5_firstNullable_X5_ableAt : GoodIn wsX5_firstNullable (wsV RX5 84 RX5 yX5_ableAt wsX5_ableAt) := goodIn_app (goodIn_of _ (by decide +kernel)) ggX5_firstNullable_X5_ableAt
theorem dX5_firstNullable_0 : decode cX5_firstNullable 0 = .ok (.iconst 0, 1) := by decide +kernel
theorem dX5_firstNullable_1 : decode cX5_firstNullable 1 = .ok (.istore_n 2, 1) := by decide +kernel
theorem dX5_firstNullable_2 : decode cX5_firstNullable 2 = .ok (.iload_n 2, 1) := by decide +kernel
theorem dX5_firstNullable_3 : decode cX5_firstNullable 3 = .ok (.aload_n 0, 1) := by decide +kernel
theorem dX5_firstNullable_4 : decode cX5_firstNullable 4 = .ok (.getfield 24, 3) := by decide +kernel
theorem dX5_firstNullable_7 : decode cX5_firstNullable 7 = .ok (.if_icmp .ge 33, 3) := by decide +kernel
theorem dX5_firstNullable_10 : decode cX5_firstNullable 10 = .ok (.aload_n 0, 1) := by decide +kernel
theorem dX5_firstNullable_11 : decode cX5_firstNullable 11 = .ok (.iload_n 2, 1) := by decide +kernel
theorem dX5_firstNullable_12 : decode cX5_firstNullable 12 = .ok (.iload_n 1, 1) := by decide +kernel
theorem dX5_firstNullable_13 : decode cX5_firstNullable 13 = .ok (.invokevirtual 64, 3) := by decide +kernel
theorem dX5_firstNullable_16 : decode cX5_firstNullable 16 = .ok (.astore_n 3, 1) := by decide +kernel
theorem dX5_firstNullable_17 : decode cX5_firstNullable 17 = .ok (.aload_n 3, 1) := by decide +kernel
theorem dX5_firstNullable_18 : decode cX5_firstNullable 18 = .ok (.ifnull 16, 3) := by decide +kernel
theorem dX5_firstNullable_21 : decode cX5_firstNullable 21 = .ok (.aload_n 3, 1) := by decide +kernel
theorem dX5_firstNullable_22 : decode cX5_firstNullable 22 = .ok (.getfield 127, 3) := by decide +kernel
theorem dX5_firstNullable_25 : decode cX5_firstNullable 25 = .ok (.ifCond .eq 9, 3) := by decide +kernel
theorem dX5_firstNullable_28 : decode cX5_firstNullable 28 = .ok (.aload_n 0, 1) := by decide +kernel
theorem dX5_firstNullable_29 : decode cX5_firstNullable 29 = .ok (.iload_n 2, 1) := by decide +kernel
theorem dX5_firstNullable_30 : decode cX5_firstNullable 30 = .ok (.invokevirtual 84, 3) := by decide +kernel
theorem dX5_firstNullable_33 : decode cX5_firstNullable 33 = .ok (.areturn, 1) := by decide +kernel
theorem dX5_firstNullable_34 : decode cX5_firstNullable 34 = .ok (.iinc 2 1, 3) := by decide +kernel
theorem dX5_firstNullable_37 : decode cX5_firstNullable 37 = .ok (.goto (-35), 3) := by decide +kernel
theorem dX5_firstNullable_40 : decode cX5_firstNullable 40 = .ok (.aconst_null, 1) := by decide +kernel
theorem dX5_firstNullable_41 : decode cX5_firstNullable 41 = .ok (.areturn, 1) := by decide +kernel
set_option maxRecDepth 20000 in
theorem ggX5_firstOfSort_X5_typeAt : GoodIn wsX5_firstOfSort wsX5_typeAt := goodIn_r _ [8, 9, 10, 11, 12, 7, 13, 14, 15, 16, 17, 1, 18, 19, 20, 21, 22, 23, 24, 25, 26, 27, 28, 29, 30, 40, 41, 42, 31, 32, 33, 34, 43, 44, 45, 46, 47] rfl (by decide +kernel)
set_option maxRecDepth 20000 in
theorem gX5_firstOfSort_X5_typeAt : GoodIn wsX5_firstOfSort (wsV RX5 64 RX5 yX5_typeAt wsX5_typeAt) := goodIn_app (goodIn_of _ (by decide +kernel)) ggX5_firstOfSort_X5_typeAt
set_option maxRecDepth 20000 in
theorem ggX5_firstOfSort_X5_ableAt : GoodIn wsX5_firstOfSort wsX5_ableAt := goodIn_r _ [17, 1, 18, 31, 32, 33, 34] rfl (by decide +kernel)
set_option maxRecDepth 20000 in
theorem gX5_firstOfSort_X5_ableAt : GoodIn wsX5_firstOfSort (wsV RX5 84 RX5 yX5_ableAt wsX5_ableAt) := goodIn_app (goodIn_of _ (by decide +kernel)) ggX5_firstOfSort_X5_ableAt
theorem dX5_firstOfSort_0 : decode cX5_firstOfSort 0 = .ok (.iconst 0, 1) := by decide +kernel
theorem dX5_firstOfSort_1 : decode cX5_firstOfSort 1 = .ok (.istore_n 3, 1) := by decide +kernel
theorem dX5_firstOfSort_2 : decode cX5_firstOfSort 2 = .ok (.iload_n 3, 1) := by decide +kernel
theorem dX5_firstOfSort_3 : decode cX5_firstOfSort 3 = .ok (.aload_n 0, 1) := by decide +kernel
theorem dX5_firstOfSort_4 : decode cX5_firstOfSort 4 = .ok (.getfield 24, 3) := by decide +kernel
theorem dX5_firstOfSort_7 : decode cX5_firstOfSort 7 = .ok (.if_icmp .ge 40, 3) := by decide +kernel
theorem dX5_firstOfSort_10 : decode cX5_firstOfSort 10 = .ok (.aload_n 0, 1) := by decide +kernel
theorem dX5_firstOfSort_11 : decode cX5_firstOfSort 11 = .ok (.iload_n 3, 1) := by decide +kernel
theorem dX5_firstOfSort_12 : decode cX5_firstOfSort 12 = .ok (.iload_n 1, 1) := by decide +kernel
theorem dX5_firstOfSort_13 : decode cX5_firstOfSort 13 = .ok (.invokevirtual 64, 3) := by decide +kernel
theorem dX5_firstOfSort_16 : decode cX5_firstOfSort 16 = .ok (.astore 4, 2) := by decide +kernel
theorem dX5_firstOfSort_18 : decode cX5_firstOfSort 18 = .ok (.aload 4, 2) := by decide +kernel
theorem dX5_firstOfSort_20 : decode cX5_firstOfSort 20 = .ok (.ifnull 21, 3) := by decide +kernel
theorem dX5_firstOfSort_23 : decode cX5_firstOfSort 23 = .ok (.aload 4, 2) := by decide +kernel
theorem dX5_firstOfSort_25 : decode cX5_firstOfSort 25 = .ok (.getfield 131, 3) := by decide +kernel
theorem dX5_firstOfSort_28 : decode cX5_firstOfSort 28 = .ok (.getfield 135, 3) := by decide +kernel
theorem dX5_firstOfSort_31 : decode cX5_firstOfSort 31 = .ok (.iload_n 2, 1) := by decide +kernel
theorem dX5_firstOfSort_32 : decode cX5_firstOfSort 32 = .ok (.if_icmp .ne 9, 3) := by decide +kernel
theorem dX5_firstOfSort_35 : decode cX5_firstOfSort 35 = .ok (.aload_n 0, 1) := by decide +kernel
theorem dX5_firstOfSort_36 : decode cX5_firstOfSort 36 = .ok (.iload_n 3, 1) := by decide +kernel
theorem dX5_firstOfSort_37 : decode cX5_firstOfSort 37 = .ok (.invokevirtual 84, 3) := by decide +kernel
theorem dX5_firstOfSort_40 : decode cX5_firstOfSort 40 = .ok (.areturn, 1) := by decide +kernel
theorem dX5_firstOfSort_41 : decode cX5_firstOfSort 41 = .ok (.iinc 3 1, 3) := by decide +kernel
theorem dX5_firstOfSort_44 : decode cX5_firstOfSort 44 = .ok (.goto (-42), 3) := by decide +kernel
theorem dX5_firstOfSort_47 : decode cX5_firstOfSort 47 = .ok (.aconst_null, 1) := by decide +kernel
theorem dX5_firstOfSort_48 : decode cX5_firstOfSort 48 = .ok (.areturn, 1) := by decide +kernel
theorem dX6_init_0 : decode cX6_init 0 = .ok (.aload_n 0, 1) := by decide +kernel
theorem dX6_init_1 : decode cX6_init 1 = .ok (.invokespecial 3, 3) := by decide +kernel
theorem dX6_init_4 : decode cX6_init 4 = .ok (.aload_n 0, 1) := by decide +kernel
theorem dX6_init_5 : decode cX6_init 5 = .ok (.bipush 100, 2) := by decide +kernel
theorem dX6_init_7 : decode cX6_init 7 = .ok (.newarray .char, 2) := by decide +kernel
theorem dX6_init_9 : decode cX6_init 9 = .ok (.putfield 9, 3) := by decide +kernel
theorem dX6_init_12 : decode cX6_init 12 = .ok (.aload_n 0, 1) := by decide +kernel
theorem dX6_init_13 : decode cX6_init 13 = .ok (.bipush 100, 2) := by decide +kernel
theorem dX6_init_15 : decode cX6_init 15 = .ok (.newarray .int, 2) := by decide +kernel
theorem dX6_init_17 : decode cX6_init 17 = .ok (.putfield 15, 3) := by decide +kernel
theorem dX6_init_20 : decode cX6_init 20 = .ok (.aload_n 0, 1) := by decide +kernel
theorem dX6_init_21 : decode cX6_init 21 = .ok (.iconst 0, 1) := by decide +kernel
theorem dX6_init_22 : decode cX6_init 22 = .ok (.putfield 19, 3) := by decide +kernel
theorem dX6_init_25 : decode cX6_init 25 = .ok (.aload_n 0, 1) := by decide +kernel
theorem dX6_init_26 : decode cX6_init 26 = .ok (.iconst 0, 1) := by decide +kernel
theorem dX6_init_27 : decode cX6_init 27 = .ok (.putfield 23, 3) := by decide +kernel
theorem dX6_init_30 : decode cX6_init 30 = .ok (.aload_n 0, 1) := by decide +kernel
theorem dX6_init_31 : decode cX6_init 31 = .ok (.iconst 0, 1) := by decide +kernel
theorem dX6_init_32 : decode cX6_init 32 = .ok (.putfield 26, 3) := by decide +kernel
theorem dX6_init_35 : decode cX6_init 35 = .ok (.aload_n 0, 1) := by decide +kernel
theorem dX6_init_36 : decode cX6_init 36 = .ok (.iconst 0, 1) := by decide +kernel
theorem dX6_init_37 : decode cX6_init 37 = .ok (.putfield 29, 3) := by decide +kernel
theorem dX6_init_40 : decode cX6_init 40 = .ok (.aload_n 0, 1) := by decide +kernel
theorem dX6_init_41 : decode cX6_init 41 = .ok (.iconst (-1), 1) := by decide +kernel
theorem dX6_init_42 : decode cX6_init 42 = .ok (.putfield 32, 3) := by decide +kernel
theorem dX6_init_45 : decode cX6_init 45 = .ok (.return_, 1) := by decide +kernel
set_option maxRecDepth 20000 in
theorem ggX6_readForm_X6_load : GoodIn wsX6_readForm wsX6_load := goodIn_r _ [11, 6, 12, 13, 14, 15, 16, 17, 18, 19, 20, 21, 22, 23, 191, 192, 193, 194, 195, 196, 197, 201, 202] rfl (by decide +kernel)
set_option maxRecDepth 20000 in
theorem gX6_readForm_X6_load : GoodIn wsX6_readForm (wsV RX6 35 RX6 yX6_load wsX6_load) := goodIn_app (goodIn_of _ (by decide +kernel)) ggX6_readForm_X6_load
set_option maxRecDepth 20000 in
theorem ggX6_readForm_X6_signAt : GoodIn wsX6_readForm wsX6_signAt := goodIn_r _ [27, 6, 13, 191, 192, 193, 194, 195, 196, 197] rfl (by decide +kernel)
set_option maxRecDepth 20000 in
theorem gX6_readForm_X6_signAt : GoodIn wsX6_readForm (wsV RX6 39 RX6 yX6_signAt wsX6_signAt) := goodIn_app (goodIn_of _ (by decide +kernel)) ggX6_readForm_X6_signAt
set_option maxRecDepth 20000 in
theorem ggX6_readForm_X6_failAt : GoodIn wsX6_readForm wsX6_failAt := goodIn_r _ [31, 16, 32, 33, 34, 10, 35, 6, 14, 15, 191, 192, 193, 194, 195, 196, 197] rfl (by decide +kernel)
set_option maxRecDepth 20000 in
theorem gX6_readForm_X6_failAt : GoodIn wsX6_readForm (wsV RX6 43 RX6 yX6_failAt wsX6_failAt) := goodIn_app (goodIn_of _ (by decide +kernel)) ggX6_readForm_X6_failAt
set_option maxRecDepth 20000 in
theorem ggX6_readForm_X2_init : GoodIn wsX6_readForm wsX2_init := goodIn_r _ [38, 39, 40, 41, 42, 43, 44, 45, 46, 47, 186, 187, 188, 189, 190] rfl (by decide +kernel)
set_option maxRecDepth 20000 in
theorem gX6_readForm_X2_init : GoodIn wsX6_readForm (wsX2_init) := ggX6_readForm_X2_init
set_option maxRecDepth 20000 in
theorem ggX6_readForm_X6_need : GoodIn wsX6_readForm wsX6_need := goodIn_r _ [51, 4, 52, 53, 54, 10, 55, 24, 25, 26, 27, 6, 13, 28, 29, 30, 31, 16, 32, 33, 34, 35, 14, 15, 191, 192, 193, 194, 195, 196, 197] rfl (by decide +kernel)
set_option maxRecDepth 20000 in
theorem gX6_readForm_X6_need : GoodIn wsX6_readForm (wsV RX6 52 RX6 yX6_need wsX6_need) := goodIn_app (goodIn_of _ (by decide +kernel)) ggX6_readForm_X6_need
set_option maxRecDepth 20000 in
theorem ggX6_readForm_X6_take : GoodIn wsX6_readForm wsX6_take := goodIn_r _ [55, 4, 24, 25, 26, 10, 27, 6, 13, 191, 192, 193, 194, 195, 196, 197] rfl (by decide +kernel)
set_option maxRecDepth 20000 in
theorem gX6_readForm_X6_take : GoodIn wsX6_readForm (wsV RX6 56 RX6 yX6_take wsX6_take) := goodIn_app (goodIn_of _ (by decide +kernel)) ggX6_readForm_X6_take
set_option maxRecDepth 20000 in
theorem ggX6_readForm_X6_readArgument : GoodIn wsX6_readForm wsX6_readArgument := goodIn_r _ [59, 4, 60, 61, 62, 63, 64, 65, 10, 66, 6, 32, 33, 34, 35, 14, 15, 24, 25, 26, 27, 13, 67, 68, 20, 69, 70, 71, 72, 73, 74, 75, 76, 77, 78, 79, 80, 81, 82, 83, 84, 85, 86, 87, 88, 89, 90, 91, 92, 93, 94, 95, 96, 97, 98, 99, 100, 101, 102, 103, 104, 105, 106, 107, 108, 109, 110, 111, 112, 113, 114, 115, 116, 117, 118, 119, 120, 121, 122, 123, 124, 125, 126, 127, 128, 129, 130, 131, 132, 133, 134, 135, 136, 137, 138, 139, 140, 141, 52, 53, 54, 55, 28, 29, 30, 31, 16, 142, 143, 144, 145, 146, 147, 148, 149, 150, 151, 152, 48, 49, 50, 51, 153, 154, 155, 156, 157, 158, 159, 160, 161, 162, 163, 164, 40, 41, 165, 166, 167, 168, 169, 170, 171, 172, 173, 174, 175, 176, 191, 192, 193, 194, 195, 196, 197, 198, 199, 200, 203, 204, 205, 206, 207] rfl (by decide +kernel)
set_option maxRecDepth 20000 in
theorem gX6_readForm_X6_readArgument : GoodIn wsX6_readForm (wsV RX6 59 RX6 yX6_readArgument wsX6_readArgument) := goodIn_app (goodIn_of _ (by decide +kernel)) ggX6_readForm_X6_readArgument
set_option maxRecDepth 20000 in
theorem ggX6_readForm_X2_append : GoodIn wsX6_readForm wsX2_append := goodIn_r _ [180, 45, 44, 181, 46, 186, 187, 188, 189, 190, 198, 199, 200] rfl (by decide +kernel)
set_option maxRecDepth 20000 in
theorem gX6_readForm_X2_append : GoodIn wsX6_readForm (wsV RX6 63 RX2 yX2_append wsX2_append) := goodIn_app (goodIn_of _ (by decide +kernel)) ggX6_readForm_X2_append
set_option maxRecDepth 20000 in
theorem ggX6_readForm_X0_canBeMissing : GoodIn wsX6_readForm wsX0_canBeMissing := goodIn_r _ [185, 175, 176, 198, 199, 200] rfl (by decide +kernel)
set_option maxRecDepth 20000 in
theorem gX6_readForm_X0_canBeMissing : GoodIn wsX6_readForm (wsV RX6 67 RX0 yX0_canBeMissing wsX0_canBeMissing) := goodIn_app (goodIn_of _ (by decide +kernel)) ggX6_readForm_X0_canBeMissing
theorem dX6_readForm_0 : decode cX6_readForm 0 = .ok (.aload_n 0, 1) := by decide +kernel
theorem dX6_readForm_1 : decode cX6_readForm 1 = .ok (.aload_n 1, 1) := by decide +kernel
theorem dX6_readForm_2 : decode cX6_readForm 2 = .ok (.invokevirtual 35, 3) := by decide +kernel
theorem dX6_readForm_5 : decode cX6_readForm 5 = .ok (.aload_n 0, 1) := by decide +kernel
theorem dX6_readForm_6 : decode cX6_readForm 6 = .ok (.iconst 0, 1) := by decide +kernel
theorem dX6_readForm_7 : decode cX6_readForm 7 = .ok (.invokevirtual 39, 3) := by decide +kernel
theorem dX6_readForm_10 : decode cX6_readForm 10 = .ok (.bipush 97, 2) := by decide +kernel
theorem dX6_readForm_12 : decode cX6_readForm 12 = .ok (.isub, 1) := by decide +kernel
theorem dX6_readForm_13 : decode cX6_readForm 13 = .ok (.istore_n 2, 1) := by decide +kernel
theorem dX6_readForm_14 : decode cX6_readForm 14 = .ok (.iload_n 2, 1) := by decide +kernel
theorem dX6_readForm_15 : decode cX6_readForm 15 = .ok (.ifCond .lt 9, 3) := by decide +kernel
theorem dX6_readForm_18 : decode cX6_readForm 18 = .ok (.iload_n 2, 1) := by decide +kernel
theorem dX6_readForm_19 : decode cX6_readForm 19 = .ok (.bipush 6, 2) := by decide +kernel
theorem dX6_readForm_21 : decode cX6_readForm 21 = .ok (.if_icmp .lt 11, 3) := by decide +kernel
theorem dX6_readForm_24 : decode cX6_readForm 24 = .ok (.aload_n 0, 1) := by decide +kernel
theorem dX6_readForm_25 : decode cX6_readForm 25 = .ok (.iconst 0, 1) := by decide +kernel
theorem dX6_readForm_26 : decode cX6_readForm 26 = .ok (.invokevirtual 43, 3) := by decide +kernel
theorem dX6_readForm_29 : decode cX6_readForm 29 = .ok (.pop, 1) := by decide +kernel
theorem dX6_readForm_30 : decode cX6_readForm 30 = .ok (.aconst_null, 1) := by decide +kernel
theorem dX6_readForm_31 : decode cX6_readForm 31 = .ok (.areturn, 1) := by decide +kernel
theorem dX6_readForm_32 : decode cX6_readForm 32 = .ok (.new 47, 3) := by decide +kernel
theorem dX6_readForm_35 : decode cX6_readForm 35 = .ok (.dup, 1) := by decide +kernel
theorem dX6_readForm_36 : decode cX6_readForm 36 = .ok (.iload_n 2, 1) := by decide +kernel
theorem dX6_readForm_37 : decode cX6_readForm 37 = .ok (.invokespecial 49, 3) := by decide +kernel
theorem dX6_readForm_40 : decode cX6_readForm 40 = .ok (.astore_n 3, 1) := by decide +kernel
theorem dX6_readForm_41 : decode cX6_readForm 41 = .ok (.aload_n 0, 1) := by decide +kernel
theorem dX6_readForm_42 : decode cX6_readForm 42 = .ok (.iconst 1, 1) := by decide +kernel
theorem dX6_readForm_43 : decode cX6_readForm 43 = .ok (.putfield 26, 3) := by decide +kernel
theorem dX6_readForm_46 : decode cX6_readForm 46 = .ok (.aload_n 0, 1) := by decide +kernel
theorem dX6_readForm_47 : decode cX6_readForm 47 = .ok (.bipush 40, 2) := by decide +kernel
theorem dX6_readForm_49 : decode cX6_readForm 49 = .ok (.invokevirtual 52, 3) := by decide +kernel
theorem dX6_readForm_52 : decode cX6_readForm 52 = .ok (.ifCond .ne 5, 3) := by decide +kernel
theorem dX6_readForm_55 : decode cX6_readForm 55 = .ok (.aconst_null, 1) := by decide +kernel
theorem dX6_readForm_56 : decode cX6_readForm 56 = .ok (.areturn, 1) := by decide +kernel
theorem dX6_readForm_57 : decode cX6_readForm 57 = .ok (.aload_n 0, 1) := by decide +kernel
theorem dX6_readForm_58 : decode cX6_readForm 58 = .ok (.bipush 41, 2) := by decide +kernel
theorem dX6_readForm_60 : decode cX6_readForm 60 = .ok (.invokevirtual 56, 3) := by decide +kernel
theorem dX6_readForm_63 : decode cX6_readForm 63 = .ok (.istore 4, 2) := by decide +kernel
theorem dX6_readForm_65 : decode cX6_readForm 65 = .ok (.iconst 0, 1) := by decide +kernel
theorem dX6_readForm_66 : decode cX6_readForm 66 = .ok (.istore 5, 2) := by decide +kernel
theorem dX6_readForm_68 : decode cX6_readForm 68 = .ok (.iconst 1, 1) := by decide +kernel
theorem dX6_readForm_69 : decode cX6_readForm 69 = .ok (.istore 6, 2) := by decide +kernel
theorem dX6_readForm_71 : decode cX6_readForm 71 = .ok (.iload 6, 2) := by decide +kernel
theorem dX6_readForm_73 : decode cX6_readForm 73 = .ok (.iconst 5, 1) := by decide +kernel
theorem dX6_readForm_74 : decode cX6_readForm 74 = .ok (.if_icmp .gt 68, 3) := by decide +kernel
theorem dX6_readForm_77 : decode cX6_readForm 77 = .ok (.iload 4, 2) := by decide +kernel
theorem dX6_readForm_79 : decode cX6_readForm 79 = .ok (.ifCond .ne 63, 3) := by decide +kernel
theorem dX6_readForm_82 : decode cX6_readForm 82 = .ok (.aload_n 0, 1) := by decide +kernel
theorem dX6_readForm_83 : decode cX6_readForm 83 = .ok (.iload 5, 2) := by decide +kernel
theorem dX6_readForm_85 : decode cX6_readForm 85 = .ok (.invokevirtual 59, 3) := by decide +kernel
theorem dX6_readForm_88 : decode cX6_readForm 88 = .ok (.astore 7, 2) := by decide +kernel
theorem dX6_readForm_90 : decode cX6_readForm 90 = .ok (.aload 7, 2) := by decide +kernel
theorem dX6_readForm_92 : decode cX6_readForm 92 = .ok (.ifnonnull 5, 3) := by decide +kernel
theorem dX6_readForm_95 : decode cX6_readForm 95 = .ok (.aconst_null, 1) := by decide +kernel
theorem dX6_readForm_96 : decode cX6_readForm 96 = .ok (.areturn, 1) := by decide +kernel
theorem dX6_readForm_97 : decode cX6_readForm 97 = .ok (.aload_n 3, 1) := by decide +kernel
theorem dX6_readForm_98 : decode cX6_readForm 98 = .ok (.aload 7, 2) := by decide +kernel
theorem dX6_readForm_100 : decode cX6_readForm 100 = .ok (.invokevirtual 63, 3) := by decide +kernel
theorem dX6_readForm_103 : decode cX6_readForm 103 = .ok (.aload 7, 2) := by decide +kernel
theorem dX6_readForm_105 : decode cX6_readForm 105 = .ok (.invokevirtual 67, 3) := by decide +kernel
theorem dX6_readForm_108 : decode cX6_readForm 108 = .ok (.istore 5, 2) := by decide +kernel
theorem dX6_readForm_110 : decode cX6_readForm 110 = .ok (.aload 7, 2) := by decide +kernel
theorem dX6_readForm_112 : decode cX6_readForm 112 = .ok (.getfield 73, 3) := by decide +kernel
theorem dX6_readForm_115 : decode cX6_readForm 115 = .ok (.ifCond .ne 27, 3) := by decide +kernel
theorem dX6_readForm_118 : decode cX6_readForm 118 = .ok (.iload 6, 2) := by decide +kernel
theorem dX6_readForm_120 : decode cX6_readForm 120 = .ok (.iconst 5, 1) := by decide +kernel
theorem dX6_readForm_121 : decode cX6_readForm 121 = .ok (.if_icmp .eq 21, 3) := by decide +kernel
theorem dX6_readForm_124 : decode cX6_readForm 124 = .ok (.aload_n 0, 1) := by decide +kernel
theorem dX6_readForm_125 : decode cX6_readForm 125 = .ok (.bipush 44, 2) := by decide +kernel
theorem dX6_readForm_127 : decode cX6_readForm 127 = .ok (.invokevirtual 56, 3) := by decide +kernel
theorem dX6_readForm_130 : decode cX6_readForm 130 = .ok (.ifCond .ne 6, 3) := by decide +kernel
theorem dX6_readForm_133 : decode cX6_readForm 133 = .ok (.goto 9, 3) := by decide +kernel
theorem dX6_readForm_136 : decode cX6_readForm 136 = .ok (.iinc 6 1, 3) := by decide +kernel
theorem dX6_readForm_139 : decode cX6_readForm 139 = .ok (.goto (-68), 3) := by decide +kernel
theorem dX6_readForm_142 : decode cX6_readForm 142 = .ok (.iload 4, 2) := by decide +kernel
theorem dX6_readForm_144 : decode cX6_readForm 144 = .ok (.ifCond .ne 14, 3) := by decide +kernel
theorem dX6_readForm_147 : decode cX6_readForm 147 = .ok (.aload_n 0, 1) := by decide +kernel
theorem dX6_readForm_148 : decode cX6_readForm 148 = .ok (.bipush 41, 2) := by decide +kernel
theorem dX6_readForm_150 : decode cX6_readForm 150 = .ok (.invokevirtual 52, 3) := by decide +kernel
theorem dX6_readForm_153 : decode cX6_readForm 153 = .ok (.ifCond .ne 5, 3) := by decide +kernel
theorem dX6_readForm_156 : decode cX6_readForm 156 = .ok (.aconst_null, 1) := by decide +kernel
theorem dX6_readForm_157 : decode cX6_readForm 157 = .ok (.areturn, 1) := by decide +kernel
theorem dX6_readForm_158 : decode cX6_readForm 158 = .ok (.aload_n 0, 1) := by decide +kernel
theorem dX6_readForm_159 : decode cX6_readForm 159 = .ok (.getfield 26, 3) := by decide +kernel
theorem dX6_readForm_162 : decode cX6_readForm 162 = .ok (.aload_n 0, 1) := by decide +kernel
theorem dX6_readForm_163 : decode cX6_readForm 163 = .ok (.getfield 19, 3) := by decide +kernel
theorem dX6_readForm_166 : decode cX6_readForm 166 = .ok (.if_icmp .eq 14, 3) := by decide +kernel
theorem dX6_readForm_169 : decode cX6_readForm 169 = .ok (.aload_n 0, 1) := by decide +kernel
theorem dX6_readForm_170 : decode cX6_readForm 170 = .ok (.aload_n 0, 1) := by decide +kernel
theorem dX6_readForm_171 : decode cX6_readForm 171 = .ok (.getfield 26, 3) := by decide +kernel
theorem dX6_readForm_174 : decode cX6_readForm 174 = .ok (.invokevirtual 43, 3) := by decide +kernel
theorem dX6_readForm_177 : decode cX6_readForm 177 = .ok (.ifCond .eq 7, 3) := by decide +kernel
theorem dX6_readForm_180 : decode cX6_readForm 180 = .ok (.aload_n 3, 1) := by decide +kernel
theorem dX6_readForm_181 : decode cX6_readForm 181 = .ok (.goto 4, 3) := by decide +kernel
theorem dX6_readForm_184 : decode cX6_readForm 184 = .ok (.aconst_null, 1) := by decide +kernel
theorem dX6_readForm_185 : decode cX6_readForm 185 = .ok (.areturn, 1) := by decide +kernel
set_option maxRecDepth 20000 in
theorem ggX6_load_X7_at : GoodIn wsX6_load wsX7_at := goodIn_r _ [11, 12, 13, 21, 22] rfl (by decide +kernel)
set_option maxRecDepth 20000 in
theorem gX6_load_X7_at : GoodIn wsX6_load (wsV RX6 82 RX7 yX7_at wsX7_at) := goodIn_app (goodIn_of _ (by decide +kernel)) ggX6_load_X7_at
theorem dX6_load_0 : decode cX6_load 0 = .ok (.aload_n 0, 1) := by decide +kernel
theorem dX6_load_1 : decode cX6_load 1 = .ok (.iconst 0, 1) := by decide +kernel
theorem dX6_load_2 : decode cX6_load 2 = .ok (.putfield 19, 3) := by decide +kernel
theorem dX6_load_5 : decode cX6_load 5 = .ok (.iconst 0, 1) := by decide +kernel
theorem dX6_load_6 : decode cX6_load 6 = .ok (.istore_n 2, 1) := by decide +kernel
theorem dX6_load_7 : decode cX6_load 7 = .ok (.iload_n 2, 1) := by decide +kernel
theorem dX6_load_8 : decode cX6_load 8 = .ok (.aload_n 1, 1) := by decide +kernel
theorem dX6_load_9 : decode cX6_load 9 = .ok (.getfield 77, 3) := by decide +kernel
theorem dX6_load_12 : decode cX6_load 12 = .ok (.if_icmp .ge 82, 3) := by decide +kernel
theorem dX6_load_15 : decode cX6_load 15 = .ok (.aload_n 1, 1) := by decide +kernel
theorem dX6_load_16 : decode cX6_load 16 = .ok (.iload_n 2, 1) := by decide +kernel
theorem dX6_load_17 : decode cX6_load 17 = .ok (.invokevirtual 82, 3) := by decide +kernel
theorem dX6_load_20 : decode cX6_load 20 = .ok (.istore_n 3, 1) := by decide +kernel
theorem dX6_load_21 : decode cX6_load 21 = .ok (.iload_n 3, 1) := by decide +kernel
theorem dX6_load_22 : decode cX6_load 22 = .ok (.bipush 32, 2) := by decide +kernel
theorem dX6_load_24 : decode cX6_load 24 = .ok (.if_icmp .eq 64, 3) := by decide +kernel
theorem dX6_load_27 : decode cX6_load 27 = .ok (.aload_n 0, 1) := by decide +kernel
theorem dX6_load_28 : decode cX6_load 28 = .ok (.getfield 19, 3) := by decide +kernel
theorem dX6_load_31 : decode cX6_load 31 = .ok (.ifCond .lt 57, 3) := by decide +kernel
theorem dX6_load_34 : decode cX6_load 34 = .ok (.aload_n 0, 1) := by decide +kernel
theorem dX6_load_35 : decode cX6_load 35 = .ok (.getfield 19, 3) := by decide +kernel
theorem dX6_load_38 : decode cX6_load 38 = .ok (.aload_n 0, 1) := by decide +kernel
theorem dX6_load_39 : decode cX6_load 39 = .ok (.getfield 9, 3) := by decide +kernel
theorem dX6_load_42 : decode cX6_load 42 = .ok (.arraylength, 1) := by decide +kernel
theorem dX6_load_43 : decode cX6_load 43 = .ok (.if_icmp .ge 45, 3) := by decide +kernel
theorem dX6_load_46 : decode cX6_load 46 = .ok (.aload_n 0, 1) := by decide +kernel
theorem dX6_load_47 : decode cX6_load 47 = .ok (.getfield 19, 3) := by decide +kernel
theorem dX6_load_50 : decode cX6_load 50 = .ok (.aload_n 0, 1) := by decide +kernel
theorem dX6_load_51 : decode cX6_load 51 = .ok (.getfield 15, 3) := by decide +kernel
theorem dX6_load_54 : decode cX6_load 54 = .ok (.arraylength, 1) := by decide +kernel
theorem dX6_load_55 : decode cX6_load 55 = .ok (.if_icmp .ge 33, 3) := by decide +kernel
theorem dX6_load_58 : decode cX6_load 58 = .ok (.aload_n 0, 1) := by decide +kernel
theorem dX6_load_59 : decode cX6_load 59 = .ok (.getfield 9, 3) := by decide +kernel
theorem dX6_load_62 : decode cX6_load 62 = .ok (.aload_n 0, 1) := by decide +kernel
theorem dX6_load_63 : decode cX6_load 63 = .ok (.getfield 19, 3) := by decide +kernel
theorem dX6_load_66 : decode cX6_load 66 = .ok (.iload_n 3, 1) := by decide +kernel
theorem dX6_load_67 : decode cX6_load 67 = .ok (.castore, 1) := by decide +kernel
theorem dX6_load_68 : decode cX6_load 68 = .ok (.aload_n 0, 1) := by decide +kernel
theorem dX6_load_69 : decode cX6_load 69 = .ok (.getfield 15, 3) := by decide +kernel
theorem dX6_load_72 : decode cX6_load 72 = .ok (.aload_n 0, 1) := by decide +kernel
theorem dX6_load_73 : decode cX6_load 73 = .ok (.getfield 19, 3) := by decide +kernel
theorem dX6_load_76 : decode cX6_load 76 = .ok (.iload_n 2, 1) := by decide +kernel
theorem dX6_load_77 : decode cX6_load 77 = .ok (.iastore, 1) := by decide +kernel
theorem dX6_load_78 : decode cX6_load 78 = .ok (.aload_n 0, 1) := by decide +kernel
theorem dX6_load_79 : decode cX6_load 79 = .ok (.dup, 1) := by decide +kernel
theorem dX6_load_80 : decode cX6_load 80 = .ok (.getfield 19, 3) := by decide +kernel
theorem dX6_load_83 : decode cX6_load 83 = .ok (.iconst 1, 1) := by decide +kernel
theorem dX6_load_84 : decode cX6_load 84 = .ok (.iadd, 1) := by decide +kernel
theorem dX6_load_85 : decode cX6_load 85 = .ok (.putfield 19, 3) := by decide +kernel
theorem dX6_load_88 : decode cX6_load 88 = .ok (.iinc 2 1, 3) := by decide +kernel
theorem dX6_load_91 : decode cX6_load 91 = .ok (.goto (-84), 3) := by decide +kernel
theorem dX6_load_94 : decode cX6_load 94 = .ok (.aload_n 0, 1) := by decide +kernel
theorem dX6_load_95 : decode cX6_load 95 = .ok (.aload_n 1, 1) := by decide +kernel
theorem dX6_load_96 : decode cX6_load 96 = .ok (.getfield 77, 3) := by decide +kernel
theorem dX6_load_99 : decode cX6_load 99 = .ok (.putfield 23, 3) := by decide +kernel
theorem dX6_load_102 : decode cX6_load 102 = .ok (.aload_n 0, 1) := by decide +kernel
theorem dX6_load_103 : decode cX6_load 103 = .ok (.iconst (-1), 1) := by decide +kernel
theorem dX6_load_104 : decode cX6_load 104 = .ok (.putfield 32, 3) := by decide +kernel
theorem dX6_load_107 : decode cX6_load 107 = .ok (.return_, 1) := by decide +kernel
theorem dX6_signAt_0 : decode cX6_signAt 0 = .ok (.iload_n 1, 1) := by decide +kernel
theorem dX6_signAt_1 : decode cX6_signAt 1 = .ok (.ifCond .lt 29, 3) := by decide +kernel
theorem dX6_signAt_4 : decode cX6_signAt 4 = .ok (.iload_n 1, 1) := by decide +kernel
theorem dX6_signAt_5 : decode cX6_signAt 5 = .ok (.aload_n 0, 1) := by decide +kernel
theorem dX6_signAt_6 : decode cX6_signAt 6 = .ok (.getfield 19, 3) := by decide +kernel
theorem dX6_signAt_9 : decode cX6_signAt 9 = .ok (.if_icmp .ge 21, 3) := by decide +kernel
theorem dX6_signAt_12 : decode cX6_signAt 12 = .ok (.iload_n 1, 1) := by decide +kernel
theorem dX6_signAt_13 : decode cX6_signAt 13 = .ok (.aload_n 0, 1) := by decide +kernel
theorem dX6_signAt_14 : decode cX6_signAt 14 = .ok (.getfield 9, 3) := by decide +kernel
theorem dX6_signAt_17 : decode cX6_signAt 17 = .ok (.arraylength, 1) := by decide +kernel
theorem dX6_signAt_18 : decode cX6_signAt 18 = .ok (.if_icmp .ge 12, 3) := by decide +kernel
theorem dX6_signAt_21 : decode cX6_signAt 21 = .ok (.aload_n 0, 1) := by decide +kernel
theorem dX6_signAt_22 : decode cX6_signAt 22 = .ok (.getfield 9, 3) := by decide +kernel
theorem dX6_signAt_25 : decode cX6_signAt 25 = .ok (.iload_n 1, 1) := by decide +kernel
theorem dX6_signAt_26 : decode cX6_signAt 26 = .ok (.caload, 1) := by decide +kernel
theorem dX6_signAt_27 : decode cX6_signAt 27 = .ok (.goto 4, 3) := by decide +kernel
theorem dX6_signAt_30 : decode cX6_signAt 30 = .ok (.iconst 0, 1) := by decide +kernel
theorem dX6_signAt_31 : decode cX6_signAt 31 = .ok (.ireturn, 1) := by decide +kernel
theorem dX6_stoodAt_0 : decode cX6_stoodAt 0 = .ok (.iload_n 1, 1) := by decide +kernel
theorem dX6_stoodAt_1 : decode cX6_stoodAt 1 = .ok (.ifCond .lt 29, 3) := by decide +kernel
theorem dX6_stoodAt_4 : decode cX6_stoodAt 4 = .ok (.iload_n 1, 1) := by decide +kernel
theorem dX6_stoodAt_5 : decode cX6_stoodAt 5 = .ok (.aload_n 0, 1) := by decide +kernel
theorem dX6_stoodAt_6 : decode cX6_stoodAt 6 = .ok (.getfield 19, 3) := by decide +kernel
theorem dX6_stoodAt_9 : decode cX6_stoodAt 9 = .ok (.if_icmp .ge 21, 3) := by decide +kernel
theorem dX6_stoodAt_12 : decode cX6_stoodAt 12 = .ok (.iload_n 1, 1) := by decide +kernel
theorem dX6_stoodAt_13 : decode cX6_stoodAt 13 = .ok (.aload_n 0, 1) := by decide +kernel
theorem dX6_stoodAt_14 : decode cX6_stoodAt 14 = .ok (.getfield 15, 3) := by decide +kernel
theorem dX6_stoodAt_17 : decode cX6_stoodAt 17 = .ok (.arraylength, 1) := by decide +kernel
theorem dX6_stoodAt_18 : decode cX6_stoodAt 18 = .ok (.if_icmp .ge 12, 3) := by decide +kernel
theorem dX6_stoodAt_21 : decode cX6_stoodAt 21 = .ok (.aload_n 0, 1) := by decide +kernel
theorem dX6_stoodAt_22 : decode cX6_stoodAt 22 = .ok (.getfield 15, 3) := by decide +kernel
theorem dX6_stoodAt_25 : decode cX6_stoodAt 25 = .ok (.iload_n 1, 1) := by decide +kernel
theorem dX6_stoodAt_26 : decode cX6_stoodAt 26 = .ok (.iaload, 1) := by decide +kernel
theorem dX6_stoodAt_27 : decode cX6_stoodAt 27 = .ok (.goto 7, 3) := by decide +kernel
theorem dX6_stoodAt_30 : decode cX6_stoodAt 30 = .ok (.aload_n 0, 1) := by decide +kernel
theorem dX6_stoodAt_31 : decode cX6_stoodAt 31 = .ok (.getfield 23, 3) := by decide +kernel
theorem dX6_stoodAt_34 : decode cX6_stoodAt 34 = .ok (.ireturn, 1) := by decide +kernel
set_option maxRecDepth 20000 in
theorem ggX6_failAt_X6_stoodAt : GoodIn wsX6_failAt wsX6_stoodAt := goodIn_r _ [6, 7, 8, 9, 10, 11, 12, 13, 14, 15, 16] rfl (by decide +kernel)
set_option maxRecDepth 20000 in
theorem gX6_failAt_X6_stoodAt : GoodIn wsX6_failAt (wsV RX6 84 RX6 yX6_stoodAt wsX6_stoodAt) := goodIn_app (goodIn_of _ (by decide +kernel)) ggX6_failAt_X6_stoodAt
theorem dX6_failAt_0 : decode cX6_failAt 0 = .ok (.aload_n 0, 1) := by decide +kernel
theorem dX6_failAt_1 : decode cX6_failAt 1 = .ok (.aload_n 0, 1) := by decide +kernel
theorem dX6_failAt_2 : decode cX6_failAt 2 = .ok (.iload_n 1, 1) := by decide +kernel
theorem dX6_failAt_3 : decode cX6_failAt 3 = .ok (.invokevirtual 84, 3) := by decide +kernel
theorem dX6_failAt_6 : decode cX6_failAt 6 = .ok (.putfield 32, 3) := by decide +kernel
theorem dX6_failAt_9 : decode cX6_failAt 9 = .ok (.iconst 0, 1) := by decide +kernel
theorem dX6_failAt_10 : decode cX6_failAt 10 = .ok (.ireturn, 1) := by decide +kernel
set_option maxRecDepth 20000 in
theorem ggX6_take_X6_signAt : GoodIn wsX6_take wsX6_signAt := goodIn_r _ [6, 7, 8, 9, 10, 11, 12, 13, 14, 15] rfl (by decide +kernel)
set_option maxRecDepth 20000 in
theorem gX6_take_X6_signAt : GoodIn wsX6_take (wsV RX6 39 RX6 yX6_signAt wsX6_signAt) := goodIn_app (goodIn_of _ (by decide +kernel)) ggX6_take_X6_signAt
theorem dX6_take_0 : decode cX6_take 0 = .ok (.aload_n 0, 1) := by decide +kernel
theorem dX6_take_1 : decode cX6_take 1 = .ok (.aload_n 0, 1) := by decide +kernel
theorem dX6_take_2 : decode cX6_take 2 = .ok (.getfield 26, 3) := by decide +kernel
theorem dX6_take_5 : decode cX6_take 5 = .ok (.invokevirtual 39, 3) := by decide +kernel
theorem dX6_take_8 : decode cX6_take 8 = .ok (.iload_n 1, 1) := by decide +kernel
theorem dX6_take_9 : decode cX6_take 9 = .ok (.if_icmp .eq 5, 3) := by decide +kernel
theorem dX6_take_12 : decode cX6_take 12 = .ok (.iconst 0, 1) := by decide +kernel
theorem dX6_take_13 : decode cX6_take 13 = .ok (.ireturn, 1) := by decide +kernel
theorem dX6_take_14 : decode cX6_take 14 = .ok (.aload_n 0, 1) := by decide +kernel
theorem dX6_take_15 : decode cX6_take 15 = .ok (.dup, 1) := by decide +kernel
theorem dX6_take_16 : decode cX6_take 16 = .ok (.getfield 26, 3) := by decide +kernel
theorem dX6_take_19 : decode cX6_take 19 = .ok (.iconst 1, 1) := by decide +kernel
theorem dX6_take_20 : decode cX6_take 20 = .ok (.iadd, 1) := by decide +kernel
theorem dX6_take_21 : decode cX6_take 21 = .ok (.putfield 26, 3) := by decide +kernel
theorem dX6_take_24 : decode cX6_take 24 = .ok (.iconst 1, 1) := by decide +kernel
theorem dX6_take_25 : decode cX6_take 25 = .ok (.ireturn, 1) := by decide +kernel
set_option maxRecDepth 20000 in
theorem ggX6_need_X6_take : GoodIn wsX6_need wsX6_take := goodIn_r _ [6, 1, 7, 8, 9, 5, 10, 11, 12, 24, 25, 26, 27, 28, 29, 30] rfl (by decide +kernel)
set_option maxRecDepth 20000 in
theorem gX6_need_X6_take : GoodIn wsX6_need (wsV RX6 56 RX6 yX6_take wsX6_take) := goodIn_app (goodIn_of _ (by decide +kernel)) ggX6_need_X6_take
set_option maxRecDepth 20000 in
theorem ggX6_need_X6_failAt : GoodIn wsX6_need wsX6_failAt := goodIn_r _ [16, 17, 18, 19, 20, 5, 21, 11, 22, 23, 24, 25, 26, 27, 28, 29, 30] rfl (by decide +kernel)
set_option maxRecDepth 20000 in
theorem gX6_need_X6_failAt : GoodIn wsX6_need (wsV RX6 43 RX6 yX6_failAt wsX6_failAt) := goodIn_app (goodIn_of _ (by decide +kernel)) ggX6_need_X6_failAt
theorem dX6_need_0 : decode cX6_need 0 = .ok (.aload_n 0, 1) := by decide +kernel
theorem dX6_need_1 : decode cX6_need 1 = .ok (.iload_n 1, 1) := by decide +kernel
theorem dX6_need_2 : decode cX6_need 2 = .ok (.invokevirtual 56, 3) := by decide +kernel
theorem dX6_need_5 : decode cX6_need 5 = .ok (.ifCond .ne 14, 3) := by decide +kernel
theorem dX6_need_8 : decode cX6_need 8 = .ok (.aload_n 0, 1) := by decide +kernel
theorem dX6_need_9 : decode cX6_need 9 = .ok (.aload_n 0, 1) := by decide +kernel
theorem dX6_need_10 : decode cX6_need 10 = .ok (.getfield 26, 3) := by decide +kernel
theorem dX6_need_13 : decode cX6_need 13 = .ok (.invokevirtual 43, 3) := by decide +kernel
theorem dX6_need_16 : decode cX6_need 16 = .ok (.ifCond .eq 7, 3) := by decide +kernel
theorem dX6_need_19 : decode cX6_need 19 = .ok (.iconst 1, 1) := by decide +kernel
theorem dX6_need_20 : decode cX6_need 20 = .ok (.goto 4, 3) := by decide +kernel
theorem dX6_need_23 : decode cX6_need 23 = .ok (.iconst 0, 1) := by decide +kernel
theorem dX6_need_24 : decode cX6_need 24 = .ok (.ireturn, 1) := by decide +kernel
set_option maxRecDepth 20000 in
theorem ggX6_readWord_X6_stoodAt : GoodIn wsX6_readWord wsX6_stoodAt := goodIn_r _ [7, 2, 8, 9, 23, 24, 25, 26, 27, 28, 29] rfl (by decide +kernel)
set_option maxRecDepth 20000 in
theorem gX6_readWord_X6_stoodAt : GoodIn wsX6_readWord (wsV RX6 84 RX6 yX6_stoodAt wsX6_stoodAt) := goodIn_app (goodIn_of _ (by decide +kernel)) ggX6_readWord_X6_stoodAt
set_option maxRecDepth 20000 in
theorem ggX6_readWord_X6_signAt : GoodIn wsX6_readWord wsX6_signAt := goodIn_r _ [13, 2, 14, 23, 24, 25, 26, 27, 28, 29] rfl (by decide +kernel)
set_option maxRecDepth 20000 in
theorem gX6_readWord_X6_signAt : GoodIn wsX6_readWord (wsV RX6 39 RX6 yX6_signAt wsX6_signAt) := goodIn_app (goodIn_of _ (by decide +kernel)) ggX6_readWord_X6_signAt
set_option maxRecDepth 20000 in
theorem ggX6_readWord_X7_isLetter : GoodIn wsX6_readWord wsX7_isLetter := goodIn_r _ [18] rfl (by decide +kernel)
set_option maxRecDepth 20000 in
theorem gX6_readWord_X7_isLetter : GoodIn wsX6_readWord (va_wsS RX6 88 yX7_isLetter wsX7_isLetter) := goodIn_app (goodIn_of _ (by decide +kernel)) ggX6_readWord_X7_isLetter
set_option maxRecDepth 20000 in
theorem ggX6_readWord_X7_withLetter : GoodIn wsX6_readWord wsX7_withLetter := goodIn_r _ [21, 22] rfl (by decide +kernel)
set_option maxRecDepth 20000 in
theorem gX6_readWord_X7_withLetter : GoodIn wsX6_readWord (va_wsS RX6 91 yX7_withLetter wsX7_withLetter) := goodIn_app (goodIn_of _ (by decide +kernel)) ggX6_readWord_X7_withLetter
theorem dX6_readWord_0 : decode cX6_readWord 0 = .ok (.aload_n 0, 1) := by decide +kernel
theorem dX6_readWord_1 : decode cX6_readWord 1 = .ok (.getfield 26, 3) := by decide +kernel
theorem dX6_readWord_4 : decode cX6_readWord 4 = .ok (.istore_n 1, 1) := by decide +kernel
theorem dX6_readWord_5 : decode cX6_readWord 5 = .ok (.aload_n 0, 1) := by decide +kernel
theorem dX6_readWord_6 : decode cX6_readWord 6 = .ok (.aload_n 0, 1) := by decide +kernel
theorem dX6_readWord_7 : decode cX6_readWord 7 = .ok (.getfield 26, 3) := by decide +kernel
theorem dX6_readWord_10 : decode cX6_readWord 10 = .ok (.invokevirtual 84, 3) := by decide +kernel
theorem dX6_readWord_13 : decode cX6_readWord 13 = .ok (.istore_n 2, 1) := by decide +kernel
theorem dX6_readWord_14 : decode cX6_readWord 14 = .ok (.lconst 0, 1) := by decide +kernel
theorem dX6_readWord_15 : decode cX6_readWord 15 = .ok (.lstore_n 3, 1) := by decide +kernel
theorem dX6_readWord_16 : decode cX6_readWord 16 = .ok (.aload_n 0, 1) := by decide +kernel
theorem dX6_readWord_17 : decode cX6_readWord 17 = .ok (.getfield 26, 3) := by decide +kernel
theorem dX6_readWord_20 : decode cX6_readWord 20 = .ok (.aload_n 0, 1) := by decide +kernel
theorem dX6_readWord_21 : decode cX6_readWord 21 = .ok (.getfield 19, 3) := by decide +kernel
theorem dX6_readWord_24 : decode cX6_readWord 24 = .ok (.if_icmp .ge 62, 3) := by decide +kernel
theorem dX6_readWord_27 : decode cX6_readWord 27 = .ok (.aload_n 0, 1) := by decide +kernel
theorem dX6_readWord_28 : decode cX6_readWord 28 = .ok (.aload_n 0, 1) := by decide +kernel
theorem dX6_readWord_29 : decode cX6_readWord 29 = .ok (.getfield 26, 3) := by decide +kernel
theorem dX6_readWord_32 : decode cX6_readWord 32 = .ok (.invokevirtual 84, 3) := by decide +kernel
theorem dX6_readWord_35 : decode cX6_readWord 35 = .ok (.iload_n 2, 1) := by decide +kernel
theorem dX6_readWord_36 : decode cX6_readWord 36 = .ok (.isub, 1) := by decide +kernel
theorem dX6_readWord_37 : decode cX6_readWord 37 = .ok (.aload_n 0, 1) := by decide +kernel
theorem dX6_readWord_38 : decode cX6_readWord 38 = .ok (.getfield 26, 3) := by decide +kernel
theorem dX6_readWord_41 : decode cX6_readWord 41 = .ok (.iload_n 1, 1) := by decide +kernel
theorem dX6_readWord_42 : decode cX6_readWord 42 = .ok (.isub, 1) := by decide +kernel
theorem dX6_readWord_43 : decode cX6_readWord 43 = .ok (.if_icmp .ne 43, 3) := by decide +kernel
theorem dX6_readWord_46 : decode cX6_readWord 46 = .ok (.aload_n 0, 1) := by decide +kernel
theorem dX6_readWord_47 : decode cX6_readWord 47 = .ok (.aload_n 0, 1) := by decide +kernel
theorem dX6_readWord_48 : decode cX6_readWord 48 = .ok (.getfield 26, 3) := by decide +kernel
theorem dX6_readWord_51 : decode cX6_readWord 51 = .ok (.invokevirtual 39, 3) := by decide +kernel
theorem dX6_readWord_54 : decode cX6_readWord 54 = .ok (.invokestatic 88, 3) := by decide +kernel
theorem dX6_readWord_57 : decode cX6_readWord 57 = .ok (.ifCond .eq 29, 3) := by decide +kernel
theorem dX6_readWord_60 : decode cX6_readWord 60 = .ok (.lload_n 3, 1) := by decide +kernel
theorem dX6_readWord_61 : decode cX6_readWord 61 = .ok (.aload_n 0, 1) := by decide +kernel
theorem dX6_readWord_62 : decode cX6_readWord 62 = .ok (.aload_n 0, 1) := by decide +kernel
theorem dX6_readWord_63 : decode cX6_readWord 63 = .ok (.getfield 26, 3) := by decide +kernel
theorem dX6_readWord_66 : decode cX6_readWord 66 = .ok (.invokevirtual 39, 3) := by decide +kernel
theorem dX6_readWord_69 : decode cX6_readWord 69 = .ok (.invokestatic 91, 3) := by decide +kernel
theorem dX6_readWord_72 : decode cX6_readWord 72 = .ok (.lstore_n 3, 1) := by decide +kernel
theorem dX6_readWord_73 : decode cX6_readWord 73 = .ok (.aload_n 0, 1) := by decide +kernel
theorem dX6_readWord_74 : decode cX6_readWord 74 = .ok (.dup, 1) := by decide +kernel
theorem dX6_readWord_75 : decode cX6_readWord 75 = .ok (.getfield 26, 3) := by decide +kernel
theorem dX6_readWord_78 : decode cX6_readWord 78 = .ok (.iconst 1, 1) := by decide +kernel
theorem dX6_readWord_79 : decode cX6_readWord 79 = .ok (.iadd, 1) := by decide +kernel
theorem dX6_readWord_80 : decode cX6_readWord 80 = .ok (.putfield 26, 3) := by decide +kernel
theorem dX6_readWord_83 : decode cX6_readWord 83 = .ok (.goto (-67), 3) := by decide +kernel
theorem dX6_readWord_86 : decode cX6_readWord 86 = .ok (.aload_n 0, 1) := by decide +kernel
theorem dX6_readWord_87 : decode cX6_readWord 87 = .ok (.getfield 26, 3) := by decide +kernel
theorem dX6_readWord_90 : decode cX6_readWord 90 = .ok (.iload_n 1, 1) := by decide +kernel
theorem dX6_readWord_91 : decode cX6_readWord 91 = .ok (.isub, 1) := by decide +kernel
theorem dX6_readWord_92 : decode cX6_readWord 92 = .ok (.bipush 8, 2) := by decide +kernel
theorem dX6_readWord_94 : decode cX6_readWord 94 = .ok (.if_icmp .le 7, 3) := by decide +kernel
theorem dX6_readWord_97 : decode cX6_readWord 97 = .ok (.lconst 0, 1) := by decide +kernel
theorem dX6_readWord_98 : decode cX6_readWord 98 = .ok (.goto 4, 3) := by decide +kernel
theorem dX6_readWord_101 : decode cX6_readWord 101 = .ok (.lload_n 3, 1) := by decide +kernel
theorem dX6_readWord_102 : decode cX6_readWord 102 = .ok (.lreturn, 1) := by decide +kernel
set_option maxRecDepth 20000 in
theorem ggX6_readArgument_X6_readWord : GoodIn wsX6_readArgument wsX6_readWord := goodIn_r _ [9, 1, 10, 11, 12, 13, 8, 14, 15, 16, 17, 18, 19, 20, 21, 22, 23, 24, 25, 26, 27, 28, 29, 148, 149, 150, 151, 152, 153, 154] rfl (by decide +kernel)
set_option maxRecDepth 20000 in
theorem gX6_readArgument_X6_readWord : GoodIn wsX6_readArgument (wsV RX6 95 RX6 yX6_readWord wsX6_readWord) := goodIn_app (goodIn_of _ (by decide +kernel)) ggX6_readArgument_X6_readWord
set_option maxRecDepth 20000 in
theorem ggX6_readArgument_X7_codeOf : GoodIn wsX6_readArgument wsX7_codeOf := goodIn_r _ [32, 33, 34, 35, 36, 37, 38, 39, 40, 41, 42, 43, 44, 45, 46, 47, 48, 49, 50, 51, 52, 53, 54, 55, 56, 57, 58, 59, 60, 61, 62, 63, 64, 65, 66, 67, 68, 69, 70, 71, 72, 73, 74, 75, 76, 77, 78, 79, 80, 81, 82, 27, 24, 28, 29] rfl (by decide +kernel)
set_option maxRecDepth 20000 in
theorem gX6_readArgument_X7_codeOf : GoodIn wsX6_readArgument (va_wsS RX6 101 yX7_codeOf wsX7_codeOf) := goodIn_app (goodIn_of _ (by decide +kernel)) ggX6_readArgument_X7_codeOf
set_option maxRecDepth 20000 in
theorem ggX6_readArgument_X6_readType : GoodIn wsX6_readArgument wsX6_readType := goodIn_r _ [86, 87, 88, 89, 90, 91, 92, 93, 94, 95, 96, 8, 97, 1, 98, 99, 100, 101, 17, 18, 19, 20, 10, 21, 102, 103, 104, 105, 106, 11, 12, 13, 14, 15, 16, 5, 6, 7, 9, 22, 23, 24, 25, 26, 27, 28, 29, 107, 108, 109, 110, 30, 31, 32, 33, 34, 35, 36, 37, 38, 39, 40, 41, 42, 43, 44, 45, 46, 47, 48, 49, 50, 51, 52, 53, 54, 55, 56, 57, 58, 59, 60, 61, 62, 63, 64, 65, 66, 67, 68, 69, 70, 71, 72, 73, 74, 75, 76, 77, 78, 79, 80, 81, 82, 111, 112, 113, 114, 115, 116, 117, 118, 119, 120, 121, 122, 123, 124, 125, 126, 127, 128, 129, 130, 131, 132, 133, 134, 135, 136, 137, 138, 139, 140, 148, 149, 150, 151, 152, 153, 154, 158, 159, 160, 161, 162] rfl (by decide +kernel)
set_option maxRecDepth 20000 in
theorem gX6_readArgument_X6_readType : GoodIn wsX6_readArgument (wsV RX6 105 RX6 yX6_readType wsX6_readType) := goodIn_app (goodIn_of _ (by decide +kernel)) ggX6_readArgument_X6_readType
set_option maxRecDepth 20000 in
theorem ggX6_readArgument_X6_take : GoodIn wsX6_readArgument wsX6_take := goodIn_r _ [101, 1, 17, 18, 19, 8, 20, 10, 21, 148, 149, 150, 151, 152, 153, 154] rfl (by decide +kernel)
set_option maxRecDepth 20000 in
theorem gX6_readArgument_X6_take : GoodIn wsX6_readArgument (wsV RX6 56 RX6 yX6_take wsX6_take) := goodIn_app (goodIn_of _ (by decide +kernel)) ggX6_readArgument_X6_take
set_option maxRecDepth 20000 in
theorem ggX6_readArgument_X6_need : GoodIn wsX6_readArgument wsX6_need := goodIn_r _ [121, 1, 98, 99, 100, 8, 101, 17, 18, 19, 20, 10, 21, 102, 103, 104, 105, 106, 11, 12, 13, 14, 15, 16, 148, 149, 150, 151, 152, 153, 154] rfl (by decide +kernel)
set_option maxRecDepth 20000 in
theorem gX6_readArgument_X6_need : GoodIn wsX6_readArgument (wsV RX6 52 RX6 yX6_need wsX6_need) := goodIn_app (goodIn_of _ (by decide +kernel)) ggX6_readArgument_X6_need
set_option maxRecDepth 20000 in
theorem ggX6_readArgument_X6_failAt : GoodIn wsX6_readArgument wsX6_failAt := goodIn_r _ [105, 106, 11, 12, 13, 8, 14, 10, 15, 16, 148, 149, 150, 151, 152, 153, 154] rfl (by decide +kernel)
set_option maxRecDepth 20000 in
theorem gX6_readArgument_X6_failAt : GoodIn wsX6_readArgument (wsV RX6 43 RX6 yX6_failAt wsX6_failAt) := goodIn_app (goodIn_of _ (by decide +kernel)) ggX6_readArgument_X6_failAt
set_option maxRecDepth 20000 in
theorem ggX6_readArgument_X0_init : GoodIn wsX6_readArgument wsX0_init := goodIn_r _ [143, 144, 134, 135, 145, 146, 147, 155, 156, 157] rfl (by decide +kernel)
set_option maxRecDepth 20000 in
theorem gX6_readArgument_X0_init : GoodIn wsX6_readArgument (wsX0_init) := ggX6_readArgument_X0_init
theorem dX6_readArgument_0 : decode cX6_readArgument 0 = .ok (.aload_n 0, 1) := by decide +kernel
theorem dX6_readArgument_1 : decode cX6_readArgument 1 = .ok (.getfield 26, 3) := by decide +kernel
theorem dX6_readArgument_4 : decode cX6_readArgument 4 = .ok (.istore_n 2, 1) := by decide +kernel
theorem dX6_readArgument_5 : decode cX6_readArgument 5 = .ok (.aload_n 0, 1) := by decide +kernel
theorem dX6_readArgument_6 : decode cX6_readArgument 6 = .ok (.invokevirtual 95, 3) := by decide +kernel
theorem dX6_readArgument_9 : decode cX6_readArgument 9 = .ok (.ldc 99, 2) := by decide +kernel
theorem dX6_readArgument_11 : decode cX6_readArgument 11 = .ok (.invokestatic 101, 3) := by decide +kernel
theorem dX6_readArgument_14 : decode cX6_readArgument 14 = .ok (.lcmp, 1) := by decide +kernel
theorem dX6_readArgument_15 : decode cX6_readArgument 15 = .ok (.ifCond .ne 7, 3) := by decide +kernel
theorem dX6_readArgument_18 : decode cX6_readArgument 18 = .ok (.iconst 1, 1) := by decide +kernel
theorem dX6_readArgument_19 : decode cX6_readArgument 19 = .ok (.goto 4, 3) := by decide +kernel
theorem dX6_readArgument_22 : decode cX6_readArgument 22 = .ok (.iconst 0, 1) := by decide +kernel
theorem dX6_readArgument_23 : decode cX6_readArgument 23 = .ok (.istore_n 3, 1) := by decide +kernel
theorem dX6_readArgument_24 : decode cX6_readArgument 24 = .ok (.iload_n 3, 1) := by decide +kernel
theorem dX6_readArgument_25 : decode cX6_readArgument 25 = .ok (.ifCond .ne 8, 3) := by decide +kernel
theorem dX6_readArgument_28 : decode cX6_readArgument 28 = .ok (.aload_n 0, 1) := by decide +kernel
theorem dX6_readArgument_29 : decode cX6_readArgument 29 = .ok (.iload_n 2, 1) := by decide +kernel
theorem dX6_readArgument_30 : decode cX6_readArgument 30 = .ok (.putfield 26, 3) := by decide +kernel
theorem dX6_readArgument_33 : decode cX6_readArgument 33 = .ok (.aload_n 0, 1) := by decide +kernel
theorem dX6_readArgument_34 : decode cX6_readArgument 34 = .ok (.invokevirtual 105, 3) := by decide +kernel
theorem dX6_readArgument_37 : decode cX6_readArgument 37 = .ok (.astore 4, 2) := by decide +kernel
theorem dX6_readArgument_39 : decode cX6_readArgument 39 = .ok (.aload 4, 2) := by decide +kernel
theorem dX6_readArgument_41 : decode cX6_readArgument 41 = .ok (.ifnonnull 5, 3) := by decide +kernel
theorem dX6_readArgument_44 : decode cX6_readArgument 44 = .ok (.aconst_null, 1) := by decide +kernel
theorem dX6_readArgument_45 : decode cX6_readArgument 45 = .ok (.areturn, 1) := by decide +kernel
theorem dX6_readArgument_46 : decode cX6_readArgument 46 = .ok (.iload_n 3, 1) := by decide +kernel
theorem dX6_readArgument_47 : decode cX6_readArgument 47 = .ok (.ifCond .ne 16, 3) := by decide +kernel
theorem dX6_readArgument_50 : decode cX6_readArgument 50 = .ok (.aload_n 0, 1) := by decide +kernel
theorem dX6_readArgument_51 : decode cX6_readArgument 51 = .ok (.bipush 46, 2) := by decide +kernel
theorem dX6_readArgument_53 : decode cX6_readArgument 53 = .ok (.invokevirtual 56, 3) := by decide +kernel
theorem dX6_readArgument_56 : decode cX6_readArgument 56 = .ok (.ifCond .eq 7, 3) := by decide +kernel
theorem dX6_readArgument_59 : decode cX6_readArgument 59 = .ok (.iconst 1, 1) := by decide +kernel
theorem dX6_readArgument_60 : decode cX6_readArgument 60 = .ok (.goto 4, 3) := by decide +kernel
theorem dX6_readArgument_63 : decode cX6_readArgument 63 = .ok (.iconst 0, 1) := by decide +kernel
theorem dX6_readArgument_64 : decode cX6_readArgument 64 = .ok (.istore 5, 2) := by decide +kernel
theorem dX6_readArgument_66 : decode cX6_readArgument 66 = .ok (.iload 5, 2) := by decide +kernel
theorem dX6_readArgument_68 : decode cX6_readArgument 68 = .ok (.ifCond .eq 23, 3) := by decide +kernel
theorem dX6_readArgument_71 : decode cX6_readArgument 71 = .ok (.aload_n 0, 1) := by decide +kernel
theorem dX6_readArgument_72 : decode cX6_readArgument 72 = .ok (.bipush 46, 2) := by decide +kernel
theorem dX6_readArgument_74 : decode cX6_readArgument 74 = .ok (.invokevirtual 52, 3) := by decide +kernel
theorem dX6_readArgument_77 : decode cX6_readArgument 77 = .ok (.ifCond .eq 12, 3) := by decide +kernel
theorem dX6_readArgument_80 : decode cX6_readArgument 80 = .ok (.aload_n 0, 1) := by decide +kernel
theorem dX6_readArgument_81 : decode cX6_readArgument 81 = .ok (.bipush 46, 2) := by decide +kernel
theorem dX6_readArgument_83 : decode cX6_readArgument 83 = .ok (.invokevirtual 52, 3) := by decide +kernel
theorem dX6_readArgument_86 : decode cX6_readArgument 86 = .ok (.ifCond .ne 5, 3) := by decide +kernel
theorem dX6_readArgument_89 : decode cX6_readArgument 89 = .ok (.aconst_null, 1) := by decide +kernel
theorem dX6_readArgument_90 : decode cX6_readArgument 90 = .ok (.areturn, 1) := by decide +kernel
theorem dX6_readArgument_91 : decode cX6_readArgument 91 = .ok (.iload_n 1, 1) := by decide +kernel
theorem dX6_readArgument_92 : decode cX6_readArgument 92 = .ok (.ifCond .eq 23, 3) := by decide +kernel
theorem dX6_readArgument_95 : decode cX6_readArgument 95 = .ok (.iload_n 3, 1) := by decide +kernel
theorem dX6_readArgument_96 : decode cX6_readArgument 96 = .ok (.ifCond .ne 19, 3) := by decide +kernel
theorem dX6_readArgument_99 : decode cX6_readArgument 99 = .ok (.iload 5, 2) := by decide +kernel
theorem dX6_readArgument_101 : decode cX6_readArgument 101 = .ok (.ifCond .ne 14, 3) := by decide +kernel
theorem dX6_readArgument_104 : decode cX6_readArgument 104 = .ok (.aload_n 0, 1) := by decide +kernel
theorem dX6_readArgument_105 : decode cX6_readArgument 105 = .ok (.aload_n 0, 1) := by decide +kernel
theorem dX6_readArgument_106 : decode cX6_readArgument 106 = .ok (.getfield 26, 3) := by decide +kernel
theorem dX6_readArgument_109 : decode cX6_readArgument 109 = .ok (.invokevirtual 43, 3) := by decide +kernel
theorem dX6_readArgument_112 : decode cX6_readArgument 112 = .ok (.pop, 1) := by decide +kernel
theorem dX6_readArgument_113 : decode cX6_readArgument 113 = .ok (.aconst_null, 1) := by decide +kernel
theorem dX6_readArgument_114 : decode cX6_readArgument 114 = .ok (.areturn, 1) := by decide +kernel
theorem dX6_readArgument_115 : decode cX6_readArgument 115 = .ok (.new 68, 3) := by decide +kernel
theorem dX6_readArgument_118 : decode cX6_readArgument 118 = .ok (.dup, 1) := by decide +kernel
theorem dX6_readArgument_119 : decode cX6_readArgument 119 = .ok (.aload 4, 2) := by decide +kernel
theorem dX6_readArgument_121 : decode cX6_readArgument 121 = .ok (.iload_n 3, 1) := by decide +kernel
theorem dX6_readArgument_122 : decode cX6_readArgument 122 = .ok (.iload 5, 2) := by decide +kernel
theorem dX6_readArgument_124 : decode cX6_readArgument 124 = .ok (.invokespecial 109, 3) := by decide +kernel
theorem dX6_readArgument_127 : decode cX6_readArgument 127 = .ok (.areturn, 1) := by decide +kernel
set_option maxRecDepth 20000 in
theorem ggX6_readType_X6_readName : GoodIn wsX6_readType wsX6_readName := goodIn_r _ [12, 2, 13, 1, 14, 15, 16, 11, 17, 18, 19, 20, 21, 22, 23, 24, 25, 26, 27, 28, 29, 30, 31, 32, 33, 34, 35, 36, 37, 38, 39, 40, 41, 42, 43, 44, 45, 46, 47, 48, 49, 50, 51, 52, 53, 54, 55, 56, 57, 58, 59, 60, 61, 62, 63, 64, 65, 66, 67, 68, 69, 70, 71, 72, 73, 74, 75, 76, 77, 78, 79, 80, 81, 82, 83, 84, 85, 86, 87, 88, 89, 90, 91, 92, 93, 94, 95, 96, 97, 98, 99, 100, 101, 102, 103, 104, 105, 106, 107, 108, 109, 110, 134, 135, 136, 137, 138, 139, 140] rfl (by decide +kernel)
set_option maxRecDepth 20000 in
theorem gX6_readType_X6_readName : GoodIn wsX6_readType (wsV RX6 112 RX6 yX6_readName wsX6_readName) := goodIn_app (goodIn_of _ (by decide +kernel)) ggX6_readType_X6_readName
set_option maxRecDepth 20000 in
theorem ggX6_readType_X6_need : GoodIn wsX6_readType wsX6_need := goodIn_r _ [114, 13, 14, 15, 16, 11, 17, 18, 19, 20, 21, 22, 23, 24, 25, 26, 27, 28, 29, 30, 31, 32, 33, 34, 134, 135, 136, 137, 138, 139, 140] rfl (by decide +kernel)
set_option maxRecDepth 20000 in
theorem gX6_readType_X6_need : GoodIn wsX6_readType (wsV RX6 52 RX6 yX6_need wsX6_need) := goodIn_app (goodIn_of _ (by decide +kernel)) ggX6_readType_X6_need
set_option maxRecDepth 20000 in
theorem ggX6_readType_X6_readWords : GoodIn wsX6_readType wsX6_readWords := goodIn_r _ [118, 119, 13, 111, 112, 113, 11, 114, 14, 15, 16, 17, 18, 19, 20, 21, 22, 23, 24, 25, 26, 27, 28, 29, 30, 31, 32, 33, 34, 35, 36, 37, 38, 39, 40, 41, 42, 43, 44, 45, 46, 120, 121, 122, 134, 135, 136, 137, 138, 139, 140] rfl (by decide +kernel)
set_option maxRecDepth 20000 in
theorem gX6_readType_X6_readWords : GoodIn wsX6_readType (wsV RX6 125 RX6 yX6_readWords wsX6_readWords) := goodIn_app (goodIn_of _ (by decide +kernel)) ggX6_readType_X6_readWords
set_option maxRecDepth 20000 in
theorem ggX6_readType_X6_take : GoodIn wsX6_readType wsX6_take := goodIn_r _ [17, 13, 18, 19, 20, 11, 21, 22, 23, 134, 135, 136, 137, 138, 139, 140] rfl (by decide +kernel)
set_option maxRecDepth 20000 in
theorem gX6_readType_X6_take : GoodIn wsX6_readType (wsV RX6 56 RX6 yX6_take wsX6_take) := goodIn_app (goodIn_of _ (by decide +kernel)) ggX6_readType_X6_take
set_option maxRecDepth 20000 in
theorem ggX6_readType_X9_init : GoodIn wsX6_readType wsX9_init := goodIn_r _ [125, 126, 127, 128, 129, 130, 131, 132, 133, 141, 142, 143, 144, 145] rfl (by decide +kernel)
set_option maxRecDepth 20000 in
theorem gX6_readType_X9_init : GoodIn wsX6_readType (wsX9_init) := ggX6_readType_X9_init
theorem dX6_readType_0 : decode cX6_readType 0 = .ok (.aload_n 0, 1) := by decide +kernel
theorem dX6_readType_1 : decode cX6_readType 1 = .ok (.iconst 1, 1) := by decide +kernel
theorem dX6_readType_2 : decode cX6_readType 2 = .ok (.invokevirtual 112, 3) := by decide +kernel
theorem dX6_readType_5 : decode cX6_readType 5 = .ok (.astore_n 1, 1) := by decide +kernel
theorem dX6_readType_6 : decode cX6_readType 6 = .ok (.aload_n 1, 1) := by decide +kernel
theorem dX6_readType_7 : decode cX6_readType 7 = .ok (.getstatic 116, 3) := by decide +kernel
theorem dX6_readType_10 : decode cX6_readType 10 = .ok (.if_acmp .ne 7, 3) := by decide +kernel
theorem dX6_readType_13 : decode cX6_readType 13 = .ok (.iconst 1, 1) := by decide +kernel
theorem dX6_readType_14 : decode cX6_readType 14 = .ok (.goto 4, 3) := by decide +kernel
theorem dX6_readType_17 : decode cX6_readType 17 = .ok (.iconst 0, 1) := by decide +kernel
theorem dX6_readType_18 : decode cX6_readType 18 = .ok (.istore_n 2, 1) := by decide +kernel
theorem dX6_readType_19 : decode cX6_readType 19 = .ok (.iload_n 2, 1) := by decide +kernel
theorem dX6_readType_20 : decode cX6_readType 20 = .ok (.ifCond .eq 22, 3) := by decide +kernel
theorem dX6_readType_23 : decode cX6_readType 23 = .ok (.aload_n 0, 1) := by decide +kernel
theorem dX6_readType_24 : decode cX6_readType 24 = .ok (.bipush 60, 2) := by decide +kernel
theorem dX6_readType_26 : decode cX6_readType 26 = .ok (.invokevirtual 52, 3) := by decide +kernel
theorem dX6_readType_29 : decode cX6_readType 29 = .ok (.ifCond .eq 11, 3) := by decide +kernel
theorem dX6_readType_32 : decode cX6_readType 32 = .ok (.aload_n 0, 1) := by decide +kernel
theorem dX6_readType_33 : decode cX6_readType 33 = .ok (.iconst 0, 1) := by decide +kernel
theorem dX6_readType_34 : decode cX6_readType 34 = .ok (.invokevirtual 112, 3) := by decide +kernel
theorem dX6_readType_37 : decode cX6_readType 37 = .ok (.goto 4, 3) := by decide +kernel
theorem dX6_readType_40 : decode cX6_readType 40 = .ok (.aconst_null, 1) := by decide +kernel
theorem dX6_readType_41 : decode cX6_readType 41 = .ok (.astore_n 1, 1) := by decide +kernel
theorem dX6_readType_42 : decode cX6_readType 42 = .ok (.aload_n 1, 1) := by decide +kernel
theorem dX6_readType_43 : decode cX6_readType 43 = .ok (.ifnonnull 5, 3) := by decide +kernel
theorem dX6_readType_46 : decode cX6_readType 46 = .ok (.aconst_null, 1) := by decide +kernel
theorem dX6_readType_47 : decode cX6_readType 47 = .ok (.areturn, 1) := by decide +kernel
theorem dX6_readType_48 : decode cX6_readType 48 = .ok (.aload_n 0, 1) := by decide +kernel
theorem dX6_readType_49 : decode cX6_readType 49 = .ok (.getfield 29, 3) := by decide +kernel
theorem dX6_readType_52 : decode cX6_readType 52 = .ok (.istore_n 3, 1) := by decide +kernel
theorem dX6_readType_53 : decode cX6_readType 53 = .ok (.aload_n 1, 1) := by decide +kernel
theorem dX6_readType_54 : decode cX6_readType 54 = .ok (.getstatic 122, 3) := by decide +kernel
theorem dX6_readType_57 : decode cX6_readType 57 = .ok (.if_acmp .ne 10, 3) := by decide +kernel
theorem dX6_readType_60 : decode cX6_readType 60 = .ok (.aload_n 0, 1) := by decide +kernel
theorem dX6_readType_61 : decode cX6_readType 61 = .ok (.invokevirtual 125, 3) := by decide +kernel
theorem dX6_readType_64 : decode cX6_readType 64 = .ok (.goto 4, 3) := by decide +kernel
theorem dX6_readType_67 : decode cX6_readType 67 = .ok (.aconst_null, 1) := by decide +kernel
theorem dX6_readType_68 : decode cX6_readType 68 = .ok (.astore 4, 2) := by decide +kernel
theorem dX6_readType_70 : decode cX6_readType 70 = .ok (.aload_n 1, 1) := by decide +kernel
theorem dX6_readType_71 : decode cX6_readType 71 = .ok (.getstatic 122, 3) := by decide +kernel
theorem dX6_readType_74 : decode cX6_readType 74 = .ok (.if_acmp .ne 10, 3) := by decide +kernel
theorem dX6_readType_77 : decode cX6_readType 77 = .ok (.aload 4, 2) := by decide +kernel
theorem dX6_readType_79 : decode cX6_readType 79 = .ok (.ifnonnull 5, 3) := by decide +kernel
theorem dX6_readType_82 : decode cX6_readType 82 = .ok (.aconst_null, 1) := by decide +kernel
theorem dX6_readType_83 : decode cX6_readType 83 = .ok (.areturn, 1) := by decide +kernel
theorem dX6_readType_84 : decode cX6_readType 84 = .ok (.aload_n 1, 1) := by decide +kernel
theorem dX6_readType_85 : decode cX6_readType 85 = .ok (.getstatic 129, 3) := by decide +kernel
theorem dX6_readType_88 : decode cX6_readType 88 = .ok (.if_acmp .eq 16, 3) := by decide +kernel
theorem dX6_readType_91 : decode cX6_readType 91 = .ok (.aload_n 0, 1) := by decide +kernel
theorem dX6_readType_92 : decode cX6_readType 92 = .ok (.bipush 63, 2) := by decide +kernel
theorem dX6_readType_94 : decode cX6_readType 94 = .ok (.invokevirtual 56, 3) := by decide +kernel
theorem dX6_readType_97 : decode cX6_readType 97 = .ok (.ifCond .eq 7, 3) := by decide +kernel
theorem dX6_readType_100 : decode cX6_readType 100 = .ok (.iconst 1, 1) := by decide +kernel
theorem dX6_readType_101 : decode cX6_readType 101 = .ok (.goto 4, 3) := by decide +kernel
theorem dX6_readType_104 : decode cX6_readType 104 = .ok (.iconst 0, 1) := by decide +kernel
theorem dX6_readType_105 : decode cX6_readType 105 = .ok (.istore 5, 2) := by decide +kernel
theorem dX6_readType_107 : decode cX6_readType 107 = .ok (.new 132, 3) := by decide +kernel
theorem dX6_readType_110 : decode cX6_readType 110 = .ok (.dup, 1) := by decide +kernel
theorem dX6_readType_111 : decode cX6_readType 111 = .ok (.aload_n 1, 1) := by decide +kernel
theorem dX6_readType_112 : decode cX6_readType 112 = .ok (.iload_n 3, 1) := by decide +kernel
theorem dX6_readType_113 : decode cX6_readType 113 = .ok (.iload 5, 2) := by decide +kernel
theorem dX6_readType_115 : decode cX6_readType 115 = .ok (.aload 4, 2) := by decide +kernel
theorem dX6_readType_117 : decode cX6_readType 117 = .ok (.aconst_null, 1) := by decide +kernel
theorem dX6_readType_118 : decode cX6_readType 118 = .ok (.invokespecial 134, 3) := by decide +kernel
theorem dX6_readType_121 : decode cX6_readType 121 = .ok (.astore 6, 2) := by decide +kernel
theorem dX6_readType_123 : decode cX6_readType 123 = .ok (.iload_n 2, 1) := by decide +kernel
theorem dX6_readType_124 : decode cX6_readType 124 = .ok (.ifCond .ne 6, 3) := by decide +kernel
theorem dX6_readType_127 : decode cX6_readType 127 = .ok (.aload 6, 2) := by decide +kernel
theorem dX6_readType_129 : decode cX6_readType 129 = .ok (.areturn, 1) := by decide +kernel
theorem dX6_readType_130 : decode cX6_readType 130 = .ok (.aload_n 0, 1) := by decide +kernel
theorem dX6_readType_131 : decode cX6_readType 131 = .ok (.bipush 62, 2) := by decide +kernel
theorem dX6_readType_133 : decode cX6_readType 133 = .ok (.invokevirtual 52, 3) := by decide +kernel
theorem dX6_readType_136 : decode cX6_readType 136 = .ok (.ifCond .eq 26, 3) := by decide +kernel
theorem dX6_readType_139 : decode cX6_readType 139 = .ok (.new 132, 3) := by decide +kernel
theorem dX6_readType_142 : decode cX6_readType 142 = .ok (.dup, 1) := by decide +kernel
theorem dX6_readType_143 : decode cX6_readType 143 = .ok (.getstatic 116, 3) := by decide +kernel
theorem dX6_readType_146 : decode cX6_readType 146 = .ok (.iconst 0, 1) := by decide +kernel
theorem dX6_readType_147 : decode cX6_readType 147 = .ok (.aload_n 0, 1) := by decide +kernel
theorem dX6_readType_148 : decode cX6_readType 148 = .ok (.bipush 63, 2) := by decide +kernel
theorem dX6_readType_150 : decode cX6_readType 150 = .ok (.invokevirtual 56, 3) := by decide +kernel
theorem dX6_readType_153 : decode cX6_readType 153 = .ok (.aconst_null, 1) := by decide +kernel
theorem dX6_readType_154 : decode cX6_readType 154 = .ok (.aload 6, 2) := by decide +kernel
theorem dX6_readType_156 : decode cX6_readType 156 = .ok (.invokespecial 134, 3) := by decide +kernel
theorem dX6_readType_159 : decode cX6_readType 159 = .ok (.goto 4, 3) := by decide +kernel
theorem dX6_readType_162 : decode cX6_readType 162 = .ok (.aconst_null, 1) := by decide +kernel
theorem dX6_readType_163 : decode cX6_readType 163 = .ok (.areturn, 1) := by decide +kernel
set_option maxRecDepth 20000 in
theorem ggX6_readName_X6_take : GoodIn wsX6_readName wsX6_take := goodIn_r _ [8, 2, 9, 10, 11, 7, 12, 13, 14, 102, 103, 104, 105, 106, 107, 108] rfl (by decide +kernel)
set_option maxRecDepth 20000 in
theorem gX6_readName_X6_take : GoodIn wsX6_readName (wsV RX6 56 RX6 yX6_take wsX6_take) := goodIn_app (goodIn_of _ (by decide +kernel)) ggX6_readName_X6_take
set_option maxRecDepth 20000 in
theorem ggX6_readName_X6_failAt : GoodIn wsX6_readName wsX6_failAt := goodIn_r _ [18, 19, 20, 21, 22, 7, 23, 13, 24, 25, 102, 103, 104, 105, 106, 107, 108] rfl (by decide +kernel)
set_option maxRecDepth 20000 in
theorem gX6_readName_X6_failAt : GoodIn wsX6_readName (wsV RX6 43 RX6 yX6_failAt wsX6_failAt) := goodIn_app (goodIn_of _ (by decide +kernel)) ggX6_readName_X6_failAt
set_option maxRecDepth 20000 in
theorem ggX6_readName_X6_readWord : GoodIn wsX6_readName wsX6_readWord := goodIn_r _ [29, 2, 13, 20, 21, 22, 7, 23, 24, 25, 9, 10, 11, 12, 14, 30, 31, 32, 33, 34, 35, 36, 37, 102, 103, 104, 105, 106, 107, 108] rfl (by decide +kernel)
set_option maxRecDepth 20000 in
theorem gX6_readName_X6_readWord : GoodIn wsX6_readName (wsV RX6 95 RX6 yX6_readWord wsX6_readWord) := goodIn_app (goodIn_of _ (by decide +kernel)) ggX6_readName_X6_readWord
set_option maxRecDepth 20000 in
theorem ggX6_readName_X6_nameOf : GoodIn wsX6_readName wsX6_nameOf := goodIn_r _ [40, 41, 42, 43, 32, 44, 45, 46, 47, 48, 49, 50, 51, 52, 53, 54, 55, 56, 57, 58, 59, 60, 61, 62, 63, 64, 65, 66, 67, 68, 69, 70, 71, 72, 73, 74, 75, 76, 77, 78, 79, 80, 81, 82, 83, 84, 85, 86, 87, 88, 89, 90, 91, 92, 93, 94, 35, 36, 37] rfl (by decide +kernel)
set_option maxRecDepth 20000 in
theorem gX6_readName_X6_nameOf : GoodIn wsX6_readName (va_wsS RX6 137 yX6_nameOf wsX6_nameOf) := goodIn_app (goodIn_of _ (by decide +kernel)) ggX6_readName_X6_nameOf
set_option maxRecDepth 20000 in
theorem ggX6_readName_X3_hasBounds : GoodIn wsX6_readName wsX3_hasBounds := goodIn_r _ [99, 100, 101] rfl (by decide +kernel)
set_option maxRecDepth 20000 in
theorem gX6_readName_X3_hasBounds : GoodIn wsX6_readName (wsV RX6 141 RX3 yX3_hasBounds wsX3_hasBounds) := goodIn_app (goodIn_of _ (by decide +kernel)) ggX6_readName_X3_hasBounds
theorem dX6_readName_0 : decode cX6_readName 0 = .ok (.aload_n 0, 1) := by decide +kernel
theorem dX6_readName_1 : decode cX6_readName 1 = .ok (.iconst 0, 1) := by decide +kernel
theorem dX6_readName_2 : decode cX6_readName 2 = .ok (.putfield 29, 3) := by decide +kernel
theorem dX6_readName_5 : decode cX6_readName 5 = .ok (.aload_n 0, 1) := by decide +kernel
theorem dX6_readName_6 : decode cX6_readName 6 = .ok (.bipush 91, 2) := by decide +kernel
theorem dX6_readName_8 : decode cX6_readName 8 = .ok (.invokevirtual 56, 3) := by decide +kernel
theorem dX6_readName_11 : decode cX6_readName 11 = .ok (.ifCond .eq 61, 3) := by decide +kernel
theorem dX6_readName_14 : decode cX6_readName 14 = .ok (.aload_n 0, 1) := by decide +kernel
theorem dX6_readName_15 : decode cX6_readName 15 = .ok (.aload_n 0, 1) := by decide +kernel
theorem dX6_readName_16 : decode cX6_readName 16 = .ok (.bipush 67, 2) := by decide +kernel
theorem dX6_readName_18 : decode cX6_readName 18 = .ok (.invokevirtual 56, 3) := by decide +kernel
theorem dX6_readName_21 : decode cX6_readName 21 = .ok (.ifCond .eq 7, 3) := by decide +kernel
theorem dX6_readName_24 : decode cX6_readName 24 = .ok (.iconst 1, 1) := by decide +kernel
theorem dX6_readName_25 : decode cX6_readName 25 = .ok (.goto 17, 3) := by decide +kernel
theorem dX6_readName_28 : decode cX6_readName 28 = .ok (.aload_n 0, 1) := by decide +kernel
theorem dX6_readName_29 : decode cX6_readName 29 = .ok (.bipush 69, 2) := by decide +kernel
theorem dX6_readName_31 : decode cX6_readName 31 = .ok (.invokevirtual 56, 3) := by decide +kernel
theorem dX6_readName_34 : decode cX6_readName 34 = .ok (.ifCond .eq 7, 3) := by decide +kernel
theorem dX6_readName_37 : decode cX6_readName 37 = .ok (.iconst 2, 1) := by decide +kernel
theorem dX6_readName_38 : decode cX6_readName 38 = .ok (.goto 4, 3) := by decide +kernel
theorem dX6_readName_41 : decode cX6_readName 41 = .ok (.iconst 0, 1) := by decide +kernel
theorem dX6_readName_42 : decode cX6_readName 42 = .ok (.putfield 29, 3) := by decide +kernel
theorem dX6_readName_45 : decode cX6_readName 45 = .ok (.aload_n 0, 1) := by decide +kernel
theorem dX6_readName_46 : decode cX6_readName 46 = .ok (.getfield 29, 3) := by decide +kernel
theorem dX6_readName_49 : decode cX6_readName 49 = .ok (.ifCond .eq 12, 3) := by decide +kernel
theorem dX6_readName_52 : decode cX6_readName 52 = .ok (.aload_n 0, 1) := by decide +kernel
theorem dX6_readName_53 : decode cX6_readName 53 = .ok (.bipush 93, 2) := by decide +kernel
theorem dX6_readName_55 : decode cX6_readName 55 = .ok (.invokevirtual 56, 3) := by decide +kernel
theorem dX6_readName_58 : decode cX6_readName 58 = .ok (.ifCond .ne 14, 3) := by decide +kernel
theorem dX6_readName_61 : decode cX6_readName 61 = .ok (.aload_n 0, 1) := by decide +kernel
theorem dX6_readName_62 : decode cX6_readName 62 = .ok (.aload_n 0, 1) := by decide +kernel
theorem dX6_readName_63 : decode cX6_readName 63 = .ok (.getfield 26, 3) := by decide +kernel
theorem dX6_readName_66 : decode cX6_readName 66 = .ok (.invokevirtual 43, 3) := by decide +kernel
theorem dX6_readName_69 : decode cX6_readName 69 = .ok (.pop, 1) := by decide +kernel
theorem dX6_readName_70 : decode cX6_readName 70 = .ok (.aconst_null, 1) := by decide +kernel
theorem dX6_readName_71 : decode cX6_readName 71 = .ok (.areturn, 1) := by decide +kernel
theorem dX6_readName_72 : decode cX6_readName 72 = .ok (.aload_n 0, 1) := by decide +kernel
theorem dX6_readName_73 : decode cX6_readName 73 = .ok (.getfield 26, 3) := by decide +kernel
theorem dX6_readName_76 : decode cX6_readName 76 = .ok (.istore_n 2, 1) := by decide +kernel
theorem dX6_readName_77 : decode cX6_readName 77 = .ok (.aload_n 0, 1) := by decide +kernel
theorem dX6_readName_78 : decode cX6_readName 78 = .ok (.invokevirtual 95, 3) := by decide +kernel
theorem dX6_readName_81 : decode cX6_readName 81 = .ok (.invokestatic 137, 3) := by decide +kernel
theorem dX6_readName_84 : decode cX6_readName 84 = .ok (.astore_n 3, 1) := by decide +kernel
theorem dX6_readName_85 : decode cX6_readName 85 = .ok (.aload_n 3, 1) := by decide +kernel
theorem dX6_readName_86 : decode cX6_readName 86 = .ok (.ifnull 28, 3) := by decide +kernel
theorem dX6_readName_89 : decode cX6_readName 89 = .ok (.aload_n 0, 1) := by decide +kernel
theorem dX6_readName_90 : decode cX6_readName 90 = .ok (.getfield 29, 3) := by decide +kernel
theorem dX6_readName_93 : decode cX6_readName 93 = .ok (.ifCond .eq 10, 3) := by decide +kernel
theorem dX6_readName_96 : decode cX6_readName 96 = .ok (.aload_n 3, 1) := by decide +kernel
theorem dX6_readName_97 : decode cX6_readName 97 = .ok (.invokevirtual 141, 3) := by decide +kernel
theorem dX6_readName_100 : decode cX6_readName 100 = .ok (.ifCond .eq 14, 3) := by decide +kernel
theorem dX6_readName_103 : decode cX6_readName 103 = .ok (.aload_n 3, 1) := by decide +kernel
theorem dX6_readName_104 : decode cX6_readName 104 = .ok (.getstatic 116, 3) := by decide +kernel
theorem dX6_readName_107 : decode cX6_readName 107 = .ok (.if_acmp .ne 15, 3) := by decide +kernel
theorem dX6_readName_110 : decode cX6_readName 110 = .ok (.iload_n 1, 1) := by decide +kernel
theorem dX6_readName_111 : decode cX6_readName 111 = .ok (.ifCond .ne 11, 3) := by decide +kernel
theorem dX6_readName_114 : decode cX6_readName 114 = .ok (.aload_n 0, 1) := by decide +kernel
theorem dX6_readName_115 : decode cX6_readName 115 = .ok (.iload_n 2, 1) := by decide +kernel
theorem dX6_readName_116 : decode cX6_readName 116 = .ok (.invokevirtual 43, 3) := by decide +kernel
theorem dX6_readName_119 : decode cX6_readName 119 = .ok (.pop, 1) := by decide +kernel
theorem dX6_readName_120 : decode cX6_readName 120 = .ok (.aconst_null, 1) := by decide +kernel
theorem dX6_readName_121 : decode cX6_readName 121 = .ok (.areturn, 1) := by decide +kernel
theorem dX6_readName_122 : decode cX6_readName 122 = .ok (.aload_n 3, 1) := by decide +kernel
theorem dX6_readName_123 : decode cX6_readName 123 = .ok (.areturn, 1) := by decide +kernel
set_option maxRecDepth 20000 in
theorem ggX6_nameOf_X7_codeOf : GoodIn wsX6_nameOf wsX7_codeOf := goodIn_r _ [5, 6, 7, 8, 9, 10, 11, 12, 13, 14, 15, 16, 17, 18, 19, 20, 21, 22, 23, 24, 25, 26, 27, 28, 29, 30, 31, 32, 33, 34, 35, 36, 37, 38, 39, 40, 41, 42, 43, 44, 45, 46, 47, 48, 49, 50, 51, 52, 53, 54, 55, 56, 4, 57, 58] rfl (by decide +kernel)
set_option maxRecDepth 20000 in
theorem gX6_nameOf_X7_codeOf : GoodIn wsX6_nameOf (va_wsS RX6 101 yX7_codeOf wsX7_codeOf) := goodIn_app (goodIn_of _ (by decide +kernel)) ggX6_nameOf_X7_codeOf
theorem dX6_nameOf_0 : decode cX6_nameOf 0 = .ok (.getstatic 144, 3) := by decide +kernel
theorem dX6_nameOf_3 : decode cX6_nameOf 3 = .ok (.astore_n 2, 1) := by decide +kernel
theorem dX6_nameOf_4 : decode cX6_nameOf 4 = .ok (.aload_n 2, 1) := by decide +kernel
theorem dX6_nameOf_5 : decode cX6_nameOf 5 = .ok (.arraylength, 1) := by decide +kernel
theorem dX6_nameOf_6 : decode cX6_nameOf 6 = .ok (.istore_n 3, 1) := by decide +kernel
theorem dX6_nameOf_7 : decode cX6_nameOf 7 = .ok (.iconst 0, 1) := by decide +kernel
theorem dX6_nameOf_8 : decode cX6_nameOf 8 = .ok (.istore 4, 2) := by decide +kernel
theorem dX6_nameOf_10 : decode cX6_nameOf 10 = .ok (.iload 4, 2) := by decide +kernel
theorem dX6_nameOf_12 : decode cX6_nameOf 12 = .ok (.iload_n 3, 1) := by decide +kernel
theorem dX6_nameOf_13 : decode cX6_nameOf 13 = .ok (.if_icmp .ge 36, 3) := by decide +kernel
theorem dX6_nameOf_16 : decode cX6_nameOf 16 = .ok (.aload_n 2, 1) := by decide +kernel
theorem dX6_nameOf_17 : decode cX6_nameOf 17 = .ok (.iload 4, 2) := by decide +kernel
theorem dX6_nameOf_19 : decode cX6_nameOf 19 = .ok (.aaload, 1) := by decide +kernel
theorem dX6_nameOf_20 : decode cX6_nameOf 20 = .ok (.astore 5, 2) := by decide +kernel
theorem dX6_nameOf_22 : decode cX6_nameOf 22 = .ok (.aload 5, 2) := by decide +kernel
theorem dX6_nameOf_24 : decode cX6_nameOf 24 = .ok (.ifnull 19, 3) := by decide +kernel
theorem dX6_nameOf_27 : decode cX6_nameOf 27 = .ok (.aload 5, 2) := by decide +kernel
theorem dX6_nameOf_29 : decode cX6_nameOf 29 = .ok (.getfield 148, 3) := by decide +kernel
theorem dX6_nameOf_32 : decode cX6_nameOf 32 = .ok (.invokestatic 101, 3) := by decide +kernel
theorem dX6_nameOf_35 : decode cX6_nameOf 35 = .ok (.lload_n 0, 1) := by decide +kernel
theorem dX6_nameOf_36 : decode cX6_nameOf 36 = .ok (.lcmp, 1) := by decide +kernel
theorem dX6_nameOf_37 : decode cX6_nameOf 37 = .ok (.ifCond .ne 6, 3) := by decide +kernel
theorem dX6_nameOf_40 : decode cX6_nameOf 40 = .ok (.aload 5, 2) := by decide +kernel
theorem dX6_nameOf_42 : decode cX6_nameOf 42 = .ok (.areturn, 1) := by decide +kernel
theorem dX6_nameOf_43 : decode cX6_nameOf 43 = .ok (.iinc 4 1, 3) := by decide +kernel
theorem dX6_nameOf_46 : decode cX6_nameOf 46 = .ok (.goto (-36), 3) := by decide +kernel
theorem dX6_nameOf_49 : decode cX6_nameOf 49 = .ok (.aconst_null, 1) := by decide +kernel
theorem dX6_nameOf_50 : decode cX6_nameOf 50 = .ok (.areturn, 1) := by decide +kernel
set_option maxRecDepth 20000 in
theorem ggX6_readWords_X6_need : GoodIn wsX6_readWords wsX6_need := goodIn_r _ [7, 2, 8, 9, 10, 6, 11, 12, 13, 14, 15, 16, 17, 18, 19, 20, 21, 22, 23, 24, 25, 26, 27, 28, 44, 45, 46, 47, 48, 49, 50] rfl (by decide +kernel)
set_option maxRecDepth 20000 in
theorem gX6_readWords_X6_need : GoodIn wsX6_readWords (wsV RX6 52 RX6 yX6_need wsX6_need) := goodIn_app (goodIn_of _ (by decide +kernel)) ggX6_readWords_X6_need
set_option maxRecDepth 20000 in
theorem ggX6_readWords_X6_readWord : GoodIn wsX6_readWords wsX6_readWord := goodIn_r _ [32, 2, 16, 23, 24, 25, 6, 26, 27, 28, 12, 13, 14, 15, 17, 33, 34, 35, 36, 37, 38, 39, 40, 44, 45, 46, 47, 48, 49, 50] rfl (by decide +kernel)
set_option maxRecDepth 20000 in
theorem gX6_readWords_X6_readWord : GoodIn wsX6_readWords (wsV RX6 95 RX6 yX6_readWord wsX6_readWord) := goodIn_app (goodIn_of _ (by decide +kernel)) ggX6_readWords_X6_readWord
set_option maxRecDepth 20000 in
theorem ggX6_readWords_X6_hasCode : GoodIn wsX6_readWords wsX6_hasCode := goodIn_r _ [43] rfl (by decide +kernel)
set_option maxRecDepth 20000 in
theorem gX6_readWords_X6_hasCode : GoodIn wsX6_readWords (va_wsS RX6 152 yX6_hasCode wsX6_hasCode) := goodIn_app (goodIn_of _ (by decide +kernel)) ggX6_readWords_X6_hasCode
set_option maxRecDepth 20000 in
theorem ggX6_readWords_X6_failAt : GoodIn wsX6_readWords wsX6_failAt := goodIn_r _ [21, 22, 23, 24, 25, 6, 26, 16, 27, 28, 44, 45, 46, 47, 48, 49, 50] rfl (by decide +kernel)
set_option maxRecDepth 20000 in
theorem gX6_readWords_X6_failAt : GoodIn wsX6_readWords (wsV RX6 43 RX6 yX6_failAt wsX6_failAt) := goodIn_app (goodIn_of _ (by decide +kernel)) ggX6_readWords_X6_failAt
set_option maxRecDepth 20000 in
theorem ggX6_readWords_X6_take : GoodIn wsX6_readWords wsX6_take := goodIn_r _ [11, 2, 12, 13, 14, 6, 15, 16, 17, 44, 45, 46, 47, 48, 49, 50] rfl (by decide +kernel)
set_option maxRecDepth 20000 in
theorem gX6_readWords_X6_take : GoodIn wsX6_readWords (wsV RX6 56 RX6 yX6_take wsX6_take) := goodIn_app (goodIn_of _ (by decide +kernel)) ggX6_readWords_X6_take
theorem dX6_readWords_0 : decode cX6_readWords 0 = .ok (.aload_n 0, 1) := by decide +kernel
theorem dX6_readWords_1 : decode cX6_readWords 1 = .ok (.bipush 40, 2) := by decide +kernel
theorem dX6_readWords_3 : decode cX6_readWords 3 = .ok (.invokevirtual 52, 3) := by decide +kernel
theorem dX6_readWords_6 : decode cX6_readWords 6 = .ok (.ifCond .ne 5, 3) := by decide +kernel
theorem dX6_readWords_9 : decode cX6_readWords 9 = .ok (.aconst_null, 1) := by decide +kernel
theorem dX6_readWords_10 : decode cX6_readWords 10 = .ok (.areturn, 1) := by decide +kernel
theorem dX6_readWords_11 : decode cX6_readWords 11 = .ok (.iconst 5, 1) := by decide +kernel
theorem dX6_readWords_12 : decode cX6_readWords 12 = .ok (.newarray .long, 2) := by decide +kernel
theorem dX6_readWords_14 : decode cX6_readWords 14 = .ok (.astore_n 1, 1) := by decide +kernel
theorem dX6_readWords_15 : decode cX6_readWords 15 = .ok (.iconst 0, 1) := by decide +kernel
theorem dX6_readWords_16 : decode cX6_readWords 16 = .ok (.istore_n 2, 1) := by decide +kernel
theorem dX6_readWords_17 : decode cX6_readWords 17 = .ok (.iload_n 2, 1) := by decide +kernel
theorem dX6_readWords_18 : decode cX6_readWords 18 = .ok (.aload_n 1, 1) := by decide +kernel
theorem dX6_readWords_19 : decode cX6_readWords 19 = .ok (.arraylength, 1) := by decide +kernel
theorem dX6_readWords_20 : decode cX6_readWords 20 = .ok (.if_icmp .ge 69, 3) := by decide +kernel
theorem dX6_readWords_23 : decode cX6_readWords 23 = .ok (.aload_n 0, 1) := by decide +kernel
theorem dX6_readWords_24 : decode cX6_readWords 24 = .ok (.getfield 26, 3) := by decide +kernel
theorem dX6_readWords_27 : decode cX6_readWords 27 = .ok (.istore_n 3, 1) := by decide +kernel
theorem dX6_readWords_28 : decode cX6_readWords 28 = .ok (.aload_n 0, 1) := by decide +kernel
theorem dX6_readWords_29 : decode cX6_readWords 29 = .ok (.invokevirtual 95, 3) := by decide +kernel
theorem dX6_readWords_32 : decode cX6_readWords 32 = .ok (.lstore 4, 2) := by decide +kernel
theorem dX6_readWords_34 : decode cX6_readWords 34 = .ok (.lload 4, 2) := by decide +kernel
theorem dX6_readWords_36 : decode cX6_readWords 36 = .ok (.lconst 0, 1) := by decide +kernel
theorem dX6_readWords_37 : decode cX6_readWords 37 = .ok (.lcmp, 1) := by decide +kernel
theorem dX6_readWords_38 : decode cX6_readWords 38 = .ok (.ifCond .eq 12, 3) := by decide +kernel
theorem dX6_readWords_41 : decode cX6_readWords 41 = .ok (.aload_n 1, 1) := by decide +kernel
theorem dX6_readWords_42 : decode cX6_readWords 42 = .ok (.lload 4, 2) := by decide +kernel
theorem dX6_readWords_44 : decode cX6_readWords 44 = .ok (.invokestatic 152, 3) := by decide +kernel
theorem dX6_readWords_47 : decode cX6_readWords 47 = .ok (.ifCond .eq 11, 3) := by decide +kernel
theorem dX6_readWords_50 : decode cX6_readWords 50 = .ok (.aload_n 0, 1) := by decide +kernel
theorem dX6_readWords_51 : decode cX6_readWords 51 = .ok (.iload_n 3, 1) := by decide +kernel
theorem dX6_readWords_52 : decode cX6_readWords 52 = .ok (.invokevirtual 43, 3) := by decide +kernel
theorem dX6_readWords_55 : decode cX6_readWords 55 = .ok (.pop, 1) := by decide +kernel
theorem dX6_readWords_56 : decode cX6_readWords 56 = .ok (.aconst_null, 1) := by decide +kernel
theorem dX6_readWords_57 : decode cX6_readWords 57 = .ok (.areturn, 1) := by decide +kernel
theorem dX6_readWords_58 : decode cX6_readWords 58 = .ok (.aload_n 1, 1) := by decide +kernel
theorem dX6_readWords_59 : decode cX6_readWords 59 = .ok (.iload_n 2, 1) := by decide +kernel
theorem dX6_readWords_60 : decode cX6_readWords 60 = .ok (.lload 4, 2) := by decide +kernel
theorem dX6_readWords_62 : decode cX6_readWords 62 = .ok (.lastore, 1) := by decide +kernel
theorem dX6_readWords_63 : decode cX6_readWords 63 = .ok (.iload_n 2, 1) := by decide +kernel
theorem dX6_readWords_64 : decode cX6_readWords 64 = .ok (.aload_n 1, 1) := by decide +kernel
theorem dX6_readWords_65 : decode cX6_readWords 65 = .ok (.arraylength, 1) := by decide +kernel
theorem dX6_readWords_66 : decode cX6_readWords 66 = .ok (.iconst 1, 1) := by decide +kernel
theorem dX6_readWords_67 : decode cX6_readWords 67 = .ok (.isub, 1) := by decide +kernel
theorem dX6_readWords_68 : decode cX6_readWords 68 = .ok (.if_icmp .eq 21, 3) := by decide +kernel
theorem dX6_readWords_71 : decode cX6_readWords 71 = .ok (.aload_n 0, 1) := by decide +kernel
theorem dX6_readWords_72 : decode cX6_readWords 72 = .ok (.bipush 44, 2) := by decide +kernel
theorem dX6_readWords_74 : decode cX6_readWords 74 = .ok (.invokevirtual 56, 3) := by decide +kernel
theorem dX6_readWords_77 : decode cX6_readWords 77 = .ok (.ifCond .ne 6, 3) := by decide +kernel
theorem dX6_readWords_80 : decode cX6_readWords 80 = .ok (.goto 9, 3) := by decide +kernel
theorem dX6_readWords_83 : decode cX6_readWords 83 = .ok (.iinc 2 1, 3) := by decide +kernel
theorem dX6_readWords_86 : decode cX6_readWords 86 = .ok (.goto (-69), 3) := by decide +kernel
theorem dX6_readWords_89 : decode cX6_readWords 89 = .ok (.aload_n 0, 1) := by decide +kernel
theorem dX6_readWords_90 : decode cX6_readWords 90 = .ok (.bipush 41, 2) := by decide +kernel
theorem dX6_readWords_92 : decode cX6_readWords 92 = .ok (.invokevirtual 52, 3) := by decide +kernel
theorem dX6_readWords_95 : decode cX6_readWords 95 = .ok (.ifCond .eq 7, 3) := by decide +kernel
theorem dX6_readWords_98 : decode cX6_readWords 98 = .ok (.aload_n 1, 1) := by decide +kernel
theorem dX6_readWords_99 : decode cX6_readWords 99 = .ok (.goto 4, 3) := by decide +kernel
theorem dX6_readWords_102 : decode cX6_readWords 102 = .ok (.aconst_null, 1) := by decide +kernel
theorem dX6_readWords_103 : decode cX6_readWords 103 = .ok (.areturn, 1) := by decide +kernel
theorem dX6_hasCode_0 : decode cX6_hasCode 0 = .ok (.aload_n 0, 1) := by decide +kernel
theorem dX6_hasCode_1 : decode cX6_hasCode 1 = .ok (.astore_n 3, 1) := by decide +kernel
theorem dX6_hasCode_2 : decode cX6_hasCode 2 = .ok (.aload_n 3, 1) := by decide +kernel
theorem dX6_hasCode_3 : decode cX6_hasCode 3 = .ok (.arraylength, 1) := by decide +kernel
theorem dX6_hasCode_4 : decode cX6_hasCode 4 = .ok (.istore 4, 2) := by decide +kernel
theorem dX6_hasCode_6 : decode cX6_hasCode 6 = .ok (.iconst 0, 1) := by decide +kernel
theorem dX6_hasCode_7 : decode cX6_hasCode 7 = .ok (.istore 5, 2) := by decide +kernel
theorem dX6_hasCode_9 : decode cX6_hasCode 9 = .ok (.iload 5, 2) := by decide +kernel
theorem dX6_hasCode_11 : decode cX6_hasCode 11 = .ok (.iload 4, 2) := by decide +kernel
theorem dX6_hasCode_13 : decode cX6_hasCode 13 = .ok (.if_icmp .ge 24, 3) := by decide +kernel
theorem dX6_hasCode_16 : decode cX6_hasCode 16 = .ok (.aload_n 3, 1) := by decide +kernel
theorem dX6_hasCode_17 : decode cX6_hasCode 17 = .ok (.iload 5, 2) := by decide +kernel
theorem dX6_hasCode_19 : decode cX6_hasCode 19 = .ok (.laload, 1) := by decide +kernel
theorem dX6_hasCode_20 : decode cX6_hasCode 20 = .ok (.lstore 6, 2) := by decide +kernel
theorem dX6_hasCode_22 : decode cX6_hasCode 22 = .ok (.lload 6, 2) := by decide +kernel
theorem dX6_hasCode_24 : decode cX6_hasCode 24 = .ok (.lload_n 1, 1) := by decide +kernel
theorem dX6_hasCode_25 : decode cX6_hasCode 25 = .ok (.lcmp, 1) := by decide +kernel
theorem dX6_hasCode_26 : decode cX6_hasCode 26 = .ok (.ifCond .ne 5, 3) := by decide +kernel
theorem dX6_hasCode_29 : decode cX6_hasCode 29 = .ok (.iconst 1, 1) := by decide +kernel
theorem dX6_hasCode_30 : decode cX6_hasCode 30 = .ok (.ireturn, 1) := by decide +kernel
theorem dX6_hasCode_31 : decode cX6_hasCode 31 = .ok (.iinc 5 1, 3) := by decide +kernel
theorem dX6_hasCode_34 : decode cX6_hasCode 34 = .ok (.goto (-25), 3) := by decide +kernel
theorem dX6_hasCode_37 : decode cX6_hasCode 37 = .ok (.iconst 0, 1) := by decide +kernel
theorem dX6_hasCode_38 : decode cX6_hasCode 38 = .ok (.ireturn, 1) := by decide +kernel
theorem dX7_init_0 : decode cX7_init 0 = .ok (.aload_n 0, 1) := by decide +kernel
theorem dX7_init_1 : decode cX7_init 1 = .ok (.invokespecial 3, 3) := by decide +kernel
theorem dX7_init_4 : decode cX7_init 4 = .ok (.aload_n 0, 1) := by decide +kernel
theorem dX7_init_5 : decode cX7_init 5 = .ok (.iconst 0, 1) := by decide +kernel
theorem dX7_init_6 : decode cX7_init 6 = .ok (.putfield 9, 3) := by decide +kernel
theorem dX7_init_9 : decode cX7_init 9 = .ok (.aload_n 0, 1) := by decide +kernel
theorem dX7_init_10 : decode cX7_init 10 = .ok (.iload_n 1, 1) := by decide +kernel
theorem dX7_init_11 : decode cX7_init 11 = .ok (.iconst 0, 1) := by decide +kernel
theorem dX7_init_12 : decode cX7_init 12 = .ok (.invokestatic 15, 3) := by decide +kernel
theorem dX7_init_15 : decode cX7_init 15 = .ok (.newarray .char, 2) := by decide +kernel
theorem dX7_init_17 : decode cX7_init 17 = .ok (.putfield 21, 3) := by decide +kernel
theorem dX7_init_20 : decode cX7_init 20 = .ok (.return_, 1) := by decide +kernel
theorem dX7_signsIn_0 : decode cX7_signsIn 0 = .ok (.iconst 0, 1) := by decide +kernel
theorem dX7_signsIn_1 : decode cX7_signsIn 1 = .ok (.istore_n 1, 1) := by decide +kernel
theorem dX7_signsIn_2 : decode cX7_signsIn 2 = .ok (.bipush 24, 2) := by decide +kernel
theorem dX7_signsIn_4 : decode cX7_signsIn 4 = .ok (.istore_n 2, 1) := by decide +kernel
theorem dX7_signsIn_5 : decode cX7_signsIn 5 = .ok (.iload_n 2, 1) := by decide +kernel
theorem dX7_signsIn_6 : decode cX7_signsIn 6 = .ok (.ifCond .lt 22, 3) := by decide +kernel
theorem dX7_signsIn_9 : decode cX7_signsIn 9 = .ok (.iload_n 0, 1) := by decide +kernel
theorem dX7_signsIn_10 : decode cX7_signsIn 10 = .ok (.iload_n 2, 1) := by decide +kernel
theorem dX7_signsIn_11 : decode cX7_signsIn 11 = .ok (.iushr, 1) := by decide +kernel
theorem dX7_signsIn_12 : decode cX7_signsIn 12 = .ok (.sipush 255, 3) := by decide +kernel
theorem dX7_signsIn_15 : decode cX7_signsIn 15 = .ok (.iand, 1) := by decide +kernel
theorem dX7_signsIn_16 : decode cX7_signsIn 16 = .ok (.ifCond .eq 6, 3) := by decide +kernel
theorem dX7_signsIn_19 : decode cX7_signsIn 19 = .ok (.iinc 1 1, 3) := by decide +kernel
theorem dX7_signsIn_22 : decode cX7_signsIn 22 = .ok (.iinc 2 (-8), 3) := by decide +kernel
theorem dX7_signsIn_25 : decode cX7_signsIn 25 = .ok (.goto (-20), 3) := by decide +kernel
theorem dX7_signsIn_28 : decode cX7_signsIn 28 = .ok (.iload_n 1, 1) := by decide +kernel
theorem dX7_signsIn_29 : decode cX7_signsIn 29 = .ok (.ireturn, 1) := by decide +kernel
theorem dX7_at_0 : decode cX7_at 0 = .ok (.iload_n 1, 1) := by decide +kernel
theorem dX7_at_1 : decode cX7_at 1 = .ok (.ifCond .lt 29, 3) := by decide +kernel
theorem dX7_at_4 : decode cX7_at 4 = .ok (.iload_n 1, 1) := by decide +kernel
theorem dX7_at_5 : decode cX7_at 5 = .ok (.aload_n 0, 1) := by decide +kernel
theorem dX7_at_6 : decode cX7_at 6 = .ok (.getfield 9, 3) := by decide +kernel
theorem dX7_at_9 : decode cX7_at 9 = .ok (.if_icmp .ge 21, 3) := by decide +kernel
theorem dX7_at_12 : decode cX7_at 12 = .ok (.iload_n 1, 1) := by decide +kernel
theorem dX7_at_13 : decode cX7_at 13 = .ok (.aload_n 0, 1) := by decide +kernel
theorem dX7_at_14 : decode cX7_at 14 = .ok (.getfield 21, 3) := by decide +kernel
theorem dX7_at_17 : decode cX7_at 17 = .ok (.arraylength, 1) := by decide +kernel
theorem dX7_at_18 : decode cX7_at 18 = .ok (.if_icmp .ge 12, 3) := by decide +kernel
theorem dX7_at_21 : decode cX7_at 21 = .ok (.aload_n 0, 1) := by decide +kernel
theorem dX7_at_22 : decode cX7_at 22 = .ok (.getfield 21, 3) := by decide +kernel
theorem dX7_at_25 : decode cX7_at 25 = .ok (.iload_n 1, 1) := by decide +kernel
theorem dX7_at_26 : decode cX7_at 26 = .ok (.caload, 1) := by decide +kernel
theorem dX7_at_27 : decode cX7_at 27 = .ok (.goto 4, 3) := by decide +kernel
theorem dX7_at_30 : decode cX7_at 30 = .ok (.iconst 0, 1) := by decide +kernel
theorem dX7_at_31 : decode cX7_at 31 = .ok (.ireturn, 1) := by decide +kernel
theorem dX7_append_0 : decode cX7_append 0 = .ok (.aload_n 0, 1) := by decide +kernel
theorem dX7_append_1 : decode cX7_append 1 = .ok (.getfield 9, 3) := by decide +kernel
theorem dX7_append_4 : decode cX7_append 4 = .ok (.ifCond .lt 35, 3) := by decide +kernel
theorem dX7_append_7 : decode cX7_append 7 = .ok (.aload_n 0, 1) := by decide +kernel
theorem dX7_append_8 : decode cX7_append 8 = .ok (.getfield 9, 3) := by decide +kernel
theorem dX7_append_11 : decode cX7_append 11 = .ok (.aload_n 0, 1) := by decide +kernel
theorem dX7_append_12 : decode cX7_append 12 = .ok (.getfield 21, 3) := by decide +kernel
theorem dX7_append_15 : decode cX7_append 15 = .ok (.arraylength, 1) := by decide +kernel
theorem dX7_append_16 : decode cX7_append 16 = .ok (.if_icmp .ge 23, 3) := by decide +kernel
theorem dX7_append_19 : decode cX7_append 19 = .ok (.aload_n 0, 1) := by decide +kernel
theorem dX7_append_20 : decode cX7_append 20 = .ok (.getfield 21, 3) := by decide +kernel
theorem dX7_append_23 : decode cX7_append 23 = .ok (.aload_n 0, 1) := by decide +kernel
theorem dX7_append_24 : decode cX7_append 24 = .ok (.getfield 9, 3) := by decide +kernel
theorem dX7_append_27 : decode cX7_append 27 = .ok (.iload_n 1, 1) := by decide +kernel
theorem dX7_append_28 : decode cX7_append 28 = .ok (.castore, 1) := by decide +kernel
theorem dX7_append_29 : decode cX7_append 29 = .ok (.aload_n 0, 1) := by decide +kernel
theorem dX7_append_30 : decode cX7_append 30 = .ok (.dup, 1) := by decide +kernel
theorem dX7_append_31 : decode cX7_append 31 = .ok (.getfield 9, 3) := by decide +kernel
theorem dX7_append_34 : decode cX7_append 34 = .ok (.iconst 1, 1) := by decide +kernel
theorem dX7_append_35 : decode cX7_append 35 = .ok (.iadd, 1) := by decide +kernel
theorem dX7_append_36 : decode cX7_append 36 = .ok (.putfield 9, 3) := by decide +kernel
theorem dX7_append_39 : decode cX7_append 39 = .ok (.return_, 1) := by decide +kernel
set_option maxRecDepth 20000 in
theorem ggX7_appendSigns_X7_append : GoodIn wsX7_appendSigns wsX7_append := goodIn_r _ [5, 6, 7, 8, 9] rfl (by decide +kernel)
set_option maxRecDepth 20000 in
theorem gX7_appendSigns_X7_append : GoodIn wsX7_appendSigns (wsV RX7 25 RX7 yX7_append wsX7_append) := goodIn_app (goodIn_of _ (by decide +kernel)) ggX7_appendSigns_X7_append
theorem dX7_appendSigns_0 : decode cX7_appendSigns 0 = .ok (.bipush 24, 2) := by decide +kernel
theorem dX7_appendSigns_2 : decode cX7_appendSigns 2 = .ok (.istore_n 2, 1) := by decide +kernel
theorem dX7_appendSigns_3 : decode cX7_appendSigns 3 = .ok (.iload_n 2, 1) := by decide +kernel
theorem dX7_appendSigns_4 : decode cX7_appendSigns 4 = .ok (.ifCond .lt 27, 3) := by decide +kernel
theorem dX7_appendSigns_7 : decode cX7_appendSigns 7 = .ok (.iload_n 1, 1) := by decide +kernel
theorem dX7_appendSigns_8 : decode cX7_appendSigns 8 = .ok (.iload_n 2, 1) := by decide +kernel
theorem dX7_appendSigns_9 : decode cX7_appendSigns 9 = .ok (.iushr, 1) := by decide +kernel
theorem dX7_appendSigns_10 : decode cX7_appendSigns 10 = .ok (.sipush 255, 3) := by decide +kernel
theorem dX7_appendSigns_13 : decode cX7_appendSigns 13 = .ok (.iand, 1) := by decide +kernel
theorem dX7_appendSigns_14 : decode cX7_appendSigns 14 = .ok (.istore_n 3, 1) := by decide +kernel
theorem dX7_appendSigns_15 : decode cX7_appendSigns 15 = .ok (.iload_n 3, 1) := by decide +kernel
theorem dX7_appendSigns_16 : decode cX7_appendSigns 16 = .ok (.ifCond .eq 9, 3) := by decide +kernel
theorem dX7_appendSigns_19 : decode cX7_appendSigns 19 = .ok (.aload_n 0, 1) := by decide +kernel
theorem dX7_appendSigns_20 : decode cX7_appendSigns 20 = .ok (.iload_n 3, 1) := by decide +kernel
theorem dX7_appendSigns_21 : decode cX7_appendSigns 21 = .ok (.i2c, 1) := by decide +kernel
theorem dX7_appendSigns_22 : decode cX7_appendSigns 22 = .ok (.invokevirtual 25, 3) := by decide +kernel
theorem dX7_appendSigns_25 : decode cX7_appendSigns 25 = .ok (.iinc 2 (-8), 3) := by decide +kernel
theorem dX7_appendSigns_28 : decode cX7_appendSigns 28 = .ok (.goto (-25), 3) := by decide +kernel
theorem dX7_appendSigns_31 : decode cX7_appendSigns 31 = .ok (.return_, 1) := by decide +kernel
theorem dX7_copy_0 : decode cX7_copy 0 = .ok (.aload_n 0, 1) := by decide +kernel
theorem dX7_copy_1 : decode cX7_copy 1 = .ok (.iconst 0, 1) := by decide +kernel
theorem dX7_copy_2 : decode cX7_copy 2 = .ok (.putfield 9, 3) := by decide +kernel
theorem dX7_copy_5 : decode cX7_copy 5 = .ok (.iconst 0, 1) := by decide +kernel
theorem dX7_copy_6 : decode cX7_copy 6 = .ok (.istore_n 2, 1) := by decide +kernel
theorem dX7_copy_7 : decode cX7_copy 7 = .ok (.iload_n 2, 1) := by decide +kernel
theorem dX7_copy_8 : decode cX7_copy 8 = .ok (.aload_n 1, 1) := by decide +kernel
theorem dX7_copy_9 : decode cX7_copy 9 = .ok (.getfield 9, 3) := by decide +kernel
theorem dX7_copy_12 : decode cX7_copy 12 = .ok (.if_icmp .ge 49, 3) := by decide +kernel
theorem dX7_copy_15 : decode cX7_copy 15 = .ok (.iload_n 2, 1) := by decide +kernel
theorem dX7_copy_16 : decode cX7_copy 16 = .ok (.aload_n 1, 1) := by decide +kernel
theorem dX7_copy_17 : decode cX7_copy 17 = .ok (.getfield 21, 3) := by decide +kernel
theorem dX7_copy_20 : decode cX7_copy 20 = .ok (.arraylength, 1) := by decide +kernel
theorem dX7_copy_21 : decode cX7_copy 21 = .ok (.if_icmp .ge 40, 3) := by decide +kernel
theorem dX7_copy_24 : decode cX7_copy 24 = .ok (.iload_n 2, 1) := by decide +kernel
theorem dX7_copy_25 : decode cX7_copy 25 = .ok (.aload_n 0, 1) := by decide +kernel
theorem dX7_copy_26 : decode cX7_copy 26 = .ok (.getfield 21, 3) := by decide +kernel
theorem dX7_copy_29 : decode cX7_copy 29 = .ok (.arraylength, 1) := by decide +kernel
theorem dX7_copy_30 : decode cX7_copy 30 = .ok (.if_icmp .ge 31, 3) := by decide +kernel
theorem dX7_copy_33 : decode cX7_copy 33 = .ok (.aload_n 0, 1) := by decide +kernel
theorem dX7_copy_34 : decode cX7_copy 34 = .ok (.getfield 21, 3) := by decide +kernel
theorem dX7_copy_37 : decode cX7_copy 37 = .ok (.iload_n 2, 1) := by decide +kernel
theorem dX7_copy_38 : decode cX7_copy 38 = .ok (.aload_n 1, 1) := by decide +kernel
theorem dX7_copy_39 : decode cX7_copy 39 = .ok (.getfield 21, 3) := by decide +kernel
theorem dX7_copy_42 : decode cX7_copy 42 = .ok (.iload_n 2, 1) := by decide +kernel
theorem dX7_copy_43 : decode cX7_copy 43 = .ok (.caload, 1) := by decide +kernel
theorem dX7_copy_44 : decode cX7_copy 44 = .ok (.castore, 1) := by decide +kernel
theorem dX7_copy_45 : decode cX7_copy 45 = .ok (.aload_n 0, 1) := by decide +kernel
theorem dX7_copy_46 : decode cX7_copy 46 = .ok (.dup, 1) := by decide +kernel
theorem dX7_copy_47 : decode cX7_copy 47 = .ok (.getfield 9, 3) := by decide +kernel
theorem dX7_copy_50 : decode cX7_copy 50 = .ok (.iconst 1, 1) := by decide +kernel
theorem dX7_copy_51 : decode cX7_copy 51 = .ok (.iadd, 1) := by decide +kernel
theorem dX7_copy_52 : decode cX7_copy 52 = .ok (.putfield 9, 3) := by decide +kernel
theorem dX7_copy_55 : decode cX7_copy 55 = .ok (.iinc 2 1, 3) := by decide +kernel
theorem dX7_copy_58 : decode cX7_copy 58 = .ok (.goto (-51), 3) := by decide +kernel
theorem dX7_copy_61 : decode cX7_copy 61 = .ok (.return_, 1) := by decide +kernel
set_option maxRecDepth 20000 in
theorem ggX7_appendLetters_J0_length_8abf5 : GoodIn wsX7_appendLetters wsJ0_length_8abf5 := goodIn_r _ [5, 6, 7, 8, 9, 4, 10, 11, 12] rfl (by decide +kernel)
set_option maxRecDepth 20000 in
theorem gX7_appendLetters_J0_length_8abf5 : GoodIn wsX7_appendLetters (wsV RX7 29 RJ0 yJ0_length_8abf5 wsJ0_length_8abf5) := goodIn_app (goodIn_of _ (by decide +kernel)) ggX7_appendLetters_J0_length_8abf5
set_option maxRecDepth 20000 in
theorem ggX7_appendLetters_J0_charAt_5068e : GoodIn wsX7_appendLetters wsJ0_charAt_5068e := goodIn_r _ [16, 6, 17, 18, 19, 4, 20, 11, 12, 21, 22, 23, 24, 25, 26, 27, 28, 29, 30, 31, 32, 33, 34, 35, 36, 37, 38, 39, 40, 41, 42, 43, 44, 45, 46, 47, 48, 49] rfl (by decide +kernel)
set_option maxRecDepth 20000 in
theorem gX7_appendLetters_J0_charAt_5068e : GoodIn wsX7_appendLetters (wsV RX7 34 RJ0 yJ0_charAt_5068e wsJ0_charAt_5068e) := goodIn_app (goodIn_of _ (by decide +kernel)) ggX7_appendLetters_J0_charAt_5068e
set_option maxRecDepth 20000 in
theorem ggX7_appendLetters_X7_append : GoodIn wsX7_appendLetters wsX7_append := goodIn_r _ [54, 55, 56, 57, 58] rfl (by decide +kernel)
set_option maxRecDepth 20000 in
theorem gX7_appendLetters_X7_append : GoodIn wsX7_appendLetters (wsV RX7 25 RX7 yX7_append wsX7_append) := goodIn_app (goodIn_of _ (by decide +kernel)) ggX7_appendLetters_X7_append
theorem dX7_appendLetters_0 : decode cX7_appendLetters 0 = .ok (.iconst 0, 1) := by decide +kernel
theorem dX7_appendLetters_1 : decode cX7_appendLetters 1 = .ok (.istore_n 2, 1) := by decide +kernel
theorem dX7_appendLetters_2 : decode cX7_appendLetters 2 = .ok (.iload_n 2, 1) := by decide +kernel
theorem dX7_appendLetters_3 : decode cX7_appendLetters 3 = .ok (.aload_n 1, 1) := by decide +kernel
theorem dX7_appendLetters_4 : decode cX7_appendLetters 4 = .ok (.invokevirtual 29, 3) := by decide +kernel
theorem dX7_appendLetters_7 : decode cX7_appendLetters 7 = .ok (.if_icmp .ge 18, 3) := by decide +kernel
theorem dX7_appendLetters_10 : decode cX7_appendLetters 10 = .ok (.aload_n 0, 1) := by decide +kernel
theorem dX7_appendLetters_11 : decode cX7_appendLetters 11 = .ok (.aload_n 1, 1) := by decide +kernel
theorem dX7_appendLetters_12 : decode cX7_appendLetters 12 = .ok (.iload_n 2, 1) := by decide +kernel
theorem dX7_appendLetters_13 : decode cX7_appendLetters 13 = .ok (.invokevirtual 34, 3) := by decide +kernel
theorem dX7_appendLetters_16 : decode cX7_appendLetters 16 = .ok (.invokevirtual 25, 3) := by decide +kernel
theorem dX7_appendLetters_19 : decode cX7_appendLetters 19 = .ok (.iinc 2 1, 3) := by decide +kernel
theorem dX7_appendLetters_22 : decode cX7_appendLetters 22 = .ok (.goto (-20), 3) := by decide +kernel
theorem dX7_appendLetters_25 : decode cX7_appendLetters 25 = .ok (.return_, 1) := by decide +kernel
set_option maxRecDepth 20000 in
theorem ggX7_appendNumber_X7_append : GoodIn wsX7_appendNumber wsX7_append := goodIn_r _ [11, 12, 13, 19, 20] rfl (by decide +kernel)
set_option maxRecDepth 20000 in
theorem gX7_appendNumber_X7_append : GoodIn wsX7_appendNumber (wsV RX7 25 RX7 yX7_append wsX7_append) := goodIn_app (goodIn_of _ (by decide +kernel)) ggX7_appendNumber_X7_append
set_option maxRecDepth 20000 in
theorem ggX7_appendNumber_X7_appendDigits : GoodIn wsX7_appendNumber wsX7_appendDigits := goodIn_r _ [17, 18, 6, 4, 7, 8, 9, 10, 11, 12, 13, 19, 20] rfl (by decide +kernel)
set_option maxRecDepth 20000 in
theorem gX7_appendNumber_X7_appendDigits : GoodIn wsX7_appendNumber (wsV RX7 40 RX7 yX7_appendDigits wsX7_appendDigits) := goodIn_app (goodIn_of _ (by decide +kernel)) ggX7_appendNumber_X7_appendDigits
theorem dX7_appendNumber_0 : decode cX7_appendNumber 0 = .ok (.dload_n 1, 1) := by decide +kernel
theorem dX7_appendNumber_1 : decode cX7_appendNumber 1 = .ok (.dconst 0, 1) := by decide +kernel
theorem dX7_appendNumber_2 : decode cX7_appendNumber 2 = .ok (.dcmp .g, 1) := by decide +kernel
theorem dX7_appendNumber_3 : decode cX7_appendNumber 3 = .ok (.ifCond .ge 9, 3) := by decide +kernel
theorem dX7_appendNumber_6 : decode cX7_appendNumber 6 = .ok (.aload_n 0, 1) := by decide +kernel
theorem dX7_appendNumber_7 : decode cX7_appendNumber 7 = .ok (.bipush 45, 2) := by decide +kernel
theorem dX7_appendNumber_9 : decode cX7_appendNumber 9 = .ok (.invokevirtual 25, 3) := by decide +kernel
theorem dX7_appendNumber_12 : decode cX7_appendNumber 12 = .ok (.dload_n 1, 1) := by decide +kernel
theorem dX7_appendNumber_13 : decode cX7_appendNumber 13 = .ok (.dconst 0, 1) := by decide +kernel
theorem dX7_appendNumber_14 : decode cX7_appendNumber 14 = .ok (.dcmp .g, 1) := by decide +kernel
theorem dX7_appendNumber_15 : decode cX7_appendNumber 15 = .ok (.ifCond .ge 8, 3) := by decide +kernel
theorem dX7_appendNumber_18 : decode cX7_appendNumber 18 = .ok (.dload_n 1, 1) := by decide +kernel
theorem dX7_appendNumber_19 : decode cX7_appendNumber 19 = .ok (.dneg, 1) := by decide +kernel
theorem dX7_appendNumber_20 : decode cX7_appendNumber 20 = .ok (.goto 4, 3) := by decide +kernel
theorem dX7_appendNumber_23 : decode cX7_appendNumber 23 = .ok (.dload_n 1, 1) := by decide +kernel
theorem dX7_appendNumber_24 : decode cX7_appendNumber 24 = .ok (.ldc2_w 38, 3) := by decide +kernel
theorem dX7_appendNumber_27 : decode cX7_appendNumber 27 = .ok (.dmul, 1) := by decide +kernel
theorem dX7_appendNumber_28 : decode cX7_appendNumber 28 = .ok (.d2l, 1) := by decide +kernel
theorem dX7_appendNumber_29 : decode cX7_appendNumber 29 = .ok (.lstore_n 3, 1) := by decide +kernel
theorem dX7_appendNumber_30 : decode cX7_appendNumber 30 = .ok (.aload_n 0, 1) := by decide +kernel
theorem dX7_appendNumber_31 : decode cX7_appendNumber 31 = .ok (.lload_n 3, 1) := by decide +kernel
theorem dX7_appendNumber_32 : decode cX7_appendNumber 32 = .ok (.iconst 3, 1) := by decide +kernel
theorem dX7_appendNumber_33 : decode cX7_appendNumber 33 = .ok (.lshr, 1) := by decide +kernel
theorem dX7_appendNumber_34 : decode cX7_appendNumber 34 = .ok (.invokevirtual 40, 3) := by decide +kernel
theorem dX7_appendNumber_37 : decode cX7_appendNumber 37 = .ok (.lload_n 3, 1) := by decide +kernel
theorem dX7_appendNumber_38 : decode cX7_appendNumber 38 = .ok (.ldc2_w 44, 3) := by decide +kernel
theorem dX7_appendNumber_41 : decode cX7_appendNumber 41 = .ok (.land, 1) := by decide +kernel
theorem dX7_appendNumber_42 : decode cX7_appendNumber 42 = .ok (.ldc2_w 46, 3) := by decide +kernel
theorem dX7_appendNumber_45 : decode cX7_appendNumber 45 = .ok (.lmul, 1) := by decide +kernel
theorem dX7_appendNumber_46 : decode cX7_appendNumber 46 = .ok (.lstore 5, 2) := by decide +kernel
theorem dX7_appendNumber_48 : decode cX7_appendNumber 48 = .ok (.lload 5, 2) := by decide +kernel
theorem dX7_appendNumber_50 : decode cX7_appendNumber 50 = .ok (.lconst 0, 1) := by decide +kernel
theorem dX7_appendNumber_51 : decode cX7_appendNumber 51 = .ok (.lcmp, 1) := by decide +kernel
theorem dX7_appendNumber_52 : decode cX7_appendNumber 52 = .ok (.ifCond .eq 9, 3) := by decide +kernel
theorem dX7_appendNumber_55 : decode cX7_appendNumber 55 = .ok (.aload_n 0, 1) := by decide +kernel
theorem dX7_appendNumber_56 : decode cX7_appendNumber 56 = .ok (.bipush 46, 2) := by decide +kernel
theorem dX7_appendNumber_58 : decode cX7_appendNumber 58 = .ok (.invokevirtual 25, 3) := by decide +kernel
theorem dX7_appendNumber_61 : decode cX7_appendNumber 61 = .ok (.iconst 0, 1) := by decide +kernel
theorem dX7_appendNumber_62 : decode cX7_appendNumber 62 = .ok (.istore 7, 2) := by decide +kernel
theorem dX7_appendNumber_64 : decode cX7_appendNumber 64 = .ok (.iload 7, 2) := by decide +kernel
theorem dX7_appendNumber_66 : decode cX7_appendNumber 66 = .ok (.iconst 3, 1) := by decide +kernel
theorem dX7_appendNumber_67 : decode cX7_appendNumber 67 = .ok (.if_icmp .ge 44, 3) := by decide +kernel
theorem dX7_appendNumber_70 : decode cX7_appendNumber 70 = .ok (.lload 5, 2) := by decide +kernel
theorem dX7_appendNumber_72 : decode cX7_appendNumber 72 = .ok (.lconst 0, 1) := by decide +kernel
theorem dX7_appendNumber_73 : decode cX7_appendNumber 73 = .ok (.lcmp, 1) := by decide +kernel
theorem dX7_appendNumber_74 : decode cX7_appendNumber 74 = .ok (.ifCond .eq 37, 3) := by decide +kernel
theorem dX7_appendNumber_77 : decode cX7_appendNumber 77 = .ok (.aload_n 0, 1) := by decide +kernel
theorem dX7_appendNumber_78 : decode cX7_appendNumber 78 = .ok (.ldc2_w 48, 3) := by decide +kernel
theorem dX7_appendNumber_81 : decode cX7_appendNumber 81 = .ok (.lload 5, 2) := by decide +kernel
theorem dX7_appendNumber_83 : decode cX7_appendNumber 83 = .ok (.ldc2_w 50, 3) := by decide +kernel
theorem dX7_appendNumber_86 : decode cX7_appendNumber 86 = .ok (.ldiv, 1) := by decide +kernel
theorem dX7_appendNumber_87 : decode cX7_appendNumber 87 = .ok (.ladd, 1) := by decide +kernel
theorem dX7_appendNumber_88 : decode cX7_appendNumber 88 = .ok (.l2i, 1) := by decide +kernel
theorem dX7_appendNumber_89 : decode cX7_appendNumber 89 = .ok (.i2c, 1) := by decide +kernel
theorem dX7_appendNumber_90 : decode cX7_appendNumber 90 = .ok (.invokevirtual 25, 3) := by decide +kernel
theorem dX7_appendNumber_93 : decode cX7_appendNumber 93 = .ok (.lload 5, 2) := by decide +kernel
theorem dX7_appendNumber_95 : decode cX7_appendNumber 95 = .ok (.ldc2_w 50, 3) := by decide +kernel
theorem dX7_appendNumber_98 : decode cX7_appendNumber 98 = .ok (.lrem, 1) := by decide +kernel
theorem dX7_appendNumber_99 : decode cX7_appendNumber 99 = .ok (.ldc2_w 52, 3) := by decide +kernel
theorem dX7_appendNumber_102 : decode cX7_appendNumber 102 = .ok (.lmul, 1) := by decide +kernel
theorem dX7_appendNumber_103 : decode cX7_appendNumber 103 = .ok (.lstore 5, 2) := by decide +kernel
theorem dX7_appendNumber_105 : decode cX7_appendNumber 105 = .ok (.iinc 7 1, 3) := by decide +kernel
theorem dX7_appendNumber_108 : decode cX7_appendNumber 108 = .ok (.goto (-44), 3) := by decide +kernel
theorem dX7_appendNumber_111 : decode cX7_appendNumber 111 = .ok (.return_, 1) := by decide +kernel
set_option maxRecDepth 20000 in
theorem ggX7_appendDigits_X7_append : GoodIn wsX7_appendDigits wsX7_append := goodIn_r _ [8, 9, 10, 11, 12] rfl (by decide +kernel)
set_option maxRecDepth 20000 in
theorem gX7_appendDigits_X7_append : GoodIn wsX7_appendDigits (wsV RX7 25 RX7 yX7_append wsX7_append) := goodIn_app (goodIn_of _ (by decide +kernel)) ggX7_appendDigits_X7_append
theorem dX7_appendDigits_0 : decode cX7_appendDigits 0 = .ok (.iconst 0, 1) := by decide +kernel
theorem dX7_appendDigits_1 : decode cX7_appendDigits 1 = .ok (.istore_n 3, 1) := by decide +kernel
theorem dX7_appendDigits_2 : decode cX7_appendDigits 2 = .ok (.ldc2_w 54, 3) := by decide +kernel
theorem dX7_appendDigits_5 : decode cX7_appendDigits 5 = .ok (.lstore 4, 2) := by decide +kernel
theorem dX7_appendDigits_7 : decode cX7_appendDigits 7 = .ok (.lload 4, 2) := by decide +kernel
theorem dX7_appendDigits_9 : decode cX7_appendDigits 9 = .ok (.lconst 0, 1) := by decide +kernel
theorem dX7_appendDigits_10 : decode cX7_appendDigits 10 = .ok (.lcmp, 1) := by decide +kernel
theorem dX7_appendDigits_11 : decode cX7_appendDigits 11 = .ok (.ifCond .le 64, 3) := by decide +kernel
theorem dX7_appendDigits_14 : decode cX7_appendDigits 14 = .ok (.lload_n 1, 1) := by decide +kernel
theorem dX7_appendDigits_15 : decode cX7_appendDigits 15 = .ok (.lload 4, 2) := by decide +kernel
theorem dX7_appendDigits_17 : decode cX7_appendDigits 17 = .ok (.ldiv, 1) := by decide +kernel
theorem dX7_appendDigits_18 : decode cX7_appendDigits 18 = .ok (.ldc2_w 52, 3) := by decide +kernel
theorem dX7_appendDigits_21 : decode cX7_appendDigits 21 = .ok (.lrem, 1) := by decide +kernel
theorem dX7_appendDigits_22 : decode cX7_appendDigits 22 = .ok (.lstore 6, 2) := by decide +kernel
theorem dX7_appendDigits_24 : decode cX7_appendDigits 24 = .ok (.iload_n 3, 1) := by decide +kernel
theorem dX7_appendDigits_25 : decode cX7_appendDigits 25 = .ok (.ifCond .ne 17, 3) := by decide +kernel
theorem dX7_appendDigits_28 : decode cX7_appendDigits 28 = .ok (.lload 6, 2) := by decide +kernel
theorem dX7_appendDigits_30 : decode cX7_appendDigits 30 = .ok (.lconst 0, 1) := by decide +kernel
theorem dX7_appendDigits_31 : decode cX7_appendDigits 31 = .ok (.lcmp, 1) := by decide +kernel
theorem dX7_appendDigits_32 : decode cX7_appendDigits 32 = .ok (.ifCond .ne 10, 3) := by decide +kernel
theorem dX7_appendDigits_35 : decode cX7_appendDigits 35 = .ok (.lload 4, 2) := by decide +kernel
theorem dX7_appendDigits_37 : decode cX7_appendDigits 37 = .ok (.lconst 1, 1) := by decide +kernel
theorem dX7_appendDigits_38 : decode cX7_appendDigits 38 = .ok (.lcmp, 1) := by decide +kernel
theorem dX7_appendDigits_39 : decode cX7_appendDigits 39 = .ok (.ifCond .ne 7, 3) := by decide +kernel
theorem dX7_appendDigits_42 : decode cX7_appendDigits 42 = .ok (.iconst 1, 1) := by decide +kernel
theorem dX7_appendDigits_43 : decode cX7_appendDigits 43 = .ok (.goto 4, 3) := by decide +kernel
theorem dX7_appendDigits_46 : decode cX7_appendDigits 46 = .ok (.iconst 0, 1) := by decide +kernel
theorem dX7_appendDigits_47 : decode cX7_appendDigits 47 = .ok (.istore_n 3, 1) := by decide +kernel
theorem dX7_appendDigits_48 : decode cX7_appendDigits 48 = .ok (.iload_n 3, 1) := by decide +kernel
theorem dX7_appendDigits_49 : decode cX7_appendDigits 49 = .ok (.ifCond .eq 15, 3) := by decide +kernel
theorem dX7_appendDigits_52 : decode cX7_appendDigits 52 = .ok (.aload_n 0, 1) := by decide +kernel
theorem dX7_appendDigits_53 : decode cX7_appendDigits 53 = .ok (.ldc2_w 48, 3) := by decide +kernel
theorem dX7_appendDigits_56 : decode cX7_appendDigits 56 = .ok (.lload 6, 2) := by decide +kernel
theorem dX7_appendDigits_58 : decode cX7_appendDigits 58 = .ok (.ladd, 1) := by decide +kernel
theorem dX7_appendDigits_59 : decode cX7_appendDigits 59 = .ok (.l2i, 1) := by decide +kernel
theorem dX7_appendDigits_60 : decode cX7_appendDigits 60 = .ok (.i2c, 1) := by decide +kernel
theorem dX7_appendDigits_61 : decode cX7_appendDigits 61 = .ok (.invokevirtual 25, 3) := by decide +kernel
theorem dX7_appendDigits_64 : decode cX7_appendDigits 64 = .ok (.lload 4, 2) := by decide +kernel
theorem dX7_appendDigits_66 : decode cX7_appendDigits 66 = .ok (.ldc2_w 52, 3) := by decide +kernel
theorem dX7_appendDigits_69 : decode cX7_appendDigits 69 = .ok (.ldiv, 1) := by decide +kernel
theorem dX7_appendDigits_70 : decode cX7_appendDigits 70 = .ok (.lstore 4, 2) := by decide +kernel
theorem dX7_appendDigits_72 : decode cX7_appendDigits 72 = .ok (.goto (-65), 3) := by decide +kernel
theorem dX7_appendDigits_75 : decode cX7_appendDigits 75 = .ok (.return_, 1) := by decide +kernel
set_option maxRecDepth 20000 in
theorem ggX7_wordCode_X7_at : GoodIn wsX7_wordCode wsX7_at := goodIn_r _ [6, 1, 7, 15, 16] rfl (by decide +kernel)
set_option maxRecDepth 20000 in
theorem gX7_wordCode_X7_at : GoodIn wsX7_wordCode (wsV RX7 56 RX7 yX7_at wsX7_at) := goodIn_app (goodIn_of _ (by decide +kernel)) ggX7_wordCode_X7_at
set_option maxRecDepth 20000 in
theorem ggX7_wordCode_X7_isLetter : GoodIn wsX7_wordCode wsX7_isLetter := goodIn_r _ [10] rfl (by decide +kernel)
set_option maxRecDepth 20000 in
theorem gX7_wordCode_X7_isLetter : GoodIn wsX7_wordCode (va_wsS RX7 59 yX7_isLetter wsX7_isLetter) := goodIn_app (goodIn_of _ (by decide +kernel)) ggX7_wordCode_X7_isLetter
set_option maxRecDepth 20000 in
theorem ggX7_wordCode_X7_withLetter : GoodIn wsX7_wordCode wsX7_withLetter := goodIn_r _ [13, 14] rfl (by decide +kernel)
set_option maxRecDepth 20000 in
theorem gX7_wordCode_X7_withLetter : GoodIn wsX7_wordCode (va_wsS RX7 63 yX7_withLetter wsX7_withLetter) := goodIn_app (goodIn_of _ (by decide +kernel)) ggX7_wordCode_X7_withLetter
theorem dX7_wordCode_0 : decode cX7_wordCode 0 = .ok (.aload_n 0, 1) := by decide +kernel
theorem dX7_wordCode_1 : decode cX7_wordCode 1 = .ok (.getfield 9, 3) := by decide +kernel
theorem dX7_wordCode_4 : decode cX7_wordCode 4 = .ok (.bipush 8, 2) := by decide +kernel
theorem dX7_wordCode_6 : decode cX7_wordCode 6 = .ok (.if_icmp .le 5, 3) := by decide +kernel
theorem dX7_wordCode_9 : decode cX7_wordCode 9 = .ok (.lconst 0, 1) := by decide +kernel
theorem dX7_wordCode_10 : decode cX7_wordCode 10 = .ok (.lreturn, 1) := by decide +kernel
theorem dX7_wordCode_11 : decode cX7_wordCode 11 = .ok (.lconst 0, 1) := by decide +kernel
theorem dX7_wordCode_12 : decode cX7_wordCode 12 = .ok (.lstore_n 1, 1) := by decide +kernel
theorem dX7_wordCode_13 : decode cX7_wordCode 13 = .ok (.iconst 0, 1) := by decide +kernel
theorem dX7_wordCode_14 : decode cX7_wordCode 14 = .ok (.istore_n 3, 1) := by decide +kernel
theorem dX7_wordCode_15 : decode cX7_wordCode 15 = .ok (.iload_n 3, 1) := by decide +kernel
theorem dX7_wordCode_16 : decode cX7_wordCode 16 = .ok (.aload_n 0, 1) := by decide +kernel
theorem dX7_wordCode_17 : decode cX7_wordCode 17 = .ok (.getfield 9, 3) := by decide +kernel
theorem dX7_wordCode_20 : decode cX7_wordCode 20 = .ok (.if_icmp .ge 33, 3) := by decide +kernel
theorem dX7_wordCode_23 : decode cX7_wordCode 23 = .ok (.aload_n 0, 1) := by decide +kernel
theorem dX7_wordCode_24 : decode cX7_wordCode 24 = .ok (.iload_n 3, 1) := by decide +kernel
theorem dX7_wordCode_25 : decode cX7_wordCode 25 = .ok (.invokevirtual 56, 3) := by decide +kernel
theorem dX7_wordCode_28 : decode cX7_wordCode 28 = .ok (.istore 4, 2) := by decide +kernel
theorem dX7_wordCode_30 : decode cX7_wordCode 30 = .ok (.iload 4, 2) := by decide +kernel
theorem dX7_wordCode_32 : decode cX7_wordCode 32 = .ok (.invokestatic 59, 3) := by decide +kernel
theorem dX7_wordCode_35 : decode cX7_wordCode 35 = .ok (.ifCond .ne 5, 3) := by decide +kernel
theorem dX7_wordCode_38 : decode cX7_wordCode 38 = .ok (.lconst 0, 1) := by decide +kernel
theorem dX7_wordCode_39 : decode cX7_wordCode 39 = .ok (.lreturn, 1) := by decide +kernel
theorem dX7_wordCode_40 : decode cX7_wordCode 40 = .ok (.lload_n 1, 1) := by decide +kernel
theorem dX7_wordCode_41 : decode cX7_wordCode 41 = .ok (.iload 4, 2) := by decide +kernel
theorem dX7_wordCode_43 : decode cX7_wordCode 43 = .ok (.invokestatic 63, 3) := by decide +kernel
theorem dX7_wordCode_46 : decode cX7_wordCode 46 = .ok (.lstore_n 1, 1) := by decide +kernel
theorem dX7_wordCode_47 : decode cX7_wordCode 47 = .ok (.iinc 3 1, 3) := by decide +kernel
theorem dX7_wordCode_50 : decode cX7_wordCode 50 = .ok (.goto (-35), 3) := by decide +kernel
theorem dX7_wordCode_53 : decode cX7_wordCode 53 = .ok (.lload_n 1, 1) := by decide +kernel
theorem dX7_wordCode_54 : decode cX7_wordCode 54 = .ok (.lreturn, 1) := by decide +kernel
theorem dX7_isLetter_0 : decode cX7_isLetter 0 = .ok (.iload_n 0, 1) := by decide +kernel
theorem dX7_isLetter_1 : decode cX7_isLetter 1 = .ok (.bipush 97, 2) := by decide +kernel
theorem dX7_isLetter_3 : decode cX7_isLetter 3 = .ok (.if_icmp .lt 13, 3) := by decide +kernel
theorem dX7_isLetter_6 : decode cX7_isLetter 6 = .ok (.iload_n 0, 1) := by decide +kernel
theorem dX7_isLetter_7 : decode cX7_isLetter 7 = .ok (.bipush 122, 2) := by decide +kernel
theorem dX7_isLetter_9 : decode cX7_isLetter 9 = .ok (.if_icmp .gt 7, 3) := by decide +kernel
theorem dX7_isLetter_12 : decode cX7_isLetter 12 = .ok (.iconst 1, 1) := by decide +kernel
theorem dX7_isLetter_13 : decode cX7_isLetter 13 = .ok (.goto 4, 3) := by decide +kernel
theorem dX7_isLetter_16 : decode cX7_isLetter 16 = .ok (.iconst 0, 1) := by decide +kernel
theorem dX7_isLetter_17 : decode cX7_isLetter 17 = .ok (.ireturn, 1) := by decide +kernel
theorem dX7_withLetter_0 : decode cX7_withLetter 0 = .ok (.lload_n 0, 1) := by decide +kernel
theorem dX7_withLetter_1 : decode cX7_withLetter 1 = .ok (.ldc2_w 67, 3) := by decide +kernel
theorem dX7_withLetter_4 : decode cX7_withLetter 4 = .ok (.lmul, 1) := by decide +kernel
theorem dX7_withLetter_5 : decode cX7_withLetter 5 = .ok (.iload_n 2, 1) := by decide +kernel
theorem dX7_withLetter_6 : decode cX7_withLetter 6 = .ok (.bipush 97, 2) := by decide +kernel
theorem dX7_withLetter_8 : decode cX7_withLetter 8 = .ok (.isub, 1) := by decide +kernel
theorem dX7_withLetter_9 : decode cX7_withLetter 9 = .ok (.iconst 1, 1) := by decide +kernel
theorem dX7_withLetter_10 : decode cX7_withLetter 10 = .ok (.iadd, 1) := by decide +kernel
theorem dX7_withLetter_11 : decode cX7_withLetter 11 = .ok (.i2l, 1) := by decide +kernel
theorem dX7_withLetter_12 : decode cX7_withLetter 12 = .ok (.ladd, 1) := by decide +kernel
theorem dX7_withLetter_13 : decode cX7_withLetter 13 = .ok (.lreturn, 1) := by decide +kernel
set_option maxRecDepth 20000 in
theorem ggX7_codeOf_J0_length_8abf5 : GoodIn wsX7_codeOf wsJ0_length_8abf5 := goodIn_r _ [5, 6, 7, 8, 9, 4, 10, 11, 12] rfl (by decide +kernel)
set_option maxRecDepth 20000 in
theorem gX7_codeOf_J0_length_8abf5 : GoodIn wsX7_codeOf (wsV RX7 29 RJ0 yJ0_length_8abf5 wsJ0_length_8abf5) := goodIn_app (goodIn_of _ (by decide +kernel)) ggX7_codeOf_J0_length_8abf5
set_option maxRecDepth 20000 in
theorem ggX7_codeOf_J0_charAt_5068e : GoodIn wsX7_codeOf wsJ0_charAt_5068e := goodIn_r _ [16, 6, 17, 18, 19, 4, 20, 11, 12, 21, 22, 23, 24, 25, 26, 27, 28, 29, 30, 31, 32, 33, 34, 35, 36, 37, 38, 39, 40, 41, 42, 43, 44, 45, 46, 47, 48, 49] rfl (by decide +kernel)
set_option maxRecDepth 20000 in
theorem gX7_codeOf_J0_charAt_5068e : GoodIn wsX7_codeOf (wsV RX7 34 RJ0 yJ0_charAt_5068e wsJ0_charAt_5068e) := goodIn_app (goodIn_of _ (by decide +kernel)) ggX7_codeOf_J0_charAt_5068e
set_option maxRecDepth 20000 in
theorem ggX7_codeOf_X7_withLetter : GoodIn wsX7_codeOf wsX7_withLetter := goodIn_r _ [53, 54] rfl (by decide +kernel)
set_option maxRecDepth 20000 in
theorem gX7_codeOf_X7_withLetter : GoodIn wsX7_codeOf (va_wsS RX7 63 yX7_withLetter wsX7_withLetter) := goodIn_app (goodIn_of _ (by decide +kernel)) ggX7_codeOf_X7_withLetter
theorem dX7_codeOf_0 : decode cX7_codeOf 0 = .ok (.lconst 0, 1) := by decide +kernel
theorem dX7_codeOf_1 : decode cX7_codeOf 1 = .ok (.lstore_n 1, 1) := by decide +kernel
theorem dX7_codeOf_2 : decode cX7_codeOf 2 = .ok (.iconst 0, 1) := by decide +kernel
theorem dX7_codeOf_3 : decode cX7_codeOf 3 = .ok (.istore_n 3, 1) := by decide +kernel
theorem dX7_codeOf_4 : decode cX7_codeOf 4 = .ok (.iload_n 3, 1) := by decide +kernel
theorem dX7_codeOf_5 : decode cX7_codeOf 5 = .ok (.aload_n 0, 1) := by decide +kernel
theorem dX7_codeOf_6 : decode cX7_codeOf 6 = .ok (.invokevirtual 29, 3) := by decide +kernel
theorem dX7_codeOf_9 : decode cX7_codeOf 9 = .ok (.if_icmp .ge 19, 3) := by decide +kernel
theorem dX7_codeOf_12 : decode cX7_codeOf 12 = .ok (.lload_n 1, 1) := by decide +kernel
theorem dX7_codeOf_13 : decode cX7_codeOf 13 = .ok (.aload_n 0, 1) := by decide +kernel
theorem dX7_codeOf_14 : decode cX7_codeOf 14 = .ok (.iload_n 3, 1) := by decide +kernel
theorem dX7_codeOf_15 : decode cX7_codeOf 15 = .ok (.invokevirtual 34, 3) := by decide +kernel
theorem dX7_codeOf_18 : decode cX7_codeOf 18 = .ok (.invokestatic 63, 3) := by decide +kernel
theorem dX7_codeOf_21 : decode cX7_codeOf 21 = .ok (.lstore_n 1, 1) := by decide +kernel
