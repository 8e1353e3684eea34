theorem dX2_init_0 : decode cX2_init 0 = .ok (.aload_n 0, 1) := by decide +kernel
theorem dX2_init_1 : decode cX2_init 1 = .ok (.invokespecial 1, 3) := by decide +kernel
theorem dX2_init_4 : decode cX2_init 4 = .ok (.aload_n 0, 1) := by decide +kernel
theorem dX2_init_5 : decode cX2_init 5 = .ok (.new 7, 3) := by decide +kernel
theorem dX2_init_8 : decode cX2_init 8 = .ok (.dup, 1) := by decide +kernel
theorem dX2_init_9 : decode cX2_init 9 = .ok (.invokespecial 9, 3) := by decide +kernel
theorem dX2_init_12 : decode cX2_init 12 = .ok (.putfield 10, 3) := by decide +kernel
theorem dX2_init_15 : decode cX2_init 15 = .ok (.return_, 1) := by decide +kernel
set_option maxRecDepth 20000 in
theorem ggX2_put_X1_hasRoomFor : GoodIn wsX2_put wsX1_hasRoomFor := goodIn_r _ [7, 8, 19, 20, 21, 22, 23] (by decide +kernel) (by decide +kernel)
set_option maxRecDepth 20000 in
theorem gX2_put_X1_hasRoomFor : GoodIn wsX2_put (wsV RX2 16 RX1 yX1_hasRoomFor wsX1_hasRoomFor) := goodIn_app (goodIn_of _ (by decide +kernel)) ggX2_put_X1_hasRoomFor
set_option maxRecDepth 20000 in
theorem ggX2_put_X1_append : GoodIn wsX2_put wsX1_append := goodIn_r _ [12, 13, 8, 14, 19, 20, 21, 22, 23] (by decide +kernel) (by decide +kernel)
set_option maxRecDepth 20000 in
theorem gX2_put_X1_append : GoodIn wsX2_put (wsV RX2 20 RX1 yX1_append wsX1_append) := goodIn_app (goodIn_of _ (by decide +kernel)) ggX2_put_X1_append
theorem dX2_put_0 : decode cX2_put 0 = .ok (.aload_n 0, 1) := by decide +kernel
theorem dX2_put_1 : decode cX2_put 1 = .ok (.getfield 10, 3) := by decide +kernel
theorem dX2_put_4 : decode cX2_put 4 = .ok (.iconst 1, 1) := by decide +kernel
theorem dX2_put_5 : decode cX2_put 5 = .ok (.invokevirtual 16, 3) := by decide +kernel
theorem dX2_put_8 : decode cX2_put 8 = .ok (.ifCond .ne 5, 3) := by decide +kernel
theorem dX2_put_11 : decode cX2_put 11 = .ok (.iconst (-1), 1) := by decide +kernel
theorem dX2_put_12 : decode cX2_put 12 = .ok (.ireturn, 1) := by decide +kernel
theorem dX2_put_13 : decode cX2_put 13 = .ok (.aload_n 0, 1) := by decide +kernel
theorem dX2_put_14 : decode cX2_put 14 = .ok (.getfield 10, 3) := by decide +kernel
theorem dX2_put_17 : decode cX2_put 17 = .ok (.iload_n 1, 1) := by decide +kernel
theorem dX2_put_18 : decode cX2_put 18 = .ok (.iload_n 2, 1) := by decide +kernel
theorem dX2_put_19 : decode cX2_put 19 = .ok (.invokevirtual 20, 3) := by decide +kernel
theorem dX2_put_22 : decode cX2_put 22 = .ok (.aload_n 0, 1) := by decide +kernel
theorem dX2_put_23 : decode cX2_put 23 = .ok (.getfield 10, 3) := by decide +kernel
theorem dX2_put_26 : decode cX2_put 26 = .ok (.getfield 24, 3) := by decide +kernel
theorem dX2_put_29 : decode cX2_put 29 = .ok (.ireturn, 1) := by decide +kernel
set_option maxRecDepth 20000 in
theorem ggX2_run_X1_hasRoomFor : GoodIn wsX2_run wsX1_hasRoomFor := goodIn_r _ [7, 8, 19, 20, 21, 22, 23] (by decide +kernel) (by decide +kernel)
set_option maxRecDepth 20000 in
theorem gX2_run_X1_hasRoomFor : GoodIn wsX2_run (wsV RX2 16 RX1 yX1_hasRoomFor wsX1_hasRoomFor) := goodIn_app (goodIn_of _ (by decide +kernel)) ggX2_run_X1_hasRoomFor
set_option maxRecDepth 20000 in
theorem ggX2_run_X1_append : GoodIn wsX2_run wsX1_append := goodIn_r _ [12, 13, 8, 14, 19, 20, 21, 22, 23] (by decide +kernel) (by decide +kernel)
set_option maxRecDepth 20000 in
theorem gX2_run_X1_append : GoodIn wsX2_run (wsV RX2 20 RX1 yX1_append wsX1_append) := goodIn_app (goodIn_of _ (by decide +kernel)) ggX2_run_X1_append
theorem dX2_run_0 : decode cX2_run 0 = .ok (.iload_n 1, 1) := by decide +kernel
theorem dX2_run_1 : decode cX2_run 1 = .ok (.iconst 1, 1) := by decide +kernel
theorem dX2_run_2 : decode cX2_run 2 = .ok (.if_icmp .lt 14, 3) := by decide +kernel
theorem dX2_run_5 : decode cX2_run 5 = .ok (.aload_n 0, 1) := by decide +kernel
theorem dX2_run_6 : decode cX2_run 6 = .ok (.getfield 10, 3) := by decide +kernel
theorem dX2_run_9 : decode cX2_run 9 = .ok (.iload_n 1, 1) := by decide +kernel
theorem dX2_run_10 : decode cX2_run 10 = .ok (.invokevirtual 16, 3) := by decide +kernel
theorem dX2_run_13 : decode cX2_run 13 = .ok (.ifCond .ne 5, 3) := by decide +kernel
theorem dX2_run_16 : decode cX2_run 16 = .ok (.iconst (-1), 1) := by decide +kernel
theorem dX2_run_17 : decode cX2_run 17 = .ok (.ireturn, 1) := by decide +kernel
theorem dX2_run_18 : decode cX2_run 18 = .ok (.iconst 0, 1) := by decide +kernel
theorem dX2_run_19 : decode cX2_run 19 = .ok (.istore 5, 2) := by decide +kernel
theorem dX2_run_21 : decode cX2_run 21 = .ok (.iload 5, 2) := by decide +kernel
theorem dX2_run_23 : decode cX2_run 23 = .ok (.iload_n 1, 1) := by decide +kernel
theorem dX2_run_24 : decode cX2_run 24 = .ok (.if_icmp .ge 27, 3) := by decide +kernel
theorem dX2_run_27 : decode cX2_run 27 = .ok (.aload_n 0, 1) := by decide +kernel
theorem dX2_run_28 : decode cX2_run 28 = .ok (.getfield 10, 3) := by decide +kernel
theorem dX2_run_31 : decode cX2_run 31 = .ok (.iload_n 2, 1) := by decide +kernel
theorem dX2_run_32 : decode cX2_run 32 = .ok (.iload 5, 2) := by decide +kernel
theorem dX2_run_34 : decode cX2_run 34 = .ok (.iload_n 3, 1) := by decide +kernel
theorem dX2_run_35 : decode cX2_run 35 = .ok (.imul, 1) := by decide +kernel
theorem dX2_run_36 : decode cX2_run 36 = .ok (.iadd, 1) := by decide +kernel
theorem dX2_run_37 : decode cX2_run 37 = .ok (.iload 4, 2) := by decide +kernel
theorem dX2_run_39 : decode cX2_run 39 = .ok (.iload 5, 2) := by decide +kernel
theorem dX2_run_41 : decode cX2_run 41 = .ok (.iadd, 1) := by decide +kernel
theorem dX2_run_42 : decode cX2_run 42 = .ok (.invokevirtual 20, 3) := by decide +kernel
theorem dX2_run_45 : decode cX2_run 45 = .ok (.iinc 5 1, 3) := by decide +kernel
theorem dX2_run_48 : decode cX2_run 48 = .ok (.goto (-27), 3) := by decide +kernel
theorem dX2_run_51 : decode cX2_run 51 = .ok (.aload_n 0, 1) := by decide +kernel
theorem dX2_run_52 : decode cX2_run 52 = .ok (.getfield 10, 3) := by decide +kernel
theorem dX2_run_55 : decode cX2_run 55 = .ok (.getfield 24, 3) := by decide +kernel
theorem dX2_run_58 : decode cX2_run 58 = .ok (.ireturn, 1) := by decide +kernel
theorem dX2_clear_0 : decode cX2_clear 0 = .ok (.aload_n 0, 1) := by decide +kernel
theorem dX2_clear_1 : decode cX2_clear 1 = .ok (.getfield 10, 3) := by decide +kernel
theorem dX2_clear_4 : decode cX2_clear 4 = .ok (.getfield 24, 3) := by decide +kernel
theorem dX2_clear_7 : decode cX2_clear 7 = .ok (.istore_n 1, 1) := by decide +kernel
theorem dX2_clear_8 : decode cX2_clear 8 = .ok (.aload_n 0, 1) := by decide +kernel
theorem dX2_clear_9 : decode cX2_clear 9 = .ok (.getfield 10, 3) := by decide +kernel
theorem dX2_clear_12 : decode cX2_clear 12 = .ok (.iconst 0, 1) := by decide +kernel
theorem dX2_clear_13 : decode cX2_clear 13 = .ok (.putfield 24, 3) := by decide +kernel
theorem dX2_clear_16 : decode cX2_clear 16 = .ok (.iload_n 1, 1) := by decide +kernel
theorem dX2_clear_17 : decode cX2_clear 17 = .ok (.ireturn, 1) := by decide +kernel
set_option maxRecDepth 20000 in
theorem ggX2_sort_X2_sortPart : GoodIn wsX2_sort wsX2_sortPart := goodIn_r _ [7, 1, 8, 9, 10, 11, 12, 13, 14, 15, 16, 17, 18, 19, 20, 21, 22, 23, 24, 25, 26, 27, 28, 29, 30, 31, 32, 33, 34, 35, 36, 37, 38, 39, 40, 41, 42, 43, 44, 45, 46, 47, 48, 49, 50, 51, 52, 53, 54, 55, 56, 57, 58, 59, 60, 61, 62, 63, 6, 64, 65, 66, 67, 68, 69, 70, 71, 72, 73, 74, 75, 76, 77, 78] (by decide +kernel) (by decide +kernel)
set_option maxRecDepth 20000 in
theorem gX2_sort_X2_sortPart : GoodIn wsX2_sort (wsV RX2 28 RX2 yX2_sortPart wsX2_sortPart) := goodIn_app (goodIn_of _ (by decide +kernel)) ggX2_sort_X2_sortPart
theorem dX2_sort_0 : decode cX2_sort 0 = .ok (.aload_n 0, 1) := by decide +kernel
theorem dX2_sort_1 : decode cX2_sort 1 = .ok (.iconst 0, 1) := by decide +kernel
theorem dX2_sort_2 : decode cX2_sort 2 = .ok (.aload_n 0, 1) := by decide +kernel
theorem dX2_sort_3 : decode cX2_sort 3 = .ok (.getfield 10, 3) := by decide +kernel
theorem dX2_sort_6 : decode cX2_sort 6 = .ok (.getfield 24, 3) := by decide +kernel
theorem dX2_sort_9 : decode cX2_sort 9 = .ok (.iload_n 1, 1) := by decide +kernel
theorem dX2_sort_10 : decode cX2_sort 10 = .ok (.invokevirtual 28, 3) := by decide +kernel
theorem dX2_sort_13 : decode cX2_sort 13 = .ok (.ireturn, 1) := by decide +kernel
set_option maxRecDepth 20000 in
theorem ggX2_sortPart_X0_exists : GoodIn wsX2_sortPart wsX0_exists := goodIn_r _ [5] (by decide +kernel) (by decide +kernel)
set_option maxRecDepth 20000 in
theorem gX2_sortPart_X0_exists : GoodIn wsX2_sortPart (va_wsS RX2 32 yX0_exists wsX0_exists) := goodIn_app (goodIn_of _ (by decide +kernel)) ggX2_sortPart_X0_exists
set_option maxRecDepth 20000 in
theorem ggX2_sortPart_X1_hasStretch : GoodIn wsX2_sortPart wsX1_hasStretch := goodIn_r _ [10, 11, 69, 70, 71, 72, 73] (by decide +kernel) (by decide +kernel)
set_option maxRecDepth 20000 in
theorem gX2_sortPart_X1_hasStretch : GoodIn wsX2_sortPart (wsV RX2 37 RX1 yX1_hasStretch wsX1_hasStretch) := goodIn_app (goodIn_of _ (by decide +kernel)) ggX2_sortPart_X1_hasStretch
set_option maxRecDepth 20000 in
theorem ggX2_sortPart_X1_startCounting : GoodIn wsX2_sortPart wsX1_startCounting := goodIn_r _ [15, 16, 17, 69, 70, 71, 72, 73] (by decide +kernel) (by decide +kernel)
set_option maxRecDepth 20000 in
theorem gX2_sortPart_X1_startCounting : GoodIn wsX2_sortPart (wsV RX2 41 RX1 yX1_startCounting wsX1_startCounting) := goodIn_app (goodIn_of _ (by decide +kernel)) ggX2_sortPart_X1_startCounting
set_option maxRecDepth 20000 in
theorem ggX2_sortPart_X1_sortInPlace : GoodIn wsX2_sortPart wsX1_sortInPlace := goodIn_r _ [21, 22, 23, 24, 25, 26, 27, 9, 28, 29, 30, 31, 32, 33, 34, 35, 36, 16, 37, 38, 39, 4, 40, 41, 42, 43, 44, 45, 46, 47, 48, 49, 50, 51, 52, 53, 17, 54, 69, 70, 71, 72, 73] (by decide +kernel) (by decide +kernel)
set_option maxRecDepth 20000 in
theorem gX2_sortPart_X1_sortInPlace : GoodIn wsX2_sortPart (wsV RX2 44 RX1 yX1_sortInPlace wsX1_sortInPlace) := goodIn_app (goodIn_of _ (by decide +kernel)) ggX2_sortPart_X1_sortInPlace
set_option maxRecDepth 20000 in
theorem ggX2_sortPart_X2_keepCounts : GoodIn wsX2_sortPart wsX2_keepCounts := goodIn_r _ [59, 60, 1, 61, 62, 63, 64, 65, 66, 67, 68, 69, 70, 71, 72, 73] (by decide +kernel) (by decide +kernel)
set_option maxRecDepth 20000 in
theorem gX2_sortPart_X2_keepCounts : GoodIn wsX2_sortPart (wsV RX2 48 RX2 yX2_keepCounts wsX2_keepCounts) := goodIn_app (goodIn_of _ (by decide +kernel)) ggX2_sortPart_X2_keepCounts
theorem dX2_sortPart_0 : decode cX2_sortPart 0 = .ok (.iload_n 3, 1) := by decide +kernel
theorem dX2_sortPart_1 : decode cX2_sortPart 1 = .ok (.invokestatic 32, 3) := by decide +kernel
theorem dX2_sortPart_4 : decode cX2_sortPart 4 = .ok (.ifCond .eq 15, 3) := by decide +kernel
theorem dX2_sortPart_7 : decode cX2_sortPart 7 = .ok (.aload_n 0, 1) := by decide +kernel
theorem dX2_sortPart_8 : decode cX2_sortPart 8 = .ok (.getfield 10, 3) := by decide +kernel
theorem dX2_sortPart_11 : decode cX2_sortPart 11 = .ok (.iload_n 1, 1) := by decide +kernel
theorem dX2_sortPart_12 : decode cX2_sortPart 12 = .ok (.iload_n 2, 1) := by decide +kernel
theorem dX2_sortPart_13 : decode cX2_sortPart 13 = .ok (.invokevirtual 37, 3) := by decide +kernel
theorem dX2_sortPart_16 : decode cX2_sortPart 16 = .ok (.ifCond .ne 5, 3) := by decide +kernel
theorem dX2_sortPart_19 : decode cX2_sortPart 19 = .ok (.iconst 0, 1) := by decide +kernel
theorem dX2_sortPart_20 : decode cX2_sortPart 20 = .ok (.ireturn, 1) := by decide +kernel
theorem dX2_sortPart_21 : decode cX2_sortPart 21 = .ok (.aload_n 0, 1) := by decide +kernel
theorem dX2_sortPart_22 : decode cX2_sortPart 22 = .ok (.getfield 10, 3) := by decide +kernel
theorem dX2_sortPart_25 : decode cX2_sortPart 25 = .ok (.invokevirtual 41, 3) := by decide +kernel
theorem dX2_sortPart_28 : decode cX2_sortPart 28 = .ok (.aload_n 0, 1) := by decide +kernel
theorem dX2_sortPart_29 : decode cX2_sortPart 29 = .ok (.getfield 10, 3) := by decide +kernel
theorem dX2_sortPart_32 : decode cX2_sortPart 32 = .ok (.iload_n 1, 1) := by decide +kernel
theorem dX2_sortPart_33 : decode cX2_sortPart 33 = .ok (.iload_n 2, 1) := by decide +kernel
theorem dX2_sortPart_34 : decode cX2_sortPart 34 = .ok (.iload_n 3, 1) := by decide +kernel
theorem dX2_sortPart_35 : decode cX2_sortPart 35 = .ok (.invokevirtual 44, 3) := by decide +kernel
theorem dX2_sortPart_38 : decode cX2_sortPart 38 = .ok (.aload_n 0, 1) := by decide +kernel
theorem dX2_sortPart_39 : decode cX2_sortPart 39 = .ok (.iload_n 2, 1) := by decide +kernel
theorem dX2_sortPart_40 : decode cX2_sortPart 40 = .ok (.iload_n 1, 1) := by decide +kernel
theorem dX2_sortPart_41 : decode cX2_sortPart 41 = .ok (.isub, 1) := by decide +kernel
theorem dX2_sortPart_42 : decode cX2_sortPart 42 = .ok (.invokevirtual 48, 3) := by decide +kernel
theorem dX2_sortPart_45 : decode cX2_sortPart 45 = .ok (.iconst 1, 1) := by decide +kernel
theorem dX2_sortPart_46 : decode cX2_sortPart 46 = .ok (.ireturn, 1) := by decide +kernel
set_option maxRecDepth 20000 in
theorem ggX2_merge_X0_exists : GoodIn wsX2_merge wsX0_exists := goodIn_r _ [5] (by decide +kernel) (by decide +kernel)
set_option maxRecDepth 20000 in
theorem gX2_merge_X0_exists : GoodIn wsX2_merge (va_wsS RX2 32 yX0_exists wsX0_exists) := goodIn_app (goodIn_of _ (by decide +kernel)) ggX2_merge_X0_exists
set_option maxRecDepth 20000 in
theorem ggX2_merge_X1_hasStretches : GoodIn wsX2_merge wsX1_hasStretches := goodIn_r _ [10, 11, 12, 13, 9, 14, 15, 69, 70, 71, 72, 73] (by decide +kernel) (by decide +kernel)
set_option maxRecDepth 20000 in
theorem gX2_merge_X1_hasStretches : GoodIn wsX2_merge (wsV RX2 52 RX1 yX1_hasStretches wsX1_hasStretches) := goodIn_app (goodIn_of _ (by decide +kernel)) ggX2_merge_X1_hasStretches
set_option maxRecDepth 20000 in
theorem ggX2_merge_X1_startCounting : GoodIn wsX2_merge wsX1_startCounting := goodIn_r _ [19, 20, 21, 69, 70, 71, 72, 73] (by decide +kernel) (by decide +kernel)
set_option maxRecDepth 20000 in
theorem gX2_merge_X1_startCounting : GoodIn wsX2_merge (wsV RX2 41 RX1 yX1_startCounting wsX1_startCounting) := goodIn_app (goodIn_of _ (by decide +kernel)) ggX2_merge_X1_startCounting
set_option maxRecDepth 20000 in
theorem ggX2_merge_X1_inOrder : GoodIn wsX2_merge wsX1_inOrder := goodIn_r _ [25, 26, 27, 28, 9, 29, 20, 30, 31, 32, 4, 33, 34, 69, 70, 71, 72, 73] (by decide +kernel) (by decide +kernel)
set_option maxRecDepth 20000 in
theorem gX2_merge_X1_inOrder : GoodIn wsX2_merge (wsV RX2 56 RX1 yX1_inOrder wsX1_inOrder) := goodIn_app (goodIn_of _ (by decide +kernel)) ggX2_merge_X1_inOrder
set_option maxRecDepth 20000 in
theorem ggX2_merge_X1_mergeInPlace : GoodIn wsX2_merge wsX1_mergeInPlace := goodIn_r _ [36, 37, 38, 39, 9, 40, 26, 27, 28, 29, 20, 30, 31, 32, 4, 33, 34, 41, 42, 43, 44, 45, 46, 47, 48, 49, 50, 51, 52, 21, 53, 54, 35, 69, 70, 71, 72, 73] (by decide +kernel) (by decide +kernel)
set_option maxRecDepth 20000 in
theorem gX2_merge_X1_mergeInPlace_n59 : GoodIn wsX2_merge (wsX1_mergeInPlace) := ggX2_merge_X1_mergeInPlace
set_option maxRecDepth 20000 in
theorem ggX2_merge_X2_keepCounts : GoodIn wsX2_merge wsX2_keepCounts := goodIn_r _ [59, 60, 1, 61, 62, 63, 64, 65, 66, 67, 68, 69, 70, 71, 72, 73] (by decide +kernel) (by decide +kernel)
set_option maxRecDepth 20000 in
theorem gX2_merge_X2_keepCounts : GoodIn wsX2_merge (wsV RX2 48 RX2 yX2_keepCounts wsX2_keepCounts) := goodIn_app (goodIn_of _ (by decide +kernel)) ggX2_merge_X2_keepCounts
theorem dX2_merge_0 : decode cX2_merge 0 = .ok (.iload 4, 2) := by decide +kernel
theorem dX2_merge_2 : decode cX2_merge 2 = .ok (.invokestatic 32, 3) := by decide +kernel
theorem dX2_merge_5 : decode cX2_merge 5 = .ok (.ifCond .eq 16, 3) := by decide +kernel
theorem dX2_merge_8 : decode cX2_merge 8 = .ok (.aload_n 0, 1) := by decide +kernel
theorem dX2_merge_9 : decode cX2_merge 9 = .ok (.getfield 10, 3) := by decide +kernel
theorem dX2_merge_12 : decode cX2_merge 12 = .ok (.iload_n 1, 1) := by decide +kernel
theorem dX2_merge_13 : decode cX2_merge 13 = .ok (.iload_n 2, 1) := by decide +kernel
theorem dX2_merge_14 : decode cX2_merge 14 = .ok (.iload_n 3, 1) := by decide +kernel
theorem dX2_merge_15 : decode cX2_merge 15 = .ok (.invokevirtual 52, 3) := by decide +kernel
theorem dX2_merge_18 : decode cX2_merge 18 = .ok (.ifCond .ne 5, 3) := by decide +kernel
theorem dX2_merge_21 : decode cX2_merge 21 = .ok (.iconst 0, 1) := by decide +kernel
theorem dX2_merge_22 : decode cX2_merge 22 = .ok (.ireturn, 1) := by decide +kernel
theorem dX2_merge_23 : decode cX2_merge 23 = .ok (.aload_n 0, 1) := by decide +kernel
theorem dX2_merge_24 : decode cX2_merge 24 = .ok (.getfield 10, 3) := by decide +kernel
theorem dX2_merge_27 : decode cX2_merge 27 = .ok (.invokevirtual 41, 3) := by decide +kernel
theorem dX2_merge_30 : decode cX2_merge 30 = .ok (.aload_n 0, 1) := by decide +kernel
theorem dX2_merge_31 : decode cX2_merge 31 = .ok (.getfield 10, 3) := by decide +kernel
theorem dX2_merge_34 : decode cX2_merge 34 = .ok (.iload_n 1, 1) := by decide +kernel
theorem dX2_merge_35 : decode cX2_merge 35 = .ok (.iload_n 2, 1) := by decide +kernel
theorem dX2_merge_36 : decode cX2_merge 36 = .ok (.iload 4, 2) := by decide +kernel
theorem dX2_merge_38 : decode cX2_merge 38 = .ok (.invokevirtual 56, 3) := by decide +kernel
theorem dX2_merge_41 : decode cX2_merge 41 = .ok (.ifCond .eq 17, 3) := by decide +kernel
theorem dX2_merge_44 : decode cX2_merge 44 = .ok (.aload_n 0, 1) := by decide +kernel
theorem dX2_merge_45 : decode cX2_merge 45 = .ok (.getfield 10, 3) := by decide +kernel
theorem dX2_merge_48 : decode cX2_merge 48 = .ok (.iload_n 2, 1) := by decide +kernel
theorem dX2_merge_49 : decode cX2_merge 49 = .ok (.iload_n 3, 1) := by decide +kernel
theorem dX2_merge_50 : decode cX2_merge 50 = .ok (.iload 4, 2) := by decide +kernel
theorem dX2_merge_52 : decode cX2_merge 52 = .ok (.invokevirtual 56, 3) := by decide +kernel
theorem dX2_merge_55 : decode cX2_merge 55 = .ok (.ifCond .ne 5, 3) := by decide +kernel
theorem dX2_merge_58 : decode cX2_merge 58 = .ok (.iconst 0, 1) := by decide +kernel
theorem dX2_merge_59 : decode cX2_merge 59 = .ok (.ireturn, 1) := by decide +kernel
theorem dX2_merge_60 : decode cX2_merge 60 = .ok (.aload_n 0, 1) := by decide +kernel
theorem dX2_merge_61 : decode cX2_merge 61 = .ok (.getfield 10, 3) := by decide +kernel
theorem dX2_merge_64 : decode cX2_merge 64 = .ok (.iload_n 1, 1) := by decide +kernel
theorem dX2_merge_65 : decode cX2_merge 65 = .ok (.iload_n 2, 1) := by decide +kernel
theorem dX2_merge_66 : decode cX2_merge 66 = .ok (.iload_n 3, 1) := by decide +kernel
theorem dX2_merge_67 : decode cX2_merge 67 = .ok (.iload 4, 2) := by decide +kernel
theorem dX2_merge_69 : decode cX2_merge 69 = .ok (.iconst 0, 1) := by decide +kernel
theorem dX2_merge_70 : decode cX2_merge 70 = .ok (.invokestatic 59, 3) := by decide +kernel
theorem dX2_merge_73 : decode cX2_merge 73 = .ok (.aload_n 0, 1) := by decide +kernel
theorem dX2_merge_74 : decode cX2_merge 74 = .ok (.iload_n 3, 1) := by decide +kernel
theorem dX2_merge_75 : decode cX2_merge 75 = .ok (.iload_n 1, 1) := by decide +kernel
theorem dX2_merge_76 : decode cX2_merge 76 = .ok (.isub, 1) := by decide +kernel
theorem dX2_merge_77 : decode cX2_merge 77 = .ok (.invokevirtual 48, 3) := by decide +kernel
theorem dX2_merge_80 : decode cX2_merge 80 = .ok (.iconst 1, 1) := by decide +kernel
theorem dX2_merge_81 : decode cX2_merge 81 = .ok (.ireturn, 1) := by decide +kernel
set_option maxRecDepth 20000 in
theorem ggX2_rotate_X1_hasStretches : GoodIn wsX2_rotate wsX1_hasStretches := goodIn_r _ [6, 7, 8, 9, 5, 10, 11, 31, 32, 33, 34, 35] (by decide +kernel) (by decide +kernel)
set_option maxRecDepth 20000 in
theorem gX2_rotate_X1_hasStretches : GoodIn wsX2_rotate (wsV RX2 52 RX1 yX1_hasStretches wsX1_hasStretches) := goodIn_app (goodIn_of _ (by decide +kernel)) ggX2_rotate_X1_hasStretches
set_option maxRecDepth 20000 in
theorem ggX2_rotate_X1_swapBlocks : GoodIn wsX2_rotate wsX1_swapBlocks := goodIn_r _ [15, 16, 17, 18, 5, 19, 20, 21, 22, 23, 24, 25, 26, 31, 32, 33, 34, 35] (by decide +kernel) (by decide +kernel)
set_option maxRecDepth 20000 in
theorem gX2_rotate_X1_swapBlocks : GoodIn wsX2_rotate (wsV RX2 63 RX1 yX1_swapBlocks wsX1_swapBlocks) := goodIn_app (goodIn_of _ (by decide +kernel)) ggX2_rotate_X1_swapBlocks
theorem dX2_rotate_0 : decode cX2_rotate 0 = .ok (.aload_n 0, 1) := by decide +kernel
theorem dX2_rotate_1 : decode cX2_rotate 1 = .ok (.getfield 10, 3) := by decide +kernel
theorem dX2_rotate_4 : decode cX2_rotate 4 = .ok (.iload_n 1, 1) := by decide +kernel
theorem dX2_rotate_5 : decode cX2_rotate 5 = .ok (.iload_n 2, 1) := by decide +kernel
theorem dX2_rotate_6 : decode cX2_rotate 6 = .ok (.iload_n 3, 1) := by decide +kernel
theorem dX2_rotate_7 : decode cX2_rotate 7 = .ok (.invokevirtual 52, 3) := by decide +kernel
theorem dX2_rotate_10 : decode cX2_rotate 10 = .ok (.ifCond .ne 5, 3) := by decide +kernel
theorem dX2_rotate_13 : decode cX2_rotate 13 = .ok (.iconst 0, 1) := by decide +kernel
theorem dX2_rotate_14 : decode cX2_rotate 14 = .ok (.ireturn, 1) := by decide +kernel
theorem dX2_rotate_15 : decode cX2_rotate 15 = .ok (.aload_n 0, 1) := by decide +kernel
theorem dX2_rotate_16 : decode cX2_rotate 16 = .ok (.getfield 10, 3) := by decide +kernel
theorem dX2_rotate_19 : decode cX2_rotate 19 = .ok (.iload_n 1, 1) := by decide +kernel
theorem dX2_rotate_20 : decode cX2_rotate 20 = .ok (.iload_n 2, 1) := by decide +kernel
theorem dX2_rotate_21 : decode cX2_rotate 21 = .ok (.iload_n 3, 1) := by decide +kernel
theorem dX2_rotate_22 : decode cX2_rotate 22 = .ok (.invokevirtual 63, 3) := by decide +kernel
theorem dX2_rotate_25 : decode cX2_rotate 25 = .ok (.iconst 1, 1) := by decide +kernel
theorem dX2_rotate_26 : decode cX2_rotate 26 = .ok (.ireturn, 1) := by decide +kernel
set_option maxRecDepth 20000 in
theorem ggX2_turn_X1_hasStretch : GoodIn wsX2_turn wsX1_hasStretch := goodIn_r _ [6, 7, 23, 24, 25, 26, 27] (by decide +kernel) (by decide +kernel)
set_option maxRecDepth 20000 in
theorem gX2_turn_X1_hasStretch : GoodIn wsX2_turn (wsV RX2 37 RX1 yX1_hasStretch wsX1_hasStretch) := goodIn_app (goodIn_of _ (by decide +kernel)) ggX2_turn_X1_hasStretch
set_option maxRecDepth 20000 in
theorem ggX2_turn_X1_reverse : GoodIn wsX2_turn wsX1_reverse := goodIn_r _ [11, 12, 13, 14, 5, 15, 16, 17, 18, 23, 24, 25, 26, 27] (by decide +kernel) (by decide +kernel)
set_option maxRecDepth 20000 in
theorem gX2_turn_X1_reverse : GoodIn wsX2_turn (wsV RX2 66 RX1 yX1_reverse wsX1_reverse) := goodIn_app (goodIn_of _ (by decide +kernel)) ggX2_turn_X1_reverse
theorem dX2_turn_0 : decode cX2_turn 0 = .ok (.aload_n 0, 1) := by decide +kernel
theorem dX2_turn_1 : decode cX2_turn 1 = .ok (.getfield 10, 3) := by decide +kernel
theorem dX2_turn_4 : decode cX2_turn 4 = .ok (.iload_n 1, 1) := by decide +kernel
theorem dX2_turn_5 : decode cX2_turn 5 = .ok (.iload_n 2, 1) := by decide +kernel
theorem dX2_turn_6 : decode cX2_turn 6 = .ok (.invokevirtual 37, 3) := by decide +kernel
theorem dX2_turn_9 : decode cX2_turn 9 = .ok (.ifCond .ne 5, 3) := by decide +kernel
theorem dX2_turn_12 : decode cX2_turn 12 = .ok (.iconst 0, 1) := by decide +kernel
theorem dX2_turn_13 : decode cX2_turn 13 = .ok (.ireturn, 1) := by decide +kernel
theorem dX2_turn_14 : decode cX2_turn 14 = .ok (.aload_n 0, 1) := by decide +kernel
theorem dX2_turn_15 : decode cX2_turn 15 = .ok (.getfield 10, 3) := by decide +kernel
theorem dX2_turn_18 : decode cX2_turn 18 = .ok (.iload_n 1, 1) := by decide +kernel
theorem dX2_turn_19 : decode cX2_turn 19 = .ok (.iload_n 2, 1) := by decide +kernel
theorem dX2_turn_20 : decode cX2_turn 20 = .ok (.invokevirtual 66, 3) := by decide +kernel
theorem dX2_turn_23 : decode cX2_turn 23 = .ok (.iconst 1, 1) := by decide +kernel
theorem dX2_turn_24 : decode cX2_turn 24 = .ok (.ireturn, 1) := by decide +kernel
set_option maxRecDepth 20000 in
theorem ggX2_split_X0_exists : GoodIn wsX2_split wsX0_exists := goodIn_r _ [5] (by decide +kernel) (by decide +kernel)
set_option maxRecDepth 20000 in
theorem gX2_split_X0_exists : GoodIn wsX2_split (va_wsS RX2 32 yX0_exists wsX0_exists) := goodIn_app (goodIn_of _ (by decide +kernel)) ggX2_split_X0_exists
set_option maxRecDepth 20000 in
theorem ggX2_split_X1_hasStretch : GoodIn wsX2_split wsX1_hasStretch := goodIn_r _ [10, 11, 48, 49, 50, 51, 52] (by decide +kernel) (by decide +kernel)
set_option maxRecDepth 20000 in
theorem gX2_split_X1_hasStretch : GoodIn wsX2_split (wsV RX2 37 RX1 yX1_hasStretch wsX1_hasStretch) := goodIn_app (goodIn_of _ (by decide +kernel)) ggX2_split_X1_hasStretch
set_option maxRecDepth 20000 in
theorem ggX2_split_X1_splitInPlace : GoodIn wsX2_split wsX1_splitInPlace := goodIn_r _ [15, 16, 17, 18, 19, 20, 21, 22, 9, 23, 24, 25, 26, 4, 27, 28, 29, 30, 31, 32, 33, 34, 35, 36, 37, 38, 39, 40, 41, 42, 48, 49, 50, 51, 52] (by decide +kernel) (by decide +kernel)
set_option maxRecDepth 20000 in
theorem gX2_split_X1_splitInPlace : GoodIn wsX2_split (wsV RX2 69 RX1 yX1_splitInPlace wsX1_splitInPlace) := goodIn_app (goodIn_of _ (by decide +kernel)) ggX2_split_X1_splitInPlace
set_option maxRecDepth 20000 in
theorem ggX2_split_X1_countLess : GoodIn wsX2_split wsX1_countLess := goodIn_r _ [23, 24, 25, 26, 4, 27, 28, 48, 49, 50, 51, 52] (by decide +kernel) (by decide +kernel)
set_option maxRecDepth 20000 in
theorem gX2_split_X1_countLess : GoodIn wsX2_split (wsV RX2 73 RX1 yX1_countLess wsX1_countLess) := goodIn_app (goodIn_of _ (by decide +kernel)) ggX2_split_X1_countLess
theorem dX2_split_0 : decode cX2_split 0 = .ok (.iload 4, 2) := by decide +kernel
theorem dX2_split_2 : decode cX2_split 2 = .ok (.invokestatic 32, 3) := by decide +kernel
theorem dX2_split_5 : decode cX2_split 5 = .ok (.ifCond .eq 15, 3) := by decide +kernel
theorem dX2_split_8 : decode cX2_split 8 = .ok (.aload_n 0, 1) := by decide +kernel
theorem dX2_split_9 : decode cX2_split 9 = .ok (.getfield 10, 3) := by decide +kernel
theorem dX2_split_12 : decode cX2_split 12 = .ok (.iload_n 1, 1) := by decide +kernel
theorem dX2_split_13 : decode cX2_split 13 = .ok (.iload_n 2, 1) := by decide +kernel
theorem dX2_split_14 : decode cX2_split 14 = .ok (.invokevirtual 37, 3) := by decide +kernel
theorem dX2_split_17 : decode cX2_split 17 = .ok (.ifCond .ne 5, 3) := by decide +kernel
theorem dX2_split_20 : decode cX2_split 20 = .ok (.iconst (-1), 1) := by decide +kernel
theorem dX2_split_21 : decode cX2_split 21 = .ok (.ireturn, 1) := by decide +kernel
theorem dX2_split_22 : decode cX2_split 22 = .ok (.aload_n 0, 1) := by decide +kernel
theorem dX2_split_23 : decode cX2_split 23 = .ok (.getfield 10, 3) := by decide +kernel
theorem dX2_split_26 : decode cX2_split 26 = .ok (.iload_n 1, 1) := by decide +kernel
theorem dX2_split_27 : decode cX2_split 27 = .ok (.iload_n 2, 1) := by decide +kernel
theorem dX2_split_28 : decode cX2_split 28 = .ok (.iload_n 3, 1) := by decide +kernel
theorem dX2_split_29 : decode cX2_split 29 = .ok (.iload 4, 2) := by decide +kernel
theorem dX2_split_31 : decode cX2_split 31 = .ok (.invokevirtual 69, 3) := by decide +kernel
theorem dX2_split_34 : decode cX2_split 34 = .ok (.aload_n 0, 1) := by decide +kernel
theorem dX2_split_35 : decode cX2_split 35 = .ok (.getfield 10, 3) := by decide +kernel
theorem dX2_split_38 : decode cX2_split 38 = .ok (.iload_n 1, 1) := by decide +kernel
theorem dX2_split_39 : decode cX2_split 39 = .ok (.iload_n 2, 1) := by decide +kernel
theorem dX2_split_40 : decode cX2_split 40 = .ok (.iload_n 3, 1) := by decide +kernel
theorem dX2_split_41 : decode cX2_split 41 = .ok (.iload 4, 2) := by decide +kernel
theorem dX2_split_43 : decode cX2_split 43 = .ok (.invokevirtual 73, 3) := by decide +kernel
theorem dX2_split_46 : decode cX2_split 46 = .ok (.ireturn, 1) := by decide +kernel
set_option maxRecDepth 20000 in
theorem ggX2_thin_X0_exists : GoodIn wsX2_thin wsX0_exists := goodIn_r _ [6] (by decide +kernel) (by decide +kernel)
set_option maxRecDepth 20000 in
theorem gX2_thin_X0_exists : GoodIn wsX2_thin (va_wsS RX2 32 yX0_exists wsX0_exists) := goodIn_app (goodIn_of _ (by decide +kernel)) ggX2_thin_X0_exists
set_option maxRecDepth 20000 in
theorem ggX2_thin_X1_inOrder : GoodIn wsX2_thin wsX1_inOrder := goodIn_r _ [11, 12, 13, 14, 10, 15, 16, 17, 18, 19, 5, 20, 21, 32, 33, 34, 35, 36] (by decide +kernel) (by decide +kernel)
set_option maxRecDepth 20000 in
theorem gX2_thin_X1_inOrder : GoodIn wsX2_thin (wsV RX2 56 RX1 yX1_inOrder wsX1_inOrder) := goodIn_app (goodIn_of _ (by decide +kernel)) ggX2_thin_X1_inOrder
set_option maxRecDepth 20000 in
theorem ggX2_thin_X1_dropAlike : GoodIn wsX2_thin wsX1_dropAlike := goodIn_r _ [25, 26, 17, 27, 12, 13, 14, 10, 15, 16, 18, 19, 5, 20, 21, 32, 33, 34, 35, 36] (by decide +kernel) (by decide +kernel)
set_option maxRecDepth 20000 in
theorem gX2_thin_X1_dropAlike : GoodIn wsX2_thin (wsV RX2 77 RX1 yX1_dropAlike wsX1_dropAlike) := goodIn_app (goodIn_of _ (by decide +kernel)) ggX2_thin_X1_dropAlike
theorem dX2_thin_0 : decode cX2_thin 0 = .ok (.iload_n 1, 1) := by decide +kernel
theorem dX2_thin_1 : decode cX2_thin 1 = .ok (.invokestatic 32, 3) := by decide +kernel
theorem dX2_thin_4 : decode cX2_thin 4 = .ok (.ifCond .eq 22, 3) := by decide +kernel
theorem dX2_thin_7 : decode cX2_thin 7 = .ok (.aload_n 0, 1) := by decide +kernel
theorem dX2_thin_8 : decode cX2_thin 8 = .ok (.getfield 10, 3) := by decide +kernel
theorem dX2_thin_11 : decode cX2_thin 11 = .ok (.iconst 0, 1) := by decide +kernel
theorem dX2_thin_12 : decode cX2_thin 12 = .ok (.aload_n 0, 1) := by decide +kernel
theorem dX2_thin_13 : decode cX2_thin 13 = .ok (.getfield 10, 3) := by decide +kernel
theorem dX2_thin_16 : decode cX2_thin 16 = .ok (.getfield 24, 3) := by decide +kernel
theorem dX2_thin_19 : decode cX2_thin 19 = .ok (.iload_n 1, 1) := by decide +kernel
theorem dX2_thin_20 : decode cX2_thin 20 = .ok (.invokevirtual 56, 3) := by decide +kernel
theorem dX2_thin_23 : decode cX2_thin 23 = .ok (.ifCond .ne 5, 3) := by decide +kernel
theorem dX2_thin_26 : decode cX2_thin 26 = .ok (.iconst (-1), 1) := by decide +kernel
theorem dX2_thin_27 : decode cX2_thin 27 = .ok (.ireturn, 1) := by decide +kernel
theorem dX2_thin_28 : decode cX2_thin 28 = .ok (.aload_n 0, 1) := by decide +kernel
theorem dX2_thin_29 : decode cX2_thin 29 = .ok (.getfield 10, 3) := by decide +kernel
theorem dX2_thin_32 : decode cX2_thin 32 = .ok (.iload_n 1, 1) := by decide +kernel
theorem dX2_thin_33 : decode cX2_thin 33 = .ok (.invokevirtual 77, 3) := by decide +kernel
theorem dX2_thin_36 : decode cX2_thin 36 = .ok (.aload_n 0, 1) := by decide +kernel
theorem dX2_thin_37 : decode cX2_thin 37 = .ok (.getfield 10, 3) := by decide +kernel
theorem dX2_thin_40 : decode cX2_thin 40 = .ok (.getfield 24, 3) := by decide +kernel
theorem dX2_thin_43 : decode cX2_thin 43 = .ok (.ireturn, 1) := by decide +kernel
set_option maxRecDepth 20000 in
theorem ggX2_sorted_X0_exists : GoodIn wsX2_sorted wsX0_exists := goodIn_r _ [5] (by decide +kernel) (by decide +kernel)
set_option maxRecDepth 20000 in
theorem gX2_sorted_X0_exists : GoodIn wsX2_sorted (va_wsS RX2 32 yX0_exists wsX0_exists) := goodIn_app (goodIn_of _ (by decide +kernel)) ggX2_sorted_X0_exists
set_option maxRecDepth 20000 in
theorem ggX2_sorted_X1_hasStretch : GoodIn wsX2_sorted wsX1_hasStretch := goodIn_r _ [10, 11, 30, 31, 32, 33, 34] (by decide +kernel) (by decide +kernel)
set_option maxRecDepth 20000 in
theorem gX2_sorted_X1_hasStretch : GoodIn wsX2_sorted (wsV RX2 37 RX1 yX1_hasStretch wsX1_hasStretch) := goodIn_app (goodIn_of _ (by decide +kernel)) ggX2_sorted_X1_hasStretch
set_option maxRecDepth 20000 in
theorem ggX2_sorted_X1_inOrder : GoodIn wsX2_sorted wsX1_inOrder := goodIn_r _ [15, 16, 17, 18, 9, 19, 20, 21, 22, 23, 4, 24, 25, 30, 31, 32, 33, 34] (by decide +kernel) (by decide +kernel)
set_option maxRecDepth 20000 in
theorem gX2_sorted_X1_inOrder : GoodIn wsX2_sorted (wsV RX2 56 RX1 yX1_inOrder wsX1_inOrder) := goodIn_app (goodIn_of _ (by decide +kernel)) ggX2_sorted_X1_inOrder
theorem dX2_sorted_0 : decode cX2_sorted 0 = .ok (.iload_n 3, 1) := by decide +kernel
theorem dX2_sorted_1 : decode cX2_sorted 1 = .ok (.invokestatic 32, 3) := by decide +kernel
theorem dX2_sorted_4 : decode cX2_sorted 4 = .ok (.ifCond .eq 15, 3) := by decide +kernel
theorem dX2_sorted_7 : decode cX2_sorted 7 = .ok (.aload_n 0, 1) := by decide +kernel
theorem dX2_sorted_8 : decode cX2_sorted 8 = .ok (.getfield 10, 3) := by decide +kernel
theorem dX2_sorted_11 : decode cX2_sorted 11 = .ok (.iload_n 1, 1) := by decide +kernel
theorem dX2_sorted_12 : decode cX2_sorted 12 = .ok (.iload_n 2, 1) := by decide +kernel
theorem dX2_sorted_13 : decode cX2_sorted 13 = .ok (.invokevirtual 37, 3) := by decide +kernel
theorem dX2_sorted_16 : decode cX2_sorted 16 = .ok (.ifCond .ne 5, 3) := by decide +kernel
theorem dX2_sorted_19 : decode cX2_sorted 19 = .ok (.iconst (-1), 1) := by decide +kernel
theorem dX2_sorted_20 : decode cX2_sorted 20 = .ok (.ireturn, 1) := by decide +kernel
theorem dX2_sorted_21 : decode cX2_sorted 21 = .ok (.aload_n 0, 1) := by decide +kernel
theorem dX2_sorted_22 : decode cX2_sorted 22 = .ok (.getfield 10, 3) := by decide +kernel
theorem dX2_sorted_25 : decode cX2_sorted 25 = .ok (.iload_n 1, 1) := by decide +kernel
theorem dX2_sorted_26 : decode cX2_sorted 26 = .ok (.iload_n 2, 1) := by decide +kernel
theorem dX2_sorted_27 : decode cX2_sorted 27 = .ok (.iload_n 3, 1) := by decide +kernel
theorem dX2_sorted_28 : decode cX2_sorted 28 = .ok (.invokevirtual 56, 3) := by decide +kernel
theorem dX2_sorted_31 : decode cX2_sorted 31 = .ok (.ifCond .eq 7, 3) := by decide +kernel
theorem dX2_sorted_34 : decode cX2_sorted 34 = .ok (.iconst 1, 1) := by decide +kernel
theorem dX2_sorted_35 : decode cX2_sorted 35 = .ok (.goto 4, 3) := by decide +kernel
theorem dX2_sorted_38 : decode cX2_sorted 38 = .ok (.iconst 0, 1) := by decide +kernel
theorem dX2_sorted_39 : decode cX2_sorted 39 = .ok (.ireturn, 1) := by decide +kernel
set_option maxRecDepth 20000 in
theorem ggX2_find_X0_exists : GoodIn wsX2_find wsX0_exists := goodIn_r _ [6] (by decide +kernel) (by decide +kernel)
set_option maxRecDepth 20000 in
theorem gX2_find_X0_exists : GoodIn wsX2_find (va_wsS RX2 32 yX0_exists wsX0_exists) := goodIn_app (goodIn_of _ (by decide +kernel)) ggX2_find_X0_exists
set_option maxRecDepth 20000 in
theorem ggX2_find_X1_inOrder : GoodIn wsX2_find wsX1_inOrder := goodIn_r _ [11, 12, 13, 14, 10, 15, 16, 17, 18, 19, 5, 20, 21, 34, 35, 36, 37, 38] (by decide +kernel) (by decide +kernel)
set_option maxRecDepth 20000 in
theorem gX2_find_X1_inOrder : GoodIn wsX2_find (wsV RX2 56 RX1 yX1_inOrder wsX1_inOrder) := goodIn_app (goodIn_of _ (by decide +kernel)) ggX2_find_X1_inOrder
set_option maxRecDepth 20000 in
theorem ggX2_find_X1_countLess : GoodIn wsX2_find wsX1_countLess := goodIn_r _ [25, 17, 18, 19, 5, 20, 21, 34, 35, 36, 37, 38] (by decide +kernel) (by decide +kernel)
set_option maxRecDepth 20000 in
theorem gX2_find_X1_countLess : GoodIn wsX2_find (wsV RX2 73 RX1 yX1_countLess wsX1_countLess) := goodIn_app (goodIn_of _ (by decide +kernel)) ggX2_find_X1_countLess
set_option maxRecDepth 20000 in
theorem ggX2_find_X1_countNotMore : GoodIn wsX2_find wsX1_countNotMore := goodIn_r _ [29, 17, 18, 19, 5, 20, 21, 34, 35, 36, 37, 38] (by decide +kernel) (by decide +kernel)
set_option maxRecDepth 20000 in
theorem gX2_find_X1_countNotMore : GoodIn wsX2_find (wsV RX2 80 RX1 yX1_countNotMore wsX1_countNotMore) := goodIn_app (goodIn_of _ (by decide +kernel)) ggX2_find_X1_countNotMore
theorem dX2_find_0 : decode cX2_find 0 = .ok (.iload_n 3, 1) := by decide +kernel
theorem dX2_find_1 : decode cX2_find 1 = .ok (.ifCond .eq 8, 3) := by decide +kernel
theorem dX2_find_4 : decode cX2_find 4 = .ok (.iload_n 3, 1) := by decide +kernel
theorem dX2_find_5 : decode cX2_find 5 = .ok (.iconst 1, 1) := by decide +kernel
theorem dX2_find_6 : decode cX2_find 6 = .ok (.if_icmp .ne 7, 3) := by decide +kernel
theorem dX2_find_9 : decode cX2_find 9 = .ok (.iconst 1, 1) := by decide +kernel
theorem dX2_find_10 : decode cX2_find 10 = .ok (.goto 4, 3) := by decide +kernel
theorem dX2_find_13 : decode cX2_find 13 = .ok (.iconst 0, 1) := by decide +kernel
theorem dX2_find_14 : decode cX2_find 14 = .ok (.istore 4, 2) := by decide +kernel
theorem dX2_find_16 : decode cX2_find 16 = .ok (.iload 4, 2) := by decide +kernel
theorem dX2_find_18 : decode cX2_find 18 = .ok (.ifCond .eq 29, 3) := by decide +kernel
theorem dX2_find_21 : decode cX2_find 21 = .ok (.iload_n 2, 1) := by decide +kernel
theorem dX2_find_22 : decode cX2_find 22 = .ok (.invokestatic 32, 3) := by decide +kernel
theorem dX2_find_25 : decode cX2_find 25 = .ok (.ifCond .eq 22, 3) := by decide +kernel
theorem dX2_find_28 : decode cX2_find 28 = .ok (.aload_n 0, 1) := by decide +kernel
theorem dX2_find_29 : decode cX2_find 29 = .ok (.getfield 10, 3) := by decide +kernel
theorem dX2_find_32 : decode cX2_find 32 = .ok (.iconst 0, 1) := by decide +kernel
theorem dX2_find_33 : decode cX2_find 33 = .ok (.aload_n 0, 1) := by decide +kernel
theorem dX2_find_34 : decode cX2_find 34 = .ok (.getfield 10, 3) := by decide +kernel
theorem dX2_find_37 : decode cX2_find 37 = .ok (.getfield 24, 3) := by decide +kernel
theorem dX2_find_40 : decode cX2_find 40 = .ok (.iload_n 2, 1) := by decide +kernel
theorem dX2_find_41 : decode cX2_find 41 = .ok (.invokevirtual 56, 3) := by decide +kernel
theorem dX2_find_44 : decode cX2_find 44 = .ok (.ifCond .ne 5, 3) := by decide +kernel
theorem dX2_find_47 : decode cX2_find 47 = .ok (.iconst (-1), 1) := by decide +kernel
theorem dX2_find_48 : decode cX2_find 48 = .ok (.ireturn, 1) := by decide +kernel
theorem dX2_find_49 : decode cX2_find 49 = .ok (.iload_n 3, 1) := by decide +kernel
theorem dX2_find_50 : decode cX2_find 50 = .ok (.ifCond .ne 23, 3) := by decide +kernel
theorem dX2_find_53 : decode cX2_find 53 = .ok (.aload_n 0, 1) := by decide +kernel
theorem dX2_find_54 : decode cX2_find 54 = .ok (.getfield 10, 3) := by decide +kernel
theorem dX2_find_57 : decode cX2_find 57 = .ok (.iconst 0, 1) := by decide +kernel
theorem dX2_find_58 : decode cX2_find 58 = .ok (.aload_n 0, 1) := by decide +kernel
theorem dX2_find_59 : decode cX2_find 59 = .ok (.getfield 10, 3) := by decide +kernel
theorem dX2_find_62 : decode cX2_find 62 = .ok (.getfield 24, 3) := by decide +kernel
theorem dX2_find_65 : decode cX2_find 65 = .ok (.iload_n 1, 1) := by decide +kernel
theorem dX2_find_66 : decode cX2_find 66 = .ok (.iload_n 2, 1) := by decide +kernel
theorem dX2_find_67 : decode cX2_find 67 = .ok (.invokevirtual 73, 3) := by decide +kernel
theorem dX2_find_70 : decode cX2_find 70 = .ok (.goto 20, 3) := by decide +kernel
theorem dX2_find_73 : decode cX2_find 73 = .ok (.aload_n 0, 1) := by decide +kernel
theorem dX2_find_74 : decode cX2_find 74 = .ok (.getfield 10, 3) := by decide +kernel
theorem dX2_find_77 : decode cX2_find 77 = .ok (.iconst 0, 1) := by decide +kernel
theorem dX2_find_78 : decode cX2_find 78 = .ok (.aload_n 0, 1) := by decide +kernel
theorem dX2_find_79 : decode cX2_find 79 = .ok (.getfield 10, 3) := by decide +kernel
theorem dX2_find_82 : decode cX2_find 82 = .ok (.getfield 24, 3) := by decide +kernel
theorem dX2_find_85 : decode cX2_find 85 = .ok (.iload_n 1, 1) := by decide +kernel
theorem dX2_find_86 : decode cX2_find 86 = .ok (.iload_n 2, 1) := by decide +kernel
theorem dX2_find_87 : decode cX2_find 87 = .ok (.invokevirtual 80, 3) := by decide +kernel
theorem dX2_find_90 : decode cX2_find 90 = .ok (.ireturn, 1) := by decide +kernel
set_option maxRecDepth 20000 in
theorem ggX2_rank_X0_exists : GoodIn wsX2_rank wsX0_exists := goodIn_r _ [7] (by decide +kernel) (by decide +kernel)
set_option maxRecDepth 20000 in
theorem gX2_rank_X0_exists : GoodIn wsX2_rank (va_wsS RX2 32 yX0_exists wsX0_exists) := goodIn_app (goodIn_of _ (by decide +kernel)) ggX2_rank_X0_exists
set_option maxRecDepth 20000 in
theorem ggX2_rank_X1_hasPlace : GoodIn wsX2_rank wsX1_hasPlace := goodIn_r _ [12, 13, 31, 32, 33, 34, 35] (by decide +kernel) (by decide +kernel)
set_option maxRecDepth 20000 in
theorem gX2_rank_X1_hasPlace : GoodIn wsX2_rank (wsV RX2 83 RX1 yX1_hasPlace wsX1_hasPlace) := goodIn_app (goodIn_of _ (by decide +kernel)) ggX2_rank_X1_hasPlace
set_option maxRecDepth 20000 in
theorem ggX2_rank_X1_countNotMore : GoodIn wsX2_rank wsX1_countNotMore := goodIn_r _ [17, 18, 19, 20, 6, 21, 22, 31, 32, 33, 34, 35] (by decide +kernel) (by decide +kernel)
set_option maxRecDepth 20000 in
theorem gX2_rank_X1_countNotMore : GoodIn wsX2_rank (wsV RX2 80 RX1 yX1_countNotMore wsX1_countNotMore) := goodIn_app (goodIn_of _ (by decide +kernel)) ggX2_rank_X1_countNotMore
set_option maxRecDepth 20000 in
theorem ggX2_rank_X1_countLess : GoodIn wsX2_rank wsX1_countLess := goodIn_r _ [26, 18, 19, 20, 6, 21, 22, 31, 32, 33, 34, 35] (by decide +kernel) (by decide +kernel)
set_option maxRecDepth 20000 in
theorem gX2_rank_X1_countLess : GoodIn wsX2_rank (wsV RX2 73 RX1 yX1_countLess wsX1_countLess) := goodIn_app (goodIn_of _ (by decide +kernel)) ggX2_rank_X1_countLess
theorem dX2_rank_0 : decode cX2_rank 0 = .ok (.iload_n 2, 1) := by decide +kernel
theorem dX2_rank_1 : decode cX2_rank 1 = .ok (.invokestatic 32, 3) := by decide +kernel
theorem dX2_rank_4 : decode cX2_rank 4 = .ok (.ifCond .eq 14, 3) := by decide +kernel
theorem dX2_rank_7 : decode cX2_rank 7 = .ok (.aload_n 0, 1) := by decide +kernel
theorem dX2_rank_8 : decode cX2_rank 8 = .ok (.getfield 10, 3) := by decide +kernel
theorem dX2_rank_11 : decode cX2_rank 11 = .ok (.iload_n 1, 1) := by decide +kernel
theorem dX2_rank_12 : decode cX2_rank 12 = .ok (.invokevirtual 83, 3) := by decide +kernel
theorem dX2_rank_15 : decode cX2_rank 15 = .ok (.ifCond .ne 5, 3) := by decide +kernel
theorem dX2_rank_18 : decode cX2_rank 18 = .ok (.iconst (-1), 1) := by decide +kernel
theorem dX2_rank_19 : decode cX2_rank 19 = .ok (.ireturn, 1) := by decide +kernel
theorem dX2_rank_20 : decode cX2_rank 20 = .ok (.aload_n 0, 1) := by decide +kernel
theorem dX2_rank_21 : decode cX2_rank 21 = .ok (.getfield 10, 3) := by decide +kernel
theorem dX2_rank_24 : decode cX2_rank 24 = .ok (.getfield 86, 3) := by decide +kernel
theorem dX2_rank_27 : decode cX2_rank 27 = .ok (.iload_n 1, 1) := by decide +kernel
theorem dX2_rank_28 : decode cX2_rank 28 = .ok (.iaload, 1) := by decide +kernel
theorem dX2_rank_29 : decode cX2_rank 29 = .ok (.istore_n 3, 1) := by decide +kernel
theorem dX2_rank_30 : decode cX2_rank 30 = .ok (.aload_n 0, 1) := by decide +kernel
theorem dX2_rank_31 : decode cX2_rank 31 = .ok (.getfield 10, 3) := by decide +kernel
theorem dX2_rank_34 : decode cX2_rank 34 = .ok (.iconst 0, 1) := by decide +kernel
theorem dX2_rank_35 : decode cX2_rank 35 = .ok (.iload_n 1, 1) := by decide +kernel
theorem dX2_rank_36 : decode cX2_rank 36 = .ok (.iload_n 3, 1) := by decide +kernel
theorem dX2_rank_37 : decode cX2_rank 37 = .ok (.iload_n 2, 1) := by decide +kernel
theorem dX2_rank_38 : decode cX2_rank 38 = .ok (.invokevirtual 80, 3) := by decide +kernel
theorem dX2_rank_41 : decode cX2_rank 41 = .ok (.aload_n 0, 1) := by decide +kernel
theorem dX2_rank_42 : decode cX2_rank 42 = .ok (.getfield 10, 3) := by decide +kernel
theorem dX2_rank_45 : decode cX2_rank 45 = .ok (.iload_n 1, 1) := by decide +kernel
theorem dX2_rank_46 : decode cX2_rank 46 = .ok (.aload_n 0, 1) := by decide +kernel
theorem dX2_rank_47 : decode cX2_rank 47 = .ok (.getfield 10, 3) := by decide +kernel
theorem dX2_rank_50 : decode cX2_rank 50 = .ok (.getfield 24, 3) := by decide +kernel
theorem dX2_rank_53 : decode cX2_rank 53 = .ok (.iload_n 3, 1) := by decide +kernel
theorem dX2_rank_54 : decode cX2_rank 54 = .ok (.iload_n 2, 1) := by decide +kernel
theorem dX2_rank_55 : decode cX2_rank 55 = .ok (.invokevirtual 73, 3) := by decide +kernel
theorem dX2_rank_58 : decode cX2_rank 58 = .ok (.iadd, 1) := by decide +kernel
theorem dX2_rank_59 : decode cX2_rank 59 = .ok (.ireturn, 1) := by decide +kernel
set_option maxRecDepth 20000 in
theorem ggX2_key_X1_hasPlace : GoodIn wsX2_key wsX1_hasPlace := goodIn_r _ [7, 8, 13, 14, 15, 16, 17] (by decide +kernel) (by decide +kernel)
set_option maxRecDepth 20000 in
theorem gX2_key_X1_hasPlace : GoodIn wsX2_key (wsV RX2 83 RX1 yX1_hasPlace wsX1_hasPlace) := goodIn_app (goodIn_of _ (by decide +kernel)) ggX2_key_X1_hasPlace
theorem dX2_key_0 : decode cX2_key 0 = .ok (.aload_n 0, 1) := by decide +kernel
theorem dX2_key_1 : decode cX2_key 1 = .ok (.getfield 10, 3) := by decide +kernel
theorem dX2_key_4 : decode cX2_key 4 = .ok (.iload_n 1, 1) := by decide +kernel
theorem dX2_key_5 : decode cX2_key 5 = .ok (.invokevirtual 83, 3) := by decide +kernel
theorem dX2_key_8 : decode cX2_key 8 = .ok (.ifCond .eq 15, 3) := by decide +kernel
theorem dX2_key_11 : decode cX2_key 11 = .ok (.aload_n 0, 1) := by decide +kernel
theorem dX2_key_12 : decode cX2_key 12 = .ok (.getfield 10, 3) := by decide +kernel
theorem dX2_key_15 : decode cX2_key 15 = .ok (.getfield 86, 3) := by decide +kernel
theorem dX2_key_18 : decode cX2_key 18 = .ok (.iload_n 1, 1) := by decide +kernel
theorem dX2_key_19 : decode cX2_key 19 = .ok (.iaload, 1) := by decide +kernel
theorem dX2_key_20 : decode cX2_key 20 = .ok (.goto 4, 3) := by decide +kernel
theorem dX2_key_23 : decode cX2_key 23 = .ok (.iconst 0, 1) := by decide +kernel
theorem dX2_key_24 : decode cX2_key 24 = .ok (.ireturn, 1) := by decide +kernel
set_option maxRecDepth 20000 in
theorem ggX2_tag_X1_hasPlace : GoodIn wsX2_tag wsX1_hasPlace := goodIn_r _ [7, 8, 13, 14, 15, 16, 17] (by decide +kernel) (by decide +kernel)
set_option maxRecDepth 20000 in
theorem gX2_tag_X1_hasPlace : GoodIn wsX2_tag (wsV RX2 83 RX1 yX1_hasPlace wsX1_hasPlace) := goodIn_app (goodIn_of _ (by decide +kernel)) ggX2_tag_X1_hasPlace
theorem dX2_tag_0 : decode cX2_tag 0 = .ok (.aload_n 0, 1) := by decide +kernel
theorem dX2_tag_1 : decode cX2_tag 1 = .ok (.getfield 10, 3) := by decide +kernel
theorem dX2_tag_4 : decode cX2_tag 4 = .ok (.iload_n 1, 1) := by decide +kernel
theorem dX2_tag_5 : decode cX2_tag 5 = .ok (.invokevirtual 83, 3) := by decide +kernel
theorem dX2_tag_8 : decode cX2_tag 8 = .ok (.ifCond .eq 15, 3) := by decide +kernel
theorem dX2_tag_11 : decode cX2_tag 11 = .ok (.aload_n 0, 1) := by decide +kernel
theorem dX2_tag_12 : decode cX2_tag 12 = .ok (.getfield 10, 3) := by decide +kernel
theorem dX2_tag_15 : decode cX2_tag 15 = .ok (.getfield 90, 3) := by decide +kernel
theorem dX2_tag_18 : decode cX2_tag 18 = .ok (.iload_n 1, 1) := by decide +kernel
theorem dX2_tag_19 : decode cX2_tag 19 = .ok (.iaload, 1) := by decide +kernel
theorem dX2_tag_20 : decode cX2_tag 20 = .ok (.goto 4, 3) := by decide +kernel
theorem dX2_tag_23 : decode cX2_tag 23 = .ok (.iconst 0, 1) := by decide +kernel
theorem dX2_tag_24 : decode cX2_tag 24 = .ok (.ireturn, 1) := by decide +kernel
set_option maxRecDepth 20000 in
theorem ggX2_count_X1_countSortedStretches : GoodIn wsX2_count wsX1_countSortedStretches := goodIn_r _ [7, 8, 9, 22, 23, 24, 25, 26] (by decide +kernel) (by decide +kernel)
set_option maxRecDepth 20000 in
theorem gX2_count_X1_countSortedStretches : GoodIn wsX2_count (wsV RX2 93 RX1 yX1_countSortedStretches wsX1_countSortedStretches) := goodIn_app (goodIn_of _ (by decide +kernel)) ggX2_count_X1_countSortedStretches
set_option maxRecDepth 20000 in
theorem ggX2_count_X1_countDifferentKeys : GoodIn wsX2_count wsX1_countDifferentKeys := goodIn_r _ [13, 8, 14, 15, 16, 6, 17, 9, 22, 23, 24, 25, 26] (by decide +kernel) (by decide +kernel)
set_option maxRecDepth 20000 in
theorem gX2_count_X1_countDifferentKeys : GoodIn wsX2_count (wsV RX2 97 RX1 yX1_countDifferentKeys wsX1_countDifferentKeys) := goodIn_app (goodIn_of _ (by decide +kernel)) ggX2_count_X1_countDifferentKeys
theorem dX2_count_0 : decode cX2_count 0 = .ok (.iload_n 1, 1) := by decide +kernel
theorem dX2_count_1 : decode cX2_count 1 = .ok (.tableswitch 51 0 2 #[27, 35, 43], 27) := by decide +kernel
theorem dX2_count_28 : decode cX2_count 28 = .ok (.aload_n 0, 1) := by decide +kernel
theorem dX2_count_29 : decode cX2_count 29 = .ok (.getfield 10, 3) := by decide +kernel
theorem dX2_count_32 : decode cX2_count 32 = .ok (.getfield 24, 3) := by decide +kernel
theorem dX2_count_35 : decode cX2_count 35 = .ok (.ireturn, 1) := by decide +kernel
theorem dX2_count_36 : decode cX2_count 36 = .ok (.aload_n 0, 1) := by decide +kernel
theorem dX2_count_37 : decode cX2_count 37 = .ok (.getfield 10, 3) := by decide +kernel
theorem dX2_count_40 : decode cX2_count 40 = .ok (.invokevirtual 93, 3) := by decide +kernel
theorem dX2_count_43 : decode cX2_count 43 = .ok (.ireturn, 1) := by decide +kernel
theorem dX2_count_44 : decode cX2_count 44 = .ok (.aload_n 0, 1) := by decide +kernel
theorem dX2_count_45 : decode cX2_count 45 = .ok (.getfield 10, 3) := by decide +kernel
theorem dX2_count_48 : decode cX2_count 48 = .ok (.invokevirtual 97, 3) := by decide +kernel
theorem dX2_count_51 : decode cX2_count 51 = .ok (.ireturn, 1) := by decide +kernel
theorem dX2_count_52 : decode cX2_count 52 = .ok (.iconst (-1), 1) := by decide +kernel
theorem dX2_count_53 : decode cX2_count 53 = .ok (.ireturn, 1) := by decide +kernel
set_option maxRecDepth 20000 in
theorem ggX2_check_X2_levels : GoodIn wsX2_check wsX2_levels := goodIn_r _ [7] (by decide +kernel) (by decide +kernel)
set_option maxRecDepth 20000 in
theorem gX2_check_X2_levels : GoodIn wsX2_check (va_wsS RX2 103 yX2_levels wsX2_levels) := goodIn_app (goodIn_of _ (by decide +kernel)) ggX2_check_X2_levels
theorem dX2_check_0 : decode cX2_check 0 = .ok (.aload_n 0, 1) := by decide +kernel
theorem dX2_check_1 : decode cX2_check 1 = .ok (.getfield 100, 3) := by decide +kernel
theorem dX2_check_4 : decode cX2_check 4 = .ok (.aload_n 0, 1) := by decide +kernel
theorem dX2_check_5 : decode cX2_check 5 = .ok (.getfield 100, 3) := by decide +kernel
theorem dX2_check_8 : decode cX2_check 8 = .ok (.invokestatic 103, 3) := by decide +kernel
theorem dX2_check_11 : decode cX2_check 11 = .ok (.imul, 1) := by decide +kernel
theorem dX2_check_12 : decode cX2_check 12 = .ok (.istore_n 1, 1) := by decide +kernel
theorem dX2_check_13 : decode cX2_check 13 = .ok (.aload_n 0, 1) := by decide +kernel
theorem dX2_check_14 : decode cX2_check 14 = .ok (.getfield 107, 3) := by decide +kernel
theorem dX2_check_17 : decode cX2_check 17 = .ok (.bipush 8, 2) := by decide +kernel
theorem dX2_check_19 : decode cX2_check 19 = .ok (.iload_n 1, 1) := by decide +kernel
theorem dX2_check_20 : decode cX2_check 20 = .ok (.imul, 1) := by decide +kernel
theorem dX2_check_21 : decode cX2_check 21 = .ok (.if_icmp .gt 18, 3) := by decide +kernel
theorem dX2_check_24 : decode cX2_check 24 = .ok (.aload_n 0, 1) := by decide +kernel
theorem dX2_check_25 : decode cX2_check 25 = .ok (.getfield 110, 3) := by decide +kernel
theorem dX2_check_28 : decode cX2_check 28 = .ok (.bipush 40, 2) := by decide +kernel
theorem dX2_check_30 : decode cX2_check 30 = .ok (.iload_n 1, 1) := by decide +kernel
theorem dX2_check_31 : decode cX2_check 31 = .ok (.imul, 1) := by decide +kernel
theorem dX2_check_32 : decode cX2_check 32 = .ok (.if_icmp .gt 7, 3) := by decide +kernel
theorem dX2_check_35 : decode cX2_check 35 = .ok (.iconst 1, 1) := by decide +kernel
theorem dX2_check_36 : decode cX2_check 36 = .ok (.goto 4, 3) := by decide +kernel
theorem dX2_check_39 : decode cX2_check 39 = .ok (.iconst 0, 1) := by decide +kernel
theorem dX2_check_40 : decode cX2_check 40 = .ok (.istore_n 2, 1) := by decide +kernel
theorem dX2_check_41 : decode cX2_check 41 = .ok (.iload_n 2, 1) := by decide +kernel
theorem dX2_check_42 : decode cX2_check 42 = .ok (.ifCond .eq 7, 3) := by decide +kernel
theorem dX2_check_45 : decode cX2_check 45 = .ok (.iconst 1, 1) := by decide +kernel
theorem dX2_check_46 : decode cX2_check 46 = .ok (.goto 4, 3) := by decide +kernel
theorem dX2_check_49 : decode cX2_check 49 = .ok (.iconst 0, 1) := by decide +kernel
theorem dX2_check_50 : decode cX2_check 50 = .ok (.ireturn, 1) := by decide +kernel
theorem dX2_keepCounts_0 : decode cX2_keepCounts 0 = .ok (.aload_n 0, 1) := by decide +kernel
theorem dX2_keepCounts_1 : decode cX2_keepCounts 1 = .ok (.iload_n 1, 1) := by decide +kernel
theorem dX2_keepCounts_2 : decode cX2_keepCounts 2 = .ok (.putfield 100, 3) := by decide +kernel
theorem dX2_keepCounts_5 : decode cX2_keepCounts 5 = .ok (.aload_n 0, 1) := by decide +kernel
theorem dX2_keepCounts_6 : decode cX2_keepCounts 6 = .ok (.aload_n 0, 1) := by decide +kernel
theorem dX2_keepCounts_7 : decode cX2_keepCounts 7 = .ok (.getfield 10, 3) := by decide +kernel
theorem dX2_keepCounts_10 : decode cX2_keepCounts 10 = .ok (.getfield 113, 3) := by decide +kernel
theorem dX2_keepCounts_13 : decode cX2_keepCounts 13 = .ok (.putfield 107, 3) := by decide +kernel
theorem dX2_keepCounts_16 : decode cX2_keepCounts 16 = .ok (.aload_n 0, 1) := by decide +kernel
theorem dX2_keepCounts_17 : decode cX2_keepCounts 17 = .ok (.aload_n 0, 1) := by decide +kernel
theorem dX2_keepCounts_18 : decode cX2_keepCounts 18 = .ok (.getfield 10, 3) := by decide +kernel
theorem dX2_keepCounts_21 : decode cX2_keepCounts 21 = .ok (.getfield 116, 3) := by decide +kernel
theorem dX2_keepCounts_24 : decode cX2_keepCounts 24 = .ok (.putfield 110, 3) := by decide +kernel
theorem dX2_keepCounts_27 : decode cX2_keepCounts 27 = .ok (.return_, 1) := by decide +kernel
theorem dX2_levels_0 : decode cX2_levels 0 = .ok (.iconst 1, 1) := by decide +kernel
theorem dX2_levels_1 : decode cX2_levels 1 = .ok (.istore_n 1, 1) := by decide +kernel
theorem dX2_levels_2 : decode cX2_levels 2 = .ok (.iload_n 1, 1) := by decide +kernel
theorem dX2_levels_3 : decode cX2_levels 3 = .ok (.bipush 16, 2) := by decide +kernel
theorem dX2_levels_5 : decode cX2_levels 5 = .ok (.if_icmp .ge 16, 3) := by decide +kernel
theorem dX2_levels_8 : decode cX2_levels 8 = .ok (.iconst 1, 1) := by decide +kernel
theorem dX2_levels_9 : decode cX2_levels 9 = .ok (.iload_n 1, 1) := by decide +kernel
theorem dX2_levels_10 : decode cX2_levels 10 = .ok (.ishl, 1) := by decide +kernel
theorem dX2_levels_11 : decode cX2_levels 11 = .ok (.iload_n 0, 1) := by decide +kernel
theorem dX2_levels_12 : decode cX2_levels 12 = .ok (.if_icmp .ge 9, 3) := by decide +kernel
theorem dX2_levels_15 : decode cX2_levels 15 = .ok (.iinc 1 1, 3) := by decide +kernel
theorem dX2_levels_18 : decode cX2_levels 18 = .ok (.goto (-16), 3) := by decide +kernel
theorem dX2_levels_21 : decode cX2_levels 21 = .ok (.iload_n 1, 1) := by decide +kernel
theorem dX2_levels_22 : decode cX2_levels 22 = .ok (.ireturn, 1) := by decide +kernel
