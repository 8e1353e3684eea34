theorem dX1_init_0 : decode cX1_init 0 = .ok (.aload_n 0, 1) := by decide +kernel
theorem dX1_init_1 : decode cX1_init 1 = .ok (.invokespecial 1, 3) := by decide +kernel
theorem dX1_init_4 : decode cX1_init 4 = .ok (.aload_n 0, 1) := by decide +kernel
theorem dX1_init_5 : decode cX1_init 5 = .ok (.sipush 500, 3) := by decide +kernel
theorem dX1_init_8 : decode cX1_init 8 = .ok (.newarray .int, 2) := by decide +kernel
theorem dX1_init_10 : decode cX1_init 10 = .ok (.putfield 9, 3) := by decide +kernel
theorem dX1_init_13 : decode cX1_init 13 = .ok (.aload_n 0, 1) := by decide +kernel
theorem dX1_init_14 : decode cX1_init 14 = .ok (.sipush 500, 3) := by decide +kernel
theorem dX1_init_17 : decode cX1_init 17 = .ok (.newarray .int, 2) := by decide +kernel
theorem dX1_init_19 : decode cX1_init 19 = .ok (.putfield 13, 3) := by decide +kernel
theorem dX1_init_22 : decode cX1_init 22 = .ok (.return_, 1) := by decide +kernel
theorem dX1_hasRoomFor_0 : decode cX1_hasRoomFor 0 = .ok (.iload_n 1, 1) := by decide +kernel
theorem dX1_hasRoomFor_1 : decode cX1_hasRoomFor 1 = .ok (.sipush 500, 3) := by decide +kernel
theorem dX1_hasRoomFor_4 : decode cX1_hasRoomFor 4 = .ok (.aload_n 0, 1) := by decide +kernel
theorem dX1_hasRoomFor_5 : decode cX1_hasRoomFor 5 = .ok (.getfield 16, 3) := by decide +kernel
theorem dX1_hasRoomFor_8 : decode cX1_hasRoomFor 8 = .ok (.isub, 1) := by decide +kernel
theorem dX1_hasRoomFor_9 : decode cX1_hasRoomFor 9 = .ok (.if_icmp .gt 7, 3) := by decide +kernel
theorem dX1_hasRoomFor_12 : decode cX1_hasRoomFor 12 = .ok (.iconst 1, 1) := by decide +kernel
theorem dX1_hasRoomFor_13 : decode cX1_hasRoomFor 13 = .ok (.goto 4, 3) := by decide +kernel
theorem dX1_hasRoomFor_16 : decode cX1_hasRoomFor 16 = .ok (.iconst 0, 1) := by decide +kernel
theorem dX1_hasRoomFor_17 : decode cX1_hasRoomFor 17 = .ok (.ireturn, 1) := by decide +kernel
theorem dX1_hasPlace_0 : decode cX1_hasPlace 0 = .ok (.iload_n 1, 1) := by decide +kernel
theorem dX1_hasPlace_1 : decode cX1_hasPlace 1 = .ok (.ifCond .lt 15, 3) := by decide +kernel
theorem dX1_hasPlace_4 : decode cX1_hasPlace 4 = .ok (.iload_n 1, 1) := by decide +kernel
theorem dX1_hasPlace_5 : decode cX1_hasPlace 5 = .ok (.aload_n 0, 1) := by decide +kernel
theorem dX1_hasPlace_6 : decode cX1_hasPlace 6 = .ok (.getfield 16, 3) := by decide +kernel
theorem dX1_hasPlace_9 : decode cX1_hasPlace 9 = .ok (.if_icmp .ge 7, 3) := by decide +kernel
theorem dX1_hasPlace_12 : decode cX1_hasPlace 12 = .ok (.iconst 1, 1) := by decide +kernel
theorem dX1_hasPlace_13 : decode cX1_hasPlace 13 = .ok (.goto 4, 3) := by decide +kernel
theorem dX1_hasPlace_16 : decode cX1_hasPlace 16 = .ok (.iconst 0, 1) := by decide +kernel
theorem dX1_hasPlace_17 : decode cX1_hasPlace 17 = .ok (.ireturn, 1) := by decide +kernel
theorem dX1_hasStretch_0 : decode cX1_hasStretch 0 = .ok (.iload_n 1, 1) := by decide +kernel
theorem dX1_hasStretch_1 : decode cX1_hasStretch 1 = .ok (.ifCond .lt 20, 3) := by decide +kernel
theorem dX1_hasStretch_4 : decode cX1_hasStretch 4 = .ok (.iload_n 1, 1) := by decide +kernel
theorem dX1_hasStretch_5 : decode cX1_hasStretch 5 = .ok (.iload_n 2, 1) := by decide +kernel
theorem dX1_hasStretch_6 : decode cX1_hasStretch 6 = .ok (.if_icmp .gt 15, 3) := by decide +kernel
theorem dX1_hasStretch_9 : decode cX1_hasStretch 9 = .ok (.iload_n 2, 1) := by decide +kernel
theorem dX1_hasStretch_10 : decode cX1_hasStretch 10 = .ok (.aload_n 0, 1) := by decide +kernel
theorem dX1_hasStretch_11 : decode cX1_hasStretch 11 = .ok (.getfield 16, 3) := by decide +kernel
theorem dX1_hasStretch_14 : decode cX1_hasStretch 14 = .ok (.if_icmp .gt 7, 3) := by decide +kernel
theorem dX1_hasStretch_17 : decode cX1_hasStretch 17 = .ok (.iconst 1, 1) := by decide +kernel
theorem dX1_hasStretch_18 : decode cX1_hasStretch 18 = .ok (.goto 4, 3) := by decide +kernel
theorem dX1_hasStretch_21 : decode cX1_hasStretch 21 = .ok (.iconst 0, 1) := by decide +kernel
theorem dX1_hasStretch_22 : decode cX1_hasStretch 22 = .ok (.ireturn, 1) := by decide +kernel
set_option maxRecDepth 20000 in
theorem ggX1_hasStretches_X1_hasStretch : GoodIn wsX1_hasStretches wsX1_hasStretch := goodIn_r _ [5, 6, 7, 8, 9, 10, 11] (by decide +kernel) (by decide +kernel)
set_option maxRecDepth 20000 in
theorem gX1_hasStretches_X1_hasStretch : GoodIn wsX1_hasStretches (wsV RX1 20 RX1 yX1_hasStretch wsX1_hasStretch) := goodIn_app (goodIn_of _ (by decide +kernel)) ggX1_hasStretches_X1_hasStretch
theorem dX1_hasStretches_0 : decode cX1_hasStretches 0 = .ok (.aload_n 0, 1) := by decide +kernel
theorem dX1_hasStretches_1 : decode cX1_hasStretches 1 = .ok (.iload_n 1, 1) := by decide +kernel
theorem dX1_hasStretches_2 : decode cX1_hasStretches 2 = .ok (.iload_n 2, 1) := by decide +kernel
theorem dX1_hasStretches_3 : decode cX1_hasStretches 3 = .ok (.invokevirtual 20, 3) := by decide +kernel
theorem dX1_hasStretches_6 : decode cX1_hasStretches 6 = .ok (.ifCond .eq 16, 3) := by decide +kernel
theorem dX1_hasStretches_9 : decode cX1_hasStretches 9 = .ok (.aload_n 0, 1) := by decide +kernel
theorem dX1_hasStretches_10 : decode cX1_hasStretches 10 = .ok (.iload_n 2, 1) := by decide +kernel
theorem dX1_hasStretches_11 : decode cX1_hasStretches 11 = .ok (.iload_n 3, 1) := by decide +kernel
theorem dX1_hasStretches_12 : decode cX1_hasStretches 12 = .ok (.invokevirtual 20, 3) := by decide +kernel
theorem dX1_hasStretches_15 : decode cX1_hasStretches 15 = .ok (.ifCond .eq 7, 3) := by decide +kernel
theorem dX1_hasStretches_18 : decode cX1_hasStretches 18 = .ok (.iconst 1, 1) := by decide +kernel
theorem dX1_hasStretches_19 : decode cX1_hasStretches 19 = .ok (.goto 4, 3) := by decide +kernel
theorem dX1_hasStretches_22 : decode cX1_hasStretches 22 = .ok (.iconst 0, 1) := by decide +kernel
theorem dX1_hasStretches_23 : decode cX1_hasStretches 23 = .ok (.ireturn, 1) := by decide +kernel
theorem dX1_append_0 : decode cX1_append 0 = .ok (.aload_n 0, 1) := by decide +kernel
theorem dX1_append_1 : decode cX1_append 1 = .ok (.getfield 9, 3) := by decide +kernel
theorem dX1_append_4 : decode cX1_append 4 = .ok (.aload_n 0, 1) := by decide +kernel
theorem dX1_append_5 : decode cX1_append 5 = .ok (.getfield 16, 3) := by decide +kernel
theorem dX1_append_8 : decode cX1_append 8 = .ok (.iload_n 1, 1) := by decide +kernel
theorem dX1_append_9 : decode cX1_append 9 = .ok (.iastore, 1) := by decide +kernel
theorem dX1_append_10 : decode cX1_append 10 = .ok (.aload_n 0, 1) := by decide +kernel
theorem dX1_append_11 : decode cX1_append 11 = .ok (.getfield 13, 3) := by decide +kernel
theorem dX1_append_14 : decode cX1_append 14 = .ok (.aload_n 0, 1) := by decide +kernel
theorem dX1_append_15 : decode cX1_append 15 = .ok (.getfield 16, 3) := by decide +kernel
theorem dX1_append_18 : decode cX1_append 18 = .ok (.iload_n 2, 1) := by decide +kernel
theorem dX1_append_19 : decode cX1_append 19 = .ok (.iastore, 1) := by decide +kernel
theorem dX1_append_20 : decode cX1_append 20 = .ok (.aload_n 0, 1) := by decide +kernel
theorem dX1_append_21 : decode cX1_append 21 = .ok (.dup, 1) := by decide +kernel
theorem dX1_append_22 : decode cX1_append 22 = .ok (.getfield 16, 3) := by decide +kernel
theorem dX1_append_25 : decode cX1_append 25 = .ok (.iconst 1, 1) := by decide +kernel
theorem dX1_append_26 : decode cX1_append 26 = .ok (.iadd, 1) := by decide +kernel
theorem dX1_append_27 : decode cX1_append 27 = .ok (.putfield 16, 3) := by decide +kernel
theorem dX1_append_30 : decode cX1_append 30 = .ok (.return_, 1) := by decide +kernel
theorem dX1_startCounting_0 : decode cX1_startCounting 0 = .ok (.aload_n 0, 1) := by decide +kernel
theorem dX1_startCounting_1 : decode cX1_startCounting 1 = .ok (.iconst 0, 1) := by decide +kernel
theorem dX1_startCounting_2 : decode cX1_startCounting 2 = .ok (.putfield 24, 3) := by decide +kernel
theorem dX1_startCounting_5 : decode cX1_startCounting 5 = .ok (.aload_n 0, 1) := by decide +kernel
theorem dX1_startCounting_6 : decode cX1_startCounting 6 = .ok (.iconst 0, 1) := by decide +kernel
theorem dX1_startCounting_7 : decode cX1_startCounting 7 = .ok (.putfield 27, 3) := by decide +kernel
theorem dX1_startCounting_10 : decode cX1_startCounting 10 = .ok (.return_, 1) := by decide +kernel
set_option maxRecDepth 20000 in
theorem ggX1_inOrder_X1_lessAt : GoodIn wsX1_inOrder wsX1_lessAt := goodIn_r _ [5, 6, 7, 8, 9, 10, 11, 12, 13, 14, 15, 16, 17] (by decide +kernel) (by decide +kernel)
set_option maxRecDepth 20000 in
theorem gX1_inOrder_X1_lessAt : GoodIn wsX1_inOrder (wsV RX1 30 RX1 yX1_lessAt wsX1_lessAt) := goodIn_app (goodIn_of _ (by decide +kernel)) ggX1_inOrder_X1_lessAt
theorem dX1_inOrder_0 : decode cX1_inOrder 0 = .ok (.iload_n 1, 1) := by decide +kernel
theorem dX1_inOrder_1 : decode cX1_inOrder 1 = .ok (.iconst 1, 1) := by decide +kernel
theorem dX1_inOrder_2 : decode cX1_inOrder 2 = .ok (.iadd, 1) := by decide +kernel
theorem dX1_inOrder_3 : decode cX1_inOrder 3 = .ok (.istore 4, 2) := by decide +kernel
theorem dX1_inOrder_5 : decode cX1_inOrder 5 = .ok (.iload 4, 2) := by decide +kernel
theorem dX1_inOrder_7 : decode cX1_inOrder 7 = .ok (.iload_n 2, 1) := by decide +kernel
theorem dX1_inOrder_8 : decode cX1_inOrder 8 = .ok (.if_icmp .ge 25, 3) := by decide +kernel
theorem dX1_inOrder_11 : decode cX1_inOrder 11 = .ok (.aload_n 0, 1) := by decide +kernel
theorem dX1_inOrder_12 : decode cX1_inOrder 12 = .ok (.iload 4, 2) := by decide +kernel
theorem dX1_inOrder_14 : decode cX1_inOrder 14 = .ok (.iload 4, 2) := by decide +kernel
theorem dX1_inOrder_16 : decode cX1_inOrder 16 = .ok (.iconst 1, 1) := by decide +kernel
theorem dX1_inOrder_17 : decode cX1_inOrder 17 = .ok (.isub, 1) := by decide +kernel
theorem dX1_inOrder_18 : decode cX1_inOrder 18 = .ok (.iload_n 3, 1) := by decide +kernel
theorem dX1_inOrder_19 : decode cX1_inOrder 19 = .ok (.invokevirtual 30, 3) := by decide +kernel
theorem dX1_inOrder_22 : decode cX1_inOrder 22 = .ok (.ifCond .eq 5, 3) := by decide +kernel
theorem dX1_inOrder_25 : decode cX1_inOrder 25 = .ok (.iconst 0, 1) := by decide +kernel
theorem dX1_inOrder_26 : decode cX1_inOrder 26 = .ok (.ireturn, 1) := by decide +kernel
theorem dX1_inOrder_27 : decode cX1_inOrder 27 = .ok (.iinc 4 1, 3) := by decide +kernel
theorem dX1_inOrder_30 : decode cX1_inOrder 30 = .ok (.goto (-25), 3) := by decide +kernel
theorem dX1_inOrder_33 : decode cX1_inOrder 33 = .ok (.iconst 1, 1) := by decide +kernel
theorem dX1_inOrder_34 : decode cX1_inOrder 34 = .ok (.ireturn, 1) := by decide +kernel
set_option maxRecDepth 20000 in
theorem ggX1_countLess_X0_isLess : GoodIn wsX1_countLess wsX0_isLess := goodIn_r _ [5, 6] (by decide +kernel) (by decide +kernel)
set_option maxRecDepth 20000 in
theorem gX1_countLess_X0_isLess : GoodIn wsX1_countLess (va_wsS RX1 34 yX0_isLess wsX0_isLess) := goodIn_app (goodIn_of _ (by decide +kernel)) ggX1_countLess_X0_isLess
theorem dX1_countLess_0 : decode cX1_countLess 0 = .ok (.iconst 0, 1) := by decide +kernel
theorem dX1_countLess_1 : decode cX1_countLess 1 = .ok (.istore 5, 2) := by decide +kernel
theorem dX1_countLess_3 : decode cX1_countLess 3 = .ok (.iload_n 1, 1) := by decide +kernel
theorem dX1_countLess_4 : decode cX1_countLess 4 = .ok (.istore 6, 2) := by decide +kernel
theorem dX1_countLess_6 : decode cX1_countLess 6 = .ok (.iload 6, 2) := by decide +kernel
theorem dX1_countLess_8 : decode cX1_countLess 8 = .ok (.iload_n 2, 1) := by decide +kernel
theorem dX1_countLess_9 : decode cX1_countLess 9 = .ok (.if_icmp .ge 28, 3) := by decide +kernel
theorem dX1_countLess_12 : decode cX1_countLess 12 = .ok (.aload_n 0, 1) := by decide +kernel
theorem dX1_countLess_13 : decode cX1_countLess 13 = .ok (.getfield 9, 3) := by decide +kernel
theorem dX1_countLess_16 : decode cX1_countLess 16 = .ok (.iload 6, 2) := by decide +kernel
theorem dX1_countLess_18 : decode cX1_countLess 18 = .ok (.iaload, 1) := by decide +kernel
theorem dX1_countLess_19 : decode cX1_countLess 19 = .ok (.iload_n 3, 1) := by decide +kernel
theorem dX1_countLess_20 : decode cX1_countLess 20 = .ok (.iload 4, 2) := by decide +kernel
theorem dX1_countLess_22 : decode cX1_countLess 22 = .ok (.invokestatic 34, 3) := by decide +kernel
theorem dX1_countLess_25 : decode cX1_countLess 25 = .ok (.ifCond .eq 6, 3) := by decide +kernel
theorem dX1_countLess_28 : decode cX1_countLess 28 = .ok (.iinc 5 1, 3) := by decide +kernel
theorem dX1_countLess_31 : decode cX1_countLess 31 = .ok (.iinc 6 1, 3) := by decide +kernel
theorem dX1_countLess_34 : decode cX1_countLess 34 = .ok (.goto (-28), 3) := by decide +kernel
theorem dX1_countLess_37 : decode cX1_countLess 37 = .ok (.iload 5, 2) := by decide +kernel
theorem dX1_countLess_39 : decode cX1_countLess 39 = .ok (.ireturn, 1) := by decide +kernel
set_option maxRecDepth 20000 in
theorem ggX1_countNotMore_X0_isLess : GoodIn wsX1_countNotMore wsX0_isLess := goodIn_r _ [5, 6] (by decide +kernel) (by decide +kernel)
set_option maxRecDepth 20000 in
theorem gX1_countNotMore_X0_isLess : GoodIn wsX1_countNotMore (va_wsS RX1 34 yX0_isLess wsX0_isLess) := goodIn_app (goodIn_of _ (by decide +kernel)) ggX1_countNotMore_X0_isLess
theorem dX1_countNotMore_0 : decode cX1_countNotMore 0 = .ok (.iconst 0, 1) := by decide +kernel
theorem dX1_countNotMore_1 : decode cX1_countNotMore 1 = .ok (.istore 5, 2) := by decide +kernel
theorem dX1_countNotMore_3 : decode cX1_countNotMore 3 = .ok (.iload_n 1, 1) := by decide +kernel
theorem dX1_countNotMore_4 : decode cX1_countNotMore 4 = .ok (.istore 6, 2) := by decide +kernel
theorem dX1_countNotMore_6 : decode cX1_countNotMore 6 = .ok (.iload 6, 2) := by decide +kernel
theorem dX1_countNotMore_8 : decode cX1_countNotMore 8 = .ok (.iload_n 2, 1) := by decide +kernel
theorem dX1_countNotMore_9 : decode cX1_countNotMore 9 = .ok (.if_icmp .ge 28, 3) := by decide +kernel
theorem dX1_countNotMore_12 : decode cX1_countNotMore 12 = .ok (.iload_n 3, 1) := by decide +kernel
theorem dX1_countNotMore_13 : decode cX1_countNotMore 13 = .ok (.aload_n 0, 1) := by decide +kernel
theorem dX1_countNotMore_14 : decode cX1_countNotMore 14 = .ok (.getfield 9, 3) := by decide +kernel
theorem dX1_countNotMore_17 : decode cX1_countNotMore 17 = .ok (.iload 6, 2) := by decide +kernel
theorem dX1_countNotMore_19 : decode cX1_countNotMore 19 = .ok (.iaload, 1) := by decide +kernel
theorem dX1_countNotMore_20 : decode cX1_countNotMore 20 = .ok (.iload 4, 2) := by decide +kernel
theorem dX1_countNotMore_22 : decode cX1_countNotMore 22 = .ok (.invokestatic 34, 3) := by decide +kernel
theorem dX1_countNotMore_25 : decode cX1_countNotMore 25 = .ok (.ifCond .ne 6, 3) := by decide +kernel
theorem dX1_countNotMore_28 : decode cX1_countNotMore 28 = .ok (.iinc 5 1, 3) := by decide +kernel
theorem dX1_countNotMore_31 : decode cX1_countNotMore 31 = .ok (.iinc 6 1, 3) := by decide +kernel
theorem dX1_countNotMore_34 : decode cX1_countNotMore 34 = .ok (.goto (-28), 3) := by decide +kernel
theorem dX1_countNotMore_37 : decode cX1_countNotMore 37 = .ok (.iload 5, 2) := by decide +kernel
theorem dX1_countNotMore_39 : decode cX1_countNotMore 39 = .ok (.ireturn, 1) := by decide +kernel
theorem dX1_countSortedStretches_0 : decode cX1_countSortedStretches 0 = .ok (.iconst 0, 1) := by decide +kernel
theorem dX1_countSortedStretches_1 : decode cX1_countSortedStretches 1 = .ok (.istore_n 1, 1) := by decide +kernel
theorem dX1_countSortedStretches_2 : decode cX1_countSortedStretches 2 = .ok (.iconst 0, 1) := by decide +kernel
theorem dX1_countSortedStretches_3 : decode cX1_countSortedStretches 3 = .ok (.istore_n 2, 1) := by decide +kernel
theorem dX1_countSortedStretches_4 : decode cX1_countSortedStretches 4 = .ok (.iload_n 2, 1) := by decide +kernel
theorem dX1_countSortedStretches_5 : decode cX1_countSortedStretches 5 = .ok (.aload_n 0, 1) := by decide +kernel
theorem dX1_countSortedStretches_6 : decode cX1_countSortedStretches 6 = .ok (.getfield 16, 3) := by decide +kernel
theorem dX1_countSortedStretches_9 : decode cX1_countSortedStretches 9 = .ok (.if_icmp .ge 33, 3) := by decide +kernel
theorem dX1_countSortedStretches_12 : decode cX1_countSortedStretches 12 = .ok (.iload_n 2, 1) := by decide +kernel
theorem dX1_countSortedStretches_13 : decode cX1_countSortedStretches 13 = .ok (.ifCond .eq 20, 3) := by decide +kernel
theorem dX1_countSortedStretches_16 : decode cX1_countSortedStretches 16 = .ok (.aload_n 0, 1) := by decide +kernel
theorem dX1_countSortedStretches_17 : decode cX1_countSortedStretches 17 = .ok (.getfield 9, 3) := by decide +kernel
theorem dX1_countSortedStretches_20 : decode cX1_countSortedStretches 20 = .ok (.iload_n 2, 1) := by decide +kernel
theorem dX1_countSortedStretches_21 : decode cX1_countSortedStretches 21 = .ok (.iaload, 1) := by decide +kernel
theorem dX1_countSortedStretches_22 : decode cX1_countSortedStretches 22 = .ok (.aload_n 0, 1) := by decide +kernel
theorem dX1_countSortedStretches_23 : decode cX1_countSortedStretches 23 = .ok (.getfield 9, 3) := by decide +kernel
theorem dX1_countSortedStretches_26 : decode cX1_countSortedStretches 26 = .ok (.iload_n 2, 1) := by decide +kernel
theorem dX1_countSortedStretches_27 : decode cX1_countSortedStretches 27 = .ok (.iconst 1, 1) := by decide +kernel
theorem dX1_countSortedStretches_28 : decode cX1_countSortedStretches 28 = .ok (.isub, 1) := by decide +kernel
theorem dX1_countSortedStretches_29 : decode cX1_countSortedStretches 29 = .ok (.iaload, 1) := by decide +kernel
theorem dX1_countSortedStretches_30 : decode cX1_countSortedStretches 30 = .ok (.if_icmp .ge 6, 3) := by decide +kernel
theorem dX1_countSortedStretches_33 : decode cX1_countSortedStretches 33 = .ok (.iinc 1 1, 3) := by decide +kernel
theorem dX1_countSortedStretches_36 : decode cX1_countSortedStretches 36 = .ok (.iinc 2 1, 3) := by decide +kernel
theorem dX1_countSortedStretches_39 : decode cX1_countSortedStretches 39 = .ok (.goto (-35), 3) := by decide +kernel
theorem dX1_countSortedStretches_42 : decode cX1_countSortedStretches 42 = .ok (.iload_n 1, 1) := by decide +kernel
theorem dX1_countSortedStretches_43 : decode cX1_countSortedStretches 43 = .ok (.ireturn, 1) := by decide +kernel
set_option maxRecDepth 20000 in
theorem ggX1_countDifferentKeys_X1_standsBefore : GoodIn wsX1_countDifferentKeys wsX1_standsBefore := goodIn_r _ [6, 7, 8, 9, 10, 11, 12] (by decide +kernel) (by decide +kernel)
set_option maxRecDepth 20000 in
theorem gX1_countDifferentKeys_X1_standsBefore : GoodIn wsX1_countDifferentKeys (wsV RX1 39 RX1 yX1_standsBefore wsX1_standsBefore) := goodIn_app (goodIn_of _ (by decide +kernel)) ggX1_countDifferentKeys_X1_standsBefore
theorem dX1_countDifferentKeys_0 : decode cX1_countDifferentKeys 0 = .ok (.iconst 0, 1) := by decide +kernel
theorem dX1_countDifferentKeys_1 : decode cX1_countDifferentKeys 1 = .ok (.istore_n 1, 1) := by decide +kernel
theorem dX1_countDifferentKeys_2 : decode cX1_countDifferentKeys 2 = .ok (.iconst 0, 1) := by decide +kernel
theorem dX1_countDifferentKeys_3 : decode cX1_countDifferentKeys 3 = .ok (.istore_n 2, 1) := by decide +kernel
theorem dX1_countDifferentKeys_4 : decode cX1_countDifferentKeys 4 = .ok (.iload_n 2, 1) := by decide +kernel
theorem dX1_countDifferentKeys_5 : decode cX1_countDifferentKeys 5 = .ok (.aload_n 0, 1) := by decide +kernel
theorem dX1_countDifferentKeys_6 : decode cX1_countDifferentKeys 6 = .ok (.getfield 16, 3) := by decide +kernel
theorem dX1_countDifferentKeys_9 : decode cX1_countDifferentKeys 9 = .ok (.if_icmp .ge 20, 3) := by decide +kernel
theorem dX1_countDifferentKeys_12 : decode cX1_countDifferentKeys 12 = .ok (.aload_n 0, 1) := by decide +kernel
theorem dX1_countDifferentKeys_13 : decode cX1_countDifferentKeys 13 = .ok (.iload_n 2, 1) := by decide +kernel
theorem dX1_countDifferentKeys_14 : decode cX1_countDifferentKeys 14 = .ok (.invokevirtual 39, 3) := by decide +kernel
theorem dX1_countDifferentKeys_17 : decode cX1_countDifferentKeys 17 = .ok (.ifCond .ne 6, 3) := by decide +kernel
theorem dX1_countDifferentKeys_20 : decode cX1_countDifferentKeys 20 = .ok (.iinc 1 1, 3) := by decide +kernel
theorem dX1_countDifferentKeys_23 : decode cX1_countDifferentKeys 23 = .ok (.iinc 2 1, 3) := by decide +kernel
theorem dX1_countDifferentKeys_26 : decode cX1_countDifferentKeys 26 = .ok (.goto (-22), 3) := by decide +kernel
theorem dX1_countDifferentKeys_29 : decode cX1_countDifferentKeys 29 = .ok (.iload_n 1, 1) := by decide +kernel
theorem dX1_countDifferentKeys_30 : decode cX1_countDifferentKeys 30 = .ok (.ireturn, 1) := by decide +kernel
theorem dX1_standsBefore_0 : decode cX1_standsBefore 0 = .ok (.iconst 0, 1) := by decide +kernel
theorem dX1_standsBefore_1 : decode cX1_standsBefore 1 = .ok (.istore_n 2, 1) := by decide +kernel
theorem dX1_standsBefore_2 : decode cX1_standsBefore 2 = .ok (.iload_n 2, 1) := by decide +kernel
theorem dX1_standsBefore_3 : decode cX1_standsBefore 3 = .ok (.iload_n 1, 1) := by decide +kernel
theorem dX1_standsBefore_4 : decode cX1_standsBefore 4 = .ok (.if_icmp .ge 26, 3) := by decide +kernel
theorem dX1_standsBefore_7 : decode cX1_standsBefore 7 = .ok (.aload_n 0, 1) := by decide +kernel
theorem dX1_standsBefore_8 : decode cX1_standsBefore 8 = .ok (.getfield 9, 3) := by decide +kernel
theorem dX1_standsBefore_11 : decode cX1_standsBefore 11 = .ok (.iload_n 2, 1) := by decide +kernel
theorem dX1_standsBefore_12 : decode cX1_standsBefore 12 = .ok (.iaload, 1) := by decide +kernel
theorem dX1_standsBefore_13 : decode cX1_standsBefore 13 = .ok (.aload_n 0, 1) := by decide +kernel
theorem dX1_standsBefore_14 : decode cX1_standsBefore 14 = .ok (.getfield 9, 3) := by decide +kernel
theorem dX1_standsBefore_17 : decode cX1_standsBefore 17 = .ok (.iload_n 1, 1) := by decide +kernel
theorem dX1_standsBefore_18 : decode cX1_standsBefore 18 = .ok (.iaload, 1) := by decide +kernel
theorem dX1_standsBefore_19 : decode cX1_standsBefore 19 = .ok (.if_icmp .ne 5, 3) := by decide +kernel
theorem dX1_standsBefore_22 : decode cX1_standsBefore 22 = .ok (.iconst 1, 1) := by decide +kernel
theorem dX1_standsBefore_23 : decode cX1_standsBefore 23 = .ok (.ireturn, 1) := by decide +kernel
theorem dX1_standsBefore_24 : decode cX1_standsBefore 24 = .ok (.iinc 2 1, 3) := by decide +kernel
theorem dX1_standsBefore_27 : decode cX1_standsBefore 27 = .ok (.goto (-25), 3) := by decide +kernel
theorem dX1_standsBefore_30 : decode cX1_standsBefore 30 = .ok (.iconst 0, 1) := by decide +kernel
theorem dX1_standsBefore_31 : decode cX1_standsBefore 31 = .ok (.ireturn, 1) := by decide +kernel
set_option maxRecDepth 20000 in
theorem ggX1_sortInPlace_X1_mergeInPlace : GoodIn wsX1_sortInPlace wsX1_mergeInPlace := goodIn_r _ [8, 9, 10, 11, 7, 12, 13, 14, 15, 16, 17, 18, 19, 20, 21, 22, 23, 24, 25, 26, 27, 28, 29, 30, 31, 32, 33, 34, 35, 36, 37, 5, 6, 38, 39, 40, 41, 42] (by decide +kernel) (by decide +kernel)
set_option maxRecDepth 20000 in
theorem gX1_sortInPlace_X1_mergeInPlace : GoodIn wsX1_sortInPlace (va_wsS RX1 49 yX1_mergeInPlace wsX1_mergeInPlace) := goodIn_app (goodIn_of _ (by decide +kernel)) ggX1_sortInPlace_X1_mergeInPlace
theorem dX1_sortInPlace_0 : decode cX1_sortInPlace 0 = .ok (.iconst 1, 1) := by decide +kernel
theorem dX1_sortInPlace_1 : decode cX1_sortInPlace 1 = .ok (.istore 4, 2) := by decide +kernel
theorem dX1_sortInPlace_3 : decode cX1_sortInPlace 3 = .ok (.iload 4, 2) := by decide +kernel
theorem dX1_sortInPlace_5 : decode cX1_sortInPlace 5 = .ok (.iload_n 2, 1) := by decide +kernel
theorem dX1_sortInPlace_6 : decode cX1_sortInPlace 6 = .ok (.iload_n 1, 1) := by decide +kernel
theorem dX1_sortInPlace_7 : decode cX1_sortInPlace 7 = .ok (.isub, 1) := by decide +kernel
theorem dX1_sortInPlace_8 : decode cX1_sortInPlace 8 = .ok (.if_icmp .ge 64, 3) := by decide +kernel
theorem dX1_sortInPlace_11 : decode cX1_sortInPlace 11 = .ok (.iload_n 1, 1) := by decide +kernel
theorem dX1_sortInPlace_12 : decode cX1_sortInPlace 12 = .ok (.istore 5, 2) := by decide +kernel
theorem dX1_sortInPlace_14 : decode cX1_sortInPlace 14 = .ok (.iload 5, 2) := by decide +kernel
theorem dX1_sortInPlace_16 : decode cX1_sortInPlace 16 = .ok (.iload_n 2, 1) := by decide +kernel
theorem dX1_sortInPlace_17 : decode cX1_sortInPlace 17 = .ok (.iload 4, 2) := by decide +kernel
theorem dX1_sortInPlace_19 : decode cX1_sortInPlace 19 = .ok (.isub, 1) := by decide +kernel
theorem dX1_sortInPlace_20 : decode cX1_sortInPlace 20 = .ok (.if_icmp .ge 43, 3) := by decide +kernel
theorem dX1_sortInPlace_23 : decode cX1_sortInPlace 23 = .ok (.iload 5, 2) := by decide +kernel
theorem dX1_sortInPlace_25 : decode cX1_sortInPlace 25 = .ok (.iconst 2, 1) := by decide +kernel
theorem dX1_sortInPlace_26 : decode cX1_sortInPlace 26 = .ok (.iload 4, 2) := by decide +kernel
theorem dX1_sortInPlace_28 : decode cX1_sortInPlace 28 = .ok (.imul, 1) := by decide +kernel
theorem dX1_sortInPlace_29 : decode cX1_sortInPlace 29 = .ok (.iadd, 1) := by decide +kernel
theorem dX1_sortInPlace_30 : decode cX1_sortInPlace 30 = .ok (.iload_n 2, 1) := by decide +kernel
theorem dX1_sortInPlace_31 : decode cX1_sortInPlace 31 = .ok (.invokestatic 43, 3) := by decide +kernel
theorem dX1_sortInPlace_34 : decode cX1_sortInPlace 34 = .ok (.istore 6, 2) := by decide +kernel
theorem dX1_sortInPlace_36 : decode cX1_sortInPlace 36 = .ok (.aload_n 0, 1) := by decide +kernel
theorem dX1_sortInPlace_37 : decode cX1_sortInPlace 37 = .ok (.iload 5, 2) := by decide +kernel
theorem dX1_sortInPlace_39 : decode cX1_sortInPlace 39 = .ok (.iload 5, 2) := by decide +kernel
theorem dX1_sortInPlace_41 : decode cX1_sortInPlace 41 = .ok (.iload 4, 2) := by decide +kernel
theorem dX1_sortInPlace_43 : decode cX1_sortInPlace 43 = .ok (.iadd, 1) := by decide +kernel
theorem dX1_sortInPlace_44 : decode cX1_sortInPlace 44 = .ok (.iload 6, 2) := by decide +kernel
theorem dX1_sortInPlace_46 : decode cX1_sortInPlace 46 = .ok (.iload_n 3, 1) := by decide +kernel
theorem dX1_sortInPlace_47 : decode cX1_sortInPlace 47 = .ok (.iconst 0, 1) := by decide +kernel
theorem dX1_sortInPlace_48 : decode cX1_sortInPlace 48 = .ok (.invokestatic 49, 3) := by decide +kernel
theorem dX1_sortInPlace_51 : decode cX1_sortInPlace 51 = .ok (.iload 5, 2) := by decide +kernel
theorem dX1_sortInPlace_53 : decode cX1_sortInPlace 53 = .ok (.iconst 2, 1) := by decide +kernel
theorem dX1_sortInPlace_54 : decode cX1_sortInPlace 54 = .ok (.iload 4, 2) := by decide +kernel
theorem dX1_sortInPlace_56 : decode cX1_sortInPlace 56 = .ok (.imul, 1) := by decide +kernel
theorem dX1_sortInPlace_57 : decode cX1_sortInPlace 57 = .ok (.iadd, 1) := by decide +kernel
theorem dX1_sortInPlace_58 : decode cX1_sortInPlace 58 = .ok (.istore 5, 2) := by decide +kernel
theorem dX1_sortInPlace_60 : decode cX1_sortInPlace 60 = .ok (.goto (-46), 3) := by decide +kernel
theorem dX1_sortInPlace_63 : decode cX1_sortInPlace 63 = .ok (.iload 4, 2) := by decide +kernel
theorem dX1_sortInPlace_65 : decode cX1_sortInPlace 65 = .ok (.iconst 2, 1) := by decide +kernel
theorem dX1_sortInPlace_66 : decode cX1_sortInPlace 66 = .ok (.imul, 1) := by decide +kernel
theorem dX1_sortInPlace_67 : decode cX1_sortInPlace 67 = .ok (.istore 4, 2) := by decide +kernel
theorem dX1_sortInPlace_69 : decode cX1_sortInPlace 69 = .ok (.goto (-66), 3) := by decide +kernel
theorem dX1_sortInPlace_72 : decode cX1_sortInPlace 72 = .ok (.return_, 1) := by decide +kernel
set_option maxRecDepth 20000 in
theorem ggX1_mergeInPlace_X1_startOfBlocks : GoodIn wsX1_mergeInPlace wsX1_startOfBlocks := goodIn_r _ [5, 6, 7, 8, 4, 9, 10, 11, 12, 13, 14, 15, 16, 33, 34, 35, 36, 37] (by decide +kernel) (by decide +kernel)
set_option maxRecDepth 20000 in
theorem gX1_mergeInPlace_X1_startOfBlocks : GoodIn wsX1_mergeInPlace (wsV RX1 53 RX1 yX1_startOfBlocks wsX1_startOfBlocks) := goodIn_app (goodIn_of _ (by decide +kernel)) ggX1_mergeInPlace_X1_startOfBlocks
set_option maxRecDepth 20000 in
theorem ggX1_mergeInPlace_X1_swapBlocks : GoodIn wsX1_mergeInPlace wsX1_swapBlocks := goodIn_r _ [20, 21, 22, 23, 4, 24, 25, 26, 27, 28, 11, 29, 30, 33, 34, 35, 36, 37] (by decide +kernel) (by decide +kernel)
set_option maxRecDepth 20000 in
theorem gX1_mergeInPlace_X1_swapBlocks : GoodIn wsX1_mergeInPlace (wsV RX1 57 RX1 yX1_swapBlocks wsX1_swapBlocks) := goodIn_app (goodIn_of _ (by decide +kernel)) ggX1_mergeInPlace_X1_swapBlocks
set_option maxRecDepth 20000 in
theorem ggX1_mergeInPlace_X1_mergeInPlace : GoodIn wsX1_mergeInPlace wsX1_mergeInPlace := goodIn_r _ [0, 1, 2, 3, 4, 5, 6, 7, 8, 9, 10, 11, 12, 13, 14, 15, 16, 17, 18, 19, 20, 21, 22, 23, 24, 25, 26, 27, 28, 29, 30, 31, 32, 33, 34, 35, 36, 37] (by decide +kernel) (by decide +kernel)
set_option maxRecDepth 20000 in
theorem gX1_mergeInPlace_X1_mergeInPlace : GoodIn wsX1_mergeInPlace (va_wsS RX1 49 yX1_mergeInPlace wsX1_mergeInPlace) := goodIn_app (goodIn_of _ (by decide +kernel)) ggX1_mergeInPlace_X1_mergeInPlace
theorem dX1_mergeInPlace_0 : decode cX1_mergeInPlace 0 = .ok (.iload_n 1, 1) := by decide +kernel
theorem dX1_mergeInPlace_1 : decode cX1_mergeInPlace 1 = .ok (.iload_n 2, 1) := by decide +kernel
theorem dX1_mergeInPlace_2 : decode cX1_mergeInPlace 2 = .ok (.if_icmp .ge 15, 3) := by decide +kernel
theorem dX1_mergeInPlace_5 : decode cX1_mergeInPlace 5 = .ok (.iload_n 2, 1) := by decide +kernel
theorem dX1_mergeInPlace_6 : decode cX1_mergeInPlace 6 = .ok (.iload_n 3, 1) := by decide +kernel
theorem dX1_mergeInPlace_7 : decode cX1_mergeInPlace 7 = .ok (.if_icmp .ge 10, 3) := by decide +kernel
theorem dX1_mergeInPlace_10 : decode cX1_mergeInPlace 10 = .ok (.iload 5, 2) := by decide +kernel
theorem dX1_mergeInPlace_12 : decode cX1_mergeInPlace 12 = .ok (.bipush 16, 2) := by decide +kernel
theorem dX1_mergeInPlace_14 : decode cX1_mergeInPlace 14 = .ok (.if_icmp .lt 4, 3) := by decide +kernel
theorem dX1_mergeInPlace_17 : decode cX1_mergeInPlace 17 = .ok (.return_, 1) := by decide +kernel
theorem dX1_mergeInPlace_18 : decode cX1_mergeInPlace 18 = .ok (.iload_n 1, 1) := by decide +kernel
theorem dX1_mergeInPlace_19 : decode cX1_mergeInPlace 19 = .ok (.iload_n 3, 1) := by decide +kernel
theorem dX1_mergeInPlace_20 : decode cX1_mergeInPlace 20 = .ok (.iadd, 1) := by decide +kernel
theorem dX1_mergeInPlace_21 : decode cX1_mergeInPlace 21 = .ok (.iconst 2, 1) := by decide +kernel
theorem dX1_mergeInPlace_22 : decode cX1_mergeInPlace 22 = .ok (.idiv, 1) := by decide +kernel
theorem dX1_mergeInPlace_23 : decode cX1_mergeInPlace 23 = .ok (.istore 6, 2) := by decide +kernel
theorem dX1_mergeInPlace_25 : decode cX1_mergeInPlace 25 = .ok (.aload_n 0, 1) := by decide +kernel
theorem dX1_mergeInPlace_26 : decode cX1_mergeInPlace 26 = .ok (.iload_n 1, 1) := by decide +kernel
theorem dX1_mergeInPlace_27 : decode cX1_mergeInPlace 27 = .ok (.iload_n 2, 1) := by decide +kernel
theorem dX1_mergeInPlace_28 : decode cX1_mergeInPlace 28 = .ok (.iload_n 3, 1) := by decide +kernel
theorem dX1_mergeInPlace_29 : decode cX1_mergeInPlace 29 = .ok (.iload 4, 2) := by decide +kernel
theorem dX1_mergeInPlace_31 : decode cX1_mergeInPlace 31 = .ok (.invokevirtual 53, 3) := by decide +kernel
theorem dX1_mergeInPlace_34 : decode cX1_mergeInPlace 34 = .ok (.istore 7, 2) := by decide +kernel
theorem dX1_mergeInPlace_36 : decode cX1_mergeInPlace 36 = .ok (.iload 6, 2) := by decide +kernel
theorem dX1_mergeInPlace_38 : decode cX1_mergeInPlace 38 = .ok (.iload_n 2, 1) := by decide +kernel
theorem dX1_mergeInPlace_39 : decode cX1_mergeInPlace 39 = .ok (.iadd, 1) := by decide +kernel
theorem dX1_mergeInPlace_40 : decode cX1_mergeInPlace 40 = .ok (.iload 7, 2) := by decide +kernel
theorem dX1_mergeInPlace_42 : decode cX1_mergeInPlace 42 = .ok (.isub, 1) := by decide +kernel
theorem dX1_mergeInPlace_43 : decode cX1_mergeInPlace 43 = .ok (.istore 8, 2) := by decide +kernel
theorem dX1_mergeInPlace_45 : decode cX1_mergeInPlace 45 = .ok (.aload_n 0, 1) := by decide +kernel
theorem dX1_mergeInPlace_46 : decode cX1_mergeInPlace 46 = .ok (.iload 7, 2) := by decide +kernel
theorem dX1_mergeInPlace_48 : decode cX1_mergeInPlace 48 = .ok (.iload_n 2, 1) := by decide +kernel
theorem dX1_mergeInPlace_49 : decode cX1_mergeInPlace 49 = .ok (.iload 8, 2) := by decide +kernel
theorem dX1_mergeInPlace_51 : decode cX1_mergeInPlace 51 = .ok (.invokevirtual 57, 3) := by decide +kernel
theorem dX1_mergeInPlace_54 : decode cX1_mergeInPlace 54 = .ok (.aload_n 0, 1) := by decide +kernel
theorem dX1_mergeInPlace_55 : decode cX1_mergeInPlace 55 = .ok (.iload_n 1, 1) := by decide +kernel
theorem dX1_mergeInPlace_56 : decode cX1_mergeInPlace 56 = .ok (.iload 7, 2) := by decide +kernel
theorem dX1_mergeInPlace_58 : decode cX1_mergeInPlace 58 = .ok (.iload 6, 2) := by decide +kernel
theorem dX1_mergeInPlace_60 : decode cX1_mergeInPlace 60 = .ok (.iload 4, 2) := by decide +kernel
theorem dX1_mergeInPlace_62 : decode cX1_mergeInPlace 62 = .ok (.iload 5, 2) := by decide +kernel
theorem dX1_mergeInPlace_64 : decode cX1_mergeInPlace 64 = .ok (.iconst 1, 1) := by decide +kernel
theorem dX1_mergeInPlace_65 : decode cX1_mergeInPlace 65 = .ok (.iadd, 1) := by decide +kernel
theorem dX1_mergeInPlace_66 : decode cX1_mergeInPlace 66 = .ok (.invokestatic 49, 3) := by decide +kernel
theorem dX1_mergeInPlace_69 : decode cX1_mergeInPlace 69 = .ok (.aload_n 0, 1) := by decide +kernel
theorem dX1_mergeInPlace_70 : decode cX1_mergeInPlace 70 = .ok (.iload 6, 2) := by decide +kernel
theorem dX1_mergeInPlace_72 : decode cX1_mergeInPlace 72 = .ok (.iload 8, 2) := by decide +kernel
theorem dX1_mergeInPlace_74 : decode cX1_mergeInPlace 74 = .ok (.iload_n 3, 1) := by decide +kernel
theorem dX1_mergeInPlace_75 : decode cX1_mergeInPlace 75 = .ok (.iload 4, 2) := by decide +kernel
theorem dX1_mergeInPlace_77 : decode cX1_mergeInPlace 77 = .ok (.iload 5, 2) := by decide +kernel
theorem dX1_mergeInPlace_79 : decode cX1_mergeInPlace 79 = .ok (.iconst 1, 1) := by decide +kernel
theorem dX1_mergeInPlace_80 : decode cX1_mergeInPlace 80 = .ok (.iadd, 1) := by decide +kernel
theorem dX1_mergeInPlace_81 : decode cX1_mergeInPlace 81 = .ok (.invokestatic 49, 3) := by decide +kernel
theorem dX1_mergeInPlace_84 : decode cX1_mergeInPlace 84 = .ok (.return_, 1) := by decide +kernel
set_option maxRecDepth 20000 in
theorem ggX1_startOfBlocks_X1_lessAt : GoodIn wsX1_startOfBlocks wsX1_lessAt := goodIn_r _ [5, 6, 7, 8, 9, 10, 11, 12, 13, 14, 15, 16, 17] (by decide +kernel) (by decide +kernel)
set_option maxRecDepth 20000 in
theorem gX1_startOfBlocks_X1_lessAt : GoodIn wsX1_startOfBlocks (wsV RX1 30 RX1 yX1_lessAt wsX1_lessAt) := goodIn_app (goodIn_of _ (by decide +kernel)) ggX1_startOfBlocks_X1_lessAt
theorem dX1_startOfBlocks_0 : decode cX1_startOfBlocks 0 = .ok (.iload_n 1, 1) := by decide +kernel
theorem dX1_startOfBlocks_1 : decode cX1_startOfBlocks 1 = .ok (.iload_n 3, 1) := by decide +kernel
theorem dX1_startOfBlocks_2 : decode cX1_startOfBlocks 2 = .ok (.iadd, 1) := by decide +kernel
theorem dX1_startOfBlocks_3 : decode cX1_startOfBlocks 3 = .ok (.iconst 2, 1) := by decide +kernel
theorem dX1_startOfBlocks_4 : decode cX1_startOfBlocks 4 = .ok (.idiv, 1) := by decide +kernel
theorem dX1_startOfBlocks_5 : decode cX1_startOfBlocks 5 = .ok (.istore 5, 2) := by decide +kernel
theorem dX1_startOfBlocks_7 : decode cX1_startOfBlocks 7 = .ok (.iload 5, 2) := by decide +kernel
theorem dX1_startOfBlocks_9 : decode cX1_startOfBlocks 9 = .ok (.iload_n 2, 1) := by decide +kernel
theorem dX1_startOfBlocks_10 : decode cX1_startOfBlocks 10 = .ok (.iadd, 1) := by decide +kernel
theorem dX1_startOfBlocks_11 : decode cX1_startOfBlocks 11 = .ok (.iconst 1, 1) := by decide +kernel
theorem dX1_startOfBlocks_12 : decode cX1_startOfBlocks 12 = .ok (.isub, 1) := by decide +kernel
theorem dX1_startOfBlocks_13 : decode cX1_startOfBlocks 13 = .ok (.istore 6, 2) := by decide +kernel
theorem dX1_startOfBlocks_15 : decode cX1_startOfBlocks 15 = .ok (.iload_n 2, 1) := by decide +kernel
theorem dX1_startOfBlocks_16 : decode cX1_startOfBlocks 16 = .ok (.iload 5, 2) := by decide +kernel
theorem dX1_startOfBlocks_18 : decode cX1_startOfBlocks 18 = .ok (.if_icmp .le 12, 3) := by decide +kernel
theorem dX1_startOfBlocks_21 : decode cX1_startOfBlocks 21 = .ok (.iload 5, 2) := by decide +kernel
theorem dX1_startOfBlocks_23 : decode cX1_startOfBlocks 23 = .ok (.iload_n 2, 1) := by decide +kernel
theorem dX1_startOfBlocks_24 : decode cX1_startOfBlocks 24 = .ok (.iadd, 1) := by decide +kernel
theorem dX1_startOfBlocks_25 : decode cX1_startOfBlocks 25 = .ok (.iload_n 3, 1) := by decide +kernel
theorem dX1_startOfBlocks_26 : decode cX1_startOfBlocks 26 = .ok (.isub, 1) := by decide +kernel
theorem dX1_startOfBlocks_27 : decode cX1_startOfBlocks 27 = .ok (.goto 4, 3) := by decide +kernel
theorem dX1_startOfBlocks_30 : decode cX1_startOfBlocks 30 = .ok (.iload_n 1, 1) := by decide +kernel
theorem dX1_startOfBlocks_31 : decode cX1_startOfBlocks 31 = .ok (.istore 7, 2) := by decide +kernel
theorem dX1_startOfBlocks_33 : decode cX1_startOfBlocks 33 = .ok (.iload_n 2, 1) := by decide +kernel
theorem dX1_startOfBlocks_34 : decode cX1_startOfBlocks 34 = .ok (.iload 5, 2) := by decide +kernel
theorem dX1_startOfBlocks_36 : decode cX1_startOfBlocks 36 = .ok (.if_icmp .le 8, 3) := by decide +kernel
theorem dX1_startOfBlocks_39 : decode cX1_startOfBlocks 39 = .ok (.iload 5, 2) := by decide +kernel
theorem dX1_startOfBlocks_41 : decode cX1_startOfBlocks 41 = .ok (.goto 4, 3) := by decide +kernel
theorem dX1_startOfBlocks_44 : decode cX1_startOfBlocks 44 = .ok (.iload_n 2, 1) := by decide +kernel
theorem dX1_startOfBlocks_45 : decode cX1_startOfBlocks 45 = .ok (.istore 8, 2) := by decide +kernel
theorem dX1_startOfBlocks_47 : decode cX1_startOfBlocks 47 = .ok (.iload 7, 2) := by decide +kernel
theorem dX1_startOfBlocks_49 : decode cX1_startOfBlocks 49 = .ok (.iload 8, 2) := by decide +kernel
theorem dX1_startOfBlocks_51 : decode cX1_startOfBlocks 51 = .ok (.if_icmp .ge 44, 3) := by decide +kernel
theorem dX1_startOfBlocks_54 : decode cX1_startOfBlocks 54 = .ok (.iload 7, 2) := by decide +kernel
theorem dX1_startOfBlocks_56 : decode cX1_startOfBlocks 56 = .ok (.iload 8, 2) := by decide +kernel
theorem dX1_startOfBlocks_58 : decode cX1_startOfBlocks 58 = .ok (.iadd, 1) := by decide +kernel
theorem dX1_startOfBlocks_59 : decode cX1_startOfBlocks 59 = .ok (.iconst 2, 1) := by decide +kernel
theorem dX1_startOfBlocks_60 : decode cX1_startOfBlocks 60 = .ok (.idiv, 1) := by decide +kernel
theorem dX1_startOfBlocks_61 : decode cX1_startOfBlocks 61 = .ok (.istore 9, 2) := by decide +kernel
theorem dX1_startOfBlocks_63 : decode cX1_startOfBlocks 63 = .ok (.aload_n 0, 1) := by decide +kernel
theorem dX1_startOfBlocks_64 : decode cX1_startOfBlocks 64 = .ok (.iload 6, 2) := by decide +kernel
theorem dX1_startOfBlocks_66 : decode cX1_startOfBlocks 66 = .ok (.iload 9, 2) := by decide +kernel
theorem dX1_startOfBlocks_68 : decode cX1_startOfBlocks 68 = .ok (.isub, 1) := by decide +kernel
theorem dX1_startOfBlocks_69 : decode cX1_startOfBlocks 69 = .ok (.iload 9, 2) := by decide +kernel
theorem dX1_startOfBlocks_71 : decode cX1_startOfBlocks 71 = .ok (.iload 4, 2) := by decide +kernel
theorem dX1_startOfBlocks_73 : decode cX1_startOfBlocks 73 = .ok (.invokevirtual 30, 3) := by decide +kernel
theorem dX1_startOfBlocks_76 : decode cX1_startOfBlocks 76 = .ok (.ifCond .eq 10, 3) := by decide +kernel
theorem dX1_startOfBlocks_79 : decode cX1_startOfBlocks 79 = .ok (.iload 9, 2) := by decide +kernel
theorem dX1_startOfBlocks_81 : decode cX1_startOfBlocks 81 = .ok (.istore 8, 2) := by decide +kernel
theorem dX1_startOfBlocks_83 : decode cX1_startOfBlocks 83 = .ok (.goto 9, 3) := by decide +kernel
theorem dX1_startOfBlocks_86 : decode cX1_startOfBlocks 86 = .ok (.iload 9, 2) := by decide +kernel
theorem dX1_startOfBlocks_88 : decode cX1_startOfBlocks 88 = .ok (.iconst 1, 1) := by decide +kernel
theorem dX1_startOfBlocks_89 : decode cX1_startOfBlocks 89 = .ok (.iadd, 1) := by decide +kernel
theorem dX1_startOfBlocks_90 : decode cX1_startOfBlocks 90 = .ok (.istore 7, 2) := by decide +kernel
theorem dX1_startOfBlocks_92 : decode cX1_startOfBlocks 92 = .ok (.goto (-45), 3) := by decide +kernel
theorem dX1_startOfBlocks_95 : decode cX1_startOfBlocks 95 = .ok (.iload 7, 2) := by decide +kernel
theorem dX1_startOfBlocks_97 : decode cX1_startOfBlocks 97 = .ok (.ireturn, 1) := by decide +kernel
set_option maxRecDepth 20000 in
theorem ggX1_splitInPlace_X1_countLess : GoodIn wsX1_splitInPlace wsX1_countLess := goodIn_r _ [9, 10, 11, 12, 13, 14, 15, 30, 31, 32, 33, 34] (by decide +kernel) (by decide +kernel)
set_option maxRecDepth 20000 in
theorem gX1_splitInPlace_X1_countLess : GoodIn wsX1_splitInPlace (wsV RX1 61 RX1 yX1_countLess wsX1_countLess) := goodIn_app (goodIn_of _ (by decide +kernel)) ggX1_splitInPlace_X1_countLess
set_option maxRecDepth 20000 in
theorem ggX1_splitInPlace_X1_swapBlocks : GoodIn wsX1_splitInPlace wsX1_swapBlocks := goodIn_r _ [19, 20, 21, 22, 8, 23, 24, 25, 26, 27, 10, 28, 29, 30, 31, 32, 33, 34] (by decide +kernel) (by decide +kernel)
set_option maxRecDepth 20000 in
theorem gX1_splitInPlace_X1_swapBlocks : GoodIn wsX1_splitInPlace (wsV RX1 57 RX1 yX1_swapBlocks wsX1_swapBlocks) := goodIn_app (goodIn_of _ (by decide +kernel)) ggX1_splitInPlace_X1_swapBlocks
theorem dX1_splitInPlace_0 : decode cX1_splitInPlace 0 = .ok (.iconst 1, 1) := by decide +kernel
theorem dX1_splitInPlace_1 : decode cX1_splitInPlace 1 = .ok (.istore 5, 2) := by decide +kernel
theorem dX1_splitInPlace_3 : decode cX1_splitInPlace 3 = .ok (.iload 5, 2) := by decide +kernel
theorem dX1_splitInPlace_5 : decode cX1_splitInPlace 5 = .ok (.iload_n 2, 1) := by decide +kernel
theorem dX1_splitInPlace_6 : decode cX1_splitInPlace 6 = .ok (.iload_n 1, 1) := by decide +kernel
theorem dX1_splitInPlace_7 : decode cX1_splitInPlace 7 = .ok (.isub, 1) := by decide +kernel
theorem dX1_splitInPlace_8 : decode cX1_splitInPlace 8 = .ok (.if_icmp .ge 96, 3) := by decide +kernel
theorem dX1_splitInPlace_11 : decode cX1_splitInPlace 11 = .ok (.iload_n 1, 1) := by decide +kernel
theorem dX1_splitInPlace_12 : decode cX1_splitInPlace 12 = .ok (.istore 6, 2) := by decide +kernel
theorem dX1_splitInPlace_14 : decode cX1_splitInPlace 14 = .ok (.iload 6, 2) := by decide +kernel
theorem dX1_splitInPlace_16 : decode cX1_splitInPlace 16 = .ok (.iload_n 2, 1) := by decide +kernel
theorem dX1_splitInPlace_17 : decode cX1_splitInPlace 17 = .ok (.iload 5, 2) := by decide +kernel
theorem dX1_splitInPlace_19 : decode cX1_splitInPlace 19 = .ok (.isub, 1) := by decide +kernel
theorem dX1_splitInPlace_20 : decode cX1_splitInPlace 20 = .ok (.if_icmp .ge 75, 3) := by decide +kernel
theorem dX1_splitInPlace_23 : decode cX1_splitInPlace 23 = .ok (.iload 6, 2) := by decide +kernel
theorem dX1_splitInPlace_25 : decode cX1_splitInPlace 25 = .ok (.iload 5, 2) := by decide +kernel
theorem dX1_splitInPlace_27 : decode cX1_splitInPlace 27 = .ok (.iadd, 1) := by decide +kernel
theorem dX1_splitInPlace_28 : decode cX1_splitInPlace 28 = .ok (.istore 7, 2) := by decide +kernel
theorem dX1_splitInPlace_30 : decode cX1_splitInPlace 30 = .ok (.iload 7, 2) := by decide +kernel
theorem dX1_splitInPlace_32 : decode cX1_splitInPlace 32 = .ok (.iload 5, 2) := by decide +kernel
theorem dX1_splitInPlace_34 : decode cX1_splitInPlace 34 = .ok (.iadd, 1) := by decide +kernel
theorem dX1_splitInPlace_35 : decode cX1_splitInPlace 35 = .ok (.iload_n 2, 1) := by decide +kernel
theorem dX1_splitInPlace_36 : decode cX1_splitInPlace 36 = .ok (.invokestatic 43, 3) := by decide +kernel
theorem dX1_splitInPlace_39 : decode cX1_splitInPlace 39 = .ok (.istore 8, 2) := by decide +kernel
theorem dX1_splitInPlace_41 : decode cX1_splitInPlace 41 = .ok (.iload 6, 2) := by decide +kernel
theorem dX1_splitInPlace_43 : decode cX1_splitInPlace 43 = .ok (.aload_n 0, 1) := by decide +kernel
theorem dX1_splitInPlace_44 : decode cX1_splitInPlace 44 = .ok (.iload 6, 2) := by decide +kernel
theorem dX1_splitInPlace_46 : decode cX1_splitInPlace 46 = .ok (.iload 7, 2) := by decide +kernel
theorem dX1_splitInPlace_48 : decode cX1_splitInPlace 48 = .ok (.iload_n 3, 1) := by decide +kernel
theorem dX1_splitInPlace_49 : decode cX1_splitInPlace 49 = .ok (.iload 4, 2) := by decide +kernel
theorem dX1_splitInPlace_51 : decode cX1_splitInPlace 51 = .ok (.invokevirtual 61, 3) := by decide +kernel
theorem dX1_splitInPlace_54 : decode cX1_splitInPlace 54 = .ok (.iadd, 1) := by decide +kernel
theorem dX1_splitInPlace_55 : decode cX1_splitInPlace 55 = .ok (.istore 9, 2) := by decide +kernel
theorem dX1_splitInPlace_57 : decode cX1_splitInPlace 57 = .ok (.iload 7, 2) := by decide +kernel
theorem dX1_splitInPlace_59 : decode cX1_splitInPlace 59 = .ok (.aload_n 0, 1) := by decide +kernel
theorem dX1_splitInPlace_60 : decode cX1_splitInPlace 60 = .ok (.iload 7, 2) := by decide +kernel
theorem dX1_splitInPlace_62 : decode cX1_splitInPlace 62 = .ok (.iload 8, 2) := by decide +kernel
theorem dX1_splitInPlace_64 : decode cX1_splitInPlace 64 = .ok (.iload_n 3, 1) := by decide +kernel
theorem dX1_splitInPlace_65 : decode cX1_splitInPlace 65 = .ok (.iload 4, 2) := by decide +kernel
theorem dX1_splitInPlace_67 : decode cX1_splitInPlace 67 = .ok (.invokevirtual 61, 3) := by decide +kernel
theorem dX1_splitInPlace_70 : decode cX1_splitInPlace 70 = .ok (.iadd, 1) := by decide +kernel
theorem dX1_splitInPlace_71 : decode cX1_splitInPlace 71 = .ok (.istore 10, 2) := by decide +kernel
theorem dX1_splitInPlace_73 : decode cX1_splitInPlace 73 = .ok (.aload_n 0, 1) := by decide +kernel
theorem dX1_splitInPlace_74 : decode cX1_splitInPlace 74 = .ok (.iload 9, 2) := by decide +kernel
theorem dX1_splitInPlace_76 : decode cX1_splitInPlace 76 = .ok (.iload 7, 2) := by decide +kernel
theorem dX1_splitInPlace_78 : decode cX1_splitInPlace 78 = .ok (.iload 10, 2) := by decide +kernel
theorem dX1_splitInPlace_80 : decode cX1_splitInPlace 80 = .ok (.invokevirtual 57, 3) := by decide +kernel
theorem dX1_splitInPlace_83 : decode cX1_splitInPlace 83 = .ok (.iload 6, 2) := by decide +kernel
theorem dX1_splitInPlace_85 : decode cX1_splitInPlace 85 = .ok (.iconst 2, 1) := by decide +kernel
theorem dX1_splitInPlace_86 : decode cX1_splitInPlace 86 = .ok (.iload 5, 2) := by decide +kernel
theorem dX1_splitInPlace_88 : decode cX1_splitInPlace 88 = .ok (.imul, 1) := by decide +kernel
theorem dX1_splitInPlace_89 : decode cX1_splitInPlace 89 = .ok (.iadd, 1) := by decide +kernel
theorem dX1_splitInPlace_90 : decode cX1_splitInPlace 90 = .ok (.istore 6, 2) := by decide +kernel
theorem dX1_splitInPlace_92 : decode cX1_splitInPlace 92 = .ok (.goto (-78), 3) := by decide +kernel
theorem dX1_splitInPlace_95 : decode cX1_splitInPlace 95 = .ok (.iload 5, 2) := by decide +kernel
theorem dX1_splitInPlace_97 : decode cX1_splitInPlace 97 = .ok (.iconst 2, 1) := by decide +kernel
theorem dX1_splitInPlace_98 : decode cX1_splitInPlace 98 = .ok (.imul, 1) := by decide +kernel
theorem dX1_splitInPlace_99 : decode cX1_splitInPlace 99 = .ok (.istore 5, 2) := by decide +kernel
theorem dX1_splitInPlace_101 : decode cX1_splitInPlace 101 = .ok (.goto (-98), 3) := by decide +kernel
theorem dX1_splitInPlace_104 : decode cX1_splitInPlace 104 = .ok (.return_, 1) := by decide +kernel
set_option maxRecDepth 20000 in
theorem ggX1_dropAlike_X1_lessAt : GoodIn wsX1_dropAlike wsX1_lessAt := goodIn_r _ [8, 9, 2, 10, 11, 12, 13, 14, 15, 16, 17, 18, 19] (by decide +kernel) (by decide +kernel)
set_option maxRecDepth 20000 in
theorem gX1_dropAlike_X1_lessAt : GoodIn wsX1_dropAlike (wsV RX1 30 RX1 yX1_lessAt wsX1_lessAt) := goodIn_app (goodIn_of _ (by decide +kernel)) ggX1_dropAlike_X1_lessAt
theorem dX1_dropAlike_0 : decode cX1_dropAlike 0 = .ok (.iconst 0, 1) := by decide +kernel
theorem dX1_dropAlike_1 : decode cX1_dropAlike 1 = .ok (.istore_n 2, 1) := by decide +kernel
theorem dX1_dropAlike_2 : decode cX1_dropAlike 2 = .ok (.iconst 0, 1) := by decide +kernel
theorem dX1_dropAlike_3 : decode cX1_dropAlike 3 = .ok (.istore_n 3, 1) := by decide +kernel
theorem dX1_dropAlike_4 : decode cX1_dropAlike 4 = .ok (.iload_n 3, 1) := by decide +kernel
theorem dX1_dropAlike_5 : decode cX1_dropAlike 5 = .ok (.aload_n 0, 1) := by decide +kernel
theorem dX1_dropAlike_6 : decode cX1_dropAlike 6 = .ok (.getfield 16, 3) := by decide +kernel
theorem dX1_dropAlike_9 : decode cX1_dropAlike 9 = .ok (.if_icmp .ge 52, 3) := by decide +kernel
theorem dX1_dropAlike_12 : decode cX1_dropAlike 12 = .ok (.iload_n 2, 1) := by decide +kernel
theorem dX1_dropAlike_13 : decode cX1_dropAlike 13 = .ok (.ifCond .eq 15, 3) := by decide +kernel
theorem dX1_dropAlike_16 : decode cX1_dropAlike 16 = .ok (.aload_n 0, 1) := by decide +kernel
theorem dX1_dropAlike_17 : decode cX1_dropAlike 17 = .ok (.iload_n 2, 1) := by decide +kernel
theorem dX1_dropAlike_18 : decode cX1_dropAlike 18 = .ok (.iconst 1, 1) := by decide +kernel
theorem dX1_dropAlike_19 : decode cX1_dropAlike 19 = .ok (.isub, 1) := by decide +kernel
theorem dX1_dropAlike_20 : decode cX1_dropAlike 20 = .ok (.iload_n 3, 1) := by decide +kernel
theorem dX1_dropAlike_21 : decode cX1_dropAlike 21 = .ok (.iload_n 1, 1) := by decide +kernel
theorem dX1_dropAlike_22 : decode cX1_dropAlike 22 = .ok (.invokevirtual 30, 3) := by decide +kernel
theorem dX1_dropAlike_25 : decode cX1_dropAlike 25 = .ok (.ifCond .eq 30, 3) := by decide +kernel
theorem dX1_dropAlike_28 : decode cX1_dropAlike 28 = .ok (.aload_n 0, 1) := by decide +kernel
theorem dX1_dropAlike_29 : decode cX1_dropAlike 29 = .ok (.getfield 9, 3) := by decide +kernel
theorem dX1_dropAlike_32 : decode cX1_dropAlike 32 = .ok (.iload_n 2, 1) := by decide +kernel
theorem dX1_dropAlike_33 : decode cX1_dropAlike 33 = .ok (.aload_n 0, 1) := by decide +kernel
theorem dX1_dropAlike_34 : decode cX1_dropAlike 34 = .ok (.getfield 9, 3) := by decide +kernel
theorem dX1_dropAlike_37 : decode cX1_dropAlike 37 = .ok (.iload_n 3, 1) := by decide +kernel
theorem dX1_dropAlike_38 : decode cX1_dropAlike 38 = .ok (.iaload, 1) := by decide +kernel
theorem dX1_dropAlike_39 : decode cX1_dropAlike 39 = .ok (.iastore, 1) := by decide +kernel
theorem dX1_dropAlike_40 : decode cX1_dropAlike 40 = .ok (.aload_n 0, 1) := by decide +kernel
theorem dX1_dropAlike_41 : decode cX1_dropAlike 41 = .ok (.getfield 13, 3) := by decide +kernel
theorem dX1_dropAlike_44 : decode cX1_dropAlike 44 = .ok (.iload_n 2, 1) := by decide +kernel
theorem dX1_dropAlike_45 : decode cX1_dropAlike 45 = .ok (.aload_n 0, 1) := by decide +kernel
theorem dX1_dropAlike_46 : decode cX1_dropAlike 46 = .ok (.getfield 13, 3) := by decide +kernel
theorem dX1_dropAlike_49 : decode cX1_dropAlike 49 = .ok (.iload_n 3, 1) := by decide +kernel
theorem dX1_dropAlike_50 : decode cX1_dropAlike 50 = .ok (.iaload, 1) := by decide +kernel
theorem dX1_dropAlike_51 : decode cX1_dropAlike 51 = .ok (.iastore, 1) := by decide +kernel
theorem dX1_dropAlike_52 : decode cX1_dropAlike 52 = .ok (.iinc 2 1, 3) := by decide +kernel
theorem dX1_dropAlike_55 : decode cX1_dropAlike 55 = .ok (.iinc 3 1, 3) := by decide +kernel
theorem dX1_dropAlike_58 : decode cX1_dropAlike 58 = .ok (.goto (-54), 3) := by decide +kernel
theorem dX1_dropAlike_61 : decode cX1_dropAlike 61 = .ok (.aload_n 0, 1) := by decide +kernel
theorem dX1_dropAlike_62 : decode cX1_dropAlike 62 = .ok (.iload_n 2, 1) := by decide +kernel
theorem dX1_dropAlike_63 : decode cX1_dropAlike 63 = .ok (.putfield 16, 3) := by decide +kernel
theorem dX1_dropAlike_66 : decode cX1_dropAlike 66 = .ok (.return_, 1) := by decide +kernel
set_option maxRecDepth 20000 in
theorem ggX1_swapBlocks_X1_reverse : GoodIn wsX1_swapBlocks wsX1_reverse := goodIn_r _ [5, 6, 7, 8, 4, 9, 10, 11, 12, 13, 14, 15, 16, 17] (by decide +kernel) (by decide +kernel)
set_option maxRecDepth 20000 in
theorem gX1_swapBlocks_X1_reverse : GoodIn wsX1_swapBlocks (wsV RX1 64 RX1 yX1_reverse wsX1_reverse) := goodIn_app (goodIn_of _ (by decide +kernel)) ggX1_swapBlocks_X1_reverse
theorem dX1_swapBlocks_0 : decode cX1_swapBlocks 0 = .ok (.iload_n 1, 1) := by decide +kernel
theorem dX1_swapBlocks_1 : decode cX1_swapBlocks 1 = .ok (.iload_n 2, 1) := by decide +kernel
theorem dX1_swapBlocks_2 : decode cX1_swapBlocks 2 = .ok (.if_icmp .ge 8, 3) := by decide +kernel
theorem dX1_swapBlocks_5 : decode cX1_swapBlocks 5 = .ok (.iload_n 2, 1) := by decide +kernel
theorem dX1_swapBlocks_6 : decode cX1_swapBlocks 6 = .ok (.iload_n 3, 1) := by decide +kernel
theorem dX1_swapBlocks_7 : decode cX1_swapBlocks 7 = .ok (.if_icmp .lt 4, 3) := by decide +kernel
theorem dX1_swapBlocks_10 : decode cX1_swapBlocks 10 = .ok (.return_, 1) := by decide +kernel
theorem dX1_swapBlocks_11 : decode cX1_swapBlocks 11 = .ok (.aload_n 0, 1) := by decide +kernel
theorem dX1_swapBlocks_12 : decode cX1_swapBlocks 12 = .ok (.iload_n 1, 1) := by decide +kernel
theorem dX1_swapBlocks_13 : decode cX1_swapBlocks 13 = .ok (.iload_n 2, 1) := by decide +kernel
theorem dX1_swapBlocks_14 : decode cX1_swapBlocks 14 = .ok (.invokevirtual 64, 3) := by decide +kernel
theorem dX1_swapBlocks_17 : decode cX1_swapBlocks 17 = .ok (.aload_n 0, 1) := by decide +kernel
theorem dX1_swapBlocks_18 : decode cX1_swapBlocks 18 = .ok (.iload_n 2, 1) := by decide +kernel
theorem dX1_swapBlocks_19 : decode cX1_swapBlocks 19 = .ok (.iload_n 3, 1) := by decide +kernel
theorem dX1_swapBlocks_20 : decode cX1_swapBlocks 20 = .ok (.invokevirtual 64, 3) := by decide +kernel
theorem dX1_swapBlocks_23 : decode cX1_swapBlocks 23 = .ok (.aload_n 0, 1) := by decide +kernel
theorem dX1_swapBlocks_24 : decode cX1_swapBlocks 24 = .ok (.iload_n 1, 1) := by decide +kernel
theorem dX1_swapBlocks_25 : decode cX1_swapBlocks 25 = .ok (.iload_n 3, 1) := by decide +kernel
theorem dX1_swapBlocks_26 : decode cX1_swapBlocks 26 = .ok (.invokevirtual 64, 3) := by decide +kernel
theorem dX1_swapBlocks_29 : decode cX1_swapBlocks 29 = .ok (.return_, 1) := by decide +kernel
set_option maxRecDepth 20000 in
theorem ggX1_reverse_X1_swapPairs : GoodIn wsX1_reverse wsX1_swapPairs := goodIn_r _ [5, 6, 7, 8, 9, 10, 11, 12, 13] (by decide +kernel) (by decide +kernel)
set_option maxRecDepth 20000 in
theorem gX1_reverse_X1_swapPairs : GoodIn wsX1_reverse (wsV RX1 68 RX1 yX1_swapPairs wsX1_swapPairs) := goodIn_app (goodIn_of _ (by decide +kernel)) ggX1_reverse_X1_swapPairs
theorem dX1_reverse_0 : decode cX1_reverse 0 = .ok (.iload_n 1, 1) := by decide +kernel
theorem dX1_reverse_1 : decode cX1_reverse 1 = .ok (.istore_n 3, 1) := by decide +kernel
theorem dX1_reverse_2 : decode cX1_reverse 2 = .ok (.iload_n 2, 1) := by decide +kernel
theorem dX1_reverse_3 : decode cX1_reverse 3 = .ok (.iconst 1, 1) := by decide +kernel
theorem dX1_reverse_4 : decode cX1_reverse 4 = .ok (.isub, 1) := by decide +kernel
theorem dX1_reverse_5 : decode cX1_reverse 5 = .ok (.istore 4, 2) := by decide +kernel
theorem dX1_reverse_7 : decode cX1_reverse 7 = .ok (.iload_n 3, 1) := by decide +kernel
theorem dX1_reverse_8 : decode cX1_reverse 8 = .ok (.iload 4, 2) := by decide +kernel
theorem dX1_reverse_10 : decode cX1_reverse 10 = .ok (.if_icmp .ge 19, 3) := by decide +kernel
theorem dX1_reverse_13 : decode cX1_reverse 13 = .ok (.aload_n 0, 1) := by decide +kernel
theorem dX1_reverse_14 : decode cX1_reverse 14 = .ok (.iload_n 3, 1) := by decide +kernel
theorem dX1_reverse_15 : decode cX1_reverse 15 = .ok (.iload 4, 2) := by decide +kernel
theorem dX1_reverse_17 : decode cX1_reverse 17 = .ok (.invokevirtual 68, 3) := by decide +kernel
theorem dX1_reverse_20 : decode cX1_reverse 20 = .ok (.iinc 3 1, 3) := by decide +kernel
theorem dX1_reverse_23 : decode cX1_reverse 23 = .ok (.iinc 4 (-1), 3) := by decide +kernel
theorem dX1_reverse_26 : decode cX1_reverse 26 = .ok (.goto (-19), 3) := by decide +kernel
theorem dX1_reverse_29 : decode cX1_reverse 29 = .ok (.return_, 1) := by decide +kernel
theorem dX1_swapPairs_0 : decode cX1_swapPairs 0 = .ok (.aload_n 0, 1) := by decide +kernel
theorem dX1_swapPairs_1 : decode cX1_swapPairs 1 = .ok (.getfield 9, 3) := by decide +kernel
theorem dX1_swapPairs_4 : decode cX1_swapPairs 4 = .ok (.iload_n 1, 1) := by decide +kernel
theorem dX1_swapPairs_5 : decode cX1_swapPairs 5 = .ok (.iaload, 1) := by decide +kernel
theorem dX1_swapPairs_6 : decode cX1_swapPairs 6 = .ok (.istore_n 3, 1) := by decide +kernel
theorem dX1_swapPairs_7 : decode cX1_swapPairs 7 = .ok (.aload_n 0, 1) := by decide +kernel
theorem dX1_swapPairs_8 : decode cX1_swapPairs 8 = .ok (.getfield 9, 3) := by decide +kernel
theorem dX1_swapPairs_11 : decode cX1_swapPairs 11 = .ok (.iload_n 1, 1) := by decide +kernel
theorem dX1_swapPairs_12 : decode cX1_swapPairs 12 = .ok (.aload_n 0, 1) := by decide +kernel
theorem dX1_swapPairs_13 : decode cX1_swapPairs 13 = .ok (.getfield 9, 3) := by decide +kernel
theorem dX1_swapPairs_16 : decode cX1_swapPairs 16 = .ok (.iload_n 2, 1) := by decide +kernel
theorem dX1_swapPairs_17 : decode cX1_swapPairs 17 = .ok (.iaload, 1) := by decide +kernel
theorem dX1_swapPairs_18 : decode cX1_swapPairs 18 = .ok (.iastore, 1) := by decide +kernel
theorem dX1_swapPairs_19 : decode cX1_swapPairs 19 = .ok (.aload_n 0, 1) := by decide +kernel
theorem dX1_swapPairs_20 : decode cX1_swapPairs 20 = .ok (.getfield 9, 3) := by decide +kernel
theorem dX1_swapPairs_23 : decode cX1_swapPairs 23 = .ok (.iload_n 2, 1) := by decide +kernel
theorem dX1_swapPairs_24 : decode cX1_swapPairs 24 = .ok (.iload_n 3, 1) := by decide +kernel
theorem dX1_swapPairs_25 : decode cX1_swapPairs 25 = .ok (.iastore, 1) := by decide +kernel
theorem dX1_swapPairs_26 : decode cX1_swapPairs 26 = .ok (.aload_n 0, 1) := by decide +kernel
theorem dX1_swapPairs_27 : decode cX1_swapPairs 27 = .ok (.dup, 1) := by decide +kernel
theorem dX1_swapPairs_28 : decode cX1_swapPairs 28 = .ok (.getfield 27, 3) := by decide +kernel
theorem dX1_swapPairs_31 : decode cX1_swapPairs 31 = .ok (.iconst 2, 1) := by decide +kernel
theorem dX1_swapPairs_32 : decode cX1_swapPairs 32 = .ok (.iadd, 1) := by decide +kernel
theorem dX1_swapPairs_33 : decode cX1_swapPairs 33 = .ok (.putfield 27, 3) := by decide +kernel
theorem dX1_swapPairs_36 : decode cX1_swapPairs 36 = .ok (.aload_n 0, 1) := by decide +kernel
theorem dX1_swapPairs_37 : decode cX1_swapPairs 37 = .ok (.getfield 13, 3) := by decide +kernel
theorem dX1_swapPairs_40 : decode cX1_swapPairs 40 = .ok (.iload_n 1, 1) := by decide +kernel
theorem dX1_swapPairs_41 : decode cX1_swapPairs 41 = .ok (.iaload, 1) := by decide +kernel
theorem dX1_swapPairs_42 : decode cX1_swapPairs 42 = .ok (.istore 4, 2) := by decide +kernel
theorem dX1_swapPairs_44 : decode cX1_swapPairs 44 = .ok (.aload_n 0, 1) := by decide +kernel
theorem dX1_swapPairs_45 : decode cX1_swapPairs 45 = .ok (.getfield 13, 3) := by decide +kernel
theorem dX1_swapPairs_48 : decode cX1_swapPairs 48 = .ok (.iload_n 1, 1) := by decide +kernel
theorem dX1_swapPairs_49 : decode cX1_swapPairs 49 = .ok (.aload_n 0, 1) := by decide +kernel
theorem dX1_swapPairs_50 : decode cX1_swapPairs 50 = .ok (.getfield 13, 3) := by decide +kernel
theorem dX1_swapPairs_53 : decode cX1_swapPairs 53 = .ok (.iload_n 2, 1) := by decide +kernel
theorem dX1_swapPairs_54 : decode cX1_swapPairs 54 = .ok (.iaload, 1) := by decide +kernel
theorem dX1_swapPairs_55 : decode cX1_swapPairs 55 = .ok (.iastore, 1) := by decide +kernel
theorem dX1_swapPairs_56 : decode cX1_swapPairs 56 = .ok (.aload_n 0, 1) := by decide +kernel
theorem dX1_swapPairs_57 : decode cX1_swapPairs 57 = .ok (.getfield 13, 3) := by decide +kernel
theorem dX1_swapPairs_60 : decode cX1_swapPairs 60 = .ok (.iload_n 2, 1) := by decide +kernel
theorem dX1_swapPairs_61 : decode cX1_swapPairs 61 = .ok (.iload 4, 2) := by decide +kernel
theorem dX1_swapPairs_63 : decode cX1_swapPairs 63 = .ok (.iastore, 1) := by decide +kernel
theorem dX1_swapPairs_64 : decode cX1_swapPairs 64 = .ok (.return_, 1) := by decide +kernel
set_option maxRecDepth 20000 in
theorem ggX1_lessAt_X0_isLess : GoodIn wsX1_lessAt wsX0_isLess := goodIn_r _ [6, 7] (by decide +kernel) (by decide +kernel)
set_option maxRecDepth 20000 in
theorem gX1_lessAt_X0_isLess : GoodIn wsX1_lessAt (va_wsS RX1 34 yX0_isLess wsX0_isLess) := goodIn_app (goodIn_of _ (by decide +kernel)) ggX1_lessAt_X0_isLess
theorem dX1_lessAt_0 : decode cX1_lessAt 0 = .ok (.aload_n 0, 1) := by decide +kernel
theorem dX1_lessAt_1 : decode cX1_lessAt 1 = .ok (.dup, 1) := by decide +kernel
theorem dX1_lessAt_2 : decode cX1_lessAt 2 = .ok (.getfield 24, 3) := by decide +kernel
theorem dX1_lessAt_5 : decode cX1_lessAt 5 = .ok (.iconst 1, 1) := by decide +kernel
theorem dX1_lessAt_6 : decode cX1_lessAt 6 = .ok (.iadd, 1) := by decide +kernel
theorem dX1_lessAt_7 : decode cX1_lessAt 7 = .ok (.putfield 24, 3) := by decide +kernel
theorem dX1_lessAt_10 : decode cX1_lessAt 10 = .ok (.aload_n 0, 1) := by decide +kernel
theorem dX1_lessAt_11 : decode cX1_lessAt 11 = .ok (.getfield 9, 3) := by decide +kernel
theorem dX1_lessAt_14 : decode cX1_lessAt 14 = .ok (.iload_n 1, 1) := by decide +kernel
theorem dX1_lessAt_15 : decode cX1_lessAt 15 = .ok (.iaload, 1) := by decide +kernel
theorem dX1_lessAt_16 : decode cX1_lessAt 16 = .ok (.aload_n 0, 1) := by decide +kernel
theorem dX1_lessAt_17 : decode cX1_lessAt 17 = .ok (.getfield 9, 3) := by decide +kernel
theorem dX1_lessAt_20 : decode cX1_lessAt 20 = .ok (.iload_n 2, 1) := by decide +kernel
theorem dX1_lessAt_21 : decode cX1_lessAt 21 = .ok (.iaload, 1) := by decide +kernel
theorem dX1_lessAt_22 : decode cX1_lessAt 22 = .ok (.iload_n 3, 1) := by decide +kernel
theorem dX1_lessAt_23 : decode cX1_lessAt 23 = .ok (.invokestatic 34, 3) := by decide +kernel
theorem dX1_lessAt_26 : decode cX1_lessAt 26 = .ok (.ireturn, 1) := by decide +kernel
set_option maxRecDepth 20000 in
theorem ggX2_init_X1_init : GoodIn wsX2_init wsX1_init := goodIn_r _ [9, 10, 2, 3, 11, 12, 13, 14, 15, 16, 17, 18] (by decide +kernel) (by decide +kernel)
set_option maxRecDepth 20000 in
theorem gX2_init_X1_init_n9 : GoodIn wsX2_init (wsX1_init) := ggX2_init_X1_init
