theorem dX3_init_0 : decode cX3_init 0 = .ok (.aload_n 0, 1) := by decide +kernel
theorem dX3_init_1 : decode cX3_init 1 = .ok (.invokespecial 1, 3) := by decide +kernel
theorem dX3_init_4 : decode cX3_init 4 = .ok (.aload_n 0, 1) := by decide +kernel
theorem dX3_init_5 : decode cX3_init 5 = .ok (.sipush 500, 3) := by decide +kernel
theorem dX3_init_8 : decode cX3_init 8 = .ok (.newarray .int, 2) := by decide +kernel
theorem dX3_init_10 : decode cX3_init 10 = .ok (.putfield 7, 3) := by decide +kernel
theorem dX3_init_13 : decode cX3_init 13 = .ok (.aload_n 0, 1) := by decide +kernel
theorem dX3_init_14 : decode cX3_init 14 = .ok (.sipush 500, 3) := by decide +kernel
theorem dX3_init_17 : decode cX3_init 17 = .ok (.newarray .int, 2) := by decide +kernel
theorem dX3_init_19 : decode cX3_init 19 = .ok (.putfield 13, 3) := by decide +kernel
theorem dX3_init_22 : decode cX3_init 22 = .ok (.aload_n 0, 1) := by decide +kernel
theorem dX3_init_23 : decode cX3_init 23 = .ok (.sipush 500, 3) := by decide +kernel
theorem dX3_init_26 : decode cX3_init 26 = .ok (.newarray .int, 2) := by decide +kernel
theorem dX3_init_28 : decode cX3_init 28 = .ok (.putfield 16, 3) := by decide +kernel
theorem dX3_init_31 : decode cX3_init 31 = .ok (.aload_n 0, 1) := by decide +kernel
theorem dX3_init_32 : decode cX3_init 32 = .ok (.sipush 500, 3) := by decide +kernel
theorem dX3_init_35 : decode cX3_init 35 = .ok (.newarray .int, 2) := by decide +kernel
theorem dX3_init_37 : decode cX3_init 37 = .ok (.putfield 19, 3) := by decide +kernel
theorem dX3_init_40 : decode cX3_init 40 = .ok (.aload_n 0, 1) := by decide +kernel
theorem dX3_init_41 : decode cX3_init 41 = .ok (.iconst 0, 1) := by decide +kernel
theorem dX3_init_42 : decode cX3_init 42 = .ok (.putfield 22, 3) := by decide +kernel
theorem dX3_init_45 : decode cX3_init 45 = .ok (.return_, 1) := by decide +kernel
theorem dX3_isOrder_0 : decode cX3_isOrder 0 = .ok (.iload_n 0, 1) := by decide +kernel
theorem dX3_isOrder_1 : decode cX3_isOrder 1 = .ok (.ifCond .lt 12, 3) := by decide +kernel
theorem dX3_isOrder_4 : decode cX3_isOrder 4 = .ok (.iload_n 0, 1) := by decide +kernel
theorem dX3_isOrder_5 : decode cX3_isOrder 5 = .ok (.iconst 3, 1) := by decide +kernel
theorem dX3_isOrder_6 : decode cX3_isOrder 6 = .ok (.if_icmp .gt 7, 3) := by decide +kernel
theorem dX3_isOrder_9 : decode cX3_isOrder 9 = .ok (.iconst 1, 1) := by decide +kernel
theorem dX3_isOrder_10 : decode cX3_isOrder 10 = .ok (.goto 4, 3) := by decide +kernel
theorem dX3_isOrder_13 : decode cX3_isOrder 13 = .ok (.iconst 0, 1) := by decide +kernel
theorem dX3_isOrder_14 : decode cX3_isOrder 14 = .ok (.ireturn, 1) := by decide +kernel
theorem dX3_isStretch_0 : decode cX3_isStretch 0 = .ok (.iload_n 1, 1) := by decide +kernel
theorem dX3_isStretch_1 : decode cX3_isStretch 1 = .ok (.ifCond .lt 20, 3) := by decide +kernel
theorem dX3_isStretch_4 : decode cX3_isStretch 4 = .ok (.iload_n 1, 1) := by decide +kernel
theorem dX3_isStretch_5 : decode cX3_isStretch 5 = .ok (.iload_n 2, 1) := by decide +kernel
theorem dX3_isStretch_6 : decode cX3_isStretch 6 = .ok (.if_icmp .gt 15, 3) := by decide +kernel
theorem dX3_isStretch_9 : decode cX3_isStretch 9 = .ok (.iload_n 2, 1) := by decide +kernel
theorem dX3_isStretch_10 : decode cX3_isStretch 10 = .ok (.aload_n 0, 1) := by decide +kernel
theorem dX3_isStretch_11 : decode cX3_isStretch 11 = .ok (.getfield 22, 3) := by decide +kernel
theorem dX3_isStretch_14 : decode cX3_isStretch 14 = .ok (.if_icmp .gt 7, 3) := by decide +kernel
theorem dX3_isStretch_17 : decode cX3_isStretch 17 = .ok (.iconst 1, 1) := by decide +kernel
theorem dX3_isStretch_18 : decode cX3_isStretch 18 = .ok (.goto 4, 3) := by decide +kernel
theorem dX3_isStretch_21 : decode cX3_isStretch 21 = .ok (.iconst 0, 1) := by decide +kernel
theorem dX3_isStretch_22 : decode cX3_isStretch 22 = .ok (.ireturn, 1) := by decide +kernel
theorem dX3_isLess_0 : decode cX3_isLess 0 = .ok (.iload_n 2, 1) := by decide +kernel
theorem dX3_isLess_1 : decode cX3_isLess 1 = .ok (.tableswitch 71 0 2 #[27, 38, 60], 27) := by decide +kernel
theorem dX3_isLess_28 : decode cX3_isLess 28 = .ok (.iload_n 0, 1) := by decide +kernel
theorem dX3_isLess_29 : decode cX3_isLess 29 = .ok (.iload_n 1, 1) := by decide +kernel
theorem dX3_isLess_30 : decode cX3_isLess 30 = .ok (.if_icmp .ge 7, 3) := by decide +kernel
theorem dX3_isLess_33 : decode cX3_isLess 33 = .ok (.iconst 1, 1) := by decide +kernel
theorem dX3_isLess_34 : decode cX3_isLess 34 = .ok (.goto 4, 3) := by decide +kernel
theorem dX3_isLess_37 : decode cX3_isLess 37 = .ok (.iconst 0, 1) := by decide +kernel
theorem dX3_isLess_38 : decode cX3_isLess 38 = .ok (.ireturn, 1) := by decide +kernel
theorem dX3_isLess_39 : decode cX3_isLess 39 = .ok (.iload_n 0, 1) := by decide +kernel
theorem dX3_isLess_40 : decode cX3_isLess 40 = .ok (.i2l, 1) := by decide +kernel
theorem dX3_isLess_41 : decode cX3_isLess 41 = .ok (.ldc2_w 26, 3) := by decide +kernel
theorem dX3_isLess_44 : decode cX3_isLess 44 = .ok (.land, 1) := by decide +kernel
theorem dX3_isLess_45 : decode cX3_isLess 45 = .ok (.iload_n 1, 1) := by decide +kernel
theorem dX3_isLess_46 : decode cX3_isLess 46 = .ok (.i2l, 1) := by decide +kernel
theorem dX3_isLess_47 : decode cX3_isLess 47 = .ok (.ldc2_w 26, 3) := by decide +kernel
theorem dX3_isLess_50 : decode cX3_isLess 50 = .ok (.land, 1) := by decide +kernel
theorem dX3_isLess_51 : decode cX3_isLess 51 = .ok (.lcmp, 1) := by decide +kernel
theorem dX3_isLess_52 : decode cX3_isLess 52 = .ok (.ifCond .ge 7, 3) := by decide +kernel
theorem dX3_isLess_55 : decode cX3_isLess 55 = .ok (.iconst 1, 1) := by decide +kernel
theorem dX3_isLess_56 : decode cX3_isLess 56 = .ok (.goto 4, 3) := by decide +kernel
theorem dX3_isLess_59 : decode cX3_isLess 59 = .ok (.iconst 0, 1) := by decide +kernel
theorem dX3_isLess_60 : decode cX3_isLess 60 = .ok (.ireturn, 1) := by decide +kernel
theorem dX3_isLess_61 : decode cX3_isLess 61 = .ok (.iload_n 1, 1) := by decide +kernel
theorem dX3_isLess_62 : decode cX3_isLess 62 = .ok (.iload_n 0, 1) := by decide +kernel
theorem dX3_isLess_63 : decode cX3_isLess 63 = .ok (.if_icmp .ge 7, 3) := by decide +kernel
theorem dX3_isLess_66 : decode cX3_isLess 66 = .ok (.iconst 1, 1) := by decide +kernel
theorem dX3_isLess_67 : decode cX3_isLess 67 = .ok (.goto 4, 3) := by decide +kernel
theorem dX3_isLess_70 : decode cX3_isLess 70 = .ok (.iconst 0, 1) := by decide +kernel
theorem dX3_isLess_71 : decode cX3_isLess 71 = .ok (.ireturn, 1) := by decide +kernel
theorem dX3_isLess_72 : decode cX3_isLess 72 = .ok (.iload_n 0, 1) := by decide +kernel
theorem dX3_isLess_73 : decode cX3_isLess 73 = .ok (.sipush 255, 3) := by decide +kernel
theorem dX3_isLess_76 : decode cX3_isLess 76 = .ok (.iand, 1) := by decide +kernel
theorem dX3_isLess_77 : decode cX3_isLess 77 = .ok (.iload_n 1, 1) := by decide +kernel
theorem dX3_isLess_78 : decode cX3_isLess 78 = .ok (.sipush 255, 3) := by decide +kernel
theorem dX3_isLess_81 : decode cX3_isLess 81 = .ok (.iand, 1) := by decide +kernel
theorem dX3_isLess_82 : decode cX3_isLess 82 = .ok (.if_icmp .ge 7, 3) := by decide +kernel
theorem dX3_isLess_85 : decode cX3_isLess 85 = .ok (.iconst 1, 1) := by decide +kernel
theorem dX3_isLess_86 : decode cX3_isLess 86 = .ok (.goto 4, 3) := by decide +kernel
theorem dX3_isLess_89 : decode cX3_isLess 89 = .ok (.iconst 0, 1) := by decide +kernel
theorem dX3_isLess_90 : decode cX3_isLess 90 = .ok (.ireturn, 1) := by decide +kernel
set_option maxRecDepth 20000 in
theorem ggX3_isSorted_X3_isLess : GoodIn wsX3_isSorted wsX3_isLess := goodIn_r _ [5, 6] (by decide +kernel) (by decide +kernel)
set_option maxRecDepth 20000 in
theorem gX3_isSorted_X3_isLess : GoodIn wsX3_isSorted (va_wsS RX3 28 yX3_isLess wsX3_isLess) := goodIn_app (goodIn_of _ (by decide +kernel)) ggX3_isSorted_X3_isLess
theorem dX3_isSorted_0 : decode cX3_isSorted 0 = .ok (.iload_n 1, 1) := by decide +kernel
theorem dX3_isSorted_1 : decode cX3_isSorted 1 = .ok (.iconst 1, 1) := by decide +kernel
theorem dX3_isSorted_2 : decode cX3_isSorted 2 = .ok (.iadd, 1) := by decide +kernel
theorem dX3_isSorted_3 : decode cX3_isSorted 3 = .ok (.istore 4, 2) := by decide +kernel
theorem dX3_isSorted_5 : decode cX3_isSorted 5 = .ok (.iload 4, 2) := by decide +kernel
theorem dX3_isSorted_7 : decode cX3_isSorted 7 = .ok (.iload_n 2, 1) := by decide +kernel
theorem dX3_isSorted_8 : decode cX3_isSorted 8 = .ok (.if_icmp .ge 34, 3) := by decide +kernel
theorem dX3_isSorted_11 : decode cX3_isSorted 11 = .ok (.aload_n 0, 1) := by decide +kernel
theorem dX3_isSorted_12 : decode cX3_isSorted 12 = .ok (.getfield 7, 3) := by decide +kernel
theorem dX3_isSorted_15 : decode cX3_isSorted 15 = .ok (.iload 4, 2) := by decide +kernel
theorem dX3_isSorted_17 : decode cX3_isSorted 17 = .ok (.iaload, 1) := by decide +kernel
theorem dX3_isSorted_18 : decode cX3_isSorted 18 = .ok (.aload_n 0, 1) := by decide +kernel
theorem dX3_isSorted_19 : decode cX3_isSorted 19 = .ok (.getfield 7, 3) := by decide +kernel
theorem dX3_isSorted_22 : decode cX3_isSorted 22 = .ok (.iload 4, 2) := by decide +kernel
theorem dX3_isSorted_24 : decode cX3_isSorted 24 = .ok (.iconst 1, 1) := by decide +kernel
theorem dX3_isSorted_25 : decode cX3_isSorted 25 = .ok (.isub, 1) := by decide +kernel
theorem dX3_isSorted_26 : decode cX3_isSorted 26 = .ok (.iaload, 1) := by decide +kernel
theorem dX3_isSorted_27 : decode cX3_isSorted 27 = .ok (.iload_n 3, 1) := by decide +kernel
theorem dX3_isSorted_28 : decode cX3_isSorted 28 = .ok (.invokestatic 28, 3) := by decide +kernel
theorem dX3_isSorted_31 : decode cX3_isSorted 31 = .ok (.ifCond .eq 5, 3) := by decide +kernel
theorem dX3_isSorted_34 : decode cX3_isSorted 34 = .ok (.iconst 0, 1) := by decide +kernel
theorem dX3_isSorted_35 : decode cX3_isSorted 35 = .ok (.ireturn, 1) := by decide +kernel
theorem dX3_isSorted_36 : decode cX3_isSorted 36 = .ok (.iinc 4 1, 3) := by decide +kernel
theorem dX3_isSorted_39 : decode cX3_isSorted 39 = .ok (.goto (-34), 3) := by decide +kernel
theorem dX3_isSorted_42 : decode cX3_isSorted 42 = .ok (.iconst 1, 1) := by decide +kernel
theorem dX3_isSorted_43 : decode cX3_isSorted 43 = .ok (.ireturn, 1) := by decide +kernel
theorem dX3_put_0 : decode cX3_put 0 = .ok (.aload_n 0, 1) := by decide +kernel
theorem dX3_put_1 : decode cX3_put 1 = .ok (.getfield 22, 3) := by decide +kernel
theorem dX3_put_4 : decode cX3_put 4 = .ok (.sipush 500, 3) := by decide +kernel
theorem dX3_put_7 : decode cX3_put 7 = .ok (.if_icmp .ne 5, 3) := by decide +kernel
theorem dX3_put_10 : decode cX3_put 10 = .ok (.iconst (-1), 1) := by decide +kernel
theorem dX3_put_11 : decode cX3_put 11 = .ok (.ireturn, 1) := by decide +kernel
theorem dX3_put_12 : decode cX3_put 12 = .ok (.aload_n 0, 1) := by decide +kernel
theorem dX3_put_13 : decode cX3_put 13 = .ok (.getfield 7, 3) := by decide +kernel
theorem dX3_put_16 : decode cX3_put 16 = .ok (.aload_n 0, 1) := by decide +kernel
theorem dX3_put_17 : decode cX3_put 17 = .ok (.getfield 22, 3) := by decide +kernel
theorem dX3_put_20 : decode cX3_put 20 = .ok (.iload_n 1, 1) := by decide +kernel
theorem dX3_put_21 : decode cX3_put 21 = .ok (.iastore, 1) := by decide +kernel
theorem dX3_put_22 : decode cX3_put 22 = .ok (.aload_n 0, 1) := by decide +kernel
theorem dX3_put_23 : decode cX3_put 23 = .ok (.getfield 13, 3) := by decide +kernel
theorem dX3_put_26 : decode cX3_put 26 = .ok (.aload_n 0, 1) := by decide +kernel
theorem dX3_put_27 : decode cX3_put 27 = .ok (.getfield 22, 3) := by decide +kernel
theorem dX3_put_30 : decode cX3_put 30 = .ok (.iload_n 2, 1) := by decide +kernel
theorem dX3_put_31 : decode cX3_put 31 = .ok (.iastore, 1) := by decide +kernel
theorem dX3_put_32 : decode cX3_put 32 = .ok (.aload_n 0, 1) := by decide +kernel
theorem dX3_put_33 : decode cX3_put 33 = .ok (.dup, 1) := by decide +kernel
theorem dX3_put_34 : decode cX3_put 34 = .ok (.getfield 22, 3) := by decide +kernel
theorem dX3_put_37 : decode cX3_put 37 = .ok (.iconst 1, 1) := by decide +kernel
theorem dX3_put_38 : decode cX3_put 38 = .ok (.iadd, 1) := by decide +kernel
theorem dX3_put_39 : decode cX3_put 39 = .ok (.putfield 22, 3) := by decide +kernel
theorem dX3_put_42 : decode cX3_put 42 = .ok (.aload_n 0, 1) := by decide +kernel
theorem dX3_put_43 : decode cX3_put 43 = .ok (.getfield 22, 3) := by decide +kernel
theorem dX3_put_46 : decode cX3_put 46 = .ok (.ireturn, 1) := by decide +kernel
theorem dX3_run_0 : decode cX3_run 0 = .ok (.iload_n 1, 1) := by decide +kernel
theorem dX3_run_1 : decode cX3_run 1 = .ok (.iconst 1, 1) := by decide +kernel
theorem dX3_run_2 : decode cX3_run 2 = .ok (.if_icmp .lt 22, 3) := by decide +kernel
theorem dX3_run_5 : decode cX3_run 5 = .ok (.iload_n 1, 1) := by decide +kernel
theorem dX3_run_6 : decode cX3_run 6 = .ok (.sipush 500, 3) := by decide +kernel
theorem dX3_run_9 : decode cX3_run 9 = .ok (.if_icmp .gt 15, 3) := by decide +kernel
theorem dX3_run_12 : decode cX3_run 12 = .ok (.aload_n 0, 1) := by decide +kernel
theorem dX3_run_13 : decode cX3_run 13 = .ok (.getfield 22, 3) := by decide +kernel
theorem dX3_run_16 : decode cX3_run 16 = .ok (.iload_n 1, 1) := by decide +kernel
theorem dX3_run_17 : decode cX3_run 17 = .ok (.iadd, 1) := by decide +kernel
theorem dX3_run_18 : decode cX3_run 18 = .ok (.sipush 500, 3) := by decide +kernel
theorem dX3_run_21 : decode cX3_run 21 = .ok (.if_icmp .le 5, 3) := by decide +kernel
theorem dX3_run_24 : decode cX3_run 24 = .ok (.iconst (-1), 1) := by decide +kernel
theorem dX3_run_25 : decode cX3_run 25 = .ok (.ireturn, 1) := by decide +kernel
theorem dX3_run_26 : decode cX3_run 26 = .ok (.iconst 0, 1) := by decide +kernel
theorem dX3_run_27 : decode cX3_run 27 = .ok (.istore 5, 2) := by decide +kernel
theorem dX3_run_29 : decode cX3_run 29 = .ok (.iload 5, 2) := by decide +kernel
theorem dX3_run_31 : decode cX3_run 31 = .ok (.iload_n 1, 1) := by decide +kernel
theorem dX3_run_32 : decode cX3_run 32 = .ok (.if_icmp .ge 44, 3) := by decide +kernel
theorem dX3_run_35 : decode cX3_run 35 = .ok (.aload_n 0, 1) := by decide +kernel
theorem dX3_run_36 : decode cX3_run 36 = .ok (.getfield 7, 3) := by decide +kernel
theorem dX3_run_39 : decode cX3_run 39 = .ok (.aload_n 0, 1) := by decide +kernel
theorem dX3_run_40 : decode cX3_run 40 = .ok (.getfield 22, 3) := by decide +kernel
theorem dX3_run_43 : decode cX3_run 43 = .ok (.iload 5, 2) := by decide +kernel
theorem dX3_run_45 : decode cX3_run 45 = .ok (.iadd, 1) := by decide +kernel
theorem dX3_run_46 : decode cX3_run 46 = .ok (.iload_n 2, 1) := by decide +kernel
theorem dX3_run_47 : decode cX3_run 47 = .ok (.iload 5, 2) := by decide +kernel
theorem dX3_run_49 : decode cX3_run 49 = .ok (.iload_n 3, 1) := by decide +kernel
theorem dX3_run_50 : decode cX3_run 50 = .ok (.imul, 1) := by decide +kernel
theorem dX3_run_51 : decode cX3_run 51 = .ok (.iadd, 1) := by decide +kernel
theorem dX3_run_52 : decode cX3_run 52 = .ok (.iastore, 1) := by decide +kernel
theorem dX3_run_53 : decode cX3_run 53 = .ok (.aload_n 0, 1) := by decide +kernel
theorem dX3_run_54 : decode cX3_run 54 = .ok (.getfield 13, 3) := by decide +kernel
theorem dX3_run_57 : decode cX3_run 57 = .ok (.aload_n 0, 1) := by decide +kernel
theorem dX3_run_58 : decode cX3_run 58 = .ok (.getfield 22, 3) := by decide +kernel
theorem dX3_run_61 : decode cX3_run 61 = .ok (.iload 5, 2) := by decide +kernel
theorem dX3_run_63 : decode cX3_run 63 = .ok (.iadd, 1) := by decide +kernel
theorem dX3_run_64 : decode cX3_run 64 = .ok (.iload 4, 2) := by decide +kernel
theorem dX3_run_66 : decode cX3_run 66 = .ok (.iload 5, 2) := by decide +kernel
theorem dX3_run_68 : decode cX3_run 68 = .ok (.iadd, 1) := by decide +kernel
theorem dX3_run_69 : decode cX3_run 69 = .ok (.iastore, 1) := by decide +kernel
theorem dX3_run_70 : decode cX3_run 70 = .ok (.iinc 5 1, 3) := by decide +kernel
theorem dX3_run_73 : decode cX3_run 73 = .ok (.goto (-44), 3) := by decide +kernel
theorem dX3_run_76 : decode cX3_run 76 = .ok (.aload_n 0, 1) := by decide +kernel
theorem dX3_run_77 : decode cX3_run 77 = .ok (.aload_n 0, 1) := by decide +kernel
theorem dX3_run_78 : decode cX3_run 78 = .ok (.getfield 22, 3) := by decide +kernel
theorem dX3_run_81 : decode cX3_run 81 = .ok (.iload_n 1, 1) := by decide +kernel
theorem dX3_run_82 : decode cX3_run 82 = .ok (.iadd, 1) := by decide +kernel
theorem dX3_run_83 : decode cX3_run 83 = .ok (.putfield 22, 3) := by decide +kernel
theorem dX3_run_86 : decode cX3_run 86 = .ok (.aload_n 0, 1) := by decide +kernel
theorem dX3_run_87 : decode cX3_run 87 = .ok (.getfield 22, 3) := by decide +kernel
theorem dX3_run_90 : decode cX3_run 90 = .ok (.ireturn, 1) := by decide +kernel
theorem dX3_clear_0 : decode cX3_clear 0 = .ok (.aload_n 0, 1) := by decide +kernel
theorem dX3_clear_1 : decode cX3_clear 1 = .ok (.getfield 22, 3) := by decide +kernel
theorem dX3_clear_4 : decode cX3_clear 4 = .ok (.istore_n 1, 1) := by decide +kernel
theorem dX3_clear_5 : decode cX3_clear 5 = .ok (.aload_n 0, 1) := by decide +kernel
theorem dX3_clear_6 : decode cX3_clear 6 = .ok (.iconst 0, 1) := by decide +kernel
theorem dX3_clear_7 : decode cX3_clear 7 = .ok (.putfield 22, 3) := by decide +kernel
theorem dX3_clear_10 : decode cX3_clear 10 = .ok (.iload_n 1, 1) := by decide +kernel
theorem dX3_clear_11 : decode cX3_clear 11 = .ok (.ireturn, 1) := by decide +kernel
set_option maxRecDepth 20000 in
theorem ggX3_place_X3_isLess : GoodIn wsX3_place wsX3_isLess := goodIn_r _ [5, 6] (by decide +kernel) (by decide +kernel)
set_option maxRecDepth 20000 in
theorem gX3_place_X3_isLess : GoodIn wsX3_place (va_wsS RX3 28 yX3_isLess wsX3_isLess) := goodIn_app (goodIn_of _ (by decide +kernel)) ggX3_place_X3_isLess
theorem dX3_place_0 : decode cX3_place 0 = .ok (.iload_n 2, 1) := by decide +kernel
theorem dX3_place_1 : decode cX3_place 1 = .ok (.istore 5, 2) := by decide +kernel
theorem dX3_place_3 : decode cX3_place 3 = .ok (.iload_n 2, 1) := by decide +kernel
theorem dX3_place_4 : decode cX3_place 4 = .ok (.istore 6, 2) := by decide +kernel
theorem dX3_place_6 : decode cX3_place 6 = .ok (.iload 6, 2) := by decide +kernel
theorem dX3_place_8 : decode cX3_place 8 = .ok (.iload_n 3, 1) := by decide +kernel
theorem dX3_place_9 : decode cX3_place 9 = .ok (.if_icmp .ge 80, 3) := by decide +kernel
theorem dX3_place_12 : decode cX3_place 12 = .ok (.aload_n 0, 1) := by decide +kernel
theorem dX3_place_13 : decode cX3_place 13 = .ok (.getfield 7, 3) := by decide +kernel
theorem dX3_place_16 : decode cX3_place 16 = .ok (.iload 6, 2) := by decide +kernel
theorem dX3_place_18 : decode cX3_place 18 = .ok (.iaload, 1) := by decide +kernel
theorem dX3_place_19 : decode cX3_place 19 = .ok (.aload_n 0, 1) := by decide +kernel
theorem dX3_place_20 : decode cX3_place 20 = .ok (.getfield 7, 3) := by decide +kernel
theorem dX3_place_23 : decode cX3_place 23 = .ok (.iload_n 1, 1) := by decide +kernel
theorem dX3_place_24 : decode cX3_place 24 = .ok (.iaload, 1) := by decide +kernel
theorem dX3_place_25 : decode cX3_place 25 = .ok (.iload 4, 2) := by decide +kernel
theorem dX3_place_27 : decode cX3_place 27 = .ok (.invokestatic 28, 3) := by decide +kernel
theorem dX3_place_30 : decode cX3_place 30 = .ok (.ifCond .ne 30, 3) := by decide +kernel
theorem dX3_place_33 : decode cX3_place 33 = .ok (.iload 6, 2) := by decide +kernel
theorem dX3_place_35 : decode cX3_place 35 = .ok (.iload_n 1, 1) := by decide +kernel
theorem dX3_place_36 : decode cX3_place 36 = .ok (.if_icmp .ge 28, 3) := by decide +kernel
theorem dX3_place_39 : decode cX3_place 39 = .ok (.aload_n 0, 1) := by decide +kernel
theorem dX3_place_40 : decode cX3_place 40 = .ok (.getfield 7, 3) := by decide +kernel
theorem dX3_place_43 : decode cX3_place 43 = .ok (.iload_n 1, 1) := by decide +kernel
theorem dX3_place_44 : decode cX3_place 44 = .ok (.iaload, 1) := by decide +kernel
theorem dX3_place_45 : decode cX3_place 45 = .ok (.aload_n 0, 1) := by decide +kernel
theorem dX3_place_46 : decode cX3_place 46 = .ok (.getfield 7, 3) := by decide +kernel
theorem dX3_place_49 : decode cX3_place 49 = .ok (.iload 6, 2) := by decide +kernel
theorem dX3_place_51 : decode cX3_place 51 = .ok (.iaload, 1) := by decide +kernel
theorem dX3_place_52 : decode cX3_place 52 = .ok (.iload 4, 2) := by decide +kernel
theorem dX3_place_54 : decode cX3_place 54 = .ok (.invokestatic 28, 3) := by decide +kernel
theorem dX3_place_57 : decode cX3_place 57 = .ok (.ifCond .ne 7, 3) := by decide +kernel
theorem dX3_place_60 : decode cX3_place 60 = .ok (.iconst 1, 1) := by decide +kernel
theorem dX3_place_61 : decode cX3_place 61 = .ok (.goto 4, 3) := by decide +kernel
theorem dX3_place_64 : decode cX3_place 64 = .ok (.iconst 0, 1) := by decide +kernel
theorem dX3_place_65 : decode cX3_place 65 = .ok (.istore 7, 2) := by decide +kernel
theorem dX3_place_67 : decode cX3_place 67 = .ok (.iload 7, 2) := by decide +kernel
theorem dX3_place_69 : decode cX3_place 69 = .ok (.ifCond .eq 10, 3) := by decide +kernel
theorem dX3_place_72 : decode cX3_place 72 = .ok (.iload 5, 2) := by decide +kernel
theorem dX3_place_74 : decode cX3_place 74 = .ok (.iconst 1, 1) := by decide +kernel
theorem dX3_place_75 : decode cX3_place 75 = .ok (.iadd, 1) := by decide +kernel
theorem dX3_place_76 : decode cX3_place 76 = .ok (.goto 5, 3) := by decide +kernel
theorem dX3_place_79 : decode cX3_place 79 = .ok (.iload 5, 2) := by decide +kernel
theorem dX3_place_81 : decode cX3_place 81 = .ok (.istore 5, 2) := by decide +kernel
theorem dX3_place_83 : decode cX3_place 83 = .ok (.iinc 6 1, 3) := by decide +kernel
theorem dX3_place_86 : decode cX3_place 86 = .ok (.goto (-80), 3) := by decide +kernel
theorem dX3_place_89 : decode cX3_place 89 = .ok (.iload 5, 2) := by decide +kernel
theorem dX3_place_91 : decode cX3_place 91 = .ok (.ireturn, 1) := by decide +kernel
theorem dX3_move_0 : decode cX3_move 0 = .ok (.aload_n 0, 1) := by decide +kernel
theorem dX3_move_1 : decode cX3_move 1 = .ok (.getfield 16, 3) := by decide +kernel
theorem dX3_move_4 : decode cX3_move 4 = .ok (.iload_n 2, 1) := by decide +kernel
theorem dX3_move_5 : decode cX3_move 5 = .ok (.aload_n 0, 1) := by decide +kernel
theorem dX3_move_6 : decode cX3_move 6 = .ok (.getfield 7, 3) := by decide +kernel
theorem dX3_move_9 : decode cX3_move 9 = .ok (.iload_n 1, 1) := by decide +kernel
theorem dX3_move_10 : decode cX3_move 10 = .ok (.iaload, 1) := by decide +kernel
theorem dX3_move_11 : decode cX3_move 11 = .ok (.iastore, 1) := by decide +kernel
theorem dX3_move_12 : decode cX3_move 12 = .ok (.aload_n 0, 1) := by decide +kernel
theorem dX3_move_13 : decode cX3_move 13 = .ok (.getfield 19, 3) := by decide +kernel
theorem dX3_move_16 : decode cX3_move 16 = .ok (.iload_n 2, 1) := by decide +kernel
theorem dX3_move_17 : decode cX3_move 17 = .ok (.aload_n 0, 1) := by decide +kernel
theorem dX3_move_18 : decode cX3_move 18 = .ok (.getfield 13, 3) := by decide +kernel
theorem dX3_move_21 : decode cX3_move 21 = .ok (.iload_n 1, 1) := by decide +kernel
theorem dX3_move_22 : decode cX3_move 22 = .ok (.iaload, 1) := by decide +kernel
theorem dX3_move_23 : decode cX3_move 23 = .ok (.iastore, 1) := by decide +kernel
theorem dX3_move_24 : decode cX3_move 24 = .ok (.return_, 1) := by decide +kernel
theorem dX3_take_0 : decode cX3_take 0 = .ok (.iload_n 1, 1) := by decide +kernel
theorem dX3_take_1 : decode cX3_take 1 = .ok (.istore_n 3, 1) := by decide +kernel
theorem dX3_take_2 : decode cX3_take 2 = .ok (.iload_n 3, 1) := by decide +kernel
theorem dX3_take_3 : decode cX3_take 3 = .ok (.iload_n 2, 1) := by decide +kernel
theorem dX3_take_4 : decode cX3_take 4 = .ok (.if_icmp .ge 33, 3) := by decide +kernel
theorem dX3_take_7 : decode cX3_take 7 = .ok (.aload_n 0, 1) := by decide +kernel
theorem dX3_take_8 : decode cX3_take 8 = .ok (.getfield 7, 3) := by decide +kernel
theorem dX3_take_11 : decode cX3_take 11 = .ok (.iload_n 3, 1) := by decide +kernel
theorem dX3_take_12 : decode cX3_take 12 = .ok (.aload_n 0, 1) := by decide +kernel
theorem dX3_take_13 : decode cX3_take 13 = .ok (.getfield 16, 3) := by decide +kernel
theorem dX3_take_16 : decode cX3_take 16 = .ok (.iload_n 3, 1) := by decide +kernel
theorem dX3_take_17 : decode cX3_take 17 = .ok (.iaload, 1) := by decide +kernel
theorem dX3_take_18 : decode cX3_take 18 = .ok (.iastore, 1) := by decide +kernel
theorem dX3_take_19 : decode cX3_take 19 = .ok (.aload_n 0, 1) := by decide +kernel
theorem dX3_take_20 : decode cX3_take 20 = .ok (.getfield 13, 3) := by decide +kernel
theorem dX3_take_23 : decode cX3_take 23 = .ok (.iload_n 3, 1) := by decide +kernel
theorem dX3_take_24 : decode cX3_take 24 = .ok (.aload_n 0, 1) := by decide +kernel
theorem dX3_take_25 : decode cX3_take 25 = .ok (.getfield 19, 3) := by decide +kernel
theorem dX3_take_28 : decode cX3_take 28 = .ok (.iload_n 3, 1) := by decide +kernel
theorem dX3_take_29 : decode cX3_take 29 = .ok (.iaload, 1) := by decide +kernel
theorem dX3_take_30 : decode cX3_take 30 = .ok (.iastore, 1) := by decide +kernel
theorem dX3_take_31 : decode cX3_take 31 = .ok (.iinc 3 1, 3) := by decide +kernel
theorem dX3_take_34 : decode cX3_take 34 = .ok (.goto (-32), 3) := by decide +kernel
theorem dX3_take_37 : decode cX3_take 37 = .ok (.return_, 1) := by decide +kernel
set_option maxRecDepth 20000 in
theorem ggX3_arrange_X3_place : GoodIn wsX3_arrange wsX3_place := goodIn_r _ [5, 6, 7, 8, 4, 9, 10, 22, 23, 24, 25, 26] (by decide +kernel) (by decide +kernel)
set_option maxRecDepth 20000 in
theorem gX3_arrange_X3_place : GoodIn wsX3_arrange (wsV RX3 32 RX3 yX3_place wsX3_place) := goodIn_app (goodIn_of _ (by decide +kernel)) ggX3_arrange_X3_place
set_option maxRecDepth 20000 in
theorem ggX3_arrange_X3_move : GoodIn wsX3_arrange wsX3_move := goodIn_r _ [14, 15, 6, 16, 17, 22, 23, 24, 25, 26] (by decide +kernel) (by decide +kernel)
set_option maxRecDepth 20000 in
theorem gX3_arrange_X3_move : GoodIn wsX3_arrange (wsV RX3 36 RX3 yX3_move wsX3_move) := goodIn_app (goodIn_of _ (by decide +kernel)) ggX3_arrange_X3_move
set_option maxRecDepth 20000 in
theorem ggX3_arrange_X3_take : GoodIn wsX3_arrange wsX3_take := goodIn_r _ [21, 6, 15, 17, 16, 22, 23, 24, 25, 26] (by decide +kernel) (by decide +kernel)
set_option maxRecDepth 20000 in
theorem gX3_arrange_X3_take : GoodIn wsX3_arrange (wsV RX3 40 RX3 yX3_take wsX3_take) := goodIn_app (goodIn_of _ (by decide +kernel)) ggX3_arrange_X3_take
theorem dX3_arrange_0 : decode cX3_arrange 0 = .ok (.iload_n 1, 1) := by decide +kernel
theorem dX3_arrange_1 : decode cX3_arrange 1 = .ok (.istore 4, 2) := by decide +kernel
theorem dX3_arrange_3 : decode cX3_arrange 3 = .ok (.iload 4, 2) := by decide +kernel
theorem dX3_arrange_5 : decode cX3_arrange 5 = .ok (.iload_n 2, 1) := by decide +kernel
theorem dX3_arrange_6 : decode cX3_arrange 6 = .ok (.if_icmp .ge 24, 3) := by decide +kernel
theorem dX3_arrange_9 : decode cX3_arrange 9 = .ok (.aload_n 0, 1) := by decide +kernel
theorem dX3_arrange_10 : decode cX3_arrange 10 = .ok (.iload 4, 2) := by decide +kernel
theorem dX3_arrange_12 : decode cX3_arrange 12 = .ok (.aload_n 0, 1) := by decide +kernel
theorem dX3_arrange_13 : decode cX3_arrange 13 = .ok (.iload 4, 2) := by decide +kernel
theorem dX3_arrange_15 : decode cX3_arrange 15 = .ok (.iload_n 1, 1) := by decide +kernel
theorem dX3_arrange_16 : decode cX3_arrange 16 = .ok (.iload_n 2, 1) := by decide +kernel
theorem dX3_arrange_17 : decode cX3_arrange 17 = .ok (.iload_n 3, 1) := by decide +kernel
theorem dX3_arrange_18 : decode cX3_arrange 18 = .ok (.invokevirtual 32, 3) := by decide +kernel
theorem dX3_arrange_21 : decode cX3_arrange 21 = .ok (.invokevirtual 36, 3) := by decide +kernel
theorem dX3_arrange_24 : decode cX3_arrange 24 = .ok (.iinc 4 1, 3) := by decide +kernel
theorem dX3_arrange_27 : decode cX3_arrange 27 = .ok (.goto (-24), 3) := by decide +kernel
theorem dX3_arrange_30 : decode cX3_arrange 30 = .ok (.aload_n 0, 1) := by decide +kernel
theorem dX3_arrange_31 : decode cX3_arrange 31 = .ok (.iload_n 1, 1) := by decide +kernel
theorem dX3_arrange_32 : decode cX3_arrange 32 = .ok (.iload_n 2, 1) := by decide +kernel
theorem dX3_arrange_33 : decode cX3_arrange 33 = .ok (.invokevirtual 40, 3) := by decide +kernel
theorem dX3_arrange_36 : decode cX3_arrange 36 = .ok (.return_, 1) := by decide +kernel
set_option maxRecDepth 20000 in
theorem ggX3_sort_X3_isOrder : GoodIn wsX3_sort wsX3_isOrder := goodIn_r _ [5] (by decide +kernel) (by decide +kernel)
set_option maxRecDepth 20000 in
theorem gX3_sort_X3_isOrder : GoodIn wsX3_sort (va_wsS RX3 43 yX3_isOrder wsX3_isOrder) := goodIn_app (goodIn_of _ (by decide +kernel)) ggX3_sort_X3_isOrder
set_option maxRecDepth 20000 in
theorem ggX3_sort_X3_arrange : GoodIn wsX3_sort wsX3_arrange := goodIn_r _ [9, 10, 11, 12, 4, 13, 14, 15, 16, 17, 18, 19, 20, 21, 22, 23, 24, 25, 26, 27, 28, 29, 30, 31, 32, 33, 34] (by decide +kernel) (by decide +kernel)
set_option maxRecDepth 20000 in
theorem gX3_sort_X3_arrange : GoodIn wsX3_sort (wsV RX3 47 RX3 yX3_arrange wsX3_arrange) := goodIn_app (goodIn_of _ (by decide +kernel)) ggX3_sort_X3_arrange
theorem dX3_sort_0 : decode cX3_sort 0 = .ok (.iload_n 1, 1) := by decide +kernel
theorem dX3_sort_1 : decode cX3_sort 1 = .ok (.invokestatic 43, 3) := by decide +kernel
theorem dX3_sort_4 : decode cX3_sort 4 = .ok (.ifCond .ne 5, 3) := by decide +kernel
theorem dX3_sort_7 : decode cX3_sort 7 = .ok (.iconst 0, 1) := by decide +kernel
theorem dX3_sort_8 : decode cX3_sort 8 = .ok (.ireturn, 1) := by decide +kernel
theorem dX3_sort_9 : decode cX3_sort 9 = .ok (.aload_n 0, 1) := by decide +kernel
theorem dX3_sort_10 : decode cX3_sort 10 = .ok (.iconst 0, 1) := by decide +kernel
theorem dX3_sort_11 : decode cX3_sort 11 = .ok (.aload_n 0, 1) := by decide +kernel
theorem dX3_sort_12 : decode cX3_sort 12 = .ok (.getfield 22, 3) := by decide +kernel
theorem dX3_sort_15 : decode cX3_sort 15 = .ok (.iload_n 1, 1) := by decide +kernel
theorem dX3_sort_16 : decode cX3_sort 16 = .ok (.invokevirtual 47, 3) := by decide +kernel
theorem dX3_sort_19 : decode cX3_sort 19 = .ok (.iconst 1, 1) := by decide +kernel
theorem dX3_sort_20 : decode cX3_sort 20 = .ok (.ireturn, 1) := by decide +kernel
set_option maxRecDepth 20000 in
theorem ggX3_sortPart_X3_isStretch : GoodIn wsX3_sortPart wsX3_isStretch := goodIn_r _ [5, 6, 34, 35, 36, 37, 38] (by decide +kernel) (by decide +kernel)
set_option maxRecDepth 20000 in
theorem gX3_sortPart_X3_isStretch : GoodIn wsX3_sortPart (wsV RX3 51 RX3 yX3_isStretch wsX3_isStretch) := goodIn_app (goodIn_of _ (by decide +kernel)) ggX3_sortPart_X3_isStretch
set_option maxRecDepth 20000 in
theorem ggX3_sortPart_X3_isOrder : GoodIn wsX3_sortPart wsX3_isOrder := goodIn_r _ [9] (by decide +kernel) (by decide +kernel)
set_option maxRecDepth 20000 in
theorem gX3_sortPart_X3_isOrder : GoodIn wsX3_sortPart (va_wsS RX3 43 yX3_isOrder wsX3_isOrder) := goodIn_app (goodIn_of _ (by decide +kernel)) ggX3_sortPart_X3_isOrder
set_option maxRecDepth 20000 in
theorem ggX3_sortPart_X3_arrange : GoodIn wsX3_sortPart wsX3_arrange := goodIn_r _ [13, 14, 15, 16, 4, 17, 18, 19, 20, 21, 22, 23, 24, 25, 26, 27, 28, 29, 30, 31, 32, 33, 34, 35, 36, 37, 38] (by decide +kernel) (by decide +kernel)
set_option maxRecDepth 20000 in
theorem gX3_sortPart_X3_arrange : GoodIn wsX3_sortPart (wsV RX3 47 RX3 yX3_arrange wsX3_arrange) := goodIn_app (goodIn_of _ (by decide +kernel)) ggX3_sortPart_X3_arrange
theorem dX3_sortPart_0 : decode cX3_sortPart 0 = .ok (.aload_n 0, 1) := by decide +kernel
theorem dX3_sortPart_1 : decode cX3_sortPart 1 = .ok (.iload_n 1, 1) := by decide +kernel
theorem dX3_sortPart_2 : decode cX3_sortPart 2 = .ok (.iload_n 2, 1) := by decide +kernel
theorem dX3_sortPart_3 : decode cX3_sortPart 3 = .ok (.invokevirtual 51, 3) := by decide +kernel
theorem dX3_sortPart_6 : decode cX3_sortPart 6 = .ok (.ifCond .eq 10, 3) := by decide +kernel
theorem dX3_sortPart_9 : decode cX3_sortPart 9 = .ok (.iload_n 3, 1) := by decide +kernel
theorem dX3_sortPart_10 : decode cX3_sortPart 10 = .ok (.invokestatic 43, 3) := by decide +kernel
theorem dX3_sortPart_13 : decode cX3_sortPart 13 = .ok (.ifCond .ne 5, 3) := by decide +kernel
theorem dX3_sortPart_16 : decode cX3_sortPart 16 = .ok (.iconst 0, 1) := by decide +kernel
theorem dX3_sortPart_17 : decode cX3_sortPart 17 = .ok (.ireturn, 1) := by decide +kernel
theorem dX3_sortPart_18 : decode cX3_sortPart 18 = .ok (.aload_n 0, 1) := by decide +kernel
theorem dX3_sortPart_19 : decode cX3_sortPart 19 = .ok (.iload_n 1, 1) := by decide +kernel
theorem dX3_sortPart_20 : decode cX3_sortPart 20 = .ok (.iload_n 2, 1) := by decide +kernel
theorem dX3_sortPart_21 : decode cX3_sortPart 21 = .ok (.iload_n 3, 1) := by decide +kernel
theorem dX3_sortPart_22 : decode cX3_sortPart 22 = .ok (.invokevirtual 47, 3) := by decide +kernel
theorem dX3_sortPart_25 : decode cX3_sortPart 25 = .ok (.iconst 1, 1) := by decide +kernel
theorem dX3_sortPart_26 : decode cX3_sortPart 26 = .ok (.ireturn, 1) := by decide +kernel
set_option maxRecDepth 20000 in
theorem ggX3_merge_X3_isStretch : GoodIn wsX3_merge wsX3_isStretch := goodIn_r _ [5, 6, 38, 39, 40, 41, 42] (by decide +kernel) (by decide +kernel)
set_option maxRecDepth 20000 in
theorem gX3_merge_X3_isStretch : GoodIn wsX3_merge (wsV RX3 51 RX3 yX3_isStretch wsX3_isStretch) := goodIn_app (goodIn_of _ (by decide +kernel)) ggX3_merge_X3_isStretch
set_option maxRecDepth 20000 in
theorem ggX3_merge_X3_isOrder : GoodIn wsX3_merge wsX3_isOrder := goodIn_r _ [9] (by decide +kernel) (by decide +kernel)
set_option maxRecDepth 20000 in
theorem gX3_merge_X3_isOrder : GoodIn wsX3_merge (va_wsS RX3 43 yX3_isOrder wsX3_isOrder) := goodIn_app (goodIn_of _ (by decide +kernel)) ggX3_merge_X3_isOrder
set_option maxRecDepth 20000 in
theorem ggX3_merge_X3_isSorted : GoodIn wsX3_merge wsX3_isSorted := goodIn_r _ [13, 14, 15, 16, 4, 17, 18, 38, 39, 40, 41, 42] (by decide +kernel) (by decide +kernel)
set_option maxRecDepth 20000 in
theorem gX3_merge_X3_isSorted : GoodIn wsX3_merge (wsV RX3 55 RX3 yX3_isSorted wsX3_isSorted) := goodIn_app (goodIn_of _ (by decide +kernel)) ggX3_merge_X3_isSorted
set_option maxRecDepth 20000 in
theorem ggX3_merge_X3_arrange : GoodIn wsX3_merge wsX3_arrange := goodIn_r _ [22, 23, 24, 25, 4, 26, 14, 15, 16, 17, 18, 27, 28, 29, 30, 31, 32, 33, 34, 35, 36, 37, 38, 39, 40, 41, 42] (by decide +kernel) (by decide +kernel)
set_option maxRecDepth 20000 in
theorem gX3_merge_X3_arrange : GoodIn wsX3_merge (wsV RX3 47 RX3 yX3_arrange wsX3_arrange) := goodIn_app (goodIn_of _ (by decide +kernel)) ggX3_merge_X3_arrange
theorem dX3_merge_0 : decode cX3_merge 0 = .ok (.aload_n 0, 1) := by decide +kernel
theorem dX3_merge_1 : decode cX3_merge 1 = .ok (.iload_n 1, 1) := by decide +kernel
theorem dX3_merge_2 : decode cX3_merge 2 = .ok (.iload_n 2, 1) := by decide +kernel
theorem dX3_merge_3 : decode cX3_merge 3 = .ok (.invokevirtual 51, 3) := by decide +kernel
theorem dX3_merge_6 : decode cX3_merge 6 = .ok (.ifCond .eq 24, 3) := by decide +kernel
theorem dX3_merge_9 : decode cX3_merge 9 = .ok (.aload_n 0, 1) := by decide +kernel
theorem dX3_merge_10 : decode cX3_merge 10 = .ok (.iload_n 2, 1) := by decide +kernel
theorem dX3_merge_11 : decode cX3_merge 11 = .ok (.iload_n 3, 1) := by decide +kernel
theorem dX3_merge_12 : decode cX3_merge 12 = .ok (.invokevirtual 51, 3) := by decide +kernel
theorem dX3_merge_15 : decode cX3_merge 15 = .ok (.ifCond .eq 15, 3) := by decide +kernel
theorem dX3_merge_18 : decode cX3_merge 18 = .ok (.iload 4, 2) := by decide +kernel
theorem dX3_merge_20 : decode cX3_merge 20 = .ok (.invokestatic 43, 3) := by decide +kernel
theorem dX3_merge_23 : decode cX3_merge 23 = .ok (.ifCond .eq 7, 3) := by decide +kernel
theorem dX3_merge_26 : decode cX3_merge 26 = .ok (.iconst 1, 1) := by decide +kernel
theorem dX3_merge_27 : decode cX3_merge 27 = .ok (.goto 4, 3) := by decide +kernel
theorem dX3_merge_30 : decode cX3_merge 30 = .ok (.iconst 0, 1) := by decide +kernel
theorem dX3_merge_31 : decode cX3_merge 31 = .ok (.istore 5, 2) := by decide +kernel
theorem dX3_merge_33 : decode cX3_merge 33 = .ok (.iload 5, 2) := by decide +kernel
theorem dX3_merge_35 : decode cX3_merge 35 = .ok (.ifCond .eq 25, 3) := by decide +kernel
theorem dX3_merge_38 : decode cX3_merge 38 = .ok (.aload_n 0, 1) := by decide +kernel
theorem dX3_merge_39 : decode cX3_merge 39 = .ok (.iload_n 1, 1) := by decide +kernel
theorem dX3_merge_40 : decode cX3_merge 40 = .ok (.iload_n 2, 1) := by decide +kernel
theorem dX3_merge_41 : decode cX3_merge 41 = .ok (.iload 4, 2) := by decide +kernel
theorem dX3_merge_43 : decode cX3_merge 43 = .ok (.invokevirtual 55, 3) := by decide +kernel
theorem dX3_merge_46 : decode cX3_merge 46 = .ok (.ifCond .eq 14, 3) := by decide +kernel
theorem dX3_merge_49 : decode cX3_merge 49 = .ok (.aload_n 0, 1) := by decide +kernel
theorem dX3_merge_50 : decode cX3_merge 50 = .ok (.iload_n 2, 1) := by decide +kernel
theorem dX3_merge_51 : decode cX3_merge 51 = .ok (.iload_n 3, 1) := by decide +kernel
theorem dX3_merge_52 : decode cX3_merge 52 = .ok (.iload 4, 2) := by decide +kernel
theorem dX3_merge_54 : decode cX3_merge 54 = .ok (.invokevirtual 55, 3) := by decide +kernel
theorem dX3_merge_57 : decode cX3_merge 57 = .ok (.ifCond .ne 5, 3) := by decide +kernel
theorem dX3_merge_60 : decode cX3_merge 60 = .ok (.iconst 0, 1) := by decide +kernel
theorem dX3_merge_61 : decode cX3_merge 61 = .ok (.ireturn, 1) := by decide +kernel
theorem dX3_merge_62 : decode cX3_merge 62 = .ok (.aload_n 0, 1) := by decide +kernel
theorem dX3_merge_63 : decode cX3_merge 63 = .ok (.iload_n 1, 1) := by decide +kernel
theorem dX3_merge_64 : decode cX3_merge 64 = .ok (.iload_n 3, 1) := by decide +kernel
theorem dX3_merge_65 : decode cX3_merge 65 = .ok (.iload 4, 2) := by decide +kernel
theorem dX3_merge_67 : decode cX3_merge 67 = .ok (.invokevirtual 47, 3) := by decide +kernel
theorem dX3_merge_70 : decode cX3_merge 70 = .ok (.iconst 1, 1) := by decide +kernel
theorem dX3_merge_71 : decode cX3_merge 71 = .ok (.ireturn, 1) := by decide +kernel
set_option maxRecDepth 20000 in
theorem ggX3_rotate_X3_isStretch : GoodIn wsX3_rotate wsX3_isStretch := goodIn_r _ [5, 6, 19, 20, 21, 22, 23] (by decide +kernel) (by decide +kernel)
set_option maxRecDepth 20000 in
theorem gX3_rotate_X3_isStretch : GoodIn wsX3_rotate (wsV RX3 51 RX3 yX3_isStretch wsX3_isStretch) := goodIn_app (goodIn_of _ (by decide +kernel)) ggX3_rotate_X3_isStretch
set_option maxRecDepth 20000 in
theorem ggX3_rotate_X3_move : GoodIn wsX3_rotate wsX3_move := goodIn_r _ [10, 11, 12, 13, 14, 19, 20, 21, 22, 23] (by decide +kernel) (by decide +kernel)
set_option maxRecDepth 20000 in
theorem gX3_rotate_X3_move : GoodIn wsX3_rotate (wsV RX3 36 RX3 yX3_move wsX3_move) := goodIn_app (goodIn_of _ (by decide +kernel)) ggX3_rotate_X3_move
set_option maxRecDepth 20000 in
theorem ggX3_rotate_X3_take : GoodIn wsX3_rotate wsX3_take := goodIn_r _ [18, 12, 11, 14, 13, 19, 20, 21, 22, 23] (by decide +kernel) (by decide +kernel)
set_option maxRecDepth 20000 in
theorem gX3_rotate_X3_take : GoodIn wsX3_rotate (wsV RX3 40 RX3 yX3_take wsX3_take) := goodIn_app (goodIn_of _ (by decide +kernel)) ggX3_rotate_X3_take
theorem dX3_rotate_0 : decode cX3_rotate 0 = .ok (.aload_n 0, 1) := by decide +kernel
theorem dX3_rotate_1 : decode cX3_rotate 1 = .ok (.iload_n 1, 1) := by decide +kernel
theorem dX3_rotate_2 : decode cX3_rotate 2 = .ok (.iload_n 2, 1) := by decide +kernel
theorem dX3_rotate_3 : decode cX3_rotate 3 = .ok (.invokevirtual 51, 3) := by decide +kernel
theorem dX3_rotate_6 : decode cX3_rotate 6 = .ok (.ifCond .eq 12, 3) := by decide +kernel
theorem dX3_rotate_9 : decode cX3_rotate 9 = .ok (.aload_n 0, 1) := by decide +kernel
theorem dX3_rotate_10 : decode cX3_rotate 10 = .ok (.iload_n 2, 1) := by decide +kernel
theorem dX3_rotate_11 : decode cX3_rotate 11 = .ok (.iload_n 3, 1) := by decide +kernel
theorem dX3_rotate_12 : decode cX3_rotate 12 = .ok (.invokevirtual 51, 3) := by decide +kernel
theorem dX3_rotate_15 : decode cX3_rotate 15 = .ok (.ifCond .ne 5, 3) := by decide +kernel
theorem dX3_rotate_18 : decode cX3_rotate 18 = .ok (.iconst 0, 1) := by decide +kernel
theorem dX3_rotate_19 : decode cX3_rotate 19 = .ok (.ireturn, 1) := by decide +kernel
theorem dX3_rotate_20 : decode cX3_rotate 20 = .ok (.iload_n 1, 1) := by decide +kernel
theorem dX3_rotate_21 : decode cX3_rotate 21 = .ok (.istore 4, 2) := by decide +kernel
theorem dX3_rotate_23 : decode cX3_rotate 23 = .ok (.iload 4, 2) := by decide +kernel
theorem dX3_rotate_25 : decode cX3_rotate 25 = .ok (.iload_n 2, 1) := by decide +kernel
theorem dX3_rotate_26 : decode cX3_rotate 26 = .ok (.if_icmp .ge 21, 3) := by decide +kernel
theorem dX3_rotate_29 : decode cX3_rotate 29 = .ok (.aload_n 0, 1) := by decide +kernel
theorem dX3_rotate_30 : decode cX3_rotate 30 = .ok (.iload 4, 2) := by decide +kernel
theorem dX3_rotate_32 : decode cX3_rotate 32 = .ok (.iload 4, 2) := by decide +kernel
theorem dX3_rotate_34 : decode cX3_rotate 34 = .ok (.iload_n 3, 1) := by decide +kernel
theorem dX3_rotate_35 : decode cX3_rotate 35 = .ok (.iadd, 1) := by decide +kernel
theorem dX3_rotate_36 : decode cX3_rotate 36 = .ok (.iload_n 2, 1) := by decide +kernel
theorem dX3_rotate_37 : decode cX3_rotate 37 = .ok (.isub, 1) := by decide +kernel
theorem dX3_rotate_38 : decode cX3_rotate 38 = .ok (.invokevirtual 36, 3) := by decide +kernel
theorem dX3_rotate_41 : decode cX3_rotate 41 = .ok (.iinc 4 1, 3) := by decide +kernel
theorem dX3_rotate_44 : decode cX3_rotate 44 = .ok (.goto (-21), 3) := by decide +kernel
theorem dX3_rotate_47 : decode cX3_rotate 47 = .ok (.iload_n 2, 1) := by decide +kernel
theorem dX3_rotate_48 : decode cX3_rotate 48 = .ok (.istore 4, 2) := by decide +kernel
theorem dX3_rotate_50 : decode cX3_rotate 50 = .ok (.iload 4, 2) := by decide +kernel
theorem dX3_rotate_52 : decode cX3_rotate 52 = .ok (.iload_n 3, 1) := by decide +kernel
theorem dX3_rotate_53 : decode cX3_rotate 53 = .ok (.if_icmp .ge 21, 3) := by decide +kernel
theorem dX3_rotate_56 : decode cX3_rotate 56 = .ok (.aload_n 0, 1) := by decide +kernel
theorem dX3_rotate_57 : decode cX3_rotate 57 = .ok (.iload 4, 2) := by decide +kernel
theorem dX3_rotate_59 : decode cX3_rotate 59 = .ok (.iload 4, 2) := by decide +kernel
theorem dX3_rotate_61 : decode cX3_rotate 61 = .ok (.iload_n 2, 1) := by decide +kernel
theorem dX3_rotate_62 : decode cX3_rotate 62 = .ok (.isub, 1) := by decide +kernel
theorem dX3_rotate_63 : decode cX3_rotate 63 = .ok (.iload_n 1, 1) := by decide +kernel
theorem dX3_rotate_64 : decode cX3_rotate 64 = .ok (.iadd, 1) := by decide +kernel
theorem dX3_rotate_65 : decode cX3_rotate 65 = .ok (.invokevirtual 36, 3) := by decide +kernel
theorem dX3_rotate_68 : decode cX3_rotate 68 = .ok (.iinc 4 1, 3) := by decide +kernel
theorem dX3_rotate_71 : decode cX3_rotate 71 = .ok (.goto (-21), 3) := by decide +kernel
theorem dX3_rotate_74 : decode cX3_rotate 74 = .ok (.aload_n 0, 1) := by decide +kernel
theorem dX3_rotate_75 : decode cX3_rotate 75 = .ok (.iload_n 1, 1) := by decide +kernel
theorem dX3_rotate_76 : decode cX3_rotate 76 = .ok (.iload_n 3, 1) := by decide +kernel
theorem dX3_rotate_77 : decode cX3_rotate 77 = .ok (.invokevirtual 40, 3) := by decide +kernel
theorem dX3_rotate_80 : decode cX3_rotate 80 = .ok (.iconst 1, 1) := by decide +kernel
theorem dX3_rotate_81 : decode cX3_rotate 81 = .ok (.ireturn, 1) := by decide +kernel
set_option maxRecDepth 20000 in
theorem ggX3_turn_X3_isStretch : GoodIn wsX3_turn wsX3_isStretch := goodIn_r _ [5, 6, 19, 20, 21, 22, 23] (by decide +kernel) (by decide +kernel)
set_option maxRecDepth 20000 in
theorem gX3_turn_X3_isStretch : GoodIn wsX3_turn (wsV RX3 51 RX3 yX3_isStretch wsX3_isStretch) := goodIn_app (goodIn_of _ (by decide +kernel)) ggX3_turn_X3_isStretch
set_option maxRecDepth 20000 in
theorem ggX3_turn_X3_move : GoodIn wsX3_turn wsX3_move := goodIn_r _ [10, 11, 12, 13, 14, 19, 20, 21, 22, 23] (by decide +kernel) (by decide +kernel)
set_option maxRecDepth 20000 in
theorem gX3_turn_X3_move : GoodIn wsX3_turn (wsV RX3 36 RX3 yX3_move wsX3_move) := goodIn_app (goodIn_of _ (by decide +kernel)) ggX3_turn_X3_move
set_option maxRecDepth 20000 in
theorem ggX3_turn_X3_take : GoodIn wsX3_turn wsX3_take := goodIn_r _ [18, 12, 11, 14, 13, 19, 20, 21, 22, 23] (by decide +kernel) (by decide +kernel)
set_option maxRecDepth 20000 in
theorem gX3_turn_X3_take : GoodIn wsX3_turn (wsV RX3 40 RX3 yX3_take wsX3_take) := goodIn_app (goodIn_of _ (by decide +kernel)) ggX3_turn_X3_take
theorem dX3_turn_0 : decode cX3_turn 0 = .ok (.aload_n 0, 1) := by decide +kernel
theorem dX3_turn_1 : decode cX3_turn 1 = .ok (.iload_n 1, 1) := by decide +kernel
theorem dX3_turn_2 : decode cX3_turn 2 = .ok (.iload_n 2, 1) := by decide +kernel
theorem dX3_turn_3 : decode cX3_turn 3 = .ok (.invokevirtual 51, 3) := by decide +kernel
theorem dX3_turn_6 : decode cX3_turn 6 = .ok (.ifCond .ne 5, 3) := by decide +kernel
theorem dX3_turn_9 : decode cX3_turn 9 = .ok (.iconst 0, 1) := by decide +kernel
theorem dX3_turn_10 : decode cX3_turn 10 = .ok (.ireturn, 1) := by decide +kernel
theorem dX3_turn_11 : decode cX3_turn 11 = .ok (.iload_n 1, 1) := by decide +kernel
theorem dX3_turn_12 : decode cX3_turn 12 = .ok (.istore_n 3, 1) := by decide +kernel
theorem dX3_turn_13 : decode cX3_turn 13 = .ok (.iload_n 3, 1) := by decide +kernel
theorem dX3_turn_14 : decode cX3_turn 14 = .ok (.iload_n 2, 1) := by decide +kernel
theorem dX3_turn_15 : decode cX3_turn 15 = .ok (.if_icmp .ge 21, 3) := by decide +kernel
theorem dX3_turn_18 : decode cX3_turn 18 = .ok (.aload_n 0, 1) := by decide +kernel
theorem dX3_turn_19 : decode cX3_turn 19 = .ok (.iload_n 3, 1) := by decide +kernel
theorem dX3_turn_20 : decode cX3_turn 20 = .ok (.iload_n 1, 1) := by decide +kernel
theorem dX3_turn_21 : decode cX3_turn 21 = .ok (.iload_n 2, 1) := by decide +kernel
theorem dX3_turn_22 : decode cX3_turn 22 = .ok (.iadd, 1) := by decide +kernel
theorem dX3_turn_23 : decode cX3_turn 23 = .ok (.iconst 1, 1) := by decide +kernel
theorem dX3_turn_24 : decode cX3_turn 24 = .ok (.isub, 1) := by decide +kernel
theorem dX3_turn_25 : decode cX3_turn 25 = .ok (.iload_n 3, 1) := by decide +kernel
theorem dX3_turn_26 : decode cX3_turn 26 = .ok (.isub, 1) := by decide +kernel
theorem dX3_turn_27 : decode cX3_turn 27 = .ok (.invokevirtual 36, 3) := by decide +kernel
theorem dX3_turn_30 : decode cX3_turn 30 = .ok (.iinc 3 1, 3) := by decide +kernel
theorem dX3_turn_33 : decode cX3_turn 33 = .ok (.goto (-20), 3) := by decide +kernel
theorem dX3_turn_36 : decode cX3_turn 36 = .ok (.aload_n 0, 1) := by decide +kernel
theorem dX3_turn_37 : decode cX3_turn 37 = .ok (.iload_n 1, 1) := by decide +kernel
theorem dX3_turn_38 : decode cX3_turn 38 = .ok (.iload_n 2, 1) := by decide +kernel
theorem dX3_turn_39 : decode cX3_turn 39 = .ok (.invokevirtual 40, 3) := by decide +kernel
theorem dX3_turn_42 : decode cX3_turn 42 = .ok (.iconst 1, 1) := by decide +kernel
theorem dX3_turn_43 : decode cX3_turn 43 = .ok (.ireturn, 1) := by decide +kernel
set_option maxRecDepth 20000 in
theorem ggX3_split_X3_isStretch : GoodIn wsX3_split wsX3_isStretch := goodIn_r _ [6, 7, 26, 27, 28, 29, 30] (by decide +kernel) (by decide +kernel)
set_option maxRecDepth 20000 in
theorem gX3_split_X3_isStretch : GoodIn wsX3_split (wsV RX3 51 RX3 yX3_isStretch wsX3_isStretch) := goodIn_app (goodIn_of _ (by decide +kernel)) ggX3_split_X3_isStretch
set_option maxRecDepth 20000 in
theorem ggX3_split_X3_isOrder : GoodIn wsX3_split wsX3_isOrder := goodIn_r _ [10] (by decide +kernel) (by decide +kernel)
set_option maxRecDepth 20000 in
theorem gX3_split_X3_isOrder : GoodIn wsX3_split (va_wsS RX3 43 yX3_isOrder wsX3_isOrder) := goodIn_app (goodIn_of _ (by decide +kernel)) ggX3_split_X3_isOrder
set_option maxRecDepth 20000 in
theorem ggX3_split_X3_isLess : GoodIn wsX3_split wsX3_isLess := goodIn_r _ [13, 14] (by decide +kernel) (by decide +kernel)
set_option maxRecDepth 20000 in
theorem gX3_split_X3_isLess : GoodIn wsX3_split (va_wsS RX3 28 yX3_isLess wsX3_isLess) := goodIn_app (goodIn_of _ (by decide +kernel)) ggX3_split_X3_isLess
set_option maxRecDepth 20000 in
theorem ggX3_split_X3_move : GoodIn wsX3_split wsX3_move := goodIn_r _ [18, 19, 1, 20, 21, 26, 27, 28, 29, 30] (by decide +kernel) (by decide +kernel)
set_option maxRecDepth 20000 in
theorem gX3_split_X3_move : GoodIn wsX3_split (wsV RX3 36 RX3 yX3_move wsX3_move) := goodIn_app (goodIn_of _ (by decide +kernel)) ggX3_split_X3_move
set_option maxRecDepth 20000 in
theorem ggX3_split_X3_take : GoodIn wsX3_split wsX3_take := goodIn_r _ [25, 1, 19, 21, 20, 26, 27, 28, 29, 30] (by decide +kernel) (by decide +kernel)
set_option maxRecDepth 20000 in
theorem gX3_split_X3_take : GoodIn wsX3_split (wsV RX3 40 RX3 yX3_take wsX3_take) := goodIn_app (goodIn_of _ (by decide +kernel)) ggX3_split_X3_take
theorem dX3_split_0 : decode cX3_split 0 = .ok (.aload_n 0, 1) := by decide +kernel
theorem dX3_split_1 : decode cX3_split 1 = .ok (.iload_n 1, 1) := by decide +kernel
theorem dX3_split_2 : decode cX3_split 2 = .ok (.iload_n 2, 1) := by decide +kernel
theorem dX3_split_3 : decode cX3_split 3 = .ok (.invokevirtual 51, 3) := by decide +kernel
theorem dX3_split_6 : decode cX3_split 6 = .ok (.ifCond .eq 11, 3) := by decide +kernel
theorem dX3_split_9 : decode cX3_split 9 = .ok (.iload 4, 2) := by decide +kernel
theorem dX3_split_11 : decode cX3_split 11 = .ok (.invokestatic 43, 3) := by decide +kernel
theorem dX3_split_14 : decode cX3_split 14 = .ok (.ifCond .ne 5, 3) := by decide +kernel
theorem dX3_split_17 : decode cX3_split 17 = .ok (.iconst (-1), 1) := by decide +kernel
theorem dX3_split_18 : decode cX3_split 18 = .ok (.ireturn, 1) := by decide +kernel
theorem dX3_split_19 : decode cX3_split 19 = .ok (.iconst 0, 1) := by decide +kernel
theorem dX3_split_20 : decode cX3_split 20 = .ok (.istore 5, 2) := by decide +kernel
theorem dX3_split_22 : decode cX3_split 22 = .ok (.iload_n 1, 1) := by decide +kernel
theorem dX3_split_23 : decode cX3_split 23 = .ok (.istore 6, 2) := by decide +kernel
theorem dX3_split_25 : decode cX3_split 25 = .ok (.iload 6, 2) := by decide +kernel
theorem dX3_split_27 : decode cX3_split 27 = .ok (.iload_n 2, 1) := by decide +kernel
theorem dX3_split_28 : decode cX3_split 28 = .ok (.if_icmp .ge 38, 3) := by decide +kernel
theorem dX3_split_31 : decode cX3_split 31 = .ok (.aload_n 0, 1) := by decide +kernel
theorem dX3_split_32 : decode cX3_split 32 = .ok (.getfield 7, 3) := by decide +kernel
theorem dX3_split_35 : decode cX3_split 35 = .ok (.iload 6, 2) := by decide +kernel
theorem dX3_split_37 : decode cX3_split 37 = .ok (.iaload, 1) := by decide +kernel
theorem dX3_split_38 : decode cX3_split 38 = .ok (.iload_n 3, 1) := by decide +kernel
theorem dX3_split_39 : decode cX3_split 39 = .ok (.iload 4, 2) := by decide +kernel
theorem dX3_split_41 : decode cX3_split 41 = .ok (.invokestatic 28, 3) := by decide +kernel
theorem dX3_split_44 : decode cX3_split 44 = .ok (.ifCond .eq 16, 3) := by decide +kernel
theorem dX3_split_47 : decode cX3_split 47 = .ok (.aload_n 0, 1) := by decide +kernel
theorem dX3_split_48 : decode cX3_split 48 = .ok (.iload 6, 2) := by decide +kernel
theorem dX3_split_50 : decode cX3_split 50 = .ok (.iload_n 1, 1) := by decide +kernel
theorem dX3_split_51 : decode cX3_split 51 = .ok (.iload 5, 2) := by decide +kernel
theorem dX3_split_53 : decode cX3_split 53 = .ok (.iadd, 1) := by decide +kernel
theorem dX3_split_54 : decode cX3_split 54 = .ok (.invokevirtual 36, 3) := by decide +kernel
theorem dX3_split_57 : decode cX3_split 57 = .ok (.iinc 5 1, 3) := by decide +kernel
theorem dX3_split_60 : decode cX3_split 60 = .ok (.iinc 6 1, 3) := by decide +kernel
theorem dX3_split_63 : decode cX3_split 63 = .ok (.goto (-38), 3) := by decide +kernel
theorem dX3_split_66 : decode cX3_split 66 = .ok (.iconst 0, 1) := by decide +kernel
theorem dX3_split_67 : decode cX3_split 67 = .ok (.istore 6, 2) := by decide +kernel
theorem dX3_split_69 : decode cX3_split 69 = .ok (.iload_n 1, 1) := by decide +kernel
theorem dX3_split_70 : decode cX3_split 70 = .ok (.istore 7, 2) := by decide +kernel
theorem dX3_split_72 : decode cX3_split 72 = .ok (.iload 7, 2) := by decide +kernel
theorem dX3_split_74 : decode cX3_split 74 = .ok (.iload_n 2, 1) := by decide +kernel
theorem dX3_split_75 : decode cX3_split 75 = .ok (.if_icmp .ge 41, 3) := by decide +kernel
theorem dX3_split_78 : decode cX3_split 78 = .ok (.aload_n 0, 1) := by decide +kernel
theorem dX3_split_79 : decode cX3_split 79 = .ok (.getfield 7, 3) := by decide +kernel
theorem dX3_split_82 : decode cX3_split 82 = .ok (.iload 7, 2) := by decide +kernel
theorem dX3_split_84 : decode cX3_split 84 = .ok (.iaload, 1) := by decide +kernel
theorem dX3_split_85 : decode cX3_split 85 = .ok (.iload_n 3, 1) := by decide +kernel
theorem dX3_split_86 : decode cX3_split 86 = .ok (.iload 4, 2) := by decide +kernel
theorem dX3_split_88 : decode cX3_split 88 = .ok (.invokestatic 28, 3) := by decide +kernel
theorem dX3_split_91 : decode cX3_split 91 = .ok (.ifCond .ne 19, 3) := by decide +kernel
theorem dX3_split_94 : decode cX3_split 94 = .ok (.aload_n 0, 1) := by decide +kernel
theorem dX3_split_95 : decode cX3_split 95 = .ok (.iload 7, 2) := by decide +kernel
theorem dX3_split_97 : decode cX3_split 97 = .ok (.iload_n 1, 1) := by decide +kernel
theorem dX3_split_98 : decode cX3_split 98 = .ok (.iload 5, 2) := by decide +kernel
theorem dX3_split_100 : decode cX3_split 100 = .ok (.iadd, 1) := by decide +kernel
theorem dX3_split_101 : decode cX3_split 101 = .ok (.iload 6, 2) := by decide +kernel
theorem dX3_split_103 : decode cX3_split 103 = .ok (.iadd, 1) := by decide +kernel
theorem dX3_split_104 : decode cX3_split 104 = .ok (.invokevirtual 36, 3) := by decide +kernel
theorem dX3_split_107 : decode cX3_split 107 = .ok (.iinc 6 1, 3) := by decide +kernel
theorem dX3_split_110 : decode cX3_split 110 = .ok (.iinc 7 1, 3) := by decide +kernel
theorem dX3_split_113 : decode cX3_split 113 = .ok (.goto (-41), 3) := by decide +kernel
theorem dX3_split_116 : decode cX3_split 116 = .ok (.aload_n 0, 1) := by decide +kernel
theorem dX3_split_117 : decode cX3_split 117 = .ok (.iload_n 1, 1) := by decide +kernel
theorem dX3_split_118 : decode cX3_split 118 = .ok (.iload_n 2, 1) := by decide +kernel
theorem dX3_split_119 : decode cX3_split 119 = .ok (.invokevirtual 40, 3) := by decide +kernel
theorem dX3_split_122 : decode cX3_split 122 = .ok (.iload 5, 2) := by decide +kernel
theorem dX3_split_124 : decode cX3_split 124 = .ok (.ireturn, 1) := by decide +kernel
set_option maxRecDepth 20000 in
theorem ggX3_thin_X3_isOrder : GoodIn wsX3_thin wsX3_isOrder := goodIn_r _ [6] (by decide +kernel) (by decide +kernel)
set_option maxRecDepth 20000 in
theorem gX3_thin_X3_isOrder : GoodIn wsX3_thin (va_wsS RX3 43 yX3_isOrder wsX3_isOrder) := goodIn_app (goodIn_of _ (by decide +kernel)) ggX3_thin_X3_isOrder
set_option maxRecDepth 20000 in
theorem ggX3_thin_X3_isSorted : GoodIn wsX3_thin wsX3_isSorted := goodIn_r _ [10, 2, 11, 12, 5, 13, 14, 26, 27, 28, 29, 30] (by decide +kernel) (by decide +kernel)
set_option maxRecDepth 20000 in
theorem gX3_thin_X3_isSorted : GoodIn wsX3_thin (wsV RX3 55 RX3 yX3_isSorted wsX3_isSorted) := goodIn_app (goodIn_of _ (by decide +kernel)) ggX3_thin_X3_isSorted
set_option maxRecDepth 20000 in
theorem ggX3_thin_X3_isLess : GoodIn wsX3_thin wsX3_isLess := goodIn_r _ [13, 14] (by decide +kernel) (by decide +kernel)
set_option maxRecDepth 20000 in
theorem gX3_thin_X3_isLess : GoodIn wsX3_thin (va_wsS RX3 28 yX3_isLess wsX3_isLess) := goodIn_app (goodIn_of _ (by decide +kernel)) ggX3_thin_X3_isLess
set_option maxRecDepth 20000 in
theorem ggX3_thin_X3_move : GoodIn wsX3_thin wsX3_move := goodIn_r _ [18, 19, 2, 20, 21, 26, 27, 28, 29, 30] (by decide +kernel) (by decide +kernel)
set_option maxRecDepth 20000 in
theorem gX3_thin_X3_move : GoodIn wsX3_thin (wsV RX3 36 RX3 yX3_move wsX3_move) := goodIn_app (goodIn_of _ (by decide +kernel)) ggX3_thin_X3_move
set_option maxRecDepth 20000 in
theorem ggX3_thin_X3_take : GoodIn wsX3_thin wsX3_take := goodIn_r _ [25, 2, 19, 21, 20, 26, 27, 28, 29, 30] (by decide +kernel) (by decide +kernel)
set_option maxRecDepth 20000 in
theorem gX3_thin_X3_take : GoodIn wsX3_thin (wsV RX3 40 RX3 yX3_take wsX3_take) := goodIn_app (goodIn_of _ (by decide +kernel)) ggX3_thin_X3_take
theorem dX3_thin_0 : decode cX3_thin 0 = .ok (.iload_n 1, 1) := by decide +kernel
theorem dX3_thin_1 : decode cX3_thin 1 = .ok (.invokestatic 43, 3) := by decide +kernel
theorem dX3_thin_4 : decode cX3_thin 4 = .ok (.ifCond .eq 16, 3) := by decide +kernel
theorem dX3_thin_7 : decode cX3_thin 7 = .ok (.aload_n 0, 1) := by decide +kernel
theorem dX3_thin_8 : decode cX3_thin 8 = .ok (.iconst 0, 1) := by decide +kernel
theorem dX3_thin_9 : decode cX3_thin 9 = .ok (.aload_n 0, 1) := by decide +kernel
theorem dX3_thin_10 : decode cX3_thin 10 = .ok (.getfield 22, 3) := by decide +kernel
theorem dX3_thin_13 : decode cX3_thin 13 = .ok (.iload_n 1, 1) := by decide +kernel
theorem dX3_thin_14 : decode cX3_thin 14 = .ok (.invokevirtual 55, 3) := by decide +kernel
theorem dX3_thin_17 : decode cX3_thin 17 = .ok (.ifCond .ne 5, 3) := by decide +kernel
theorem dX3_thin_20 : decode cX3_thin 20 = .ok (.iconst (-1), 1) := by decide +kernel
theorem dX3_thin_21 : decode cX3_thin 21 = .ok (.ireturn, 1) := by decide +kernel
theorem dX3_thin_22 : decode cX3_thin 22 = .ok (.iconst 0, 1) := by decide +kernel
theorem dX3_thin_23 : decode cX3_thin 23 = .ok (.istore_n 2, 1) := by decide +kernel
theorem dX3_thin_24 : decode cX3_thin 24 = .ok (.iconst 0, 1) := by decide +kernel
theorem dX3_thin_25 : decode cX3_thin 25 = .ok (.istore_n 3, 1) := by decide +kernel
theorem dX3_thin_26 : decode cX3_thin 26 = .ok (.iload_n 3, 1) := by decide +kernel
theorem dX3_thin_27 : decode cX3_thin 27 = .ok (.aload_n 0, 1) := by decide +kernel
theorem dX3_thin_28 : decode cX3_thin 28 = .ok (.getfield 22, 3) := by decide +kernel
theorem dX3_thin_31 : decode cX3_thin 31 = .ok (.if_icmp .ge 43, 3) := by decide +kernel
theorem dX3_thin_34 : decode cX3_thin 34 = .ok (.iload_n 3, 1) := by decide +kernel
theorem dX3_thin_35 : decode cX3_thin 35 = .ok (.ifCond .eq 24, 3) := by decide +kernel
theorem dX3_thin_38 : decode cX3_thin 38 = .ok (.aload_n 0, 1) := by decide +kernel
theorem dX3_thin_39 : decode cX3_thin 39 = .ok (.getfield 7, 3) := by decide +kernel
theorem dX3_thin_42 : decode cX3_thin 42 = .ok (.iload_n 3, 1) := by decide +kernel
theorem dX3_thin_43 : decode cX3_thin 43 = .ok (.iconst 1, 1) := by decide +kernel
theorem dX3_thin_44 : decode cX3_thin 44 = .ok (.isub, 1) := by decide +kernel
theorem dX3_thin_45 : decode cX3_thin 45 = .ok (.iaload, 1) := by decide +kernel
theorem dX3_thin_46 : decode cX3_thin 46 = .ok (.aload_n 0, 1) := by decide +kernel
theorem dX3_thin_47 : decode cX3_thin 47 = .ok (.getfield 7, 3) := by decide +kernel
theorem dX3_thin_50 : decode cX3_thin 50 = .ok (.iload_n 3, 1) := by decide +kernel
theorem dX3_thin_51 : decode cX3_thin 51 = .ok (.iaload, 1) := by decide +kernel
theorem dX3_thin_52 : decode cX3_thin 52 = .ok (.iload_n 1, 1) := by decide +kernel
theorem dX3_thin_53 : decode cX3_thin 53 = .ok (.invokestatic 28, 3) := by decide +kernel
theorem dX3_thin_56 : decode cX3_thin 56 = .ok (.ifCond .eq 12, 3) := by decide +kernel
theorem dX3_thin_59 : decode cX3_thin 59 = .ok (.aload_n 0, 1) := by decide +kernel
theorem dX3_thin_60 : decode cX3_thin 60 = .ok (.iload_n 3, 1) := by decide +kernel
theorem dX3_thin_61 : decode cX3_thin 61 = .ok (.iload_n 2, 1) := by decide +kernel
theorem dX3_thin_62 : decode cX3_thin 62 = .ok (.invokevirtual 36, 3) := by decide +kernel
theorem dX3_thin_65 : decode cX3_thin 65 = .ok (.iinc 2 1, 3) := by decide +kernel
theorem dX3_thin_68 : decode cX3_thin 68 = .ok (.iinc 3 1, 3) := by decide +kernel
theorem dX3_thin_71 : decode cX3_thin 71 = .ok (.goto (-45), 3) := by decide +kernel
theorem dX3_thin_74 : decode cX3_thin 74 = .ok (.aload_n 0, 1) := by decide +kernel
theorem dX3_thin_75 : decode cX3_thin 75 = .ok (.iconst 0, 1) := by decide +kernel
theorem dX3_thin_76 : decode cX3_thin 76 = .ok (.iload_n 2, 1) := by decide +kernel
theorem dX3_thin_77 : decode cX3_thin 77 = .ok (.invokevirtual 40, 3) := by decide +kernel
theorem dX3_thin_80 : decode cX3_thin 80 = .ok (.aload_n 0, 1) := by decide +kernel
theorem dX3_thin_81 : decode cX3_thin 81 = .ok (.iload_n 2, 1) := by decide +kernel
theorem dX3_thin_82 : decode cX3_thin 82 = .ok (.putfield 22, 3) := by decide +kernel
theorem dX3_thin_85 : decode cX3_thin 85 = .ok (.iload_n 2, 1) := by decide +kernel
theorem dX3_thin_86 : decode cX3_thin 86 = .ok (.ireturn, 1) := by decide +kernel
set_option maxRecDepth 20000 in
theorem ggX3_sorted_X3_isStretch : GoodIn wsX3_sorted wsX3_isStretch := goodIn_r _ [5, 6, 19, 20, 21, 22, 23] (by decide +kernel) (by decide +kernel)
set_option maxRecDepth 20000 in
theorem gX3_sorted_X3_isStretch : GoodIn wsX3_sorted (wsV RX3 51 RX3 yX3_isStretch wsX3_isStretch) := goodIn_app (goodIn_of _ (by decide +kernel)) ggX3_sorted_X3_isStretch
set_option maxRecDepth 20000 in
theorem ggX3_sorted_X3_isOrder : GoodIn wsX3_sorted wsX3_isOrder := goodIn_r _ [9] (by decide +kernel) (by decide +kernel)
set_option maxRecDepth 20000 in
theorem gX3_sorted_X3_isOrder : GoodIn wsX3_sorted (va_wsS RX3 43 yX3_isOrder wsX3_isOrder) := goodIn_app (goodIn_of _ (by decide +kernel)) ggX3_sorted_X3_isOrder
set_option maxRecDepth 20000 in
theorem ggX3_sorted_X3_isSorted : GoodIn wsX3_sorted wsX3_isSorted := goodIn_r _ [13, 14, 15, 16, 4, 17, 18, 19, 20, 21, 22, 23] (by decide +kernel) (by decide +kernel)
set_option maxRecDepth 20000 in
theorem gX3_sorted_X3_isSorted : GoodIn wsX3_sorted (wsV RX3 55 RX3 yX3_isSorted wsX3_isSorted) := goodIn_app (goodIn_of _ (by decide +kernel)) ggX3_sorted_X3_isSorted
theorem dX3_sorted_0 : decode cX3_sorted 0 = .ok (.aload_n 0, 1) := by decide +kernel
theorem dX3_sorted_1 : decode cX3_sorted 1 = .ok (.iload_n 1, 1) := by decide +kernel
theorem dX3_sorted_2 : decode cX3_sorted 2 = .ok (.iload_n 2, 1) := by decide +kernel
theorem dX3_sorted_3 : decode cX3_sorted 3 = .ok (.invokevirtual 51, 3) := by decide +kernel
theorem dX3_sorted_6 : decode cX3_sorted 6 = .ok (.ifCond .eq 10, 3) := by decide +kernel
theorem dX3_sorted_9 : decode cX3_sorted 9 = .ok (.iload_n 3, 1) := by decide +kernel
theorem dX3_sorted_10 : decode cX3_sorted 10 = .ok (.invokestatic 43, 3) := by decide +kernel
theorem dX3_sorted_13 : decode cX3_sorted 13 = .ok (.ifCond .ne 5, 3) := by decide +kernel
theorem dX3_sorted_16 : decode cX3_sorted 16 = .ok (.iconst (-1), 1) := by decide +kernel
theorem dX3_sorted_17 : decode cX3_sorted 17 = .ok (.ireturn, 1) := by decide +kernel
theorem dX3_sorted_18 : decode cX3_sorted 18 = .ok (.aload_n 0, 1) := by decide +kernel
theorem dX3_sorted_19 : decode cX3_sorted 19 = .ok (.iload_n 1, 1) := by decide +kernel
theorem dX3_sorted_20 : decode cX3_sorted 20 = .ok (.iload_n 2, 1) := by decide +kernel
theorem dX3_sorted_21 : decode cX3_sorted 21 = .ok (.iload_n 3, 1) := by decide +kernel
theorem dX3_sorted_22 : decode cX3_sorted 22 = .ok (.invokevirtual 55, 3) := by decide +kernel
theorem dX3_sorted_25 : decode cX3_sorted 25 = .ok (.ifCond .eq 7, 3) := by decide +kernel
theorem dX3_sorted_28 : decode cX3_sorted 28 = .ok (.iconst 1, 1) := by decide +kernel
theorem dX3_sorted_29 : decode cX3_sorted 29 = .ok (.goto 4, 3) := by decide +kernel
theorem dX3_sorted_32 : decode cX3_sorted 32 = .ok (.iconst 0, 1) := by decide +kernel
theorem dX3_sorted_33 : decode cX3_sorted 33 = .ok (.ireturn, 1) := by decide +kernel
set_option maxRecDepth 20000 in
theorem ggX3_find_X3_isOrder : GoodIn wsX3_find wsX3_isOrder := goodIn_r _ [6] (by decide +kernel) (by decide +kernel)
set_option maxRecDepth 20000 in
theorem gX3_find_X3_isOrder : GoodIn wsX3_find (va_wsS RX3 43 yX3_isOrder wsX3_isOrder) := goodIn_app (goodIn_of _ (by decide +kernel)) ggX3_find_X3_isOrder
set_option maxRecDepth 20000 in
theorem ggX3_find_X3_isSorted : GoodIn wsX3_find wsX3_isSorted := goodIn_r _ [10, 2, 11, 12, 5, 13, 14, 15, 16, 17, 18, 19] (by decide +kernel) (by decide +kernel)
set_option maxRecDepth 20000 in
theorem gX3_find_X3_isSorted : GoodIn wsX3_find (wsV RX3 55 RX3 yX3_isSorted wsX3_isSorted) := goodIn_app (goodIn_of _ (by decide +kernel)) ggX3_find_X3_isSorted
set_option maxRecDepth 20000 in
theorem ggX3_find_X3_isLess : GoodIn wsX3_find wsX3_isLess := goodIn_r _ [13, 14] (by decide +kernel) (by decide +kernel)
set_option maxRecDepth 20000 in
theorem gX3_find_X3_isLess : GoodIn wsX3_find (va_wsS RX3 28 yX3_isLess wsX3_isLess) := goodIn_app (goodIn_of _ (by decide +kernel)) ggX3_find_X3_isLess
theorem dX3_find_0 : decode cX3_find 0 = .ok (.iload_n 2, 1) := by decide +kernel
theorem dX3_find_1 : decode cX3_find 1 = .ok (.invokestatic 43, 3) := by decide +kernel
theorem dX3_find_4 : decode cX3_find 4 = .ok (.ifCond .eq 25, 3) := by decide +kernel
theorem dX3_find_7 : decode cX3_find 7 = .ok (.iload_n 3, 1) := by decide +kernel
theorem dX3_find_8 : decode cX3_find 8 = .ok (.ifCond .lt 21, 3) := by decide +kernel
theorem dX3_find_11 : decode cX3_find 11 = .ok (.iload_n 3, 1) := by decide +kernel
theorem dX3_find_12 : decode cX3_find 12 = .ok (.iconst 1, 1) := by decide +kernel
theorem dX3_find_13 : decode cX3_find 13 = .ok (.if_icmp .gt 16, 3) := by decide +kernel
theorem dX3_find_16 : decode cX3_find 16 = .ok (.aload_n 0, 1) := by decide +kernel
theorem dX3_find_17 : decode cX3_find 17 = .ok (.iconst 0, 1) := by decide +kernel
theorem dX3_find_18 : decode cX3_find 18 = .ok (.aload_n 0, 1) := by decide +kernel
theorem dX3_find_19 : decode cX3_find 19 = .ok (.getfield 22, 3) := by decide +kernel
theorem dX3_find_22 : decode cX3_find 22 = .ok (.iload_n 2, 1) := by decide +kernel
theorem dX3_find_23 : decode cX3_find 23 = .ok (.invokevirtual 55, 3) := by decide +kernel
theorem dX3_find_26 : decode cX3_find 26 = .ok (.ifCond .ne 5, 3) := by decide +kernel
theorem dX3_find_29 : decode cX3_find 29 = .ok (.iconst (-1), 1) := by decide +kernel
theorem dX3_find_30 : decode cX3_find 30 = .ok (.ireturn, 1) := by decide +kernel
theorem dX3_find_31 : decode cX3_find 31 = .ok (.iconst 0, 1) := by decide +kernel
theorem dX3_find_32 : decode cX3_find 32 = .ok (.istore 4, 2) := by decide +kernel
theorem dX3_find_34 : decode cX3_find 34 = .ok (.iconst 0, 1) := by decide +kernel
theorem dX3_find_35 : decode cX3_find 35 = .ok (.istore 5, 2) := by decide +kernel
theorem dX3_find_37 : decode cX3_find 37 = .ok (.iload 5, 2) := by decide +kernel
theorem dX3_find_39 : decode cX3_find 39 = .ok (.aload_n 0, 1) := by decide +kernel
theorem dX3_find_40 : decode cX3_find 40 = .ok (.getfield 22, 3) := by decide +kernel
theorem dX3_find_43 : decode cX3_find 43 = .ok (.if_icmp .ge 66, 3) := by decide +kernel
theorem dX3_find_46 : decode cX3_find 46 = .ok (.iload_n 3, 1) := by decide +kernel
theorem dX3_find_47 : decode cX3_find 47 = .ok (.ifCond .ne 18, 3) := by decide +kernel
theorem dX3_find_50 : decode cX3_find 50 = .ok (.aload_n 0, 1) := by decide +kernel
theorem dX3_find_51 : decode cX3_find 51 = .ok (.getfield 7, 3) := by decide +kernel
theorem dX3_find_54 : decode cX3_find 54 = .ok (.iload 5, 2) := by decide +kernel
theorem dX3_find_56 : decode cX3_find 56 = .ok (.iaload, 1) := by decide +kernel
theorem dX3_find_57 : decode cX3_find 57 = .ok (.iload_n 1, 1) := by decide +kernel
theorem dX3_find_58 : decode cX3_find 58 = .ok (.iload_n 2, 1) := by decide +kernel
theorem dX3_find_59 : decode cX3_find 59 = .ok (.invokestatic 28, 3) := by decide +kernel
theorem dX3_find_62 : decode cX3_find 62 = .ok (.goto 23, 3) := by decide +kernel
theorem dX3_find_65 : decode cX3_find 65 = .ok (.iload_n 1, 1) := by decide +kernel
theorem dX3_find_66 : decode cX3_find 66 = .ok (.aload_n 0, 1) := by decide +kernel
theorem dX3_find_67 : decode cX3_find 67 = .ok (.getfield 7, 3) := by decide +kernel
theorem dX3_find_70 : decode cX3_find 70 = .ok (.iload 5, 2) := by decide +kernel
theorem dX3_find_72 : decode cX3_find 72 = .ok (.iaload, 1) := by decide +kernel
theorem dX3_find_73 : decode cX3_find 73 = .ok (.iload_n 2, 1) := by decide +kernel
theorem dX3_find_74 : decode cX3_find 74 = .ok (.invokestatic 28, 3) := by decide +kernel
theorem dX3_find_77 : decode cX3_find 77 = .ok (.ifCond .ne 7, 3) := by decide +kernel
theorem dX3_find_80 : decode cX3_find 80 = .ok (.iconst 1, 1) := by decide +kernel
theorem dX3_find_81 : decode cX3_find 81 = .ok (.goto 4, 3) := by decide +kernel
theorem dX3_find_84 : decode cX3_find 84 = .ok (.iconst 0, 1) := by decide +kernel
theorem dX3_find_85 : decode cX3_find 85 = .ok (.istore 6, 2) := by decide +kernel
theorem dX3_find_87 : decode cX3_find 87 = .ok (.iload 6, 2) := by decide +kernel
theorem dX3_find_89 : decode cX3_find 89 = .ok (.ifCond .eq 10, 3) := by decide +kernel
theorem dX3_find_92 : decode cX3_find 92 = .ok (.iload 4, 2) := by decide +kernel
theorem dX3_find_94 : decode cX3_find 94 = .ok (.iconst 1, 1) := by decide +kernel
theorem dX3_find_95 : decode cX3_find 95 = .ok (.iadd, 1) := by decide +kernel
theorem dX3_find_96 : decode cX3_find 96 = .ok (.goto 5, 3) := by decide +kernel
theorem dX3_find_99 : decode cX3_find 99 = .ok (.iload 4, 2) := by decide +kernel
theorem dX3_find_101 : decode cX3_find 101 = .ok (.istore 4, 2) := by decide +kernel
theorem dX3_find_103 : decode cX3_find 103 = .ok (.iinc 5 1, 3) := by decide +kernel
theorem dX3_find_106 : decode cX3_find 106 = .ok (.goto (-69), 3) := by decide +kernel
theorem dX3_find_109 : decode cX3_find 109 = .ok (.iload 4, 2) := by decide +kernel
theorem dX3_find_111 : decode cX3_find 111 = .ok (.ireturn, 1) := by decide +kernel
set_option maxRecDepth 20000 in
theorem ggX3_rank_X3_isOrder : GoodIn wsX3_rank wsX3_isOrder := goodIn_r _ [5] (by decide +kernel) (by decide +kernel)
set_option maxRecDepth 20000 in
theorem gX3_rank_X3_isOrder : GoodIn wsX3_rank (va_wsS RX3 43 yX3_isOrder wsX3_isOrder) := goodIn_app (goodIn_of _ (by decide +kernel)) ggX3_rank_X3_isOrder
set_option maxRecDepth 20000 in
theorem ggX3_rank_X3_place : GoodIn wsX3_rank wsX3_place := goodIn_r _ [9, 10, 11, 12, 4, 13, 14, 15, 16, 17, 18, 19] (by decide +kernel) (by decide +kernel)
set_option maxRecDepth 20000 in
theorem gX3_rank_X3_place : GoodIn wsX3_rank (wsV RX3 32 RX3 yX3_place wsX3_place) := goodIn_app (goodIn_of _ (by decide +kernel)) ggX3_rank_X3_place
theorem dX3_rank_0 : decode cX3_rank 0 = .ok (.iload_n 1, 1) := by decide +kernel
theorem dX3_rank_1 : decode cX3_rank 1 = .ok (.ifCond .lt 18, 3) := by decide +kernel
theorem dX3_rank_4 : decode cX3_rank 4 = .ok (.iload_n 1, 1) := by decide +kernel
theorem dX3_rank_5 : decode cX3_rank 5 = .ok (.aload_n 0, 1) := by decide +kernel
theorem dX3_rank_6 : decode cX3_rank 6 = .ok (.getfield 22, 3) := by decide +kernel
theorem dX3_rank_9 : decode cX3_rank 9 = .ok (.if_icmp .ge 10, 3) := by decide +kernel
theorem dX3_rank_12 : decode cX3_rank 12 = .ok (.iload_n 2, 1) := by decide +kernel
theorem dX3_rank_13 : decode cX3_rank 13 = .ok (.invokestatic 43, 3) := by decide +kernel
theorem dX3_rank_16 : decode cX3_rank 16 = .ok (.ifCond .ne 5, 3) := by decide +kernel
theorem dX3_rank_19 : decode cX3_rank 19 = .ok (.iconst (-1), 1) := by decide +kernel
theorem dX3_rank_20 : decode cX3_rank 20 = .ok (.ireturn, 1) := by decide +kernel
theorem dX3_rank_21 : decode cX3_rank 21 = .ok (.aload_n 0, 1) := by decide +kernel
theorem dX3_rank_22 : decode cX3_rank 22 = .ok (.iload_n 1, 1) := by decide +kernel
theorem dX3_rank_23 : decode cX3_rank 23 = .ok (.iconst 0, 1) := by decide +kernel
theorem dX3_rank_24 : decode cX3_rank 24 = .ok (.aload_n 0, 1) := by decide +kernel
theorem dX3_rank_25 : decode cX3_rank 25 = .ok (.getfield 22, 3) := by decide +kernel
theorem dX3_rank_28 : decode cX3_rank 28 = .ok (.iload_n 2, 1) := by decide +kernel
theorem dX3_rank_29 : decode cX3_rank 29 = .ok (.invokevirtual 32, 3) := by decide +kernel
theorem dX3_rank_32 : decode cX3_rank 32 = .ok (.ireturn, 1) := by decide +kernel
theorem dX3_key_0 : decode cX3_key 0 = .ok (.iload_n 1, 1) := by decide +kernel
theorem dX3_key_1 : decode cX3_key 1 = .ok (.ifCond .lt 20, 3) := by decide +kernel
theorem dX3_key_4 : decode cX3_key 4 = .ok (.iload_n 1, 1) := by decide +kernel
theorem dX3_key_5 : decode cX3_key 5 = .ok (.aload_n 0, 1) := by decide +kernel
theorem dX3_key_6 : decode cX3_key 6 = .ok (.getfield 22, 3) := by decide +kernel
theorem dX3_key_9 : decode cX3_key 9 = .ok (.if_icmp .ge 12, 3) := by decide +kernel
theorem dX3_key_12 : decode cX3_key 12 = .ok (.aload_n 0, 1) := by decide +kernel
theorem dX3_key_13 : decode cX3_key 13 = .ok (.getfield 7, 3) := by decide +kernel
theorem dX3_key_16 : decode cX3_key 16 = .ok (.iload_n 1, 1) := by decide +kernel
theorem dX3_key_17 : decode cX3_key 17 = .ok (.iaload, 1) := by decide +kernel
theorem dX3_key_18 : decode cX3_key 18 = .ok (.goto 4, 3) := by decide +kernel
theorem dX3_key_21 : decode cX3_key 21 = .ok (.iconst 0, 1) := by decide +kernel
theorem dX3_key_22 : decode cX3_key 22 = .ok (.ireturn, 1) := by decide +kernel
theorem dX3_tag_0 : decode cX3_tag 0 = .ok (.iload_n 1, 1) := by decide +kernel
theorem dX3_tag_1 : decode cX3_tag 1 = .ok (.ifCond .lt 20, 3) := by decide +kernel
theorem dX3_tag_4 : decode cX3_tag 4 = .ok (.iload_n 1, 1) := by decide +kernel
theorem dX3_tag_5 : decode cX3_tag 5 = .ok (.aload_n 0, 1) := by decide +kernel
theorem dX3_tag_6 : decode cX3_tag 6 = .ok (.getfield 22, 3) := by decide +kernel
theorem dX3_tag_9 : decode cX3_tag 9 = .ok (.if_icmp .ge 12, 3) := by decide +kernel
theorem dX3_tag_12 : decode cX3_tag 12 = .ok (.aload_n 0, 1) := by decide +kernel
theorem dX3_tag_13 : decode cX3_tag 13 = .ok (.getfield 13, 3) := by decide +kernel
theorem dX3_tag_16 : decode cX3_tag 16 = .ok (.iload_n 1, 1) := by decide +kernel
theorem dX3_tag_17 : decode cX3_tag 17 = .ok (.iaload, 1) := by decide +kernel
theorem dX3_tag_18 : decode cX3_tag 18 = .ok (.goto 4, 3) := by decide +kernel
theorem dX3_tag_21 : decode cX3_tag 21 = .ok (.iconst 0, 1) := by decide +kernel
theorem dX3_tag_22 : decode cX3_tag 22 = .ok (.ireturn, 1) := by decide +kernel
theorem dX3_stretches_0 : decode cX3_stretches 0 = .ok (.iconst 0, 1) := by decide +kernel
theorem dX3_stretches_1 : decode cX3_stretches 1 = .ok (.istore_n 1, 1) := by decide +kernel
theorem dX3_stretches_2 : decode cX3_stretches 2 = .ok (.iconst 0, 1) := by decide +kernel
theorem dX3_stretches_3 : decode cX3_stretches 3 = .ok (.istore_n 2, 1) := by decide +kernel
theorem dX3_stretches_4 : decode cX3_stretches 4 = .ok (.iload_n 2, 1) := by decide +kernel
theorem dX3_stretches_5 : decode cX3_stretches 5 = .ok (.aload_n 0, 1) := by decide +kernel
theorem dX3_stretches_6 : decode cX3_stretches 6 = .ok (.getfield 22, 3) := by decide +kernel
theorem dX3_stretches_9 : decode cX3_stretches 9 = .ok (.if_icmp .ge 38, 3) := by decide +kernel
theorem dX3_stretches_12 : decode cX3_stretches 12 = .ok (.iload_n 2, 1) := by decide +kernel
theorem dX3_stretches_13 : decode cX3_stretches 13 = .ok (.ifCond .eq 20, 3) := by decide +kernel
theorem dX3_stretches_16 : decode cX3_stretches 16 = .ok (.aload_n 0, 1) := by decide +kernel
theorem dX3_stretches_17 : decode cX3_stretches 17 = .ok (.getfield 7, 3) := by decide +kernel
theorem dX3_stretches_20 : decode cX3_stretches 20 = .ok (.iload_n 2, 1) := by decide +kernel
theorem dX3_stretches_21 : decode cX3_stretches 21 = .ok (.iaload, 1) := by decide +kernel
theorem dX3_stretches_22 : decode cX3_stretches 22 = .ok (.aload_n 0, 1) := by decide +kernel
theorem dX3_stretches_23 : decode cX3_stretches 23 = .ok (.getfield 7, 3) := by decide +kernel
theorem dX3_stretches_26 : decode cX3_stretches 26 = .ok (.iload_n 2, 1) := by decide +kernel
theorem dX3_stretches_27 : decode cX3_stretches 27 = .ok (.iconst 1, 1) := by decide +kernel
theorem dX3_stretches_28 : decode cX3_stretches 28 = .ok (.isub, 1) := by decide +kernel
theorem dX3_stretches_29 : decode cX3_stretches 29 = .ok (.iaload, 1) := by decide +kernel
theorem dX3_stretches_30 : decode cX3_stretches 30 = .ok (.if_icmp .ge 9, 3) := by decide +kernel
theorem dX3_stretches_33 : decode cX3_stretches 33 = .ok (.iload_n 1, 1) := by decide +kernel
theorem dX3_stretches_34 : decode cX3_stretches 34 = .ok (.iconst 1, 1) := by decide +kernel
theorem dX3_stretches_35 : decode cX3_stretches 35 = .ok (.iadd, 1) := by decide +kernel
theorem dX3_stretches_36 : decode cX3_stretches 36 = .ok (.goto 4, 3) := by decide +kernel
theorem dX3_stretches_39 : decode cX3_stretches 39 = .ok (.iload_n 1, 1) := by decide +kernel
theorem dX3_stretches_40 : decode cX3_stretches 40 = .ok (.istore_n 1, 1) := by decide +kernel
theorem dX3_stretches_41 : decode cX3_stretches 41 = .ok (.iinc 2 1, 3) := by decide +kernel
theorem dX3_stretches_44 : decode cX3_stretches 44 = .ok (.goto (-40), 3) := by decide +kernel
theorem dX3_stretches_47 : decode cX3_stretches 47 = .ok (.iload_n 1, 1) := by decide +kernel
theorem dX3_stretches_48 : decode cX3_stretches 48 = .ok (.ireturn, 1) := by decide +kernel
theorem dX3_different_0 : decode cX3_different 0 = .ok (.iconst 0, 1) := by decide +kernel
theorem dX3_different_1 : decode cX3_different 1 = .ok (.istore_n 1, 1) := by decide +kernel
theorem dX3_different_2 : decode cX3_different 2 = .ok (.iconst 0, 1) := by decide +kernel
theorem dX3_different_3 : decode cX3_different 3 = .ok (.istore_n 2, 1) := by decide +kernel
theorem dX3_different_4 : decode cX3_different 4 = .ok (.iload_n 2, 1) := by decide +kernel
theorem dX3_different_5 : decode cX3_different 5 = .ok (.aload_n 0, 1) := by decide +kernel
theorem dX3_different_6 : decode cX3_different 6 = .ok (.getfield 22, 3) := by decide +kernel
theorem dX3_different_9 : decode cX3_different 9 = .ok (.if_icmp .ge 64, 3) := by decide +kernel
theorem dX3_different_12 : decode cX3_different 12 = .ok (.iconst 1, 1) := by decide +kernel
theorem dX3_different_13 : decode cX3_different 13 = .ok (.istore_n 3, 1) := by decide +kernel
theorem dX3_different_14 : decode cX3_different 14 = .ok (.iconst 0, 1) := by decide +kernel
theorem dX3_different_15 : decode cX3_different 15 = .ok (.istore 4, 2) := by decide +kernel
theorem dX3_different_17 : decode cX3_different 17 = .ok (.iload 4, 2) := by decide +kernel
theorem dX3_different_19 : decode cX3_different 19 = .ok (.iload_n 2, 1) := by decide +kernel
theorem dX3_different_20 : decode cX3_different 20 = .ok (.if_icmp .ge 35, 3) := by decide +kernel
theorem dX3_different_23 : decode cX3_different 23 = .ok (.iload_n 3, 1) := by decide +kernel
theorem dX3_different_24 : decode cX3_different 24 = .ok (.ifCond .eq 23, 3) := by decide +kernel
theorem dX3_different_27 : decode cX3_different 27 = .ok (.aload_n 0, 1) := by decide +kernel
theorem dX3_different_28 : decode cX3_different 28 = .ok (.getfield 7, 3) := by decide +kernel
theorem dX3_different_31 : decode cX3_different 31 = .ok (.iload 4, 2) := by decide +kernel
theorem dX3_different_33 : decode cX3_different 33 = .ok (.iaload, 1) := by decide +kernel
theorem dX3_different_34 : decode cX3_different 34 = .ok (.aload_n 0, 1) := by decide +kernel
theorem dX3_different_35 : decode cX3_different 35 = .ok (.getfield 7, 3) := by decide +kernel
theorem dX3_different_38 : decode cX3_different 38 = .ok (.iload_n 2, 1) := by decide +kernel
theorem dX3_different_39 : decode cX3_different 39 = .ok (.iaload, 1) := by decide +kernel
theorem dX3_different_40 : decode cX3_different 40 = .ok (.if_icmp .eq 7, 3) := by decide +kernel
theorem dX3_different_43 : decode cX3_different 43 = .ok (.iconst 1, 1) := by decide +kernel
theorem dX3_different_44 : decode cX3_different 44 = .ok (.goto 4, 3) := by decide +kernel
theorem dX3_different_47 : decode cX3_different 47 = .ok (.iconst 0, 1) := by decide +kernel
theorem dX3_different_48 : decode cX3_different 48 = .ok (.istore_n 3, 1) := by decide +kernel
theorem dX3_different_49 : decode cX3_different 49 = .ok (.iinc 4 1, 3) := by decide +kernel
theorem dX3_different_52 : decode cX3_different 52 = .ok (.goto (-35), 3) := by decide +kernel
theorem dX3_different_55 : decode cX3_different 55 = .ok (.iload_n 3, 1) := by decide +kernel
theorem dX3_different_56 : decode cX3_different 56 = .ok (.ifCond .eq 9, 3) := by decide +kernel
theorem dX3_different_59 : decode cX3_different 59 = .ok (.iload_n 1, 1) := by decide +kernel
theorem dX3_different_60 : decode cX3_different 60 = .ok (.iconst 1, 1) := by decide +kernel
theorem dX3_different_61 : decode cX3_different 61 = .ok (.iadd, 1) := by decide +kernel
theorem dX3_different_62 : decode cX3_different 62 = .ok (.goto 4, 3) := by decide +kernel
theorem dX3_different_65 : decode cX3_different 65 = .ok (.iload_n 1, 1) := by decide +kernel
theorem dX3_different_66 : decode cX3_different 66 = .ok (.istore_n 1, 1) := by decide +kernel
theorem dX3_different_67 : decode cX3_different 67 = .ok (.iinc 2 1, 3) := by decide +kernel
theorem dX3_different_70 : decode cX3_different 70 = .ok (.goto (-66), 3) := by decide +kernel
theorem dX3_different_73 : decode cX3_different 73 = .ok (.iload_n 1, 1) := by decide +kernel
theorem dX3_different_74 : decode cX3_different 74 = .ok (.ireturn, 1) := by decide +kernel
set_option maxRecDepth 20000 in
theorem ggX3_count_X3_stretches : GoodIn wsX3_count wsX3_stretches := goodIn_r _ [6, 1, 7, 12, 13, 14, 15, 16] (by decide +kernel) (by decide +kernel)
set_option maxRecDepth 20000 in
theorem gX3_count_X3_stretches : GoodIn wsX3_count (wsV RX3 58 RX3 yX3_stretches wsX3_stretches) := goodIn_app (goodIn_of _ (by decide +kernel)) ggX3_count_X3_stretches
set_option maxRecDepth 20000 in
theorem ggX3_count_X3_different : GoodIn wsX3_count wsX3_different := goodIn_r _ [11, 1, 7, 12, 13, 14, 15, 16] (by decide +kernel) (by decide +kernel)
set_option maxRecDepth 20000 in
theorem gX3_count_X3_different : GoodIn wsX3_count (wsV RX3 62 RX3 yX3_different wsX3_different) := goodIn_app (goodIn_of _ (by decide +kernel)) ggX3_count_X3_different
theorem dX3_count_0 : decode cX3_count 0 = .ok (.iload_n 1, 1) := by decide +kernel
theorem dX3_count_1 : decode cX3_count 1 = .ok (.tableswitch 42 0 2 #[27, 32, 37], 27) := by decide +kernel
theorem dX3_count_28 : decode cX3_count 28 = .ok (.aload_n 0, 1) := by decide +kernel
theorem dX3_count_29 : decode cX3_count 29 = .ok (.getfield 22, 3) := by decide +kernel
theorem dX3_count_32 : decode cX3_count 32 = .ok (.ireturn, 1) := by decide +kernel
theorem dX3_count_33 : decode cX3_count 33 = .ok (.aload_n 0, 1) := by decide +kernel
theorem dX3_count_34 : decode cX3_count 34 = .ok (.invokevirtual 58, 3) := by decide +kernel
theorem dX3_count_37 : decode cX3_count 37 = .ok (.ireturn, 1) := by decide +kernel
theorem dX3_count_38 : decode cX3_count 38 = .ok (.aload_n 0, 1) := by decide +kernel
theorem dX3_count_39 : decode cX3_count 39 = .ok (.invokevirtual 62, 3) := by decide +kernel
theorem dX3_count_42 : decode cX3_count 42 = .ok (.ireturn, 1) := by decide +kernel
theorem dX3_count_43 : decode cX3_count 43 = .ok (.iconst (-1), 1) := by decide +kernel
theorem dX3_count_44 : decode cX3_count 44 = .ok (.ireturn, 1) := by decide +kernel
theorem dX3_check_0 : decode cX3_check 0 = .ok (.iconst 1, 1) := by decide +kernel
theorem dX3_check_1 : decode cX3_check 1 = .ok (.ireturn, 1) := by decide +kernel
theorem dJ9_min_7cf53_0 : decode cJ9_min_7cf53 0 = .ok (.iload_n 0, 1) := by decide +kernel
theorem dJ9_min_7cf53_1 : decode cJ9_min_7cf53 1 = .ok (.iload_n 1, 1) := by decide +kernel
theorem dJ9_min_7cf53_2 : decode cJ9_min_7cf53 2 = .ok (.if_icmp .gt 7, 3) := by decide +kernel
theorem dJ9_min_7cf53_5 : decode cJ9_min_7cf53 5 = .ok (.iload_n 0, 1) := by decide +kernel
theorem dJ9_min_7cf53_6 : decode cJ9_min_7cf53 6 = .ok (.goto 4, 3) := by decide +kernel
theorem dJ9_min_7cf53_9 : decode cJ9_min_7cf53 9 = .ok (.iload_n 1, 1) := by decide +kernel
theorem dJ9_min_7cf53_10 : decode cJ9_min_7cf53 10 = .ok (.ireturn, 1) := by decide +kernel
