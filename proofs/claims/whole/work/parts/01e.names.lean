set_option maxRecDepth 20000 in
theorem ggX1_bend_X1_take : GoodIn wsX1_bend wsX1_take := goodIn_r _ [16, 12, 17, 18, 27, 28, 29, 30, 31, 32, 33, 34, 35] (by decide +kernel) (by decide +kernel)
set_option maxRecDepth 20000 in
theorem gX1_bend_X1_take : GoodIn wsX1_bend (wsV RX1 93 RX1 yX1_take wsX1_take) := goodIn_app (goodIn_of _ (by decide +kernel)) ggX1_bend_X1_take
set_option maxRecDepth 20000 in
theorem ggX1_bend_X1_bends : GoodIn wsX1_bend wsX1_bends := goodIn_r _ [22, 12, 18, 17, 27, 28, 29, 30, 31, 32, 33, 34, 35] (by decide +kernel) (by decide +kernel)
set_option maxRecDepth 20000 in
theorem gX1_bend_X1_bends : GoodIn wsX1_bend (wsV RX1 86 RX1 yX1_bends wsX1_bends) := goodIn_app (goodIn_of _ (by decide +kernel)) ggX1_bend_X1_bends
set_option maxRecDepth 20000 in
theorem ggX1_bend_X1_number : GoodIn wsX1_bend wsX1_number := goodIn_r _ [26, 12, 17, 27, 28, 29, 30, 31, 32, 33, 34, 35] (by decide +kernel) (by decide +kernel)
set_option maxRecDepth 20000 in
theorem gX1_bend_X1_number : GoodIn wsX1_bend (wsV RX1 96 RX1 yX1_number wsX1_number) := goodIn_app (goodIn_of _ (by decide +kernel)) ggX1_bend_X1_number
theorem dX1_bend_0 : decode cX1_bend 0 = .ok (.iload_n 1, 1) := by decide +kernel
theorem dX1_bend_1 : decode cX1_bend 1 = .ok (.invokestatic 90, 3) := by decide +kernel
theorem dX1_bend_4 : decode cX1_bend 4 = .ok (.ifCond .eq 20, 3) := by decide +kernel
theorem dX1_bend_7 : decode cX1_bend 7 = .ok (.aload_n 0, 1) := by decide +kernel
theorem dX1_bend_8 : decode cX1_bend 8 = .ok (.iload_n 3, 1) := by decide +kernel
theorem dX1_bend_9 : decode cX1_bend 9 = .ok (.invokevirtual 40, 3) := by decide +kernel
theorem dX1_bend_12 : decode cX1_bend 12 = .ok (.ifCond .eq 12, 3) := by decide +kernel
theorem dX1_bend_15 : decode cX1_bend 15 = .ok (.aload_n 0, 1) := by decide +kernel
theorem dX1_bend_16 : decode cX1_bend 16 = .ok (.iload_n 1, 1) := by decide +kernel
theorem dX1_bend_17 : decode cX1_bend 17 = .ok (.iload_n 2, 1) := by decide +kernel
theorem dX1_bend_18 : decode cX1_bend 18 = .ok (.invokevirtual 93, 3) := by decide +kernel
theorem dX1_bend_21 : decode cX1_bend 21 = .ok (.ifCond .ne 5, 3) := by decide +kernel
theorem dX1_bend_24 : decode cX1_bend 24 = .ok (.iconst (-1), 1) := by decide +kernel
theorem dX1_bend_25 : decode cX1_bend 25 = .ok (.ireturn, 1) := by decide +kernel
theorem dX1_bend_26 : decode cX1_bend 26 = .ok (.aload_n 0, 1) := by decide +kernel
theorem dX1_bend_27 : decode cX1_bend 27 = .ok (.iload_n 1, 1) := by decide +kernel
theorem dX1_bend_28 : decode cX1_bend 28 = .ok (.iload_n 3, 1) := by decide +kernel
theorem dX1_bend_29 : decode cX1_bend 29 = .ok (.invokevirtual 86, 3) := by decide +kernel
theorem dX1_bend_32 : decode cX1_bend 32 = .ok (.aload_n 0, 1) := by decide +kernel
theorem dX1_bend_33 : decode cX1_bend 33 = .ok (.iload_n 1, 1) := by decide +kernel
theorem dX1_bend_34 : decode cX1_bend 34 = .ok (.invokevirtual 96, 3) := by decide +kernel
theorem dX1_bend_37 : decode cX1_bend 37 = .ok (.ireturn, 1) := by decide +kernel
set_option maxRecDepth 20000 in
theorem ggX1_round_X1_isHeight : GoodIn wsX1_round wsX1_isHeight := goodIn_r _ [4, 5, 6, 3, 7] (by decide +kernel) (by decide +kernel)
set_option maxRecDepth 20000 in
theorem gX1_round_X1_isHeight : GoodIn wsX1_round (va_wsS RX1 90 yX1_isHeight wsX1_isHeight) := goodIn_app (goodIn_of _ (by decide +kernel)) ggX1_round_X1_isHeight
set_option maxRecDepth 20000 in
theorem ggX1_round_X1_isKind : GoodIn wsX1_round wsX1_isKind := goodIn_r _ [10, 5, 6, 3, 7] (by decide +kernel) (by decide +kernel)
set_option maxRecDepth 20000 in
theorem gX1_round_X1_isKind : GoodIn wsX1_round (va_wsS RX1 56 yX1_isKind wsX1_isKind) := goodIn_app (goodIn_of _ (by decide +kernel)) ggX1_round_X1_isKind
set_option maxRecDepth 20000 in
theorem ggX1_round_X1_take : GoodIn wsX1_round wsX1_take := goodIn_r _ [14, 15, 16, 17, 32, 33, 34, 35, 36, 37, 38, 39, 40] (by decide +kernel) (by decide +kernel)
set_option maxRecDepth 20000 in
theorem gX1_round_X1_take : GoodIn wsX1_round (wsV RX1 93 RX1 yX1_take wsX1_take) := goodIn_app (goodIn_of _ (by decide +kernel)) ggX1_round_X1_take
set_option maxRecDepth 20000 in
theorem ggX1_round_X1_rounds : GoodIn wsX1_round wsX1_rounds := goodIn_r _ [21, 22, 23, 15, 24, 25, 26, 3, 27, 17, 16, 32, 33, 34, 35, 36, 37, 38, 39, 40] (by decide +kernel) (by decide +kernel)
set_option maxRecDepth 20000 in
theorem gX1_round_X1_rounds : GoodIn wsX1_round (wsV RX1 100 RX1 yX1_rounds wsX1_rounds) := goodIn_app (goodIn_of _ (by decide +kernel)) ggX1_round_X1_rounds
set_option maxRecDepth 20000 in
theorem ggX1_round_X1_number : GoodIn wsX1_round wsX1_number := goodIn_r _ [31, 15, 16, 32, 33, 34, 35, 36, 37, 38, 39, 40] (by decide +kernel) (by decide +kernel)
set_option maxRecDepth 20000 in
theorem gX1_round_X1_number : GoodIn wsX1_round (wsV RX1 96 RX1 yX1_number wsX1_number) := goodIn_app (goodIn_of _ (by decide +kernel)) ggX1_round_X1_number
theorem dX1_round_0 : decode cX1_round 0 = .ok (.iload_n 1, 1) := by decide +kernel
theorem dX1_round_1 : decode cX1_round 1 = .ok (.invokestatic 90, 3) := by decide +kernel
theorem dX1_round_4 : decode cX1_round 4 = .ok (.ifCond .eq 19, 3) := by decide +kernel
theorem dX1_round_7 : decode cX1_round 7 = .ok (.iload_n 3, 1) := by decide +kernel
theorem dX1_round_8 : decode cX1_round 8 = .ok (.invokestatic 56, 3) := by decide +kernel
theorem dX1_round_11 : decode cX1_round 11 = .ok (.ifCond .eq 12, 3) := by decide +kernel
theorem dX1_round_14 : decode cX1_round 14 = .ok (.aload_n 0, 1) := by decide +kernel
theorem dX1_round_15 : decode cX1_round 15 = .ok (.iload_n 1, 1) := by decide +kernel
theorem dX1_round_16 : decode cX1_round 16 = .ok (.iload_n 2, 1) := by decide +kernel
theorem dX1_round_17 : decode cX1_round 17 = .ok (.invokevirtual 93, 3) := by decide +kernel
theorem dX1_round_20 : decode cX1_round 20 = .ok (.ifCond .ne 5, 3) := by decide +kernel
theorem dX1_round_23 : decode cX1_round 23 = .ok (.iconst (-1), 1) := by decide +kernel
theorem dX1_round_24 : decode cX1_round 24 = .ok (.ireturn, 1) := by decide +kernel
theorem dX1_round_25 : decode cX1_round 25 = .ok (.aload_n 0, 1) := by decide +kernel
theorem dX1_round_26 : decode cX1_round 26 = .ok (.iload_n 1, 1) := by decide +kernel
theorem dX1_round_27 : decode cX1_round 27 = .ok (.iload_n 3, 1) := by decide +kernel
theorem dX1_round_28 : decode cX1_round 28 = .ok (.invokevirtual 100, 3) := by decide +kernel
theorem dX1_round_31 : decode cX1_round 31 = .ok (.aload_n 0, 1) := by decide +kernel
theorem dX1_round_32 : decode cX1_round 32 = .ok (.iload_n 1, 1) := by decide +kernel
theorem dX1_round_33 : decode cX1_round 33 = .ok (.invokevirtual 96, 3) := by decide +kernel
theorem dX1_round_36 : decode cX1_round 36 = .ok (.ireturn, 1) := by decide +kernel
set_option maxRecDepth 20000 in
theorem ggX1_period_X1_isHeight : GoodIn wsX1_period wsX1_isHeight := goodIn_r _ [4, 5, 6, 3, 7] (by decide +kernel) (by decide +kernel)
set_option maxRecDepth 20000 in
theorem gX1_period_X1_isHeight : GoodIn wsX1_period (va_wsS RX1 90 yX1_isHeight wsX1_isHeight) := goodIn_app (goodIn_of _ (by decide +kernel)) ggX1_period_X1_isHeight
set_option maxRecDepth 20000 in
theorem ggX1_period_X1_isKind : GoodIn wsX1_period wsX1_isKind := goodIn_r _ [10, 5, 6, 3, 7] (by decide +kernel) (by decide +kernel)
set_option maxRecDepth 20000 in
theorem gX1_period_X1_isKind : GoodIn wsX1_period (va_wsS RX1 56 yX1_isKind wsX1_isKind) := goodIn_app (goodIn_of _ (by decide +kernel)) ggX1_period_X1_isKind
set_option maxRecDepth 20000 in
theorem ggX1_period_X1_take : GoodIn wsX1_period wsX1_take := goodIn_r _ [14, 15, 16, 17, 32, 33, 34, 35, 36, 37, 38, 39, 40] (by decide +kernel) (by decide +kernel)
set_option maxRecDepth 20000 in
theorem gX1_period_X1_take : GoodIn wsX1_period (wsV RX1 93 RX1 yX1_take wsX1_take) := goodIn_app (goodIn_of _ (by decide +kernel)) ggX1_period_X1_take
set_option maxRecDepth 20000 in
theorem ggX1_period_X1_rounds : GoodIn wsX1_period wsX1_rounds := goodIn_r _ [21, 22, 23, 15, 24, 25, 26, 3, 27, 17, 16, 32, 33, 34, 35, 36, 37, 38, 39, 40] (by decide +kernel) (by decide +kernel)
set_option maxRecDepth 20000 in
theorem gX1_period_X1_rounds : GoodIn wsX1_period (wsV RX1 100 RX1 yX1_rounds wsX1_rounds) := goodIn_app (goodIn_of _ (by decide +kernel)) ggX1_period_X1_rounds
set_option maxRecDepth 20000 in
theorem ggX1_period_X1_number : GoodIn wsX1_period wsX1_number := goodIn_r _ [31, 15, 16, 32, 33, 34, 35, 36, 37, 38, 39, 40] (by decide +kernel) (by decide +kernel)
set_option maxRecDepth 20000 in
theorem gX1_period_X1_number : GoodIn wsX1_period (wsV RX1 96 RX1 yX1_number wsX1_number) := goodIn_app (goodIn_of _ (by decide +kernel)) ggX1_period_X1_number
theorem dX1_period_0 : decode cX1_period 0 = .ok (.iload_n 1, 1) := by decide +kernel
theorem dX1_period_1 : decode cX1_period 1 = .ok (.invokestatic 90, 3) := by decide +kernel
theorem dX1_period_4 : decode cX1_period 4 = .ok (.ifCond .eq 19, 3) := by decide +kernel
theorem dX1_period_7 : decode cX1_period 7 = .ok (.iload_n 3, 1) := by decide +kernel
theorem dX1_period_8 : decode cX1_period 8 = .ok (.invokestatic 56, 3) := by decide +kernel
theorem dX1_period_11 : decode cX1_period 11 = .ok (.ifCond .eq 12, 3) := by decide +kernel
theorem dX1_period_14 : decode cX1_period 14 = .ok (.aload_n 0, 1) := by decide +kernel
theorem dX1_period_15 : decode cX1_period 15 = .ok (.iload_n 1, 1) := by decide +kernel
theorem dX1_period_16 : decode cX1_period 16 = .ok (.iload_n 2, 1) := by decide +kernel
theorem dX1_period_17 : decode cX1_period 17 = .ok (.invokevirtual 93, 3) := by decide +kernel
theorem dX1_period_20 : decode cX1_period 20 = .ok (.ifCond .ne 5, 3) := by decide +kernel
theorem dX1_period_23 : decode cX1_period 23 = .ok (.iconst (-1), 1) := by decide +kernel
theorem dX1_period_24 : decode cX1_period 24 = .ok (.ireturn, 1) := by decide +kernel
theorem dX1_period_25 : decode cX1_period 25 = .ok (.iconst 0, 1) := by decide +kernel
theorem dX1_period_26 : decode cX1_period 26 = .ok (.istore 4, 2) := by decide +kernel
theorem dX1_period_28 : decode cX1_period 28 = .ok (.iconst (-1), 1) := by decide +kernel
theorem dX1_period_29 : decode cX1_period 29 = .ok (.istore 5, 2) := by decide +kernel
theorem dX1_period_31 : decode cX1_period 31 = .ok (.iload 5, 2) := by decide +kernel
theorem dX1_period_33 : decode cX1_period 33 = .ok (.iload_n 2, 1) := by decide +kernel
theorem dX1_period_34 : decode cX1_period 34 = .ok (.if_icmp .eq 30, 3) := by decide +kernel
theorem dX1_period_37 : decode cX1_period 37 = .ok (.iload 4, 2) := by decide +kernel
theorem dX1_period_39 : decode cX1_period 39 = .ok (.sipush 1000, 3) := by decide +kernel
theorem dX1_period_42 : decode cX1_period 42 = .ok (.if_icmp .ge 22, 3) := by decide +kernel
theorem dX1_period_45 : decode cX1_period 45 = .ok (.aload_n 0, 1) := by decide +kernel
theorem dX1_period_46 : decode cX1_period 46 = .ok (.iload_n 1, 1) := by decide +kernel
theorem dX1_period_47 : decode cX1_period 47 = .ok (.iload_n 3, 1) := by decide +kernel
theorem dX1_period_48 : decode cX1_period 48 = .ok (.invokevirtual 100, 3) := by decide +kernel
theorem dX1_period_51 : decode cX1_period 51 = .ok (.aload_n 0, 1) := by decide +kernel
theorem dX1_period_52 : decode cX1_period 52 = .ok (.iload_n 1, 1) := by decide +kernel
theorem dX1_period_53 : decode cX1_period 53 = .ok (.invokevirtual 96, 3) := by decide +kernel
theorem dX1_period_56 : decode cX1_period 56 = .ok (.istore 5, 2) := by decide +kernel
theorem dX1_period_58 : decode cX1_period 58 = .ok (.iinc 4 1, 3) := by decide +kernel
theorem dX1_period_61 : decode cX1_period 61 = .ok (.goto (-30), 3) := by decide +kernel
theorem dX1_period_64 : decode cX1_period 64 = .ok (.iload 5, 2) := by decide +kernel
theorem dX1_period_66 : decode cX1_period 66 = .ok (.iload_n 2, 1) := by decide +kernel
theorem dX1_period_67 : decode cX1_period 67 = .ok (.if_icmp .ne 8, 3) := by decide +kernel
theorem dX1_period_70 : decode cX1_period 70 = .ok (.iload 4, 2) := by decide +kernel
theorem dX1_period_72 : decode cX1_period 72 = .ok (.goto 5, 3) := by decide +kernel
theorem dX1_period_75 : decode cX1_period 75 = .ok (.bipush (-9), 2) := by decide +kernel
theorem dX1_period_77 : decode cX1_period 77 = .ok (.ireturn, 1) := by decide +kernel
set_option maxRecDepth 20000 in
theorem ggX1_countOf_X1_has : GoodIn wsX1_countOf wsX1_has := goodIn_r _ [5] (by decide +kernel) (by decide +kernel)
set_option maxRecDepth 20000 in
theorem gX1_countOf_X1_has : GoodIn wsX1_countOf (va_wsS RX1 45 yX1_has wsX1_has) := goodIn_app (goodIn_of _ (by decide +kernel)) ggX1_countOf_X1_has
set_option maxRecDepth 20000 in
theorem ggX1_countOf_X1_isHeap : GoodIn wsX1_countOf wsX1_isHeap := goodIn_r _ [9, 1, 10, 11, 12, 4, 13, 2, 3, 5, 14, 15, 16, 17, 18, 19, 20, 21, 22] (by decide +kernel) (by decide +kernel)
set_option maxRecDepth 20000 in
theorem gX1_countOf_X1_isHeap : GoodIn wsX1_countOf (wsV RX1 49 RX1 yX1_isHeap wsX1_isHeap) := goodIn_app (goodIn_of _ (by decide +kernel)) ggX1_countOf_X1_isHeap
theorem dX1_countOf_0 : decode cX1_countOf 0 = .ok (.iconst 0, 1) := by decide +kernel
theorem dX1_countOf_1 : decode cX1_countOf 1 = .ok (.istore_n 2, 1) := by decide +kernel
theorem dX1_countOf_2 : decode cX1_countOf 2 = .ok (.iconst 0, 1) := by decide +kernel
theorem dX1_countOf_3 : decode cX1_countOf 3 = .ok (.istore_n 3, 1) := by decide +kernel
theorem dX1_countOf_4 : decode cX1_countOf 4 = .ok (.iload_n 3, 1) := by decide +kernel
theorem dX1_countOf_5 : decode cX1_countOf 5 = .ok (.iconst 1, 1) := by decide +kernel
theorem dX1_countOf_6 : decode cX1_countOf 6 = .ok (.aload_n 0, 1) := by decide +kernel
theorem dX1_countOf_7 : decode cX1_countOf 7 = .ok (.getfield 7, 3) := by decide +kernel
theorem dX1_countOf_10 : decode cX1_countOf 10 = .ok (.ishl, 1) := by decide +kernel
theorem dX1_countOf_11 : decode cX1_countOf 11 = .ok (.if_icmp .ge 71, 3) := by decide +kernel
theorem dX1_countOf_14 : decode cX1_countOf 14 = .ok (.iconst 0, 1) := by decide +kernel
theorem dX1_countOf_15 : decode cX1_countOf 15 = .ok (.istore 4, 2) := by decide +kernel
theorem dX1_countOf_17 : decode cX1_countOf 17 = .ok (.iconst 0, 1) := by decide +kernel
theorem dX1_countOf_18 : decode cX1_countOf 18 = .ok (.istore 5, 2) := by decide +kernel
theorem dX1_countOf_20 : decode cX1_countOf 20 = .ok (.iload 5, 2) := by decide +kernel
theorem dX1_countOf_22 : decode cX1_countOf 22 = .ok (.aload_n 0, 1) := by decide +kernel
theorem dX1_countOf_23 : decode cX1_countOf 23 = .ok (.getfield 7, 3) := by decide +kernel
theorem dX1_countOf_26 : decode cX1_countOf 26 = .ok (.if_icmp .ge 28, 3) := by decide +kernel
theorem dX1_countOf_29 : decode cX1_countOf 29 = .ok (.iload 4, 2) := by decide +kernel
theorem dX1_countOf_31 : decode cX1_countOf 31 = .ok (.iload_n 3, 1) := by decide +kernel
theorem dX1_countOf_32 : decode cX1_countOf 32 = .ok (.iload 5, 2) := by decide +kernel
theorem dX1_countOf_34 : decode cX1_countOf 34 = .ok (.invokestatic 45, 3) := by decide +kernel
theorem dX1_countOf_37 : decode cX1_countOf 37 = .ok (.ifCond .eq 7, 3) := by decide +kernel
theorem dX1_countOf_40 : decode cX1_countOf 40 = .ok (.iconst 1, 1) := by decide +kernel
theorem dX1_countOf_41 : decode cX1_countOf 41 = .ok (.goto 4, 3) := by decide +kernel
theorem dX1_countOf_44 : decode cX1_countOf 44 = .ok (.iconst 0, 1) := by decide +kernel
theorem dX1_countOf_45 : decode cX1_countOf 45 = .ok (.iadd, 1) := by decide +kernel
theorem dX1_countOf_46 : decode cX1_countOf 46 = .ok (.istore 4, 2) := by decide +kernel
theorem dX1_countOf_48 : decode cX1_countOf 48 = .ok (.iinc 5 1, 3) := by decide +kernel
theorem dX1_countOf_51 : decode cX1_countOf 51 = .ok (.goto (-31), 3) := by decide +kernel
theorem dX1_countOf_54 : decode cX1_countOf 54 = .ok (.iload_n 2, 1) := by decide +kernel
theorem dX1_countOf_55 : decode cX1_countOf 55 = .ok (.iload 4, 2) := by decide +kernel
theorem dX1_countOf_57 : decode cX1_countOf 57 = .ok (.iload_n 1, 1) := by decide +kernel
theorem dX1_countOf_58 : decode cX1_countOf 58 = .ok (.if_icmp .ne 15, 3) := by decide +kernel
theorem dX1_countOf_61 : decode cX1_countOf 61 = .ok (.aload_n 0, 1) := by decide +kernel
theorem dX1_countOf_62 : decode cX1_countOf 62 = .ok (.iload_n 3, 1) := by decide +kernel
theorem dX1_countOf_63 : decode cX1_countOf 63 = .ok (.invokevirtual 49, 3) := by decide +kernel
theorem dX1_countOf_66 : decode cX1_countOf 66 = .ok (.ifCond .eq 7, 3) := by decide +kernel
theorem dX1_countOf_69 : decode cX1_countOf 69 = .ok (.iconst 1, 1) := by decide +kernel
theorem dX1_countOf_70 : decode cX1_countOf 70 = .ok (.goto 4, 3) := by decide +kernel
theorem dX1_countOf_73 : decode cX1_countOf 73 = .ok (.iconst 0, 1) := by decide +kernel
theorem dX1_countOf_74 : decode cX1_countOf 74 = .ok (.iadd, 1) := by decide +kernel
theorem dX1_countOf_75 : decode cX1_countOf 75 = .ok (.istore_n 2, 1) := by decide +kernel
theorem dX1_countOf_76 : decode cX1_countOf 76 = .ok (.iinc 3 1, 3) := by decide +kernel
theorem dX1_countOf_79 : decode cX1_countOf 79 = .ok (.goto (-75), 3) := by decide +kernel
theorem dX1_countOf_82 : decode cX1_countOf 82 = .ok (.iload_n 2, 1) := by decide +kernel
theorem dX1_countOf_83 : decode cX1_countOf 83 = .ok (.ireturn, 1) := by decide +kernel
set_option maxRecDepth 20000 in
theorem ggX1_counts_X1_in : GoodIn wsX1_counts wsX1_in := goodIn_r _ [5] (by decide +kernel) (by decide +kernel)
set_option maxRecDepth 20000 in
theorem gX1_counts_X1_in : GoodIn wsX1_counts (va_wsS RX1 36 yX1_in wsX1_in) := goodIn_app (goodIn_of _ (by decide +kernel)) ggX1_counts_X1_in
set_option maxRecDepth 20000 in
theorem ggX1_counts_X1_countOf : GoodIn wsX1_counts wsX1_countOf := goodIn_r _ [9, 1, 10, 11, 4, 12, 13, 14, 15, 16, 17, 2, 3, 5, 18, 19, 20, 21, 22, 23, 24, 25, 26] (by decide +kernel) (by decide +kernel)
set_option maxRecDepth 20000 in
theorem gX1_counts_X1_countOf : GoodIn wsX1_counts (wsV RX1 103 RX1 yX1_countOf wsX1_countOf) := goodIn_app (goodIn_of _ (by decide +kernel)) ggX1_counts_X1_countOf
theorem dX1_counts_0 : decode cX1_counts 0 = .ok (.iload_n 1, 1) := by decide +kernel
theorem dX1_counts_1 : decode cX1_counts 1 = .ok (.iconst 0, 1) := by decide +kernel
theorem dX1_counts_2 : decode cX1_counts 2 = .ok (.aload_n 0, 1) := by decide +kernel
theorem dX1_counts_3 : decode cX1_counts 3 = .ok (.getfield 7, 3) := by decide +kernel
theorem dX1_counts_6 : decode cX1_counts 6 = .ok (.invokestatic 36, 3) := by decide +kernel
theorem dX1_counts_9 : decode cX1_counts 9 = .ok (.ifCond .eq 11, 3) := by decide +kernel
theorem dX1_counts_12 : decode cX1_counts 12 = .ok (.aload_n 0, 1) := by decide +kernel
theorem dX1_counts_13 : decode cX1_counts 13 = .ok (.iload_n 1, 1) := by decide +kernel
theorem dX1_counts_14 : decode cX1_counts 14 = .ok (.invokevirtual 103, 3) := by decide +kernel
theorem dX1_counts_17 : decode cX1_counts 17 = .ok (.goto 4, 3) := by decide +kernel
theorem dX1_counts_20 : decode cX1_counts 20 = .ok (.iconst (-1), 1) := by decide +kernel
theorem dX1_counts_21 : decode cX1_counts 21 = .ok (.ireturn, 1) := by decide +kernel
set_option maxRecDepth 20000 in
theorem ggX1_at_X1_in : GoodIn wsX1_at wsX1_in := goodIn_r _ [8] (by decide +kernel) (by decide +kernel)
set_option maxRecDepth 20000 in
theorem gX1_at_X1_in : GoodIn wsX1_at (va_wsS RX1 36 yX1_in wsX1_in) := goodIn_app (goodIn_of _ (by decide +kernel)) ggX1_at_X1_in
set_option maxRecDepth 20000 in
theorem ggX1_at_X1_countOf : GoodIn wsX1_at wsX1_countOf := goodIn_r _ [12, 3, 13, 14, 7, 15, 16, 17, 18, 19, 20, 5, 6, 8, 21, 22, 23, 24, 25, 26, 27, 28, 29] (by decide +kernel) (by decide +kernel)
set_option maxRecDepth 20000 in
theorem gX1_at_X1_countOf : GoodIn wsX1_at (wsV RX1 103 RX1 yX1_countOf wsX1_countOf) := goodIn_app (goodIn_of _ (by decide +kernel)) ggX1_at_X1_countOf
theorem dX1_at_0 : decode cX1_at 0 = .ok (.iload_n 1, 1) := by decide +kernel
theorem dX1_at_1 : decode cX1_at 1 = .ok (.iconst 1, 1) := by decide +kernel
theorem dX1_at_2 : decode cX1_at 2 = .ok (.bipush 6, 2) := by decide +kernel
theorem dX1_at_4 : decode cX1_at 4 = .ok (.invokestatic 36, 3) := by decide +kernel
theorem dX1_at_7 : decode cX1_at 7 = .ok (.ifCond .eq 8, 3) := by decide +kernel
theorem dX1_at_10 : decode cX1_at 10 = .ok (.iload_n 1, 1) := by decide +kernel
theorem dX1_at_11 : decode cX1_at 11 = .ok (.iconst 5, 1) := by decide +kernel
theorem dX1_at_12 : decode cX1_at 12 = .ok (.if_icmp .ne 6, 3) := by decide +kernel
theorem dX1_at_15 : decode cX1_at 15 = .ok (.ldc 106, 2) := by decide +kernel
theorem dX1_at_17 : decode cX1_at 17 = .ok (.ireturn, 1) := by decide +kernel
theorem dX1_at_18 : decode cX1_at 18 = .ok (.iconst 0, 1) := by decide +kernel
theorem dX1_at_19 : decode cX1_at 19 = .ok (.istore_n 2, 1) := by decide +kernel
theorem dX1_at_20 : decode cX1_at 20 = .ok (.iload_n 2, 1) := by decide +kernel
theorem dX1_at_21 : decode cX1_at 21 = .ok (.bipush 6, 2) := by decide +kernel
theorem dX1_at_23 : decode cX1_at 23 = .ok (.if_icmp .ge 16, 3) := by decide +kernel
theorem dX1_at_26 : decode cX1_at 26 = .ok (.aload_n 0, 1) := by decide +kernel
theorem dX1_at_27 : decode cX1_at 27 = .ok (.getfield 30, 3) := by decide +kernel
theorem dX1_at_30 : decode cX1_at 30 = .ok (.iload_n 2, 1) := by decide +kernel
theorem dX1_at_31 : decode cX1_at 31 = .ok (.iconst 0, 1) := by decide +kernel
theorem dX1_at_32 : decode cX1_at 32 = .ok (.iastore, 1) := by decide +kernel
theorem dX1_at_33 : decode cX1_at 33 = .ok (.iinc 2 1, 3) := by decide +kernel
theorem dX1_at_36 : decode cX1_at 36 = .ok (.goto (-16), 3) := by decide +kernel
theorem dX1_at_39 : decode cX1_at 39 = .ok (.iconst 0, 1) := by decide +kernel
theorem dX1_at_40 : decode cX1_at 40 = .ok (.istore_n 2, 1) := by decide +kernel
theorem dX1_at_41 : decode cX1_at 41 = .ok (.iload_n 2, 1) := by decide +kernel
theorem dX1_at_42 : decode cX1_at 42 = .ok (.aload_n 0, 1) := by decide +kernel
theorem dX1_at_43 : decode cX1_at 43 = .ok (.getfield 7, 3) := by decide +kernel
theorem dX1_at_46 : decode cX1_at 46 = .ok (.if_icmp .gt 25, 3) := by decide +kernel
theorem dX1_at_49 : decode cX1_at 49 = .ok (.aload_n 0, 1) := by decide +kernel
theorem dX1_at_50 : decode cX1_at 50 = .ok (.getfield 30, 3) := by decide +kernel
theorem dX1_at_53 : decode cX1_at 53 = .ok (.iload_n 2, 1) := by decide +kernel
theorem dX1_at_54 : decode cX1_at 54 = .ok (.iload_n 1, 1) := by decide +kernel
theorem dX1_at_55 : decode cX1_at 55 = .ok (.irem, 1) := by decide +kernel
theorem dX1_at_56 : decode cX1_at 56 = .ok (.dup2, 1) := by decide +kernel
theorem dX1_at_57 : decode cX1_at 57 = .ok (.iaload, 1) := by decide +kernel
theorem dX1_at_58 : decode cX1_at 58 = .ok (.aload_n 0, 1) := by decide +kernel
theorem dX1_at_59 : decode cX1_at 59 = .ok (.iload_n 2, 1) := by decide +kernel
theorem dX1_at_60 : decode cX1_at 60 = .ok (.invokevirtual 103, 3) := by decide +kernel
theorem dX1_at_63 : decode cX1_at 63 = .ok (.iadd, 1) := by decide +kernel
theorem dX1_at_64 : decode cX1_at 64 = .ok (.iastore, 1) := by decide +kernel
theorem dX1_at_65 : decode cX1_at 65 = .ok (.iinc 2 1, 3) := by decide +kernel
theorem dX1_at_68 : decode cX1_at 68 = .ok (.goto (-27), 3) := by decide +kernel
theorem dX1_at_71 : decode cX1_at 71 = .ok (.iload_n 1, 1) := by decide +kernel
theorem dX1_at_72 : decode cX1_at 72 = .ok (.tableswitch 121 1 4 #[32, 39, 53, 87], 32) := by decide +kernel
theorem dX1_at_104 : decode cX1_at 104 = .ok (.aload_n 0, 1) := by decide +kernel
theorem dX1_at_105 : decode cX1_at 105 = .ok (.getfield 30, 3) := by decide +kernel
theorem dX1_at_108 : decode cX1_at 108 = .ok (.iconst 0, 1) := by decide +kernel
theorem dX1_at_109 : decode cX1_at 109 = .ok (.iaload, 1) := by decide +kernel
theorem dX1_at_110 : decode cX1_at 110 = .ok (.ireturn, 1) := by decide +kernel
theorem dX1_at_111 : decode cX1_at 111 = .ok (.aload_n 0, 1) := by decide +kernel
theorem dX1_at_112 : decode cX1_at 112 = .ok (.getfield 30, 3) := by decide +kernel
theorem dX1_at_115 : decode cX1_at 115 = .ok (.iconst 0, 1) := by decide +kernel
theorem dX1_at_116 : decode cX1_at 116 = .ok (.iaload, 1) := by decide +kernel
theorem dX1_at_117 : decode cX1_at 117 = .ok (.aload_n 0, 1) := by decide +kernel
theorem dX1_at_118 : decode cX1_at 118 = .ok (.getfield 30, 3) := by decide +kernel
theorem dX1_at_121 : decode cX1_at 121 = .ok (.iconst 1, 1) := by decide +kernel
theorem dX1_at_122 : decode cX1_at 122 = .ok (.iaload, 1) := by decide +kernel
theorem dX1_at_123 : decode cX1_at 123 = .ok (.isub, 1) := by decide +kernel
theorem dX1_at_124 : decode cX1_at 124 = .ok (.ireturn, 1) := by decide +kernel
theorem dX1_at_125 : decode cX1_at 125 = .ok (.aload_n 0, 1) := by decide +kernel
theorem dX1_at_126 : decode cX1_at 126 = .ok (.getfield 30, 3) := by decide +kernel
theorem dX1_at_129 : decode cX1_at 129 = .ok (.iconst 1, 1) := by decide +kernel
theorem dX1_at_130 : decode cX1_at 130 = .ok (.iaload, 1) := by decide +kernel
theorem dX1_at_131 : decode cX1_at 131 = .ok (.aload_n 0, 1) := by decide +kernel
theorem dX1_at_132 : decode cX1_at 132 = .ok (.getfield 30, 3) := by decide +kernel
theorem dX1_at_135 : decode cX1_at 135 = .ok (.iconst 2, 1) := by decide +kernel
theorem dX1_at_136 : decode cX1_at 136 = .ok (.iaload, 1) := by decide +kernel
theorem dX1_at_137 : decode cX1_at 137 = .ok (.if_icmp .ne 19, 3) := by decide +kernel
theorem dX1_at_140 : decode cX1_at 140 = .ok (.aload_n 0, 1) := by decide +kernel
theorem dX1_at_141 : decode cX1_at 141 = .ok (.getfield 30, 3) := by decide +kernel
theorem dX1_at_144 : decode cX1_at 144 = .ok (.iconst 0, 1) := by decide +kernel
theorem dX1_at_145 : decode cX1_at 145 = .ok (.iaload, 1) := by decide +kernel
theorem dX1_at_146 : decode cX1_at 146 = .ok (.aload_n 0, 1) := by decide +kernel
theorem dX1_at_147 : decode cX1_at 147 = .ok (.getfield 30, 3) := by decide +kernel
theorem dX1_at_150 : decode cX1_at 150 = .ok (.iconst 2, 1) := by decide +kernel
theorem dX1_at_151 : decode cX1_at 151 = .ok (.iaload, 1) := by decide +kernel
theorem dX1_at_152 : decode cX1_at 152 = .ok (.isub, 1) := by decide +kernel
theorem dX1_at_153 : decode cX1_at 153 = .ok (.goto 5, 3) := by decide +kernel
theorem dX1_at_156 : decode cX1_at 156 = .ok (.ldc 44, 2) := by decide +kernel
theorem dX1_at_158 : decode cX1_at 158 = .ok (.ireturn, 1) := by decide +kernel
theorem dX1_at_159 : decode cX1_at 159 = .ok (.aload_n 0, 1) := by decide +kernel
theorem dX1_at_160 : decode cX1_at 160 = .ok (.getfield 30, 3) := by decide +kernel
theorem dX1_at_163 : decode cX1_at 163 = .ok (.iconst 1, 1) := by decide +kernel
theorem dX1_at_164 : decode cX1_at 164 = .ok (.iaload, 1) := by decide +kernel
theorem dX1_at_165 : decode cX1_at 165 = .ok (.aload_n 0, 1) := by decide +kernel
theorem dX1_at_166 : decode cX1_at 166 = .ok (.getfield 30, 3) := by decide +kernel
theorem dX1_at_169 : decode cX1_at 169 = .ok (.iconst 3, 1) := by decide +kernel
theorem dX1_at_170 : decode cX1_at 170 = .ok (.iaload, 1) := by decide +kernel
theorem dX1_at_171 : decode cX1_at 171 = .ok (.if_icmp .ne 19, 3) := by decide +kernel
theorem dX1_at_174 : decode cX1_at 174 = .ok (.aload_n 0, 1) := by decide +kernel
theorem dX1_at_175 : decode cX1_at 175 = .ok (.getfield 30, 3) := by decide +kernel
theorem dX1_at_178 : decode cX1_at 178 = .ok (.iconst 0, 1) := by decide +kernel
theorem dX1_at_179 : decode cX1_at 179 = .ok (.iaload, 1) := by decide +kernel
theorem dX1_at_180 : decode cX1_at 180 = .ok (.aload_n 0, 1) := by decide +kernel
theorem dX1_at_181 : decode cX1_at 181 = .ok (.getfield 30, 3) := by decide +kernel
theorem dX1_at_184 : decode cX1_at 184 = .ok (.iconst 2, 1) := by decide +kernel
theorem dX1_at_185 : decode cX1_at 185 = .ok (.iaload, 1) := by decide +kernel
theorem dX1_at_186 : decode cX1_at 186 = .ok (.isub, 1) := by decide +kernel
theorem dX1_at_187 : decode cX1_at 187 = .ok (.goto 5, 3) := by decide +kernel
theorem dX1_at_190 : decode cX1_at 190 = .ok (.ldc 44, 2) := by decide +kernel
theorem dX1_at_192 : decode cX1_at 192 = .ok (.ireturn, 1) := by decide +kernel
theorem dX1_at_193 : decode cX1_at 193 = .ok (.aload_n 0, 1) := by decide +kernel
theorem dX1_at_194 : decode cX1_at 194 = .ok (.getfield 30, 3) := by decide +kernel
theorem dX1_at_197 : decode cX1_at 197 = .ok (.iconst 1, 1) := by decide +kernel
theorem dX1_at_198 : decode cX1_at 198 = .ok (.iaload, 1) := by decide +kernel
theorem dX1_at_199 : decode cX1_at 199 = .ok (.aload_n 0, 1) := by decide +kernel
theorem dX1_at_200 : decode cX1_at 200 = .ok (.getfield 30, 3) := by decide +kernel
theorem dX1_at_203 : decode cX1_at 203 = .ok (.iconst 4, 1) := by decide +kernel
theorem dX1_at_204 : decode cX1_at 204 = .ok (.iaload, 1) := by decide +kernel
theorem dX1_at_205 : decode cX1_at 205 = .ok (.isub, 1) := by decide +kernel
theorem dX1_at_206 : decode cX1_at 206 = .ok (.aload_n 0, 1) := by decide +kernel
theorem dX1_at_207 : decode cX1_at 207 = .ok (.getfield 30, 3) := by decide +kernel
theorem dX1_at_210 : decode cX1_at 210 = .ok (.iconst 2, 1) := by decide +kernel
theorem dX1_at_211 : decode cX1_at 211 = .ok (.iaload, 1) := by decide +kernel
theorem dX1_at_212 : decode cX1_at 212 = .ok (.iadd, 1) := by decide +kernel
theorem dX1_at_213 : decode cX1_at 213 = .ok (.aload_n 0, 1) := by decide +kernel
theorem dX1_at_214 : decode cX1_at 214 = .ok (.getfield 30, 3) := by decide +kernel
theorem dX1_at_217 : decode cX1_at 217 = .ok (.iconst 5, 1) := by decide +kernel
theorem dX1_at_218 : decode cX1_at 218 = .ok (.iaload, 1) := by decide +kernel
theorem dX1_at_219 : decode cX1_at 219 = .ok (.isub, 1) := by decide +kernel
theorem dX1_at_220 : decode cX1_at 220 = .ok (.ifCond .ne 33, 3) := by decide +kernel
theorem dX1_at_223 : decode cX1_at 223 = .ok (.aload_n 0, 1) := by decide +kernel
theorem dX1_at_224 : decode cX1_at 224 = .ok (.getfield 30, 3) := by decide +kernel
theorem dX1_at_227 : decode cX1_at 227 = .ok (.iconst 0, 1) := by decide +kernel
theorem dX1_at_228 : decode cX1_at 228 = .ok (.iaload, 1) := by decide +kernel
theorem dX1_at_229 : decode cX1_at 229 = .ok (.aload_n 0, 1) := by decide +kernel
theorem dX1_at_230 : decode cX1_at 230 = .ok (.getfield 30, 3) := by decide +kernel
theorem dX1_at_233 : decode cX1_at 233 = .ok (.iconst 3, 1) := by decide +kernel
theorem dX1_at_234 : decode cX1_at 234 = .ok (.iaload, 1) := by decide +kernel
theorem dX1_at_235 : decode cX1_at 235 = .ok (.isub, 1) := by decide +kernel
theorem dX1_at_236 : decode cX1_at 236 = .ok (.aload_n 0, 1) := by decide +kernel
theorem dX1_at_237 : decode cX1_at 237 = .ok (.getfield 30, 3) := by decide +kernel
theorem dX1_at_240 : decode cX1_at 240 = .ok (.iconst 2, 1) := by decide +kernel
theorem dX1_at_241 : decode cX1_at 241 = .ok (.iaload, 1) := by decide +kernel
theorem dX1_at_242 : decode cX1_at 242 = .ok (.isub, 1) := by decide +kernel
theorem dX1_at_243 : decode cX1_at 243 = .ok (.aload_n 0, 1) := by decide +kernel
theorem dX1_at_244 : decode cX1_at 244 = .ok (.getfield 30, 3) := by decide +kernel
theorem dX1_at_247 : decode cX1_at 247 = .ok (.iconst 5, 1) := by decide +kernel
theorem dX1_at_248 : decode cX1_at 248 = .ok (.iaload, 1) := by decide +kernel
theorem dX1_at_249 : decode cX1_at 249 = .ok (.iadd, 1) := by decide +kernel
theorem dX1_at_250 : decode cX1_at 250 = .ok (.goto 5, 3) := by decide +kernel
theorem dX1_at_253 : decode cX1_at 253 = .ok (.ldc 44, 2) := by decide +kernel
theorem dX1_at_255 : decode cX1_at 255 = .ok (.ireturn, 1) := by decide +kernel
set_option maxRecDepth 20000 in
theorem ggX1_stays_X1_isKind : GoodIn wsX1_stays wsX1_isKind := goodIn_r _ [5, 6, 7, 4, 8] (by decide +kernel) (by decide +kernel)
set_option maxRecDepth 20000 in
theorem gX1_stays_X1_isKind : GoodIn wsX1_stays (va_wsS RX1 56 yX1_isKind wsX1_isKind) := goodIn_app (goodIn_of _ (by decide +kernel)) ggX1_stays_X1_isKind
set_option maxRecDepth 20000 in
theorem ggX1_stays_X1_in : GoodIn wsX1_stays wsX1_in := goodIn_r _ [8] (by decide +kernel) (by decide +kernel)
set_option maxRecDepth 20000 in
theorem gX1_stays_X1_in : GoodIn wsX1_stays (va_wsS RX1 36 yX1_in wsX1_in) := goodIn_app (goodIn_of _ (by decide +kernel)) ggX1_stays_X1_in
set_option maxRecDepth 20000 in
theorem ggX1_stays_X1_isHeap : GoodIn wsX1_stays wsX1_isHeap := goodIn_r _ [12, 1, 13, 6, 7, 4, 8, 14, 15, 16, 31, 32, 33, 34, 35, 36, 37, 38, 39] (by decide +kernel) (by decide +kernel)
set_option maxRecDepth 20000 in
theorem gX1_stays_X1_isHeap : GoodIn wsX1_stays (wsV RX1 49 RX1 yX1_isHeap wsX1_isHeap) := goodIn_app (goodIn_of _ (by decide +kernel)) ggX1_stays_X1_isHeap
set_option maxRecDepth 20000 in
theorem ggX1_stays_X1_orbitOf : GoodIn wsX1_stays wsX1_orbitOf := goodIn_r _ [20, 21, 22, 23, 4, 24, 25, 26, 1, 13, 27, 28, 29, 30, 9, 10, 11, 12, 6, 7, 8, 14, 15, 16, 31, 32, 33, 34, 35, 36, 37, 38, 39] (by decide +kernel) (by decide +kernel)
set_option maxRecDepth 20000 in
theorem gX1_stays_X1_orbitOf : GoodIn wsX1_stays (wsV RX1 62 RX1 yX1_orbitOf wsX1_orbitOf) := goodIn_app (goodIn_of _ (by decide +kernel)) ggX1_stays_X1_orbitOf
theorem dX1_stays_0 : decode cX1_stays 0 = .ok (.iload_n 1, 1) := by decide +kernel
theorem dX1_stays_1 : decode cX1_stays 1 = .ok (.invokestatic 56, 3) := by decide +kernel
theorem dX1_stays_4 : decode cX1_stays 4 = .ok (.ifCond .eq 14, 3) := by decide +kernel
theorem dX1_stays_7 : decode cX1_stays 7 = .ok (.iload_n 2, 1) := by decide +kernel
theorem dX1_stays_8 : decode cX1_stays 8 = .ok (.iconst 0, 1) := by decide +kernel
theorem dX1_stays_9 : decode cX1_stays 9 = .ok (.sipush 1000, 3) := by decide +kernel
theorem dX1_stays_12 : decode cX1_stays 12 = .ok (.invokestatic 36, 3) := by decide +kernel
theorem dX1_stays_15 : decode cX1_stays 15 = .ok (.ifCond .ne 5, 3) := by decide +kernel
theorem dX1_stays_18 : decode cX1_stays 18 = .ok (.iconst (-1), 1) := by decide +kernel
theorem dX1_stays_19 : decode cX1_stays 19 = .ok (.ireturn, 1) := by decide +kernel
theorem dX1_stays_20 : decode cX1_stays 20 = .ok (.iconst 0, 1) := by decide +kernel
theorem dX1_stays_21 : decode cX1_stays 21 = .ok (.istore_n 3, 1) := by decide +kernel
theorem dX1_stays_22 : decode cX1_stays 22 = .ok (.iconst 0, 1) := by decide +kernel
theorem dX1_stays_23 : decode cX1_stays 23 = .ok (.istore 4, 2) := by decide +kernel
theorem dX1_stays_25 : decode cX1_stays 25 = .ok (.iload 4, 2) := by decide +kernel
theorem dX1_stays_27 : decode cX1_stays 27 = .ok (.iconst 1, 1) := by decide +kernel
theorem dX1_stays_28 : decode cX1_stays 28 = .ok (.aload_n 0, 1) := by decide +kernel
theorem dX1_stays_29 : decode cX1_stays 29 = .ok (.getfield 7, 3) := by decide +kernel
theorem dX1_stays_32 : decode cX1_stays 32 = .ok (.ishl, 1) := by decide +kernel
theorem dX1_stays_33 : decode cX1_stays 33 = .ok (.if_icmp .ge 38, 3) := by decide +kernel
theorem dX1_stays_36 : decode cX1_stays 36 = .ok (.iload_n 3, 1) := by decide +kernel
theorem dX1_stays_37 : decode cX1_stays 37 = .ok (.aload_n 0, 1) := by decide +kernel
theorem dX1_stays_38 : decode cX1_stays 38 = .ok (.iload 4, 2) := by decide +kernel
theorem dX1_stays_40 : decode cX1_stays 40 = .ok (.invokevirtual 49, 3) := by decide +kernel
theorem dX1_stays_43 : decode cX1_stays 43 = .ok (.ifCond .eq 19, 3) := by decide +kernel
theorem dX1_stays_46 : decode cX1_stays 46 = .ok (.iload_n 2, 1) := by decide +kernel
theorem dX1_stays_47 : decode cX1_stays 47 = .ok (.aload_n 0, 1) := by decide +kernel
theorem dX1_stays_48 : decode cX1_stays 48 = .ok (.iload 4, 2) := by decide +kernel
theorem dX1_stays_50 : decode cX1_stays 50 = .ok (.iload_n 1, 1) := by decide +kernel
theorem dX1_stays_51 : decode cX1_stays 51 = .ok (.invokevirtual 62, 3) := by decide +kernel
theorem dX1_stays_54 : decode cX1_stays 54 = .ok (.irem, 1) := by decide +kernel
theorem dX1_stays_55 : decode cX1_stays 55 = .ok (.ifCond .ne 7, 3) := by decide +kernel
theorem dX1_stays_58 : decode cX1_stays 58 = .ok (.iconst 1, 1) := by decide +kernel
theorem dX1_stays_59 : decode cX1_stays 59 = .ok (.goto 4, 3) := by decide +kernel
theorem dX1_stays_62 : decode cX1_stays 62 = .ok (.iconst 0, 1) := by decide +kernel
theorem dX1_stays_63 : decode cX1_stays 63 = .ok (.iadd, 1) := by decide +kernel
theorem dX1_stays_64 : decode cX1_stays 64 = .ok (.istore_n 3, 1) := by decide +kernel
theorem dX1_stays_65 : decode cX1_stays 65 = .ok (.iinc 4 1, 3) := by decide +kernel
theorem dX1_stays_68 : decode cX1_stays 68 = .ok (.goto (-43), 3) := by decide +kernel
theorem dX1_stays_71 : decode cX1_stays 71 = .ok (.iload_n 3, 1) := by decide +kernel
theorem dX1_stays_72 : decode cX1_stays 72 = .ok (.ireturn, 1) := by decide +kernel
theorem dX1_count_0 : decode cX1_count 0 = .ok (.iconst 0, 1) := by decide +kernel
theorem dX1_count_1 : decode cX1_count 1 = .ok (.istore_n 2, 1) := by decide +kernel
theorem dX1_count_2 : decode cX1_count 2 = .ok (.iload_n 1, 1) := by decide +kernel
theorem dX1_count_3 : decode cX1_count 3 = .ok (.tableswitch 68 0 2 #[25, 30, 35], 25) := by decide +kernel
theorem dX1_count_28 : decode cX1_count 28 = .ok (.aload_n 0, 1) := by decide +kernel
theorem dX1_count_29 : decode cX1_count 29 = .ok (.getfield 7, 3) := by decide +kernel
theorem dX1_count_32 : decode cX1_count 32 = .ok (.ireturn, 1) := by decide +kernel
theorem dX1_count_33 : decode cX1_count 33 = .ok (.aload_n 0, 1) := by decide +kernel
theorem dX1_count_34 : decode cX1_count 34 = .ok (.getfield 33, 3) := by decide +kernel
theorem dX1_count_37 : decode cX1_count 37 = .ok (.ireturn, 1) := by decide +kernel
theorem dX1_count_38 : decode cX1_count 38 = .ok (.iconst 0, 1) := by decide +kernel
theorem dX1_count_39 : decode cX1_count 39 = .ok (.istore_n 3, 1) := by decide +kernel
theorem dX1_count_40 : decode cX1_count 40 = .ok (.iload_n 3, 1) := by decide +kernel
theorem dX1_count_41 : decode cX1_count 41 = .ok (.bipush 64, 2) := by decide +kernel
theorem dX1_count_43 : decode cX1_count 43 = .ok (.if_icmp .ge 26, 3) := by decide +kernel
theorem dX1_count_46 : decode cX1_count 46 = .ok (.iload_n 2, 1) := by decide +kernel
theorem dX1_count_47 : decode cX1_count 47 = .ok (.aload_n 0, 1) := by decide +kernel
theorem dX1_count_48 : decode cX1_count 48 = .ok (.getfield 13, 3) := by decide +kernel
theorem dX1_count_51 : decode cX1_count 51 = .ok (.iload_n 3, 1) := by decide +kernel
theorem dX1_count_52 : decode cX1_count 52 = .ok (.baload, 1) := by decide +kernel
theorem dX1_count_53 : decode cX1_count 53 = .ok (.ifCond .eq 7, 3) := by decide +kernel
theorem dX1_count_56 : decode cX1_count 56 = .ok (.iconst 1, 1) := by decide +kernel
theorem dX1_count_57 : decode cX1_count 57 = .ok (.goto 4, 3) := by decide +kernel
theorem dX1_count_60 : decode cX1_count 60 = .ok (.iconst 0, 1) := by decide +kernel
theorem dX1_count_61 : decode cX1_count 61 = .ok (.iadd, 1) := by decide +kernel
theorem dX1_count_62 : decode cX1_count 62 = .ok (.istore_n 2, 1) := by decide +kernel
theorem dX1_count_63 : decode cX1_count 63 = .ok (.iinc 3 1, 3) := by decide +kernel
theorem dX1_count_66 : decode cX1_count 66 = .ok (.goto (-26), 3) := by decide +kernel
theorem dX1_count_69 : decode cX1_count 69 = .ok (.iload_n 2, 1) := by decide +kernel
theorem dX1_count_70 : decode cX1_count 70 = .ok (.ireturn, 1) := by decide +kernel
theorem dX1_count_71 : decode cX1_count 71 = .ok (.iconst (-1), 1) := by decide +kernel
theorem dX1_count_72 : decode cX1_count 72 = .ok (.ireturn, 1) := by decide +kernel
theorem dX1_trace_0 : decode cX1_trace 0 = .ok (.aload_n 0, 1) := by decide +kernel
theorem dX1_trace_1 : decode cX1_trace 1 = .ok (.getfield 71, 3) := by decide +kernel
theorem dX1_trace_4 : decode cX1_trace 4 = .ok (.lreturn, 1) := by decide +kernel
theorem dJ6_bitCount_0f7a4_0 : decode cJ6_bitCount_0f7a4 0 = .ok (.iload_n 0, 1) := by decide +kernel
theorem dJ6_bitCount_0f7a4_1 : decode cJ6_bitCount_0f7a4 1 = .ok (.iload_n 0, 1) := by decide +kernel
theorem dJ6_bitCount_0f7a4_2 : decode cJ6_bitCount_0f7a4 2 = .ok (.iconst 1, 1) := by decide +kernel
theorem dJ6_bitCount_0f7a4_3 : decode cJ6_bitCount_0f7a4 3 = .ok (.iushr, 1) := by decide +kernel
theorem dJ6_bitCount_0f7a4_4 : decode cJ6_bitCount_0f7a4 4 = .ok (.ldc_w 265, 3) := by decide +kernel
theorem dJ6_bitCount_0f7a4_7 : decode cJ6_bitCount_0f7a4 7 = .ok (.iand, 1) := by decide +kernel
theorem dJ6_bitCount_0f7a4_8 : decode cJ6_bitCount_0f7a4 8 = .ok (.isub, 1) := by decide +kernel
theorem dJ6_bitCount_0f7a4_9 : decode cJ6_bitCount_0f7a4 9 = .ok (.istore_n 0, 1) := by decide +kernel
theorem dJ6_bitCount_0f7a4_10 : decode cJ6_bitCount_0f7a4 10 = .ok (.iload_n 0, 1) := by decide +kernel
theorem dJ6_bitCount_0f7a4_11 : decode cJ6_bitCount_0f7a4 11 = .ok (.ldc_w 266, 3) := by decide +kernel
theorem dJ6_bitCount_0f7a4_14 : decode cJ6_bitCount_0f7a4 14 = .ok (.iand, 1) := by decide +kernel
theorem dJ6_bitCount_0f7a4_15 : decode cJ6_bitCount_0f7a4 15 = .ok (.iload_n 0, 1) := by decide +kernel
theorem dJ6_bitCount_0f7a4_16 : decode cJ6_bitCount_0f7a4 16 = .ok (.iconst 2, 1) := by decide +kernel
theorem dJ6_bitCount_0f7a4_17 : decode cJ6_bitCount_0f7a4 17 = .ok (.iushr, 1) := by decide +kernel
theorem dJ6_bitCount_0f7a4_18 : decode cJ6_bitCount_0f7a4 18 = .ok (.ldc_w 266, 3) := by decide +kernel
theorem dJ6_bitCount_0f7a4_21 : decode cJ6_bitCount_0f7a4 21 = .ok (.iand, 1) := by decide +kernel
theorem dJ6_bitCount_0f7a4_22 : decode cJ6_bitCount_0f7a4 22 = .ok (.iadd, 1) := by decide +kernel
theorem dJ6_bitCount_0f7a4_23 : decode cJ6_bitCount_0f7a4 23 = .ok (.istore_n 0, 1) := by decide +kernel
theorem dJ6_bitCount_0f7a4_24 : decode cJ6_bitCount_0f7a4 24 = .ok (.iload_n 0, 1) := by decide +kernel
theorem dJ6_bitCount_0f7a4_25 : decode cJ6_bitCount_0f7a4 25 = .ok (.iload_n 0, 1) := by decide +kernel
theorem dJ6_bitCount_0f7a4_26 : decode cJ6_bitCount_0f7a4 26 = .ok (.iconst 4, 1) := by decide +kernel
theorem dJ6_bitCount_0f7a4_27 : decode cJ6_bitCount_0f7a4 27 = .ok (.iushr, 1) := by decide +kernel
theorem dJ6_bitCount_0f7a4_28 : decode cJ6_bitCount_0f7a4 28 = .ok (.iadd, 1) := by decide +kernel
theorem dJ6_bitCount_0f7a4_29 : decode cJ6_bitCount_0f7a4 29 = .ok (.ldc_w 267, 3) := by decide +kernel
theorem dJ6_bitCount_0f7a4_32 : decode cJ6_bitCount_0f7a4 32 = .ok (.iand, 1) := by decide +kernel
theorem dJ6_bitCount_0f7a4_33 : decode cJ6_bitCount_0f7a4 33 = .ok (.istore_n 0, 1) := by decide +kernel
theorem dJ6_bitCount_0f7a4_34 : decode cJ6_bitCount_0f7a4 34 = .ok (.iload_n 0, 1) := by decide +kernel
theorem dJ6_bitCount_0f7a4_35 : decode cJ6_bitCount_0f7a4 35 = .ok (.iload_n 0, 1) := by decide +kernel
theorem dJ6_bitCount_0f7a4_36 : decode cJ6_bitCount_0f7a4 36 = .ok (.bipush 8, 2) := by decide +kernel
theorem dJ6_bitCount_0f7a4_38 : decode cJ6_bitCount_0f7a4 38 = .ok (.iushr, 1) := by decide +kernel
theorem dJ6_bitCount_0f7a4_39 : decode cJ6_bitCount_0f7a4 39 = .ok (.iadd, 1) := by decide +kernel
theorem dJ6_bitCount_0f7a4_40 : decode cJ6_bitCount_0f7a4 40 = .ok (.istore_n 0, 1) := by decide +kernel
theorem dJ6_bitCount_0f7a4_41 : decode cJ6_bitCount_0f7a4 41 = .ok (.iload_n 0, 1) := by decide +kernel
theorem dJ6_bitCount_0f7a4_42 : decode cJ6_bitCount_0f7a4 42 = .ok (.iload_n 0, 1) := by decide +kernel
theorem dJ6_bitCount_0f7a4_43 : decode cJ6_bitCount_0f7a4 43 = .ok (.bipush 16, 2) := by decide +kernel
theorem dJ6_bitCount_0f7a4_45 : decode cJ6_bitCount_0f7a4 45 = .ok (.iushr, 1) := by decide +kernel
theorem dJ6_bitCount_0f7a4_46 : decode cJ6_bitCount_0f7a4 46 = .ok (.iadd, 1) := by decide +kernel
theorem dJ6_bitCount_0f7a4_47 : decode cJ6_bitCount_0f7a4 47 = .ok (.istore_n 0, 1) := by decide +kernel
theorem dJ6_bitCount_0f7a4_48 : decode cJ6_bitCount_0f7a4 48 = .ok (.iload_n 0, 1) := by decide +kernel
theorem dJ6_bitCount_0f7a4_49 : decode cJ6_bitCount_0f7a4 49 = .ok (.bipush 63, 2) := by decide +kernel
theorem dJ6_bitCount_0f7a4_51 : decode cJ6_bitCount_0f7a4 51 = .ok (.iand, 1) := by decide +kernel
theorem dJ6_bitCount_0f7a4_52 : decode cJ6_bitCount_0f7a4 52 = .ok (.ireturn, 1) := by decide +kernel
theorem dJ9_abs_0f7a4_0 : decode cJ9_abs_0f7a4 0 = .ok (.iload_n 0, 1) := by decide +kernel
theorem dJ9_abs_0f7a4_1 : decode cJ9_abs_0f7a4 1 = .ok (.ifCond .ge 8, 3) := by decide +kernel
theorem dJ9_abs_0f7a4_4 : decode cJ9_abs_0f7a4 4 = .ok (.iload_n 0, 1) := by decide +kernel
theorem dJ9_abs_0f7a4_5 : decode cJ9_abs_0f7a4 5 = .ok (.ineg, 1) := by decide +kernel
theorem dJ9_abs_0f7a4_6 : decode cJ9_abs_0f7a4 6 = .ok (.goto 4, 3) := by decide +kernel
theorem dJ9_abs_0f7a4_9 : decode cJ9_abs_0f7a4 9 = .ok (.iload_n 0, 1) := by decide +kernel
theorem dJ9_abs_0f7a4_10 : decode cJ9_abs_0f7a4 10 = .ok (.ireturn, 1) := by decide +kernel
theorem dJ9_max_7cf53_0 : decode cJ9_max_7cf53 0 = .ok (.iload_n 0, 1) := by decide +kernel
theorem dJ9_max_7cf53_1 : decode cJ9_max_7cf53 1 = .ok (.iload_n 1, 1) := by decide +kernel
theorem dJ9_max_7cf53_2 : decode cJ9_max_7cf53 2 = .ok (.if_icmp .lt 7, 3) := by decide +kernel
theorem dJ9_max_7cf53_5 : decode cJ9_max_7cf53 5 = .ok (.iload_n 0, 1) := by decide +kernel
theorem dJ9_max_7cf53_6 : decode cJ9_max_7cf53 6 = .ok (.goto 4, 3) := by decide +kernel
theorem dJ9_max_7cf53_9 : decode cJ9_max_7cf53 9 = .ok (.iload_n 1, 1) := by decide +kernel
theorem dJ9_max_7cf53_10 : decode cJ9_max_7cf53 10 = .ok (.ireturn, 1) := by decide +kernel
theorem dJ9_min_7cf53_0 : decode cJ9_min_7cf53 0 = .ok (.iload_n 0, 1) := by decide +kernel
theorem dJ9_min_7cf53_1 : decode cJ9_min_7cf53 1 = .ok (.iload_n 1, 1) := by decide +kernel
theorem dJ9_min_7cf53_2 : decode cJ9_min_7cf53 2 = .ok (.if_icmp .gt 7, 3) := by decide +kernel
theorem dJ9_min_7cf53_5 : decode cJ9_min_7cf53 5 = .ok (.iload_n 0, 1) := by decide +kernel
theorem dJ9_min_7cf53_6 : decode cJ9_min_7cf53 6 = .ok (.goto 4, 3) := by decide +kernel
theorem dJ9_min_7cf53_9 : decode cJ9_min_7cf53 9 = .ok (.iload_n 1, 1) := by decide +kernel
theorem dJ9_min_7cf53_10 : decode cJ9_min_7cf53 10 = .ok (.ireturn, 1) := by decide +kernel
