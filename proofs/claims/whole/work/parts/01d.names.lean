theorem dX1_isHeap_2 : decode cX1_isHeap 2 = .ok (.iconst 1, 1) := by decide +kernel
theorem dX1_isHeap_3 : decode cX1_isHeap 3 = .ok (.aload_n 0, 1) := by decide +kernel
theorem dX1_isHeap_4 : decode cX1_isHeap 4 = .ok (.getfield 7, 3) := by decide +kernel
theorem dX1_isHeap_7 : decode cX1_isHeap 7 = .ok (.ishl, 1) := by decide +kernel
theorem dX1_isHeap_8 : decode cX1_isHeap 8 = .ok (.iconst 1, 1) := by decide +kernel
theorem dX1_isHeap_9 : decode cX1_isHeap 9 = .ok (.isub, 1) := by decide +kernel
theorem dX1_isHeap_10 : decode cX1_isHeap 10 = .ok (.invokestatic 36, 3) := by decide +kernel
theorem dX1_isHeap_13 : decode cX1_isHeap 13 = .ok (.ifCond .ne 5, 3) := by decide +kernel
theorem dX1_isHeap_16 : decode cX1_isHeap 16 = .ok (.iconst 0, 1) := by decide +kernel
theorem dX1_isHeap_17 : decode cX1_isHeap 17 = .ok (.ireturn, 1) := by decide +kernel
theorem dX1_isHeap_18 : decode cX1_isHeap 18 = .ok (.iconst 1, 1) := by decide +kernel
theorem dX1_isHeap_19 : decode cX1_isHeap 19 = .ok (.istore_n 2, 1) := by decide +kernel
theorem dX1_isHeap_20 : decode cX1_isHeap 20 = .ok (.iconst 0, 1) := by decide +kernel
theorem dX1_isHeap_21 : decode cX1_isHeap 21 = .ok (.istore_n 3, 1) := by decide +kernel
theorem dX1_isHeap_22 : decode cX1_isHeap 22 = .ok (.iload_n 3, 1) := by decide +kernel
theorem dX1_isHeap_23 : decode cX1_isHeap 23 = .ok (.aload_n 0, 1) := by decide +kernel
theorem dX1_isHeap_24 : decode cX1_isHeap 24 = .ok (.getfield 7, 3) := by decide +kernel
theorem dX1_isHeap_27 : decode cX1_isHeap 27 = .ok (.if_icmp .ge 69, 3) := by decide +kernel
theorem dX1_isHeap_30 : decode cX1_isHeap 30 = .ok (.iconst 0, 1) := by decide +kernel
theorem dX1_isHeap_31 : decode cX1_isHeap 31 = .ok (.istore 4, 2) := by decide +kernel
theorem dX1_isHeap_33 : decode cX1_isHeap 33 = .ok (.iload 4, 2) := by decide +kernel
theorem dX1_isHeap_35 : decode cX1_isHeap 35 = .ok (.aload_n 0, 1) := by decide +kernel
theorem dX1_isHeap_36 : decode cX1_isHeap 36 = .ok (.getfield 7, 3) := by decide +kernel
theorem dX1_isHeap_39 : decode cX1_isHeap 39 = .ok (.if_icmp .ge 51, 3) := by decide +kernel
theorem dX1_isHeap_42 : decode cX1_isHeap 42 = .ok (.iload_n 2, 1) := by decide +kernel
theorem dX1_isHeap_43 : decode cX1_isHeap 43 = .ok (.ifCond .eq 39, 3) := by decide +kernel
theorem dX1_isHeap_46 : decode cX1_isHeap 46 = .ok (.aload_n 0, 1) := by decide +kernel
theorem dX1_isHeap_47 : decode cX1_isHeap 47 = .ok (.getfield 13, 3) := by decide +kernel
theorem dX1_isHeap_50 : decode cX1_isHeap 50 = .ok (.bipush 8, 2) := by decide +kernel
theorem dX1_isHeap_52 : decode cX1_isHeap 52 = .ok (.iload_n 3, 1) := by decide +kernel
theorem dX1_isHeap_53 : decode cX1_isHeap 53 = .ok (.imul, 1) := by decide +kernel
theorem dX1_isHeap_54 : decode cX1_isHeap 54 = .ok (.iload 4, 2) := by decide +kernel
theorem dX1_isHeap_56 : decode cX1_isHeap 56 = .ok (.iadd, 1) := by decide +kernel
theorem dX1_isHeap_57 : decode cX1_isHeap 57 = .ok (.baload, 1) := by decide +kernel
theorem dX1_isHeap_58 : decode cX1_isHeap 58 = .ok (.ifCond .eq 20, 3) := by decide +kernel
theorem dX1_isHeap_61 : decode cX1_isHeap 61 = .ok (.iload_n 1, 1) := by decide +kernel
theorem dX1_isHeap_62 : decode cX1_isHeap 62 = .ok (.iload 4, 2) := by decide +kernel
theorem dX1_isHeap_64 : decode cX1_isHeap 64 = .ok (.invokestatic 45, 3) := by decide +kernel
theorem dX1_isHeap_67 : decode cX1_isHeap 67 = .ok (.ifCond .eq 11, 3) := by decide +kernel
theorem dX1_isHeap_70 : decode cX1_isHeap 70 = .ok (.iload_n 1, 1) := by decide +kernel
theorem dX1_isHeap_71 : decode cX1_isHeap 71 = .ok (.iload_n 3, 1) := by decide +kernel
theorem dX1_isHeap_72 : decode cX1_isHeap 72 = .ok (.invokestatic 45, 3) := by decide +kernel
theorem dX1_isHeap_75 : decode cX1_isHeap 75 = .ok (.ifCond .eq 7, 3) := by decide +kernel
theorem dX1_isHeap_78 : decode cX1_isHeap 78 = .ok (.iconst 1, 1) := by decide +kernel
theorem dX1_isHeap_79 : decode cX1_isHeap 79 = .ok (.goto 4, 3) := by decide +kernel
theorem dX1_isHeap_82 : decode cX1_isHeap 82 = .ok (.iconst 0, 1) := by decide +kernel
theorem dX1_isHeap_83 : decode cX1_isHeap 83 = .ok (.istore_n 2, 1) := by decide +kernel
theorem dX1_isHeap_84 : decode cX1_isHeap 84 = .ok (.iinc 4 1, 3) := by decide +kernel
theorem dX1_isHeap_87 : decode cX1_isHeap 87 = .ok (.goto (-54), 3) := by decide +kernel
theorem dX1_isHeap_90 : decode cX1_isHeap 90 = .ok (.iinc 3 1, 3) := by decide +kernel
theorem dX1_isHeap_93 : decode cX1_isHeap 93 = .ok (.goto (-71), 3) := by decide +kernel
theorem dX1_isHeap_96 : decode cX1_isHeap 96 = .ok (.iload_n 2, 1) := by decide +kernel
theorem dX1_isHeap_97 : decode cX1_isHeap 97 = .ok (.ireturn, 1) := by decide +kernel
set_option maxRecDepth 20000 in
theorem ggX1_heap_X1_in : GoodIn wsX1_heap wsX1_in := goodIn_r _ [5] (by decide +kernel) (by decide +kernel)
set_option maxRecDepth 20000 in
theorem gX1_heap_X1_in : GoodIn wsX1_heap (va_wsS RX1 36 yX1_in wsX1_in) := goodIn_app (goodIn_of _ (by decide +kernel)) ggX1_heap_X1_in
set_option maxRecDepth 20000 in
theorem ggX1_heap_X1_isHeap : GoodIn wsX1_heap wsX1_isHeap := goodIn_r _ [9, 1, 10, 2, 3, 4, 5, 11, 12, 13, 14, 15, 16, 17, 18, 19, 20, 21, 22] (by decide +kernel) (by decide +kernel)
set_option maxRecDepth 20000 in
theorem gX1_heap_X1_isHeap : GoodIn wsX1_heap (wsV RX1 49 RX1 yX1_isHeap wsX1_isHeap) := goodIn_app (goodIn_of _ (by decide +kernel)) ggX1_heap_X1_isHeap
theorem dX1_heap_0 : decode cX1_heap 0 = .ok (.iload_n 1, 1) := by decide +kernel
theorem dX1_heap_1 : decode cX1_heap 1 = .ok (.iconst 0, 1) := by decide +kernel
theorem dX1_heap_2 : decode cX1_heap 2 = .ok (.iconst 1, 1) := by decide +kernel
theorem dX1_heap_3 : decode cX1_heap 3 = .ok (.aload_n 0, 1) := by decide +kernel
theorem dX1_heap_4 : decode cX1_heap 4 = .ok (.getfield 7, 3) := by decide +kernel
theorem dX1_heap_7 : decode cX1_heap 7 = .ok (.ishl, 1) := by decide +kernel
theorem dX1_heap_8 : decode cX1_heap 8 = .ok (.iconst 1, 1) := by decide +kernel
theorem dX1_heap_9 : decode cX1_heap 9 = .ok (.isub, 1) := by decide +kernel
theorem dX1_heap_10 : decode cX1_heap 10 = .ok (.invokestatic 36, 3) := by decide +kernel
theorem dX1_heap_13 : decode cX1_heap 13 = .ok (.ifCond .ne 7, 3) := by decide +kernel
theorem dX1_heap_16 : decode cX1_heap 16 = .ok (.iconst (-1), 1) := by decide +kernel
theorem dX1_heap_17 : decode cX1_heap 17 = .ok (.goto 16, 3) := by decide +kernel
theorem dX1_heap_20 : decode cX1_heap 20 = .ok (.aload_n 0, 1) := by decide +kernel
theorem dX1_heap_21 : decode cX1_heap 21 = .ok (.iload_n 1, 1) := by decide +kernel
theorem dX1_heap_22 : decode cX1_heap 22 = .ok (.invokevirtual 49, 3) := by decide +kernel
theorem dX1_heap_25 : decode cX1_heap 25 = .ok (.ifCond .eq 7, 3) := by decide +kernel
theorem dX1_heap_28 : decode cX1_heap 28 = .ok (.iconst 1, 1) := by decide +kernel
theorem dX1_heap_29 : decode cX1_heap 29 = .ok (.goto 4, 3) := by decide +kernel
theorem dX1_heap_32 : decode cX1_heap 32 = .ok (.iconst 0, 1) := by decide +kernel
theorem dX1_heap_33 : decode cX1_heap 33 = .ok (.ireturn, 1) := by decide +kernel
set_option maxRecDepth 20000 in
theorem ggX1_many_X1_isHeap : GoodIn wsX1_many wsX1_isHeap := goodIn_r _ [6, 1, 7, 8, 9, 5, 10, 11, 12, 13, 14, 15, 16, 17, 18, 19, 20, 21, 22] (by decide +kernel) (by decide +kernel)
set_option maxRecDepth 20000 in
theorem gX1_many_X1_isHeap : GoodIn wsX1_many (wsV RX1 49 RX1 yX1_isHeap wsX1_isHeap) := goodIn_app (goodIn_of _ (by decide +kernel)) ggX1_many_X1_isHeap
theorem dX1_many_0 : decode cX1_many 0 = .ok (.iconst 0, 1) := by decide +kernel
theorem dX1_many_1 : decode cX1_many 1 = .ok (.istore_n 1, 1) := by decide +kernel
theorem dX1_many_2 : decode cX1_many 2 = .ok (.iconst 0, 1) := by decide +kernel
theorem dX1_many_3 : decode cX1_many 3 = .ok (.istore_n 2, 1) := by decide +kernel
theorem dX1_many_4 : decode cX1_many 4 = .ok (.iload_n 2, 1) := by decide +kernel
theorem dX1_many_5 : decode cX1_many 5 = .ok (.iconst 1, 1) := by decide +kernel
theorem dX1_many_6 : decode cX1_many 6 = .ok (.aload_n 0, 1) := by decide +kernel
theorem dX1_many_7 : decode cX1_many 7 = .ok (.getfield 7, 3) := by decide +kernel
theorem dX1_many_10 : decode cX1_many 10 = .ok (.ishl, 1) := by decide +kernel
theorem dX1_many_11 : decode cX1_many 11 = .ok (.if_icmp .ge 25, 3) := by decide +kernel
theorem dX1_many_14 : decode cX1_many 14 = .ok (.iload_n 1, 1) := by decide +kernel
theorem dX1_many_15 : decode cX1_many 15 = .ok (.aload_n 0, 1) := by decide +kernel
theorem dX1_many_16 : decode cX1_many 16 = .ok (.iload_n 2, 1) := by decide +kernel
theorem dX1_many_17 : decode cX1_many 17 = .ok (.invokevirtual 49, 3) := by decide +kernel
theorem dX1_many_20 : decode cX1_many 20 = .ok (.ifCond .eq 7, 3) := by decide +kernel
theorem dX1_many_23 : decode cX1_many 23 = .ok (.iconst 1, 1) := by decide +kernel
theorem dX1_many_24 : decode cX1_many 24 = .ok (.goto 4, 3) := by decide +kernel
theorem dX1_many_27 : decode cX1_many 27 = .ok (.iconst 0, 1) := by decide +kernel
theorem dX1_many_28 : decode cX1_many 28 = .ok (.iadd, 1) := by decide +kernel
theorem dX1_many_29 : decode cX1_many 29 = .ok (.istore_n 1, 1) := by decide +kernel
theorem dX1_many_30 : decode cX1_many 30 = .ok (.iinc 2 1, 3) := by decide +kernel
theorem dX1_many_33 : decode cX1_many 33 = .ok (.goto (-29), 3) := by decide +kernel
theorem dX1_many_36 : decode cX1_many 36 = .ok (.iload_n 1, 1) := by decide +kernel
theorem dX1_many_37 : decode cX1_many 37 = .ok (.ireturn, 1) := by decide +kernel
set_option maxRecDepth 20000 in
theorem ggX1_flipped_X1_isHeap : GoodIn wsX1_flipped wsX1_isHeap := goodIn_r _ [5, 6, 7, 8, 9, 4, 10, 11, 12, 13, 14, 15, 16, 17, 18, 19, 20, 21, 22] (by decide +kernel) (by decide +kernel)
set_option maxRecDepth 20000 in
theorem gX1_flipped_X1_isHeap : GoodIn wsX1_flipped (wsV RX1 49 RX1 yX1_isHeap wsX1_isHeap) := goodIn_app (goodIn_of _ (by decide +kernel)) ggX1_flipped_X1_isHeap
theorem dX1_flipped_0 : decode cX1_flipped 0 = .ok (.iload_n 1, 1) := by decide +kernel
theorem dX1_flipped_1 : decode cX1_flipped 1 = .ok (.iconst 1, 1) := by decide +kernel
theorem dX1_flipped_2 : decode cX1_flipped 2 = .ok (.iload_n 2, 1) := by decide +kernel
theorem dX1_flipped_3 : decode cX1_flipped 3 = .ok (.ishl, 1) := by decide +kernel
theorem dX1_flipped_4 : decode cX1_flipped 4 = .ok (.ixor, 1) := by decide +kernel
theorem dX1_flipped_5 : decode cX1_flipped 5 = .ok (.istore_n 3, 1) := by decide +kernel
theorem dX1_flipped_6 : decode cX1_flipped 6 = .ok (.aload_n 0, 1) := by decide +kernel
theorem dX1_flipped_7 : decode cX1_flipped 7 = .ok (.iload_n 3, 1) := by decide +kernel
theorem dX1_flipped_8 : decode cX1_flipped 8 = .ok (.invokevirtual 49, 3) := by decide +kernel
theorem dX1_flipped_11 : decode cX1_flipped 11 = .ok (.ifCond .eq 7, 3) := by decide +kernel
theorem dX1_flipped_14 : decode cX1_flipped 14 = .ok (.iload_n 3, 1) := by decide +kernel
theorem dX1_flipped_15 : decode cX1_flipped 15 = .ok (.goto 4, 3) := by decide +kernel
theorem dX1_flipped_18 : decode cX1_flipped 18 = .ok (.iload_n 1, 1) := by decide +kernel
theorem dX1_flipped_19 : decode cX1_flipped 19 = .ok (.ireturn, 1) := by decide +kernel
set_option maxRecDepth 20000 in
theorem ggX1_flip_X1_isHeap : GoodIn wsX1_flip wsX1_isHeap := goodIn_r _ [5, 6, 7, 8, 9, 4, 10, 11, 12, 13, 22, 23, 24, 25, 26, 27, 28, 29, 30] (by decide +kernel) (by decide +kernel)
set_option maxRecDepth 20000 in
theorem gX1_flip_X1_isHeap : GoodIn wsX1_flip (wsV RX1 49 RX1 yX1_isHeap wsX1_isHeap) := goodIn_app (goodIn_of _ (by decide +kernel)) ggX1_flip_X1_isHeap
set_option maxRecDepth 20000 in
theorem ggX1_flip_X1_isThing : GoodIn wsX1_flip wsX1_isThing := goodIn_r _ [17, 6, 8, 9, 4, 10, 22, 23, 24, 25, 26, 27, 28, 29, 30] (by decide +kernel) (by decide +kernel)
set_option maxRecDepth 20000 in
theorem gX1_flip_X1_isThing : GoodIn wsX1_flip (wsV RX1 40 RX1 yX1_isThing wsX1_isThing) := goodIn_app (goodIn_of _ (by decide +kernel)) ggX1_flip_X1_isThing
set_option maxRecDepth 20000 in
theorem ggX1_flip_X1_flipped : GoodIn wsX1_flip wsX1_flipped := goodIn_r _ [21, 1, 2, 3, 4, 5, 6, 7, 8, 9, 10, 11, 12, 13, 22, 23, 24, 25, 26, 27, 28, 29, 30] (by decide +kernel) (by decide +kernel)
set_option maxRecDepth 20000 in
theorem gX1_flip_X1_flipped : GoodIn wsX1_flip (wsV RX1 52 RX1 yX1_flipped wsX1_flipped) := goodIn_app (goodIn_of _ (by decide +kernel)) ggX1_flip_X1_flipped
theorem dX1_flip_0 : decode cX1_flip 0 = .ok (.aload_n 0, 1) := by decide +kernel
theorem dX1_flip_1 : decode cX1_flip 1 = .ok (.iload_n 1, 1) := by decide +kernel
theorem dX1_flip_2 : decode cX1_flip 2 = .ok (.invokevirtual 49, 3) := by decide +kernel
theorem dX1_flip_5 : decode cX1_flip 5 = .ok (.ifCond .eq 20, 3) := by decide +kernel
theorem dX1_flip_8 : decode cX1_flip 8 = .ok (.aload_n 0, 1) := by decide +kernel
theorem dX1_flip_9 : decode cX1_flip 9 = .ok (.iload_n 2, 1) := by decide +kernel
theorem dX1_flip_10 : decode cX1_flip 10 = .ok (.invokevirtual 40, 3) := by decide +kernel
theorem dX1_flip_13 : decode cX1_flip 13 = .ok (.ifCond .eq 12, 3) := by decide +kernel
theorem dX1_flip_16 : decode cX1_flip 16 = .ok (.aload_n 0, 1) := by decide +kernel
theorem dX1_flip_17 : decode cX1_flip 17 = .ok (.iload_n 1, 1) := by decide +kernel
theorem dX1_flip_18 : decode cX1_flip 18 = .ok (.iload_n 2, 1) := by decide +kernel
theorem dX1_flip_19 : decode cX1_flip 19 = .ok (.invokevirtual 52, 3) := by decide +kernel
theorem dX1_flip_22 : decode cX1_flip 22 = .ok (.goto 4, 3) := by decide +kernel
theorem dX1_flip_25 : decode cX1_flip 25 = .ok (.iconst (-1), 1) := by decide +kernel
theorem dX1_flip_26 : decode cX1_flip 26 = .ok (.ireturn, 1) := by decide +kernel
set_option maxRecDepth 20000 in
theorem ggX1_turned_X1_flipped : GoodIn wsX1_turned wsX1_flipped := goodIn_r _ [9, 10, 11, 12, 8, 13, 3, 4, 14, 15, 16, 17, 18, 19, 20, 21, 22, 23, 24, 25, 26, 27, 28] (by decide +kernel) (by decide +kernel)
set_option maxRecDepth 20000 in
theorem gX1_turned_X1_flipped : GoodIn wsX1_turned (wsV RX1 52 RX1 yX1_flipped wsX1_flipped) := goodIn_app (goodIn_of _ (by decide +kernel)) ggX1_turned_X1_flipped
set_option maxRecDepth 20000 in
theorem ggX1_turned_X1_has : GoodIn wsX1_turned wsX1_has := goodIn_r _ [19] (by decide +kernel) (by decide +kernel)
set_option maxRecDepth 20000 in
theorem gX1_turned_X1_has : GoodIn wsX1_turned (va_wsS RX1 45 yX1_has wsX1_has) := goodIn_app (goodIn_of _ (by decide +kernel)) ggX1_turned_X1_has
theorem dX1_turned_0 : decode cX1_turned 0 = .ok (.iload_n 1, 1) := by decide +kernel
theorem dX1_turned_1 : decode cX1_turned 1 = .ok (.istore_n 3, 1) := by decide +kernel
theorem dX1_turned_2 : decode cX1_turned 2 = .ok (.iload_n 2, 1) := by decide +kernel
theorem dX1_turned_3 : decode cX1_turned 3 = .ok (.iconst 1, 1) := by decide +kernel
theorem dX1_turned_4 : decode cX1_turned 4 = .ok (.if_icmp .ne 36, 3) := by decide +kernel
theorem dX1_turned_7 : decode cX1_turned 7 = .ok (.iconst 0, 1) := by decide +kernel
theorem dX1_turned_8 : decode cX1_turned 8 = .ok (.istore 4, 2) := by decide +kernel
theorem dX1_turned_10 : decode cX1_turned 10 = .ok (.iload 4, 2) := by decide +kernel
theorem dX1_turned_12 : decode cX1_turned 12 = .ok (.aload_n 0, 1) := by decide +kernel
theorem dX1_turned_13 : decode cX1_turned 13 = .ok (.getfield 33, 3) := by decide +kernel
theorem dX1_turned_16 : decode cX1_turned 16 = .ok (.if_icmp .ge 22, 3) := by decide +kernel
theorem dX1_turned_19 : decode cX1_turned 19 = .ok (.aload_n 0, 1) := by decide +kernel
theorem dX1_turned_20 : decode cX1_turned 20 = .ok (.iload_n 3, 1) := by decide +kernel
theorem dX1_turned_21 : decode cX1_turned 21 = .ok (.aload_n 0, 1) := by decide +kernel
theorem dX1_turned_22 : decode cX1_turned 22 = .ok (.getfield 21, 3) := by decide +kernel
theorem dX1_turned_25 : decode cX1_turned 25 = .ok (.iload 4, 2) := by decide +kernel
theorem dX1_turned_27 : decode cX1_turned 27 = .ok (.iaload, 1) := by decide +kernel
theorem dX1_turned_28 : decode cX1_turned 28 = .ok (.invokevirtual 52, 3) := by decide +kernel
theorem dX1_turned_31 : decode cX1_turned 31 = .ok (.istore_n 3, 1) := by decide +kernel
theorem dX1_turned_32 : decode cX1_turned 32 = .ok (.iinc 4 1, 3) := by decide +kernel
theorem dX1_turned_35 : decode cX1_turned 35 = .ok (.goto (-25), 3) := by decide +kernel
theorem dX1_turned_38 : decode cX1_turned 38 = .ok (.iload_n 3, 1) := by decide +kernel
theorem dX1_turned_39 : decode cX1_turned 39 = .ok (.ireturn, 1) := by decide +kernel
theorem dX1_turned_40 : decode cX1_turned 40 = .ok (.iconst 0, 1) := by decide +kernel
theorem dX1_turned_41 : decode cX1_turned 41 = .ok (.istore 4, 2) := by decide +kernel
theorem dX1_turned_43 : decode cX1_turned 43 = .ok (.iconst 0, 1) := by decide +kernel
theorem dX1_turned_44 : decode cX1_turned 44 = .ok (.istore 5, 2) := by decide +kernel
theorem dX1_turned_46 : decode cX1_turned 46 = .ok (.iload 5, 2) := by decide +kernel
theorem dX1_turned_48 : decode cX1_turned 48 = .ok (.aload_n 0, 1) := by decide +kernel
theorem dX1_turned_49 : decode cX1_turned 49 = .ok (.getfield 7, 3) := by decide +kernel
theorem dX1_turned_52 : decode cX1_turned 52 = .ok (.if_icmp .ge 131, 3) := by decide +kernel
theorem dX1_turned_55 : decode cX1_turned 55 = .ok (.iload_n 1, 1) := by decide +kernel
theorem dX1_turned_56 : decode cX1_turned 56 = .ok (.iload 5, 2) := by decide +kernel
theorem dX1_turned_58 : decode cX1_turned 58 = .ok (.invokestatic 45, 3) := by decide +kernel
theorem dX1_turned_61 : decode cX1_turned 61 = .ok (.ifCond .ne 7, 3) := by decide +kernel
theorem dX1_turned_64 : decode cX1_turned 64 = .ok (.iconst 1, 1) := by decide +kernel
theorem dX1_turned_65 : decode cX1_turned 65 = .ok (.goto 4, 3) := by decide +kernel
theorem dX1_turned_68 : decode cX1_turned 68 = .ok (.iconst 0, 1) := by decide +kernel
theorem dX1_turned_69 : decode cX1_turned 69 = .ok (.istore 6, 2) := by decide +kernel
theorem dX1_turned_71 : decode cX1_turned 71 = .ok (.iconst 1, 1) := by decide +kernel
theorem dX1_turned_72 : decode cX1_turned 72 = .ok (.iload 5, 2) := by decide +kernel
theorem dX1_turned_74 : decode cX1_turned 74 = .ok (.ishl, 1) := by decide +kernel
theorem dX1_turned_75 : decode cX1_turned 75 = .ok (.istore 7, 2) := by decide +kernel
theorem dX1_turned_77 : decode cX1_turned 77 = .ok (.iconst 0, 1) := by decide +kernel
theorem dX1_turned_78 : decode cX1_turned 78 = .ok (.istore 8, 2) := by decide +kernel
theorem dX1_turned_80 : decode cX1_turned 80 = .ok (.iload 8, 2) := by decide +kernel
theorem dX1_turned_82 : decode cX1_turned 82 = .ok (.aload_n 0, 1) := by decide +kernel
theorem dX1_turned_83 : decode cX1_turned 83 = .ok (.getfield 7, 3) := by decide +kernel
theorem dX1_turned_86 : decode cX1_turned 86 = .ok (.if_icmp .ge 75, 3) := by decide +kernel
theorem dX1_turned_89 : decode cX1_turned 89 = .ok (.iload 6, 2) := by decide +kernel
theorem dX1_turned_91 : decode cX1_turned 91 = .ok (.ifCond .eq 32, 3) := by decide +kernel
theorem dX1_turned_94 : decode cX1_turned 94 = .ok (.aload_n 0, 1) := by decide +kernel
theorem dX1_turned_95 : decode cX1_turned 95 = .ok (.getfield 13, 3) := by decide +kernel
theorem dX1_turned_98 : decode cX1_turned 98 = .ok (.bipush 8, 2) := by decide +kernel
theorem dX1_turned_100 : decode cX1_turned 100 = .ok (.iload 8, 2) := by decide +kernel
theorem dX1_turned_102 : decode cX1_turned 102 = .ok (.imul, 1) := by decide +kernel
theorem dX1_turned_103 : decode cX1_turned 103 = .ok (.iload 5, 2) := by decide +kernel
theorem dX1_turned_105 : decode cX1_turned 105 = .ok (.iadd, 1) := by decide +kernel
theorem dX1_turned_106 : decode cX1_turned 106 = .ok (.baload, 1) := by decide +kernel
theorem dX1_turned_107 : decode cX1_turned 107 = .ok (.ifCond .eq 12, 3) := by decide +kernel
theorem dX1_turned_110 : decode cX1_turned 110 = .ok (.iload_n 1, 1) := by decide +kernel
theorem dX1_turned_111 : decode cX1_turned 111 = .ok (.iload 8, 2) := by decide +kernel
theorem dX1_turned_113 : decode cX1_turned 113 = .ok (.invokestatic 45, 3) := by decide +kernel
theorem dX1_turned_116 : decode cX1_turned 116 = .ok (.ifCond .eq 7, 3) := by decide +kernel
theorem dX1_turned_119 : decode cX1_turned 119 = .ok (.iconst 1, 1) := by decide +kernel
theorem dX1_turned_120 : decode cX1_turned 120 = .ok (.goto 4, 3) := by decide +kernel
theorem dX1_turned_123 : decode cX1_turned 123 = .ok (.iconst 0, 1) := by decide +kernel
theorem dX1_turned_124 : decode cX1_turned 124 = .ok (.istore 6, 2) := by decide +kernel
theorem dX1_turned_126 : decode cX1_turned 126 = .ok (.iload 7, 2) := by decide +kernel
theorem dX1_turned_128 : decode cX1_turned 128 = .ok (.aload_n 0, 1) := by decide +kernel
theorem dX1_turned_129 : decode cX1_turned 129 = .ok (.getfield 13, 3) := by decide +kernel
theorem dX1_turned_132 : decode cX1_turned 132 = .ok (.bipush 8, 2) := by decide +kernel
theorem dX1_turned_134 : decode cX1_turned 134 = .ok (.iload 8, 2) := by decide +kernel
theorem dX1_turned_136 : decode cX1_turned 136 = .ok (.imul, 1) := by decide +kernel
theorem dX1_turned_137 : decode cX1_turned 137 = .ok (.iload 5, 2) := by decide +kernel
theorem dX1_turned_139 : decode cX1_turned 139 = .ok (.iadd, 1) := by decide +kernel
theorem dX1_turned_140 : decode cX1_turned 140 = .ok (.baload, 1) := by decide +kernel
theorem dX1_turned_141 : decode cX1_turned 141 = .ok (.ifCond .eq 10, 3) := by decide +kernel
theorem dX1_turned_144 : decode cX1_turned 144 = .ok (.iconst 1, 1) := by decide +kernel
theorem dX1_turned_145 : decode cX1_turned 145 = .ok (.iload 8, 2) := by decide +kernel
theorem dX1_turned_147 : decode cX1_turned 147 = .ok (.ishl, 1) := by decide +kernel
theorem dX1_turned_148 : decode cX1_turned 148 = .ok (.goto 4, 3) := by decide +kernel
theorem dX1_turned_151 : decode cX1_turned 151 = .ok (.iconst 0, 1) := by decide +kernel
theorem dX1_turned_152 : decode cX1_turned 152 = .ok (.ior, 1) := by decide +kernel
theorem dX1_turned_153 : decode cX1_turned 153 = .ok (.istore 7, 2) := by decide +kernel
theorem dX1_turned_155 : decode cX1_turned 155 = .ok (.iinc 8 1, 3) := by decide +kernel
theorem dX1_turned_158 : decode cX1_turned 158 = .ok (.goto (-78), 3) := by decide +kernel
theorem dX1_turned_161 : decode cX1_turned 161 = .ok (.iload 4, 2) := by decide +kernel
theorem dX1_turned_163 : decode cX1_turned 163 = .ok (.iload 6, 2) := by decide +kernel
theorem dX1_turned_165 : decode cX1_turned 165 = .ok (.ifCond .eq 8, 3) := by decide +kernel
theorem dX1_turned_168 : decode cX1_turned 168 = .ok (.iload 7, 2) := by decide +kernel
theorem dX1_turned_170 : decode cX1_turned 170 = .ok (.goto 4, 3) := by decide +kernel
theorem dX1_turned_173 : decode cX1_turned 173 = .ok (.iconst 0, 1) := by decide +kernel
theorem dX1_turned_174 : decode cX1_turned 174 = .ok (.ior, 1) := by decide +kernel
theorem dX1_turned_175 : decode cX1_turned 175 = .ok (.istore 4, 2) := by decide +kernel
theorem dX1_turned_177 : decode cX1_turned 177 = .ok (.iinc 5 1, 3) := by decide +kernel
theorem dX1_turned_180 : decode cX1_turned 180 = .ok (.goto (-134), 3) := by decide +kernel
theorem dX1_turned_183 : decode cX1_turned 183 = .ok (.iload 4, 2) := by decide +kernel
theorem dX1_turned_185 : decode cX1_turned 185 = .ok (.ireturn, 1) := by decide +kernel
set_option maxRecDepth 20000 in
theorem ggX1_isKind_X1_in : GoodIn wsX1_isKind wsX1_in := goodIn_r _ [4] (by decide +kernel) (by decide +kernel)
set_option maxRecDepth 20000 in
theorem gX1_isKind_X1_in : GoodIn wsX1_isKind (va_wsS RX1 36 yX1_in wsX1_in) := goodIn_app (goodIn_of _ (by decide +kernel)) ggX1_isKind_X1_in
theorem dX1_isKind_0 : decode cX1_isKind 0 = .ok (.iload_n 0, 1) := by decide +kernel
theorem dX1_isKind_1 : decode cX1_isKind 1 = .ok (.iconst 0, 1) := by decide +kernel
theorem dX1_isKind_2 : decode cX1_isKind 2 = .ok (.iconst 1, 1) := by decide +kernel
theorem dX1_isKind_3 : decode cX1_isKind 3 = .ok (.invokestatic 36, 3) := by decide +kernel
theorem dX1_isKind_6 : decode cX1_isKind 6 = .ok (.ireturn, 1) := by decide +kernel
set_option maxRecDepth 20000 in
theorem ggX1_turn_X1_isHeap : GoodIn wsX1_turn wsX1_isHeap := goodIn_r _ [5, 6, 7, 8, 9, 4, 10, 11, 12, 13, 27, 28, 29, 30, 31, 32, 33, 34, 35] (by decide +kernel) (by decide +kernel)
set_option maxRecDepth 20000 in
theorem gX1_turn_X1_isHeap : GoodIn wsX1_turn (wsV RX1 49 RX1 yX1_isHeap wsX1_isHeap) := goodIn_app (goodIn_of _ (by decide +kernel)) ggX1_turn_X1_isHeap
set_option maxRecDepth 20000 in
theorem ggX1_turn_X1_isKind : GoodIn wsX1_turn wsX1_isKind := goodIn_r _ [16, 8, 9, 4, 10] (by decide +kernel) (by decide +kernel)
set_option maxRecDepth 20000 in
theorem gX1_turn_X1_isKind : GoodIn wsX1_turn (va_wsS RX1 56 yX1_isKind wsX1_isKind) := goodIn_app (goodIn_of _ (by decide +kernel)) ggX1_turn_X1_isKind
set_option maxRecDepth 20000 in
theorem ggX1_turn_X1_in : GoodIn wsX1_turn wsX1_in := goodIn_r _ [10] (by decide +kernel) (by decide +kernel)
set_option maxRecDepth 20000 in
theorem gX1_turn_X1_in : GoodIn wsX1_turn (va_wsS RX1 36 yX1_in wsX1_in) := goodIn_app (goodIn_of _ (by decide +kernel)) ggX1_turn_X1_in
set_option maxRecDepth 20000 in
theorem ggX1_turn_X1_turned : GoodIn wsX1_turn wsX1_turned := goodIn_r _ [20, 21, 22, 6, 7, 23, 24, 25, 4, 26, 1, 2, 3, 5, 8, 9, 10, 11, 12, 13, 27, 28, 29, 30, 31, 32, 33, 34, 35] (by decide +kernel) (by decide +kernel)
set_option maxRecDepth 20000 in
theorem gX1_turn_X1_turned : GoodIn wsX1_turn (wsV RX1 59 RX1 yX1_turned wsX1_turned) := goodIn_app (goodIn_of _ (by decide +kernel)) ggX1_turn_X1_turned
theorem dX1_turn_0 : decode cX1_turn 0 = .ok (.aload_n 0, 1) := by decide +kernel
theorem dX1_turn_1 : decode cX1_turn 1 = .ok (.iload_n 1, 1) := by decide +kernel
theorem dX1_turn_2 : decode cX1_turn 2 = .ok (.invokevirtual 49, 3) := by decide +kernel
theorem dX1_turn_5 : decode cX1_turn 5 = .ok (.ifCond .eq 21, 3) := by decide +kernel
theorem dX1_turn_8 : decode cX1_turn 8 = .ok (.iload_n 2, 1) := by decide +kernel
theorem dX1_turn_9 : decode cX1_turn 9 = .ok (.invokestatic 56, 3) := by decide +kernel
theorem dX1_turn_12 : decode cX1_turn 12 = .ok (.ifCond .eq 14, 3) := by decide +kernel
theorem dX1_turn_15 : decode cX1_turn 15 = .ok (.iload_n 3, 1) := by decide +kernel
theorem dX1_turn_16 : decode cX1_turn 16 = .ok (.iconst 0, 1) := by decide +kernel
theorem dX1_turn_17 : decode cX1_turn 17 = .ok (.sipush 1000, 3) := by decide +kernel
theorem dX1_turn_20 : decode cX1_turn 20 = .ok (.invokestatic 36, 3) := by decide +kernel
theorem dX1_turn_23 : decode cX1_turn 23 = .ok (.ifCond .ne 5, 3) := by decide +kernel
theorem dX1_turn_26 : decode cX1_turn 26 = .ok (.iconst (-1), 1) := by decide +kernel
theorem dX1_turn_27 : decode cX1_turn 27 = .ok (.ireturn, 1) := by decide +kernel
theorem dX1_turn_28 : decode cX1_turn 28 = .ok (.iload_n 1, 1) := by decide +kernel
theorem dX1_turn_29 : decode cX1_turn 29 = .ok (.istore 4, 2) := by decide +kernel
theorem dX1_turn_31 : decode cX1_turn 31 = .ok (.iconst 0, 1) := by decide +kernel
theorem dX1_turn_32 : decode cX1_turn 32 = .ok (.istore 5, 2) := by decide +kernel
theorem dX1_turn_34 : decode cX1_turn 34 = .ok (.iload 5, 2) := by decide +kernel
theorem dX1_turn_36 : decode cX1_turn 36 = .ok (.iload_n 3, 1) := by decide +kernel
theorem dX1_turn_37 : decode cX1_turn 37 = .ok (.if_icmp .ge 18, 3) := by decide +kernel
theorem dX1_turn_40 : decode cX1_turn 40 = .ok (.aload_n 0, 1) := by decide +kernel
theorem dX1_turn_41 : decode cX1_turn 41 = .ok (.iload 4, 2) := by decide +kernel
theorem dX1_turn_43 : decode cX1_turn 43 = .ok (.iload_n 2, 1) := by decide +kernel
theorem dX1_turn_44 : decode cX1_turn 44 = .ok (.invokevirtual 59, 3) := by decide +kernel
theorem dX1_turn_47 : decode cX1_turn 47 = .ok (.istore 4, 2) := by decide +kernel
theorem dX1_turn_49 : decode cX1_turn 49 = .ok (.iinc 5 1, 3) := by decide +kernel
theorem dX1_turn_52 : decode cX1_turn 52 = .ok (.goto (-18), 3) := by decide +kernel
theorem dX1_turn_55 : decode cX1_turn 55 = .ok (.iload 4, 2) := by decide +kernel
theorem dX1_turn_57 : decode cX1_turn 57 = .ok (.ireturn, 1) := by decide +kernel
set_option maxRecDepth 20000 in
theorem ggX1_orbitOf_X1_turned : GoodIn wsX1_orbitOf wsX1_turned := goodIn_r _ [5, 6, 7, 8, 9, 10, 11, 12, 4, 13, 14, 15, 16, 17, 18, 19, 20, 21, 22, 23, 24, 25, 26, 27, 28, 29, 30, 31, 32] (by decide +kernel) (by decide +kernel)
set_option maxRecDepth 20000 in
theorem gX1_orbitOf_X1_turned : GoodIn wsX1_orbitOf (wsV RX1 59 RX1 yX1_turned wsX1_turned) := goodIn_app (goodIn_of _ (by decide +kernel)) ggX1_orbitOf_X1_turned
theorem dX1_orbitOf_0 : decode cX1_orbitOf 0 = .ok (.iconst 1, 1) := by decide +kernel
theorem dX1_orbitOf_1 : decode cX1_orbitOf 1 = .ok (.istore_n 3, 1) := by decide +kernel
theorem dX1_orbitOf_2 : decode cX1_orbitOf 2 = .ok (.aload_n 0, 1) := by decide +kernel
theorem dX1_orbitOf_3 : decode cX1_orbitOf 3 = .ok (.iload_n 1, 1) := by decide +kernel
theorem dX1_orbitOf_4 : decode cX1_orbitOf 4 = .ok (.iload_n 2, 1) := by decide +kernel
theorem dX1_orbitOf_5 : decode cX1_orbitOf 5 = .ok (.invokevirtual 59, 3) := by decide +kernel
theorem dX1_orbitOf_8 : decode cX1_orbitOf 8 = .ok (.istore 4, 2) := by decide +kernel
theorem dX1_orbitOf_10 : decode cX1_orbitOf 10 = .ok (.iload 4, 2) := by decide +kernel
theorem dX1_orbitOf_12 : decode cX1_orbitOf 12 = .ok (.iload_n 1, 1) := by decide +kernel
theorem dX1_orbitOf_13 : decode cX1_orbitOf 13 = .ok (.if_icmp .eq 18, 3) := by decide +kernel
theorem dX1_orbitOf_16 : decode cX1_orbitOf 16 = .ok (.iinc 3 1, 3) := by decide +kernel
theorem dX1_orbitOf_19 : decode cX1_orbitOf 19 = .ok (.aload_n 0, 1) := by decide +kernel
theorem dX1_orbitOf_20 : decode cX1_orbitOf 20 = .ok (.iload 4, 2) := by decide +kernel
theorem dX1_orbitOf_22 : decode cX1_orbitOf 22 = .ok (.iload_n 2, 1) := by decide +kernel
theorem dX1_orbitOf_23 : decode cX1_orbitOf 23 = .ok (.invokevirtual 59, 3) := by decide +kernel
theorem dX1_orbitOf_26 : decode cX1_orbitOf 26 = .ok (.istore 4, 2) := by decide +kernel
theorem dX1_orbitOf_28 : decode cX1_orbitOf 28 = .ok (.goto (-18), 3) := by decide +kernel
theorem dX1_orbitOf_31 : decode cX1_orbitOf 31 = .ok (.iload_n 3, 1) := by decide +kernel
theorem dX1_orbitOf_32 : decode cX1_orbitOf 32 = .ok (.ireturn, 1) := by decide +kernel
set_option maxRecDepth 20000 in
theorem ggX1_orbit_X1_isHeap : GoodIn wsX1_orbit wsX1_isHeap := goodIn_r _ [5, 6, 7, 8, 9, 4, 10, 11, 12, 13, 31, 32, 33, 34, 35, 36, 37, 38, 39] (by decide +kernel) (by decide +kernel)
set_option maxRecDepth 20000 in
theorem gX1_orbit_X1_isHeap : GoodIn wsX1_orbit (wsV RX1 49 RX1 yX1_isHeap wsX1_isHeap) := goodIn_app (goodIn_of _ (by decide +kernel)) ggX1_orbit_X1_isHeap
set_option maxRecDepth 20000 in
theorem ggX1_orbit_X1_isKind : GoodIn wsX1_orbit wsX1_isKind := goodIn_r _ [16, 8, 9, 4, 10] (by decide +kernel) (by decide +kernel)
set_option maxRecDepth 20000 in
theorem gX1_orbit_X1_isKind : GoodIn wsX1_orbit (va_wsS RX1 56 yX1_isKind wsX1_isKind) := goodIn_app (goodIn_of _ (by decide +kernel)) ggX1_orbit_X1_isKind
set_option maxRecDepth 20000 in
theorem ggX1_orbit_X1_orbitOf : GoodIn wsX1_orbit wsX1_orbitOf := goodIn_r _ [20, 21, 22, 23, 4, 24, 25, 26, 6, 7, 27, 28, 29, 30, 1, 2, 3, 5, 8, 9, 10, 11, 12, 13, 31, 32, 33, 34, 35, 36, 37, 38, 39] (by decide +kernel) (by decide +kernel)
set_option maxRecDepth 20000 in
theorem gX1_orbit_X1_orbitOf : GoodIn wsX1_orbit (wsV RX1 62 RX1 yX1_orbitOf wsX1_orbitOf) := goodIn_app (goodIn_of _ (by decide +kernel)) ggX1_orbit_X1_orbitOf
theorem dX1_orbit_0 : decode cX1_orbit 0 = .ok (.aload_n 0, 1) := by decide +kernel
theorem dX1_orbit_1 : decode cX1_orbit 1 = .ok (.iload_n 1, 1) := by decide +kernel
theorem dX1_orbit_2 : decode cX1_orbit 2 = .ok (.invokevirtual 49, 3) := by decide +kernel
theorem dX1_orbit_5 : decode cX1_orbit 5 = .ok (.ifCond .eq 19, 3) := by decide +kernel
theorem dX1_orbit_8 : decode cX1_orbit 8 = .ok (.iload_n 2, 1) := by decide +kernel
theorem dX1_orbit_9 : decode cX1_orbit 9 = .ok (.invokestatic 56, 3) := by decide +kernel
theorem dX1_orbit_12 : decode cX1_orbit 12 = .ok (.ifCond .eq 12, 3) := by decide +kernel
theorem dX1_orbit_15 : decode cX1_orbit 15 = .ok (.aload_n 0, 1) := by decide +kernel
theorem dX1_orbit_16 : decode cX1_orbit 16 = .ok (.iload_n 1, 1) := by decide +kernel
theorem dX1_orbit_17 : decode cX1_orbit 17 = .ok (.iload_n 2, 1) := by decide +kernel
theorem dX1_orbit_18 : decode cX1_orbit 18 = .ok (.invokevirtual 62, 3) := by decide +kernel
theorem dX1_orbit_21 : decode cX1_orbit 21 = .ok (.goto 4, 3) := by decide +kernel
theorem dX1_orbit_24 : decode cX1_orbit 24 = .ok (.iconst (-1), 1) := by decide +kernel
theorem dX1_orbit_25 : decode cX1_orbit 25 = .ok (.ireturn, 1) := by decide +kernel
theorem dX1_common_0 : decode cX1_common 0 = .ok (.lload_n 0, 1) := by decide +kernel
theorem dX1_common_1 : decode cX1_common 1 = .ok (.lconst 0, 1) := by decide +kernel
theorem dX1_common_2 : decode cX1_common 2 = .ok (.lcmp, 1) := by decide +kernel
theorem dX1_common_3 : decode cX1_common 3 = .ok (.ifCond .ge 8, 3) := by decide +kernel
theorem dX1_common_6 : decode cX1_common 6 = .ok (.lload_n 0, 1) := by decide +kernel
theorem dX1_common_7 : decode cX1_common 7 = .ok (.lneg, 1) := by decide +kernel
theorem dX1_common_8 : decode cX1_common 8 = .ok (.goto 4, 3) := by decide +kernel
theorem dX1_common_11 : decode cX1_common 11 = .ok (.lload_n 0, 1) := by decide +kernel
theorem dX1_common_12 : decode cX1_common 12 = .ok (.lstore 4, 2) := by decide +kernel
theorem dX1_common_14 : decode cX1_common 14 = .ok (.lload_n 2, 1) := by decide +kernel
theorem dX1_common_15 : decode cX1_common 15 = .ok (.lstore 6, 2) := by decide +kernel
theorem dX1_common_17 : decode cX1_common 17 = .ok (.lload 6, 2) := by decide +kernel
theorem dX1_common_19 : decode cX1_common 19 = .ok (.lconst 0, 1) := by decide +kernel
theorem dX1_common_20 : decode cX1_common 20 = .ok (.lcmp, 1) := by decide +kernel
theorem dX1_common_21 : decode cX1_common 21 = .ok (.ifCond .eq 21, 3) := by decide +kernel
theorem dX1_common_24 : decode cX1_common 24 = .ok (.lload 4, 2) := by decide +kernel
theorem dX1_common_26 : decode cX1_common 26 = .ok (.lload 6, 2) := by decide +kernel
theorem dX1_common_28 : decode cX1_common 28 = .ok (.lrem, 1) := by decide +kernel
theorem dX1_common_29 : decode cX1_common 29 = .ok (.lstore 8, 2) := by decide +kernel
theorem dX1_common_31 : decode cX1_common 31 = .ok (.lload 6, 2) := by decide +kernel
theorem dX1_common_33 : decode cX1_common 33 = .ok (.lstore 4, 2) := by decide +kernel
theorem dX1_common_35 : decode cX1_common 35 = .ok (.lload 8, 2) := by decide +kernel
theorem dX1_common_37 : decode cX1_common 37 = .ok (.lstore 6, 2) := by decide +kernel
theorem dX1_common_39 : decode cX1_common 39 = .ok (.goto (-22), 3) := by decide +kernel
theorem dX1_common_42 : decode cX1_common 42 = .ok (.lload 4, 2) := by decide +kernel
theorem dX1_common_44 : decode cX1_common 44 = .ok (.lreturn, 1) := by decide +kernel
set_option maxRecDepth 20000 in
theorem ggX1_orbits_X1_isKind : GoodIn wsX1_orbits wsX1_isKind := goodIn_r _ [7, 8, 9, 6, 10] (by decide +kernel) (by decide +kernel)
set_option maxRecDepth 20000 in
theorem gX1_orbits_X1_isKind : GoodIn wsX1_orbits (va_wsS RX1 56 yX1_isKind wsX1_isKind) := goodIn_app (goodIn_of _ (by decide +kernel)) ggX1_orbits_X1_isKind
set_option maxRecDepth 20000 in
theorem ggX1_orbits_X1_in : GoodIn wsX1_orbits wsX1_in := goodIn_r _ [10] (by decide +kernel) (by decide +kernel)
set_option maxRecDepth 20000 in
theorem gX1_orbits_X1_in : GoodIn wsX1_orbits (va_wsS RX1 36 yX1_in wsX1_in) := goodIn_app (goodIn_of _ (by decide +kernel)) ggX1_orbits_X1_in
set_option maxRecDepth 20000 in
theorem ggX1_orbits_X1_isHeap : GoodIn wsX1_orbits wsX1_isHeap := goodIn_r _ [14, 2, 15, 8, 9, 6, 10, 16, 17, 18, 32, 33, 34, 35, 36, 37, 38, 39, 40] (by decide +kernel) (by decide +kernel)
set_option maxRecDepth 20000 in
theorem gX1_orbits_X1_isHeap : GoodIn wsX1_orbits (wsV RX1 49 RX1 yX1_isHeap wsX1_isHeap) := goodIn_app (goodIn_of _ (by decide +kernel)) ggX1_orbits_X1_isHeap
set_option maxRecDepth 20000 in
theorem ggX1_orbits_X1_turned : GoodIn wsX1_orbits wsX1_turned := goodIn_r _ [22, 23, 24, 2, 15, 25, 26, 27, 6, 28, 11, 12, 13, 14, 8, 9, 10, 16, 17, 18, 32, 33, 34, 35, 36, 37, 38, 39, 40] (by decide +kernel) (by decide +kernel)
set_option maxRecDepth 20000 in
theorem gX1_orbits_X1_turned : GoodIn wsX1_orbits (wsV RX1 59 RX1 yX1_turned wsX1_turned) := goodIn_app (goodIn_of _ (by decide +kernel)) ggX1_orbits_X1_turned
set_option maxRecDepth 20000 in
theorem ggX1_orbits_X1_common : GoodIn wsX1_orbits wsX1_common := goodIn_r _ [31] (by decide +kernel) (by decide +kernel)
set_option maxRecDepth 20000 in
theorem gX1_orbits_X1_common : GoodIn wsX1_orbits (va_wsS RX1 67 yX1_common wsX1_common) := goodIn_app (goodIn_of _ (by decide +kernel)) ggX1_orbits_X1_common
theorem dX1_orbits_0 : decode cX1_orbits 0 = .ok (.iload_n 1, 1) := by decide +kernel
theorem dX1_orbits_1 : decode cX1_orbits 1 = .ok (.invokestatic 56, 3) := by decide +kernel
theorem dX1_orbits_4 : decode cX1_orbits 4 = .ok (.ifCond .eq 12, 3) := by decide +kernel
theorem dX1_orbits_7 : decode cX1_orbits 7 = .ok (.iload_n 2, 1) := by decide +kernel
theorem dX1_orbits_8 : decode cX1_orbits 8 = .ok (.iconst 0, 1) := by decide +kernel
theorem dX1_orbits_9 : decode cX1_orbits 9 = .ok (.iconst 2, 1) := by decide +kernel
theorem dX1_orbits_10 : decode cX1_orbits 10 = .ok (.invokestatic 36, 3) := by decide +kernel
theorem dX1_orbits_13 : decode cX1_orbits 13 = .ok (.ifCond .ne 5, 3) := by decide +kernel
theorem dX1_orbits_16 : decode cX1_orbits 16 = .ok (.iconst (-1), 1) := by decide +kernel
theorem dX1_orbits_17 : decode cX1_orbits 17 = .ok (.ireturn, 1) := by decide +kernel
theorem dX1_orbits_18 : decode cX1_orbits 18 = .ok (.iconst 0, 1) := by decide +kernel
theorem dX1_orbits_19 : decode cX1_orbits 19 = .ok (.istore_n 3, 1) := by decide +kernel
theorem dX1_orbits_20 : decode cX1_orbits 20 = .ok (.iload_n 3, 1) := by decide +kernel
theorem dX1_orbits_21 : decode cX1_orbits 21 = .ok (.sipush 256, 3) := by decide +kernel
theorem dX1_orbits_24 : decode cX1_orbits 24 = .ok (.if_icmp .ge 16, 3) := by decide +kernel
theorem dX1_orbits_27 : decode cX1_orbits 27 = .ok (.aload_n 0, 1) := by decide +kernel
theorem dX1_orbits_28 : decode cX1_orbits 28 = .ok (.getfield 24, 3) := by decide +kernel
theorem dX1_orbits_31 : decode cX1_orbits 31 = .ok (.iload_n 3, 1) := by decide +kernel
theorem dX1_orbits_32 : decode cX1_orbits 32 = .ok (.iconst 0, 1) := by decide +kernel
theorem dX1_orbits_33 : decode cX1_orbits 33 = .ok (.bastore, 1) := by decide +kernel
theorem dX1_orbits_34 : decode cX1_orbits 34 = .ok (.iinc 3 1, 3) := by decide +kernel
theorem dX1_orbits_37 : decode cX1_orbits 37 = .ok (.goto (-17), 3) := by decide +kernel
theorem dX1_orbits_40 : decode cX1_orbits 40 = .ok (.iconst 0, 1) := by decide +kernel
theorem dX1_orbits_41 : decode cX1_orbits 41 = .ok (.istore_n 3, 1) := by decide +kernel
theorem dX1_orbits_42 : decode cX1_orbits 42 = .ok (.iconst 0, 1) := by decide +kernel
theorem dX1_orbits_43 : decode cX1_orbits 43 = .ok (.istore 4, 2) := by decide +kernel
theorem dX1_orbits_45 : decode cX1_orbits 45 = .ok (.lconst 1, 1) := by decide +kernel
theorem dX1_orbits_46 : decode cX1_orbits 46 = .ok (.lstore 5, 2) := by decide +kernel
theorem dX1_orbits_48 : decode cX1_orbits 48 = .ok (.iconst 0, 1) := by decide +kernel
theorem dX1_orbits_49 : decode cX1_orbits 49 = .ok (.istore 7, 2) := by decide +kernel
theorem dX1_orbits_51 : decode cX1_orbits 51 = .ok (.iload 7, 2) := by decide +kernel
theorem dX1_orbits_53 : decode cX1_orbits 53 = .ok (.iconst 1, 1) := by decide +kernel
theorem dX1_orbits_54 : decode cX1_orbits 54 = .ok (.aload_n 0, 1) := by decide +kernel
theorem dX1_orbits_55 : decode cX1_orbits 55 = .ok (.getfield 7, 3) := by decide +kernel
theorem dX1_orbits_58 : decode cX1_orbits 58 = .ok (.ishl, 1) := by decide +kernel
theorem dX1_orbits_59 : decode cX1_orbits 59 = .ok (.if_icmp .ge 118, 3) := by decide +kernel
theorem dX1_orbits_62 : decode cX1_orbits 62 = .ok (.aload_n 0, 1) := by decide +kernel
theorem dX1_orbits_63 : decode cX1_orbits 63 = .ok (.iload 7, 2) := by decide +kernel
theorem dX1_orbits_65 : decode cX1_orbits 65 = .ok (.invokevirtual 49, 3) := by decide +kernel
theorem dX1_orbits_68 : decode cX1_orbits 68 = .ok (.ifCond .eq 103, 3) := by decide +kernel
theorem dX1_orbits_71 : decode cX1_orbits 71 = .ok (.aload_n 0, 1) := by decide +kernel
theorem dX1_orbits_72 : decode cX1_orbits 72 = .ok (.getfield 24, 3) := by decide +kernel
theorem dX1_orbits_75 : decode cX1_orbits 75 = .ok (.iload 7, 2) := by decide +kernel
theorem dX1_orbits_77 : decode cX1_orbits 77 = .ok (.baload, 1) := by decide +kernel
theorem dX1_orbits_78 : decode cX1_orbits 78 = .ok (.ifCond .ne 93, 3) := by decide +kernel
theorem dX1_orbits_81 : decode cX1_orbits 81 = .ok (.iconst 0, 1) := by decide +kernel
theorem dX1_orbits_82 : decode cX1_orbits 82 = .ok (.istore 8, 2) := by decide +kernel
theorem dX1_orbits_84 : decode cX1_orbits 84 = .ok (.iload 7, 2) := by decide +kernel
theorem dX1_orbits_86 : decode cX1_orbits 86 = .ok (.istore 9, 2) := by decide +kernel
theorem dX1_orbits_88 : decode cX1_orbits 88 = .ok (.aload_n 0, 1) := by decide +kernel
theorem dX1_orbits_89 : decode cX1_orbits 89 = .ok (.getfield 24, 3) := by decide +kernel
theorem dX1_orbits_92 : decode cX1_orbits 92 = .ok (.iload 9, 2) := by decide +kernel
theorem dX1_orbits_94 : decode cX1_orbits 94 = .ok (.baload, 1) := by decide +kernel
theorem dX1_orbits_95 : decode cX1_orbits 95 = .ok (.ifCond .ne 26, 3) := by decide +kernel
theorem dX1_orbits_98 : decode cX1_orbits 98 = .ok (.aload_n 0, 1) := by decide +kernel
theorem dX1_orbits_99 : decode cX1_orbits 99 = .ok (.getfield 24, 3) := by decide +kernel
theorem dX1_orbits_102 : decode cX1_orbits 102 = .ok (.iload 9, 2) := by decide +kernel
theorem dX1_orbits_104 : decode cX1_orbits 104 = .ok (.iconst 1, 1) := by decide +kernel
theorem dX1_orbits_105 : decode cX1_orbits 105 = .ok (.bastore, 1) := by decide +kernel
theorem dX1_orbits_106 : decode cX1_orbits 106 = .ok (.iinc 8 1, 3) := by decide +kernel
theorem dX1_orbits_109 : decode cX1_orbits 109 = .ok (.aload_n 0, 1) := by decide +kernel
theorem dX1_orbits_110 : decode cX1_orbits 110 = .ok (.iload 9, 2) := by decide +kernel
theorem dX1_orbits_112 : decode cX1_orbits 112 = .ok (.iload_n 1, 1) := by decide +kernel
theorem dX1_orbits_113 : decode cX1_orbits 113 = .ok (.invokevirtual 59, 3) := by decide +kernel
theorem dX1_orbits_116 : decode cX1_orbits 116 = .ok (.istore 9, 2) := by decide +kernel
theorem dX1_orbits_118 : decode cX1_orbits 118 = .ok (.goto (-30), 3) := by decide +kernel
theorem dX1_orbits_121 : decode cX1_orbits 121 = .ok (.iinc 3 1, 3) := by decide +kernel
theorem dX1_orbits_124 : decode cX1_orbits 124 = .ok (.iload 8, 2) := by decide +kernel
theorem dX1_orbits_126 : decode cX1_orbits 126 = .ok (.iload 4, 2) := by decide +kernel
theorem dX1_orbits_128 : decode cX1_orbits 128 = .ok (.if_icmp .le 8, 3) := by decide +kernel
theorem dX1_orbits_131 : decode cX1_orbits 131 = .ok (.iload 8, 2) := by decide +kernel
theorem dX1_orbits_133 : decode cX1_orbits 133 = .ok (.goto 5, 3) := by decide +kernel
theorem dX1_orbits_136 : decode cX1_orbits 136 = .ok (.iload 4, 2) := by decide +kernel
theorem dX1_orbits_138 : decode cX1_orbits 138 = .ok (.istore 4, 2) := by decide +kernel
theorem dX1_orbits_140 : decode cX1_orbits 140 = .ok (.lload 5, 2) := by decide +kernel
theorem dX1_orbits_142 : decode cX1_orbits 142 = .ok (.ldc2_w 65, 3) := by decide +kernel
theorem dX1_orbits_145 : decode cX1_orbits 145 = .ok (.lcmp, 1) := by decide +kernel
theorem dX1_orbits_146 : decode cX1_orbits 146 = .ok (.ifCond .le 8, 3) := by decide +kernel
theorem dX1_orbits_149 : decode cX1_orbits 149 = .ok (.lload 5, 2) := by decide +kernel
theorem dX1_orbits_151 : decode cX1_orbits 151 = .ok (.goto 18, 3) := by decide +kernel
theorem dX1_orbits_154 : decode cX1_orbits 154 = .ok (.lload 5, 2) := by decide +kernel
theorem dX1_orbits_156 : decode cX1_orbits 156 = .ok (.lload 5, 2) := by decide +kernel
theorem dX1_orbits_158 : decode cX1_orbits 158 = .ok (.iload 8, 2) := by decide +kernel
theorem dX1_orbits_160 : decode cX1_orbits 160 = .ok (.i2l, 1) := by decide +kernel
theorem dX1_orbits_161 : decode cX1_orbits 161 = .ok (.invokestatic 67, 3) := by decide +kernel
theorem dX1_orbits_164 : decode cX1_orbits 164 = .ok (.ldiv, 1) := by decide +kernel
theorem dX1_orbits_165 : decode cX1_orbits 165 = .ok (.iload 8, 2) := by decide +kernel
theorem dX1_orbits_167 : decode cX1_orbits 167 = .ok (.i2l, 1) := by decide +kernel
theorem dX1_orbits_168 : decode cX1_orbits 168 = .ok (.lmul, 1) := by decide +kernel
theorem dX1_orbits_169 : decode cX1_orbits 169 = .ok (.lstore 5, 2) := by decide +kernel
theorem dX1_orbits_171 : decode cX1_orbits 171 = .ok (.iinc 7 1, 3) := by decide +kernel
theorem dX1_orbits_174 : decode cX1_orbits 174 = .ok (.goto (-123), 3) := by decide +kernel
theorem dX1_orbits_177 : decode cX1_orbits 177 = .ok (.iload_n 2, 1) := by decide +kernel
theorem dX1_orbits_178 : decode cX1_orbits 178 = .ok (.ifCond .ne 7, 3) := by decide +kernel
theorem dX1_orbits_181 : decode cX1_orbits 181 = .ok (.iload_n 3, 1) := by decide +kernel
theorem dX1_orbits_182 : decode cX1_orbits 182 = .ok (.goto 30, 3) := by decide +kernel
theorem dX1_orbits_185 : decode cX1_orbits 185 = .ok (.iload_n 2, 1) := by decide +kernel
theorem dX1_orbits_186 : decode cX1_orbits 186 = .ok (.iconst 2, 1) := by decide +kernel
theorem dX1_orbits_187 : decode cX1_orbits 187 = .ok (.if_icmp .ne 8, 3) := by decide +kernel
theorem dX1_orbits_190 : decode cX1_orbits 190 = .ok (.iload 4, 2) := by decide +kernel
theorem dX1_orbits_192 : decode cX1_orbits 192 = .ok (.goto 20, 3) := by decide +kernel
theorem dX1_orbits_195 : decode cX1_orbits 195 = .ok (.lload 5, 2) := by decide +kernel
theorem dX1_orbits_197 : decode cX1_orbits 197 = .ok (.ldc2_w 65, 3) := by decide +kernel
theorem dX1_orbits_200 : decode cX1_orbits 200 = .ok (.lcmp, 1) := by decide +kernel
theorem dX1_orbits_201 : decode cX1_orbits 201 = .ok (.ifCond .le 8, 3) := by decide +kernel
theorem dX1_orbits_204 : decode cX1_orbits 204 = .ok (.bipush (-9), 2) := by decide +kernel
theorem dX1_orbits_206 : decode cX1_orbits 206 = .ok (.goto 6, 3) := by decide +kernel
theorem dX1_orbits_209 : decode cX1_orbits 209 = .ok (.lload 5, 2) := by decide +kernel
theorem dX1_orbits_211 : decode cX1_orbits 211 = .ok (.l2i, 1) := by decide +kernel
theorem dX1_orbits_212 : decode cX1_orbits 212 = .ok (.ireturn, 1) := by decide +kernel
set_option maxRecDepth 20000 in
theorem ggX1_measureOf_X1_has : GoodIn wsX1_measureOf wsX1_has := goodIn_r _ [7] (by decide +kernel) (by decide +kernel)
set_option maxRecDepth 20000 in
theorem gX1_measureOf_X1_has : GoodIn wsX1_measureOf (va_wsS RX1 45 yX1_has wsX1_has) := goodIn_app (goodIn_of _ (by decide +kernel)) ggX1_measureOf_X1_has
theorem dX1_measureOf_0 : decode cX1_measureOf 0 = .ok (.iconst 0, 1) := by decide +kernel
theorem dX1_measureOf_1 : decode cX1_measureOf 1 = .ok (.istore_n 3, 1) := by decide +kernel
theorem dX1_measureOf_2 : decode cX1_measureOf 2 = .ok (.iconst 0, 1) := by decide +kernel
theorem dX1_measureOf_3 : decode cX1_measureOf 3 = .ok (.istore 4, 2) := by decide +kernel
theorem dX1_measureOf_5 : decode cX1_measureOf 5 = .ok (.iload 4, 2) := by decide +kernel
theorem dX1_measureOf_7 : decode cX1_measureOf 7 = .ok (.aload_n 0, 1) := by decide +kernel
theorem dX1_measureOf_8 : decode cX1_measureOf 8 = .ok (.getfield 7, 3) := by decide +kernel
theorem dX1_measureOf_11 : decode cX1_measureOf 11 = .ok (.if_icmp .ge 112, 3) := by decide +kernel
theorem dX1_measureOf_14 : decode cX1_measureOf 14 = .ok (.iload_n 2, 1) := by decide +kernel
theorem dX1_measureOf_15 : decode cX1_measureOf 15 = .ok (.iload 4, 2) := by decide +kernel
theorem dX1_measureOf_17 : decode cX1_measureOf 17 = .ok (.invokestatic 45, 3) := by decide +kernel
theorem dX1_measureOf_20 : decode cX1_measureOf 20 = .ok (.ifCond .eq 97, 3) := by decide +kernel
theorem dX1_measureOf_23 : decode cX1_measureOf 23 = .ok (.iconst 1, 1) := by decide +kernel
theorem dX1_measureOf_24 : decode cX1_measureOf 24 = .ok (.istore 5, 2) := by decide +kernel
theorem dX1_measureOf_26 : decode cX1_measureOf 26 = .ok (.iconst 0, 1) := by decide +kernel
theorem dX1_measureOf_27 : decode cX1_measureOf 27 = .ok (.istore 6, 2) := by decide +kernel
theorem dX1_measureOf_29 : decode cX1_measureOf 29 = .ok (.iload 6, 2) := by decide +kernel
theorem dX1_measureOf_31 : decode cX1_measureOf 31 = .ok (.aload_n 0, 1) := by decide +kernel
theorem dX1_measureOf_32 : decode cX1_measureOf 32 = .ok (.getfield 7, 3) := by decide +kernel
theorem dX1_measureOf_35 : decode cX1_measureOf 35 = .ok (.if_icmp .ge 46, 3) := by decide +kernel
theorem dX1_measureOf_38 : decode cX1_measureOf 38 = .ok (.iload 5, 2) := by decide +kernel
theorem dX1_measureOf_40 : decode cX1_measureOf 40 = .ok (.ifCond .eq 32, 3) := by decide +kernel
theorem dX1_measureOf_43 : decode cX1_measureOf 43 = .ok (.aload_n 0, 1) := by decide +kernel
theorem dX1_measureOf_44 : decode cX1_measureOf 44 = .ok (.getfield 13, 3) := by decide +kernel
theorem dX1_measureOf_47 : decode cX1_measureOf 47 = .ok (.bipush 8, 2) := by decide +kernel
theorem dX1_measureOf_49 : decode cX1_measureOf 49 = .ok (.iload 4, 2) := by decide +kernel
theorem dX1_measureOf_51 : decode cX1_measureOf 51 = .ok (.imul, 1) := by decide +kernel
theorem dX1_measureOf_52 : decode cX1_measureOf 52 = .ok (.iload 6, 2) := by decide +kernel
theorem dX1_measureOf_54 : decode cX1_measureOf 54 = .ok (.iadd, 1) := by decide +kernel
theorem dX1_measureOf_55 : decode cX1_measureOf 55 = .ok (.baload, 1) := by decide +kernel
theorem dX1_measureOf_56 : decode cX1_measureOf 56 = .ok (.ifCond .eq 12, 3) := by decide +kernel
theorem dX1_measureOf_59 : decode cX1_measureOf 59 = .ok (.iload_n 2, 1) := by decide +kernel
theorem dX1_measureOf_60 : decode cX1_measureOf 60 = .ok (.iload 6, 2) := by decide +kernel
theorem dX1_measureOf_62 : decode cX1_measureOf 62 = .ok (.invokestatic 45, 3) := by decide +kernel
theorem dX1_measureOf_65 : decode cX1_measureOf 65 = .ok (.ifCond .ne 7, 3) := by decide +kernel
theorem dX1_measureOf_68 : decode cX1_measureOf 68 = .ok (.iconst 1, 1) := by decide +kernel
theorem dX1_measureOf_69 : decode cX1_measureOf 69 = .ok (.goto 4, 3) := by decide +kernel
theorem dX1_measureOf_72 : decode cX1_measureOf 72 = .ok (.iconst 0, 1) := by decide +kernel
theorem dX1_measureOf_73 : decode cX1_measureOf 73 = .ok (.istore 5, 2) := by decide +kernel
theorem dX1_measureOf_75 : decode cX1_measureOf 75 = .ok (.iinc 6 1, 3) := by decide +kernel
theorem dX1_measureOf_78 : decode cX1_measureOf 78 = .ok (.goto (-49), 3) := by decide +kernel
theorem dX1_measureOf_81 : decode cX1_measureOf 81 = .ok (.iload_n 3, 1) := by decide +kernel
theorem dX1_measureOf_82 : decode cX1_measureOf 82 = .ok (.iconst 1, 1) := by decide +kernel
theorem dX1_measureOf_83 : decode cX1_measureOf 83 = .ok (.iload_n 1, 1) := by decide +kernel
theorem dX1_measureOf_84 : decode cX1_measureOf 84 = .ok (.ifCond .le 13, 3) := by decide +kernel
theorem dX1_measureOf_87 : decode cX1_measureOf 87 = .ok (.aload_n 0, 1) := by decide +kernel
theorem dX1_measureOf_88 : decode cX1_measureOf 88 = .ok (.getfield 17, 3) := by decide +kernel
theorem dX1_measureOf_91 : decode cX1_measureOf 91 = .ok (.iload 4, 2) := by decide +kernel
theorem dX1_measureOf_93 : decode cX1_measureOf 93 = .ok (.iaload, 1) := by decide +kernel
theorem dX1_measureOf_94 : decode cX1_measureOf 94 = .ok (.goto 4, 3) := by decide +kernel
theorem dX1_measureOf_97 : decode cX1_measureOf 97 = .ok (.iconst 0, 1) := by decide +kernel
theorem dX1_measureOf_98 : decode cX1_measureOf 98 = .ok (.iadd, 1) := by decide +kernel
theorem dX1_measureOf_99 : decode cX1_measureOf 99 = .ok (.iload_n 1, 1) := by decide +kernel
theorem dX1_measureOf_100 : decode cX1_measureOf 100 = .ok (.iconst 2, 1) := by decide +kernel
theorem dX1_measureOf_101 : decode cX1_measureOf 101 = .ok (.if_icmp .ne 12, 3) := by decide +kernel
theorem dX1_measureOf_104 : decode cX1_measureOf 104 = .ok (.iload 5, 2) := by decide +kernel
theorem dX1_measureOf_106 : decode cX1_measureOf 106 = .ok (.ifCond .eq 7, 3) := by decide +kernel
theorem dX1_measureOf_109 : decode cX1_measureOf 109 = .ok (.iconst 1, 1) := by decide +kernel
theorem dX1_measureOf_110 : decode cX1_measureOf 110 = .ok (.goto 4, 3) := by decide +kernel
theorem dX1_measureOf_113 : decode cX1_measureOf 113 = .ok (.iconst 0, 1) := by decide +kernel
theorem dX1_measureOf_114 : decode cX1_measureOf 114 = .ok (.iadd, 1) := by decide +kernel
theorem dX1_measureOf_115 : decode cX1_measureOf 115 = .ok (.iadd, 1) := by decide +kernel
theorem dX1_measureOf_116 : decode cX1_measureOf 116 = .ok (.istore_n 3, 1) := by decide +kernel
theorem dX1_measureOf_117 : decode cX1_measureOf 117 = .ok (.iinc 4 1, 3) := by decide +kernel
theorem dX1_measureOf_120 : decode cX1_measureOf 120 = .ok (.goto (-115), 3) := by decide +kernel
theorem dX1_measureOf_123 : decode cX1_measureOf 123 = .ok (.iload_n 3, 1) := by decide +kernel
theorem dX1_measureOf_124 : decode cX1_measureOf 124 = .ok (.ireturn, 1) := by decide +kernel
set_option maxRecDepth 20000 in
theorem ggX1_measure_X1_in : GoodIn wsX1_measure wsX1_in := goodIn_r _ [8] (by decide +kernel) (by decide +kernel)
set_option maxRecDepth 20000 in
theorem gX1_measure_X1_in : GoodIn wsX1_measure (va_wsS RX1 36 yX1_in wsX1_in) := goodIn_app (goodIn_of _ (by decide +kernel)) ggX1_measure_X1_in
set_option maxRecDepth 20000 in
theorem ggX1_measure_X1_isHeap : GoodIn wsX1_measure wsX1_isHeap := goodIn_r _ [12, 13, 14, 5, 6, 7, 8, 15, 16, 17, 23, 24, 25, 26, 27, 28, 29, 30, 31] (by decide +kernel) (by decide +kernel)
set_option maxRecDepth 20000 in
theorem gX1_measure_X1_isHeap : GoodIn wsX1_measure (wsV RX1 49 RX1 yX1_isHeap wsX1_isHeap) := goodIn_app (goodIn_of _ (by decide +kernel)) ggX1_measure_X1_isHeap
set_option maxRecDepth 20000 in
theorem ggX1_measure_X1_measureOf : GoodIn wsX1_measure wsX1_measureOf := goodIn_r _ [21, 13, 14, 22, 15, 16, 7, 17, 23, 24, 25, 26, 27, 28, 29, 30, 31] (by decide +kernel) (by decide +kernel)
set_option maxRecDepth 20000 in
theorem gX1_measure_X1_measureOf : GoodIn wsX1_measure (wsV RX1 79 RX1 yX1_measureOf wsX1_measureOf) := goodIn_app (goodIn_of _ (by decide +kernel)) ggX1_measure_X1_measureOf
theorem dX1_measure_0 : decode cX1_measure 0 = .ok (.iload_n 1, 1) := by decide +kernel
theorem dX1_measure_1 : decode cX1_measure 1 = .ok (.iconst 0, 1) := by decide +kernel
theorem dX1_measure_2 : decode cX1_measure 2 = .ok (.iconst 2, 1) := by decide +kernel
theorem dX1_measure_3 : decode cX1_measure 3 = .ok (.invokestatic 36, 3) := by decide +kernel
theorem dX1_measure_6 : decode cX1_measure 6 = .ok (.ifCond .eq 11, 3) := by decide +kernel
theorem dX1_measure_9 : decode cX1_measure 9 = .ok (.aload_n 0, 1) := by decide +kernel
theorem dX1_measure_10 : decode cX1_measure 10 = .ok (.iload_n 2, 1) := by decide +kernel
theorem dX1_measure_11 : decode cX1_measure 11 = .ok (.invokevirtual 49, 3) := by decide +kernel
theorem dX1_measure_14 : decode cX1_measure 14 = .ok (.ifCond .ne 6, 3) := by decide +kernel
theorem dX1_measure_17 : decode cX1_measure 17 = .ok (.ldc 44, 2) := by decide +kernel
theorem dX1_measure_19 : decode cX1_measure 19 = .ok (.ireturn, 1) := by decide +kernel
theorem dX1_measure_20 : decode cX1_measure 20 = .ok (.aload_n 0, 1) := by decide +kernel
theorem dX1_measure_21 : decode cX1_measure 21 = .ok (.dup, 1) := by decide +kernel
theorem dX1_measure_22 : decode cX1_measure 22 = .ok (.getfield 71, 3) := by decide +kernel
theorem dX1_measure_25 : decode cX1_measure 25 = .ok (.iload_n 1, 1) := by decide +kernel
theorem dX1_measure_26 : decode cX1_measure 26 = .ok (.ifCond .ne 7, 3) := by decide +kernel
theorem dX1_measure_29 : decode cX1_measure 29 = .ok (.lconst 1, 1) := by decide +kernel
theorem dX1_measure_30 : decode cX1_measure 30 = .ok (.goto 17, 3) := by decide +kernel
theorem dX1_measure_33 : decode cX1_measure 33 = .ok (.iload_n 1, 1) := by decide +kernel
theorem dX1_measure_34 : decode cX1_measure 34 = .ok (.iconst 1, 1) := by decide +kernel
theorem dX1_measure_35 : decode cX1_measure 35 = .ok (.if_icmp .ne 9, 3) := by decide +kernel
theorem dX1_measure_38 : decode cX1_measure 38 = .ok (.ldc2_w 75, 3) := by decide +kernel
theorem dX1_measure_41 : decode cX1_measure 41 = .ok (.goto 6, 3) := by decide +kernel
theorem dX1_measure_44 : decode cX1_measure 44 = .ok (.ldc2_w 77, 3) := by decide +kernel
theorem dX1_measure_47 : decode cX1_measure 47 = .ok (.ladd, 1) := by decide +kernel
theorem dX1_measure_48 : decode cX1_measure 48 = .ok (.putfield 71, 3) := by decide +kernel
theorem dX1_measure_51 : decode cX1_measure 51 = .ok (.aload_n 0, 1) := by decide +kernel
theorem dX1_measure_52 : decode cX1_measure 52 = .ok (.iload_n 1, 1) := by decide +kernel
theorem dX1_measure_53 : decode cX1_measure 53 = .ok (.iload_n 2, 1) := by decide +kernel
theorem dX1_measure_54 : decode cX1_measure 54 = .ok (.invokevirtual 79, 3) := by decide +kernel
theorem dX1_measure_57 : decode cX1_measure 57 = .ok (.ireturn, 1) := by decide +kernel
set_option maxRecDepth 20000 in
theorem ggX1_sumOf_X1_measureOf : GoodIn wsX1_sumOf wsX1_measureOf := goodIn_r _ [5, 6, 7, 8, 9, 10, 4, 11, 29, 30, 31, 32, 33, 34, 35, 36, 37] (by decide +kernel) (by decide +kernel)
set_option maxRecDepth 20000 in
theorem gX1_sumOf_X1_measureOf : GoodIn wsX1_sumOf (wsV RX1 79 RX1 yX1_measureOf wsX1_measureOf) := goodIn_app (goodIn_of _ (by decide +kernel)) ggX1_sumOf_X1_measureOf
set_option maxRecDepth 20000 in
theorem ggX1_sumOf_X1_turned : GoodIn wsX1_sumOf wsX1_turned := goodIn_r _ [15, 16, 17, 6, 7, 18, 19, 20, 4, 21, 22, 23, 24, 25, 26, 27, 28, 9, 10, 11, 29, 30, 31, 32, 33, 34, 35, 36, 37] (by decide +kernel) (by decide +kernel)
set_option maxRecDepth 20000 in
theorem gX1_sumOf_X1_turned : GoodIn wsX1_sumOf (wsV RX1 59 RX1 yX1_turned wsX1_turned) := goodIn_app (goodIn_of _ (by decide +kernel)) ggX1_sumOf_X1_turned
theorem dX1_sumOf_0 : decode cX1_sumOf 0 = .ok (.aload_n 0, 1) := by decide +kernel
theorem dX1_sumOf_1 : decode cX1_sumOf 1 = .ok (.iload_n 3, 1) := by decide +kernel
theorem dX1_sumOf_2 : decode cX1_sumOf 2 = .ok (.iload_n 1, 1) := by decide +kernel
theorem dX1_sumOf_3 : decode cX1_sumOf 3 = .ok (.invokevirtual 79, 3) := by decide +kernel
theorem dX1_sumOf_6 : decode cX1_sumOf 6 = .ok (.istore 4, 2) := by decide +kernel
theorem dX1_sumOf_8 : decode cX1_sumOf 8 = .ok (.aload_n 0, 1) := by decide +kernel
theorem dX1_sumOf_9 : decode cX1_sumOf 9 = .ok (.iload_n 1, 1) := by decide +kernel
theorem dX1_sumOf_10 : decode cX1_sumOf 10 = .ok (.iload_n 2, 1) := by decide +kernel
theorem dX1_sumOf_11 : decode cX1_sumOf 11 = .ok (.invokevirtual 59, 3) := by decide +kernel
theorem dX1_sumOf_14 : decode cX1_sumOf 14 = .ok (.istore 5, 2) := by decide +kernel
theorem dX1_sumOf_16 : decode cX1_sumOf 16 = .ok (.iload 5, 2) := by decide +kernel
theorem dX1_sumOf_18 : decode cX1_sumOf 18 = .ok (.iload_n 1, 1) := by decide +kernel
theorem dX1_sumOf_19 : decode cX1_sumOf 19 = .ok (.if_icmp .eq 27, 3) := by decide +kernel
theorem dX1_sumOf_22 : decode cX1_sumOf 22 = .ok (.iload 4, 2) := by decide +kernel
theorem dX1_sumOf_24 : decode cX1_sumOf 24 = .ok (.aload_n 0, 1) := by decide +kernel
theorem dX1_sumOf_25 : decode cX1_sumOf 25 = .ok (.iload_n 3, 1) := by decide +kernel
theorem dX1_sumOf_26 : decode cX1_sumOf 26 = .ok (.iload 5, 2) := by decide +kernel
theorem dX1_sumOf_28 : decode cX1_sumOf 28 = .ok (.invokevirtual 79, 3) := by decide +kernel
theorem dX1_sumOf_31 : decode cX1_sumOf 31 = .ok (.iadd, 1) := by decide +kernel
theorem dX1_sumOf_32 : decode cX1_sumOf 32 = .ok (.istore 4, 2) := by decide +kernel
theorem dX1_sumOf_34 : decode cX1_sumOf 34 = .ok (.aload_n 0, 1) := by decide +kernel
theorem dX1_sumOf_35 : decode cX1_sumOf 35 = .ok (.iload 5, 2) := by decide +kernel
theorem dX1_sumOf_37 : decode cX1_sumOf 37 = .ok (.iload_n 2, 1) := by decide +kernel
theorem dX1_sumOf_38 : decode cX1_sumOf 38 = .ok (.invokevirtual 59, 3) := by decide +kernel
theorem dX1_sumOf_41 : decode cX1_sumOf 41 = .ok (.istore 5, 2) := by decide +kernel
theorem dX1_sumOf_43 : decode cX1_sumOf 43 = .ok (.goto (-27), 3) := by decide +kernel
theorem dX1_sumOf_46 : decode cX1_sumOf 46 = .ok (.iload 4, 2) := by decide +kernel
theorem dX1_sumOf_48 : decode cX1_sumOf 48 = .ok (.ireturn, 1) := by decide +kernel
set_option maxRecDepth 20000 in
theorem ggX1_mean_X1_isHeap : GoodIn wsX1_mean wsX1_isHeap := goodIn_r _ [6, 7, 8, 9, 10, 5, 11, 12, 13, 14, 44, 45, 46, 47, 48, 49, 50, 51, 52] (by decide +kernel) (by decide +kernel)
set_option maxRecDepth 20000 in
theorem gX1_mean_X1_isHeap : GoodIn wsX1_mean (wsV RX1 49 RX1 yX1_isHeap wsX1_isHeap) := goodIn_app (goodIn_of _ (by decide +kernel)) ggX1_mean_X1_isHeap
set_option maxRecDepth 20000 in
theorem ggX1_mean_X1_isKind : GoodIn wsX1_mean wsX1_isKind := goodIn_r _ [17, 9, 10, 5, 11] (by decide +kernel) (by decide +kernel)
set_option maxRecDepth 20000 in
theorem gX1_mean_X1_isKind : GoodIn wsX1_mean (va_wsS RX1 56 yX1_isKind wsX1_isKind) := goodIn_app (goodIn_of _ (by decide +kernel)) ggX1_mean_X1_isKind
set_option maxRecDepth 20000 in
theorem ggX1_mean_X1_in : GoodIn wsX1_mean wsX1_in := goodIn_r _ [11] (by decide +kernel) (by decide +kernel)
set_option maxRecDepth 20000 in
theorem gX1_mean_X1_in : GoodIn wsX1_mean (va_wsS RX1 36 yX1_in wsX1_in) := goodIn_app (goodIn_of _ (by decide +kernel)) ggX1_mean_X1_in
set_option maxRecDepth 20000 in
theorem ggX1_mean_X1_sumOf : GoodIn wsX1_mean wsX1_sumOf := goodIn_r _ [21, 22, 23, 24, 5, 25, 7, 8, 26, 12, 13, 14, 27, 28, 29, 30, 31, 32, 33, 34, 35, 36, 2, 3, 4, 6, 9, 10, 11, 44, 45, 46, 47, 48, 49, 50, 51, 52] (by decide +kernel) (by decide +kernel)
set_option maxRecDepth 20000 in
theorem gX1_mean_X1_sumOf : GoodIn wsX1_mean (wsV RX1 82 RX1 yX1_sumOf wsX1_sumOf) := goodIn_app (goodIn_of _ (by decide +kernel)) ggX1_mean_X1_sumOf
set_option maxRecDepth 20000 in
theorem ggX1_mean_X1_orbitOf : GoodIn wsX1_mean wsX1_orbitOf := goodIn_r _ [40, 27, 28, 29, 5, 30, 31, 32, 7, 8, 33, 34, 35, 36, 2, 3, 4, 6, 9, 10, 11, 12, 13, 14, 44, 45, 46, 47, 48, 49, 50, 51, 52] (by decide +kernel) (by decide +kernel)
set_option maxRecDepth 20000 in
theorem gX1_mean_X1_orbitOf : GoodIn wsX1_mean (wsV RX1 62 RX1 yX1_orbitOf wsX1_orbitOf) := goodIn_app (goodIn_of _ (by decide +kernel)) ggX1_mean_X1_orbitOf
set_option maxRecDepth 20000 in
theorem ggX1_mean_X1_common : GoodIn wsX1_mean wsX1_common := goodIn_r _ [43] (by decide +kernel) (by decide +kernel)
set_option maxRecDepth 20000 in
theorem gX1_mean_X1_common : GoodIn wsX1_mean (va_wsS RX1 67 yX1_common wsX1_common) := goodIn_app (goodIn_of _ (by decide +kernel)) ggX1_mean_X1_common
theorem dX1_mean_0 : decode cX1_mean 0 = .ok (.aload_n 0, 1) := by decide +kernel
theorem dX1_mean_1 : decode cX1_mean 1 = .ok (.iload_n 1, 1) := by decide +kernel
theorem dX1_mean_2 : decode cX1_mean 2 = .ok (.invokevirtual 49, 3) := by decide +kernel
theorem dX1_mean_5 : decode cX1_mean 5 = .ok (.ifCond .eq 29, 3) := by decide +kernel
theorem dX1_mean_8 : decode cX1_mean 8 = .ok (.iload_n 2, 1) := by decide +kernel
theorem dX1_mean_9 : decode cX1_mean 9 = .ok (.invokestatic 56, 3) := by decide +kernel
theorem dX1_mean_12 : decode cX1_mean 12 = .ok (.ifCond .eq 22, 3) := by decide +kernel
theorem dX1_mean_15 : decode cX1_mean 15 = .ok (.iload_n 3, 1) := by decide +kernel
theorem dX1_mean_16 : decode cX1_mean 16 = .ok (.iconst 0, 1) := by decide +kernel
theorem dX1_mean_17 : decode cX1_mean 17 = .ok (.iconst 2, 1) := by decide +kernel
theorem dX1_mean_18 : decode cX1_mean 18 = .ok (.invokestatic 36, 3) := by decide +kernel
theorem dX1_mean_21 : decode cX1_mean 21 = .ok (.ifCond .eq 13, 3) := by decide +kernel
theorem dX1_mean_24 : decode cX1_mean 24 = .ok (.iload 4, 2) := by decide +kernel
theorem dX1_mean_26 : decode cX1_mean 26 = .ok (.iconst 0, 1) := by decide +kernel
theorem dX1_mean_27 : decode cX1_mean 27 = .ok (.iconst 1, 1) := by decide +kernel
theorem dX1_mean_28 : decode cX1_mean 28 = .ok (.invokestatic 36, 3) := by decide +kernel
theorem dX1_mean_31 : decode cX1_mean 31 = .ok (.ifCond .ne 6, 3) := by decide +kernel
theorem dX1_mean_34 : decode cX1_mean 34 = .ok (.ldc 44, 2) := by decide +kernel
theorem dX1_mean_36 : decode cX1_mean 36 = .ok (.ireturn, 1) := by decide +kernel
theorem dX1_mean_37 : decode cX1_mean 37 = .ok (.aload_n 0, 1) := by decide +kernel
theorem dX1_mean_38 : decode cX1_mean 38 = .ok (.iload_n 1, 1) := by decide +kernel
theorem dX1_mean_39 : decode cX1_mean 39 = .ok (.iload_n 2, 1) := by decide +kernel
theorem dX1_mean_40 : decode cX1_mean 40 = .ok (.iload_n 3, 1) := by decide +kernel
theorem dX1_mean_41 : decode cX1_mean 41 = .ok (.invokevirtual 82, 3) := by decide +kernel
theorem dX1_mean_44 : decode cX1_mean 44 = .ok (.istore 5, 2) := by decide +kernel
theorem dX1_mean_46 : decode cX1_mean 46 = .ok (.aload_n 0, 1) := by decide +kernel
theorem dX1_mean_47 : decode cX1_mean 47 = .ok (.iload_n 1, 1) := by decide +kernel
theorem dX1_mean_48 : decode cX1_mean 48 = .ok (.iload_n 2, 1) := by decide +kernel
theorem dX1_mean_49 : decode cX1_mean 49 = .ok (.invokevirtual 62, 3) := by decide +kernel
theorem dX1_mean_52 : decode cX1_mean 52 = .ok (.istore 6, 2) := by decide +kernel
theorem dX1_mean_54 : decode cX1_mean 54 = .ok (.iload 5, 2) := by decide +kernel
theorem dX1_mean_56 : decode cX1_mean 56 = .ok (.i2l, 1) := by decide +kernel
theorem dX1_mean_57 : decode cX1_mean 57 = .ok (.iload 6, 2) := by decide +kernel
theorem dX1_mean_59 : decode cX1_mean 59 = .ok (.i2l, 1) := by decide +kernel
theorem dX1_mean_60 : decode cX1_mean 60 = .ok (.invokestatic 67, 3) := by decide +kernel
theorem dX1_mean_63 : decode cX1_mean 63 = .ok (.l2i, 1) := by decide +kernel
theorem dX1_mean_64 : decode cX1_mean 64 = .ok (.istore 7, 2) := by decide +kernel
theorem dX1_mean_66 : decode cX1_mean 66 = .ok (.iload 4, 2) := by decide +kernel
theorem dX1_mean_68 : decode cX1_mean 68 = .ok (.ifCond .ne 11, 3) := by decide +kernel
theorem dX1_mean_71 : decode cX1_mean 71 = .ok (.iload 5, 2) := by decide +kernel
theorem dX1_mean_73 : decode cX1_mean 73 = .ok (.iload 7, 2) := by decide +kernel
theorem dX1_mean_75 : decode cX1_mean 75 = .ok (.idiv, 1) := by decide +kernel
theorem dX1_mean_76 : decode cX1_mean 76 = .ok (.goto 8, 3) := by decide +kernel
theorem dX1_mean_79 : decode cX1_mean 79 = .ok (.iload 6, 2) := by decide +kernel
theorem dX1_mean_81 : decode cX1_mean 81 = .ok (.iload 7, 2) := by decide +kernel
theorem dX1_mean_83 : decode cX1_mean 83 = .ok (.idiv, 1) := by decide +kernel
theorem dX1_mean_84 : decode cX1_mean 84 = .ok (.ireturn, 1) := by decide +kernel
set_option maxRecDepth 20000 in
theorem ggX1_even_X1_isKind : GoodIn wsX1_even wsX1_isKind := goodIn_r _ [5, 6, 7, 4, 8] (by decide +kernel) (by decide +kernel)
set_option maxRecDepth 20000 in
theorem gX1_even_X1_isKind : GoodIn wsX1_even (va_wsS RX1 56 yX1_isKind wsX1_isKind) := goodIn_app (goodIn_of _ (by decide +kernel)) ggX1_even_X1_isKind
set_option maxRecDepth 20000 in
theorem ggX1_even_X1_in : GoodIn wsX1_even wsX1_in := goodIn_r _ [8] (by decide +kernel) (by decide +kernel)
set_option maxRecDepth 20000 in
theorem gX1_even_X1_in : GoodIn wsX1_even (va_wsS RX1 36 yX1_in wsX1_in) := goodIn_app (goodIn_of _ (by decide +kernel)) ggX1_even_X1_in
set_option maxRecDepth 20000 in
theorem ggX1_even_X1_sumOf : GoodIn wsX1_even wsX1_sumOf := goodIn_r _ [12, 13, 14, 15, 4, 16, 1, 17, 18, 19, 20, 21, 22, 23, 24, 25, 26, 27, 28, 29, 30, 31, 32, 33, 34, 35, 6, 7, 8, 40, 41, 42, 43, 44, 45, 46, 47, 48] (by decide +kernel) (by decide +kernel)
set_option maxRecDepth 20000 in
theorem gX1_even_X1_sumOf : GoodIn wsX1_even (wsV RX1 82 RX1 yX1_sumOf wsX1_sumOf) := goodIn_app (goodIn_of _ (by decide +kernel)) ggX1_even_X1_sumOf
set_option maxRecDepth 20000 in
theorem ggX1_even_X1_orbitOf : GoodIn wsX1_even wsX1_orbitOf := goodIn_r _ [39, 22, 23, 24, 4, 25, 26, 27, 1, 17, 28, 29, 30, 31, 32, 33, 34, 35, 6, 7, 8, 19, 20, 21, 40, 41, 42, 43, 44, 45, 46, 47, 48] (by decide +kernel) (by decide +kernel)
set_option maxRecDepth 20000 in
theorem gX1_even_X1_orbitOf : GoodIn wsX1_even (wsV RX1 62 RX1 yX1_orbitOf wsX1_orbitOf) := goodIn_app (goodIn_of _ (by decide +kernel)) ggX1_even_X1_orbitOf
set_option maxRecDepth 20000 in
theorem ggX1_even_X1_isHeap : GoodIn wsX1_even wsX1_isHeap := goodIn_r _ [35, 1, 17, 6, 7, 4, 8, 19, 20, 21, 40, 41, 42, 43, 44, 45, 46, 47, 48] (by decide +kernel) (by decide +kernel)
set_option maxRecDepth 20000 in
theorem gX1_even_X1_isHeap : GoodIn wsX1_even (wsV RX1 49 RX1 yX1_isHeap wsX1_isHeap) := goodIn_app (goodIn_of _ (by decide +kernel)) ggX1_even_X1_isHeap
theorem dX1_even_0 : decode cX1_even 0 = .ok (.iload_n 1, 1) := by decide +kernel
theorem dX1_even_1 : decode cX1_even 1 = .ok (.invokestatic 56, 3) := by decide +kernel
theorem dX1_even_4 : decode cX1_even 4 = .ok (.ifCond .eq 12, 3) := by decide +kernel
theorem dX1_even_7 : decode cX1_even 7 = .ok (.iload_n 2, 1) := by decide +kernel
theorem dX1_even_8 : decode cX1_even 8 = .ok (.iconst 0, 1) := by decide +kernel
theorem dX1_even_9 : decode cX1_even 9 = .ok (.iconst 2, 1) := by decide +kernel
theorem dX1_even_10 : decode cX1_even 10 = .ok (.invokestatic 36, 3) := by decide +kernel
theorem dX1_even_13 : decode cX1_even 13 = .ok (.ifCond .ne 5, 3) := by decide +kernel
theorem dX1_even_16 : decode cX1_even 16 = .ok (.iconst (-1), 1) := by decide +kernel
theorem dX1_even_17 : decode cX1_even 17 = .ok (.ireturn, 1) := by decide +kernel
theorem dX1_even_18 : decode cX1_even 18 = .ok (.aload_n 0, 1) := by decide +kernel
theorem dX1_even_19 : decode cX1_even 19 = .ok (.iconst 0, 1) := by decide +kernel
theorem dX1_even_20 : decode cX1_even 20 = .ok (.iload_n 1, 1) := by decide +kernel
theorem dX1_even_21 : decode cX1_even 21 = .ok (.iload_n 2, 1) := by decide +kernel
theorem dX1_even_22 : decode cX1_even 22 = .ok (.invokevirtual 82, 3) := by decide +kernel
theorem dX1_even_25 : decode cX1_even 25 = .ok (.istore_n 3, 1) := by decide +kernel
theorem dX1_even_26 : decode cX1_even 26 = .ok (.aload_n 0, 1) := by decide +kernel
theorem dX1_even_27 : decode cX1_even 27 = .ok (.iconst 0, 1) := by decide +kernel
theorem dX1_even_28 : decode cX1_even 28 = .ok (.iload_n 1, 1) := by decide +kernel
theorem dX1_even_29 : decode cX1_even 29 = .ok (.invokevirtual 62, 3) := by decide +kernel
theorem dX1_even_32 : decode cX1_even 32 = .ok (.istore 4, 2) := by decide +kernel
theorem dX1_even_34 : decode cX1_even 34 = .ok (.iconst 1, 1) := by decide +kernel
theorem dX1_even_35 : decode cX1_even 35 = .ok (.istore 5, 2) := by decide +kernel
theorem dX1_even_37 : decode cX1_even 37 = .ok (.iconst 1, 1) := by decide +kernel
theorem dX1_even_38 : decode cX1_even 38 = .ok (.istore 6, 2) := by decide +kernel
theorem dX1_even_40 : decode cX1_even 40 = .ok (.iload 6, 2) := by decide +kernel
theorem dX1_even_42 : decode cX1_even 42 = .ok (.iconst 1, 1) := by decide +kernel
theorem dX1_even_43 : decode cX1_even 43 = .ok (.aload_n 0, 1) := by decide +kernel
theorem dX1_even_44 : decode cX1_even 44 = .ok (.getfield 7, 3) := by decide +kernel
theorem dX1_even_47 : decode cX1_even 47 = .ok (.ishl, 1) := by decide +kernel
theorem dX1_even_48 : decode cX1_even 48 = .ok (.if_icmp .ge 53, 3) := by decide +kernel
theorem dX1_even_51 : decode cX1_even 51 = .ok (.iload 5, 2) := by decide +kernel
theorem dX1_even_53 : decode cX1_even 53 = .ok (.ifCond .eq 39, 3) := by decide +kernel
theorem dX1_even_56 : decode cX1_even 56 = .ok (.aload_n 0, 1) := by decide +kernel
theorem dX1_even_57 : decode cX1_even 57 = .ok (.iload 6, 2) := by decide +kernel
theorem dX1_even_59 : decode cX1_even 59 = .ok (.invokevirtual 49, 3) := by decide +kernel
theorem dX1_even_62 : decode cX1_even 62 = .ok (.ifCond .eq 26, 3) := by decide +kernel
theorem dX1_even_65 : decode cX1_even 65 = .ok (.aload_n 0, 1) := by decide +kernel
theorem dX1_even_66 : decode cX1_even 66 = .ok (.iload 6, 2) := by decide +kernel
theorem dX1_even_68 : decode cX1_even 68 = .ok (.iload_n 1, 1) := by decide +kernel
theorem dX1_even_69 : decode cX1_even 69 = .ok (.iload_n 2, 1) := by decide +kernel
theorem dX1_even_70 : decode cX1_even 70 = .ok (.invokevirtual 82, 3) := by decide +kernel
theorem dX1_even_73 : decode cX1_even 73 = .ok (.iload 4, 2) := by decide +kernel
theorem dX1_even_75 : decode cX1_even 75 = .ok (.imul, 1) := by decide +kernel
theorem dX1_even_76 : decode cX1_even 76 = .ok (.iload_n 3, 1) := by decide +kernel
theorem dX1_even_77 : decode cX1_even 77 = .ok (.aload_n 0, 1) := by decide +kernel
theorem dX1_even_78 : decode cX1_even 78 = .ok (.iload 6, 2) := by decide +kernel
theorem dX1_even_80 : decode cX1_even 80 = .ok (.iload_n 1, 1) := by decide +kernel
theorem dX1_even_81 : decode cX1_even 81 = .ok (.invokevirtual 62, 3) := by decide +kernel
theorem dX1_even_84 : decode cX1_even 84 = .ok (.imul, 1) := by decide +kernel
theorem dX1_even_85 : decode cX1_even 85 = .ok (.if_icmp .ne 7, 3) := by decide +kernel
theorem dX1_even_88 : decode cX1_even 88 = .ok (.iconst 1, 1) := by decide +kernel
theorem dX1_even_89 : decode cX1_even 89 = .ok (.goto 4, 3) := by decide +kernel
theorem dX1_even_92 : decode cX1_even 92 = .ok (.iconst 0, 1) := by decide +kernel
theorem dX1_even_93 : decode cX1_even 93 = .ok (.istore 5, 2) := by decide +kernel
theorem dX1_even_95 : decode cX1_even 95 = .ok (.iinc 6 1, 3) := by decide +kernel
theorem dX1_even_98 : decode cX1_even 98 = .ok (.goto (-58), 3) := by decide +kernel
theorem dX1_even_101 : decode cX1_even 101 = .ok (.iload 5, 2) := by decide +kernel
theorem dX1_even_103 : decode cX1_even 103 = .ok (.ifCond .eq 7, 3) := by decide +kernel
theorem dX1_even_106 : decode cX1_even 106 = .ok (.iconst 1, 1) := by decide +kernel
theorem dX1_even_107 : decode cX1_even 107 = .ok (.goto 4, 3) := by decide +kernel
theorem dX1_even_110 : decode cX1_even 110 = .ok (.iconst 0, 1) := by decide +kernel
theorem dX1_even_111 : decode cX1_even 111 = .ok (.ireturn, 1) := by decide +kernel
theorem dX1_take_0 : decode cX1_take 0 = .ok (.iload_n 2, 1) := by decide +kernel
theorem dX1_take_1 : decode cX1_take 1 = .ok (.istore_n 3, 1) := by decide +kernel
theorem dX1_take_2 : decode cX1_take 2 = .ok (.iconst 0, 1) := by decide +kernel
theorem dX1_take_3 : decode cX1_take 3 = .ok (.istore 4, 2) := by decide +kernel
theorem dX1_take_5 : decode cX1_take 5 = .ok (.iload 4, 2) := by decide +kernel
theorem dX1_take_7 : decode cX1_take 7 = .ok (.aload_n 0, 1) := by decide +kernel
theorem dX1_take_8 : decode cX1_take 8 = .ok (.getfield 7, 3) := by decide +kernel
theorem dX1_take_11 : decode cX1_take 11 = .ok (.if_icmp .ge 27, 3) := by decide +kernel
theorem dX1_take_14 : decode cX1_take 14 = .ok (.aload_n 0, 1) := by decide +kernel
theorem dX1_take_15 : decode cX1_take 15 = .ok (.getfield 27, 3) := by decide +kernel
theorem dX1_take_18 : decode cX1_take 18 = .ok (.iload 4, 2) := by decide +kernel
theorem dX1_take_20 : decode cX1_take 20 = .ok (.iload_n 3, 1) := by decide +kernel
theorem dX1_take_21 : decode cX1_take 21 = .ok (.iload_n 1, 1) := by decide +kernel
theorem dX1_take_22 : decode cX1_take 22 = .ok (.iconst 1, 1) := by decide +kernel
theorem dX1_take_23 : decode cX1_take 23 = .ok (.iadd, 1) := by decide +kernel
theorem dX1_take_24 : decode cX1_take 24 = .ok (.irem, 1) := by decide +kernel
theorem dX1_take_25 : decode cX1_take 25 = .ok (.iastore, 1) := by decide +kernel
theorem dX1_take_26 : decode cX1_take 26 = .ok (.iload_n 3, 1) := by decide +kernel
theorem dX1_take_27 : decode cX1_take 27 = .ok (.iload_n 1, 1) := by decide +kernel
theorem dX1_take_28 : decode cX1_take 28 = .ok (.iconst 1, 1) := by decide +kernel
theorem dX1_take_29 : decode cX1_take 29 = .ok (.iadd, 1) := by decide +kernel
theorem dX1_take_30 : decode cX1_take 30 = .ok (.idiv, 1) := by decide +kernel
theorem dX1_take_31 : decode cX1_take 31 = .ok (.istore_n 3, 1) := by decide +kernel
theorem dX1_take_32 : decode cX1_take 32 = .ok (.iinc 4 1, 3) := by decide +kernel
theorem dX1_take_35 : decode cX1_take 35 = .ok (.goto (-30), 3) := by decide +kernel
theorem dX1_take_38 : decode cX1_take 38 = .ok (.iload_n 3, 1) := by decide +kernel
theorem dX1_take_39 : decode cX1_take 39 = .ok (.ifCond .ne 11, 3) := by decide +kernel
theorem dX1_take_42 : decode cX1_take 42 = .ok (.iload_n 2, 1) := by decide +kernel
theorem dX1_take_43 : decode cX1_take 43 = .ok (.ifCond .lt 7, 3) := by decide +kernel
theorem dX1_take_46 : decode cX1_take 46 = .ok (.iconst 1, 1) := by decide +kernel
theorem dX1_take_47 : decode cX1_take 47 = .ok (.goto 4, 3) := by decide +kernel
theorem dX1_take_50 : decode cX1_take 50 = .ok (.iconst 0, 1) := by decide +kernel
theorem dX1_take_51 : decode cX1_take 51 = .ok (.istore 4, 2) := by decide +kernel
theorem dX1_take_53 : decode cX1_take 53 = .ok (.iconst 0, 1) := by decide +kernel
theorem dX1_take_54 : decode cX1_take 54 = .ok (.istore 5, 2) := by decide +kernel
theorem dX1_take_56 : decode cX1_take 56 = .ok (.iload 5, 2) := by decide +kernel
theorem dX1_take_58 : decode cX1_take 58 = .ok (.aload_n 0, 1) := by decide +kernel
theorem dX1_take_59 : decode cX1_take 59 = .ok (.getfield 7, 3) := by decide +kernel
theorem dX1_take_62 : decode cX1_take 62 = .ok (.if_icmp .ge 75, 3) := by decide +kernel
theorem dX1_take_65 : decode cX1_take 65 = .ok (.iload 5, 2) := by decide +kernel
theorem dX1_take_67 : decode cX1_take 67 = .ok (.iconst 1, 1) := by decide +kernel
theorem dX1_take_68 : decode cX1_take 68 = .ok (.iadd, 1) := by decide +kernel
theorem dX1_take_69 : decode cX1_take 69 = .ok (.istore 6, 2) := by decide +kernel
theorem dX1_take_71 : decode cX1_take 71 = .ok (.iload 6, 2) := by decide +kernel
theorem dX1_take_73 : decode cX1_take 73 = .ok (.aload_n 0, 1) := by decide +kernel
theorem dX1_take_74 : decode cX1_take 74 = .ok (.getfield 7, 3) := by decide +kernel
theorem dX1_take_77 : decode cX1_take 77 = .ok (.if_icmp .ge 54, 3) := by decide +kernel
theorem dX1_take_80 : decode cX1_take 80 = .ok (.iload 4, 2) := by decide +kernel
theorem dX1_take_82 : decode cX1_take 82 = .ok (.ifCond .eq 40, 3) := by decide +kernel
theorem dX1_take_85 : decode cX1_take 85 = .ok (.aload_n 0, 1) := by decide +kernel
theorem dX1_take_86 : decode cX1_take 86 = .ok (.getfield 13, 3) := by decide +kernel
theorem dX1_take_89 : decode cX1_take 89 = .ok (.bipush 8, 2) := by decide +kernel
theorem dX1_take_91 : decode cX1_take 91 = .ok (.iload 5, 2) := by decide +kernel
theorem dX1_take_93 : decode cX1_take 93 = .ok (.imul, 1) := by decide +kernel
theorem dX1_take_94 : decode cX1_take 94 = .ok (.iload 6, 2) := by decide +kernel
theorem dX1_take_96 : decode cX1_take 96 = .ok (.iadd, 1) := by decide +kernel
theorem dX1_take_97 : decode cX1_take 97 = .ok (.baload, 1) := by decide +kernel
theorem dX1_take_98 : decode cX1_take 98 = .ok (.ifCond .eq 20, 3) := by decide +kernel
theorem dX1_take_101 : decode cX1_take 101 = .ok (.aload_n 0, 1) := by decide +kernel
theorem dX1_take_102 : decode cX1_take 102 = .ok (.getfield 27, 3) := by decide +kernel
theorem dX1_take_105 : decode cX1_take 105 = .ok (.iload 5, 2) := by decide +kernel
theorem dX1_take_107 : decode cX1_take 107 = .ok (.iaload, 1) := by decide +kernel
theorem dX1_take_108 : decode cX1_take 108 = .ok (.aload_n 0, 1) := by decide +kernel
theorem dX1_take_109 : decode cX1_take 109 = .ok (.getfield 27, 3) := by decide +kernel
theorem dX1_take_112 : decode cX1_take 112 = .ok (.iload 6, 2) := by decide +kernel
theorem dX1_take_114 : decode cX1_take 114 = .ok (.iaload, 1) := by decide +kernel
theorem dX1_take_115 : decode cX1_take 115 = .ok (.if_icmp .lt 7, 3) := by decide +kernel
theorem dX1_take_118 : decode cX1_take 118 = .ok (.iconst 1, 1) := by decide +kernel
theorem dX1_take_119 : decode cX1_take 119 = .ok (.goto 4, 3) := by decide +kernel
theorem dX1_take_122 : decode cX1_take 122 = .ok (.iconst 0, 1) := by decide +kernel
theorem dX1_take_123 : decode cX1_take 123 = .ok (.istore 4, 2) := by decide +kernel
theorem dX1_take_125 : decode cX1_take 125 = .ok (.iinc 6 1, 3) := by decide +kernel
theorem dX1_take_128 : decode cX1_take 128 = .ok (.goto (-57), 3) := by decide +kernel
theorem dX1_take_131 : decode cX1_take 131 = .ok (.iinc 5 1, 3) := by decide +kernel
theorem dX1_take_134 : decode cX1_take 134 = .ok (.goto (-78), 3) := by decide +kernel
theorem dX1_take_137 : decode cX1_take 137 = .ok (.iload 4, 2) := by decide +kernel
theorem dX1_take_139 : decode cX1_take 139 = .ok (.ireturn, 1) := by decide +kernel
theorem dX1_number_0 : decode cX1_number 0 = .ok (.iconst 0, 1) := by decide +kernel
theorem dX1_number_1 : decode cX1_number 1 = .ok (.istore_n 2, 1) := by decide +kernel
theorem dX1_number_2 : decode cX1_number 2 = .ok (.aload_n 0, 1) := by decide +kernel
theorem dX1_number_3 : decode cX1_number 3 = .ok (.getfield 7, 3) := by decide +kernel
theorem dX1_number_6 : decode cX1_number 6 = .ok (.iconst 1, 1) := by decide +kernel
theorem dX1_number_7 : decode cX1_number 7 = .ok (.isub, 1) := by decide +kernel
theorem dX1_number_8 : decode cX1_number 8 = .ok (.istore_n 3, 1) := by decide +kernel
theorem dX1_number_9 : decode cX1_number 9 = .ok (.iload_n 3, 1) := by decide +kernel
theorem dX1_number_10 : decode cX1_number 10 = .ok (.ifCond .lt 22, 3) := by decide +kernel
theorem dX1_number_13 : decode cX1_number 13 = .ok (.iload_n 1, 1) := by decide +kernel
theorem dX1_number_14 : decode cX1_number 14 = .ok (.iconst 1, 1) := by decide +kernel
theorem dX1_number_15 : decode cX1_number 15 = .ok (.iadd, 1) := by decide +kernel
theorem dX1_number_16 : decode cX1_number 16 = .ok (.iload_n 2, 1) := by decide +kernel
theorem dX1_number_17 : decode cX1_number 17 = .ok (.imul, 1) := by decide +kernel
theorem dX1_number_18 : decode cX1_number 18 = .ok (.aload_n 0, 1) := by decide +kernel
theorem dX1_number_19 : decode cX1_number 19 = .ok (.getfield 27, 3) := by decide +kernel
theorem dX1_number_22 : decode cX1_number 22 = .ok (.iload_n 3, 1) := by decide +kernel
theorem dX1_number_23 : decode cX1_number 23 = .ok (.iaload, 1) := by decide +kernel
theorem dX1_number_24 : decode cX1_number 24 = .ok (.iadd, 1) := by decide +kernel
theorem dX1_number_25 : decode cX1_number 25 = .ok (.istore_n 2, 1) := by decide +kernel
theorem dX1_number_26 : decode cX1_number 26 = .ok (.iinc 3 (-1), 3) := by decide +kernel
theorem dX1_number_29 : decode cX1_number 29 = .ok (.goto (-20), 3) := by decide +kernel
theorem dX1_number_32 : decode cX1_number 32 = .ok (.iload_n 2, 1) := by decide +kernel
theorem dX1_number_33 : decode cX1_number 33 = .ok (.ireturn, 1) := by decide +kernel
theorem dX1_bends_0 : decode cX1_bends 0 = .ok (.iload_n 1, 1) := by decide +kernel
theorem dX1_bends_1 : decode cX1_bends 1 = .ok (.istore_n 3, 1) := by decide +kernel
theorem dX1_bends_2 : decode cX1_bends 2 = .ok (.iconst 0, 1) := by decide +kernel
theorem dX1_bends_3 : decode cX1_bends 3 = .ok (.istore 4, 2) := by decide +kernel
theorem dX1_bends_5 : decode cX1_bends 5 = .ok (.iconst 0, 1) := by decide +kernel
theorem dX1_bends_6 : decode cX1_bends 6 = .ok (.istore 5, 2) := by decide +kernel
theorem dX1_bends_8 : decode cX1_bends 8 = .ok (.iload 5, 2) := by decide +kernel
theorem dX1_bends_10 : decode cX1_bends 10 = .ok (.aload_n 0, 1) := by decide +kernel
theorem dX1_bends_11 : decode cX1_bends 11 = .ok (.getfield 7, 3) := by decide +kernel
theorem dX1_bends_14 : decode cX1_bends 14 = .ok (.if_icmp .ge 88, 3) := by decide +kernel
theorem dX1_bends_17 : decode cX1_bends 17 = .ok (.aload_n 0, 1) := by decide +kernel
theorem dX1_bends_18 : decode cX1_bends 18 = .ok (.getfield 13, 3) := by decide +kernel
theorem dX1_bends_21 : decode cX1_bends 21 = .ok (.bipush 8, 2) := by decide +kernel
theorem dX1_bends_23 : decode cX1_bends 23 = .ok (.iload 5, 2) := by decide +kernel
theorem dX1_bends_25 : decode cX1_bends 25 = .ok (.imul, 1) := by decide +kernel
theorem dX1_bends_26 : decode cX1_bends 26 = .ok (.iload_n 2, 1) := by decide +kernel
theorem dX1_bends_27 : decode cX1_bends 27 = .ok (.iadd, 1) := by decide +kernel
theorem dX1_bends_28 : decode cX1_bends 28 = .ok (.baload, 1) := by decide +kernel
theorem dX1_bends_29 : decode cX1_bends 29 = .ok (.ifCond .eq 24, 3) := by decide +kernel
theorem dX1_bends_32 : decode cX1_bends 32 = .ok (.aload_n 0, 1) := by decide +kernel
theorem dX1_bends_33 : decode cX1_bends 33 = .ok (.getfield 27, 3) := by decide +kernel
theorem dX1_bends_36 : decode cX1_bends 36 = .ok (.iload 5, 2) := by decide +kernel
theorem dX1_bends_38 : decode cX1_bends 38 = .ok (.iaload, 1) := by decide +kernel
theorem dX1_bends_39 : decode cX1_bends 39 = .ok (.iload_n 3, 1) := by decide +kernel
theorem dX1_bends_40 : decode cX1_bends 40 = .ok (.if_icmp .ge 13, 3) := by decide +kernel
theorem dX1_bends_43 : decode cX1_bends 43 = .ok (.aload_n 0, 1) := by decide +kernel
theorem dX1_bends_44 : decode cX1_bends 44 = .ok (.getfield 27, 3) := by decide +kernel
theorem dX1_bends_47 : decode cX1_bends 47 = .ok (.iload 5, 2) := by decide +kernel
theorem dX1_bends_49 : decode cX1_bends 49 = .ok (.iaload, 1) := by decide +kernel
theorem dX1_bends_50 : decode cX1_bends 50 = .ok (.goto 4, 3) := by decide +kernel
theorem dX1_bends_53 : decode cX1_bends 53 = .ok (.iload_n 3, 1) := by decide +kernel
theorem dX1_bends_54 : decode cX1_bends 54 = .ok (.istore_n 3, 1) := by decide +kernel
theorem dX1_bends_55 : decode cX1_bends 55 = .ok (.aload_n 0, 1) := by decide +kernel
theorem dX1_bends_56 : decode cX1_bends 56 = .ok (.getfield 13, 3) := by decide +kernel
theorem dX1_bends_59 : decode cX1_bends 59 = .ok (.bipush 8, 2) := by decide +kernel
theorem dX1_bends_61 : decode cX1_bends 61 = .ok (.iload_n 2, 1) := by decide +kernel
theorem dX1_bends_62 : decode cX1_bends 62 = .ok (.imul, 1) := by decide +kernel
theorem dX1_bends_63 : decode cX1_bends 63 = .ok (.iload 5, 2) := by decide +kernel
theorem dX1_bends_65 : decode cX1_bends 65 = .ok (.iadd, 1) := by decide +kernel
theorem dX1_bends_66 : decode cX1_bends 66 = .ok (.baload, 1) := by decide +kernel
theorem dX1_bends_67 : decode cX1_bends 67 = .ok (.ifCond .eq 25, 3) := by decide +kernel
theorem dX1_bends_70 : decode cX1_bends 70 = .ok (.aload_n 0, 1) := by decide +kernel
theorem dX1_bends_71 : decode cX1_bends 71 = .ok (.getfield 27, 3) := by decide +kernel
theorem dX1_bends_74 : decode cX1_bends 74 = .ok (.iload 5, 2) := by decide +kernel
theorem dX1_bends_76 : decode cX1_bends 76 = .ok (.iaload, 1) := by decide +kernel
theorem dX1_bends_77 : decode cX1_bends 77 = .ok (.iload 4, 2) := by decide +kernel
theorem dX1_bends_79 : decode cX1_bends 79 = .ok (.if_icmp .le 13, 3) := by decide +kernel
theorem dX1_bends_82 : decode cX1_bends 82 = .ok (.aload_n 0, 1) := by decide +kernel
theorem dX1_bends_83 : decode cX1_bends 83 = .ok (.getfield 27, 3) := by decide +kernel
theorem dX1_bends_86 : decode cX1_bends 86 = .ok (.iload 5, 2) := by decide +kernel
theorem dX1_bends_88 : decode cX1_bends 88 = .ok (.iaload, 1) := by decide +kernel
theorem dX1_bends_89 : decode cX1_bends 89 = .ok (.goto 5, 3) := by decide +kernel
theorem dX1_bends_92 : decode cX1_bends 92 = .ok (.iload 4, 2) := by decide +kernel
theorem dX1_bends_94 : decode cX1_bends 94 = .ok (.istore 4, 2) := by decide +kernel
theorem dX1_bends_96 : decode cX1_bends 96 = .ok (.iinc 5 1, 3) := by decide +kernel
theorem dX1_bends_99 : decode cX1_bends 99 = .ok (.goto (-91), 3) := by decide +kernel
theorem dX1_bends_102 : decode cX1_bends 102 = .ok (.aload_n 0, 1) := by decide +kernel
theorem dX1_bends_103 : decode cX1_bends 103 = .ok (.getfield 27, 3) := by decide +kernel
theorem dX1_bends_106 : decode cX1_bends 106 = .ok (.iload_n 2, 1) := by decide +kernel
theorem dX1_bends_107 : decode cX1_bends 107 = .ok (.iload_n 3, 1) := by decide +kernel
theorem dX1_bends_108 : decode cX1_bends 108 = .ok (.iload 4, 2) := by decide +kernel
theorem dX1_bends_110 : decode cX1_bends 110 = .ok (.iadd, 1) := by decide +kernel
theorem dX1_bends_111 : decode cX1_bends 111 = .ok (.aload_n 0, 1) := by decide +kernel
theorem dX1_bends_112 : decode cX1_bends 112 = .ok (.getfield 27, 3) := by decide +kernel
theorem dX1_bends_115 : decode cX1_bends 115 = .ok (.iload_n 2, 1) := by decide +kernel
theorem dX1_bends_116 : decode cX1_bends 116 = .ok (.iaload, 1) := by decide +kernel
theorem dX1_bends_117 : decode cX1_bends 117 = .ok (.isub, 1) := by decide +kernel
theorem dX1_bends_118 : decode cX1_bends 118 = .ok (.iastore, 1) := by decide +kernel
theorem dX1_bends_119 : decode cX1_bends 119 = .ok (.return_, 1) := by decide +kernel
set_option maxRecDepth 20000 in
theorem ggX1_rounds_X1_bends : GoodIn wsX1_rounds wsX1_bends := goodIn_r _ [8, 3, 9, 10, 11, 12, 13, 14, 15, 16, 17, 18, 19] (by decide +kernel) (by decide +kernel)
set_option maxRecDepth 20000 in
theorem gX1_rounds_X1_bends : GoodIn wsX1_rounds (wsV RX1 86 RX1 yX1_bends wsX1_bends) := goodIn_app (goodIn_of _ (by decide +kernel)) ggX1_rounds_X1_bends
theorem dX1_rounds_0 : decode cX1_rounds 0 = .ok (.iload_n 2, 1) := by decide +kernel
theorem dX1_rounds_1 : decode cX1_rounds 1 = .ok (.iconst 1, 1) := by decide +kernel
theorem dX1_rounds_2 : decode cX1_rounds 2 = .ok (.if_icmp .ne 33, 3) := by decide +kernel
theorem dX1_rounds_5 : decode cX1_rounds 5 = .ok (.iconst 0, 1) := by decide +kernel
theorem dX1_rounds_6 : decode cX1_rounds 6 = .ok (.istore_n 3, 1) := by decide +kernel
theorem dX1_rounds_7 : decode cX1_rounds 7 = .ok (.iload_n 3, 1) := by decide +kernel
theorem dX1_rounds_8 : decode cX1_rounds 8 = .ok (.aload_n 0, 1) := by decide +kernel
theorem dX1_rounds_9 : decode cX1_rounds 9 = .ok (.getfield 33, 3) := by decide +kernel
theorem dX1_rounds_12 : decode cX1_rounds 12 = .ok (.if_icmp .ge 20, 3) := by decide +kernel
theorem dX1_rounds_15 : decode cX1_rounds 15 = .ok (.aload_n 0, 1) := by decide +kernel
theorem dX1_rounds_16 : decode cX1_rounds 16 = .ok (.iload_n 1, 1) := by decide +kernel
theorem dX1_rounds_17 : decode cX1_rounds 17 = .ok (.aload_n 0, 1) := by decide +kernel
theorem dX1_rounds_18 : decode cX1_rounds 18 = .ok (.getfield 21, 3) := by decide +kernel
theorem dX1_rounds_21 : decode cX1_rounds 21 = .ok (.iload_n 3, 1) := by decide +kernel
theorem dX1_rounds_22 : decode cX1_rounds 22 = .ok (.iaload, 1) := by decide +kernel
theorem dX1_rounds_23 : decode cX1_rounds 23 = .ok (.invokevirtual 86, 3) := by decide +kernel
theorem dX1_rounds_26 : decode cX1_rounds 26 = .ok (.iinc 3 1, 3) := by decide +kernel
theorem dX1_rounds_29 : decode cX1_rounds 29 = .ok (.goto (-22), 3) := by decide +kernel
theorem dX1_rounds_32 : decode cX1_rounds 32 = .ok (.goto 26, 3) := by decide +kernel
theorem dX1_rounds_35 : decode cX1_rounds 35 = .ok (.aload_n 0, 1) := by decide +kernel
theorem dX1_rounds_36 : decode cX1_rounds 36 = .ok (.getfield 7, 3) := by decide +kernel
theorem dX1_rounds_39 : decode cX1_rounds 39 = .ok (.iconst 1, 1) := by decide +kernel
theorem dX1_rounds_40 : decode cX1_rounds 40 = .ok (.isub, 1) := by decide +kernel
theorem dX1_rounds_41 : decode cX1_rounds 41 = .ok (.istore_n 3, 1) := by decide +kernel
theorem dX1_rounds_42 : decode cX1_rounds 42 = .ok (.iload_n 3, 1) := by decide +kernel
theorem dX1_rounds_43 : decode cX1_rounds 43 = .ok (.ifCond .lt 15, 3) := by decide +kernel
theorem dX1_rounds_46 : decode cX1_rounds 46 = .ok (.aload_n 0, 1) := by decide +kernel
theorem dX1_rounds_47 : decode cX1_rounds 47 = .ok (.iload_n 1, 1) := by decide +kernel
theorem dX1_rounds_48 : decode cX1_rounds 48 = .ok (.iload_n 3, 1) := by decide +kernel
theorem dX1_rounds_49 : decode cX1_rounds 49 = .ok (.invokevirtual 86, 3) := by decide +kernel
theorem dX1_rounds_52 : decode cX1_rounds 52 = .ok (.iinc 3 (-1), 3) := by decide +kernel
theorem dX1_rounds_55 : decode cX1_rounds 55 = .ok (.goto (-13), 3) := by decide +kernel
theorem dX1_rounds_58 : decode cX1_rounds 58 = .ok (.return_, 1) := by decide +kernel
set_option maxRecDepth 20000 in
theorem ggX1_isHeight_X1_in : GoodIn wsX1_isHeight wsX1_in := goodIn_r _ [4] (by decide +kernel) (by decide +kernel)
set_option maxRecDepth 20000 in
theorem gX1_isHeight_X1_in : GoodIn wsX1_isHeight (va_wsS RX1 36 yX1_in wsX1_in) := goodIn_app (goodIn_of _ (by decide +kernel)) ggX1_isHeight_X1_in
theorem dX1_isHeight_0 : decode cX1_isHeight 0 = .ok (.iload_n 0, 1) := by decide +kernel
theorem dX1_isHeight_1 : decode cX1_isHeight 1 = .ok (.iconst 1, 1) := by decide +kernel
theorem dX1_isHeight_2 : decode cX1_isHeight 2 = .ok (.iconst 3, 1) := by decide +kernel
theorem dX1_isHeight_3 : decode cX1_isHeight 3 = .ok (.invokestatic 36, 3) := by decide +kernel
theorem dX1_isHeight_6 : decode cX1_isHeight 6 = .ok (.ireturn, 1) := by decide +kernel
set_option maxRecDepth 20000 in
theorem ggX1_fillings_X1_isHeight : GoodIn wsX1_fillings wsX1_isHeight := goodIn_r _ [5, 6, 7, 4, 8] (by decide +kernel) (by decide +kernel)
set_option maxRecDepth 20000 in
theorem gX1_fillings_X1_isHeight : GoodIn wsX1_fillings (va_wsS RX1 90 yX1_isHeight wsX1_isHeight) := goodIn_app (goodIn_of _ (by decide +kernel)) ggX1_fillings_X1_isHeight
set_option maxRecDepth 20000 in
theorem ggX1_fillings_X1_take : GoodIn wsX1_fillings wsX1_take := goodIn_r _ [12, 1, 13, 14, 15, 16, 17, 18, 19, 20, 21, 22, 23] (by decide +kernel) (by decide +kernel)
set_option maxRecDepth 20000 in
theorem gX1_fillings_X1_take : GoodIn wsX1_fillings (wsV RX1 93 RX1 yX1_take wsX1_take) := goodIn_app (goodIn_of _ (by decide +kernel)) ggX1_fillings_X1_take
theorem dX1_fillings_0 : decode cX1_fillings 0 = .ok (.iload_n 1, 1) := by decide +kernel
theorem dX1_fillings_1 : decode cX1_fillings 1 = .ok (.invokestatic 90, 3) := by decide +kernel
theorem dX1_fillings_4 : decode cX1_fillings 4 = .ok (.ifCond .ne 5, 3) := by decide +kernel
theorem dX1_fillings_7 : decode cX1_fillings 7 = .ok (.iconst (-1), 1) := by decide +kernel
theorem dX1_fillings_8 : decode cX1_fillings 8 = .ok (.ireturn, 1) := by decide +kernel
theorem dX1_fillings_9 : decode cX1_fillings 9 = .ok (.iconst 1, 1) := by decide +kernel
theorem dX1_fillings_10 : decode cX1_fillings 10 = .ok (.istore_n 2, 1) := by decide +kernel
theorem dX1_fillings_11 : decode cX1_fillings 11 = .ok (.iconst 0, 1) := by decide +kernel
theorem dX1_fillings_12 : decode cX1_fillings 12 = .ok (.istore_n 3, 1) := by decide +kernel
theorem dX1_fillings_13 : decode cX1_fillings 13 = .ok (.iload_n 3, 1) := by decide +kernel
theorem dX1_fillings_14 : decode cX1_fillings 14 = .ok (.aload_n 0, 1) := by decide +kernel
theorem dX1_fillings_15 : decode cX1_fillings 15 = .ok (.getfield 7, 3) := by decide +kernel
theorem dX1_fillings_18 : decode cX1_fillings 18 = .ok (.if_icmp .ge 15, 3) := by decide +kernel
theorem dX1_fillings_21 : decode cX1_fillings 21 = .ok (.iload_n 2, 1) := by decide +kernel
theorem dX1_fillings_22 : decode cX1_fillings 22 = .ok (.iload_n 1, 1) := by decide +kernel
theorem dX1_fillings_23 : decode cX1_fillings 23 = .ok (.iconst 1, 1) := by decide +kernel
theorem dX1_fillings_24 : decode cX1_fillings 24 = .ok (.iadd, 1) := by decide +kernel
theorem dX1_fillings_25 : decode cX1_fillings 25 = .ok (.imul, 1) := by decide +kernel
theorem dX1_fillings_26 : decode cX1_fillings 26 = .ok (.istore_n 2, 1) := by decide +kernel
theorem dX1_fillings_27 : decode cX1_fillings 27 = .ok (.iinc 3 1, 3) := by decide +kernel
theorem dX1_fillings_30 : decode cX1_fillings 30 = .ok (.goto (-17), 3) := by decide +kernel
theorem dX1_fillings_33 : decode cX1_fillings 33 = .ok (.iconst 0, 1) := by decide +kernel
theorem dX1_fillings_34 : decode cX1_fillings 34 = .ok (.istore_n 3, 1) := by decide +kernel
theorem dX1_fillings_35 : decode cX1_fillings 35 = .ok (.iconst 0, 1) := by decide +kernel
theorem dX1_fillings_36 : decode cX1_fillings 36 = .ok (.istore 4, 2) := by decide +kernel
theorem dX1_fillings_38 : decode cX1_fillings 38 = .ok (.iload 4, 2) := by decide +kernel
theorem dX1_fillings_40 : decode cX1_fillings 40 = .ok (.iload_n 2, 1) := by decide +kernel
theorem dX1_fillings_41 : decode cX1_fillings 41 = .ok (.if_icmp .ge 27, 3) := by decide +kernel
theorem dX1_fillings_44 : decode cX1_fillings 44 = .ok (.iload_n 3, 1) := by decide +kernel
theorem dX1_fillings_45 : decode cX1_fillings 45 = .ok (.aload_n 0, 1) := by decide +kernel
theorem dX1_fillings_46 : decode cX1_fillings 46 = .ok (.iload_n 1, 1) := by decide +kernel
theorem dX1_fillings_47 : decode cX1_fillings 47 = .ok (.iload 4, 2) := by decide +kernel
theorem dX1_fillings_49 : decode cX1_fillings 49 = .ok (.invokevirtual 93, 3) := by decide +kernel
theorem dX1_fillings_52 : decode cX1_fillings 52 = .ok (.ifCond .eq 7, 3) := by decide +kernel
theorem dX1_fillings_55 : decode cX1_fillings 55 = .ok (.iconst 1, 1) := by decide +kernel
theorem dX1_fillings_56 : decode cX1_fillings 56 = .ok (.goto 4, 3) := by decide +kernel
theorem dX1_fillings_59 : decode cX1_fillings 59 = .ok (.iconst 0, 1) := by decide +kernel
theorem dX1_fillings_60 : decode cX1_fillings 60 = .ok (.iadd, 1) := by decide +kernel
theorem dX1_fillings_61 : decode cX1_fillings 61 = .ok (.istore_n 3, 1) := by decide +kernel
theorem dX1_fillings_62 : decode cX1_fillings 62 = .ok (.iinc 4 1, 3) := by decide +kernel
theorem dX1_fillings_65 : decode cX1_fillings 65 = .ok (.goto (-27), 3) := by decide +kernel
theorem dX1_fillings_68 : decode cX1_fillings 68 = .ok (.iload_n 3, 1) := by decide +kernel
theorem dX1_fillings_69 : decode cX1_fillings 69 = .ok (.ireturn, 1) := by decide +kernel
set_option maxRecDepth 20000 in
theorem ggX1_bend_X1_isHeight : GoodIn wsX1_bend wsX1_isHeight := goodIn_r _ [4, 5, 6, 3, 7] (by decide +kernel) (by decide +kernel)
set_option maxRecDepth 20000 in
theorem gX1_bend_X1_isHeight : GoodIn wsX1_bend (va_wsS RX1 90 yX1_isHeight wsX1_isHeight) := goodIn_app (goodIn_of _ (by decide +kernel)) ggX1_bend_X1_isHeight
set_option maxRecDepth 20000 in
theorem ggX1_bend_X1_isThing : GoodIn wsX1_bend wsX1_isThing := goodIn_r _ [11, 12, 5, 6, 3, 7, 27, 28, 29, 30, 31, 32, 33, 34, 35] (by decide +kernel) (by decide +kernel)
set_option maxRecDepth 20000 in
theorem gX1_bend_X1_isThing : GoodIn wsX1_bend (wsV RX1 40 RX1 yX1_isThing wsX1_isThing) := goodIn_app (goodIn_of _ (by decide +kernel)) ggX1_bend_X1_isThing
