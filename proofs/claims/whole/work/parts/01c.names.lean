theorem dX0_turned_1 : decode cX0_turned 1 = .ok (.ifCond .ne 11, 3) := by decide +kernel
theorem dX0_turned_4 : decode cX0_turned 4 = .ok (.aload_n 0, 1) := by decide +kernel
theorem dX0_turned_5 : decode cX0_turned 5 = .ok (.iload_n 1, 1) := by decide +kernel
theorem dX0_turned_6 : decode cX0_turned 6 = .ok (.invokevirtual 147, 3) := by decide +kernel
theorem dX0_turned_9 : decode cX0_turned 9 = .ok (.goto 8, 3) := by decide +kernel
theorem dX0_turned_12 : decode cX0_turned 12 = .ok (.aload_n 0, 1) := by decide +kernel
theorem dX0_turned_13 : decode cX0_turned 13 = .ok (.iload_n 1, 1) := by decide +kernel
theorem dX0_turned_14 : decode cX0_turned 14 = .ok (.invokevirtual 150, 3) := by decide +kernel
theorem dX0_turned_17 : decode cX0_turned 17 = .ok (.ireturn, 1) := by decide +kernel
set_option maxRecDepth 20000 in
theorem ggX0_turnedRound_X0_has : GoodIn wsX0_turnedRound wsX0_has := goodIn_r _ [6] (by decide +kernel) (by decide +kernel)
set_option maxRecDepth 20000 in
theorem gX0_turnedRound_X0_has : GoodIn wsX0_turnedRound (va_wsS RX0 52 yX0_has wsX0_has) := goodIn_app (goodIn_of _ (by decide +kernel)) ggX0_turnedRound_X0_has
theorem dX0_turnedRound_0 : decode cX0_turnedRound 0 = .ok (.iconst 0, 1) := by decide +kernel
theorem dX0_turnedRound_1 : decode cX0_turnedRound 1 = .ok (.istore_n 2, 1) := by decide +kernel
theorem dX0_turnedRound_2 : decode cX0_turnedRound 2 = .ok (.iconst 0, 1) := by decide +kernel
theorem dX0_turnedRound_3 : decode cX0_turnedRound 3 = .ok (.istore_n 3, 1) := by decide +kernel
theorem dX0_turnedRound_4 : decode cX0_turnedRound 4 = .ok (.iload_n 3, 1) := by decide +kernel
theorem dX0_turnedRound_5 : decode cX0_turnedRound 5 = .ok (.aload_n 0, 1) := by decide +kernel
theorem dX0_turnedRound_6 : decode cX0_turnedRound 6 = .ok (.getfield 9, 3) := by decide +kernel
theorem dX0_turnedRound_9 : decode cX0_turnedRound 9 = .ok (.if_icmp .ge 43, 3) := by decide +kernel
theorem dX0_turnedRound_12 : decode cX0_turnedRound 12 = .ok (.iload_n 1, 1) := by decide +kernel
theorem dX0_turnedRound_13 : decode cX0_turnedRound 13 = .ok (.iload_n 3, 1) := by decide +kernel
theorem dX0_turnedRound_14 : decode cX0_turnedRound 14 = .ok (.invokestatic 52, 3) := by decide +kernel
theorem dX0_turnedRound_17 : decode cX0_turnedRound 17 = .ok (.ifCond .ne 29, 3) := by decide +kernel
theorem dX0_turnedRound_20 : decode cX0_turnedRound 20 = .ok (.aload_n 0, 1) := by decide +kernel
theorem dX0_turnedRound_21 : decode cX0_turnedRound 21 = .ok (.getfield 13, 3) := by decide +kernel
theorem dX0_turnedRound_24 : decode cX0_turnedRound 24 = .ok (.iload_n 3, 1) := by decide +kernel
theorem dX0_turnedRound_25 : decode cX0_turnedRound 25 = .ok (.iaload, 1) := by decide +kernel
theorem dX0_turnedRound_26 : decode cX0_turnedRound 26 = .ok (.iload_n 1, 1) := by decide +kernel
theorem dX0_turnedRound_27 : decode cX0_turnedRound 27 = .ok (.iconst (-1), 1) := by decide +kernel
theorem dX0_turnedRound_28 : decode cX0_turnedRound 28 = .ok (.ixor, 1) := by decide +kernel
theorem dX0_turnedRound_29 : decode cX0_turnedRound 29 = .ok (.iand, 1) := by decide +kernel
theorem dX0_turnedRound_30 : decode cX0_turnedRound 30 = .ok (.ifCond .ne 16, 3) := by decide +kernel
theorem dX0_turnedRound_33 : decode cX0_turnedRound 33 = .ok (.iload_n 2, 1) := by decide +kernel
theorem dX0_turnedRound_34 : decode cX0_turnedRound 34 = .ok (.aload_n 0, 1) := by decide +kernel
theorem dX0_turnedRound_35 : decode cX0_turnedRound 35 = .ok (.getfield 13, 3) := by decide +kernel
theorem dX0_turnedRound_38 : decode cX0_turnedRound 38 = .ok (.iload_n 3, 1) := by decide +kernel
theorem dX0_turnedRound_39 : decode cX0_turnedRound 39 = .ok (.iaload, 1) := by decide +kernel
theorem dX0_turnedRound_40 : decode cX0_turnedRound 40 = .ok (.iconst 1, 1) := by decide +kernel
theorem dX0_turnedRound_41 : decode cX0_turnedRound 41 = .ok (.iload_n 3, 1) := by decide +kernel
theorem dX0_turnedRound_42 : decode cX0_turnedRound 42 = .ok (.ishl, 1) := by decide +kernel
theorem dX0_turnedRound_43 : decode cX0_turnedRound 43 = .ok (.ior, 1) := by decide +kernel
theorem dX0_turnedRound_44 : decode cX0_turnedRound 44 = .ok (.ior, 1) := by decide +kernel
theorem dX0_turnedRound_45 : decode cX0_turnedRound 45 = .ok (.istore_n 2, 1) := by decide +kernel
theorem dX0_turnedRound_46 : decode cX0_turnedRound 46 = .ok (.iinc 3 1, 3) := by decide +kernel
theorem dX0_turnedRound_49 : decode cX0_turnedRound 49 = .ok (.goto (-45), 3) := by decide +kernel
theorem dX0_turnedRound_52 : decode cX0_turnedRound 52 = .ok (.iload_n 2, 1) := by decide +kernel
theorem dX0_turnedRound_53 : decode cX0_turnedRound 53 = .ok (.ireturn, 1) := by decide +kernel
set_option maxRecDepth 20000 in
theorem ggX0_turnedByChain_X0_flipped : GoodIn wsX0_turnedByChain wsX0_flipped := goodIn_r _ [7, 8, 9, 10, 11, 6, 12, 13, 14, 15, 16, 17, 18, 19, 20, 21, 22, 23, 24, 25] (by decide +kernel) (by decide +kernel)
set_option maxRecDepth 20000 in
theorem gX0_turnedByChain_X0_flipped : GoodIn wsX0_turnedByChain (wsV RX0 67 RX0 yX0_flipped wsX0_flipped) := goodIn_app (goodIn_of _ (by decide +kernel)) ggX0_turnedByChain_X0_flipped
theorem dX0_turnedByChain_0 : decode cX0_turnedByChain 0 = .ok (.iload_n 1, 1) := by decide +kernel
theorem dX0_turnedByChain_1 : decode cX0_turnedByChain 1 = .ok (.istore_n 2, 1) := by decide +kernel
theorem dX0_turnedByChain_2 : decode cX0_turnedByChain 2 = .ok (.iconst 0, 1) := by decide +kernel
theorem dX0_turnedByChain_3 : decode cX0_turnedByChain 3 = .ok (.istore_n 3, 1) := by decide +kernel
theorem dX0_turnedByChain_4 : decode cX0_turnedByChain 4 = .ok (.iload_n 3, 1) := by decide +kernel
theorem dX0_turnedByChain_5 : decode cX0_turnedByChain 5 = .ok (.aload_n 0, 1) := by decide +kernel
theorem dX0_turnedByChain_6 : decode cX0_turnedByChain 6 = .ok (.getfield 45, 3) := by decide +kernel
theorem dX0_turnedByChain_9 : decode cX0_turnedByChain 9 = .ok (.if_icmp .ge 21, 3) := by decide +kernel
theorem dX0_turnedByChain_12 : decode cX0_turnedByChain 12 = .ok (.aload_n 0, 1) := by decide +kernel
theorem dX0_turnedByChain_13 : decode cX0_turnedByChain 13 = .ok (.iload_n 2, 1) := by decide +kernel
theorem dX0_turnedByChain_14 : decode cX0_turnedByChain 14 = .ok (.aload_n 0, 1) := by decide +kernel
theorem dX0_turnedByChain_15 : decode cX0_turnedByChain 15 = .ok (.getfield 23, 3) := by decide +kernel
theorem dX0_turnedByChain_18 : decode cX0_turnedByChain 18 = .ok (.iload_n 3, 1) := by decide +kernel
theorem dX0_turnedByChain_19 : decode cX0_turnedByChain 19 = .ok (.iaload, 1) := by decide +kernel
theorem dX0_turnedByChain_20 : decode cX0_turnedByChain 20 = .ok (.invokevirtual 67, 3) := by decide +kernel
theorem dX0_turnedByChain_23 : decode cX0_turnedByChain 23 = .ok (.istore_n 2, 1) := by decide +kernel
theorem dX0_turnedByChain_24 : decode cX0_turnedByChain 24 = .ok (.iinc 3 1, 3) := by decide +kernel
theorem dX0_turnedByChain_27 : decode cX0_turnedByChain 27 = .ok (.goto (-23), 3) := by decide +kernel
theorem dX0_turnedByChain_30 : decode cX0_turnedByChain 30 = .ok (.iload_n 2, 1) := by decide +kernel
theorem dX0_turnedByChain_31 : decode cX0_turnedByChain 31 = .ok (.ireturn, 1) := by decide +kernel
set_option maxRecDepth 20000 in
theorem ggX0_pairCount_J6_bitCount_0f7a4 : GoodIn wsX0_pairCount wsJ6_bitCount_0f7a4 := goodIn_r _ [6, 7, 8, 9] (by decide +kernel) (by decide +kernel)
set_option maxRecDepth 20000 in
theorem gX0_pairCount_J6_bitCount_0f7a4 : GoodIn wsX0_pairCount (va_wsS RX0 153 yJ6_bitCount_0f7a4 wsJ6_bitCount_0f7a4) := goodIn_app (goodIn_of _ (by decide +kernel)) ggX0_pairCount_J6_bitCount_0f7a4
theorem dX0_pairCount_0 : decode cX0_pairCount 0 = .ok (.iconst 0, 1) := by decide +kernel
theorem dX0_pairCount_1 : decode cX0_pairCount 1 = .ok (.istore_n 1, 1) := by decide +kernel
theorem dX0_pairCount_2 : decode cX0_pairCount 2 = .ok (.iconst 0, 1) := by decide +kernel
theorem dX0_pairCount_3 : decode cX0_pairCount 3 = .ok (.istore_n 2, 1) := by decide +kernel
theorem dX0_pairCount_4 : decode cX0_pairCount 4 = .ok (.iload_n 2, 1) := by decide +kernel
theorem dX0_pairCount_5 : decode cX0_pairCount 5 = .ok (.aload_n 0, 1) := by decide +kernel
theorem dX0_pairCount_6 : decode cX0_pairCount 6 = .ok (.getfield 9, 3) := by decide +kernel
theorem dX0_pairCount_9 : decode cX0_pairCount 9 = .ok (.if_icmp .ge 21, 3) := by decide +kernel
theorem dX0_pairCount_12 : decode cX0_pairCount 12 = .ok (.iload_n 1, 1) := by decide +kernel
theorem dX0_pairCount_13 : decode cX0_pairCount 13 = .ok (.aload_n 0, 1) := by decide +kernel
theorem dX0_pairCount_14 : decode cX0_pairCount 14 = .ok (.getfield 13, 3) := by decide +kernel
theorem dX0_pairCount_17 : decode cX0_pairCount 17 = .ok (.iload_n 2, 1) := by decide +kernel
theorem dX0_pairCount_18 : decode cX0_pairCount 18 = .ok (.iaload, 1) := by decide +kernel
theorem dX0_pairCount_19 : decode cX0_pairCount 19 = .ok (.invokestatic 153, 3) := by decide +kernel
theorem dX0_pairCount_22 : decode cX0_pairCount 22 = .ok (.iadd, 1) := by decide +kernel
theorem dX0_pairCount_23 : decode cX0_pairCount 23 = .ok (.istore_n 1, 1) := by decide +kernel
theorem dX0_pairCount_24 : decode cX0_pairCount 24 = .ok (.iinc 2 1, 3) := by decide +kernel
theorem dX0_pairCount_27 : decode cX0_pairCount 27 = .ok (.goto (-23), 3) := by decide +kernel
theorem dX0_pairCount_30 : decode cX0_pairCount 30 = .ok (.iload_n 1, 1) := by decide +kernel
theorem dX0_pairCount_31 : decode cX0_pairCount 31 = .ok (.ireturn, 1) := by decide +kernel
set_option maxRecDepth 20000 in
theorem ggX0_countSizes_X0_setCount : GoodIn wsX0_countSizes wsX0_setCount := goodIn_r _ [7, 1, 27, 28, 29, 30, 31, 32, 33, 34, 35, 36, 37, 38, 39] (by decide +kernel) (by decide +kernel)
set_option maxRecDepth 20000 in
theorem gX0_countSizes_X0_setCount : GoodIn wsX0_countSizes (wsV RX0 63 RX0 yX0_setCount wsX0_setCount) := goodIn_app (goodIn_of _ (by decide +kernel)) ggX0_countSizes_X0_setCount
set_option maxRecDepth 20000 in
theorem ggX0_countSizes_X0_isHeap : GoodIn wsX0_countSizes wsX0_isHeap := goodIn_r _ [11, 1, 12, 13, 14, 15, 6, 16, 3, 4, 5, 7, 17, 18, 19, 27, 28, 29, 30, 31, 32, 33, 34, 35, 36, 37, 38, 39] (by decide +kernel) (by decide +kernel)
set_option maxRecDepth 20000 in
theorem gX0_countSizes_X0_isHeap : GoodIn wsX0_countSizes (wsV RX0 60 RX0 yX0_isHeap wsX0_isHeap) := goodIn_app (goodIn_of _ (by decide +kernel)) ggX0_countSizes_X0_isHeap
set_option maxRecDepth 20000 in
theorem ggX0_countSizes_J6_bitCount_0f7a4 : GoodIn wsX0_countSizes wsJ6_bitCount_0f7a4 := goodIn_r _ [23, 24, 25, 26] (by decide +kernel) (by decide +kernel)
set_option maxRecDepth 20000 in
theorem gX0_countSizes_J6_bitCount_0f7a4 : GoodIn wsX0_countSizes (va_wsS RX0 153 yJ6_bitCount_0f7a4 wsJ6_bitCount_0f7a4) := goodIn_app (goodIn_of _ (by decide +kernel)) ggX0_countSizes_J6_bitCount_0f7a4
theorem dX0_countSizes_0 : decode cX0_countSizes 0 = .ok (.iconst 0, 1) := by decide +kernel
theorem dX0_countSizes_1 : decode cX0_countSizes 1 = .ok (.istore_n 1, 1) := by decide +kernel
theorem dX0_countSizes_2 : decode cX0_countSizes 2 = .ok (.iload_n 1, 1) := by decide +kernel
theorem dX0_countSizes_3 : decode cX0_countSizes 3 = .ok (.aload_n 0, 1) := by decide +kernel
theorem dX0_countSizes_4 : decode cX0_countSizes 4 = .ok (.getfield 9, 3) := by decide +kernel
theorem dX0_countSizes_7 : decode cX0_countSizes 7 = .ok (.if_icmp .gt 16, 3) := by decide +kernel
theorem dX0_countSizes_10 : decode cX0_countSizes 10 = .ok (.aload_n 0, 1) := by decide +kernel
theorem dX0_countSizes_11 : decode cX0_countSizes 11 = .ok (.getfield 29, 3) := by decide +kernel
theorem dX0_countSizes_14 : decode cX0_countSizes 14 = .ok (.iload_n 1, 1) := by decide +kernel
theorem dX0_countSizes_15 : decode cX0_countSizes 15 = .ok (.iconst 0, 1) := by decide +kernel
theorem dX0_countSizes_16 : decode cX0_countSizes 16 = .ok (.iastore, 1) := by decide +kernel
theorem dX0_countSizes_17 : decode cX0_countSizes 17 = .ok (.iinc 1 1, 3) := by decide +kernel
theorem dX0_countSizes_20 : decode cX0_countSizes 20 = .ok (.goto (-18), 3) := by decide +kernel
theorem dX0_countSizes_23 : decode cX0_countSizes 23 = .ok (.iconst 0, 1) := by decide +kernel
theorem dX0_countSizes_24 : decode cX0_countSizes 24 = .ok (.istore_n 1, 1) := by decide +kernel
theorem dX0_countSizes_25 : decode cX0_countSizes 25 = .ok (.iload_n 1, 1) := by decide +kernel
theorem dX0_countSizes_26 : decode cX0_countSizes 26 = .ok (.aload_n 0, 1) := by decide +kernel
theorem dX0_countSizes_27 : decode cX0_countSizes 27 = .ok (.invokevirtual 63, 3) := by decide +kernel
theorem dX0_countSizes_30 : decode cX0_countSizes 30 = .ok (.if_icmp .ge 30, 3) := by decide +kernel
theorem dX0_countSizes_33 : decode cX0_countSizes 33 = .ok (.aload_n 0, 1) := by decide +kernel
theorem dX0_countSizes_34 : decode cX0_countSizes 34 = .ok (.iload_n 1, 1) := by decide +kernel
theorem dX0_countSizes_35 : decode cX0_countSizes 35 = .ok (.invokevirtual 60, 3) := by decide +kernel
theorem dX0_countSizes_38 : decode cX0_countSizes 38 = .ok (.ifCond .eq 16, 3) := by decide +kernel
theorem dX0_countSizes_41 : decode cX0_countSizes 41 = .ok (.aload_n 0, 1) := by decide +kernel
theorem dX0_countSizes_42 : decode cX0_countSizes 42 = .ok (.getfield 29, 3) := by decide +kernel
theorem dX0_countSizes_45 : decode cX0_countSizes 45 = .ok (.iload_n 1, 1) := by decide +kernel
theorem dX0_countSizes_46 : decode cX0_countSizes 46 = .ok (.invokestatic 153, 3) := by decide +kernel
theorem dX0_countSizes_49 : decode cX0_countSizes 49 = .ok (.dup2, 1) := by decide +kernel
theorem dX0_countSizes_50 : decode cX0_countSizes 50 = .ok (.iaload, 1) := by decide +kernel
theorem dX0_countSizes_51 : decode cX0_countSizes 51 = .ok (.iconst 1, 1) := by decide +kernel
theorem dX0_countSizes_52 : decode cX0_countSizes 52 = .ok (.iadd, 1) := by decide +kernel
theorem dX0_countSizes_53 : decode cX0_countSizes 53 = .ok (.iastore, 1) := by decide +kernel
theorem dX0_countSizes_54 : decode cX0_countSizes 54 = .ok (.iinc 1 1, 3) := by decide +kernel
theorem dX0_countSizes_57 : decode cX0_countSizes 57 = .ok (.goto (-32), 3) := by decide +kernel
theorem dX0_countSizes_60 : decode cX0_countSizes 60 = .ok (.return_, 1) := by decide +kernel
set_option maxRecDepth 20000 in
theorem ggX0_walkOrbit_X0_turned : GoodIn wsX0_walkOrbit wsX0_turned := goodIn_r _ [6, 7, 8, 9, 5, 10, 11, 12, 13, 14, 15, 16, 17, 18, 19, 20, 21, 22, 23, 24, 25, 26, 27, 28, 29, 30, 31, 32, 33, 34, 35, 36, 37, 38, 39] (by decide +kernel) (by decide +kernel)
set_option maxRecDepth 20000 in
theorem gX0_walkOrbit_X0_turned : GoodIn wsX0_walkOrbit (wsV RX0 77 RX0 yX0_turned wsX0_turned) := goodIn_app (goodIn_of _ (by decide +kernel)) ggX0_walkOrbit_X0_turned
theorem dX0_walkOrbit_0 : decode cX0_walkOrbit 0 = .ok (.iload_n 1, 1) := by decide +kernel
theorem dX0_walkOrbit_1 : decode cX0_walkOrbit 1 = .ok (.istore_n 3, 1) := by decide +kernel
theorem dX0_walkOrbit_2 : decode cX0_walkOrbit 2 = .ok (.iconst 0, 1) := by decide +kernel
theorem dX0_walkOrbit_3 : decode cX0_walkOrbit 3 = .ok (.istore 4, 2) := by decide +kernel
theorem dX0_walkOrbit_5 : decode cX0_walkOrbit 5 = .ok (.aload_n 0, 1) := by decide +kernel
theorem dX0_walkOrbit_6 : decode cX0_walkOrbit 6 = .ok (.getfield 41, 3) := by decide +kernel
theorem dX0_walkOrbit_9 : decode cX0_walkOrbit 9 = .ok (.iload_n 3, 1) := by decide +kernel
theorem dX0_walkOrbit_10 : decode cX0_walkOrbit 10 = .ok (.iconst 1, 1) := by decide +kernel
theorem dX0_walkOrbit_11 : decode cX0_walkOrbit 11 = .ok (.bastore, 1) := by decide +kernel
theorem dX0_walkOrbit_12 : decode cX0_walkOrbit 12 = .ok (.aload_n 0, 1) := by decide +kernel
theorem dX0_walkOrbit_13 : decode cX0_walkOrbit 13 = .ok (.iload_n 3, 1) := by decide +kernel
theorem dX0_walkOrbit_14 : decode cX0_walkOrbit 14 = .ok (.iload_n 2, 1) := by decide +kernel
theorem dX0_walkOrbit_15 : decode cX0_walkOrbit 15 = .ok (.invokevirtual 77, 3) := by decide +kernel
theorem dX0_walkOrbit_18 : decode cX0_walkOrbit 18 = .ok (.istore_n 3, 1) := by decide +kernel
theorem dX0_walkOrbit_19 : decode cX0_walkOrbit 19 = .ok (.iinc 4 1, 3) := by decide +kernel
theorem dX0_walkOrbit_22 : decode cX0_walkOrbit 22 = .ok (.iload_n 3, 1) := by decide +kernel
theorem dX0_walkOrbit_23 : decode cX0_walkOrbit 23 = .ok (.iload_n 1, 1) := by decide +kernel
theorem dX0_walkOrbit_24 : decode cX0_walkOrbit 24 = .ok (.if_icmp .eq 11, 3) := by decide +kernel
theorem dX0_walkOrbit_27 : decode cX0_walkOrbit 27 = .ok (.iload 4, 2) := by decide +kernel
theorem dX0_walkOrbit_29 : decode cX0_walkOrbit 29 = .ok (.sipush 256, 3) := by decide +kernel
theorem dX0_walkOrbit_32 : decode cX0_walkOrbit 32 = .ok (.if_icmp .lt (-27), 3) := by decide +kernel
theorem dX0_walkOrbit_35 : decode cX0_walkOrbit 35 = .ok (.iload 4, 2) := by decide +kernel
theorem dX0_walkOrbit_37 : decode cX0_walkOrbit 37 = .ok (.ireturn, 1) := by decide +kernel
set_option maxRecDepth 20000 in
theorem ggX0_findOrbits_X0_setCount : GoodIn wsX0_findOrbits wsX0_setCount := goodIn_r _ [8, 9, 45, 46, 47, 48, 49, 50, 51, 52, 53, 54, 55, 56, 57] (by decide +kernel) (by decide +kernel)
set_option maxRecDepth 20000 in
theorem gX0_findOrbits_X0_setCount : GoodIn wsX0_findOrbits (wsV RX0 63 RX0 yX0_setCount wsX0_setCount) := goodIn_app (goodIn_of _ (by decide +kernel)) ggX0_findOrbits_X0_setCount
set_option maxRecDepth 20000 in
theorem ggX0_findOrbits_X0_isHeap : GoodIn wsX0_findOrbits wsX0_isHeap := goodIn_r _ [13, 9, 14, 15, 16, 17, 7, 18, 4, 5, 6, 8, 19, 20, 21, 45, 46, 47, 48, 49, 50, 51, 52, 53, 54, 55, 56, 57] (by decide +kernel) (by decide +kernel)
set_option maxRecDepth 20000 in
theorem gX0_findOrbits_X0_isHeap : GoodIn wsX0_findOrbits (wsV RX0 60 RX0 yX0_isHeap wsX0_isHeap) := goodIn_app (goodIn_of _ (by decide +kernel)) ggX0_findOrbits_X0_isHeap
set_option maxRecDepth 20000 in
theorem ggX0_findOrbits_X0_walkOrbit : GoodIn wsX0_findOrbits wsX0_walkOrbit := goodIn_r _ [25, 1, 26, 27, 28, 7, 29, 30, 31, 32, 33, 9, 14, 19, 20, 21, 34, 35, 36, 37, 38, 39, 40, 41, 42, 43, 44, 45, 46, 47, 48, 49, 50, 51, 52, 53, 54, 55, 56, 57] (by decide +kernel) (by decide +kernel)
set_option maxRecDepth 20000 in
theorem gX0_findOrbits_X0_walkOrbit : GoodIn wsX0_findOrbits (wsV RX0 80 RX0 yX0_walkOrbit wsX0_walkOrbit) := goodIn_app (goodIn_of _ (by decide +kernel)) ggX0_findOrbits_X0_walkOrbit
theorem dX0_findOrbits_0 : decode cX0_findOrbits 0 = .ok (.iconst 0, 1) := by decide +kernel
theorem dX0_findOrbits_1 : decode cX0_findOrbits 1 = .ok (.istore_n 2, 1) := by decide +kernel
theorem dX0_findOrbits_2 : decode cX0_findOrbits 2 = .ok (.iload_n 2, 1) := by decide +kernel
theorem dX0_findOrbits_3 : decode cX0_findOrbits 3 = .ok (.aload_n 0, 1) := by decide +kernel
theorem dX0_findOrbits_4 : decode cX0_findOrbits 4 = .ok (.invokevirtual 63, 3) := by decide +kernel
theorem dX0_findOrbits_7 : decode cX0_findOrbits 7 = .ok (.if_icmp .ge 28, 3) := by decide +kernel
theorem dX0_findOrbits_10 : decode cX0_findOrbits 10 = .ok (.aload_n 0, 1) := by decide +kernel
theorem dX0_findOrbits_11 : decode cX0_findOrbits 11 = .ok (.getfield 41, 3) := by decide +kernel
theorem dX0_findOrbits_14 : decode cX0_findOrbits 14 = .ok (.iload_n 2, 1) := by decide +kernel
theorem dX0_findOrbits_15 : decode cX0_findOrbits 15 = .ok (.aload_n 0, 1) := by decide +kernel
theorem dX0_findOrbits_16 : decode cX0_findOrbits 16 = .ok (.iload_n 2, 1) := by decide +kernel
theorem dX0_findOrbits_17 : decode cX0_findOrbits 17 = .ok (.invokevirtual 60, 3) := by decide +kernel
theorem dX0_findOrbits_20 : decode cX0_findOrbits 20 = .ok (.ifCond .ne 7, 3) := by decide +kernel
theorem dX0_findOrbits_23 : decode cX0_findOrbits 23 = .ok (.iconst 1, 1) := by decide +kernel
theorem dX0_findOrbits_24 : decode cX0_findOrbits 24 = .ok (.goto 4, 3) := by decide +kernel
theorem dX0_findOrbits_27 : decode cX0_findOrbits 27 = .ok (.iconst 0, 1) := by decide +kernel
theorem dX0_findOrbits_28 : decode cX0_findOrbits 28 = .ok (.bastore, 1) := by decide +kernel
theorem dX0_findOrbits_29 : decode cX0_findOrbits 29 = .ok (.iinc 2 1, 3) := by decide +kernel
theorem dX0_findOrbits_32 : decode cX0_findOrbits 32 = .ok (.goto (-30), 3) := by decide +kernel
theorem dX0_findOrbits_35 : decode cX0_findOrbits 35 = .ok (.iconst 0, 1) := by decide +kernel
theorem dX0_findOrbits_36 : decode cX0_findOrbits 36 = .ok (.istore_n 2, 1) := by decide +kernel
theorem dX0_findOrbits_37 : decode cX0_findOrbits 37 = .ok (.iconst 0, 1) := by decide +kernel
theorem dX0_findOrbits_38 : decode cX0_findOrbits 38 = .ok (.istore_n 3, 1) := by decide +kernel
theorem dX0_findOrbits_39 : decode cX0_findOrbits 39 = .ok (.iload_n 3, 1) := by decide +kernel
theorem dX0_findOrbits_40 : decode cX0_findOrbits 40 = .ok (.aload_n 0, 1) := by decide +kernel
theorem dX0_findOrbits_41 : decode cX0_findOrbits 41 = .ok (.invokevirtual 63, 3) := by decide +kernel
theorem dX0_findOrbits_44 : decode cX0_findOrbits 44 = .ok (.if_icmp .ge 40, 3) := by decide +kernel
theorem dX0_findOrbits_47 : decode cX0_findOrbits 47 = .ok (.aload_n 0, 1) := by decide +kernel
theorem dX0_findOrbits_48 : decode cX0_findOrbits 48 = .ok (.getfield 41, 3) := by decide +kernel
theorem dX0_findOrbits_51 : decode cX0_findOrbits 51 = .ok (.iload_n 3, 1) := by decide +kernel
theorem dX0_findOrbits_52 : decode cX0_findOrbits 52 = .ok (.baload, 1) := by decide +kernel
theorem dX0_findOrbits_53 : decode cX0_findOrbits 53 = .ok (.ifCond .ne 25, 3) := by decide +kernel
theorem dX0_findOrbits_56 : decode cX0_findOrbits 56 = .ok (.aload_n 0, 1) := by decide +kernel
theorem dX0_findOrbits_57 : decode cX0_findOrbits 57 = .ok (.getfield 35, 3) := by decide +kernel
theorem dX0_findOrbits_60 : decode cX0_findOrbits 60 = .ok (.iload_n 2, 1) := by decide +kernel
theorem dX0_findOrbits_61 : decode cX0_findOrbits 61 = .ok (.iload_n 3, 1) := by decide +kernel
theorem dX0_findOrbits_62 : decode cX0_findOrbits 62 = .ok (.iastore, 1) := by decide +kernel
theorem dX0_findOrbits_63 : decode cX0_findOrbits 63 = .ok (.aload_n 0, 1) := by decide +kernel
theorem dX0_findOrbits_64 : decode cX0_findOrbits 64 = .ok (.getfield 38, 3) := by decide +kernel
theorem dX0_findOrbits_67 : decode cX0_findOrbits 67 = .ok (.iload_n 2, 1) := by decide +kernel
theorem dX0_findOrbits_68 : decode cX0_findOrbits 68 = .ok (.aload_n 0, 1) := by decide +kernel
theorem dX0_findOrbits_69 : decode cX0_findOrbits 69 = .ok (.iload_n 3, 1) := by decide +kernel
theorem dX0_findOrbits_70 : decode cX0_findOrbits 70 = .ok (.iload_n 1, 1) := by decide +kernel
theorem dX0_findOrbits_71 : decode cX0_findOrbits 71 = .ok (.invokevirtual 80, 3) := by decide +kernel
theorem dX0_findOrbits_74 : decode cX0_findOrbits 74 = .ok (.iastore, 1) := by decide +kernel
theorem dX0_findOrbits_75 : decode cX0_findOrbits 75 = .ok (.iinc 2 1, 3) := by decide +kernel
theorem dX0_findOrbits_78 : decode cX0_findOrbits 78 = .ok (.iinc 3 1, 3) := by decide +kernel
theorem dX0_findOrbits_81 : decode cX0_findOrbits 81 = .ok (.goto (-42), 3) := by decide +kernel
theorem dX0_findOrbits_84 : decode cX0_findOrbits 84 = .ok (.iload_n 2, 1) := by decide +kernel
theorem dX0_findOrbits_85 : decode cX0_findOrbits 85 = .ok (.ireturn, 1) := by decide +kernel
set_option maxRecDepth 20000 in
theorem ggX0_orderOf_X0_commonDivisor : GoodIn wsX0_orderOf wsX0_commonDivisor := goodIn_r _ [6, 7, 8, 9, 10] (by decide +kernel) (by decide +kernel)
set_option maxRecDepth 20000 in
theorem gX0_orderOf_X0_commonDivisor : GoodIn wsX0_orderOf (va_wsS RX0 115 yX0_commonDivisor wsX0_commonDivisor) := goodIn_app (goodIn_of _ (by decide +kernel)) ggX0_orderOf_X0_commonDivisor
theorem dX0_orderOf_0 : decode cX0_orderOf 0 = .ok (.iconst 1, 1) := by decide +kernel
theorem dX0_orderOf_1 : decode cX0_orderOf 1 = .ok (.istore_n 2, 1) := by decide +kernel
theorem dX0_orderOf_2 : decode cX0_orderOf 2 = .ok (.iconst 0, 1) := by decide +kernel
theorem dX0_orderOf_3 : decode cX0_orderOf 3 = .ok (.istore_n 3, 1) := by decide +kernel
theorem dX0_orderOf_4 : decode cX0_orderOf 4 = .ok (.iload_n 3, 1) := by decide +kernel
theorem dX0_orderOf_5 : decode cX0_orderOf 5 = .ok (.iload_n 1, 1) := by decide +kernel
theorem dX0_orderOf_6 : decode cX0_orderOf 6 = .ok (.if_icmp .ge 52, 3) := by decide +kernel
theorem dX0_orderOf_9 : decode cX0_orderOf 9 = .ok (.aload_n 0, 1) := by decide +kernel
theorem dX0_orderOf_10 : decode cX0_orderOf 10 = .ok (.getfield 38, 3) := by decide +kernel
theorem dX0_orderOf_13 : decode cX0_orderOf 13 = .ok (.iload_n 3, 1) := by decide +kernel
theorem dX0_orderOf_14 : decode cX0_orderOf 14 = .ok (.iaload, 1) := by decide +kernel
theorem dX0_orderOf_15 : decode cX0_orderOf 15 = .ok (.iload_n 2, 1) := by decide +kernel
theorem dX0_orderOf_16 : decode cX0_orderOf 16 = .ok (.aload_n 0, 1) := by decide +kernel
theorem dX0_orderOf_17 : decode cX0_orderOf 17 = .ok (.getfield 38, 3) := by decide +kernel
theorem dX0_orderOf_20 : decode cX0_orderOf 20 = .ok (.iload_n 3, 1) := by decide +kernel
theorem dX0_orderOf_21 : decode cX0_orderOf 21 = .ok (.iaload, 1) := by decide +kernel
theorem dX0_orderOf_22 : decode cX0_orderOf 22 = .ok (.invokestatic 115, 3) := by decide +kernel
theorem dX0_orderOf_25 : decode cX0_orderOf 25 = .ok (.idiv, 1) := by decide +kernel
theorem dX0_orderOf_26 : decode cX0_orderOf 26 = .ok (.istore 4, 2) := by decide +kernel
theorem dX0_orderOf_28 : decode cX0_orderOf 28 = .ok (.iload_n 2, 1) := by decide +kernel
theorem dX0_orderOf_29 : decode cX0_orderOf 29 = .ok (.i2l, 1) := by decide +kernel
theorem dX0_orderOf_30 : decode cX0_orderOf 30 = .ok (.iload 4, 2) := by decide +kernel
theorem dX0_orderOf_32 : decode cX0_orderOf 32 = .ok (.i2l, 1) := by decide +kernel
theorem dX0_orderOf_33 : decode cX0_orderOf 33 = .ok (.lmul, 1) := by decide +kernel
theorem dX0_orderOf_34 : decode cX0_orderOf 34 = .ok (.lstore 5, 2) := by decide +kernel
theorem dX0_orderOf_36 : decode cX0_orderOf 36 = .ok (.lload 5, 2) := by decide +kernel
theorem dX0_orderOf_38 : decode cX0_orderOf 38 = .ok (.ldc2_w 158, 3) := by decide +kernel
theorem dX0_orderOf_41 : decode cX0_orderOf 41 = .ok (.lcmp, 1) := by decide +kernel
theorem dX0_orderOf_42 : decode cX0_orderOf 42 = .ok (.ifCond .le 6, 3) := by decide +kernel
theorem dX0_orderOf_45 : decode cX0_orderOf 45 = .ok (.bipush (-9), 2) := by decide +kernel
theorem dX0_orderOf_47 : decode cX0_orderOf 47 = .ok (.ireturn, 1) := by decide +kernel
theorem dX0_orderOf_48 : decode cX0_orderOf 48 = .ok (.lload 5, 2) := by decide +kernel
theorem dX0_orderOf_50 : decode cX0_orderOf 50 = .ok (.l2i, 1) := by decide +kernel
theorem dX0_orderOf_51 : decode cX0_orderOf 51 = .ok (.istore_n 2, 1) := by decide +kernel
theorem dX0_orderOf_52 : decode cX0_orderOf 52 = .ok (.iinc 3 1, 3) := by decide +kernel
theorem dX0_orderOf_55 : decode cX0_orderOf 55 = .ok (.goto (-51), 3) := by decide +kernel
theorem dX0_orderOf_58 : decode cX0_orderOf 58 = .ok (.iload_n 2, 1) := by decide +kernel
theorem dX0_orderOf_59 : decode cX0_orderOf 59 = .ok (.ireturn, 1) := by decide +kernel
theorem dX0_longestOf_0 : decode cX0_longestOf 0 = .ok (.iconst 0, 1) := by decide +kernel
theorem dX0_longestOf_1 : decode cX0_longestOf 1 = .ok (.istore_n 2, 1) := by decide +kernel
theorem dX0_longestOf_2 : decode cX0_longestOf 2 = .ok (.iconst 0, 1) := by decide +kernel
theorem dX0_longestOf_3 : decode cX0_longestOf 3 = .ok (.istore_n 3, 1) := by decide +kernel
theorem dX0_longestOf_4 : decode cX0_longestOf 4 = .ok (.iload_n 3, 1) := by decide +kernel
theorem dX0_longestOf_5 : decode cX0_longestOf 5 = .ok (.iload_n 1, 1) := by decide +kernel
theorem dX0_longestOf_6 : decode cX0_longestOf 6 = .ok (.if_icmp .ge 20, 3) := by decide +kernel
theorem dX0_longestOf_9 : decode cX0_longestOf 9 = .ok (.iload_n 2, 1) := by decide +kernel
theorem dX0_longestOf_10 : decode cX0_longestOf 10 = .ok (.aload_n 0, 1) := by decide +kernel
theorem dX0_longestOf_11 : decode cX0_longestOf 11 = .ok (.getfield 38, 3) := by decide +kernel
theorem dX0_longestOf_14 : decode cX0_longestOf 14 = .ok (.iload_n 3, 1) := by decide +kernel
theorem dX0_longestOf_15 : decode cX0_longestOf 15 = .ok (.iaload, 1) := by decide +kernel
theorem dX0_longestOf_16 : decode cX0_longestOf 16 = .ok (.invokestatic 160, 3) := by decide +kernel
theorem dX0_longestOf_19 : decode cX0_longestOf 19 = .ok (.istore_n 2, 1) := by decide +kernel
theorem dX0_longestOf_20 : decode cX0_longestOf 20 = .ok (.iinc 3 1, 3) := by decide +kernel
theorem dX0_longestOf_23 : decode cX0_longestOf 23 = .ok (.goto (-19), 3) := by decide +kernel
theorem dX0_longestOf_26 : decode cX0_longestOf 26 = .ok (.iload_n 2, 1) := by decide +kernel
theorem dX0_longestOf_27 : decode cX0_longestOf 27 = .ok (.ireturn, 1) := by decide +kernel
theorem dX0_commonDivisor_0 : decode cX0_commonDivisor 0 = .ok (.iload_n 0, 1) := by decide +kernel
theorem dX0_commonDivisor_1 : decode cX0_commonDivisor 1 = .ok (.istore_n 2, 1) := by decide +kernel
theorem dX0_commonDivisor_2 : decode cX0_commonDivisor 2 = .ok (.iload_n 1, 1) := by decide +kernel
theorem dX0_commonDivisor_3 : decode cX0_commonDivisor 3 = .ok (.istore_n 3, 1) := by decide +kernel
theorem dX0_commonDivisor_4 : decode cX0_commonDivisor 4 = .ok (.iconst 0, 1) := by decide +kernel
theorem dX0_commonDivisor_5 : decode cX0_commonDivisor 5 = .ok (.istore 4, 2) := by decide +kernel
theorem dX0_commonDivisor_7 : decode cX0_commonDivisor 7 = .ok (.iload 4, 2) := by decide +kernel
theorem dX0_commonDivisor_9 : decode cX0_commonDivisor 9 = .ok (.bipush 100, 2) := by decide +kernel
theorem dX0_commonDivisor_11 : decode cX0_commonDivisor 11 = .ok (.if_icmp .ge 23, 3) := by decide +kernel
theorem dX0_commonDivisor_14 : decode cX0_commonDivisor 14 = .ok (.iload_n 3, 1) := by decide +kernel
theorem dX0_commonDivisor_15 : decode cX0_commonDivisor 15 = .ok (.ifCond .eq 19, 3) := by decide +kernel
theorem dX0_commonDivisor_18 : decode cX0_commonDivisor 18 = .ok (.iload_n 2, 1) := by decide +kernel
theorem dX0_commonDivisor_19 : decode cX0_commonDivisor 19 = .ok (.iload_n 3, 1) := by decide +kernel
theorem dX0_commonDivisor_20 : decode cX0_commonDivisor 20 = .ok (.irem, 1) := by decide +kernel
theorem dX0_commonDivisor_21 : decode cX0_commonDivisor 21 = .ok (.istore 5, 2) := by decide +kernel
theorem dX0_commonDivisor_23 : decode cX0_commonDivisor 23 = .ok (.iload_n 3, 1) := by decide +kernel
theorem dX0_commonDivisor_24 : decode cX0_commonDivisor 24 = .ok (.istore_n 2, 1) := by decide +kernel
theorem dX0_commonDivisor_25 : decode cX0_commonDivisor 25 = .ok (.iload 5, 2) := by decide +kernel
theorem dX0_commonDivisor_27 : decode cX0_commonDivisor 27 = .ok (.istore_n 3, 1) := by decide +kernel
theorem dX0_commonDivisor_28 : decode cX0_commonDivisor 28 = .ok (.iinc 4 1, 3) := by decide +kernel
theorem dX0_commonDivisor_31 : decode cX0_commonDivisor 31 = .ok (.goto (-24), 3) := by decide +kernel
theorem dX0_commonDivisor_34 : decode cX0_commonDivisor 34 = .ok (.iconst 1, 1) := by decide +kernel
theorem dX0_commonDivisor_35 : decode cX0_commonDivisor 35 = .ok (.iload_n 2, 1) := by decide +kernel
theorem dX0_commonDivisor_36 : decode cX0_commonDivisor 36 = .ok (.invokestatic 160, 3) := by decide +kernel
theorem dX0_commonDivisor_39 : decode cX0_commonDivisor 39 = .ok (.ireturn, 1) := by decide +kernel
theorem dX0_traceOf_0 : decode cX0_traceOf 0 = .ok (.iconst 1, 1) := by decide +kernel
theorem dX0_traceOf_1 : decode cX0_traceOf 1 = .ok (.istore_n 1, 1) := by decide +kernel
theorem dX0_traceOf_2 : decode cX0_traceOf 2 = .ok (.iload_n 0, 1) := by decide +kernel
theorem dX0_traceOf_3 : decode cX0_traceOf 3 = .ok (.iconst 1, 1) := by decide +kernel
theorem dX0_traceOf_4 : decode cX0_traceOf 4 = .ok (.if_icmp .lt 6, 3) := by decide +kernel
theorem dX0_traceOf_7 : decode cX0_traceOf 7 = .ok (.iinc 1 10, 3) := by decide +kernel
theorem dX0_traceOf_10 : decode cX0_traceOf 10 = .ok (.iload_n 0, 1) := by decide +kernel
theorem dX0_traceOf_11 : decode cX0_traceOf 11 = .ok (.iconst 2, 1) := by decide +kernel
theorem dX0_traceOf_12 : decode cX0_traceOf 12 = .ok (.if_icmp .lt 6, 3) := by decide +kernel
theorem dX0_traceOf_15 : decode cX0_traceOf 15 = .ok (.iinc 1 100, 3) := by decide +kernel
theorem dX0_traceOf_18 : decode cX0_traceOf 18 = .ok (.iload_n 1, 1) := by decide +kernel
theorem dX0_traceOf_19 : decode cX0_traceOf 19 = .ok (.ireturn, 1) := by decide +kernel
set_option maxRecDepth 20000 in
theorem ggX0_measured_X0_edged : GoodIn wsX0_measured wsX0_edged := goodIn_r _ [5, 6, 7, 8, 9, 10, 4, 11, 12, 13, 14, 15, 16, 17, 18, 19, 20, 21, 22, 23, 24, 25, 26, 27, 28, 29, 30, 31, 32, 33, 34, 35] (by decide +kernel) (by decide +kernel)
set_option maxRecDepth 20000 in
theorem gX0_measured_X0_edged : GoodIn wsX0_measured (wsV RX0 163 RX0 yX0_edged wsX0_edged) := goodIn_app (goodIn_of _ (by decide +kernel)) ggX0_measured_X0_edged
set_option maxRecDepth 20000 in
theorem ggX0_measured_X0_weighed : GoodIn wsX0_measured wsX0_weighed := goodIn_r _ [11, 6, 12, 13, 14, 15, 16, 17, 18, 19, 20, 21, 4, 22, 23, 24, 25, 26, 27, 28, 29, 30, 31, 32, 33, 34, 35] (by decide +kernel) (by decide +kernel)
set_option maxRecDepth 20000 in
theorem gX0_measured_X0_weighed : GoodIn wsX0_measured (wsV RX0 166 RX0 yX0_weighed wsX0_weighed) := goodIn_app (goodIn_of _ (by decide +kernel)) ggX0_measured_X0_weighed
set_option maxRecDepth 20000 in
theorem ggX0_measured_J6_bitCount_0f7a4 : GoodIn wsX0_measured wsJ6_bitCount_0f7a4 := goodIn_r _ [16, 17, 18, 19] (by decide +kernel) (by decide +kernel)
set_option maxRecDepth 20000 in
theorem gX0_measured_J6_bitCount_0f7a4 : GoodIn wsX0_measured (va_wsS RX0 153 yJ6_bitCount_0f7a4 wsJ6_bitCount_0f7a4) := goodIn_app (goodIn_of _ (by decide +kernel)) ggX0_measured_J6_bitCount_0f7a4
theorem dX0_measured_0 : decode cX0_measured 0 = .ok (.iload_n 1, 1) := by decide +kernel
theorem dX0_measured_1 : decode cX0_measured 1 = .ok (.iconst 2, 1) := by decide +kernel
theorem dX0_measured_2 : decode cX0_measured 2 = .ok (.if_icmp .ne 9, 3) := by decide +kernel
theorem dX0_measured_5 : decode cX0_measured 5 = .ok (.aload_n 0, 1) := by decide +kernel
theorem dX0_measured_6 : decode cX0_measured 6 = .ok (.iload_n 2, 1) := by decide +kernel
theorem dX0_measured_7 : decode cX0_measured 7 = .ok (.invokevirtual 163, 3) := by decide +kernel
theorem dX0_measured_10 : decode cX0_measured 10 = .ok (.ireturn, 1) := by decide +kernel
theorem dX0_measured_11 : decode cX0_measured 11 = .ok (.iload_n 1, 1) := by decide +kernel
theorem dX0_measured_12 : decode cX0_measured 12 = .ok (.iconst 1, 1) := by decide +kernel
theorem dX0_measured_13 : decode cX0_measured 13 = .ok (.if_icmp .ne 11, 3) := by decide +kernel
theorem dX0_measured_16 : decode cX0_measured 16 = .ok (.aload_n 0, 1) := by decide +kernel
theorem dX0_measured_17 : decode cX0_measured 17 = .ok (.iload_n 2, 1) := by decide +kernel
theorem dX0_measured_18 : decode cX0_measured 18 = .ok (.invokevirtual 166, 3) := by decide +kernel
theorem dX0_measured_21 : decode cX0_measured 21 = .ok (.goto 7, 3) := by decide +kernel
theorem dX0_measured_24 : decode cX0_measured 24 = .ok (.iload_n 2, 1) := by decide +kernel
theorem dX0_measured_25 : decode cX0_measured 25 = .ok (.invokestatic 153, 3) := by decide +kernel
theorem dX0_measured_28 : decode cX0_measured 28 = .ok (.ireturn, 1) := by decide +kernel
set_option maxRecDepth 20000 in
theorem ggX0_weighed_J6_bitCount_0f7a4 : GoodIn wsX0_weighed wsJ6_bitCount_0f7a4 := goodIn_r _ [6, 7, 8, 9] (by decide +kernel) (by decide +kernel)
set_option maxRecDepth 20000 in
theorem gX0_weighed_J6_bitCount_0f7a4 : GoodIn wsX0_weighed (va_wsS RX0 153 yJ6_bitCount_0f7a4 wsJ6_bitCount_0f7a4) := goodIn_app (goodIn_of _ (by decide +kernel)) ggX0_weighed_J6_bitCount_0f7a4
set_option maxRecDepth 20000 in
theorem ggX0_weighed_X0_has : GoodIn wsX0_weighed wsX0_has := goodIn_r _ [13] (by decide +kernel) (by decide +kernel)
set_option maxRecDepth 20000 in
theorem gX0_weighed_X0_has : GoodIn wsX0_weighed (va_wsS RX0 52 yX0_has wsX0_has) := goodIn_app (goodIn_of _ (by decide +kernel)) ggX0_weighed_X0_has
theorem dX0_weighed_0 : decode cX0_weighed 0 = .ok (.iload_n 1, 1) := by decide +kernel
theorem dX0_weighed_1 : decode cX0_weighed 1 = .ok (.invokestatic 153, 3) := by decide +kernel
theorem dX0_weighed_4 : decode cX0_weighed 4 = .ok (.istore_n 2, 1) := by decide +kernel
theorem dX0_weighed_5 : decode cX0_weighed 5 = .ok (.iconst 0, 1) := by decide +kernel
theorem dX0_weighed_6 : decode cX0_weighed 6 = .ok (.istore_n 3, 1) := by decide +kernel
theorem dX0_weighed_7 : decode cX0_weighed 7 = .ok (.iload_n 3, 1) := by decide +kernel
theorem dX0_weighed_8 : decode cX0_weighed 8 = .ok (.aload_n 0, 1) := by decide +kernel
theorem dX0_weighed_9 : decode cX0_weighed 9 = .ok (.getfield 9, 3) := by decide +kernel
theorem dX0_weighed_12 : decode cX0_weighed 12 = .ok (.if_icmp .ge 26, 3) := by decide +kernel
theorem dX0_weighed_15 : decode cX0_weighed 15 = .ok (.iload_n 1, 1) := by decide +kernel
theorem dX0_weighed_16 : decode cX0_weighed 16 = .ok (.iload_n 3, 1) := by decide +kernel
theorem dX0_weighed_17 : decode cX0_weighed 17 = .ok (.invokestatic 52, 3) := by decide +kernel
theorem dX0_weighed_20 : decode cX0_weighed 20 = .ok (.ifCond .eq 12, 3) := by decide +kernel
theorem dX0_weighed_23 : decode cX0_weighed 23 = .ok (.iload_n 2, 1) := by decide +kernel
theorem dX0_weighed_24 : decode cX0_weighed 24 = .ok (.aload_n 0, 1) := by decide +kernel
theorem dX0_weighed_25 : decode cX0_weighed 25 = .ok (.getfield 20, 3) := by decide +kernel
theorem dX0_weighed_28 : decode cX0_weighed 28 = .ok (.iload_n 3, 1) := by decide +kernel
theorem dX0_weighed_29 : decode cX0_weighed 29 = .ok (.iaload, 1) := by decide +kernel
theorem dX0_weighed_30 : decode cX0_weighed 30 = .ok (.iadd, 1) := by decide +kernel
theorem dX0_weighed_31 : decode cX0_weighed 31 = .ok (.istore_n 2, 1) := by decide +kernel
theorem dX0_weighed_32 : decode cX0_weighed 32 = .ok (.iinc 3 1, 3) := by decide +kernel
theorem dX0_weighed_35 : decode cX0_weighed 35 = .ok (.goto (-28), 3) := by decide +kernel
theorem dX0_weighed_38 : decode cX0_weighed 38 = .ok (.iload_n 2, 1) := by decide +kernel
theorem dX0_weighed_39 : decode cX0_weighed 39 = .ok (.ireturn, 1) := by decide +kernel
set_option maxRecDepth 20000 in
theorem ggX0_edged_X0_weighed : GoodIn wsX0_edged wsX0_weighed := goodIn_r _ [7, 1, 8, 9, 10, 11, 12, 13, 14, 15, 16, 17, 6, 18, 19, 20, 21, 22, 23, 24, 25, 26, 27, 28, 29, 30, 31] (by decide +kernel) (by decide +kernel)
set_option maxRecDepth 20000 in
theorem gX0_edged_X0_weighed : GoodIn wsX0_edged (wsV RX0 166 RX0 yX0_weighed wsX0_weighed) := goodIn_app (goodIn_of _ (by decide +kernel)) ggX0_edged_X0_weighed
set_option maxRecDepth 20000 in
theorem ggX0_edged_X0_has : GoodIn wsX0_edged wsX0_has := goodIn_r _ [18] (by decide +kernel) (by decide +kernel)
set_option maxRecDepth 20000 in
theorem gX0_edged_X0_has : GoodIn wsX0_edged (va_wsS RX0 52 yX0_has wsX0_has) := goodIn_app (goodIn_of _ (by decide +kernel)) ggX0_edged_X0_has
theorem dX0_edged_0 : decode cX0_edged 0 = .ok (.aload_n 0, 1) := by decide +kernel
theorem dX0_edged_1 : decode cX0_edged 1 = .ok (.iload_n 1, 1) := by decide +kernel
theorem dX0_edged_2 : decode cX0_edged 2 = .ok (.invokevirtual 166, 3) := by decide +kernel
theorem dX0_edged_5 : decode cX0_edged 5 = .ok (.istore_n 2, 1) := by decide +kernel
theorem dX0_edged_6 : decode cX0_edged 6 = .ok (.iconst 0, 1) := by decide +kernel
theorem dX0_edged_7 : decode cX0_edged 7 = .ok (.istore_n 3, 1) := by decide +kernel
theorem dX0_edged_8 : decode cX0_edged 8 = .ok (.iload_n 3, 1) := by decide +kernel
theorem dX0_edged_9 : decode cX0_edged 9 = .ok (.aload_n 0, 1) := by decide +kernel
theorem dX0_edged_10 : decode cX0_edged 10 = .ok (.getfield 9, 3) := by decide +kernel
theorem dX0_edged_13 : decode cX0_edged 13 = .ok (.if_icmp .ge 31, 3) := by decide +kernel
theorem dX0_edged_16 : decode cX0_edged 16 = .ok (.iload_n 1, 1) := by decide +kernel
theorem dX0_edged_17 : decode cX0_edged 17 = .ok (.iload_n 3, 1) := by decide +kernel
theorem dX0_edged_18 : decode cX0_edged 18 = .ok (.invokestatic 52, 3) := by decide +kernel
theorem dX0_edged_21 : decode cX0_edged 21 = .ok (.ifCond .eq 17, 3) := by decide +kernel
theorem dX0_edged_24 : decode cX0_edged 24 = .ok (.aload_n 0, 1) := by decide +kernel
theorem dX0_edged_25 : decode cX0_edged 25 = .ok (.getfield 17, 3) := by decide +kernel
theorem dX0_edged_28 : decode cX0_edged 28 = .ok (.iload_n 3, 1) := by decide +kernel
theorem dX0_edged_29 : decode cX0_edged 29 = .ok (.iaload, 1) := by decide +kernel
theorem dX0_edged_30 : decode cX0_edged 30 = .ok (.iload_n 1, 1) := by decide +kernel
theorem dX0_edged_31 : decode cX0_edged 31 = .ok (.iand, 1) := by decide +kernel
theorem dX0_edged_32 : decode cX0_edged 32 = .ok (.ifCond .ne 6, 3) := by decide +kernel
theorem dX0_edged_35 : decode cX0_edged 35 = .ok (.iinc 2 1, 3) := by decide +kernel
theorem dX0_edged_38 : decode cX0_edged 38 = .ok (.iinc 3 1, 3) := by decide +kernel
theorem dX0_edged_41 : decode cX0_edged 41 = .ok (.goto (-33), 3) := by decide +kernel
theorem dX0_edged_44 : decode cX0_edged 44 = .ok (.iload_n 2, 1) := by decide +kernel
theorem dX0_edged_45 : decode cX0_edged 45 = .ok (.ireturn, 1) := by decide +kernel
set_option maxRecDepth 20000 in
theorem ggX0_sumOfOrbit_X0_measured : GoodIn wsX0_sumOfOrbit wsX0_measured := goodIn_r _ [5, 6, 7, 8, 4, 9, 10, 11, 12, 13, 14, 15, 16, 17, 18, 19, 20, 21, 22, 23, 24, 25, 26, 46, 47, 48, 49, 50, 51, 52, 53, 54, 55, 56, 57, 58] (by decide +kernel) (by decide +kernel)
set_option maxRecDepth 20000 in
theorem gX0_sumOfOrbit_X0_measured : GoodIn wsX0_sumOfOrbit (wsV RX0 103 RX0 yX0_measured wsX0_measured) := goodIn_app (goodIn_of _ (by decide +kernel)) ggX0_sumOfOrbit_X0_measured
set_option maxRecDepth 20000 in
theorem ggX0_sumOfOrbit_X0_turned : GoodIn wsX0_sumOfOrbit wsX0_turned := goodIn_r _ [30, 31, 32, 33, 4, 34, 10, 35, 24, 25, 26, 36, 37, 38, 39, 40, 41, 42, 43, 44, 45, 11, 46, 47, 48, 49, 50, 51, 52, 53, 54, 55, 56, 57, 58] (by decide +kernel) (by decide +kernel)
set_option maxRecDepth 20000 in
theorem gX0_sumOfOrbit_X0_turned : GoodIn wsX0_sumOfOrbit (wsV RX0 77 RX0 yX0_turned wsX0_turned) := goodIn_app (goodIn_of _ (by decide +kernel)) ggX0_sumOfOrbit_X0_turned
theorem dX0_sumOfOrbit_0 : decode cX0_sumOfOrbit 0 = .ok (.iconst 0, 1) := by decide +kernel
theorem dX0_sumOfOrbit_1 : decode cX0_sumOfOrbit 1 = .ok (.istore 5, 2) := by decide +kernel
theorem dX0_sumOfOrbit_3 : decode cX0_sumOfOrbit 3 = .ok (.iload_n 1, 1) := by decide +kernel
theorem dX0_sumOfOrbit_4 : decode cX0_sumOfOrbit 4 = .ok (.istore 6, 2) := by decide +kernel
theorem dX0_sumOfOrbit_6 : decode cX0_sumOfOrbit 6 = .ok (.iconst 0, 1) := by decide +kernel
theorem dX0_sumOfOrbit_7 : decode cX0_sumOfOrbit 7 = .ok (.istore 7, 2) := by decide +kernel
theorem dX0_sumOfOrbit_9 : decode cX0_sumOfOrbit 9 = .ok (.iload 7, 2) := by decide +kernel
theorem dX0_sumOfOrbit_11 : decode cX0_sumOfOrbit 11 = .ok (.iload_n 2, 1) := by decide +kernel
theorem dX0_sumOfOrbit_12 : decode cX0_sumOfOrbit 12 = .ok (.if_icmp .ge 31, 3) := by decide +kernel
theorem dX0_sumOfOrbit_15 : decode cX0_sumOfOrbit 15 = .ok (.iload 5, 2) := by decide +kernel
theorem dX0_sumOfOrbit_17 : decode cX0_sumOfOrbit 17 = .ok (.aload_n 0, 1) := by decide +kernel
theorem dX0_sumOfOrbit_18 : decode cX0_sumOfOrbit 18 = .ok (.iload 4, 2) := by decide +kernel
theorem dX0_sumOfOrbit_20 : decode cX0_sumOfOrbit 20 = .ok (.iload 6, 2) := by decide +kernel
theorem dX0_sumOfOrbit_22 : decode cX0_sumOfOrbit 22 = .ok (.invokevirtual 103, 3) := by decide +kernel
theorem dX0_sumOfOrbit_25 : decode cX0_sumOfOrbit 25 = .ok (.iadd, 1) := by decide +kernel
theorem dX0_sumOfOrbit_26 : decode cX0_sumOfOrbit 26 = .ok (.istore 5, 2) := by decide +kernel
theorem dX0_sumOfOrbit_28 : decode cX0_sumOfOrbit 28 = .ok (.aload_n 0, 1) := by decide +kernel
theorem dX0_sumOfOrbit_29 : decode cX0_sumOfOrbit 29 = .ok (.iload 6, 2) := by decide +kernel
theorem dX0_sumOfOrbit_31 : decode cX0_sumOfOrbit 31 = .ok (.iload_n 3, 1) := by decide +kernel
theorem dX0_sumOfOrbit_32 : decode cX0_sumOfOrbit 32 = .ok (.invokevirtual 77, 3) := by decide +kernel
theorem dX0_sumOfOrbit_35 : decode cX0_sumOfOrbit 35 = .ok (.istore 6, 2) := by decide +kernel
theorem dX0_sumOfOrbit_37 : decode cX0_sumOfOrbit 37 = .ok (.iinc 7 1, 3) := by decide +kernel
theorem dX0_sumOfOrbit_40 : decode cX0_sumOfOrbit 40 = .ok (.goto (-31), 3) := by decide +kernel
theorem dX0_sumOfOrbit_43 : decode cX0_sumOfOrbit 43 = .ok (.iload 5, 2) := by decide +kernel
theorem dX0_sumOfOrbit_45 : decode cX0_sumOfOrbit 45 = .ok (.ireturn, 1) := by decide +kernel
set_option maxRecDepth 20000 in
theorem ggX0_extendRows_X0_setCount : GoodIn wsX0_extendRows wsX0_setCount := goodIn_r _ [7, 1, 20, 21, 22, 23, 24, 25, 26, 27, 28, 29, 30, 31, 32] (by decide +kernel) (by decide +kernel)
set_option maxRecDepth 20000 in
theorem gX0_extendRows_X0_setCount : GoodIn wsX0_extendRows (wsV RX0 63 RX0 yX0_setCount wsX0_setCount) := goodIn_app (goodIn_of _ (by decide +kernel)) ggX0_extendRows_X0_setCount
set_option maxRecDepth 20000 in
theorem ggX0_extendRows_X0_has : GoodIn wsX0_extendRows wsX0_has := goodIn_r _ [10] (by decide +kernel) (by decide +kernel)
set_option maxRecDepth 20000 in
theorem gX0_extendRows_X0_has : GoodIn wsX0_extendRows (va_wsS RX0 52 yX0_has wsX0_has) := goodIn_app (goodIn_of _ (by decide +kernel)) ggX0_extendRows_X0_has
set_option maxRecDepth 20000 in
theorem ggX0_extendRows_X0_isHeap : GoodIn wsX0_extendRows wsX0_isHeap := goodIn_r _ [14, 1, 15, 16, 17, 18, 6, 19, 3, 4, 5, 7, 8, 9, 10, 20, 21, 22, 23, 24, 25, 26, 27, 28, 29, 30, 31, 32] (by decide +kernel) (by decide +kernel)
set_option maxRecDepth 20000 in
theorem gX0_extendRows_X0_isHeap : GoodIn wsX0_extendRows (wsV RX0 60 RX0 yX0_isHeap wsX0_isHeap) := goodIn_app (goodIn_of _ (by decide +kernel)) ggX0_extendRows_X0_isHeap
theorem dX0_extendRows_0 : decode cX0_extendRows 0 = .ok (.iconst 0, 1) := by decide +kernel
theorem dX0_extendRows_1 : decode cX0_extendRows 1 = .ok (.istore_n 1, 1) := by decide +kernel
theorem dX0_extendRows_2 : decode cX0_extendRows 2 = .ok (.iload_n 1, 1) := by decide +kernel
theorem dX0_extendRows_3 : decode cX0_extendRows 3 = .ok (.aload_n 0, 1) := by decide +kernel
theorem dX0_extendRows_4 : decode cX0_extendRows 4 = .ok (.getfield 9, 3) := by decide +kernel
theorem dX0_extendRows_7 : decode cX0_extendRows 7 = .ok (.if_icmp .ge 52, 3) := by decide +kernel
theorem dX0_extendRows_10 : decode cX0_extendRows 10 = .ok (.iconst 0, 1) := by decide +kernel
theorem dX0_extendRows_11 : decode cX0_extendRows 11 = .ok (.istore_n 2, 1) := by decide +kernel
theorem dX0_extendRows_12 : decode cX0_extendRows 12 = .ok (.iload_n 2, 1) := by decide +kernel
theorem dX0_extendRows_13 : decode cX0_extendRows 13 = .ok (.aload_n 0, 1) := by decide +kernel
theorem dX0_extendRows_14 : decode cX0_extendRows 14 = .ok (.invokevirtual 63, 3) := by decide +kernel
theorem dX0_extendRows_17 : decode cX0_extendRows 17 = .ok (.if_icmp .ge 36, 3) := by decide +kernel
theorem dX0_extendRows_20 : decode cX0_extendRows 20 = .ok (.iload_n 2, 1) := by decide +kernel
theorem dX0_extendRows_21 : decode cX0_extendRows 21 = .ok (.iload_n 1, 1) := by decide +kernel
theorem dX0_extendRows_22 : decode cX0_extendRows 22 = .ok (.invokestatic 52, 3) := by decide +kernel
theorem dX0_extendRows_25 : decode cX0_extendRows 25 = .ok (.ifCond .eq 22, 3) := by decide +kernel
theorem dX0_extendRows_28 : decode cX0_extendRows 28 = .ok (.aload_n 0, 1) := by decide +kernel
theorem dX0_extendRows_29 : decode cX0_extendRows 29 = .ok (.getfield 32, 3) := by decide +kernel
theorem dX0_extendRows_32 : decode cX0_extendRows 32 = .ok (.iload_n 2, 1) := by decide +kernel
theorem dX0_extendRows_33 : decode cX0_extendRows 33 = .ok (.dup2, 1) := by decide +kernel
theorem dX0_extendRows_34 : decode cX0_extendRows 34 = .ok (.iaload, 1) := by decide +kernel
theorem dX0_extendRows_35 : decode cX0_extendRows 35 = .ok (.aload_n 0, 1) := by decide +kernel
theorem dX0_extendRows_36 : decode cX0_extendRows 36 = .ok (.getfield 32, 3) := by decide +kernel
theorem dX0_extendRows_39 : decode cX0_extendRows 39 = .ok (.iload_n 2, 1) := by decide +kernel
theorem dX0_extendRows_40 : decode cX0_extendRows 40 = .ok (.iconst 1, 1) := by decide +kernel
theorem dX0_extendRows_41 : decode cX0_extendRows 41 = .ok (.iload_n 1, 1) := by decide +kernel
theorem dX0_extendRows_42 : decode cX0_extendRows 42 = .ok (.ishl, 1) := by decide +kernel
theorem dX0_extendRows_43 : decode cX0_extendRows 43 = .ok (.ixor, 1) := by decide +kernel
theorem dX0_extendRows_44 : decode cX0_extendRows 44 = .ok (.iaload, 1) := by decide +kernel
theorem dX0_extendRows_45 : decode cX0_extendRows 45 = .ok (.iadd, 1) := by decide +kernel
theorem dX0_extendRows_46 : decode cX0_extendRows 46 = .ok (.iastore, 1) := by decide +kernel
theorem dX0_extendRows_47 : decode cX0_extendRows 47 = .ok (.iinc 2 1, 3) := by decide +kernel
theorem dX0_extendRows_50 : decode cX0_extendRows 50 = .ok (.goto (-38), 3) := by decide +kernel
theorem dX0_extendRows_53 : decode cX0_extendRows 53 = .ok (.iinc 1 1, 3) := by decide +kernel
theorem dX0_extendRows_56 : decode cX0_extendRows 56 = .ok (.goto (-54), 3) := by decide +kernel
theorem dX0_extendRows_59 : decode cX0_extendRows 59 = .ok (.iconst 0, 1) := by decide +kernel
theorem dX0_extendRows_60 : decode cX0_extendRows 60 = .ok (.istore_n 1, 1) := by decide +kernel
theorem dX0_extendRows_61 : decode cX0_extendRows 61 = .ok (.iload_n 1, 1) := by decide +kernel
theorem dX0_extendRows_62 : decode cX0_extendRows 62 = .ok (.aload_n 0, 1) := by decide +kernel
theorem dX0_extendRows_63 : decode cX0_extendRows 63 = .ok (.invokevirtual 63, 3) := by decide +kernel
theorem dX0_extendRows_66 : decode cX0_extendRows 66 = .ok (.if_icmp .ge 24, 3) := by decide +kernel
theorem dX0_extendRows_69 : decode cX0_extendRows 69 = .ok (.aload_n 0, 1) := by decide +kernel
theorem dX0_extendRows_70 : decode cX0_extendRows 70 = .ok (.iload_n 1, 1) := by decide +kernel
theorem dX0_extendRows_71 : decode cX0_extendRows 71 = .ok (.invokevirtual 60, 3) := by decide +kernel
theorem dX0_extendRows_74 : decode cX0_extendRows 74 = .ok (.ifCond .ne 10, 3) := by decide +kernel
theorem dX0_extendRows_77 : decode cX0_extendRows 77 = .ok (.aload_n 0, 1) := by decide +kernel
theorem dX0_extendRows_78 : decode cX0_extendRows 78 = .ok (.getfield 32, 3) := by decide +kernel
theorem dX0_extendRows_81 : decode cX0_extendRows 81 = .ok (.iload_n 1, 1) := by decide +kernel
theorem dX0_extendRows_82 : decode cX0_extendRows 82 = .ok (.iconst 0, 1) := by decide +kernel
theorem dX0_extendRows_83 : decode cX0_extendRows 83 = .ok (.iastore, 1) := by decide +kernel
theorem dX0_extendRows_84 : decode cX0_extendRows 84 = .ok (.iinc 1 1, 3) := by decide +kernel
theorem dX0_extendRows_87 : decode cX0_extendRows 87 = .ok (.goto (-26), 3) := by decide +kernel
theorem dX0_extendRows_90 : decode cX0_extendRows 90 = .ok (.return_, 1) := by decide +kernel
set_option maxRecDepth 20000 in
theorem ggX0_readFilling_X0_isHeight : GoodIn wsX0_readFilling wsX0_isHeight := goodIn_r _ [6] (by decide +kernel) (by decide +kernel)
set_option maxRecDepth 20000 in
theorem gX0_readFilling_X0_isHeight : GoodIn wsX0_readFilling (va_wsS RX0 118 yX0_isHeight wsX0_isHeight) := goodIn_app (goodIn_of _ (by decide +kernel)) ggX0_readFilling_X0_isHeight
set_option maxRecDepth 20000 in
theorem ggX0_readFilling_X0_digitsFallUpwards : GoodIn wsX0_readFilling wsX0_digitsFallUpwards := goodIn_r _ [10, 1, 11, 2, 12, 13, 5, 14, 15, 16, 17, 18, 19, 20, 21, 22, 23, 24, 25, 26, 27] (by decide +kernel) (by decide +kernel)
set_option maxRecDepth 20000 in
theorem gX0_readFilling_X0_digitsFallUpwards : GoodIn wsX0_readFilling (wsV RX0 169 RX0 yX0_digitsFallUpwards wsX0_digitsFallUpwards) := goodIn_app (goodIn_of _ (by decide +kernel)) ggX0_readFilling_X0_digitsFallUpwards
theorem dX0_readFilling_0 : decode cX0_readFilling 0 = .ok (.iload_n 1, 1) := by decide +kernel
theorem dX0_readFilling_1 : decode cX0_readFilling 1 = .ok (.invokestatic 118, 3) := by decide +kernel
theorem dX0_readFilling_4 : decode cX0_readFilling 4 = .ok (.ifCond .eq 7, 3) := by decide +kernel
theorem dX0_readFilling_7 : decode cX0_readFilling 7 = .ok (.iload_n 2, 1) := by decide +kernel
theorem dX0_readFilling_8 : decode cX0_readFilling 8 = .ok (.ifCond .ge 5, 3) := by decide +kernel
theorem dX0_readFilling_11 : decode cX0_readFilling 11 = .ok (.iconst 0, 1) := by decide +kernel
theorem dX0_readFilling_12 : decode cX0_readFilling 12 = .ok (.ireturn, 1) := by decide +kernel
theorem dX0_readFilling_13 : decode cX0_readFilling 13 = .ok (.iload_n 2, 1) := by decide +kernel
theorem dX0_readFilling_14 : decode cX0_readFilling 14 = .ok (.istore_n 3, 1) := by decide +kernel
theorem dX0_readFilling_15 : decode cX0_readFilling 15 = .ok (.iconst 0, 1) := by decide +kernel
theorem dX0_readFilling_16 : decode cX0_readFilling 16 = .ok (.istore 4, 2) := by decide +kernel
theorem dX0_readFilling_18 : decode cX0_readFilling 18 = .ok (.iload 4, 2) := by decide +kernel
theorem dX0_readFilling_20 : decode cX0_readFilling 20 = .ok (.aload_n 0, 1) := by decide +kernel
theorem dX0_readFilling_21 : decode cX0_readFilling 21 = .ok (.getfield 9, 3) := by decide +kernel
theorem dX0_readFilling_24 : decode cX0_readFilling 24 = .ok (.if_icmp .ge 27, 3) := by decide +kernel
theorem dX0_readFilling_27 : decode cX0_readFilling 27 = .ok (.aload_n 0, 1) := by decide +kernel
theorem dX0_readFilling_28 : decode cX0_readFilling 28 = .ok (.getfield 26, 3) := by decide +kernel
theorem dX0_readFilling_31 : decode cX0_readFilling 31 = .ok (.iload 4, 2) := by decide +kernel
theorem dX0_readFilling_33 : decode cX0_readFilling 33 = .ok (.iload_n 3, 1) := by decide +kernel
theorem dX0_readFilling_34 : decode cX0_readFilling 34 = .ok (.iload_n 1, 1) := by decide +kernel
theorem dX0_readFilling_35 : decode cX0_readFilling 35 = .ok (.iconst 1, 1) := by decide +kernel
theorem dX0_readFilling_36 : decode cX0_readFilling 36 = .ok (.iadd, 1) := by decide +kernel
theorem dX0_readFilling_37 : decode cX0_readFilling 37 = .ok (.irem, 1) := by decide +kernel
theorem dX0_readFilling_38 : decode cX0_readFilling 38 = .ok (.iastore, 1) := by decide +kernel
theorem dX0_readFilling_39 : decode cX0_readFilling 39 = .ok (.iload_n 3, 1) := by decide +kernel
theorem dX0_readFilling_40 : decode cX0_readFilling 40 = .ok (.iload_n 1, 1) := by decide +kernel
theorem dX0_readFilling_41 : decode cX0_readFilling 41 = .ok (.iconst 1, 1) := by decide +kernel
theorem dX0_readFilling_42 : decode cX0_readFilling 42 = .ok (.iadd, 1) := by decide +kernel
theorem dX0_readFilling_43 : decode cX0_readFilling 43 = .ok (.idiv, 1) := by decide +kernel
theorem dX0_readFilling_44 : decode cX0_readFilling 44 = .ok (.istore_n 3, 1) := by decide +kernel
theorem dX0_readFilling_45 : decode cX0_readFilling 45 = .ok (.iinc 4 1, 3) := by decide +kernel
theorem dX0_readFilling_48 : decode cX0_readFilling 48 = .ok (.goto (-30), 3) := by decide +kernel
theorem dX0_readFilling_51 : decode cX0_readFilling 51 = .ok (.iload_n 3, 1) := by decide +kernel
theorem dX0_readFilling_52 : decode cX0_readFilling 52 = .ok (.ifCond .ne 14, 3) := by decide +kernel
theorem dX0_readFilling_55 : decode cX0_readFilling 55 = .ok (.aload_n 0, 1) := by decide +kernel
theorem dX0_readFilling_56 : decode cX0_readFilling 56 = .ok (.invokevirtual 169, 3) := by decide +kernel
theorem dX0_readFilling_59 : decode cX0_readFilling 59 = .ok (.ifCond .eq 7, 3) := by decide +kernel
theorem dX0_readFilling_62 : decode cX0_readFilling 62 = .ok (.iconst 1, 1) := by decide +kernel
theorem dX0_readFilling_63 : decode cX0_readFilling 63 = .ok (.goto 4, 3) := by decide +kernel
theorem dX0_readFilling_66 : decode cX0_readFilling 66 = .ok (.iconst 0, 1) := by decide +kernel
theorem dX0_readFilling_67 : decode cX0_readFilling 67 = .ok (.ireturn, 1) := by decide +kernel
set_option maxRecDepth 20000 in
theorem ggX0_digitsFallUpwards_X0_has : GoodIn wsX0_digitsFallUpwards wsX0_has := goodIn_r _ [7] (by decide +kernel) (by decide +kernel)
set_option maxRecDepth 20000 in
theorem gX0_digitsFallUpwards_X0_has : GoodIn wsX0_digitsFallUpwards (va_wsS RX0 52 yX0_has wsX0_has) := goodIn_app (goodIn_of _ (by decide +kernel)) ggX0_digitsFallUpwards_X0_has
theorem dX0_digitsFallUpwards_0 : decode cX0_digitsFallUpwards 0 = .ok (.iconst 0, 1) := by decide +kernel
theorem dX0_digitsFallUpwards_1 : decode cX0_digitsFallUpwards 1 = .ok (.istore_n 1, 1) := by decide +kernel
theorem dX0_digitsFallUpwards_2 : decode cX0_digitsFallUpwards 2 = .ok (.iload_n 1, 1) := by decide +kernel
theorem dX0_digitsFallUpwards_3 : decode cX0_digitsFallUpwards 3 = .ok (.aload_n 0, 1) := by decide +kernel
theorem dX0_digitsFallUpwards_4 : decode cX0_digitsFallUpwards 4 = .ok (.getfield 9, 3) := by decide +kernel
theorem dX0_digitsFallUpwards_7 : decode cX0_digitsFallUpwards 7 = .ok (.if_icmp .ge 52, 3) := by decide +kernel
theorem dX0_digitsFallUpwards_10 : decode cX0_digitsFallUpwards 10 = .ok (.iconst 0, 1) := by decide +kernel
theorem dX0_digitsFallUpwards_11 : decode cX0_digitsFallUpwards 11 = .ok (.istore_n 2, 1) := by decide +kernel
theorem dX0_digitsFallUpwards_12 : decode cX0_digitsFallUpwards 12 = .ok (.iload_n 2, 1) := by decide +kernel
theorem dX0_digitsFallUpwards_13 : decode cX0_digitsFallUpwards 13 = .ok (.iload_n 1, 1) := by decide +kernel
theorem dX0_digitsFallUpwards_14 : decode cX0_digitsFallUpwards 14 = .ok (.if_icmp .ge 39, 3) := by decide +kernel
theorem dX0_digitsFallUpwards_17 : decode cX0_digitsFallUpwards 17 = .ok (.aload_n 0, 1) := by decide +kernel
theorem dX0_digitsFallUpwards_18 : decode cX0_digitsFallUpwards 18 = .ok (.getfield 13, 3) := by decide +kernel
theorem dX0_digitsFallUpwards_21 : decode cX0_digitsFallUpwards 21 = .ok (.iload_n 1, 1) := by decide +kernel
theorem dX0_digitsFallUpwards_22 : decode cX0_digitsFallUpwards 22 = .ok (.iaload, 1) := by decide +kernel
theorem dX0_digitsFallUpwards_23 : decode cX0_digitsFallUpwards 23 = .ok (.iload_n 2, 1) := by decide +kernel
theorem dX0_digitsFallUpwards_24 : decode cX0_digitsFallUpwards 24 = .ok (.invokestatic 52, 3) := by decide +kernel
theorem dX0_digitsFallUpwards_27 : decode cX0_digitsFallUpwards 27 = .ok (.ifCond .eq 20, 3) := by decide +kernel
theorem dX0_digitsFallUpwards_30 : decode cX0_digitsFallUpwards 30 = .ok (.aload_n 0, 1) := by decide +kernel
theorem dX0_digitsFallUpwards_31 : decode cX0_digitsFallUpwards 31 = .ok (.getfield 26, 3) := by decide +kernel
theorem dX0_digitsFallUpwards_34 : decode cX0_digitsFallUpwards 34 = .ok (.iload_n 2, 1) := by decide +kernel
theorem dX0_digitsFallUpwards_35 : decode cX0_digitsFallUpwards 35 = .ok (.iaload, 1) := by decide +kernel
theorem dX0_digitsFallUpwards_36 : decode cX0_digitsFallUpwards 36 = .ok (.aload_n 0, 1) := by decide +kernel
theorem dX0_digitsFallUpwards_37 : decode cX0_digitsFallUpwards 37 = .ok (.getfield 26, 3) := by decide +kernel
theorem dX0_digitsFallUpwards_40 : decode cX0_digitsFallUpwards 40 = .ok (.iload_n 1, 1) := by decide +kernel
theorem dX0_digitsFallUpwards_41 : decode cX0_digitsFallUpwards 41 = .ok (.iaload, 1) := by decide +kernel
theorem dX0_digitsFallUpwards_42 : decode cX0_digitsFallUpwards 42 = .ok (.if_icmp .ge 5, 3) := by decide +kernel
theorem dX0_digitsFallUpwards_45 : decode cX0_digitsFallUpwards 45 = .ok (.iconst 0, 1) := by decide +kernel
theorem dX0_digitsFallUpwards_46 : decode cX0_digitsFallUpwards 46 = .ok (.ireturn, 1) := by decide +kernel
theorem dX0_digitsFallUpwards_47 : decode cX0_digitsFallUpwards 47 = .ok (.iinc 2 1, 3) := by decide +kernel
theorem dX0_digitsFallUpwards_50 : decode cX0_digitsFallUpwards 50 = .ok (.goto (-38), 3) := by decide +kernel
theorem dX0_digitsFallUpwards_53 : decode cX0_digitsFallUpwards 53 = .ok (.iinc 1 1, 3) := by decide +kernel
theorem dX0_digitsFallUpwards_56 : decode cX0_digitsFallUpwards 56 = .ok (.goto (-54), 3) := by decide +kernel
theorem dX0_digitsFallUpwards_59 : decode cX0_digitsFallUpwards 59 = .ok (.iconst 1, 1) := by decide +kernel
theorem dX0_digitsFallUpwards_60 : decode cX0_digitsFallUpwards 60 = .ok (.ireturn, 1) := by decide +kernel
theorem dX0_numberOfDigits_0 : decode cX0_numberOfDigits 0 = .ok (.iconst 0, 1) := by decide +kernel
theorem dX0_numberOfDigits_1 : decode cX0_numberOfDigits 1 = .ok (.istore_n 2, 1) := by decide +kernel
theorem dX0_numberOfDigits_2 : decode cX0_numberOfDigits 2 = .ok (.aload_n 0, 1) := by decide +kernel
theorem dX0_numberOfDigits_3 : decode cX0_numberOfDigits 3 = .ok (.getfield 9, 3) := by decide +kernel
theorem dX0_numberOfDigits_6 : decode cX0_numberOfDigits 6 = .ok (.iconst 1, 1) := by decide +kernel
theorem dX0_numberOfDigits_7 : decode cX0_numberOfDigits 7 = .ok (.isub, 1) := by decide +kernel
theorem dX0_numberOfDigits_8 : decode cX0_numberOfDigits 8 = .ok (.istore_n 3, 1) := by decide +kernel
theorem dX0_numberOfDigits_9 : decode cX0_numberOfDigits 9 = .ok (.iload_n 3, 1) := by decide +kernel
theorem dX0_numberOfDigits_10 : decode cX0_numberOfDigits 10 = .ok (.ifCond .lt 22, 3) := by decide +kernel
theorem dX0_numberOfDigits_13 : decode cX0_numberOfDigits 13 = .ok (.iload_n 2, 1) := by decide +kernel
theorem dX0_numberOfDigits_14 : decode cX0_numberOfDigits 14 = .ok (.iload_n 1, 1) := by decide +kernel
theorem dX0_numberOfDigits_15 : decode cX0_numberOfDigits 15 = .ok (.iconst 1, 1) := by decide +kernel
theorem dX0_numberOfDigits_16 : decode cX0_numberOfDigits 16 = .ok (.iadd, 1) := by decide +kernel
theorem dX0_numberOfDigits_17 : decode cX0_numberOfDigits 17 = .ok (.imul, 1) := by decide +kernel
theorem dX0_numberOfDigits_18 : decode cX0_numberOfDigits 18 = .ok (.aload_n 0, 1) := by decide +kernel
theorem dX0_numberOfDigits_19 : decode cX0_numberOfDigits 19 = .ok (.getfield 26, 3) := by decide +kernel
theorem dX0_numberOfDigits_22 : decode cX0_numberOfDigits 22 = .ok (.iload_n 3, 1) := by decide +kernel
theorem dX0_numberOfDigits_23 : decode cX0_numberOfDigits 23 = .ok (.iaload, 1) := by decide +kernel
theorem dX0_numberOfDigits_24 : decode cX0_numberOfDigits 24 = .ok (.iadd, 1) := by decide +kernel
theorem dX0_numberOfDigits_25 : decode cX0_numberOfDigits 25 = .ok (.istore_n 2, 1) := by decide +kernel
theorem dX0_numberOfDigits_26 : decode cX0_numberOfDigits 26 = .ok (.iinc 3 (-1), 3) := by decide +kernel
theorem dX0_numberOfDigits_29 : decode cX0_numberOfDigits 29 = .ok (.goto (-20), 3) := by decide +kernel
theorem dX0_numberOfDigits_32 : decode cX0_numberOfDigits 32 = .ok (.iload_n 2, 1) := by decide +kernel
theorem dX0_numberOfDigits_33 : decode cX0_numberOfDigits 33 = .ok (.ireturn, 1) := by decide +kernel
set_option maxRecDepth 20000 in
theorem ggX0_flipDigit_X0_has : GoodIn wsX0_flipDigit wsX0_has := goodIn_r _ [15] (by decide +kernel) (by decide +kernel)
set_option maxRecDepth 20000 in
theorem gX0_flipDigit_X0_has : GoodIn wsX0_flipDigit (va_wsS RX0 52 yX0_has wsX0_has) := goodIn_app (goodIn_of _ (by decide +kernel)) ggX0_flipDigit_X0_has
theorem dX0_flipDigit_0 : decode cX0_flipDigit 0 = .ok (.iload_n 1, 1) := by decide +kernel
theorem dX0_flipDigit_1 : decode cX0_flipDigit 1 = .ok (.istore_n 3, 1) := by decide +kernel
theorem dX0_flipDigit_2 : decode cX0_flipDigit 2 = .ok (.iconst 0, 1) := by decide +kernel
theorem dX0_flipDigit_3 : decode cX0_flipDigit 3 = .ok (.istore 4, 2) := by decide +kernel
theorem dX0_flipDigit_5 : decode cX0_flipDigit 5 = .ok (.iconst 0, 1) := by decide +kernel
theorem dX0_flipDigit_6 : decode cX0_flipDigit 6 = .ok (.istore 5, 2) := by decide +kernel
theorem dX0_flipDigit_8 : decode cX0_flipDigit 8 = .ok (.iload 5, 2) := by decide +kernel
theorem dX0_flipDigit_10 : decode cX0_flipDigit 10 = .ok (.aload_n 0, 1) := by decide +kernel
theorem dX0_flipDigit_11 : decode cX0_flipDigit 11 = .ok (.getfield 9, 3) := by decide +kernel
theorem dX0_flipDigit_14 : decode cX0_flipDigit 14 = .ok (.if_icmp .ge 63, 3) := by decide +kernel
theorem dX0_flipDigit_17 : decode cX0_flipDigit 17 = .ok (.aload_n 0, 1) := by decide +kernel
theorem dX0_flipDigit_18 : decode cX0_flipDigit 18 = .ok (.getfield 13, 3) := by decide +kernel
theorem dX0_flipDigit_21 : decode cX0_flipDigit 21 = .ok (.iload_n 2, 1) := by decide +kernel
theorem dX0_flipDigit_22 : decode cX0_flipDigit 22 = .ok (.iaload, 1) := by decide +kernel
theorem dX0_flipDigit_23 : decode cX0_flipDigit 23 = .ok (.iload 5, 2) := by decide +kernel
theorem dX0_flipDigit_25 : decode cX0_flipDigit 25 = .ok (.invokestatic 52, 3) := by decide +kernel
theorem dX0_flipDigit_28 : decode cX0_flipDigit 28 = .ok (.ifCond .eq 15, 3) := by decide +kernel
theorem dX0_flipDigit_31 : decode cX0_flipDigit 31 = .ok (.iload_n 3, 1) := by decide +kernel
theorem dX0_flipDigit_32 : decode cX0_flipDigit 32 = .ok (.aload_n 0, 1) := by decide +kernel
theorem dX0_flipDigit_33 : decode cX0_flipDigit 33 = .ok (.getfield 26, 3) := by decide +kernel
theorem dX0_flipDigit_36 : decode cX0_flipDigit 36 = .ok (.iload 5, 2) := by decide +kernel
theorem dX0_flipDigit_38 : decode cX0_flipDigit 38 = .ok (.iaload, 1) := by decide +kernel
theorem dX0_flipDigit_39 : decode cX0_flipDigit 39 = .ok (.invokestatic 173, 3) := by decide +kernel
theorem dX0_flipDigit_42 : decode cX0_flipDigit 42 = .ok (.istore_n 3, 1) := by decide +kernel
theorem dX0_flipDigit_43 : decode cX0_flipDigit 43 = .ok (.aload_n 0, 1) := by decide +kernel
theorem dX0_flipDigit_44 : decode cX0_flipDigit 44 = .ok (.getfield 17, 3) := by decide +kernel
theorem dX0_flipDigit_47 : decode cX0_flipDigit 47 = .ok (.iload_n 2, 1) := by decide +kernel
theorem dX0_flipDigit_48 : decode cX0_flipDigit 48 = .ok (.iaload, 1) := by decide +kernel
theorem dX0_flipDigit_49 : decode cX0_flipDigit 49 = .ok (.iload 5, 2) := by decide +kernel
theorem dX0_flipDigit_51 : decode cX0_flipDigit 51 = .ok (.invokestatic 52, 3) := by decide +kernel
theorem dX0_flipDigit_54 : decode cX0_flipDigit 54 = .ok (.ifCond .eq 17, 3) := by decide +kernel
theorem dX0_flipDigit_57 : decode cX0_flipDigit 57 = .ok (.iload 4, 2) := by decide +kernel
theorem dX0_flipDigit_59 : decode cX0_flipDigit 59 = .ok (.aload_n 0, 1) := by decide +kernel
theorem dX0_flipDigit_60 : decode cX0_flipDigit 60 = .ok (.getfield 26, 3) := by decide +kernel
theorem dX0_flipDigit_63 : decode cX0_flipDigit 63 = .ok (.iload 5, 2) := by decide +kernel
theorem dX0_flipDigit_65 : decode cX0_flipDigit 65 = .ok (.iaload, 1) := by decide +kernel
theorem dX0_flipDigit_66 : decode cX0_flipDigit 66 = .ok (.invokestatic 160, 3) := by decide +kernel
theorem dX0_flipDigit_69 : decode cX0_flipDigit 69 = .ok (.istore 4, 2) := by decide +kernel
theorem dX0_flipDigit_71 : decode cX0_flipDigit 71 = .ok (.iinc 5 1, 3) := by decide +kernel
theorem dX0_flipDigit_74 : decode cX0_flipDigit 74 = .ok (.goto (-66), 3) := by decide +kernel
theorem dX0_flipDigit_77 : decode cX0_flipDigit 77 = .ok (.aload_n 0, 1) := by decide +kernel
theorem dX0_flipDigit_78 : decode cX0_flipDigit 78 = .ok (.getfield 26, 3) := by decide +kernel
theorem dX0_flipDigit_81 : decode cX0_flipDigit 81 = .ok (.iload_n 2, 1) := by decide +kernel
theorem dX0_flipDigit_82 : decode cX0_flipDigit 82 = .ok (.iload_n 3, 1) := by decide +kernel
theorem dX0_flipDigit_83 : decode cX0_flipDigit 83 = .ok (.iload 4, 2) := by decide +kernel
theorem dX0_flipDigit_85 : decode cX0_flipDigit 85 = .ok (.iadd, 1) := by decide +kernel
theorem dX0_flipDigit_86 : decode cX0_flipDigit 86 = .ok (.aload_n 0, 1) := by decide +kernel
theorem dX0_flipDigit_87 : decode cX0_flipDigit 87 = .ok (.getfield 26, 3) := by decide +kernel
theorem dX0_flipDigit_90 : decode cX0_flipDigit 90 = .ok (.iload_n 2, 1) := by decide +kernel
theorem dX0_flipDigit_91 : decode cX0_flipDigit 91 = .ok (.iaload, 1) := by decide +kernel
theorem dX0_flipDigit_92 : decode cX0_flipDigit 92 = .ok (.isub, 1) := by decide +kernel
theorem dX0_flipDigit_93 : decode cX0_flipDigit 93 = .ok (.iastore, 1) := by decide +kernel
theorem dX0_flipDigit_94 : decode cX0_flipDigit 94 = .ok (.return_, 1) := by decide +kernel
set_option maxRecDepth 20000 in
theorem ggX0_turnDigits_X0_flipDigit : GoodIn wsX0_turnDigits wsX0_flipDigit := goodIn_r _ [8, 1, 9, 10, 11, 12, 13, 14, 15, 16, 17, 18, 19, 20, 7, 21, 22, 23, 24, 25, 26, 27, 28, 29, 30, 31, 32, 33, 34] (by decide +kernel) (by decide +kernel)
set_option maxRecDepth 20000 in
theorem gX0_turnDigits_X0_flipDigit : GoodIn wsX0_turnDigits (wsV RX0 127 RX0 yX0_flipDigit wsX0_flipDigit) := goodIn_app (goodIn_of _ (by decide +kernel)) ggX0_turnDigits_X0_flipDigit
theorem dX0_turnDigits_0 : decode cX0_turnDigits 0 = .ok (.iload_n 2, 1) := by decide +kernel
theorem dX0_turnDigits_1 : decode cX0_turnDigits 1 = .ok (.ifCond .ne 29, 3) := by decide +kernel
theorem dX0_turnDigits_4 : decode cX0_turnDigits 4 = .ok (.aload_n 0, 1) := by decide +kernel
theorem dX0_turnDigits_5 : decode cX0_turnDigits 5 = .ok (.getfield 9, 3) := by decide +kernel
theorem dX0_turnDigits_8 : decode cX0_turnDigits 8 = .ok (.iconst 1, 1) := by decide +kernel
theorem dX0_turnDigits_9 : decode cX0_turnDigits 9 = .ok (.isub, 1) := by decide +kernel
theorem dX0_turnDigits_10 : decode cX0_turnDigits 10 = .ok (.istore_n 3, 1) := by decide +kernel
theorem dX0_turnDigits_11 : decode cX0_turnDigits 11 = .ok (.iload_n 3, 1) := by decide +kernel
theorem dX0_turnDigits_12 : decode cX0_turnDigits 12 = .ok (.ifCond .lt 15, 3) := by decide +kernel
theorem dX0_turnDigits_15 : decode cX0_turnDigits 15 = .ok (.aload_n 0, 1) := by decide +kernel
theorem dX0_turnDigits_16 : decode cX0_turnDigits 16 = .ok (.iload_n 1, 1) := by decide +kernel
theorem dX0_turnDigits_17 : decode cX0_turnDigits 17 = .ok (.iload_n 3, 1) := by decide +kernel
theorem dX0_turnDigits_18 : decode cX0_turnDigits 18 = .ok (.invokevirtual 127, 3) := by decide +kernel
theorem dX0_turnDigits_21 : decode cX0_turnDigits 21 = .ok (.iinc 3 (-1), 3) := by decide +kernel
theorem dX0_turnDigits_24 : decode cX0_turnDigits 24 = .ok (.goto (-13), 3) := by decide +kernel
theorem dX0_turnDigits_27 : decode cX0_turnDigits 27 = .ok (.goto 30, 3) := by decide +kernel
theorem dX0_turnDigits_30 : decode cX0_turnDigits 30 = .ok (.iconst 0, 1) := by decide +kernel
theorem dX0_turnDigits_31 : decode cX0_turnDigits 31 = .ok (.istore_n 3, 1) := by decide +kernel
theorem dX0_turnDigits_32 : decode cX0_turnDigits 32 = .ok (.iload_n 3, 1) := by decide +kernel
theorem dX0_turnDigits_33 : decode cX0_turnDigits 33 = .ok (.aload_n 0, 1) := by decide +kernel
theorem dX0_turnDigits_34 : decode cX0_turnDigits 34 = .ok (.getfield 45, 3) := by decide +kernel
theorem dX0_turnDigits_37 : decode cX0_turnDigits 37 = .ok (.if_icmp .ge 20, 3) := by decide +kernel
theorem dX0_turnDigits_40 : decode cX0_turnDigits 40 = .ok (.aload_n 0, 1) := by decide +kernel
theorem dX0_turnDigits_41 : decode cX0_turnDigits 41 = .ok (.iload_n 1, 1) := by decide +kernel
theorem dX0_turnDigits_42 : decode cX0_turnDigits 42 = .ok (.aload_n 0, 1) := by decide +kernel
theorem dX0_turnDigits_43 : decode cX0_turnDigits 43 = .ok (.getfield 23, 3) := by decide +kernel
theorem dX0_turnDigits_46 : decode cX0_turnDigits 46 = .ok (.iload_n 3, 1) := by decide +kernel
theorem dX0_turnDigits_47 : decode cX0_turnDigits 47 = .ok (.iaload, 1) := by decide +kernel
theorem dX0_turnDigits_48 : decode cX0_turnDigits 48 = .ok (.invokevirtual 127, 3) := by decide +kernel
theorem dX0_turnDigits_51 : decode cX0_turnDigits 51 = .ok (.iinc 3 1, 3) := by decide +kernel
theorem dX0_turnDigits_54 : decode cX0_turnDigits 54 = .ok (.goto (-22), 3) := by decide +kernel
theorem dX0_turnDigits_57 : decode cX0_turnDigits 57 = .ok (.return_, 1) := by decide +kernel
set_option maxRecDepth 20000 in
theorem ggX0_sumAtRoot_X0_countSizes : GoodIn wsX0_sumAtRoot wsX0_countSizes := goodIn_r _ [8, 1, 2, 9, 10, 11, 7, 12, 13, 14, 15, 16, 17, 18, 19, 20, 21, 22, 23, 24, 25, 26, 27, 28, 29, 30, 31, 32, 33, 34, 35, 36, 37, 38, 39, 40, 41, 42, 43, 44] (by decide +kernel) (by decide +kernel)
set_option maxRecDepth 20000 in
theorem gX0_sumAtRoot_X0_countSizes : GoodIn wsX0_sumAtRoot (wsV RX0 137 RX0 yX0_countSizes wsX0_countSizes) := goodIn_app (goodIn_of _ (by decide +kernel)) ggX0_sumAtRoot_X0_countSizes
theorem dX0_sumAtRoot_0 : decode cX0_sumAtRoot 0 = .ok (.aload_n 0, 1) := by decide +kernel
theorem dX0_sumAtRoot_1 : decode cX0_sumAtRoot 1 = .ok (.invokevirtual 137, 3) := by decide +kernel
theorem dX0_sumAtRoot_4 : decode cX0_sumAtRoot 4 = .ok (.iconst 0, 1) := by decide +kernel
theorem dX0_sumAtRoot_5 : decode cX0_sumAtRoot 5 = .ok (.istore_n 3, 1) := by decide +kernel
theorem dX0_sumAtRoot_6 : decode cX0_sumAtRoot 6 = .ok (.iconst 0, 1) := by decide +kernel
theorem dX0_sumAtRoot_7 : decode cX0_sumAtRoot 7 = .ok (.istore 4, 2) := by decide +kernel
theorem dX0_sumAtRoot_9 : decode cX0_sumAtRoot 9 = .ok (.aload_n 0, 1) := by decide +kernel
theorem dX0_sumAtRoot_10 : decode cX0_sumAtRoot 10 = .ok (.getfield 9, 3) := by decide +kernel
theorem dX0_sumAtRoot_13 : decode cX0_sumAtRoot 13 = .ok (.istore 5, 2) := by decide +kernel
theorem dX0_sumAtRoot_15 : decode cX0_sumAtRoot 15 = .ok (.iload 5, 2) := by decide +kernel
theorem dX0_sumAtRoot_17 : decode cX0_sumAtRoot 17 = .ok (.ifCond .lt 32, 3) := by decide +kernel
theorem dX0_sumAtRoot_20 : decode cX0_sumAtRoot 20 = .ok (.iload_n 3, 1) := by decide +kernel
theorem dX0_sumAtRoot_21 : decode cX0_sumAtRoot 21 = .ok (.iload_n 2, 1) := by decide +kernel
theorem dX0_sumAtRoot_22 : decode cX0_sumAtRoot 22 = .ok (.iload 4, 2) := by decide +kernel
theorem dX0_sumAtRoot_24 : decode cX0_sumAtRoot 24 = .ok (.imul, 1) := by decide +kernel
theorem dX0_sumAtRoot_25 : decode cX0_sumAtRoot 25 = .ok (.iadd, 1) := by decide +kernel
theorem dX0_sumAtRoot_26 : decode cX0_sumAtRoot 26 = .ok (.istore 6, 2) := by decide +kernel
theorem dX0_sumAtRoot_28 : decode cX0_sumAtRoot 28 = .ok (.aload_n 0, 1) := by decide +kernel
theorem dX0_sumAtRoot_29 : decode cX0_sumAtRoot 29 = .ok (.getfield 29, 3) := by decide +kernel
theorem dX0_sumAtRoot_32 : decode cX0_sumAtRoot 32 = .ok (.iload 5, 2) := by decide +kernel
theorem dX0_sumAtRoot_34 : decode cX0_sumAtRoot 34 = .ok (.iaload, 1) := by decide +kernel
theorem dX0_sumAtRoot_35 : decode cX0_sumAtRoot 35 = .ok (.iload 4, 2) := by decide +kernel
theorem dX0_sumAtRoot_37 : decode cX0_sumAtRoot 37 = .ok (.isub, 1) := by decide +kernel
theorem dX0_sumAtRoot_38 : decode cX0_sumAtRoot 38 = .ok (.istore_n 3, 1) := by decide +kernel
theorem dX0_sumAtRoot_39 : decode cX0_sumAtRoot 39 = .ok (.iload 6, 2) := by decide +kernel
theorem dX0_sumAtRoot_41 : decode cX0_sumAtRoot 41 = .ok (.istore 4, 2) := by decide +kernel
theorem dX0_sumAtRoot_43 : decode cX0_sumAtRoot 43 = .ok (.iinc 5 (-1), 3) := by decide +kernel
theorem dX0_sumAtRoot_46 : decode cX0_sumAtRoot 46 = .ok (.goto (-31), 3) := by decide +kernel
theorem dX0_sumAtRoot_49 : decode cX0_sumAtRoot 49 = .ok (.iload_n 1, 1) := by decide +kernel
theorem dX0_sumAtRoot_50 : decode cX0_sumAtRoot 50 = .ok (.iconst 1, 1) := by decide +kernel
theorem dX0_sumAtRoot_51 : decode cX0_sumAtRoot 51 = .ok (.if_icmp .ne 8, 3) := by decide +kernel
theorem dX0_sumAtRoot_54 : decode cX0_sumAtRoot 54 = .ok (.iload_n 3, 1) := by decide +kernel
theorem dX0_sumAtRoot_55 : decode cX0_sumAtRoot 55 = .ok (.iload 4, 2) := by decide +kernel
theorem dX0_sumAtRoot_57 : decode cX0_sumAtRoot 57 = .ok (.iadd, 1) := by decide +kernel
theorem dX0_sumAtRoot_58 : decode cX0_sumAtRoot 58 = .ok (.ireturn, 1) := by decide +kernel
theorem dX0_sumAtRoot_59 : decode cX0_sumAtRoot 59 = .ok (.iload_n 1, 1) := by decide +kernel
theorem dX0_sumAtRoot_60 : decode cX0_sumAtRoot 60 = .ok (.iconst 2, 1) := by decide +kernel
theorem dX0_sumAtRoot_61 : decode cX0_sumAtRoot 61 = .ok (.if_icmp .ne 8, 3) := by decide +kernel
theorem dX0_sumAtRoot_64 : decode cX0_sumAtRoot 64 = .ok (.iload_n 3, 1) := by decide +kernel
theorem dX0_sumAtRoot_65 : decode cX0_sumAtRoot 65 = .ok (.iload 4, 2) := by decide +kernel
theorem dX0_sumAtRoot_67 : decode cX0_sumAtRoot 67 = .ok (.isub, 1) := by decide +kernel
theorem dX0_sumAtRoot_68 : decode cX0_sumAtRoot 68 = .ok (.ireturn, 1) := by decide +kernel
theorem dX0_sumAtRoot_69 : decode cX0_sumAtRoot 69 = .ok (.iload 4, 2) := by decide +kernel
theorem dX0_sumAtRoot_71 : decode cX0_sumAtRoot 71 = .ok (.ifCond .ne 7, 3) := by decide +kernel
theorem dX0_sumAtRoot_74 : decode cX0_sumAtRoot 74 = .ok (.iload_n 3, 1) := by decide +kernel
theorem dX0_sumAtRoot_75 : decode cX0_sumAtRoot 75 = .ok (.goto 5, 3) := by decide +kernel
theorem dX0_sumAtRoot_78 : decode cX0_sumAtRoot 78 = .ok (.ldc 56, 2) := by decide +kernel
theorem dX0_sumAtRoot_80 : decode cX0_sumAtRoot 80 = .ok (.ireturn, 1) := by decide +kernel
theorem dX1_init_0 : decode cX1_init 0 = .ok (.aload_n 0, 1) := by decide +kernel
theorem dX1_init_1 : decode cX1_init 1 = .ok (.invokespecial 1, 3) := by decide +kernel
theorem dX1_init_4 : decode cX1_init 4 = .ok (.aload_n 0, 1) := by decide +kernel
theorem dX1_init_5 : decode cX1_init 5 = .ok (.iconst 3, 1) := by decide +kernel
theorem dX1_init_6 : decode cX1_init 6 = .ok (.putfield 7, 3) := by decide +kernel
theorem dX1_init_9 : decode cX1_init 9 = .ok (.aload_n 0, 1) := by decide +kernel
theorem dX1_init_10 : decode cX1_init 10 = .ok (.bipush 64, 2) := by decide +kernel
theorem dX1_init_12 : decode cX1_init 12 = .ok (.newarray .boolean, 2) := by decide +kernel
theorem dX1_init_14 : decode cX1_init 14 = .ok (.putfield 13, 3) := by decide +kernel
theorem dX1_init_17 : decode cX1_init 17 = .ok (.aload_n 0, 1) := by decide +kernel
theorem dX1_init_18 : decode cX1_init 18 = .ok (.bipush 8, 2) := by decide +kernel
theorem dX1_init_20 : decode cX1_init 20 = .ok (.newarray .int, 2) := by decide +kernel
theorem dX1_init_22 : decode cX1_init 22 = .ok (.putfield 17, 3) := by decide +kernel
theorem dX1_init_25 : decode cX1_init 25 = .ok (.aload_n 0, 1) := by decide +kernel
theorem dX1_init_26 : decode cX1_init 26 = .ok (.bipush 16, 2) := by decide +kernel
theorem dX1_init_28 : decode cX1_init 28 = .ok (.newarray .int, 2) := by decide +kernel
theorem dX1_init_30 : decode cX1_init 30 = .ok (.putfield 21, 3) := by decide +kernel
theorem dX1_init_33 : decode cX1_init 33 = .ok (.aload_n 0, 1) := by decide +kernel
theorem dX1_init_34 : decode cX1_init 34 = .ok (.sipush 256, 3) := by decide +kernel
theorem dX1_init_37 : decode cX1_init 37 = .ok (.newarray .boolean, 2) := by decide +kernel
theorem dX1_init_39 : decode cX1_init 39 = .ok (.putfield 24, 3) := by decide +kernel
theorem dX1_init_42 : decode cX1_init 42 = .ok (.aload_n 0, 1) := by decide +kernel
theorem dX1_init_43 : decode cX1_init 43 = .ok (.bipush 8, 2) := by decide +kernel
theorem dX1_init_45 : decode cX1_init 45 = .ok (.newarray .int, 2) := by decide +kernel
theorem dX1_init_47 : decode cX1_init 47 = .ok (.putfield 27, 3) := by decide +kernel
theorem dX1_init_50 : decode cX1_init 50 = .ok (.aload_n 0, 1) := by decide +kernel
theorem dX1_init_51 : decode cX1_init 51 = .ok (.bipush 6, 2) := by decide +kernel
theorem dX1_init_53 : decode cX1_init 53 = .ok (.newarray .int, 2) := by decide +kernel
theorem dX1_init_55 : decode cX1_init 55 = .ok (.putfield 30, 3) := by decide +kernel
theorem dX1_init_58 : decode cX1_init 58 = .ok (.aload_n 0, 1) := by decide +kernel
theorem dX1_init_59 : decode cX1_init 59 = .ok (.iconst 0, 1) := by decide +kernel
theorem dX1_init_60 : decode cX1_init 60 = .ok (.putfield 33, 3) := by decide +kernel
theorem dX1_init_63 : decode cX1_init 63 = .ok (.return_, 1) := by decide +kernel
theorem dX1_in_0 : decode cX1_in 0 = .ok (.iload_n 0, 1) := by decide +kernel
theorem dX1_in_1 : decode cX1_in 1 = .ok (.iload_n 1, 1) := by decide +kernel
theorem dX1_in_2 : decode cX1_in 2 = .ok (.if_icmp .lt 12, 3) := by decide +kernel
theorem dX1_in_5 : decode cX1_in 5 = .ok (.iload_n 0, 1) := by decide +kernel
theorem dX1_in_6 : decode cX1_in 6 = .ok (.iload_n 2, 1) := by decide +kernel
theorem dX1_in_7 : decode cX1_in 7 = .ok (.if_icmp .gt 7, 3) := by decide +kernel
theorem dX1_in_10 : decode cX1_in 10 = .ok (.iconst 1, 1) := by decide +kernel
theorem dX1_in_11 : decode cX1_in 11 = .ok (.goto 4, 3) := by decide +kernel
theorem dX1_in_14 : decode cX1_in 14 = .ok (.iconst 0, 1) := by decide +kernel
theorem dX1_in_15 : decode cX1_in 15 = .ok (.ireturn, 1) := by decide +kernel
set_option maxRecDepth 20000 in
theorem ggX1_isThing_X1_in : GoodIn wsX1_isThing wsX1_in := goodIn_r _ [5] (by decide +kernel) (by decide +kernel)
set_option maxRecDepth 20000 in
theorem gX1_isThing_X1_in : GoodIn wsX1_isThing (va_wsS RX1 36 yX1_in wsX1_in) := goodIn_app (goodIn_of _ (by decide +kernel)) ggX1_isThing_X1_in
theorem dX1_isThing_0 : decode cX1_isThing 0 = .ok (.iload_n 1, 1) := by decide +kernel
theorem dX1_isThing_1 : decode cX1_isThing 1 = .ok (.iconst 0, 1) := by decide +kernel
theorem dX1_isThing_2 : decode cX1_isThing 2 = .ok (.aload_n 0, 1) := by decide +kernel
theorem dX1_isThing_3 : decode cX1_isThing 3 = .ok (.getfield 7, 3) := by decide +kernel
theorem dX1_isThing_6 : decode cX1_isThing 6 = .ok (.iconst 1, 1) := by decide +kernel
theorem dX1_isThing_7 : decode cX1_isThing 7 = .ok (.isub, 1) := by decide +kernel
theorem dX1_isThing_8 : decode cX1_isThing 8 = .ok (.invokestatic 36, 3) := by decide +kernel
theorem dX1_isThing_11 : decode cX1_isThing 11 = .ok (.ireturn, 1) := by decide +kernel
set_option maxRecDepth 20000 in
theorem ggX1_things_X1_in : GoodIn wsX1_things wsX1_in := goodIn_r _ [8] (by decide +kernel) (by decide +kernel)
set_option maxRecDepth 20000 in
theorem gX1_things_X1_in : GoodIn wsX1_things (va_wsS RX1 36 yX1_in wsX1_in) := goodIn_app (goodIn_of _ (by decide +kernel)) ggX1_things_X1_in
theorem dX1_things_0 : decode cX1_things 0 = .ok (.iload_n 1, 1) := by decide +kernel
theorem dX1_things_1 : decode cX1_things 1 = .ok (.iconst 1, 1) := by decide +kernel
theorem dX1_things_2 : decode cX1_things 2 = .ok (.bipush 8, 2) := by decide +kernel
theorem dX1_things_4 : decode cX1_things 4 = .ok (.invokestatic 36, 3) := by decide +kernel
theorem dX1_things_7 : decode cX1_things 7 = .ok (.ifCond .ne 5, 3) := by decide +kernel
theorem dX1_things_10 : decode cX1_things 10 = .ok (.iconst (-1), 1) := by decide +kernel
theorem dX1_things_11 : decode cX1_things 11 = .ok (.ireturn, 1) := by decide +kernel
theorem dX1_things_12 : decode cX1_things 12 = .ok (.aload_n 0, 1) := by decide +kernel
theorem dX1_things_13 : decode cX1_things 13 = .ok (.getfield 7, 3) := by decide +kernel
theorem dX1_things_16 : decode cX1_things 16 = .ok (.istore_n 2, 1) := by decide +kernel
theorem dX1_things_17 : decode cX1_things 17 = .ok (.aload_n 0, 1) := by decide +kernel
theorem dX1_things_18 : decode cX1_things 18 = .ok (.iload_n 1, 1) := by decide +kernel
theorem dX1_things_19 : decode cX1_things 19 = .ok (.putfield 7, 3) := by decide +kernel
theorem dX1_things_22 : decode cX1_things 22 = .ok (.aload_n 0, 1) := by decide +kernel
theorem dX1_things_23 : decode cX1_things 23 = .ok (.iconst 0, 1) := by decide +kernel
theorem dX1_things_24 : decode cX1_things 24 = .ok (.putfield 33, 3) := by decide +kernel
theorem dX1_things_27 : decode cX1_things 27 = .ok (.iconst 0, 1) := by decide +kernel
theorem dX1_things_28 : decode cX1_things 28 = .ok (.istore_n 3, 1) := by decide +kernel
theorem dX1_things_29 : decode cX1_things 29 = .ok (.iload_n 3, 1) := by decide +kernel
theorem dX1_things_30 : decode cX1_things 30 = .ok (.bipush 64, 2) := by decide +kernel
theorem dX1_things_32 : decode cX1_things 32 = .ok (.if_icmp .ge 16, 3) := by decide +kernel
theorem dX1_things_35 : decode cX1_things 35 = .ok (.aload_n 0, 1) := by decide +kernel
theorem dX1_things_36 : decode cX1_things 36 = .ok (.getfield 13, 3) := by decide +kernel
theorem dX1_things_39 : decode cX1_things 39 = .ok (.iload_n 3, 1) := by decide +kernel
theorem dX1_things_40 : decode cX1_things 40 = .ok (.iconst 0, 1) := by decide +kernel
theorem dX1_things_41 : decode cX1_things 41 = .ok (.bastore, 1) := by decide +kernel
theorem dX1_things_42 : decode cX1_things 42 = .ok (.iinc 3 1, 3) := by decide +kernel
theorem dX1_things_45 : decode cX1_things 45 = .ok (.goto (-16), 3) := by decide +kernel
theorem dX1_things_48 : decode cX1_things 48 = .ok (.iconst 0, 1) := by decide +kernel
theorem dX1_things_49 : decode cX1_things 49 = .ok (.istore_n 3, 1) := by decide +kernel
theorem dX1_things_50 : decode cX1_things 50 = .ok (.iload_n 3, 1) := by decide +kernel
theorem dX1_things_51 : decode cX1_things 51 = .ok (.bipush 8, 2) := by decide +kernel
theorem dX1_things_53 : decode cX1_things 53 = .ok (.if_icmp .ge 16, 3) := by decide +kernel
theorem dX1_things_56 : decode cX1_things 56 = .ok (.aload_n 0, 1) := by decide +kernel
theorem dX1_things_57 : decode cX1_things 57 = .ok (.getfield 17, 3) := by decide +kernel
theorem dX1_things_60 : decode cX1_things 60 = .ok (.iload_n 3, 1) := by decide +kernel
theorem dX1_things_61 : decode cX1_things 61 = .ok (.iconst 0, 1) := by decide +kernel
theorem dX1_things_62 : decode cX1_things 62 = .ok (.iastore, 1) := by decide +kernel
theorem dX1_things_63 : decode cX1_things 63 = .ok (.iinc 3 1, 3) := by decide +kernel
theorem dX1_things_66 : decode cX1_things 66 = .ok (.goto (-16), 3) := by decide +kernel
theorem dX1_things_69 : decode cX1_things 69 = .ok (.iload_n 2, 1) := by decide +kernel
theorem dX1_things_70 : decode cX1_things 70 = .ok (.ireturn, 1) := by decide +kernel
set_option maxRecDepth 20000 in
theorem ggX1_lay_X1_isThing : GoodIn wsX1_lay wsX1_isThing := goodIn_r _ [7, 2, 8, 9, 6, 10, 11, 12, 13, 14, 15, 16, 17, 18, 19] (by decide +kernel) (by decide +kernel)
set_option maxRecDepth 20000 in
theorem gX1_lay_X1_isThing : GoodIn wsX1_lay (wsV RX1 40 RX1 yX1_isThing wsX1_isThing) := goodIn_app (goodIn_of _ (by decide +kernel)) ggX1_lay_X1_isThing
theorem dX1_lay_0 : decode cX1_lay 0 = .ok (.aload_n 0, 1) := by decide +kernel
theorem dX1_lay_1 : decode cX1_lay 1 = .ok (.iload_n 1, 1) := by decide +kernel
theorem dX1_lay_2 : decode cX1_lay 2 = .ok (.invokevirtual 40, 3) := by decide +kernel
theorem dX1_lay_5 : decode cX1_lay 5 = .ok (.ifCond .eq 16, 3) := by decide +kernel
theorem dX1_lay_8 : decode cX1_lay 8 = .ok (.aload_n 0, 1) := by decide +kernel
theorem dX1_lay_9 : decode cX1_lay 9 = .ok (.iload_n 2, 1) := by decide +kernel
theorem dX1_lay_10 : decode cX1_lay 10 = .ok (.invokevirtual 40, 3) := by decide +kernel
theorem dX1_lay_13 : decode cX1_lay 13 = .ok (.ifCond .eq 8, 3) := by decide +kernel
theorem dX1_lay_16 : decode cX1_lay 16 = .ok (.iload_n 1, 1) := by decide +kernel
theorem dX1_lay_17 : decode cX1_lay 17 = .ok (.iload_n 2, 1) := by decide +kernel
theorem dX1_lay_18 : decode cX1_lay 18 = .ok (.if_icmp .lt 5, 3) := by decide +kernel
theorem dX1_lay_21 : decode cX1_lay 21 = .ok (.iconst (-1), 1) := by decide +kernel
theorem dX1_lay_22 : decode cX1_lay 22 = .ok (.ireturn, 1) := by decide +kernel
theorem dX1_lay_23 : decode cX1_lay 23 = .ok (.aload_n 0, 1) := by decide +kernel
theorem dX1_lay_24 : decode cX1_lay 24 = .ok (.getfield 13, 3) := by decide +kernel
theorem dX1_lay_27 : decode cX1_lay 27 = .ok (.bipush 8, 2) := by decide +kernel
theorem dX1_lay_29 : decode cX1_lay 29 = .ok (.iload_n 1, 1) := by decide +kernel
theorem dX1_lay_30 : decode cX1_lay 30 = .ok (.imul, 1) := by decide +kernel
theorem dX1_lay_31 : decode cX1_lay 31 = .ok (.iload_n 2, 1) := by decide +kernel
theorem dX1_lay_32 : decode cX1_lay 32 = .ok (.iadd, 1) := by decide +kernel
theorem dX1_lay_33 : decode cX1_lay 33 = .ok (.baload, 1) := by decide +kernel
theorem dX1_lay_34 : decode cX1_lay 34 = .ok (.ifCond .eq 5, 3) := by decide +kernel
theorem dX1_lay_37 : decode cX1_lay 37 = .ok (.iconst 0, 1) := by decide +kernel
theorem dX1_lay_38 : decode cX1_lay 38 = .ok (.ireturn, 1) := by decide +kernel
theorem dX1_lay_39 : decode cX1_lay 39 = .ok (.aload_n 0, 1) := by decide +kernel
theorem dX1_lay_40 : decode cX1_lay 40 = .ok (.getfield 13, 3) := by decide +kernel
theorem dX1_lay_43 : decode cX1_lay 43 = .ok (.bipush 8, 2) := by decide +kernel
theorem dX1_lay_45 : decode cX1_lay 45 = .ok (.iload_n 1, 1) := by decide +kernel
theorem dX1_lay_46 : decode cX1_lay 46 = .ok (.imul, 1) := by decide +kernel
theorem dX1_lay_47 : decode cX1_lay 47 = .ok (.iload_n 2, 1) := by decide +kernel
theorem dX1_lay_48 : decode cX1_lay 48 = .ok (.iadd, 1) := by decide +kernel
theorem dX1_lay_49 : decode cX1_lay 49 = .ok (.iconst 1, 1) := by decide +kernel
theorem dX1_lay_50 : decode cX1_lay 50 = .ok (.bastore, 1) := by decide +kernel
theorem dX1_lay_51 : decode cX1_lay 51 = .ok (.iconst 0, 1) := by decide +kernel
theorem dX1_lay_52 : decode cX1_lay 52 = .ok (.istore_n 3, 1) := by decide +kernel
theorem dX1_lay_53 : decode cX1_lay 53 = .ok (.iload_n 3, 1) := by decide +kernel
theorem dX1_lay_54 : decode cX1_lay 54 = .ok (.aload_n 0, 1) := by decide +kernel
theorem dX1_lay_55 : decode cX1_lay 55 = .ok (.getfield 7, 3) := by decide +kernel
theorem dX1_lay_58 : decode cX1_lay 58 = .ok (.if_icmp .ge 109, 3) := by decide +kernel
theorem dX1_lay_61 : decode cX1_lay 61 = .ok (.iconst 0, 1) := by decide +kernel
theorem dX1_lay_62 : decode cX1_lay 62 = .ok (.istore 4, 2) := by decide +kernel
theorem dX1_lay_64 : decode cX1_lay 64 = .ok (.iload 4, 2) := by decide +kernel
theorem dX1_lay_66 : decode cX1_lay 66 = .ok (.aload_n 0, 1) := by decide +kernel
theorem dX1_lay_67 : decode cX1_lay 67 = .ok (.getfield 7, 3) := by decide +kernel
theorem dX1_lay_70 : decode cX1_lay 70 = .ok (.if_icmp .ge 91, 3) := by decide +kernel
theorem dX1_lay_73 : decode cX1_lay 73 = .ok (.iconst 0, 1) := by decide +kernel
theorem dX1_lay_74 : decode cX1_lay 74 = .ok (.istore 5, 2) := by decide +kernel
theorem dX1_lay_76 : decode cX1_lay 76 = .ok (.iload 5, 2) := by decide +kernel
theorem dX1_lay_78 : decode cX1_lay 78 = .ok (.aload_n 0, 1) := by decide +kernel
theorem dX1_lay_79 : decode cX1_lay 79 = .ok (.getfield 7, 3) := by decide +kernel
theorem dX1_lay_82 : decode cX1_lay 82 = .ok (.if_icmp .ge 73, 3) := by decide +kernel
theorem dX1_lay_85 : decode cX1_lay 85 = .ok (.aload_n 0, 1) := by decide +kernel
theorem dX1_lay_86 : decode cX1_lay 86 = .ok (.getfield 13, 3) := by decide +kernel
theorem dX1_lay_89 : decode cX1_lay 89 = .ok (.bipush 8, 2) := by decide +kernel
theorem dX1_lay_91 : decode cX1_lay 91 = .ok (.iload 4, 2) := by decide +kernel
theorem dX1_lay_93 : decode cX1_lay 93 = .ok (.imul, 1) := by decide +kernel
theorem dX1_lay_94 : decode cX1_lay 94 = .ok (.iload 5, 2) := by decide +kernel
theorem dX1_lay_96 : decode cX1_lay 96 = .ok (.iadd, 1) := by decide +kernel
theorem dX1_lay_97 : decode cX1_lay 97 = .ok (.aload_n 0, 1) := by decide +kernel
theorem dX1_lay_98 : decode cX1_lay 98 = .ok (.getfield 13, 3) := by decide +kernel
theorem dX1_lay_101 : decode cX1_lay 101 = .ok (.bipush 8, 2) := by decide +kernel
theorem dX1_lay_103 : decode cX1_lay 103 = .ok (.iload 4, 2) := by decide +kernel
theorem dX1_lay_105 : decode cX1_lay 105 = .ok (.imul, 1) := by decide +kernel
theorem dX1_lay_106 : decode cX1_lay 106 = .ok (.iload 5, 2) := by decide +kernel
theorem dX1_lay_108 : decode cX1_lay 108 = .ok (.iadd, 1) := by decide +kernel
theorem dX1_lay_109 : decode cX1_lay 109 = .ok (.baload, 1) := by decide +kernel
theorem dX1_lay_110 : decode cX1_lay 110 = .ok (.ifCond .ne 33, 3) := by decide +kernel
theorem dX1_lay_113 : decode cX1_lay 113 = .ok (.aload_n 0, 1) := by decide +kernel
theorem dX1_lay_114 : decode cX1_lay 114 = .ok (.getfield 13, 3) := by decide +kernel
theorem dX1_lay_117 : decode cX1_lay 117 = .ok (.bipush 8, 2) := by decide +kernel
theorem dX1_lay_119 : decode cX1_lay 119 = .ok (.iload 4, 2) := by decide +kernel
theorem dX1_lay_121 : decode cX1_lay 121 = .ok (.imul, 1) := by decide +kernel
theorem dX1_lay_122 : decode cX1_lay 122 = .ok (.iload_n 3, 1) := by decide +kernel
theorem dX1_lay_123 : decode cX1_lay 123 = .ok (.iadd, 1) := by decide +kernel
theorem dX1_lay_124 : decode cX1_lay 124 = .ok (.baload, 1) := by decide +kernel
theorem dX1_lay_125 : decode cX1_lay 125 = .ok (.ifCond .eq 22, 3) := by decide +kernel
theorem dX1_lay_128 : decode cX1_lay 128 = .ok (.aload_n 0, 1) := by decide +kernel
theorem dX1_lay_129 : decode cX1_lay 129 = .ok (.getfield 13, 3) := by decide +kernel
theorem dX1_lay_132 : decode cX1_lay 132 = .ok (.bipush 8, 2) := by decide +kernel
theorem dX1_lay_134 : decode cX1_lay 134 = .ok (.iload_n 3, 1) := by decide +kernel
theorem dX1_lay_135 : decode cX1_lay 135 = .ok (.imul, 1) := by decide +kernel
theorem dX1_lay_136 : decode cX1_lay 136 = .ok (.iload 5, 2) := by decide +kernel
theorem dX1_lay_138 : decode cX1_lay 138 = .ok (.iadd, 1) := by decide +kernel
theorem dX1_lay_139 : decode cX1_lay 139 = .ok (.baload, 1) := by decide +kernel
theorem dX1_lay_140 : decode cX1_lay 140 = .ok (.ifCond .eq 7, 3) := by decide +kernel
theorem dX1_lay_143 : decode cX1_lay 143 = .ok (.iconst 1, 1) := by decide +kernel
theorem dX1_lay_144 : decode cX1_lay 144 = .ok (.goto 4, 3) := by decide +kernel
theorem dX1_lay_147 : decode cX1_lay 147 = .ok (.iconst 0, 1) := by decide +kernel
theorem dX1_lay_148 : decode cX1_lay 148 = .ok (.bastore, 1) := by decide +kernel
theorem dX1_lay_149 : decode cX1_lay 149 = .ok (.iinc 5 1, 3) := by decide +kernel
theorem dX1_lay_152 : decode cX1_lay 152 = .ok (.goto (-76), 3) := by decide +kernel
theorem dX1_lay_155 : decode cX1_lay 155 = .ok (.iinc 4 1, 3) := by decide +kernel
theorem dX1_lay_158 : decode cX1_lay 158 = .ok (.goto (-94), 3) := by decide +kernel
theorem dX1_lay_161 : decode cX1_lay 161 = .ok (.iinc 3 1, 3) := by decide +kernel
theorem dX1_lay_164 : decode cX1_lay 164 = .ok (.goto (-111), 3) := by decide +kernel
theorem dX1_lay_167 : decode cX1_lay 167 = .ok (.iconst 1, 1) := by decide +kernel
theorem dX1_lay_168 : decode cX1_lay 168 = .ok (.ireturn, 1) := by decide +kernel
set_option maxRecDepth 20000 in
theorem ggX1_below_X1_isThing : GoodIn wsX1_below wsX1_isThing := goodIn_r _ [6, 7, 8, 9, 5, 10, 11, 12, 13, 14, 15, 16, 17, 18, 19] (by decide +kernel) (by decide +kernel)
set_option maxRecDepth 20000 in
theorem gX1_below_X1_isThing : GoodIn wsX1_below (wsV RX1 40 RX1 yX1_isThing wsX1_isThing) := goodIn_app (goodIn_of _ (by decide +kernel)) ggX1_below_X1_isThing
theorem dX1_below_0 : decode cX1_below 0 = .ok (.aload_n 0, 1) := by decide +kernel
theorem dX1_below_1 : decode cX1_below 1 = .ok (.iload_n 1, 1) := by decide +kernel
theorem dX1_below_2 : decode cX1_below 2 = .ok (.invokevirtual 40, 3) := by decide +kernel
theorem dX1_below_5 : decode cX1_below 5 = .ok (.ifCond .eq 11, 3) := by decide +kernel
theorem dX1_below_8 : decode cX1_below 8 = .ok (.aload_n 0, 1) := by decide +kernel
theorem dX1_below_9 : decode cX1_below 9 = .ok (.iload_n 2, 1) := by decide +kernel
theorem dX1_below_10 : decode cX1_below 10 = .ok (.invokevirtual 40, 3) := by decide +kernel
theorem dX1_below_13 : decode cX1_below 13 = .ok (.ifCond .ne 7, 3) := by decide +kernel
theorem dX1_below_16 : decode cX1_below 16 = .ok (.iconst (-1), 1) := by decide +kernel
theorem dX1_below_17 : decode cX1_below 17 = .ok (.goto 22, 3) := by decide +kernel
theorem dX1_below_20 : decode cX1_below 20 = .ok (.aload_n 0, 1) := by decide +kernel
theorem dX1_below_21 : decode cX1_below 21 = .ok (.getfield 13, 3) := by decide +kernel
theorem dX1_below_24 : decode cX1_below 24 = .ok (.bipush 8, 2) := by decide +kernel
theorem dX1_below_26 : decode cX1_below 26 = .ok (.iload_n 1, 1) := by decide +kernel
theorem dX1_below_27 : decode cX1_below 27 = .ok (.imul, 1) := by decide +kernel
theorem dX1_below_28 : decode cX1_below 28 = .ok (.iload_n 2, 1) := by decide +kernel
theorem dX1_below_29 : decode cX1_below 29 = .ok (.iadd, 1) := by decide +kernel
theorem dX1_below_30 : decode cX1_below 30 = .ok (.baload, 1) := by decide +kernel
theorem dX1_below_31 : decode cX1_below 31 = .ok (.ifCond .eq 7, 3) := by decide +kernel
theorem dX1_below_34 : decode cX1_below 34 = .ok (.iconst 1, 1) := by decide +kernel
theorem dX1_below_35 : decode cX1_below 35 = .ok (.goto 4, 3) := by decide +kernel
theorem dX1_below_38 : decode cX1_below 38 = .ok (.iconst 0, 1) := by decide +kernel
theorem dX1_below_39 : decode cX1_below 39 = .ok (.ireturn, 1) := by decide +kernel
set_option maxRecDepth 20000 in
theorem ggX1_weight_X1_isThing : GoodIn wsX1_weight wsX1_isThing := goodIn_r _ [7, 8, 9, 10, 6, 11, 12, 13, 14, 15, 16, 17, 18, 19, 20] (by decide +kernel) (by decide +kernel)
set_option maxRecDepth 20000 in
theorem gX1_weight_X1_isThing : GoodIn wsX1_weight (wsV RX1 40 RX1 yX1_isThing wsX1_isThing) := goodIn_app (goodIn_of _ (by decide +kernel)) ggX1_weight_X1_isThing
set_option maxRecDepth 20000 in
theorem ggX1_weight_X1_in : GoodIn wsX1_weight wsX1_in := goodIn_r _ [11] (by decide +kernel) (by decide +kernel)
set_option maxRecDepth 20000 in
theorem gX1_weight_X1_in : GoodIn wsX1_weight (va_wsS RX1 36 yX1_in wsX1_in) := goodIn_app (goodIn_of _ (by decide +kernel)) ggX1_weight_X1_in
theorem dX1_weight_0 : decode cX1_weight 0 = .ok (.aload_n 0, 1) := by decide +kernel
theorem dX1_weight_1 : decode cX1_weight 1 = .ok (.iload_n 1, 1) := by decide +kernel
theorem dX1_weight_2 : decode cX1_weight 2 = .ok (.invokevirtual 40, 3) := by decide +kernel
theorem dX1_weight_5 : decode cX1_weight 5 = .ok (.ifCond .eq 14, 3) := by decide +kernel
theorem dX1_weight_8 : decode cX1_weight 8 = .ok (.iload_n 2, 1) := by decide +kernel
theorem dX1_weight_9 : decode cX1_weight 9 = .ok (.bipush (-9), 2) := by decide +kernel
theorem dX1_weight_11 : decode cX1_weight 11 = .ok (.bipush 9, 2) := by decide +kernel
theorem dX1_weight_13 : decode cX1_weight 13 = .ok (.invokestatic 36, 3) := by decide +kernel
theorem dX1_weight_16 : decode cX1_weight 16 = .ok (.ifCond .ne 6, 3) := by decide +kernel
theorem dX1_weight_19 : decode cX1_weight 19 = .ok (.ldc 44, 2) := by decide +kernel
theorem dX1_weight_21 : decode cX1_weight 21 = .ok (.ireturn, 1) := by decide +kernel
theorem dX1_weight_22 : decode cX1_weight 22 = .ok (.aload_n 0, 1) := by decide +kernel
theorem dX1_weight_23 : decode cX1_weight 23 = .ok (.getfield 17, 3) := by decide +kernel
theorem dX1_weight_26 : decode cX1_weight 26 = .ok (.iload_n 1, 1) := by decide +kernel
theorem dX1_weight_27 : decode cX1_weight 27 = .ok (.iaload, 1) := by decide +kernel
theorem dX1_weight_28 : decode cX1_weight 28 = .ok (.istore_n 3, 1) := by decide +kernel
theorem dX1_weight_29 : decode cX1_weight 29 = .ok (.aload_n 0, 1) := by decide +kernel
theorem dX1_weight_30 : decode cX1_weight 30 = .ok (.getfield 17, 3) := by decide +kernel
theorem dX1_weight_33 : decode cX1_weight 33 = .ok (.iload_n 1, 1) := by decide +kernel
theorem dX1_weight_34 : decode cX1_weight 34 = .ok (.iload_n 2, 1) := by decide +kernel
theorem dX1_weight_35 : decode cX1_weight 35 = .ok (.iastore, 1) := by decide +kernel
theorem dX1_weight_36 : decode cX1_weight 36 = .ok (.iload_n 3, 1) := by decide +kernel
theorem dX1_weight_37 : decode cX1_weight 37 = .ok (.ireturn, 1) := by decide +kernel
set_option maxRecDepth 20000 in
theorem ggX1_say_X1_isThing : GoodIn wsX1_say wsX1_isThing := goodIn_r _ [7, 8, 9, 10, 6, 11, 12, 13, 14, 15, 16, 17, 18, 19, 20] (by decide +kernel) (by decide +kernel)
set_option maxRecDepth 20000 in
theorem gX1_say_X1_isThing : GoodIn wsX1_say (wsV RX1 40 RX1 yX1_isThing wsX1_isThing) := goodIn_app (goodIn_of _ (by decide +kernel)) ggX1_say_X1_isThing
theorem dX1_say_0 : decode cX1_say 0 = .ok (.aload_n 0, 1) := by decide +kernel
theorem dX1_say_1 : decode cX1_say 1 = .ok (.iload_n 1, 1) := by decide +kernel
theorem dX1_say_2 : decode cX1_say 2 = .ok (.invokevirtual 40, 3) := by decide +kernel
theorem dX1_say_5 : decode cX1_say 5 = .ok (.ifCond .ne 5, 3) := by decide +kernel
theorem dX1_say_8 : decode cX1_say 8 = .ok (.iconst (-1), 1) := by decide +kernel
theorem dX1_say_9 : decode cX1_say 9 = .ok (.ireturn, 1) := by decide +kernel
theorem dX1_say_10 : decode cX1_say 10 = .ok (.aload_n 0, 1) := by decide +kernel
theorem dX1_say_11 : decode cX1_say 11 = .ok (.getfield 33, 3) := by decide +kernel
theorem dX1_say_14 : decode cX1_say 14 = .ok (.bipush 16, 2) := by decide +kernel
theorem dX1_say_16 : decode cX1_say 16 = .ok (.if_icmp .ne 6, 3) := by decide +kernel
theorem dX1_say_19 : decode cX1_say 19 = .ok (.bipush (-3), 2) := by decide +kernel
theorem dX1_say_21 : decode cX1_say 21 = .ok (.ireturn, 1) := by decide +kernel
theorem dX1_say_22 : decode cX1_say 22 = .ok (.aload_n 0, 1) := by decide +kernel
theorem dX1_say_23 : decode cX1_say 23 = .ok (.getfield 21, 3) := by decide +kernel
theorem dX1_say_26 : decode cX1_say 26 = .ok (.aload_n 0, 1) := by decide +kernel
theorem dX1_say_27 : decode cX1_say 27 = .ok (.getfield 33, 3) := by decide +kernel
theorem dX1_say_30 : decode cX1_say 30 = .ok (.iload_n 1, 1) := by decide +kernel
theorem dX1_say_31 : decode cX1_say 31 = .ok (.iastore, 1) := by decide +kernel
theorem dX1_say_32 : decode cX1_say 32 = .ok (.aload_n 0, 1) := by decide +kernel
theorem dX1_say_33 : decode cX1_say 33 = .ok (.dup, 1) := by decide +kernel
theorem dX1_say_34 : decode cX1_say 34 = .ok (.getfield 33, 3) := by decide +kernel
theorem dX1_say_37 : decode cX1_say 37 = .ok (.iconst 1, 1) := by decide +kernel
theorem dX1_say_38 : decode cX1_say 38 = .ok (.iadd, 1) := by decide +kernel
theorem dX1_say_39 : decode cX1_say 39 = .ok (.putfield 33, 3) := by decide +kernel
theorem dX1_say_42 : decode cX1_say 42 = .ok (.aload_n 0, 1) := by decide +kernel
theorem dX1_say_43 : decode cX1_say 43 = .ok (.getfield 33, 3) := by decide +kernel
theorem dX1_say_46 : decode cX1_say 46 = .ok (.ireturn, 1) := by decide +kernel
theorem dX1_hush_0 : decode cX1_hush 0 = .ok (.aload_n 0, 1) := by decide +kernel
theorem dX1_hush_1 : decode cX1_hush 1 = .ok (.getfield 33, 3) := by decide +kernel
theorem dX1_hush_4 : decode cX1_hush 4 = .ok (.istore_n 1, 1) := by decide +kernel
theorem dX1_hush_5 : decode cX1_hush 5 = .ok (.aload_n 0, 1) := by decide +kernel
theorem dX1_hush_6 : decode cX1_hush 6 = .ok (.iconst 0, 1) := by decide +kernel
theorem dX1_hush_7 : decode cX1_hush 7 = .ok (.putfield 33, 3) := by decide +kernel
theorem dX1_hush_10 : decode cX1_hush 10 = .ok (.iload_n 1, 1) := by decide +kernel
theorem dX1_hush_11 : decode cX1_hush 11 = .ok (.ireturn, 1) := by decide +kernel
theorem dX1_has_0 : decode cX1_has 0 = .ok (.iload_n 0, 1) := by decide +kernel
theorem dX1_has_1 : decode cX1_has 1 = .ok (.iload_n 1, 1) := by decide +kernel
theorem dX1_has_2 : decode cX1_has 2 = .ok (.ishr, 1) := by decide +kernel
theorem dX1_has_3 : decode cX1_has 3 = .ok (.iconst 1, 1) := by decide +kernel
theorem dX1_has_4 : decode cX1_has 4 = .ok (.iand, 1) := by decide +kernel
theorem dX1_has_5 : decode cX1_has 5 = .ok (.iconst 1, 1) := by decide +kernel
theorem dX1_has_6 : decode cX1_has 6 = .ok (.if_icmp .ne 7, 3) := by decide +kernel
theorem dX1_has_9 : decode cX1_has 9 = .ok (.iconst 1, 1) := by decide +kernel
theorem dX1_has_10 : decode cX1_has 10 = .ok (.goto 4, 3) := by decide +kernel
theorem dX1_has_13 : decode cX1_has 13 = .ok (.iconst 0, 1) := by decide +kernel
theorem dX1_has_14 : decode cX1_has 14 = .ok (.ireturn, 1) := by decide +kernel
set_option maxRecDepth 20000 in
theorem ggX1_isHeap_X1_in : GoodIn wsX1_isHeap wsX1_in := goodIn_r _ [6] (by decide +kernel) (by decide +kernel)
set_option maxRecDepth 20000 in
theorem gX1_isHeap_X1_in : GoodIn wsX1_isHeap (va_wsS RX1 36 yX1_in wsX1_in) := goodIn_app (goodIn_of _ (by decide +kernel)) ggX1_isHeap_X1_in
set_option maxRecDepth 20000 in
theorem ggX1_isHeap_X1_has : GoodIn wsX1_isHeap wsX1_has := goodIn_r _ [9] (by decide +kernel) (by decide +kernel)
set_option maxRecDepth 20000 in
theorem gX1_isHeap_X1_has : GoodIn wsX1_isHeap (va_wsS RX1 45 yX1_has wsX1_has) := goodIn_app (goodIn_of _ (by decide +kernel)) ggX1_isHeap_X1_has
theorem dX1_isHeap_0 : decode cX1_isHeap 0 = .ok (.iload_n 1, 1) := by decide +kernel
theorem dX1_isHeap_1 : decode cX1_isHeap 1 = .ok (.iconst 0, 1) := by decide +kernel
