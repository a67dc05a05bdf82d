theorem dX0_init_0 : decode cX0_init 0 = .ok (.aload_n 0, 1) := by decide +kernel
theorem dX0_init_1 : decode cX0_init 1 = .ok (.invokespecial 1, 3) := by decide +kernel
theorem dX0_init_4 : decode cX0_init 4 = .ok (.aload_n 0, 1) := by decide +kernel
theorem dX0_init_5 : decode cX0_init 5 = .ok (.iconst 3, 1) := by decide +kernel
theorem dX0_init_6 : decode cX0_init 6 = .ok (.putfield 9, 3) := by decide +kernel
theorem dX0_init_9 : decode cX0_init 9 = .ok (.aload_n 0, 1) := by decide +kernel
theorem dX0_init_10 : decode cX0_init 10 = .ok (.bipush 8, 2) := by decide +kernel
theorem dX0_init_12 : decode cX0_init 12 = .ok (.newarray .int, 2) := by decide +kernel
theorem dX0_init_14 : decode cX0_init 14 = .ok (.putfield 13, 3) := by decide +kernel
theorem dX0_init_17 : decode cX0_init 17 = .ok (.aload_n 0, 1) := by decide +kernel
theorem dX0_init_18 : decode cX0_init 18 = .ok (.bipush 8, 2) := by decide +kernel
theorem dX0_init_20 : decode cX0_init 20 = .ok (.newarray .int, 2) := by decide +kernel
theorem dX0_init_22 : decode cX0_init 22 = .ok (.putfield 17, 3) := by decide +kernel
theorem dX0_init_25 : decode cX0_init 25 = .ok (.aload_n 0, 1) := by decide +kernel
theorem dX0_init_26 : decode cX0_init 26 = .ok (.bipush 8, 2) := by decide +kernel
theorem dX0_init_28 : decode cX0_init 28 = .ok (.newarray .int, 2) := by decide +kernel
theorem dX0_init_30 : decode cX0_init 30 = .ok (.putfield 20, 3) := by decide +kernel
theorem dX0_init_33 : decode cX0_init 33 = .ok (.aload_n 0, 1) := by decide +kernel
theorem dX0_init_34 : decode cX0_init 34 = .ok (.bipush 16, 2) := by decide +kernel
theorem dX0_init_36 : decode cX0_init 36 = .ok (.newarray .int, 2) := by decide +kernel
theorem dX0_init_38 : decode cX0_init 38 = .ok (.putfield 23, 3) := by decide +kernel
theorem dX0_init_41 : decode cX0_init 41 = .ok (.aload_n 0, 1) := by decide +kernel
theorem dX0_init_42 : decode cX0_init 42 = .ok (.bipush 8, 2) := by decide +kernel
theorem dX0_init_44 : decode cX0_init 44 = .ok (.newarray .int, 2) := by decide +kernel
theorem dX0_init_46 : decode cX0_init 46 = .ok (.putfield 26, 3) := by decide +kernel
theorem dX0_init_49 : decode cX0_init 49 = .ok (.aload_n 0, 1) := by decide +kernel
theorem dX0_init_50 : decode cX0_init 50 = .ok (.bipush 9, 2) := by decide +kernel
theorem dX0_init_52 : decode cX0_init 52 = .ok (.newarray .int, 2) := by decide +kernel
theorem dX0_init_54 : decode cX0_init 54 = .ok (.putfield 29, 3) := by decide +kernel
theorem dX0_init_57 : decode cX0_init 57 = .ok (.aload_n 0, 1) := by decide +kernel
theorem dX0_init_58 : decode cX0_init 58 = .ok (.sipush 256, 3) := by decide +kernel
theorem dX0_init_61 : decode cX0_init 61 = .ok (.newarray .int, 2) := by decide +kernel
theorem dX0_init_63 : decode cX0_init 63 = .ok (.putfield 32, 3) := by decide +kernel
theorem dX0_init_66 : decode cX0_init 66 = .ok (.aload_n 0, 1) := by decide +kernel
theorem dX0_init_67 : decode cX0_init 67 = .ok (.sipush 256, 3) := by decide +kernel
theorem dX0_init_70 : decode cX0_init 70 = .ok (.newarray .int, 2) := by decide +kernel
theorem dX0_init_72 : decode cX0_init 72 = .ok (.putfield 35, 3) := by decide +kernel
theorem dX0_init_75 : decode cX0_init 75 = .ok (.aload_n 0, 1) := by decide +kernel
theorem dX0_init_76 : decode cX0_init 76 = .ok (.sipush 256, 3) := by decide +kernel
theorem dX0_init_79 : decode cX0_init 79 = .ok (.newarray .int, 2) := by decide +kernel
theorem dX0_init_81 : decode cX0_init 81 = .ok (.putfield 38, 3) := by decide +kernel
theorem dX0_init_84 : decode cX0_init 84 = .ok (.aload_n 0, 1) := by decide +kernel
theorem dX0_init_85 : decode cX0_init 85 = .ok (.sipush 256, 3) := by decide +kernel
theorem dX0_init_88 : decode cX0_init 88 = .ok (.newarray .boolean, 2) := by decide +kernel
theorem dX0_init_90 : decode cX0_init 90 = .ok (.putfield 41, 3) := by decide +kernel
theorem dX0_init_93 : decode cX0_init 93 = .ok (.return_, 1) := by decide +kernel
theorem dX0_things_0 : decode cX0_things 0 = .ok (.iload_n 1, 1) := by decide +kernel
theorem dX0_things_1 : decode cX0_things 1 = .ok (.iconst 1, 1) := by decide +kernel
theorem dX0_things_2 : decode cX0_things 2 = .ok (.if_icmp .lt 9, 3) := by decide +kernel
theorem dX0_things_5 : decode cX0_things 5 = .ok (.iload_n 1, 1) := by decide +kernel
theorem dX0_things_6 : decode cX0_things 6 = .ok (.bipush 8, 2) := by decide +kernel
theorem dX0_things_8 : decode cX0_things 8 = .ok (.if_icmp .le 5, 3) := by decide +kernel
theorem dX0_things_11 : decode cX0_things 11 = .ok (.iconst (-1), 1) := by decide +kernel
theorem dX0_things_12 : decode cX0_things 12 = .ok (.ireturn, 1) := by decide +kernel
theorem dX0_things_13 : decode cX0_things 13 = .ok (.aload_n 0, 1) := by decide +kernel
theorem dX0_things_14 : decode cX0_things 14 = .ok (.getfield 9, 3) := by decide +kernel
theorem dX0_things_17 : decode cX0_things 17 = .ok (.istore_n 2, 1) := by decide +kernel
theorem dX0_things_18 : decode cX0_things 18 = .ok (.iconst 0, 1) := by decide +kernel
theorem dX0_things_19 : decode cX0_things 19 = .ok (.istore_n 3, 1) := by decide +kernel
theorem dX0_things_20 : decode cX0_things 20 = .ok (.iload_n 3, 1) := by decide +kernel
theorem dX0_things_21 : decode cX0_things 21 = .ok (.bipush 8, 2) := by decide +kernel
theorem dX0_things_23 : decode cX0_things 23 = .ok (.if_icmp .ge 30, 3) := by decide +kernel
theorem dX0_things_26 : decode cX0_things 26 = .ok (.aload_n 0, 1) := by decide +kernel
theorem dX0_things_27 : decode cX0_things 27 = .ok (.getfield 13, 3) := by decide +kernel
theorem dX0_things_30 : decode cX0_things 30 = .ok (.iload_n 3, 1) := by decide +kernel
theorem dX0_things_31 : decode cX0_things 31 = .ok (.iconst 0, 1) := by decide +kernel
theorem dX0_things_32 : decode cX0_things 32 = .ok (.iastore, 1) := by decide +kernel
theorem dX0_things_33 : decode cX0_things 33 = .ok (.aload_n 0, 1) := by decide +kernel
theorem dX0_things_34 : decode cX0_things 34 = .ok (.getfield 17, 3) := by decide +kernel
theorem dX0_things_37 : decode cX0_things 37 = .ok (.iload_n 3, 1) := by decide +kernel
theorem dX0_things_38 : decode cX0_things 38 = .ok (.iconst 0, 1) := by decide +kernel
theorem dX0_things_39 : decode cX0_things 39 = .ok (.iastore, 1) := by decide +kernel
theorem dX0_things_40 : decode cX0_things 40 = .ok (.aload_n 0, 1) := by decide +kernel
theorem dX0_things_41 : decode cX0_things 41 = .ok (.getfield 20, 3) := by decide +kernel
theorem dX0_things_44 : decode cX0_things 44 = .ok (.iload_n 3, 1) := by decide +kernel
theorem dX0_things_45 : decode cX0_things 45 = .ok (.iconst 0, 1) := by decide +kernel
theorem dX0_things_46 : decode cX0_things 46 = .ok (.iastore, 1) := by decide +kernel
theorem dX0_things_47 : decode cX0_things 47 = .ok (.iinc 3 1, 3) := by decide +kernel
theorem dX0_things_50 : decode cX0_things 50 = .ok (.goto (-30), 3) := by decide +kernel
theorem dX0_things_53 : decode cX0_things 53 = .ok (.aload_n 0, 1) := by decide +kernel
theorem dX0_things_54 : decode cX0_things 54 = .ok (.iload_n 1, 1) := by decide +kernel
theorem dX0_things_55 : decode cX0_things 55 = .ok (.putfield 9, 3) := by decide +kernel
theorem dX0_things_58 : decode cX0_things 58 = .ok (.aload_n 0, 1) := by decide +kernel
theorem dX0_things_59 : decode cX0_things 59 = .ok (.iconst 0, 1) := by decide +kernel
theorem dX0_things_60 : decode cX0_things 60 = .ok (.putfield 45, 3) := by decide +kernel
theorem dX0_things_63 : decode cX0_things 63 = .ok (.iload_n 2, 1) := by decide +kernel
theorem dX0_things_64 : decode cX0_things 64 = .ok (.ireturn, 1) := by decide +kernel
set_option maxRecDepth 20000 in
theorem ggX0_lay_X0_isThing : GoodIn wsX0_lay wsX0_isThing := goodIn_r _ [8, 3, 12, 13, 14, 15, 16, 17, 18, 19, 20, 21, 22, 23, 24] (by decide +kernel) (by decide +kernel)
set_option maxRecDepth 20000 in
theorem gX0_lay_X0_isThing : GoodIn wsX0_lay (wsV RX0 48 RX0 yX0_isThing wsX0_isThing) := goodIn_app (goodIn_of _ (by decide +kernel)) ggX0_lay_X0_isThing
set_option maxRecDepth 20000 in
theorem ggX0_lay_X0_has : GoodIn wsX0_lay wsX0_has := goodIn_r _ [11] (by decide +kernel) (by decide +kernel)
set_option maxRecDepth 20000 in
theorem gX0_lay_X0_has : GoodIn wsX0_lay (va_wsS RX0 52 yX0_has wsX0_has) := goodIn_app (goodIn_of _ (by decide +kernel)) ggX0_lay_X0_has
theorem dX0_lay_0 : decode cX0_lay 0 = .ok (.aload_n 0, 1) := by decide +kernel
theorem dX0_lay_1 : decode cX0_lay 1 = .ok (.iload_n 1, 1) := by decide +kernel
theorem dX0_lay_2 : decode cX0_lay 2 = .ok (.invokevirtual 48, 3) := by decide +kernel
theorem dX0_lay_5 : decode cX0_lay 5 = .ok (.ifCond .eq 16, 3) := by decide +kernel
theorem dX0_lay_8 : decode cX0_lay 8 = .ok (.aload_n 0, 1) := by decide +kernel
theorem dX0_lay_9 : decode cX0_lay 9 = .ok (.iload_n 2, 1) := by decide +kernel
theorem dX0_lay_10 : decode cX0_lay 10 = .ok (.invokevirtual 48, 3) := by decide +kernel
theorem dX0_lay_13 : decode cX0_lay 13 = .ok (.ifCond .eq 8, 3) := by decide +kernel
theorem dX0_lay_16 : decode cX0_lay 16 = .ok (.iload_n 1, 1) := by decide +kernel
theorem dX0_lay_17 : decode cX0_lay 17 = .ok (.iload_n 2, 1) := by decide +kernel
theorem dX0_lay_18 : decode cX0_lay 18 = .ok (.if_icmp .lt 5, 3) := by decide +kernel
theorem dX0_lay_21 : decode cX0_lay 21 = .ok (.iconst (-1), 1) := by decide +kernel
theorem dX0_lay_22 : decode cX0_lay 22 = .ok (.ireturn, 1) := by decide +kernel
theorem dX0_lay_23 : decode cX0_lay 23 = .ok (.aload_n 0, 1) := by decide +kernel
theorem dX0_lay_24 : decode cX0_lay 24 = .ok (.getfield 13, 3) := by decide +kernel
theorem dX0_lay_27 : decode cX0_lay 27 = .ok (.iload_n 2, 1) := by decide +kernel
theorem dX0_lay_28 : decode cX0_lay 28 = .ok (.iaload, 1) := by decide +kernel
theorem dX0_lay_29 : decode cX0_lay 29 = .ok (.iload_n 1, 1) := by decide +kernel
theorem dX0_lay_30 : decode cX0_lay 30 = .ok (.invokestatic 52, 3) := by decide +kernel
theorem dX0_lay_33 : decode cX0_lay 33 = .ok (.ifCond .eq 5, 3) := by decide +kernel
theorem dX0_lay_36 : decode cX0_lay 36 = .ok (.iconst 0, 1) := by decide +kernel
theorem dX0_lay_37 : decode cX0_lay 37 = .ok (.ireturn, 1) := by decide +kernel
theorem dX0_lay_38 : decode cX0_lay 38 = .ok (.aload_n 0, 1) := by decide +kernel
theorem dX0_lay_39 : decode cX0_lay 39 = .ok (.getfield 13, 3) := by decide +kernel
theorem dX0_lay_42 : decode cX0_lay 42 = .ok (.iload_n 1, 1) := by decide +kernel
theorem dX0_lay_43 : decode cX0_lay 43 = .ok (.iaload, 1) := by decide +kernel
theorem dX0_lay_44 : decode cX0_lay 44 = .ok (.iconst 1, 1) := by decide +kernel
theorem dX0_lay_45 : decode cX0_lay 45 = .ok (.iload_n 1, 1) := by decide +kernel
theorem dX0_lay_46 : decode cX0_lay 46 = .ok (.ishl, 1) := by decide +kernel
theorem dX0_lay_47 : decode cX0_lay 47 = .ok (.ior, 1) := by decide +kernel
theorem dX0_lay_48 : decode cX0_lay 48 = .ok (.istore_n 3, 1) := by decide +kernel
theorem dX0_lay_49 : decode cX0_lay 49 = .ok (.aload_n 0, 1) := by decide +kernel
theorem dX0_lay_50 : decode cX0_lay 50 = .ok (.getfield 17, 3) := by decide +kernel
theorem dX0_lay_53 : decode cX0_lay 53 = .ok (.iload_n 2, 1) := by decide +kernel
theorem dX0_lay_54 : decode cX0_lay 54 = .ok (.iaload, 1) := by decide +kernel
theorem dX0_lay_55 : decode cX0_lay 55 = .ok (.iconst 1, 1) := by decide +kernel
theorem dX0_lay_56 : decode cX0_lay 56 = .ok (.iload_n 2, 1) := by decide +kernel
theorem dX0_lay_57 : decode cX0_lay 57 = .ok (.ishl, 1) := by decide +kernel
theorem dX0_lay_58 : decode cX0_lay 58 = .ok (.ior, 1) := by decide +kernel
theorem dX0_lay_59 : decode cX0_lay 59 = .ok (.istore 4, 2) := by decide +kernel
theorem dX0_lay_61 : decode cX0_lay 61 = .ok (.iconst 0, 1) := by decide +kernel
theorem dX0_lay_62 : decode cX0_lay 62 = .ok (.istore 5, 2) := by decide +kernel
theorem dX0_lay_64 : decode cX0_lay 64 = .ok (.iload 5, 2) := by decide +kernel
theorem dX0_lay_66 : decode cX0_lay 66 = .ok (.aload_n 0, 1) := by decide +kernel
theorem dX0_lay_67 : decode cX0_lay 67 = .ok (.getfield 9, 3) := by decide +kernel
theorem dX0_lay_70 : decode cX0_lay 70 = .ok (.if_icmp .ge 51, 3) := by decide +kernel
theorem dX0_lay_73 : decode cX0_lay 73 = .ok (.iload_n 3, 1) := by decide +kernel
theorem dX0_lay_74 : decode cX0_lay 74 = .ok (.iload 5, 2) := by decide +kernel
theorem dX0_lay_76 : decode cX0_lay 76 = .ok (.invokestatic 52, 3) := by decide +kernel
theorem dX0_lay_79 : decode cX0_lay 79 = .ok (.ifCond .eq 15, 3) := by decide +kernel
theorem dX0_lay_82 : decode cX0_lay 82 = .ok (.aload_n 0, 1) := by decide +kernel
theorem dX0_lay_83 : decode cX0_lay 83 = .ok (.getfield 17, 3) := by decide +kernel
theorem dX0_lay_86 : decode cX0_lay 86 = .ok (.iload 5, 2) := by decide +kernel
theorem dX0_lay_88 : decode cX0_lay 88 = .ok (.dup2, 1) := by decide +kernel
theorem dX0_lay_89 : decode cX0_lay 89 = .ok (.iaload, 1) := by decide +kernel
theorem dX0_lay_90 : decode cX0_lay 90 = .ok (.iload 4, 2) := by decide +kernel
theorem dX0_lay_92 : decode cX0_lay 92 = .ok (.ior, 1) := by decide +kernel
theorem dX0_lay_93 : decode cX0_lay 93 = .ok (.iastore, 1) := by decide +kernel
theorem dX0_lay_94 : decode cX0_lay 94 = .ok (.iload 4, 2) := by decide +kernel
theorem dX0_lay_96 : decode cX0_lay 96 = .ok (.iload 5, 2) := by decide +kernel
theorem dX0_lay_98 : decode cX0_lay 98 = .ok (.invokestatic 52, 3) := by decide +kernel
theorem dX0_lay_101 : decode cX0_lay 101 = .ok (.ifCond .eq 14, 3) := by decide +kernel
theorem dX0_lay_104 : decode cX0_lay 104 = .ok (.aload_n 0, 1) := by decide +kernel
theorem dX0_lay_105 : decode cX0_lay 105 = .ok (.getfield 13, 3) := by decide +kernel
theorem dX0_lay_108 : decode cX0_lay 108 = .ok (.iload 5, 2) := by decide +kernel
theorem dX0_lay_110 : decode cX0_lay 110 = .ok (.dup2, 1) := by decide +kernel
theorem dX0_lay_111 : decode cX0_lay 111 = .ok (.iaload, 1) := by decide +kernel
theorem dX0_lay_112 : decode cX0_lay 112 = .ok (.iload_n 3, 1) := by decide +kernel
theorem dX0_lay_113 : decode cX0_lay 113 = .ok (.ior, 1) := by decide +kernel
theorem dX0_lay_114 : decode cX0_lay 114 = .ok (.iastore, 1) := by decide +kernel
theorem dX0_lay_115 : decode cX0_lay 115 = .ok (.iinc 5 1, 3) := by decide +kernel
theorem dX0_lay_118 : decode cX0_lay 118 = .ok (.goto (-54), 3) := by decide +kernel
theorem dX0_lay_121 : decode cX0_lay 121 = .ok (.iconst 1, 1) := by decide +kernel
theorem dX0_lay_122 : decode cX0_lay 122 = .ok (.ireturn, 1) := by decide +kernel
set_option maxRecDepth 20000 in
theorem ggX0_below_X0_isThing : GoodIn wsX0_below wsX0_isThing := goodIn_r _ [6, 7, 11, 12, 13, 14, 15, 16, 17, 18, 19, 20, 21, 22, 23] (by decide +kernel) (by decide +kernel)
set_option maxRecDepth 20000 in
theorem gX0_below_X0_isThing : GoodIn wsX0_below (wsV RX0 48 RX0 yX0_isThing wsX0_isThing) := goodIn_app (goodIn_of _ (by decide +kernel)) ggX0_below_X0_isThing
set_option maxRecDepth 20000 in
theorem ggX0_below_X0_has : GoodIn wsX0_below wsX0_has := goodIn_r _ [10] (by decide +kernel) (by decide +kernel)
set_option maxRecDepth 20000 in
theorem gX0_below_X0_has : GoodIn wsX0_below (va_wsS RX0 52 yX0_has wsX0_has) := goodIn_app (goodIn_of _ (by decide +kernel)) ggX0_below_X0_has
theorem dX0_below_0 : decode cX0_below 0 = .ok (.aload_n 0, 1) := by decide +kernel
theorem dX0_below_1 : decode cX0_below 1 = .ok (.iload_n 1, 1) := by decide +kernel
theorem dX0_below_2 : decode cX0_below 2 = .ok (.invokevirtual 48, 3) := by decide +kernel
theorem dX0_below_5 : decode cX0_below 5 = .ok (.ifCond .eq 11, 3) := by decide +kernel
theorem dX0_below_8 : decode cX0_below 8 = .ok (.aload_n 0, 1) := by decide +kernel
theorem dX0_below_9 : decode cX0_below 9 = .ok (.iload_n 2, 1) := by decide +kernel
theorem dX0_below_10 : decode cX0_below 10 = .ok (.invokevirtual 48, 3) := by decide +kernel
theorem dX0_below_13 : decode cX0_below 13 = .ok (.ifCond .ne 5, 3) := by decide +kernel
theorem dX0_below_16 : decode cX0_below 16 = .ok (.iconst (-1), 1) := by decide +kernel
theorem dX0_below_17 : decode cX0_below 17 = .ok (.ireturn, 1) := by decide +kernel
theorem dX0_below_18 : decode cX0_below 18 = .ok (.aload_n 0, 1) := by decide +kernel
theorem dX0_below_19 : decode cX0_below 19 = .ok (.getfield 13, 3) := by decide +kernel
theorem dX0_below_22 : decode cX0_below 22 = .ok (.iload_n 2, 1) := by decide +kernel
theorem dX0_below_23 : decode cX0_below 23 = .ok (.iaload, 1) := by decide +kernel
theorem dX0_below_24 : decode cX0_below 24 = .ok (.iload_n 1, 1) := by decide +kernel
theorem dX0_below_25 : decode cX0_below 25 = .ok (.invokestatic 52, 3) := by decide +kernel
theorem dX0_below_28 : decode cX0_below 28 = .ok (.ifCond .eq 7, 3) := by decide +kernel
theorem dX0_below_31 : decode cX0_below 31 = .ok (.iconst 1, 1) := by decide +kernel
theorem dX0_below_32 : decode cX0_below 32 = .ok (.goto 4, 3) := by decide +kernel
theorem dX0_below_35 : decode cX0_below 35 = .ok (.iconst 0, 1) := by decide +kernel
theorem dX0_below_36 : decode cX0_below 36 = .ok (.ireturn, 1) := by decide +kernel
set_option maxRecDepth 20000 in
theorem ggX0_weight_X0_isThing : GoodIn wsX0_weight wsX0_isThing := goodIn_r _ [7, 8, 9, 10, 11, 12, 13, 14, 15, 16, 17, 18, 19, 20, 21] (by decide +kernel) (by decide +kernel)
set_option maxRecDepth 20000 in
theorem gX0_weight_X0_isThing : GoodIn wsX0_weight (wsV RX0 48 RX0 yX0_isThing wsX0_isThing) := goodIn_app (goodIn_of _ (by decide +kernel)) ggX0_weight_X0_isThing
theorem dX0_weight_0 : decode cX0_weight 0 = .ok (.aload_n 0, 1) := by decide +kernel
theorem dX0_weight_1 : decode cX0_weight 1 = .ok (.iload_n 1, 1) := by decide +kernel
theorem dX0_weight_2 : decode cX0_weight 2 = .ok (.invokevirtual 48, 3) := by decide +kernel
theorem dX0_weight_5 : decode cX0_weight 5 = .ok (.ifCond .eq 15, 3) := by decide +kernel
theorem dX0_weight_8 : decode cX0_weight 8 = .ok (.iload_n 2, 1) := by decide +kernel
theorem dX0_weight_9 : decode cX0_weight 9 = .ok (.bipush (-9), 2) := by decide +kernel
theorem dX0_weight_11 : decode cX0_weight 11 = .ok (.if_icmp .lt 9, 3) := by decide +kernel
theorem dX0_weight_14 : decode cX0_weight 14 = .ok (.iload_n 2, 1) := by decide +kernel
theorem dX0_weight_15 : decode cX0_weight 15 = .ok (.bipush 9, 2) := by decide +kernel
theorem dX0_weight_17 : decode cX0_weight 17 = .ok (.if_icmp .le 6, 3) := by decide +kernel
theorem dX0_weight_20 : decode cX0_weight 20 = .ok (.ldc 56, 2) := by decide +kernel
theorem dX0_weight_22 : decode cX0_weight 22 = .ok (.ireturn, 1) := by decide +kernel
theorem dX0_weight_23 : decode cX0_weight 23 = .ok (.aload_n 0, 1) := by decide +kernel
theorem dX0_weight_24 : decode cX0_weight 24 = .ok (.getfield 20, 3) := by decide +kernel
theorem dX0_weight_27 : decode cX0_weight 27 = .ok (.iload_n 1, 1) := by decide +kernel
theorem dX0_weight_28 : decode cX0_weight 28 = .ok (.iaload, 1) := by decide +kernel
theorem dX0_weight_29 : decode cX0_weight 29 = .ok (.istore_n 3, 1) := by decide +kernel
theorem dX0_weight_30 : decode cX0_weight 30 = .ok (.aload_n 0, 1) := by decide +kernel
theorem dX0_weight_31 : decode cX0_weight 31 = .ok (.getfield 20, 3) := by decide +kernel
theorem dX0_weight_34 : decode cX0_weight 34 = .ok (.iload_n 1, 1) := by decide +kernel
theorem dX0_weight_35 : decode cX0_weight 35 = .ok (.iload_n 2, 1) := by decide +kernel
theorem dX0_weight_36 : decode cX0_weight 36 = .ok (.iastore, 1) := by decide +kernel
theorem dX0_weight_37 : decode cX0_weight 37 = .ok (.iload_n 3, 1) := by decide +kernel
theorem dX0_weight_38 : decode cX0_weight 38 = .ok (.ireturn, 1) := by decide +kernel
set_option maxRecDepth 20000 in
theorem ggX0_say_X0_isThing : GoodIn wsX0_say wsX0_isThing := goodIn_r _ [7, 8, 9, 10, 11, 12, 13, 14, 15, 16, 17, 18, 19, 20, 21] (by decide +kernel) (by decide +kernel)
set_option maxRecDepth 20000 in
theorem gX0_say_X0_isThing : GoodIn wsX0_say (wsV RX0 48 RX0 yX0_isThing wsX0_isThing) := goodIn_app (goodIn_of _ (by decide +kernel)) ggX0_say_X0_isThing
theorem dX0_say_0 : decode cX0_say 0 = .ok (.aload_n 0, 1) := by decide +kernel
theorem dX0_say_1 : decode cX0_say 1 = .ok (.iload_n 1, 1) := by decide +kernel
theorem dX0_say_2 : decode cX0_say 2 = .ok (.invokevirtual 48, 3) := by decide +kernel
theorem dX0_say_5 : decode cX0_say 5 = .ok (.ifCond .ne 5, 3) := by decide +kernel
theorem dX0_say_8 : decode cX0_say 8 = .ok (.iconst (-1), 1) := by decide +kernel
theorem dX0_say_9 : decode cX0_say 9 = .ok (.ireturn, 1) := by decide +kernel
theorem dX0_say_10 : decode cX0_say 10 = .ok (.aload_n 0, 1) := by decide +kernel
theorem dX0_say_11 : decode cX0_say 11 = .ok (.getfield 45, 3) := by decide +kernel
theorem dX0_say_14 : decode cX0_say 14 = .ok (.bipush 16, 2) := by decide +kernel
theorem dX0_say_16 : decode cX0_say 16 = .ok (.if_icmp .lt 6, 3) := by decide +kernel
theorem dX0_say_19 : decode cX0_say 19 = .ok (.bipush (-3), 2) := by decide +kernel
theorem dX0_say_21 : decode cX0_say 21 = .ok (.ireturn, 1) := by decide +kernel
theorem dX0_say_22 : decode cX0_say 22 = .ok (.aload_n 0, 1) := by decide +kernel
theorem dX0_say_23 : decode cX0_say 23 = .ok (.getfield 23, 3) := by decide +kernel
theorem dX0_say_26 : decode cX0_say 26 = .ok (.aload_n 0, 1) := by decide +kernel
theorem dX0_say_27 : decode cX0_say 27 = .ok (.getfield 45, 3) := by decide +kernel
theorem dX0_say_30 : decode cX0_say 30 = .ok (.iload_n 1, 1) := by decide +kernel
theorem dX0_say_31 : decode cX0_say 31 = .ok (.iastore, 1) := by decide +kernel
theorem dX0_say_32 : decode cX0_say 32 = .ok (.aload_n 0, 1) := by decide +kernel
theorem dX0_say_33 : decode cX0_say 33 = .ok (.dup, 1) := by decide +kernel
theorem dX0_say_34 : decode cX0_say 34 = .ok (.getfield 45, 3) := by decide +kernel
theorem dX0_say_37 : decode cX0_say 37 = .ok (.iconst 1, 1) := by decide +kernel
theorem dX0_say_38 : decode cX0_say 38 = .ok (.iadd, 1) := by decide +kernel
theorem dX0_say_39 : decode cX0_say 39 = .ok (.putfield 45, 3) := by decide +kernel
theorem dX0_say_42 : decode cX0_say 42 = .ok (.aload_n 0, 1) := by decide +kernel
theorem dX0_say_43 : decode cX0_say 43 = .ok (.getfield 45, 3) := by decide +kernel
theorem dX0_say_46 : decode cX0_say 46 = .ok (.ireturn, 1) := by decide +kernel
theorem dX0_hush_0 : decode cX0_hush 0 = .ok (.aload_n 0, 1) := by decide +kernel
theorem dX0_hush_1 : decode cX0_hush 1 = .ok (.getfield 45, 3) := by decide +kernel
theorem dX0_hush_4 : decode cX0_hush 4 = .ok (.istore_n 1, 1) := by decide +kernel
theorem dX0_hush_5 : decode cX0_hush 5 = .ok (.aload_n 0, 1) := by decide +kernel
theorem dX0_hush_6 : decode cX0_hush 6 = .ok (.iconst 0, 1) := by decide +kernel
theorem dX0_hush_7 : decode cX0_hush 7 = .ok (.putfield 45, 3) := by decide +kernel
theorem dX0_hush_10 : decode cX0_hush 10 = .ok (.iload_n 1, 1) := by decide +kernel
theorem dX0_hush_11 : decode cX0_hush 11 = .ok (.ireturn, 1) := by decide +kernel
set_option maxRecDepth 20000 in
theorem ggX0_heap_X0_isSet : GoodIn wsX0_heap wsX0_isSet := goodIn_r _ [5, 6, 7, 8, 4, 9, 10, 19, 20, 21, 22, 23, 24, 25, 26, 27, 28, 29, 30, 31] (by decide +kernel) (by decide +kernel)
set_option maxRecDepth 20000 in
theorem gX0_heap_X0_isSet : GoodIn wsX0_heap (wsV RX0 57 RX0 yX0_isSet wsX0_isSet) := goodIn_app (goodIn_of _ (by decide +kernel)) ggX0_heap_X0_isSet
set_option maxRecDepth 20000 in
theorem ggX0_heap_X0_isHeap : GoodIn wsX0_heap wsX0_isHeap := goodIn_r _ [14, 10, 15, 1, 2, 3, 4, 5, 6, 7, 8, 9, 16, 17, 18, 19, 20, 21, 22, 23, 24, 25, 26, 27, 28, 29, 30, 31] (by decide +kernel) (by decide +kernel)
set_option maxRecDepth 20000 in
theorem gX0_heap_X0_isHeap : GoodIn wsX0_heap (wsV RX0 60 RX0 yX0_isHeap wsX0_isHeap) := goodIn_app (goodIn_of _ (by decide +kernel)) ggX0_heap_X0_isHeap
theorem dX0_heap_0 : decode cX0_heap 0 = .ok (.aload_n 0, 1) := by decide +kernel
theorem dX0_heap_1 : decode cX0_heap 1 = .ok (.iload_n 1, 1) := by decide +kernel
theorem dX0_heap_2 : decode cX0_heap 2 = .ok (.invokevirtual 57, 3) := by decide +kernel
theorem dX0_heap_5 : decode cX0_heap 5 = .ok (.ifCond .ne 5, 3) := by decide +kernel
theorem dX0_heap_8 : decode cX0_heap 8 = .ok (.iconst (-1), 1) := by decide +kernel
theorem dX0_heap_9 : decode cX0_heap 9 = .ok (.ireturn, 1) := by decide +kernel
theorem dX0_heap_10 : decode cX0_heap 10 = .ok (.aload_n 0, 1) := by decide +kernel
theorem dX0_heap_11 : decode cX0_heap 11 = .ok (.iload_n 1, 1) := by decide +kernel
theorem dX0_heap_12 : decode cX0_heap 12 = .ok (.invokevirtual 60, 3) := by decide +kernel
theorem dX0_heap_15 : decode cX0_heap 15 = .ok (.ifCond .eq 7, 3) := by decide +kernel
theorem dX0_heap_18 : decode cX0_heap 18 = .ok (.iconst 1, 1) := by decide +kernel
theorem dX0_heap_19 : decode cX0_heap 19 = .ok (.goto 4, 3) := by decide +kernel
theorem dX0_heap_22 : decode cX0_heap 22 = .ok (.iconst 0, 1) := by decide +kernel
theorem dX0_heap_23 : decode cX0_heap 23 = .ok (.ireturn, 1) := by decide +kernel
set_option maxRecDepth 20000 in
theorem ggX0_many_X0_setCount : GoodIn wsX0_many wsX0_setCount := goodIn_r _ [5, 6, 19, 20, 21, 22, 23, 24, 25, 26, 27, 28, 29, 30, 31] (by decide +kernel) (by decide +kernel)
set_option maxRecDepth 20000 in
theorem gX0_many_X0_setCount : GoodIn wsX0_many (wsV RX0 63 RX0 yX0_setCount wsX0_setCount) := goodIn_app (goodIn_of _ (by decide +kernel)) ggX0_many_X0_setCount
set_option maxRecDepth 20000 in
theorem ggX0_many_X0_isHeap : GoodIn wsX0_many wsX0_isHeap := goodIn_r _ [10, 6, 11, 12, 13, 14, 4, 15, 1, 2, 3, 5, 16, 17, 18, 19, 20, 21, 22, 23, 24, 25, 26, 27, 28, 29, 30, 31] (by decide +kernel) (by decide +kernel)
set_option maxRecDepth 20000 in
theorem gX0_many_X0_isHeap : GoodIn wsX0_many (wsV RX0 60 RX0 yX0_isHeap wsX0_isHeap) := goodIn_app (goodIn_of _ (by decide +kernel)) ggX0_many_X0_isHeap
theorem dX0_many_0 : decode cX0_many 0 = .ok (.iconst 0, 1) := by decide +kernel
theorem dX0_many_1 : decode cX0_many 1 = .ok (.istore_n 1, 1) := by decide +kernel
theorem dX0_many_2 : decode cX0_many 2 = .ok (.iconst 0, 1) := by decide +kernel
theorem dX0_many_3 : decode cX0_many 3 = .ok (.istore_n 2, 1) := by decide +kernel
theorem dX0_many_4 : decode cX0_many 4 = .ok (.iload_n 2, 1) := by decide +kernel
theorem dX0_many_5 : decode cX0_many 5 = .ok (.aload_n 0, 1) := by decide +kernel
theorem dX0_many_6 : decode cX0_many 6 = .ok (.invokevirtual 63, 3) := by decide +kernel
theorem dX0_many_9 : decode cX0_many 9 = .ok (.if_icmp .ge 20, 3) := by decide +kernel
theorem dX0_many_12 : decode cX0_many 12 = .ok (.aload_n 0, 1) := by decide +kernel
theorem dX0_many_13 : decode cX0_many 13 = .ok (.iload_n 2, 1) := by decide +kernel
theorem dX0_many_14 : decode cX0_many 14 = .ok (.invokevirtual 60, 3) := by decide +kernel
theorem dX0_many_17 : decode cX0_many 17 = .ok (.ifCond .eq 6, 3) := by decide +kernel
theorem dX0_many_20 : decode cX0_many 20 = .ok (.iinc 1 1, 3) := by decide +kernel
theorem dX0_many_23 : decode cX0_many 23 = .ok (.iinc 2 1, 3) := by decide +kernel
theorem dX0_many_26 : decode cX0_many 26 = .ok (.goto (-22), 3) := by decide +kernel
theorem dX0_many_29 : decode cX0_many 29 = .ok (.iload_n 1, 1) := by decide +kernel
theorem dX0_many_30 : decode cX0_many 30 = .ok (.ireturn, 1) := by decide +kernel
set_option maxRecDepth 20000 in
theorem ggX0_flip_X0_isHeap : GoodIn wsX0_flip wsX0_isHeap := goodIn_r _ [5, 6, 7, 8, 9, 10, 4, 11, 12, 13, 14, 15, 16, 17, 18, 28, 29, 30, 31, 32, 33, 34, 35, 36, 37, 38, 39, 40] (by decide +kernel) (by decide +kernel)
set_option maxRecDepth 20000 in
theorem gX0_flip_X0_isHeap : GoodIn wsX0_flip (wsV RX0 60 RX0 yX0_isHeap wsX0_isHeap) := goodIn_app (goodIn_of _ (by decide +kernel)) ggX0_flip_X0_isHeap
set_option maxRecDepth 20000 in
theorem ggX0_flip_X0_isThing : GoodIn wsX0_flip wsX0_isThing := goodIn_r _ [22, 6, 28, 29, 30, 31, 32, 33, 34, 35, 36, 37, 38, 39, 40] (by decide +kernel) (by decide +kernel)
set_option maxRecDepth 20000 in
theorem gX0_flip_X0_isThing : GoodIn wsX0_flip (wsV RX0 48 RX0 yX0_isThing wsX0_isThing) := goodIn_app (goodIn_of _ (by decide +kernel)) ggX0_flip_X0_isThing
set_option maxRecDepth 20000 in
theorem ggX0_flip_X0_flipped : GoodIn wsX0_flip wsX0_flipped := goodIn_r _ [26, 27, 7, 16, 17, 4, 18, 28, 29, 30, 31, 32, 33, 34, 35, 36, 37, 38, 39, 40] (by decide +kernel) (by decide +kernel)
set_option maxRecDepth 20000 in
theorem gX0_flip_X0_flipped : GoodIn wsX0_flip (wsV RX0 67 RX0 yX0_flipped wsX0_flipped) := goodIn_app (goodIn_of _ (by decide +kernel)) ggX0_flip_X0_flipped
theorem dX0_flip_0 : decode cX0_flip 0 = .ok (.aload_n 0, 1) := by decide +kernel
theorem dX0_flip_1 : decode cX0_flip 1 = .ok (.iload_n 1, 1) := by decide +kernel
theorem dX0_flip_2 : decode cX0_flip 2 = .ok (.invokevirtual 60, 3) := by decide +kernel
theorem dX0_flip_5 : decode cX0_flip 5 = .ok (.ifCond .eq 11, 3) := by decide +kernel
theorem dX0_flip_8 : decode cX0_flip 8 = .ok (.aload_n 0, 1) := by decide +kernel
theorem dX0_flip_9 : decode cX0_flip 9 = .ok (.iload_n 2, 1) := by decide +kernel
theorem dX0_flip_10 : decode cX0_flip 10 = .ok (.invokevirtual 48, 3) := by decide +kernel
theorem dX0_flip_13 : decode cX0_flip 13 = .ok (.ifCond .ne 5, 3) := by decide +kernel
theorem dX0_flip_16 : decode cX0_flip 16 = .ok (.iconst (-1), 1) := by decide +kernel
theorem dX0_flip_17 : decode cX0_flip 17 = .ok (.ireturn, 1) := by decide +kernel
theorem dX0_flip_18 : decode cX0_flip 18 = .ok (.aload_n 0, 1) := by decide +kernel
theorem dX0_flip_19 : decode cX0_flip 19 = .ok (.iload_n 1, 1) := by decide +kernel
theorem dX0_flip_20 : decode cX0_flip 20 = .ok (.iload_n 2, 1) := by decide +kernel
theorem dX0_flip_21 : decode cX0_flip 21 = .ok (.invokevirtual 67, 3) := by decide +kernel
theorem dX0_flip_24 : decode cX0_flip 24 = .ok (.ireturn, 1) := by decide +kernel
set_option maxRecDepth 20000 in
theorem ggX0_turn_X0_isHeap : GoodIn wsX0_turn wsX0_isHeap := goodIn_r _ [5, 6, 7, 8, 9, 10, 4, 11, 12, 13, 14, 15, 16, 17, 18, 44, 45, 46, 47, 48, 49, 50, 51, 52, 53, 54, 55, 56] (by decide +kernel) (by decide +kernel)
set_option maxRecDepth 20000 in
theorem gX0_turn_X0_isHeap : GoodIn wsX0_turn (wsV RX0 60 RX0 yX0_isHeap wsX0_isHeap) := goodIn_app (goodIn_of _ (by decide +kernel)) ggX0_turn_X0_isHeap
set_option maxRecDepth 20000 in
theorem ggX0_turn_X0_isTurnKind : GoodIn wsX0_turn wsX0_isTurnKind := goodIn_r _ [21] (by decide +kernel) (by decide +kernel)
set_option maxRecDepth 20000 in
theorem gX0_turn_X0_isTurnKind : GoodIn wsX0_turn (va_wsS RX0 71 yX0_isTurnKind wsX0_isTurnKind) := goodIn_app (goodIn_of _ (by decide +kernel)) ggX0_turn_X0_isTurnKind
set_option maxRecDepth 20000 in
theorem ggX0_turn_X0_isTurnNumber : GoodIn wsX0_turn wsX0_isTurnNumber := goodIn_r _ [24] (by decide +kernel) (by decide +kernel)
set_option maxRecDepth 20000 in
theorem gX0_turn_X0_isTurnNumber : GoodIn wsX0_turn (va_wsS RX0 74 yX0_isTurnNumber wsX0_isTurnNumber) := goodIn_app (goodIn_of _ (by decide +kernel)) ggX0_turn_X0_isTurnNumber
set_option maxRecDepth 20000 in
theorem ggX0_turn_X0_turned : GoodIn wsX0_turn wsX0_turned := goodIn_r _ [28, 29, 30, 31, 4, 32, 6, 7, 16, 17, 18, 33, 34, 35, 36, 37, 38, 39, 40, 41, 42, 43, 44, 45, 46, 47, 48, 49, 50, 51, 52, 53, 54, 55, 56] (by decide +kernel) (by decide +kernel)
set_option maxRecDepth 20000 in
theorem gX0_turn_X0_turned : GoodIn wsX0_turn (wsV RX0 77 RX0 yX0_turned wsX0_turned) := goodIn_app (goodIn_of _ (by decide +kernel)) ggX0_turn_X0_turned
theorem dX0_turn_0 : decode cX0_turn 0 = .ok (.aload_n 0, 1) := by decide +kernel
theorem dX0_turn_1 : decode cX0_turn 1 = .ok (.iload_n 1, 1) := by decide +kernel
theorem dX0_turn_2 : decode cX0_turn 2 = .ok (.invokevirtual 60, 3) := by decide +kernel
theorem dX0_turn_5 : decode cX0_turn 5 = .ok (.ifCond .eq 17, 3) := by decide +kernel
theorem dX0_turn_8 : decode cX0_turn 8 = .ok (.iload_n 2, 1) := by decide +kernel
theorem dX0_turn_9 : decode cX0_turn 9 = .ok (.invokestatic 71, 3) := by decide +kernel
theorem dX0_turn_12 : decode cX0_turn 12 = .ok (.ifCond .eq 10, 3) := by decide +kernel
theorem dX0_turn_15 : decode cX0_turn 15 = .ok (.iload_n 3, 1) := by decide +kernel
theorem dX0_turn_16 : decode cX0_turn 16 = .ok (.invokestatic 74, 3) := by decide +kernel
theorem dX0_turn_19 : decode cX0_turn 19 = .ok (.ifCond .ne 5, 3) := by decide +kernel
theorem dX0_turn_22 : decode cX0_turn 22 = .ok (.iconst (-1), 1) := by decide +kernel
theorem dX0_turn_23 : decode cX0_turn 23 = .ok (.ireturn, 1) := by decide +kernel
theorem dX0_turn_24 : decode cX0_turn 24 = .ok (.iload_n 1, 1) := by decide +kernel
theorem dX0_turn_25 : decode cX0_turn 25 = .ok (.istore 4, 2) := by decide +kernel
theorem dX0_turn_27 : decode cX0_turn 27 = .ok (.iconst 0, 1) := by decide +kernel
theorem dX0_turn_28 : decode cX0_turn 28 = .ok (.istore 5, 2) := by decide +kernel
theorem dX0_turn_30 : decode cX0_turn 30 = .ok (.iload 5, 2) := by decide +kernel
theorem dX0_turn_32 : decode cX0_turn 32 = .ok (.iload_n 3, 1) := by decide +kernel
theorem dX0_turn_33 : decode cX0_turn 33 = .ok (.if_icmp .ge 18, 3) := by decide +kernel
theorem dX0_turn_36 : decode cX0_turn 36 = .ok (.aload_n 0, 1) := by decide +kernel
theorem dX0_turn_37 : decode cX0_turn 37 = .ok (.iload 4, 2) := by decide +kernel
theorem dX0_turn_39 : decode cX0_turn 39 = .ok (.iload_n 2, 1) := by decide +kernel
theorem dX0_turn_40 : decode cX0_turn 40 = .ok (.invokevirtual 77, 3) := by decide +kernel
theorem dX0_turn_43 : decode cX0_turn 43 = .ok (.istore 4, 2) := by decide +kernel
theorem dX0_turn_45 : decode cX0_turn 45 = .ok (.iinc 5 1, 3) := by decide +kernel
theorem dX0_turn_48 : decode cX0_turn 48 = .ok (.goto (-18), 3) := by decide +kernel
theorem dX0_turn_51 : decode cX0_turn 51 = .ok (.iload 4, 2) := by decide +kernel
theorem dX0_turn_53 : decode cX0_turn 53 = .ok (.ireturn, 1) := by decide +kernel
set_option maxRecDepth 20000 in
theorem ggX0_orbit_X0_isHeap : GoodIn wsX0_orbit wsX0_isHeap := goodIn_r _ [5, 6, 7, 8, 9, 10, 4, 11, 12, 13, 14, 15, 16, 17, 18, 46, 47, 48, 49, 50, 51, 52, 53, 54, 55, 56, 57, 58] (by decide +kernel) (by decide +kernel)
set_option maxRecDepth 20000 in
theorem gX0_orbit_X0_isHeap : GoodIn wsX0_orbit (wsV RX0 60 RX0 yX0_isHeap wsX0_isHeap) := goodIn_app (goodIn_of _ (by decide +kernel)) ggX0_orbit_X0_isHeap
set_option maxRecDepth 20000 in
theorem ggX0_orbit_X0_isTurnKind : GoodIn wsX0_orbit wsX0_isTurnKind := goodIn_r _ [21] (by decide +kernel) (by decide +kernel)
set_option maxRecDepth 20000 in
theorem gX0_orbit_X0_isTurnKind : GoodIn wsX0_orbit (va_wsS RX0 71 yX0_isTurnKind wsX0_isTurnKind) := goodIn_app (goodIn_of _ (by decide +kernel)) ggX0_orbit_X0_isTurnKind
set_option maxRecDepth 20000 in
theorem ggX0_orbit_X0_walkOrbit : GoodIn wsX0_orbit wsX0_walkOrbit := goodIn_r _ [25, 26, 27, 28, 29, 4, 30, 31, 32, 33, 34, 6, 7, 16, 17, 18, 35, 36, 37, 38, 39, 40, 41, 42, 43, 44, 45, 46, 47, 48, 49, 50, 51, 52, 53, 54, 55, 56, 57, 58] (by decide +kernel) (by decide +kernel)
set_option maxRecDepth 20000 in
theorem gX0_orbit_X0_walkOrbit : GoodIn wsX0_orbit (wsV RX0 80 RX0 yX0_walkOrbit wsX0_walkOrbit) := goodIn_app (goodIn_of _ (by decide +kernel)) ggX0_orbit_X0_walkOrbit
theorem dX0_orbit_0 : decode cX0_orbit 0 = .ok (.aload_n 0, 1) := by decide +kernel
theorem dX0_orbit_1 : decode cX0_orbit 1 = .ok (.iload_n 1, 1) := by decide +kernel
theorem dX0_orbit_2 : decode cX0_orbit 2 = .ok (.invokevirtual 60, 3) := by decide +kernel
theorem dX0_orbit_5 : decode cX0_orbit 5 = .ok (.ifCond .eq 10, 3) := by decide +kernel
theorem dX0_orbit_8 : decode cX0_orbit 8 = .ok (.iload_n 2, 1) := by decide +kernel
theorem dX0_orbit_9 : decode cX0_orbit 9 = .ok (.invokestatic 71, 3) := by decide +kernel
theorem dX0_orbit_12 : decode cX0_orbit 12 = .ok (.ifCond .ne 5, 3) := by decide +kernel
theorem dX0_orbit_15 : decode cX0_orbit 15 = .ok (.iconst (-1), 1) := by decide +kernel
theorem dX0_orbit_16 : decode cX0_orbit 16 = .ok (.ireturn, 1) := by decide +kernel
theorem dX0_orbit_17 : decode cX0_orbit 17 = .ok (.aload_n 0, 1) := by decide +kernel
theorem dX0_orbit_18 : decode cX0_orbit 18 = .ok (.iload_n 1, 1) := by decide +kernel
theorem dX0_orbit_19 : decode cX0_orbit 19 = .ok (.iload_n 2, 1) := by decide +kernel
theorem dX0_orbit_20 : decode cX0_orbit 20 = .ok (.invokevirtual 80, 3) := by decide +kernel
theorem dX0_orbit_23 : decode cX0_orbit 23 = .ok (.ireturn, 1) := by decide +kernel
set_option maxRecDepth 20000 in
theorem ggX0_orbits_X0_isTurnKind : GoodIn wsX0_orbits wsX0_isTurnKind := goodIn_r _ [4] (by decide +kernel) (by decide +kernel)
set_option maxRecDepth 20000 in
theorem gX0_orbits_X0_isTurnKind : GoodIn wsX0_orbits (va_wsS RX0 71 yX0_isTurnKind wsX0_isTurnKind) := goodIn_app (goodIn_of _ (by decide +kernel)) ggX0_orbits_X0_isTurnKind
set_option maxRecDepth 20000 in
theorem ggX0_orbits_X0_findOrbits : GoodIn wsX0_orbits wsX0_findOrbits := goodIn_r _ [8, 9, 10, 11, 12, 13, 14, 3, 15, 16, 17, 18, 19, 20, 21, 22, 23, 24, 25, 26, 27, 28, 29, 30, 31, 32, 33, 34, 35, 36, 37, 38, 39, 40, 41, 42, 43, 44, 45, 46, 47, 48, 49, 50, 51, 68, 69, 70, 71, 72, 73, 74, 75, 76, 77, 78, 79, 80] (by decide +kernel) (by decide +kernel)
set_option maxRecDepth 20000 in
theorem gX0_orbits_X0_findOrbits : GoodIn wsX0_orbits (wsV RX0 83 RX0 yX0_findOrbits wsX0_findOrbits) := goodIn_app (goodIn_of _ (by decide +kernel)) ggX0_orbits_X0_findOrbits
set_option maxRecDepth 20000 in
theorem ggX0_orbits_X0_orderOf : GoodIn wsX0_orbits wsX0_orderOf := goodIn_r _ [55, 11, 56, 57, 58, 3, 59, 60, 61, 62, 63, 68, 69, 70, 71, 72, 73, 74, 75, 76, 77, 78, 79, 80] (by decide +kernel) (by decide +kernel)
set_option maxRecDepth 20000 in
theorem gX0_orbits_X0_orderOf : GoodIn wsX0_orbits (wsV RX0 87 RX0 yX0_orderOf wsX0_orderOf) := goodIn_app (goodIn_of _ (by decide +kernel)) ggX0_orbits_X0_orderOf
set_option maxRecDepth 20000 in
theorem ggX0_orbits_X0_longestOf : GoodIn wsX0_orbits wsX0_longestOf := goodIn_r _ [67, 11, 60, 61, 62, 63, 68, 69, 70, 71, 72, 73, 74, 75, 76, 77, 78, 79, 80] (by decide +kernel) (by decide +kernel)
set_option maxRecDepth 20000 in
theorem gX0_orbits_X0_longestOf : GoodIn wsX0_orbits (wsV RX0 90 RX0 yX0_longestOf wsX0_longestOf) := goodIn_app (goodIn_of _ (by decide +kernel)) ggX0_orbits_X0_longestOf
theorem dX0_orbits_0 : decode cX0_orbits 0 = .ok (.iload_n 1, 1) := by decide +kernel
theorem dX0_orbits_1 : decode cX0_orbits 1 = .ok (.invokestatic 71, 3) := by decide +kernel
theorem dX0_orbits_4 : decode cX0_orbits 4 = .ok (.ifCond .eq 12, 3) := by decide +kernel
theorem dX0_orbits_7 : decode cX0_orbits 7 = .ok (.iload_n 2, 1) := by decide +kernel
theorem dX0_orbits_8 : decode cX0_orbits 8 = .ok (.ifCond .lt 8, 3) := by decide +kernel
theorem dX0_orbits_11 : decode cX0_orbits 11 = .ok (.iload_n 2, 1) := by decide +kernel
theorem dX0_orbits_12 : decode cX0_orbits 12 = .ok (.iconst 2, 1) := by decide +kernel
theorem dX0_orbits_13 : decode cX0_orbits 13 = .ok (.if_icmp .le 5, 3) := by decide +kernel
theorem dX0_orbits_16 : decode cX0_orbits 16 = .ok (.iconst (-1), 1) := by decide +kernel
theorem dX0_orbits_17 : decode cX0_orbits 17 = .ok (.ireturn, 1) := by decide +kernel
theorem dX0_orbits_18 : decode cX0_orbits 18 = .ok (.aload_n 0, 1) := by decide +kernel
theorem dX0_orbits_19 : decode cX0_orbits 19 = .ok (.iload_n 1, 1) := by decide +kernel
theorem dX0_orbits_20 : decode cX0_orbits 20 = .ok (.invokevirtual 83, 3) := by decide +kernel
theorem dX0_orbits_23 : decode cX0_orbits 23 = .ok (.istore_n 3, 1) := by decide +kernel
theorem dX0_orbits_24 : decode cX0_orbits 24 = .ok (.iload_n 2, 1) := by decide +kernel
theorem dX0_orbits_25 : decode cX0_orbits 25 = .ok (.ifCond .ne 5, 3) := by decide +kernel
theorem dX0_orbits_28 : decode cX0_orbits 28 = .ok (.iload_n 3, 1) := by decide +kernel
theorem dX0_orbits_29 : decode cX0_orbits 29 = .ok (.ireturn, 1) := by decide +kernel
theorem dX0_orbits_30 : decode cX0_orbits 30 = .ok (.iload_n 2, 1) := by decide +kernel
theorem dX0_orbits_31 : decode cX0_orbits 31 = .ok (.iconst 1, 1) := by decide +kernel
theorem dX0_orbits_32 : decode cX0_orbits 32 = .ok (.if_icmp .ne 11, 3) := by decide +kernel
theorem dX0_orbits_35 : decode cX0_orbits 35 = .ok (.aload_n 0, 1) := by decide +kernel
theorem dX0_orbits_36 : decode cX0_orbits 36 = .ok (.iload_n 3, 1) := by decide +kernel
theorem dX0_orbits_37 : decode cX0_orbits 37 = .ok (.invokevirtual 87, 3) := by decide +kernel
theorem dX0_orbits_40 : decode cX0_orbits 40 = .ok (.goto 8, 3) := by decide +kernel
theorem dX0_orbits_43 : decode cX0_orbits 43 = .ok (.aload_n 0, 1) := by decide +kernel
theorem dX0_orbits_44 : decode cX0_orbits 44 = .ok (.iload_n 3, 1) := by decide +kernel
theorem dX0_orbits_45 : decode cX0_orbits 45 = .ok (.invokevirtual 90, 3) := by decide +kernel
theorem dX0_orbits_48 : decode cX0_orbits 48 = .ok (.ireturn, 1) := by decide +kernel
set_option maxRecDepth 20000 in
theorem ggX0_measure_X0_isMeasureKind : GoodIn wsX0_measure wsX0_isMeasureKind := goodIn_r _ [6] (by decide +kernel) (by decide +kernel)
set_option maxRecDepth 20000 in
theorem gX0_measure_X0_isMeasureKind : GoodIn wsX0_measure (va_wsS RX0 93 yX0_isMeasureKind wsX0_isMeasureKind) := goodIn_app (goodIn_of _ (by decide +kernel)) ggX0_measure_X0_isMeasureKind
set_option maxRecDepth 20000 in
theorem ggX0_measure_X0_isHeap : GoodIn wsX0_measure wsX0_isHeap := goodIn_r _ [10, 11, 12, 13, 14, 15, 5, 16, 17, 18, 19, 20, 21, 22, 23, 48, 49, 50, 51, 52, 53, 54, 55, 56, 57, 58, 59, 60] (by decide +kernel) (by decide +kernel)
set_option maxRecDepth 20000 in
theorem gX0_measure_X0_isHeap : GoodIn wsX0_measure (wsV RX0 60 RX0 yX0_isHeap wsX0_isHeap) := goodIn_app (goodIn_of _ (by decide +kernel)) ggX0_measure_X0_isHeap
set_option maxRecDepth 20000 in
theorem ggX0_measure_X0_traceOf : GoodIn wsX0_measure wsX0_traceOf := goodIn_r _ [26] (by decide +kernel) (by decide +kernel)
set_option maxRecDepth 20000 in
theorem gX0_measure_X0_traceOf : GoodIn wsX0_measure (va_wsS RX0 100 yX0_traceOf wsX0_traceOf) := goodIn_app (goodIn_of _ (by decide +kernel)) ggX0_measure_X0_traceOf
set_option maxRecDepth 20000 in
theorem ggX0_measure_X0_measured : GoodIn wsX0_measure wsX0_measured := goodIn_r _ [30, 31, 32, 33, 5, 34, 11, 35, 36, 37, 38, 39, 40, 41, 42, 43, 44, 45, 46, 47, 21, 22, 23, 48, 49, 50, 51, 52, 53, 54, 55, 56, 57, 58, 59, 60] (by decide +kernel) (by decide +kernel)
set_option maxRecDepth 20000 in
theorem gX0_measure_X0_measured : GoodIn wsX0_measure (wsV RX0 103 RX0 yX0_measured wsX0_measured) := goodIn_app (goodIn_of _ (by decide +kernel)) ggX0_measure_X0_measured
theorem dX0_measure_0 : decode cX0_measure 0 = .ok (.iload_n 1, 1) := by decide +kernel
theorem dX0_measure_1 : decode cX0_measure 1 = .ok (.invokestatic 93, 3) := by decide +kernel
theorem dX0_measure_4 : decode cX0_measure 4 = .ok (.ifCond .eq 11, 3) := by decide +kernel
theorem dX0_measure_7 : decode cX0_measure 7 = .ok (.aload_n 0, 1) := by decide +kernel
theorem dX0_measure_8 : decode cX0_measure 8 = .ok (.iload_n 2, 1) := by decide +kernel
theorem dX0_measure_9 : decode cX0_measure 9 = .ok (.invokevirtual 60, 3) := by decide +kernel
theorem dX0_measure_12 : decode cX0_measure 12 = .ok (.ifCond .ne 6, 3) := by decide +kernel
theorem dX0_measure_15 : decode cX0_measure 15 = .ok (.ldc 56, 2) := by decide +kernel
theorem dX0_measure_17 : decode cX0_measure 17 = .ok (.ireturn, 1) := by decide +kernel
theorem dX0_measure_18 : decode cX0_measure 18 = .ok (.aload_n 0, 1) := by decide +kernel
theorem dX0_measure_19 : decode cX0_measure 19 = .ok (.dup, 1) := by decide +kernel
theorem dX0_measure_20 : decode cX0_measure 20 = .ok (.getfield 96, 3) := by decide +kernel
theorem dX0_measure_23 : decode cX0_measure 23 = .ok (.iload_n 1, 1) := by decide +kernel
theorem dX0_measure_24 : decode cX0_measure 24 = .ok (.invokestatic 100, 3) := by decide +kernel
theorem dX0_measure_27 : decode cX0_measure 27 = .ok (.i2l, 1) := by decide +kernel
theorem dX0_measure_28 : decode cX0_measure 28 = .ok (.ladd, 1) := by decide +kernel
theorem dX0_measure_29 : decode cX0_measure 29 = .ok (.putfield 96, 3) := by decide +kernel
theorem dX0_measure_32 : decode cX0_measure 32 = .ok (.aload_n 0, 1) := by decide +kernel
theorem dX0_measure_33 : decode cX0_measure 33 = .ok (.iload_n 1, 1) := by decide +kernel
theorem dX0_measure_34 : decode cX0_measure 34 = .ok (.iload_n 2, 1) := by decide +kernel
theorem dX0_measure_35 : decode cX0_measure 35 = .ok (.invokevirtual 103, 3) := by decide +kernel
theorem dX0_measure_38 : decode cX0_measure 38 = .ok (.ireturn, 1) := by decide +kernel
set_option maxRecDepth 20000 in
theorem ggX0_mean_X0_isHeap : GoodIn wsX0_mean wsX0_isHeap := goodIn_r _ [10, 11, 12, 13, 14, 15, 9, 16, 17, 18, 19, 20, 21, 22, 23, 84, 85, 86, 87, 88, 89, 90, 91, 92, 93, 94, 95, 96] (by decide +kernel) (by decide +kernel)
set_option maxRecDepth 20000 in
theorem gX0_mean_X0_isHeap : GoodIn wsX0_mean (wsV RX0 60 RX0 yX0_isHeap wsX0_isHeap) := goodIn_app (goodIn_of _ (by decide +kernel)) ggX0_mean_X0_isHeap
set_option maxRecDepth 20000 in
theorem ggX0_mean_X0_isTurnKind : GoodIn wsX0_mean wsX0_isTurnKind := goodIn_r _ [26] (by decide +kernel) (by decide +kernel)
set_option maxRecDepth 20000 in
theorem gX0_mean_X0_isTurnKind : GoodIn wsX0_mean (va_wsS RX0 71 yX0_isTurnKind wsX0_isTurnKind) := goodIn_app (goodIn_of _ (by decide +kernel)) ggX0_mean_X0_isTurnKind
set_option maxRecDepth 20000 in
theorem ggX0_mean_X0_isMeasureKind : GoodIn wsX0_mean wsX0_isMeasureKind := goodIn_r _ [29] (by decide +kernel) (by decide +kernel)
set_option maxRecDepth 20000 in
theorem gX0_mean_X0_isMeasureKind : GoodIn wsX0_mean (va_wsS RX0 93 yX0_isMeasureKind wsX0_isMeasureKind) := goodIn_app (goodIn_of _ (by decide +kernel)) ggX0_mean_X0_isMeasureKind
set_option maxRecDepth 20000 in
theorem ggX0_mean_X0_walkOrbit : GoodIn wsX0_mean wsX0_walkOrbit := goodIn_r _ [33, 34, 35, 36, 37, 9, 38, 39, 40, 41, 42, 11, 12, 21, 22, 23, 43, 44, 45, 46, 47, 48, 49, 50, 51, 52, 53, 84, 85, 86, 87, 88, 89, 90, 91, 92, 93, 94, 95, 96] (by decide +kernel) (by decide +kernel)
set_option maxRecDepth 20000 in
theorem gX0_mean_X0_walkOrbit : GoodIn wsX0_mean (wsV RX0 80 RX0 yX0_walkOrbit wsX0_walkOrbit) := goodIn_app (goodIn_of _ (by decide +kernel)) ggX0_mean_X0_walkOrbit
set_option maxRecDepth 20000 in
theorem ggX0_mean_X0_sumOfOrbit : GoodIn wsX0_mean wsX0_sumOfOrbit := goodIn_r _ [57, 58, 59, 60, 9, 61, 62, 63, 64, 65, 11, 53, 66, 67, 68, 69, 70, 71, 72, 73, 74, 75, 76, 77, 21, 22, 23, 35, 36, 37, 38, 39, 40, 41, 42, 12, 43, 44, 45, 46, 47, 48, 49, 50, 51, 52, 84, 85, 86, 87, 88, 89, 90, 91, 92, 93, 94, 95, 96] (by decide +kernel) (by decide +kernel)
set_option maxRecDepth 20000 in
theorem gX0_mean_X0_sumOfOrbit : GoodIn wsX0_mean (wsV RX0 106 RX0 yX0_sumOfOrbit wsX0_sumOfOrbit) := goodIn_app (goodIn_of _ (by decide +kernel)) ggX0_mean_X0_sumOfOrbit
set_option maxRecDepth 20000 in
theorem ggX0_mean_X0_commonDivisor : GoodIn wsX0_mean wsX0_commonDivisor := goodIn_r _ [80, 81, 82, 4, 83] (by decide +kernel) (by decide +kernel)
set_option maxRecDepth 20000 in
theorem gX0_mean_X0_commonDivisor : GoodIn wsX0_mean (va_wsS RX0 115 yX0_commonDivisor wsX0_commonDivisor) := goodIn_app (goodIn_of _ (by decide +kernel)) ggX0_mean_X0_commonDivisor
theorem dX0_mean_0 : decode cX0_mean 0 = .ok (.aload_n 0, 1) := by decide +kernel
theorem dX0_mean_1 : decode cX0_mean 1 = .ok (.iload_n 1, 1) := by decide +kernel
theorem dX0_mean_2 : decode cX0_mean 2 = .ok (.invokevirtual 60, 3) := by decide +kernel
theorem dX0_mean_5 : decode cX0_mean 5 = .ok (.ifCond .eq 28, 3) := by decide +kernel
theorem dX0_mean_8 : decode cX0_mean 8 = .ok (.iload_n 2, 1) := by decide +kernel
theorem dX0_mean_9 : decode cX0_mean 9 = .ok (.invokestatic 71, 3) := by decide +kernel
theorem dX0_mean_12 : decode cX0_mean 12 = .ok (.ifCond .eq 21, 3) := by decide +kernel
theorem dX0_mean_15 : decode cX0_mean 15 = .ok (.iload_n 3, 1) := by decide +kernel
theorem dX0_mean_16 : decode cX0_mean 16 = .ok (.invokestatic 93, 3) := by decide +kernel
theorem dX0_mean_19 : decode cX0_mean 19 = .ok (.ifCond .eq 14, 3) := by decide +kernel
theorem dX0_mean_22 : decode cX0_mean 22 = .ok (.iload 4, 2) := by decide +kernel
theorem dX0_mean_24 : decode cX0_mean 24 = .ok (.ifCond .lt 9, 3) := by decide +kernel
theorem dX0_mean_27 : decode cX0_mean 27 = .ok (.iload 4, 2) := by decide +kernel
theorem dX0_mean_29 : decode cX0_mean 29 = .ok (.iconst 1, 1) := by decide +kernel
theorem dX0_mean_30 : decode cX0_mean 30 = .ok (.if_icmp .le 6, 3) := by decide +kernel
theorem dX0_mean_33 : decode cX0_mean 33 = .ok (.ldc 56, 2) := by decide +kernel
theorem dX0_mean_35 : decode cX0_mean 35 = .ok (.ireturn, 1) := by decide +kernel
theorem dX0_mean_36 : decode cX0_mean 36 = .ok (.aload_n 0, 1) := by decide +kernel
theorem dX0_mean_37 : decode cX0_mean 37 = .ok (.iload_n 1, 1) := by decide +kernel
theorem dX0_mean_38 : decode cX0_mean 38 = .ok (.iload_n 2, 1) := by decide +kernel
theorem dX0_mean_39 : decode cX0_mean 39 = .ok (.invokevirtual 80, 3) := by decide +kernel
theorem dX0_mean_42 : decode cX0_mean 42 = .ok (.istore 5, 2) := by decide +kernel
theorem dX0_mean_44 : decode cX0_mean 44 = .ok (.aload_n 0, 1) := by decide +kernel
theorem dX0_mean_45 : decode cX0_mean 45 = .ok (.iload_n 1, 1) := by decide +kernel
theorem dX0_mean_46 : decode cX0_mean 46 = .ok (.iload 5, 2) := by decide +kernel
theorem dX0_mean_48 : decode cX0_mean 48 = .ok (.iload_n 2, 1) := by decide +kernel
theorem dX0_mean_49 : decode cX0_mean 49 = .ok (.iload_n 3, 1) := by decide +kernel
theorem dX0_mean_50 : decode cX0_mean 50 = .ok (.invokevirtual 106, 3) := by decide +kernel
theorem dX0_mean_53 : decode cX0_mean 53 = .ok (.istore 6, 2) := by decide +kernel
theorem dX0_mean_55 : decode cX0_mean 55 = .ok (.iload 6, 2) := by decide +kernel
theorem dX0_mean_57 : decode cX0_mean 57 = .ok (.invokestatic 110, 3) := by decide +kernel
theorem dX0_mean_60 : decode cX0_mean 60 = .ok (.iload 5, 2) := by decide +kernel
theorem dX0_mean_62 : decode cX0_mean 62 = .ok (.invokestatic 115, 3) := by decide +kernel
theorem dX0_mean_65 : decode cX0_mean 65 = .ok (.istore 7, 2) := by decide +kernel
theorem dX0_mean_67 : decode cX0_mean 67 = .ok (.iload 4, 2) := by decide +kernel
theorem dX0_mean_69 : decode cX0_mean 69 = .ok (.ifCond .ne 11, 3) := by decide +kernel
theorem dX0_mean_72 : decode cX0_mean 72 = .ok (.iload 6, 2) := by decide +kernel
theorem dX0_mean_74 : decode cX0_mean 74 = .ok (.iload 7, 2) := by decide +kernel
theorem dX0_mean_76 : decode cX0_mean 76 = .ok (.idiv, 1) := by decide +kernel
theorem dX0_mean_77 : decode cX0_mean 77 = .ok (.goto 8, 3) := by decide +kernel
theorem dX0_mean_80 : decode cX0_mean 80 = .ok (.iload 5, 2) := by decide +kernel
theorem dX0_mean_82 : decode cX0_mean 82 = .ok (.iload 7, 2) := by decide +kernel
theorem dX0_mean_84 : decode cX0_mean 84 = .ok (.idiv, 1) := by decide +kernel
theorem dX0_mean_85 : decode cX0_mean 85 = .ok (.ireturn, 1) := by decide +kernel
set_option maxRecDepth 20000 in
theorem ggX0_even_X0_isTurnKind : GoodIn wsX0_even wsX0_isTurnKind := goodIn_r _ [6] (by decide +kernel) (by decide +kernel)
set_option maxRecDepth 20000 in
theorem gX0_even_X0_isTurnKind : GoodIn wsX0_even (va_wsS RX0 71 yX0_isTurnKind wsX0_isTurnKind) := goodIn_app (goodIn_of _ (by decide +kernel)) ggX0_even_X0_isTurnKind
set_option maxRecDepth 20000 in
theorem ggX0_even_X0_isMeasureKind : GoodIn wsX0_even wsX0_isMeasureKind := goodIn_r _ [9] (by decide +kernel) (by decide +kernel)
set_option maxRecDepth 20000 in
theorem gX0_even_X0_isMeasureKind : GoodIn wsX0_even (va_wsS RX0 93 yX0_isMeasureKind wsX0_isMeasureKind) := goodIn_app (goodIn_of _ (by decide +kernel)) ggX0_even_X0_isMeasureKind
set_option maxRecDepth 20000 in
theorem ggX0_even_X0_findOrbits : GoodIn wsX0_even wsX0_findOrbits := goodIn_r _ [13, 14, 2, 1, 15, 16, 17, 5, 18, 19, 20, 21, 22, 23, 24, 25, 26, 27, 28, 29, 30, 31, 32, 33, 34, 35, 36, 37, 38, 39, 40, 41, 42, 43, 44, 45, 46, 47, 48, 49, 50, 51, 52, 53, 54, 79, 80, 81, 82, 83, 84, 85, 86, 87, 88, 89, 90, 91] (by decide +kernel) (by decide +kernel)
set_option maxRecDepth 20000 in
theorem gX0_even_X0_findOrbits : GoodIn wsX0_even (wsV RX0 83 RX0 yX0_findOrbits wsX0_findOrbits) := goodIn_app (goodIn_of _ (by decide +kernel)) ggX0_even_X0_findOrbits
set_option maxRecDepth 20000 in
theorem ggX0_even_X0_sumOfOrbit : GoodIn wsX0_even wsX0_sumOfOrbit := goodIn_r _ [58, 59, 60, 61, 5, 62, 63, 64, 65, 66, 19, 54, 67, 68, 69, 70, 71, 72, 73, 74, 75, 76, 77, 78, 29, 30, 31, 36, 37, 38, 39, 40, 41, 42, 43, 24, 44, 45, 46, 47, 48, 49, 50, 51, 52, 53, 79, 80, 81, 82, 83, 84, 85, 86, 87, 88, 89, 90, 91] (by decide +kernel) (by decide +kernel)
set_option maxRecDepth 20000 in
theorem gX0_even_X0_sumOfOrbit : GoodIn wsX0_even (wsV RX0 106 RX0 yX0_sumOfOrbit wsX0_sumOfOrbit) := goodIn_app (goodIn_of _ (by decide +kernel)) ggX0_even_X0_sumOfOrbit
theorem dX0_even_0 : decode cX0_even 0 = .ok (.iload_n 1, 1) := by decide +kernel
theorem dX0_even_1 : decode cX0_even 1 = .ok (.invokestatic 71, 3) := by decide +kernel
theorem dX0_even_4 : decode cX0_even 4 = .ok (.ifCond .eq 10, 3) := by decide +kernel
theorem dX0_even_7 : decode cX0_even 7 = .ok (.iload_n 2, 1) := by decide +kernel
theorem dX0_even_8 : decode cX0_even 8 = .ok (.invokestatic 93, 3) := by decide +kernel
theorem dX0_even_11 : decode cX0_even 11 = .ok (.ifCond .ne 5, 3) := by decide +kernel
theorem dX0_even_14 : decode cX0_even 14 = .ok (.iconst (-1), 1) := by decide +kernel
theorem dX0_even_15 : decode cX0_even 15 = .ok (.ireturn, 1) := by decide +kernel
theorem dX0_even_16 : decode cX0_even 16 = .ok (.aload_n 0, 1) := by decide +kernel
theorem dX0_even_17 : decode cX0_even 17 = .ok (.iload_n 1, 1) := by decide +kernel
theorem dX0_even_18 : decode cX0_even 18 = .ok (.invokevirtual 83, 3) := by decide +kernel
theorem dX0_even_21 : decode cX0_even 21 = .ok (.istore_n 3, 1) := by decide +kernel
theorem dX0_even_22 : decode cX0_even 22 = .ok (.aload_n 0, 1) := by decide +kernel
theorem dX0_even_23 : decode cX0_even 23 = .ok (.getfield 38, 3) := by decide +kernel
theorem dX0_even_26 : decode cX0_even 26 = .ok (.iconst 0, 1) := by decide +kernel
theorem dX0_even_27 : decode cX0_even 27 = .ok (.iaload, 1) := by decide +kernel
theorem dX0_even_28 : decode cX0_even 28 = .ok (.istore 4, 2) := by decide +kernel
theorem dX0_even_30 : decode cX0_even 30 = .ok (.aload_n 0, 1) := by decide +kernel
theorem dX0_even_31 : decode cX0_even 31 = .ok (.aload_n 0, 1) := by decide +kernel
theorem dX0_even_32 : decode cX0_even 32 = .ok (.getfield 35, 3) := by decide +kernel
theorem dX0_even_35 : decode cX0_even 35 = .ok (.iconst 0, 1) := by decide +kernel
theorem dX0_even_36 : decode cX0_even 36 = .ok (.iaload, 1) := by decide +kernel
theorem dX0_even_37 : decode cX0_even 37 = .ok (.iload 4, 2) := by decide +kernel
theorem dX0_even_39 : decode cX0_even 39 = .ok (.iload_n 1, 1) := by decide +kernel
theorem dX0_even_40 : decode cX0_even 40 = .ok (.iload_n 2, 1) := by decide +kernel
theorem dX0_even_41 : decode cX0_even 41 = .ok (.invokevirtual 106, 3) := by decide +kernel
theorem dX0_even_44 : decode cX0_even 44 = .ok (.istore 5, 2) := by decide +kernel
theorem dX0_even_46 : decode cX0_even 46 = .ok (.iconst 1, 1) := by decide +kernel
theorem dX0_even_47 : decode cX0_even 47 = .ok (.istore 6, 2) := by decide +kernel
theorem dX0_even_49 : decode cX0_even 49 = .ok (.iload 6, 2) := by decide +kernel
theorem dX0_even_51 : decode cX0_even 51 = .ok (.iload_n 3, 1) := by decide +kernel
theorem dX0_even_52 : decode cX0_even 52 = .ok (.if_icmp .ge 51, 3) := by decide +kernel
theorem dX0_even_55 : decode cX0_even 55 = .ok (.aload_n 0, 1) := by decide +kernel
theorem dX0_even_56 : decode cX0_even 56 = .ok (.aload_n 0, 1) := by decide +kernel
theorem dX0_even_57 : decode cX0_even 57 = .ok (.getfield 35, 3) := by decide +kernel
theorem dX0_even_60 : decode cX0_even 60 = .ok (.iload 6, 2) := by decide +kernel
theorem dX0_even_62 : decode cX0_even 62 = .ok (.iaload, 1) := by decide +kernel
theorem dX0_even_63 : decode cX0_even 63 = .ok (.aload_n 0, 1) := by decide +kernel
theorem dX0_even_64 : decode cX0_even 64 = .ok (.getfield 38, 3) := by decide +kernel
theorem dX0_even_67 : decode cX0_even 67 = .ok (.iload 6, 2) := by decide +kernel
theorem dX0_even_69 : decode cX0_even 69 = .ok (.iaload, 1) := by decide +kernel
theorem dX0_even_70 : decode cX0_even 70 = .ok (.iload_n 1, 1) := by decide +kernel
theorem dX0_even_71 : decode cX0_even 71 = .ok (.iload_n 2, 1) := by decide +kernel
theorem dX0_even_72 : decode cX0_even 72 = .ok (.invokevirtual 106, 3) := by decide +kernel
theorem dX0_even_75 : decode cX0_even 75 = .ok (.istore 7, 2) := by decide +kernel
theorem dX0_even_77 : decode cX0_even 77 = .ok (.iload 7, 2) := by decide +kernel
theorem dX0_even_79 : decode cX0_even 79 = .ok (.iload 4, 2) := by decide +kernel
theorem dX0_even_81 : decode cX0_even 81 = .ok (.imul, 1) := by decide +kernel
theorem dX0_even_82 : decode cX0_even 82 = .ok (.iload 5, 2) := by decide +kernel
theorem dX0_even_84 : decode cX0_even 84 = .ok (.aload_n 0, 1) := by decide +kernel
theorem dX0_even_85 : decode cX0_even 85 = .ok (.getfield 38, 3) := by decide +kernel
theorem dX0_even_88 : decode cX0_even 88 = .ok (.iload 6, 2) := by decide +kernel
theorem dX0_even_90 : decode cX0_even 90 = .ok (.iaload, 1) := by decide +kernel
theorem dX0_even_91 : decode cX0_even 91 = .ok (.imul, 1) := by decide +kernel
theorem dX0_even_92 : decode cX0_even 92 = .ok (.if_icmp .eq 5, 3) := by decide +kernel
theorem dX0_even_95 : decode cX0_even 95 = .ok (.iconst 0, 1) := by decide +kernel
theorem dX0_even_96 : decode cX0_even 96 = .ok (.ireturn, 1) := by decide +kernel
theorem dX0_even_97 : decode cX0_even 97 = .ok (.iinc 6 1, 3) := by decide +kernel
theorem dX0_even_100 : decode cX0_even 100 = .ok (.goto (-51), 3) := by decide +kernel
theorem dX0_even_103 : decode cX0_even 103 = .ok (.iconst 1, 1) := by decide +kernel
theorem dX0_even_104 : decode cX0_even 104 = .ok (.ireturn, 1) := by decide +kernel
set_option maxRecDepth 20000 in
theorem ggX0_fillings_X0_isHeight : GoodIn wsX0_fillings wsX0_isHeight := goodIn_r _ [5] (by decide +kernel) (by decide +kernel)
set_option maxRecDepth 20000 in
theorem gX0_fillings_X0_isHeight : GoodIn wsX0_fillings (va_wsS RX0 118 yX0_isHeight wsX0_isHeight) := goodIn_app (goodIn_of _ (by decide +kernel)) ggX0_fillings_X0_isHeight
set_option maxRecDepth 20000 in
theorem ggX0_fillings_X0_setCount : GoodIn wsX0_fillings wsX0_setCount := goodIn_r _ [9, 10, 27, 28, 29, 30, 31, 32, 33, 34, 35, 36, 37, 38, 39] (by decide +kernel) (by decide +kernel)
set_option maxRecDepth 20000 in
theorem gX0_fillings_X0_setCount : GoodIn wsX0_fillings (wsV RX0 63 RX0 yX0_setCount wsX0_setCount) := goodIn_app (goodIn_of _ (by decide +kernel)) ggX0_fillings_X0_setCount
set_option maxRecDepth 20000 in
theorem ggX0_fillings_X0_isHeap : GoodIn wsX0_fillings wsX0_isHeap := goodIn_r _ [14, 10, 15, 16, 17, 18, 4, 19, 6, 7, 8, 9, 20, 21, 22, 27, 28, 29, 30, 31, 32, 33, 34, 35, 36, 37, 38, 39] (by decide +kernel) (by decide +kernel)
set_option maxRecDepth 20000 in
theorem gX0_fillings_X0_isHeap : GoodIn wsX0_fillings (wsV RX0 60 RX0 yX0_isHeap wsX0_isHeap) := goodIn_app (goodIn_of _ (by decide +kernel)) ggX0_fillings_X0_isHeap
set_option maxRecDepth 20000 in
theorem ggX0_fillings_X0_extendRows : GoodIn wsX0_fillings wsX0_extendRows := goodIn_r _ [26, 10, 1, 6, 7, 8, 4, 9, 20, 21, 22, 11, 12, 13, 14, 15, 16, 17, 18, 19, 27, 28, 29, 30, 31, 32, 33, 34, 35, 36, 37, 38, 39] (by decide +kernel) (by decide +kernel)
set_option maxRecDepth 20000 in
theorem gX0_fillings_X0_extendRows : GoodIn wsX0_fillings (wsV RX0 121 RX0 yX0_extendRows wsX0_extendRows) := goodIn_app (goodIn_of _ (by decide +kernel)) ggX0_fillings_X0_extendRows
theorem dX0_fillings_0 : decode cX0_fillings 0 = .ok (.iload_n 1, 1) := by decide +kernel
theorem dX0_fillings_1 : decode cX0_fillings 1 = .ok (.invokestatic 118, 3) := by decide +kernel
theorem dX0_fillings_4 : decode cX0_fillings 4 = .ok (.ifCond .ne 5, 3) := by decide +kernel
theorem dX0_fillings_7 : decode cX0_fillings 7 = .ok (.iconst (-1), 1) := by decide +kernel
theorem dX0_fillings_8 : decode cX0_fillings 8 = .ok (.ireturn, 1) := by decide +kernel
theorem dX0_fillings_9 : decode cX0_fillings 9 = .ok (.iconst 0, 1) := by decide +kernel
theorem dX0_fillings_10 : decode cX0_fillings 10 = .ok (.istore_n 2, 1) := by decide +kernel
theorem dX0_fillings_11 : decode cX0_fillings 11 = .ok (.iload_n 2, 1) := by decide +kernel
theorem dX0_fillings_12 : decode cX0_fillings 12 = .ok (.aload_n 0, 1) := by decide +kernel
theorem dX0_fillings_13 : decode cX0_fillings 13 = .ok (.invokevirtual 63, 3) := by decide +kernel
theorem dX0_fillings_16 : decode cX0_fillings 16 = .ok (.if_icmp .ge 28, 3) := by decide +kernel
theorem dX0_fillings_19 : decode cX0_fillings 19 = .ok (.aload_n 0, 1) := by decide +kernel
theorem dX0_fillings_20 : decode cX0_fillings 20 = .ok (.getfield 32, 3) := by decide +kernel
theorem dX0_fillings_23 : decode cX0_fillings 23 = .ok (.iload_n 2, 1) := by decide +kernel
theorem dX0_fillings_24 : decode cX0_fillings 24 = .ok (.aload_n 0, 1) := by decide +kernel
theorem dX0_fillings_25 : decode cX0_fillings 25 = .ok (.iload_n 2, 1) := by decide +kernel
theorem dX0_fillings_26 : decode cX0_fillings 26 = .ok (.invokevirtual 60, 3) := by decide +kernel
theorem dX0_fillings_29 : decode cX0_fillings 29 = .ok (.ifCond .eq 7, 3) := by decide +kernel
theorem dX0_fillings_32 : decode cX0_fillings 32 = .ok (.iconst 1, 1) := by decide +kernel
theorem dX0_fillings_33 : decode cX0_fillings 33 = .ok (.goto 4, 3) := by decide +kernel
theorem dX0_fillings_36 : decode cX0_fillings 36 = .ok (.iconst 0, 1) := by decide +kernel
theorem dX0_fillings_37 : decode cX0_fillings 37 = .ok (.iastore, 1) := by decide +kernel
theorem dX0_fillings_38 : decode cX0_fillings 38 = .ok (.iinc 2 1, 3) := by decide +kernel
theorem dX0_fillings_41 : decode cX0_fillings 41 = .ok (.goto (-30), 3) := by decide +kernel
theorem dX0_fillings_44 : decode cX0_fillings 44 = .ok (.iconst 2, 1) := by decide +kernel
theorem dX0_fillings_45 : decode cX0_fillings 45 = .ok (.istore_n 2, 1) := by decide +kernel
theorem dX0_fillings_46 : decode cX0_fillings 46 = .ok (.iload_n 2, 1) := by decide +kernel
theorem dX0_fillings_47 : decode cX0_fillings 47 = .ok (.iload_n 1, 1) := by decide +kernel
theorem dX0_fillings_48 : decode cX0_fillings 48 = .ok (.if_icmp .gt 13, 3) := by decide +kernel
theorem dX0_fillings_51 : decode cX0_fillings 51 = .ok (.aload_n 0, 1) := by decide +kernel
theorem dX0_fillings_52 : decode cX0_fillings 52 = .ok (.invokevirtual 121, 3) := by decide +kernel
theorem dX0_fillings_55 : decode cX0_fillings 55 = .ok (.iinc 2 1, 3) := by decide +kernel
theorem dX0_fillings_58 : decode cX0_fillings 58 = .ok (.goto (-12), 3) := by decide +kernel
theorem dX0_fillings_61 : decode cX0_fillings 61 = .ok (.iconst 0, 1) := by decide +kernel
theorem dX0_fillings_62 : decode cX0_fillings 62 = .ok (.istore_n 2, 1) := by decide +kernel
theorem dX0_fillings_63 : decode cX0_fillings 63 = .ok (.iconst 0, 1) := by decide +kernel
theorem dX0_fillings_64 : decode cX0_fillings 64 = .ok (.istore_n 3, 1) := by decide +kernel
theorem dX0_fillings_65 : decode cX0_fillings 65 = .ok (.iload_n 3, 1) := by decide +kernel
theorem dX0_fillings_66 : decode cX0_fillings 66 = .ok (.aload_n 0, 1) := by decide +kernel
theorem dX0_fillings_67 : decode cX0_fillings 67 = .ok (.invokevirtual 63, 3) := by decide +kernel
theorem dX0_fillings_70 : decode cX0_fillings 70 = .ok (.if_icmp .ge 18, 3) := by decide +kernel
theorem dX0_fillings_73 : decode cX0_fillings 73 = .ok (.iload_n 2, 1) := by decide +kernel
theorem dX0_fillings_74 : decode cX0_fillings 74 = .ok (.aload_n 0, 1) := by decide +kernel
theorem dX0_fillings_75 : decode cX0_fillings 75 = .ok (.getfield 32, 3) := by decide +kernel
theorem dX0_fillings_78 : decode cX0_fillings 78 = .ok (.iload_n 3, 1) := by decide +kernel
theorem dX0_fillings_79 : decode cX0_fillings 79 = .ok (.iaload, 1) := by decide +kernel
theorem dX0_fillings_80 : decode cX0_fillings 80 = .ok (.iadd, 1) := by decide +kernel
theorem dX0_fillings_81 : decode cX0_fillings 81 = .ok (.istore_n 2, 1) := by decide +kernel
theorem dX0_fillings_82 : decode cX0_fillings 82 = .ok (.iinc 3 1, 3) := by decide +kernel
theorem dX0_fillings_85 : decode cX0_fillings 85 = .ok (.goto (-20), 3) := by decide +kernel
theorem dX0_fillings_88 : decode cX0_fillings 88 = .ok (.iload_n 2, 1) := by decide +kernel
theorem dX0_fillings_89 : decode cX0_fillings 89 = .ok (.ireturn, 1) := by decide +kernel
set_option maxRecDepth 20000 in
theorem ggX0_bend_X0_isThing : GoodIn wsX0_bend wsX0_isThing := goodIn_r _ [5, 6, 39, 40, 41, 42, 43, 44, 45, 46, 47, 48, 49, 50, 51] (by decide +kernel) (by decide +kernel)
set_option maxRecDepth 20000 in
theorem gX0_bend_X0_isThing : GoodIn wsX0_bend (wsV RX0 48 RX0 yX0_isThing wsX0_isThing) := goodIn_app (goodIn_of _ (by decide +kernel)) ggX0_bend_X0_isThing
set_option maxRecDepth 20000 in
theorem ggX0_bend_X0_readFilling : GoodIn wsX0_bend wsX0_readFilling := goodIn_r _ [10, 6, 11, 12, 13, 4, 14, 15, 16, 17, 18, 19, 20, 21, 22, 39, 40, 41, 42, 43, 44, 45, 46, 47, 48, 49, 50, 51] (by decide +kernel) (by decide +kernel)
set_option maxRecDepth 20000 in
theorem gX0_bend_X0_readFilling : GoodIn wsX0_bend (wsV RX0 124 RX0 yX0_readFilling wsX0_readFilling) := goodIn_app (goodIn_of _ (by decide +kernel)) ggX0_bend_X0_readFilling
set_option maxRecDepth 20000 in
theorem ggX0_bend_X0_flipDigit : GoodIn wsX0_bend wsX0_flipDigit := goodIn_r _ [26, 6, 19, 11, 27, 28, 29, 30, 31, 32, 33, 34, 20, 21, 4, 22, 39, 40, 41, 42, 43, 44, 45, 46, 47, 48, 49, 50, 51] (by decide +kernel) (by decide +kernel)
set_option maxRecDepth 20000 in
theorem gX0_bend_X0_flipDigit : GoodIn wsX0_bend (wsV RX0 127 RX0 yX0_flipDigit wsX0_flipDigit) := goodIn_app (goodIn_of _ (by decide +kernel)) ggX0_bend_X0_flipDigit
set_option maxRecDepth 20000 in
theorem ggX0_bend_X0_numberOfDigits : GoodIn wsX0_bend wsX0_numberOfDigits := goodIn_r _ [38, 6, 11, 39, 40, 41, 42, 43, 44, 45, 46, 47, 48, 49, 50, 51] (by decide +kernel) (by decide +kernel)
set_option maxRecDepth 20000 in
theorem gX0_bend_X0_numberOfDigits : GoodIn wsX0_bend (wsV RX0 131 RX0 yX0_numberOfDigits wsX0_numberOfDigits) := goodIn_app (goodIn_of _ (by decide +kernel)) ggX0_bend_X0_numberOfDigits
theorem dX0_bend_0 : decode cX0_bend 0 = .ok (.aload_n 0, 1) := by decide +kernel
theorem dX0_bend_1 : decode cX0_bend 1 = .ok (.iload_n 3, 1) := by decide +kernel
theorem dX0_bend_2 : decode cX0_bend 2 = .ok (.invokevirtual 48, 3) := by decide +kernel
theorem dX0_bend_5 : decode cX0_bend 5 = .ok (.ifCond .eq 12, 3) := by decide +kernel
theorem dX0_bend_8 : decode cX0_bend 8 = .ok (.aload_n 0, 1) := by decide +kernel
theorem dX0_bend_9 : decode cX0_bend 9 = .ok (.iload_n 1, 1) := by decide +kernel
theorem dX0_bend_10 : decode cX0_bend 10 = .ok (.iload_n 2, 1) := by decide +kernel
theorem dX0_bend_11 : decode cX0_bend 11 = .ok (.invokevirtual 124, 3) := by decide +kernel
theorem dX0_bend_14 : decode cX0_bend 14 = .ok (.ifCond .ne 5, 3) := by decide +kernel
theorem dX0_bend_17 : decode cX0_bend 17 = .ok (.iconst (-1), 1) := by decide +kernel
theorem dX0_bend_18 : decode cX0_bend 18 = .ok (.ireturn, 1) := by decide +kernel
theorem dX0_bend_19 : decode cX0_bend 19 = .ok (.aload_n 0, 1) := by decide +kernel
theorem dX0_bend_20 : decode cX0_bend 20 = .ok (.iload_n 1, 1) := by decide +kernel
theorem dX0_bend_21 : decode cX0_bend 21 = .ok (.iload_n 3, 1) := by decide +kernel
theorem dX0_bend_22 : decode cX0_bend 22 = .ok (.invokevirtual 127, 3) := by decide +kernel
theorem dX0_bend_25 : decode cX0_bend 25 = .ok (.aload_n 0, 1) := by decide +kernel
theorem dX0_bend_26 : decode cX0_bend 26 = .ok (.iload_n 1, 1) := by decide +kernel
theorem dX0_bend_27 : decode cX0_bend 27 = .ok (.invokevirtual 131, 3) := by decide +kernel
theorem dX0_bend_30 : decode cX0_bend 30 = .ok (.ireturn, 1) := by decide +kernel
set_option maxRecDepth 20000 in
theorem ggX0_round_X0_isTurnKind : GoodIn wsX0_round wsX0_isTurnKind := goodIn_r _ [4] (by decide +kernel) (by decide +kernel)
set_option maxRecDepth 20000 in
theorem gX0_round_X0_isTurnKind : GoodIn wsX0_round (va_wsS RX0 71 yX0_isTurnKind wsX0_isTurnKind) := goodIn_app (goodIn_of _ (by decide +kernel)) ggX0_round_X0_isTurnKind
set_option maxRecDepth 20000 in
theorem ggX0_round_X0_readFilling : GoodIn wsX0_round wsX0_readFilling := goodIn_r _ [8, 9, 10, 11, 12, 3, 13, 14, 15, 16, 17, 18, 19, 20, 21, 44, 45, 46, 47, 48, 49, 50, 51, 52, 53, 54, 55, 56] (by decide +kernel) (by decide +kernel)
set_option maxRecDepth 20000 in
theorem gX0_round_X0_readFilling : GoodIn wsX0_round (wsV RX0 124 RX0 yX0_readFilling wsX0_readFilling) := goodIn_app (goodIn_of _ (by decide +kernel)) ggX0_round_X0_readFilling
set_option maxRecDepth 20000 in
theorem ggX0_round_X0_turnDigits : GoodIn wsX0_round wsX0_turnDigits := goodIn_r _ [25, 9, 26, 27, 28, 29, 30, 3, 31, 18, 10, 32, 33, 34, 35, 36, 37, 38, 39, 19, 20, 21, 44, 45, 46, 47, 48, 49, 50, 51, 52, 53, 54, 55, 56] (by decide +kernel) (by decide +kernel)
set_option maxRecDepth 20000 in
theorem gX0_round_X0_turnDigits : GoodIn wsX0_round (wsV RX0 134 RX0 yX0_turnDigits wsX0_turnDigits) := goodIn_app (goodIn_of _ (by decide +kernel)) ggX0_round_X0_turnDigits
set_option maxRecDepth 20000 in
theorem ggX0_round_X0_numberOfDigits : GoodIn wsX0_round wsX0_numberOfDigits := goodIn_r _ [43, 9, 10, 44, 45, 46, 47, 48, 49, 50, 51, 52, 53, 54, 55, 56] (by decide +kernel) (by decide +kernel)
set_option maxRecDepth 20000 in
theorem gX0_round_X0_numberOfDigits : GoodIn wsX0_round (wsV RX0 131 RX0 yX0_numberOfDigits wsX0_numberOfDigits) := goodIn_app (goodIn_of _ (by decide +kernel)) ggX0_round_X0_numberOfDigits
theorem dX0_round_0 : decode cX0_round 0 = .ok (.iload_n 3, 1) := by decide +kernel
theorem dX0_round_1 : decode cX0_round 1 = .ok (.invokestatic 71, 3) := by decide +kernel
theorem dX0_round_4 : decode cX0_round 4 = .ok (.ifCond .eq 12, 3) := by decide +kernel
theorem dX0_round_7 : decode cX0_round 7 = .ok (.aload_n 0, 1) := by decide +kernel
theorem dX0_round_8 : decode cX0_round 8 = .ok (.iload_n 1, 1) := by decide +kernel
theorem dX0_round_9 : decode cX0_round 9 = .ok (.iload_n 2, 1) := by decide +kernel
theorem dX0_round_10 : decode cX0_round 10 = .ok (.invokevirtual 124, 3) := by decide +kernel
theorem dX0_round_13 : decode cX0_round 13 = .ok (.ifCond .ne 5, 3) := by decide +kernel
theorem dX0_round_16 : decode cX0_round 16 = .ok (.iconst (-1), 1) := by decide +kernel
theorem dX0_round_17 : decode cX0_round 17 = .ok (.ireturn, 1) := by decide +kernel
theorem dX0_round_18 : decode cX0_round 18 = .ok (.aload_n 0, 1) := by decide +kernel
theorem dX0_round_19 : decode cX0_round 19 = .ok (.iload_n 1, 1) := by decide +kernel
theorem dX0_round_20 : decode cX0_round 20 = .ok (.iload_n 3, 1) := by decide +kernel
theorem dX0_round_21 : decode cX0_round 21 = .ok (.invokevirtual 134, 3) := by decide +kernel
theorem dX0_round_24 : decode cX0_round 24 = .ok (.aload_n 0, 1) := by decide +kernel
theorem dX0_round_25 : decode cX0_round 25 = .ok (.iload_n 1, 1) := by decide +kernel
theorem dX0_round_26 : decode cX0_round 26 = .ok (.invokevirtual 131, 3) := by decide +kernel
theorem dX0_round_29 : decode cX0_round 29 = .ok (.ireturn, 1) := by decide +kernel
set_option maxRecDepth 20000 in
theorem ggX0_period_X0_isTurnKind : GoodIn wsX0_period wsX0_isTurnKind := goodIn_r _ [4] (by decide +kernel) (by decide +kernel)
set_option maxRecDepth 20000 in
theorem gX0_period_X0_isTurnKind : GoodIn wsX0_period (va_wsS RX0 71 yX0_isTurnKind wsX0_isTurnKind) := goodIn_app (goodIn_of _ (by decide +kernel)) ggX0_period_X0_isTurnKind
set_option maxRecDepth 20000 in
theorem ggX0_period_X0_readFilling : GoodIn wsX0_period wsX0_readFilling := goodIn_r _ [8, 9, 10, 11, 12, 3, 13, 14, 15, 16, 17, 18, 19, 20, 21, 44, 45, 46, 47, 48, 49, 50, 51, 52, 53, 54, 55, 56] (by decide +kernel) (by decide +kernel)
set_option maxRecDepth 20000 in
theorem gX0_period_X0_readFilling : GoodIn wsX0_period (wsV RX0 124 RX0 yX0_readFilling wsX0_readFilling) := goodIn_app (goodIn_of _ (by decide +kernel)) ggX0_period_X0_readFilling
set_option maxRecDepth 20000 in
theorem ggX0_period_X0_turnDigits : GoodIn wsX0_period wsX0_turnDigits := goodIn_r _ [25, 9, 26, 27, 28, 29, 30, 3, 31, 18, 10, 32, 33, 34, 35, 36, 37, 38, 39, 19, 20, 21, 44, 45, 46, 47, 48, 49, 50, 51, 52, 53, 54, 55, 56] (by decide +kernel) (by decide +kernel)
set_option maxRecDepth 20000 in
theorem gX0_period_X0_turnDigits : GoodIn wsX0_period (wsV RX0 134 RX0 yX0_turnDigits wsX0_turnDigits) := goodIn_app (goodIn_of _ (by decide +kernel)) ggX0_period_X0_turnDigits
set_option maxRecDepth 20000 in
theorem ggX0_period_X0_numberOfDigits : GoodIn wsX0_period wsX0_numberOfDigits := goodIn_r _ [43, 9, 10, 44, 45, 46, 47, 48, 49, 50, 51, 52, 53, 54, 55, 56] (by decide +kernel) (by decide +kernel)
set_option maxRecDepth 20000 in
theorem gX0_period_X0_numberOfDigits : GoodIn wsX0_period (wsV RX0 131 RX0 yX0_numberOfDigits wsX0_numberOfDigits) := goodIn_app (goodIn_of _ (by decide +kernel)) ggX0_period_X0_numberOfDigits
theorem dX0_period_0 : decode cX0_period 0 = .ok (.iload_n 3, 1) := by decide +kernel
theorem dX0_period_1 : decode cX0_period 1 = .ok (.invokestatic 71, 3) := by decide +kernel
theorem dX0_period_4 : decode cX0_period 4 = .ok (.ifCond .eq 12, 3) := by decide +kernel
theorem dX0_period_7 : decode cX0_period 7 = .ok (.aload_n 0, 1) := by decide +kernel
theorem dX0_period_8 : decode cX0_period 8 = .ok (.iload_n 1, 1) := by decide +kernel
theorem dX0_period_9 : decode cX0_period 9 = .ok (.iload_n 2, 1) := by decide +kernel
theorem dX0_period_10 : decode cX0_period 10 = .ok (.invokevirtual 124, 3) := by decide +kernel
theorem dX0_period_13 : decode cX0_period 13 = .ok (.ifCond .ne 5, 3) := by decide +kernel
theorem dX0_period_16 : decode cX0_period 16 = .ok (.iconst (-1), 1) := by decide +kernel
theorem dX0_period_17 : decode cX0_period 17 = .ok (.ireturn, 1) := by decide +kernel
theorem dX0_period_18 : decode cX0_period 18 = .ok (.iconst 1, 1) := by decide +kernel
theorem dX0_period_19 : decode cX0_period 19 = .ok (.istore 4, 2) := by decide +kernel
theorem dX0_period_21 : decode cX0_period 21 = .ok (.iload 4, 2) := by decide +kernel
theorem dX0_period_23 : decode cX0_period 23 = .ok (.sipush 1000, 3) := by decide +kernel
theorem dX0_period_26 : decode cX0_period 26 = .ok (.if_icmp .gt 27, 3) := by decide +kernel
theorem dX0_period_29 : decode cX0_period 29 = .ok (.aload_n 0, 1) := by decide +kernel
theorem dX0_period_30 : decode cX0_period 30 = .ok (.iload_n 1, 1) := by decide +kernel
theorem dX0_period_31 : decode cX0_period 31 = .ok (.iload_n 3, 1) := by decide +kernel
theorem dX0_period_32 : decode cX0_period 32 = .ok (.invokevirtual 134, 3) := by decide +kernel
theorem dX0_period_35 : decode cX0_period 35 = .ok (.aload_n 0, 1) := by decide +kernel
theorem dX0_period_36 : decode cX0_period 36 = .ok (.iload_n 1, 1) := by decide +kernel
theorem dX0_period_37 : decode cX0_period 37 = .ok (.invokevirtual 131, 3) := by decide +kernel
theorem dX0_period_40 : decode cX0_period 40 = .ok (.iload_n 2, 1) := by decide +kernel
theorem dX0_period_41 : decode cX0_period 41 = .ok (.if_icmp .ne 6, 3) := by decide +kernel
theorem dX0_period_44 : decode cX0_period 44 = .ok (.iload 4, 2) := by decide +kernel
theorem dX0_period_46 : decode cX0_period 46 = .ok (.ireturn, 1) := by decide +kernel
theorem dX0_period_47 : decode cX0_period 47 = .ok (.iinc 4 1, 3) := by decide +kernel
theorem dX0_period_50 : decode cX0_period 50 = .ok (.goto (-29), 3) := by decide +kernel
theorem dX0_period_53 : decode cX0_period 53 = .ok (.bipush (-9), 2) := by decide +kernel
theorem dX0_period_55 : decode cX0_period 55 = .ok (.ireturn, 1) := by decide +kernel
set_option maxRecDepth 20000 in
theorem ggX0_counts_X0_countSizes : GoodIn wsX0_counts wsX0_countSizes := goodIn_r _ [7, 1, 2, 8, 9, 10, 6, 11, 12, 13, 14, 15, 16, 17, 18, 19, 20, 21, 22, 23, 24, 25, 26, 27, 28, 29, 30, 31, 32, 33, 34, 35, 36, 37, 38, 39, 40, 41, 42, 43] (by decide +kernel) (by decide +kernel)
set_option maxRecDepth 20000 in
theorem gX0_counts_X0_countSizes : GoodIn wsX0_counts (wsV RX0 137 RX0 yX0_countSizes wsX0_countSizes) := goodIn_app (goodIn_of _ (by decide +kernel)) ggX0_counts_X0_countSizes
theorem dX0_counts_0 : decode cX0_counts 0 = .ok (.iload_n 1, 1) := by decide +kernel
theorem dX0_counts_1 : decode cX0_counts 1 = .ok (.ifCond .lt 11, 3) := by decide +kernel
theorem dX0_counts_4 : decode cX0_counts 4 = .ok (.iload_n 1, 1) := by decide +kernel
theorem dX0_counts_5 : decode cX0_counts 5 = .ok (.aload_n 0, 1) := by decide +kernel
theorem dX0_counts_6 : decode cX0_counts 6 = .ok (.getfield 9, 3) := by decide +kernel
theorem dX0_counts_9 : decode cX0_counts 9 = .ok (.if_icmp .le 5, 3) := by decide +kernel
theorem dX0_counts_12 : decode cX0_counts 12 = .ok (.iconst (-1), 1) := by decide +kernel
theorem dX0_counts_13 : decode cX0_counts 13 = .ok (.ireturn, 1) := by decide +kernel
theorem dX0_counts_14 : decode cX0_counts 14 = .ok (.aload_n 0, 1) := by decide +kernel
theorem dX0_counts_15 : decode cX0_counts 15 = .ok (.invokevirtual 137, 3) := by decide +kernel
theorem dX0_counts_18 : decode cX0_counts 18 = .ok (.aload_n 0, 1) := by decide +kernel
theorem dX0_counts_19 : decode cX0_counts 19 = .ok (.getfield 29, 3) := by decide +kernel
theorem dX0_counts_22 : decode cX0_counts 22 = .ok (.iload_n 1, 1) := by decide +kernel
theorem dX0_counts_23 : decode cX0_counts 23 = .ok (.iaload, 1) := by decide +kernel
theorem dX0_counts_24 : decode cX0_counts 24 = .ok (.ireturn, 1) := by decide +kernel
set_option maxRecDepth 20000 in
theorem ggX0_at_X0_sumAtRoot : GoodIn wsX0_at wsX0_sumAtRoot := goodIn_r _ [6, 7, 8, 9, 10, 11, 12, 5, 13, 14, 15, 16, 17, 18, 19, 20, 21, 22, 23, 24, 25, 26, 27, 28, 29, 30, 31, 32, 33, 34, 35, 36, 37, 38, 39, 40, 41, 42, 43, 44, 45, 46, 47, 48, 49] (by decide +kernel) (by decide +kernel)
set_option maxRecDepth 20000 in
theorem gX0_at_X0_sumAtRoot : GoodIn wsX0_at (wsV RX0 140 RX0 yX0_sumAtRoot wsX0_sumAtRoot) := goodIn_app (goodIn_of _ (by decide +kernel)) ggX0_at_X0_sumAtRoot
theorem dX0_at_0 : decode cX0_at 0 = .ok (.iload_n 1, 1) := by decide +kernel
theorem dX0_at_1 : decode cX0_at 1 = .ok (.tableswitch 75 1 6 #[39, 46, 54, 61, 75, 68], 39) := by decide +kernel
theorem dX0_at_40 : decode cX0_at 40 = .ok (.aload_n 0, 1) := by decide +kernel
theorem dX0_at_41 : decode cX0_at 41 = .ok (.iload_n 1, 1) := by decide +kernel
theorem dX0_at_42 : decode cX0_at 42 = .ok (.iconst 2, 1) := by decide +kernel
theorem dX0_at_43 : decode cX0_at 43 = .ok (.invokevirtual 140, 3) := by decide +kernel
theorem dX0_at_46 : decode cX0_at 46 = .ok (.ireturn, 1) := by decide +kernel
theorem dX0_at_47 : decode cX0_at 47 = .ok (.aload_n 0, 1) := by decide +kernel
theorem dX0_at_48 : decode cX0_at 48 = .ok (.iload_n 1, 1) := by decide +kernel
theorem dX0_at_49 : decode cX0_at 49 = .ok (.bipush (-2), 2) := by decide +kernel
theorem dX0_at_51 : decode cX0_at 51 = .ok (.invokevirtual 140, 3) := by decide +kernel
theorem dX0_at_54 : decode cX0_at 54 = .ok (.ireturn, 1) := by decide +kernel
theorem dX0_at_55 : decode cX0_at 55 = .ok (.aload_n 0, 1) := by decide +kernel
theorem dX0_at_56 : decode cX0_at 56 = .ok (.iload_n 1, 1) := by decide +kernel
theorem dX0_at_57 : decode cX0_at 57 = .ok (.iconst (-1), 1) := by decide +kernel
theorem dX0_at_58 : decode cX0_at 58 = .ok (.invokevirtual 140, 3) := by decide +kernel
theorem dX0_at_61 : decode cX0_at 61 = .ok (.ireturn, 1) := by decide +kernel
theorem dX0_at_62 : decode cX0_at 62 = .ok (.aload_n 0, 1) := by decide +kernel
theorem dX0_at_63 : decode cX0_at 63 = .ok (.iload_n 1, 1) := by decide +kernel
theorem dX0_at_64 : decode cX0_at 64 = .ok (.iconst 0, 1) := by decide +kernel
theorem dX0_at_65 : decode cX0_at 65 = .ok (.invokevirtual 140, 3) := by decide +kernel
theorem dX0_at_68 : decode cX0_at 68 = .ok (.ireturn, 1) := by decide +kernel
theorem dX0_at_69 : decode cX0_at 69 = .ok (.aload_n 0, 1) := by decide +kernel
theorem dX0_at_70 : decode cX0_at 70 = .ok (.iload_n 1, 1) := by decide +kernel
theorem dX0_at_71 : decode cX0_at 71 = .ok (.iconst 1, 1) := by decide +kernel
theorem dX0_at_72 : decode cX0_at 72 = .ok (.invokevirtual 140, 3) := by decide +kernel
theorem dX0_at_75 : decode cX0_at 75 = .ok (.ireturn, 1) := by decide +kernel
theorem dX0_at_76 : decode cX0_at 76 = .ok (.ldc 143, 2) := by decide +kernel
theorem dX0_at_78 : decode cX0_at 78 = .ok (.ireturn, 1) := by decide +kernel
set_option maxRecDepth 20000 in
theorem ggX0_stays_X0_isTurnKind : GoodIn wsX0_stays wsX0_isTurnKind := goodIn_r _ [5] (by decide +kernel) (by decide +kernel)
set_option maxRecDepth 20000 in
theorem gX0_stays_X0_isTurnKind : GoodIn wsX0_stays (va_wsS RX0 71 yX0_isTurnKind wsX0_isTurnKind) := goodIn_app (goodIn_of _ (by decide +kernel)) ggX0_stays_X0_isTurnKind
set_option maxRecDepth 20000 in
theorem ggX0_stays_X0_isTurnNumber : GoodIn wsX0_stays wsX0_isTurnNumber := goodIn_r _ [8] (by decide +kernel) (by decide +kernel)
set_option maxRecDepth 20000 in
theorem gX0_stays_X0_isTurnNumber : GoodIn wsX0_stays (va_wsS RX0 74 yX0_isTurnNumber wsX0_isTurnNumber) := goodIn_app (goodIn_of _ (by decide +kernel)) ggX0_stays_X0_isTurnNumber
set_option maxRecDepth 20000 in
theorem ggX0_stays_X0_findOrbits : GoodIn wsX0_stays wsX0_findOrbits := goodIn_r _ [12, 13, 14, 1, 15, 16, 17, 4, 18, 19, 20, 21, 22, 23, 24, 25, 26, 27, 28, 29, 30, 31, 32, 33, 34, 35, 36, 37, 38, 39, 40, 41, 42, 43, 44, 45, 46, 47, 48, 49, 50, 51, 52, 53, 54, 55, 56, 57, 58, 59, 60, 61, 62, 63, 64, 65, 66, 67] (by decide +kernel) (by decide +kernel)
set_option maxRecDepth 20000 in
theorem gX0_stays_X0_findOrbits : GoodIn wsX0_stays (wsV RX0 83 RX0 yX0_findOrbits wsX0_findOrbits) := goodIn_app (goodIn_of _ (by decide +kernel)) ggX0_stays_X0_findOrbits
theorem dX0_stays_0 : decode cX0_stays 0 = .ok (.iload_n 1, 1) := by decide +kernel
theorem dX0_stays_1 : decode cX0_stays 1 = .ok (.invokestatic 71, 3) := by decide +kernel
theorem dX0_stays_4 : decode cX0_stays 4 = .ok (.ifCond .eq 10, 3) := by decide +kernel
theorem dX0_stays_7 : decode cX0_stays 7 = .ok (.iload_n 2, 1) := by decide +kernel
theorem dX0_stays_8 : decode cX0_stays 8 = .ok (.invokestatic 74, 3) := by decide +kernel
theorem dX0_stays_11 : decode cX0_stays 11 = .ok (.ifCond .ne 5, 3) := by decide +kernel
theorem dX0_stays_14 : decode cX0_stays 14 = .ok (.iconst (-1), 1) := by decide +kernel
theorem dX0_stays_15 : decode cX0_stays 15 = .ok (.ireturn, 1) := by decide +kernel
theorem dX0_stays_16 : decode cX0_stays 16 = .ok (.aload_n 0, 1) := by decide +kernel
theorem dX0_stays_17 : decode cX0_stays 17 = .ok (.iload_n 1, 1) := by decide +kernel
theorem dX0_stays_18 : decode cX0_stays 18 = .ok (.invokevirtual 83, 3) := by decide +kernel
theorem dX0_stays_21 : decode cX0_stays 21 = .ok (.istore_n 3, 1) := by decide +kernel
theorem dX0_stays_22 : decode cX0_stays 22 = .ok (.iconst 0, 1) := by decide +kernel
theorem dX0_stays_23 : decode cX0_stays 23 = .ok (.istore 4, 2) := by decide +kernel
theorem dX0_stays_25 : decode cX0_stays 25 = .ok (.iconst 0, 1) := by decide +kernel
theorem dX0_stays_26 : decode cX0_stays 26 = .ok (.istore 5, 2) := by decide +kernel
theorem dX0_stays_28 : decode cX0_stays 28 = .ok (.iload 5, 2) := by decide +kernel
theorem dX0_stays_30 : decode cX0_stays 30 = .ok (.iload_n 3, 1) := by decide +kernel
theorem dX0_stays_31 : decode cX0_stays 31 = .ok (.if_icmp .ge 37, 3) := by decide +kernel
theorem dX0_stays_34 : decode cX0_stays 34 = .ok (.aload_n 0, 1) := by decide +kernel
theorem dX0_stays_35 : decode cX0_stays 35 = .ok (.getfield 38, 3) := by decide +kernel
theorem dX0_stays_38 : decode cX0_stays 38 = .ok (.iload 5, 2) := by decide +kernel
theorem dX0_stays_40 : decode cX0_stays 40 = .ok (.iaload, 1) := by decide +kernel
theorem dX0_stays_41 : decode cX0_stays 41 = .ok (.istore 6, 2) := by decide +kernel
theorem dX0_stays_43 : decode cX0_stays 43 = .ok (.iload 6, 2) := by decide +kernel
theorem dX0_stays_45 : decode cX0_stays 45 = .ok (.ifCond .le 17, 3) := by decide +kernel
theorem dX0_stays_48 : decode cX0_stays 48 = .ok (.iload_n 2, 1) := by decide +kernel
theorem dX0_stays_49 : decode cX0_stays 49 = .ok (.iload 6, 2) := by decide +kernel
theorem dX0_stays_51 : decode cX0_stays 51 = .ok (.irem, 1) := by decide +kernel
theorem dX0_stays_52 : decode cX0_stays 52 = .ok (.ifCond .ne 10, 3) := by decide +kernel
theorem dX0_stays_55 : decode cX0_stays 55 = .ok (.iload 4, 2) := by decide +kernel
theorem dX0_stays_57 : decode cX0_stays 57 = .ok (.iload 6, 2) := by decide +kernel
theorem dX0_stays_59 : decode cX0_stays 59 = .ok (.iadd, 1) := by decide +kernel
theorem dX0_stays_60 : decode cX0_stays 60 = .ok (.istore 4, 2) := by decide +kernel
theorem dX0_stays_62 : decode cX0_stays 62 = .ok (.iinc 5 1, 3) := by decide +kernel
theorem dX0_stays_65 : decode cX0_stays 65 = .ok (.goto (-37), 3) := by decide +kernel
theorem dX0_stays_68 : decode cX0_stays 68 = .ok (.iload 4, 2) := by decide +kernel
theorem dX0_stays_70 : decode cX0_stays 70 = .ok (.ireturn, 1) := by decide +kernel
set_option maxRecDepth 20000 in
theorem ggX0_count_X0_pairCount : GoodIn wsX0_count wsX0_pairCount := goodIn_r _ [7, 1, 8, 9, 10, 11, 12, 13, 14, 15, 16, 17, 18, 19, 20, 21, 22, 23, 24, 25, 26, 27, 28] (by decide +kernel) (by decide +kernel)
set_option maxRecDepth 20000 in
theorem gX0_count_X0_pairCount : GoodIn wsX0_count (wsV RX0 144 RX0 yX0_pairCount wsX0_pairCount) := goodIn_app (goodIn_of _ (by decide +kernel)) ggX0_count_X0_pairCount
theorem dX0_count_0 : decode cX0_count 0 = .ok (.iload_n 1, 1) := by decide +kernel
theorem dX0_count_1 : decode cX0_count 1 = .ok (.tableswitch 42 0 2 #[27, 32, 37], 27) := by decide +kernel
theorem dX0_count_28 : decode cX0_count 28 = .ok (.aload_n 0, 1) := by decide +kernel
theorem dX0_count_29 : decode cX0_count 29 = .ok (.getfield 9, 3) := by decide +kernel
theorem dX0_count_32 : decode cX0_count 32 = .ok (.ireturn, 1) := by decide +kernel
theorem dX0_count_33 : decode cX0_count 33 = .ok (.aload_n 0, 1) := by decide +kernel
theorem dX0_count_34 : decode cX0_count 34 = .ok (.getfield 45, 3) := by decide +kernel
theorem dX0_count_37 : decode cX0_count 37 = .ok (.ireturn, 1) := by decide +kernel
theorem dX0_count_38 : decode cX0_count 38 = .ok (.aload_n 0, 1) := by decide +kernel
theorem dX0_count_39 : decode cX0_count 39 = .ok (.invokevirtual 144, 3) := by decide +kernel
theorem dX0_count_42 : decode cX0_count 42 = .ok (.ireturn, 1) := by decide +kernel
theorem dX0_count_43 : decode cX0_count 43 = .ok (.iconst (-1), 1) := by decide +kernel
theorem dX0_count_44 : decode cX0_count 44 = .ok (.ireturn, 1) := by decide +kernel
theorem dX0_trace_0 : decode cX0_trace 0 = .ok (.aload_n 0, 1) := by decide +kernel
theorem dX0_trace_1 : decode cX0_trace 1 = .ok (.getfield 96, 3) := by decide +kernel
theorem dX0_trace_4 : decode cX0_trace 4 = .ok (.lreturn, 1) := by decide +kernel
theorem dX0_isThing_0 : decode cX0_isThing 0 = .ok (.iload_n 1, 1) := by decide +kernel
theorem dX0_isThing_1 : decode cX0_isThing 1 = .ok (.ifCond .lt 15, 3) := by decide +kernel
theorem dX0_isThing_4 : decode cX0_isThing 4 = .ok (.iload_n 1, 1) := by decide +kernel
theorem dX0_isThing_5 : decode cX0_isThing 5 = .ok (.aload_n 0, 1) := by decide +kernel
theorem dX0_isThing_6 : decode cX0_isThing 6 = .ok (.getfield 9, 3) := by decide +kernel
theorem dX0_isThing_9 : decode cX0_isThing 9 = .ok (.if_icmp .ge 7, 3) := by decide +kernel
theorem dX0_isThing_12 : decode cX0_isThing 12 = .ok (.iconst 1, 1) := by decide +kernel
theorem dX0_isThing_13 : decode cX0_isThing 13 = .ok (.goto 4, 3) := by decide +kernel
theorem dX0_isThing_16 : decode cX0_isThing 16 = .ok (.iconst 0, 1) := by decide +kernel
theorem dX0_isThing_17 : decode cX0_isThing 17 = .ok (.ireturn, 1) := by decide +kernel
set_option maxRecDepth 20000 in
theorem ggX0_isSet_X0_setCount : GoodIn wsX0_isSet wsX0_setCount := goodIn_r _ [5, 6, 7, 8, 9, 10, 11, 12, 13, 14, 15, 16, 17, 18, 19] (by decide +kernel) (by decide +kernel)
set_option maxRecDepth 20000 in
theorem gX0_isSet_X0_setCount : GoodIn wsX0_isSet (wsV RX0 63 RX0 yX0_setCount wsX0_setCount) := goodIn_app (goodIn_of _ (by decide +kernel)) ggX0_isSet_X0_setCount
theorem dX0_isSet_0 : decode cX0_isSet 0 = .ok (.iload_n 1, 1) := by decide +kernel
theorem dX0_isSet_1 : decode cX0_isSet 1 = .ok (.ifCond .lt 15, 3) := by decide +kernel
theorem dX0_isSet_4 : decode cX0_isSet 4 = .ok (.iload_n 1, 1) := by decide +kernel
theorem dX0_isSet_5 : decode cX0_isSet 5 = .ok (.aload_n 0, 1) := by decide +kernel
theorem dX0_isSet_6 : decode cX0_isSet 6 = .ok (.invokevirtual 63, 3) := by decide +kernel
theorem dX0_isSet_9 : decode cX0_isSet 9 = .ok (.if_icmp .ge 7, 3) := by decide +kernel
theorem dX0_isSet_12 : decode cX0_isSet 12 = .ok (.iconst 1, 1) := by decide +kernel
theorem dX0_isSet_13 : decode cX0_isSet 13 = .ok (.goto 4, 3) := by decide +kernel
theorem dX0_isSet_16 : decode cX0_isSet 16 = .ok (.iconst 0, 1) := by decide +kernel
theorem dX0_isSet_17 : decode cX0_isSet 17 = .ok (.ireturn, 1) := by decide +kernel
theorem dX0_isTurnKind_0 : decode cX0_isTurnKind 0 = .ok (.iload_n 0, 1) := by decide +kernel
theorem dX0_isTurnKind_1 : decode cX0_isTurnKind 1 = .ok (.ifCond .eq 8, 3) := by decide +kernel
theorem dX0_isTurnKind_4 : decode cX0_isTurnKind 4 = .ok (.iload_n 0, 1) := by decide +kernel
theorem dX0_isTurnKind_5 : decode cX0_isTurnKind 5 = .ok (.iconst 1, 1) := by decide +kernel
theorem dX0_isTurnKind_6 : decode cX0_isTurnKind 6 = .ok (.if_icmp .ne 7, 3) := by decide +kernel
theorem dX0_isTurnKind_9 : decode cX0_isTurnKind 9 = .ok (.iconst 1, 1) := by decide +kernel
theorem dX0_isTurnKind_10 : decode cX0_isTurnKind 10 = .ok (.goto 4, 3) := by decide +kernel
theorem dX0_isTurnKind_13 : decode cX0_isTurnKind 13 = .ok (.iconst 0, 1) := by decide +kernel
theorem dX0_isTurnKind_14 : decode cX0_isTurnKind 14 = .ok (.ireturn, 1) := by decide +kernel
theorem dX0_isMeasureKind_0 : decode cX0_isMeasureKind 0 = .ok (.iload_n 0, 1) := by decide +kernel
theorem dX0_isMeasureKind_1 : decode cX0_isMeasureKind 1 = .ok (.ifCond .lt 12, 3) := by decide +kernel
theorem dX0_isMeasureKind_4 : decode cX0_isMeasureKind 4 = .ok (.iload_n 0, 1) := by decide +kernel
theorem dX0_isMeasureKind_5 : decode cX0_isMeasureKind 5 = .ok (.iconst 2, 1) := by decide +kernel
theorem dX0_isMeasureKind_6 : decode cX0_isMeasureKind 6 = .ok (.if_icmp .gt 7, 3) := by decide +kernel
theorem dX0_isMeasureKind_9 : decode cX0_isMeasureKind 9 = .ok (.iconst 1, 1) := by decide +kernel
theorem dX0_isMeasureKind_10 : decode cX0_isMeasureKind 10 = .ok (.goto 4, 3) := by decide +kernel
theorem dX0_isMeasureKind_13 : decode cX0_isMeasureKind 13 = .ok (.iconst 0, 1) := by decide +kernel
theorem dX0_isMeasureKind_14 : decode cX0_isMeasureKind 14 = .ok (.ireturn, 1) := by decide +kernel
theorem dX0_isTurnNumber_0 : decode cX0_isTurnNumber 0 = .ok (.iload_n 0, 1) := by decide +kernel
theorem dX0_isTurnNumber_1 : decode cX0_isTurnNumber 1 = .ok (.ifCond .lt 14, 3) := by decide +kernel
theorem dX0_isTurnNumber_4 : decode cX0_isTurnNumber 4 = .ok (.iload_n 0, 1) := by decide +kernel
theorem dX0_isTurnNumber_5 : decode cX0_isTurnNumber 5 = .ok (.sipush 1000, 3) := by decide +kernel
theorem dX0_isTurnNumber_8 : decode cX0_isTurnNumber 8 = .ok (.if_icmp .gt 7, 3) := by decide +kernel
theorem dX0_isTurnNumber_11 : decode cX0_isTurnNumber 11 = .ok (.iconst 1, 1) := by decide +kernel
theorem dX0_isTurnNumber_12 : decode cX0_isTurnNumber 12 = .ok (.goto 4, 3) := by decide +kernel
theorem dX0_isTurnNumber_15 : decode cX0_isTurnNumber 15 = .ok (.iconst 0, 1) := by decide +kernel
theorem dX0_isTurnNumber_16 : decode cX0_isTurnNumber 16 = .ok (.ireturn, 1) := by decide +kernel
theorem dX0_isHeight_0 : decode cX0_isHeight 0 = .ok (.iload_n 0, 1) := by decide +kernel
theorem dX0_isHeight_1 : decode cX0_isHeight 1 = .ok (.iconst 1, 1) := by decide +kernel
theorem dX0_isHeight_2 : decode cX0_isHeight 2 = .ok (.if_icmp .lt 12, 3) := by decide +kernel
theorem dX0_isHeight_5 : decode cX0_isHeight 5 = .ok (.iload_n 0, 1) := by decide +kernel
theorem dX0_isHeight_6 : decode cX0_isHeight 6 = .ok (.iconst 3, 1) := by decide +kernel
theorem dX0_isHeight_7 : decode cX0_isHeight 7 = .ok (.if_icmp .gt 7, 3) := by decide +kernel
theorem dX0_isHeight_10 : decode cX0_isHeight 10 = .ok (.iconst 1, 1) := by decide +kernel
theorem dX0_isHeight_11 : decode cX0_isHeight 11 = .ok (.goto 4, 3) := by decide +kernel
theorem dX0_isHeight_14 : decode cX0_isHeight 14 = .ok (.iconst 0, 1) := by decide +kernel
theorem dX0_isHeight_15 : decode cX0_isHeight 15 = .ok (.ireturn, 1) := by decide +kernel
theorem dX0_setCount_0 : decode cX0_setCount 0 = .ok (.iconst 1, 1) := by decide +kernel
theorem dX0_setCount_1 : decode cX0_setCount 1 = .ok (.aload_n 0, 1) := by decide +kernel
theorem dX0_setCount_2 : decode cX0_setCount 2 = .ok (.getfield 9, 3) := by decide +kernel
theorem dX0_setCount_5 : decode cX0_setCount 5 = .ok (.ishl, 1) := by decide +kernel
theorem dX0_setCount_6 : decode cX0_setCount 6 = .ok (.ireturn, 1) := by decide +kernel
theorem dX0_has_0 : decode cX0_has 0 = .ok (.iload_n 0, 1) := by decide +kernel
theorem dX0_has_1 : decode cX0_has 1 = .ok (.iload_n 1, 1) := by decide +kernel
theorem dX0_has_2 : decode cX0_has 2 = .ok (.ishr, 1) := by decide +kernel
theorem dX0_has_3 : decode cX0_has 3 = .ok (.iconst 1, 1) := by decide +kernel
theorem dX0_has_4 : decode cX0_has 4 = .ok (.iand, 1) := by decide +kernel
theorem dX0_has_5 : decode cX0_has 5 = .ok (.ifCond .eq 7, 3) := by decide +kernel
theorem dX0_has_8 : decode cX0_has 8 = .ok (.iconst 1, 1) := by decide +kernel
theorem dX0_has_9 : decode cX0_has 9 = .ok (.goto 4, 3) := by decide +kernel
theorem dX0_has_12 : decode cX0_has 12 = .ok (.iconst 0, 1) := by decide +kernel
theorem dX0_has_13 : decode cX0_has 13 = .ok (.ireturn, 1) := by decide +kernel
set_option maxRecDepth 20000 in
theorem ggX0_isHeap_X0_isSet : GoodIn wsX0_isHeap wsX0_isSet := goodIn_r _ [7, 8, 9, 10, 6, 11, 1, 15, 16, 17, 18, 19, 20, 21, 22, 23, 24, 25, 26, 27] (by decide +kernel) (by decide +kernel)
set_option maxRecDepth 20000 in
theorem gX0_isHeap_X0_isSet : GoodIn wsX0_isHeap (wsV RX0 57 RX0 yX0_isSet wsX0_isSet) := goodIn_app (goodIn_of _ (by decide +kernel)) ggX0_isHeap_X0_isSet
set_option maxRecDepth 20000 in
theorem ggX0_isHeap_X0_has : GoodIn wsX0_isHeap wsX0_has := goodIn_r _ [14] (by decide +kernel) (by decide +kernel)
set_option maxRecDepth 20000 in
theorem gX0_isHeap_X0_has : GoodIn wsX0_isHeap (va_wsS RX0 52 yX0_has wsX0_has) := goodIn_app (goodIn_of _ (by decide +kernel)) ggX0_isHeap_X0_has
theorem dX0_isHeap_0 : decode cX0_isHeap 0 = .ok (.aload_n 0, 1) := by decide +kernel
theorem dX0_isHeap_1 : decode cX0_isHeap 1 = .ok (.iload_n 1, 1) := by decide +kernel
theorem dX0_isHeap_2 : decode cX0_isHeap 2 = .ok (.invokevirtual 57, 3) := by decide +kernel
theorem dX0_isHeap_5 : decode cX0_isHeap 5 = .ok (.ifCond .ne 5, 3) := by decide +kernel
theorem dX0_isHeap_8 : decode cX0_isHeap 8 = .ok (.iconst 0, 1) := by decide +kernel
theorem dX0_isHeap_9 : decode cX0_isHeap 9 = .ok (.ireturn, 1) := by decide +kernel
theorem dX0_isHeap_10 : decode cX0_isHeap 10 = .ok (.iconst 0, 1) := by decide +kernel
theorem dX0_isHeap_11 : decode cX0_isHeap 11 = .ok (.istore_n 2, 1) := by decide +kernel
theorem dX0_isHeap_12 : decode cX0_isHeap 12 = .ok (.iload_n 2, 1) := by decide +kernel
theorem dX0_isHeap_13 : decode cX0_isHeap 13 = .ok (.aload_n 0, 1) := by decide +kernel
theorem dX0_isHeap_14 : decode cX0_isHeap 14 = .ok (.getfield 9, 3) := by decide +kernel
theorem dX0_isHeap_17 : decode cX0_isHeap 17 = .ok (.if_icmp .ge 32, 3) := by decide +kernel
theorem dX0_isHeap_20 : decode cX0_isHeap 20 = .ok (.iload_n 1, 1) := by decide +kernel
theorem dX0_isHeap_21 : decode cX0_isHeap 21 = .ok (.iload_n 2, 1) := by decide +kernel
theorem dX0_isHeap_22 : decode cX0_isHeap 22 = .ok (.invokestatic 52, 3) := by decide +kernel
theorem dX0_isHeap_25 : decode cX0_isHeap 25 = .ok (.ifCond .eq 18, 3) := by decide +kernel
theorem dX0_isHeap_28 : decode cX0_isHeap 28 = .ok (.aload_n 0, 1) := by decide +kernel
theorem dX0_isHeap_29 : decode cX0_isHeap 29 = .ok (.getfield 13, 3) := by decide +kernel
theorem dX0_isHeap_32 : decode cX0_isHeap 32 = .ok (.iload_n 2, 1) := by decide +kernel
theorem dX0_isHeap_33 : decode cX0_isHeap 33 = .ok (.iaload, 1) := by decide +kernel
theorem dX0_isHeap_34 : decode cX0_isHeap 34 = .ok (.iload_n 1, 1) := by decide +kernel
theorem dX0_isHeap_35 : decode cX0_isHeap 35 = .ok (.iconst (-1), 1) := by decide +kernel
theorem dX0_isHeap_36 : decode cX0_isHeap 36 = .ok (.ixor, 1) := by decide +kernel
theorem dX0_isHeap_37 : decode cX0_isHeap 37 = .ok (.iand, 1) := by decide +kernel
theorem dX0_isHeap_38 : decode cX0_isHeap 38 = .ok (.ifCond .eq 5, 3) := by decide +kernel
theorem dX0_isHeap_41 : decode cX0_isHeap 41 = .ok (.iconst 0, 1) := by decide +kernel
theorem dX0_isHeap_42 : decode cX0_isHeap 42 = .ok (.ireturn, 1) := by decide +kernel
theorem dX0_isHeap_43 : decode cX0_isHeap 43 = .ok (.iinc 2 1, 3) := by decide +kernel
theorem dX0_isHeap_46 : decode cX0_isHeap 46 = .ok (.goto (-34), 3) := by decide +kernel
theorem dX0_isHeap_49 : decode cX0_isHeap 49 = .ok (.iconst 1, 1) := by decide +kernel
theorem dX0_isHeap_50 : decode cX0_isHeap 50 = .ok (.ireturn, 1) := by decide +kernel
set_option maxRecDepth 20000 in
theorem ggX0_flipped_X0_has : GoodIn wsX0_flipped wsX0_has := goodIn_r _ [6] (by decide +kernel) (by decide +kernel)
set_option maxRecDepth 20000 in
theorem gX0_flipped_X0_has : GoodIn wsX0_flipped (va_wsS RX0 52 yX0_has wsX0_has) := goodIn_app (goodIn_of _ (by decide +kernel)) ggX0_flipped_X0_has
theorem dX0_flipped_0 : decode cX0_flipped 0 = .ok (.iload_n 1, 1) := by decide +kernel
theorem dX0_flipped_1 : decode cX0_flipped 1 = .ok (.iload_n 2, 1) := by decide +kernel
theorem dX0_flipped_2 : decode cX0_flipped 2 = .ok (.invokestatic 52, 3) := by decide +kernel
theorem dX0_flipped_5 : decode cX0_flipped 5 = .ok (.ifCond .eq 14, 3) := by decide +kernel
theorem dX0_flipped_8 : decode cX0_flipped 8 = .ok (.aload_n 0, 1) := by decide +kernel
theorem dX0_flipped_9 : decode cX0_flipped 9 = .ok (.getfield 17, 3) := by decide +kernel
theorem dX0_flipped_12 : decode cX0_flipped 12 = .ok (.iload_n 2, 1) := by decide +kernel
theorem dX0_flipped_13 : decode cX0_flipped 13 = .ok (.iaload, 1) := by decide +kernel
theorem dX0_flipped_14 : decode cX0_flipped 14 = .ok (.iload_n 1, 1) := by decide +kernel
theorem dX0_flipped_15 : decode cX0_flipped 15 = .ok (.iand, 1) := by decide +kernel
theorem dX0_flipped_16 : decode cX0_flipped 16 = .ok (.goto 13, 3) := by decide +kernel
theorem dX0_flipped_19 : decode cX0_flipped 19 = .ok (.aload_n 0, 1) := by decide +kernel
theorem dX0_flipped_20 : decode cX0_flipped 20 = .ok (.getfield 13, 3) := by decide +kernel
theorem dX0_flipped_23 : decode cX0_flipped 23 = .ok (.iload_n 2, 1) := by decide +kernel
theorem dX0_flipped_24 : decode cX0_flipped 24 = .ok (.iaload, 1) := by decide +kernel
theorem dX0_flipped_25 : decode cX0_flipped 25 = .ok (.iload_n 1, 1) := by decide +kernel
theorem dX0_flipped_26 : decode cX0_flipped 26 = .ok (.iconst (-1), 1) := by decide +kernel
theorem dX0_flipped_27 : decode cX0_flipped 27 = .ok (.ixor, 1) := by decide +kernel
theorem dX0_flipped_28 : decode cX0_flipped 28 = .ok (.iand, 1) := by decide +kernel
theorem dX0_flipped_29 : decode cX0_flipped 29 = .ok (.istore_n 3, 1) := by decide +kernel
theorem dX0_flipped_30 : decode cX0_flipped 30 = .ok (.iload_n 3, 1) := by decide +kernel
theorem dX0_flipped_31 : decode cX0_flipped 31 = .ok (.ifCond .ne 11, 3) := by decide +kernel
theorem dX0_flipped_34 : decode cX0_flipped 34 = .ok (.iload_n 1, 1) := by decide +kernel
theorem dX0_flipped_35 : decode cX0_flipped 35 = .ok (.iconst 1, 1) := by decide +kernel
theorem dX0_flipped_36 : decode cX0_flipped 36 = .ok (.iload_n 2, 1) := by decide +kernel
theorem dX0_flipped_37 : decode cX0_flipped 37 = .ok (.ishl, 1) := by decide +kernel
theorem dX0_flipped_38 : decode cX0_flipped 38 = .ok (.ixor, 1) := by decide +kernel
theorem dX0_flipped_39 : decode cX0_flipped 39 = .ok (.goto 4, 3) := by decide +kernel
theorem dX0_flipped_42 : decode cX0_flipped 42 = .ok (.iload_n 1, 1) := by decide +kernel
theorem dX0_flipped_43 : decode cX0_flipped 43 = .ok (.ireturn, 1) := by decide +kernel
set_option maxRecDepth 20000 in
theorem ggX0_turned_X0_turnedRound : GoodIn wsX0_turned wsX0_turnedRound := goodIn_r _ [5, 6, 7, 8, 9, 4, 10, 22, 23, 24, 25, 26, 27, 28, 29, 30, 31, 32, 33, 34] (by decide +kernel) (by decide +kernel)
set_option maxRecDepth 20000 in
theorem gX0_turned_X0_turnedRound : GoodIn wsX0_turned (wsV RX0 147 RX0 yX0_turnedRound wsX0_turnedRound) := goodIn_app (goodIn_of _ (by decide +kernel)) ggX0_turned_X0_turnedRound
set_option maxRecDepth 20000 in
theorem ggX0_turned_X0_turnedByChain : GoodIn wsX0_turned wsX0_turnedByChain := goodIn_r _ [14, 15, 16, 17, 18, 19, 4, 20, 21, 7, 8, 9, 10, 22, 23, 24, 25, 26, 27, 28, 29, 30, 31, 32, 33, 34] (by decide +kernel) (by decide +kernel)
set_option maxRecDepth 20000 in
theorem gX0_turned_X0_turnedByChain : GoodIn wsX0_turned (wsV RX0 150 RX0 yX0_turnedByChain wsX0_turnedByChain) := goodIn_app (goodIn_of _ (by decide +kernel)) ggX0_turned_X0_turnedByChain
theorem dX0_turned_0 : decode cX0_turned 0 = .ok (.iload_n 2, 1) := by decide +kernel
