theorem dX6_countWays_55 : decode cX6_countWays 55 = .ok (.aload_n 0, 1) := by decide +kernel
theorem dX6_countWays_56 : decode cX6_countWays 56 = .ok (.getfield 28, 3) := by decide +kernel
theorem dX6_countWays_59 : decode cX6_countWays 59 = .ok (.aload_n 0, 1) := by decide +kernel
theorem dX6_countWays_60 : decode cX6_countWays 60 = .ok (.getfield 21, 3) := by decide +kernel
theorem dX6_countWays_63 : decode cX6_countWays 63 = .ok (.iload_n 1, 1) := by decide +kernel
theorem dX6_countWays_64 : decode cX6_countWays 64 = .ok (.iaload, 1) := by decide +kernel
theorem dX6_countWays_65 : decode cX6_countWays 65 = .ok (.iaload, 1) := by decide +kernel
theorem dX6_countWays_66 : decode cX6_countWays 66 = .ok (.iadd, 1) := by decide +kernel
theorem dX6_countWays_67 : decode cX6_countWays 67 = .ok (.iastore, 1) := by decide +kernel
theorem dX6_countWays_68 : decode cX6_countWays 68 = .ok (.aload_n 0, 1) := by decide +kernel
theorem dX6_countWays_69 : decode cX6_countWays 69 = .ok (.getfield 31, 3) := by decide +kernel
theorem dX6_countWays_72 : decode cX6_countWays 72 = .ok (.aload_n 0, 1) := by decide +kernel
theorem dX6_countWays_73 : decode cX6_countWays 73 = .ok (.getfield 21, 3) := by decide +kernel
theorem dX6_countWays_76 : decode cX6_countWays 76 = .ok (.iload_n 1, 1) := by decide +kernel
theorem dX6_countWays_77 : decode cX6_countWays 77 = .ok (.iaload, 1) := by decide +kernel
theorem dX6_countWays_78 : decode cX6_countWays 78 = .ok (.dup2, 1) := by decide +kernel
theorem dX6_countWays_79 : decode cX6_countWays 79 = .ok (.iaload, 1) := by decide +kernel
theorem dX6_countWays_80 : decode cX6_countWays 80 = .ok (.iconst 1, 1) := by decide +kernel
theorem dX6_countWays_81 : decode cX6_countWays 81 = .ok (.iadd, 1) := by decide +kernel
theorem dX6_countWays_82 : decode cX6_countWays 82 = .ok (.iastore, 1) := by decide +kernel
theorem dX6_countWays_83 : decode cX6_countWays 83 = .ok (.iinc 1 (-1), 3) := by decide +kernel
theorem dX6_countWays_86 : decode cX6_countWays 86 = .ok (.goto (-56), 3) := by decide +kernel
theorem dX6_countWays_89 : decode cX6_countWays 89 = .ok (.return_, 1) := by decide +kernel
set_option maxRecDepth 20000 in
theorem ggX6_gather_X5_ofItems : GoodIn wsX6_gather wsX5_ofItems := goodIn_r _ [14, 15, 16, 17, 18, 19, 20, 21, 22, 23, 24, 25, 26, 27, 28, 29, 30, 31, 32, 33, 13, 34, 35, 36, 37, 38, 39, 40, 41, 42, 43, 44, 45, 46, 47] (by decide +kernel) (by decide +kernel)
set_option maxRecDepth 20000 in
theorem gX6_gather_X5_ofItems : GoodIn wsX6_gather (va_wsS RX6 99 yX5_ofItems wsX5_ofItems) := goodIn_app (goodIn_of _ (by decide +kernel)) ggX6_gather_X5_ofItems
set_option maxRecDepth 20000 in
theorem ggX6_gather_X5_together : GoodIn wsX6_gather wsX5_together := goodIn_r _ [50, 37, 38, 13, 39, 35, 32, 33, 34, 36, 40, 41, 42, 43, 44, 45] (by decide +kernel) (by decide +kernel)
set_option maxRecDepth 20000 in
theorem gX6_gather_X5_together : GoodIn wsX6_gather (va_wsS RX6 105 yX5_together wsX5_together) := goodIn_app (goodIn_of _ (by decide +kernel)) ggX6_gather_X5_together
theorem dX6_gather_0 : decode cX6_gather 0 = .ok (.iconst 0, 1) := by decide +kernel
theorem dX6_gather_1 : decode cX6_gather 1 = .ok (.istore_n 3, 1) := by decide +kernel
theorem dX6_gather_2 : decode cX6_gather 2 = .ok (.iload_n 3, 1) := by decide +kernel
theorem dX6_gather_3 : decode cX6_gather 3 = .ok (.aload_n 1, 1) := by decide +kernel
theorem dX6_gather_4 : decode cX6_gather 4 = .ok (.getfield 62, 3) := by decide +kernel
theorem dX6_gather_7 : decode cX6_gather 7 = .ok (.if_icmp .ge 45, 3) := by decide +kernel
theorem dX6_gather_10 : decode cX6_gather 10 = .ok (.aload_n 0, 1) := by decide +kernel
theorem dX6_gather_11 : decode cX6_gather 11 = .ok (.getfield 34, 3) := by decide +kernel
theorem dX6_gather_14 : decode cX6_gather 14 = .ok (.iload_n 3, 1) := by decide +kernel
theorem dX6_gather_15 : decode cX6_gather 15 = .ok (.aload_n 0, 1) := by decide +kernel
theorem dX6_gather_16 : decode cX6_gather 16 = .ok (.getfield 9, 3) := by decide +kernel
theorem dX6_gather_19 : decode cX6_gather 19 = .ok (.iload_n 3, 1) := by decide +kernel
theorem dX6_gather_20 : decode cX6_gather 20 = .ok (.iaload, 1) := by decide +kernel
theorem dX6_gather_21 : decode cX6_gather 21 = .ok (.iconst (-1), 1) := by decide +kernel
theorem dX6_gather_22 : decode cX6_gather 22 = .ok (.if_icmp .ne 9, 3) := by decide +kernel
theorem dX6_gather_25 : decode cX6_gather 25 = .ok (.ldc2_w 91, 3) := by decide +kernel
theorem dX6_gather_28 : decode cX6_gather 28 = .ok (.goto 17, 3) := by decide +kernel
theorem dX6_gather_31 : decode cX6_gather 31 = .ok (.aload_n 1, 1) := by decide +kernel
theorem dX6_gather_32 : decode cX6_gather 32 = .ok (.getfield 93, 3) := by decide +kernel
theorem dX6_gather_35 : decode cX6_gather 35 = .ok (.iload_n 3, 1) := by decide +kernel
theorem dX6_gather_36 : decode cX6_gather 36 = .ok (.iaload, 1) := by decide +kernel
theorem dX6_gather_37 : decode cX6_gather 37 = .ok (.iload_n 2, 1) := by decide +kernel
theorem dX6_gather_38 : decode cX6_gather 38 = .ok (.aload_n 1, 1) := by decide +kernel
theorem dX6_gather_39 : decode cX6_gather 39 = .ok (.getfield 96, 3) := by decide +kernel
theorem dX6_gather_42 : decode cX6_gather 42 = .ok (.invokestatic 99, 3) := by decide +kernel
theorem dX6_gather_45 : decode cX6_gather 45 = .ok (.lastore, 1) := by decide +kernel
theorem dX6_gather_46 : decode cX6_gather 46 = .ok (.iinc 3 1, 3) := by decide +kernel
theorem dX6_gather_49 : decode cX6_gather 49 = .ok (.goto (-47), 3) := by decide +kernel
theorem dX6_gather_52 : decode cX6_gather 52 = .ok (.iconst 0, 1) := by decide +kernel
theorem dX6_gather_53 : decode cX6_gather 53 = .ok (.istore_n 3, 1) := by decide +kernel
theorem dX6_gather_54 : decode cX6_gather 54 = .ok (.iload_n 3, 1) := by decide +kernel
theorem dX6_gather_55 : decode cX6_gather 55 = .ok (.aload_n 0, 1) := by decide +kernel
theorem dX6_gather_56 : decode cX6_gather 56 = .ok (.getfield 74, 3) := by decide +kernel
theorem dX6_gather_59 : decode cX6_gather 59 = .ok (.if_icmp .ge 55, 3) := by decide +kernel
theorem dX6_gather_62 : decode cX6_gather 62 = .ok (.aload_n 0, 1) := by decide +kernel
theorem dX6_gather_63 : decode cX6_gather 63 = .ok (.getfield 24, 3) := by decide +kernel
theorem dX6_gather_66 : decode cX6_gather 66 = .ok (.iload_n 3, 1) := by decide +kernel
theorem dX6_gather_67 : decode cX6_gather 67 = .ok (.baload, 1) := by decide +kernel
theorem dX6_gather_68 : decode cX6_gather 68 = .ok (.ifCond .eq 40, 3) := by decide +kernel
theorem dX6_gather_71 : decode cX6_gather 71 = .ok (.aload_n 0, 1) := by decide +kernel
theorem dX6_gather_72 : decode cX6_gather 72 = .ok (.getfield 34, 3) := by decide +kernel
theorem dX6_gather_75 : decode cX6_gather 75 = .ok (.aload_n 0, 1) := by decide +kernel
theorem dX6_gather_76 : decode cX6_gather 76 = .ok (.getfield 21, 3) := by decide +kernel
theorem dX6_gather_79 : decode cX6_gather 79 = .ok (.iload_n 3, 1) := by decide +kernel
theorem dX6_gather_80 : decode cX6_gather 80 = .ok (.iaload, 1) := by decide +kernel
theorem dX6_gather_81 : decode cX6_gather 81 = .ok (.aload_n 0, 1) := by decide +kernel
theorem dX6_gather_82 : decode cX6_gather 82 = .ok (.getfield 34, 3) := by decide +kernel
theorem dX6_gather_85 : decode cX6_gather 85 = .ok (.aload_n 0, 1) := by decide +kernel
theorem dX6_gather_86 : decode cX6_gather 86 = .ok (.getfield 21, 3) := by decide +kernel
theorem dX6_gather_89 : decode cX6_gather 89 = .ok (.iload_n 3, 1) := by decide +kernel
theorem dX6_gather_90 : decode cX6_gather 90 = .ok (.iaload, 1) := by decide +kernel
theorem dX6_gather_91 : decode cX6_gather 91 = .ok (.laload, 1) := by decide +kernel
theorem dX6_gather_92 : decode cX6_gather 92 = .ok (.aload_n 0, 1) := by decide +kernel
theorem dX6_gather_93 : decode cX6_gather 93 = .ok (.getfield 34, 3) := by decide +kernel
theorem dX6_gather_96 : decode cX6_gather 96 = .ok (.aload_n 0, 1) := by decide +kernel
theorem dX6_gather_97 : decode cX6_gather 97 = .ok (.getfield 18, 3) := by decide +kernel
theorem dX6_gather_100 : decode cX6_gather 100 = .ok (.iload_n 3, 1) := by decide +kernel
theorem dX6_gather_101 : decode cX6_gather 101 = .ok (.iaload, 1) := by decide +kernel
theorem dX6_gather_102 : decode cX6_gather 102 = .ok (.laload, 1) := by decide +kernel
theorem dX6_gather_103 : decode cX6_gather 103 = .ok (.iload_n 2, 1) := by decide +kernel
theorem dX6_gather_104 : decode cX6_gather 104 = .ok (.invokestatic 105, 3) := by decide +kernel
theorem dX6_gather_107 : decode cX6_gather 107 = .ok (.lastore, 1) := by decide +kernel
theorem dX6_gather_108 : decode cX6_gather 108 = .ok (.iinc 3 1, 3) := by decide +kernel
theorem dX6_gather_111 : decode cX6_gather 111 = .ok (.goto (-57), 3) := by decide +kernel
theorem dX6_gather_114 : decode cX6_gather 114 = .ok (.return_, 1) := by decide +kernel
theorem dX6_comers_0 : decode cX6_comers 0 = .ok (.iconst 0, 1) := by decide +kernel
theorem dX6_comers_1 : decode cX6_comers 1 = .ok (.istore_n 1, 1) := by decide +kernel
theorem dX6_comers_2 : decode cX6_comers 2 = .ok (.iconst 0, 1) := by decide +kernel
theorem dX6_comers_3 : decode cX6_comers 3 = .ok (.istore_n 2, 1) := by decide +kernel
theorem dX6_comers_4 : decode cX6_comers 4 = .ok (.iload_n 2, 1) := by decide +kernel
theorem dX6_comers_5 : decode cX6_comers 5 = .ok (.bipush 9, 2) := by decide +kernel
theorem dX6_comers_7 : decode cX6_comers 7 = .ok (.if_icmp .ge 25, 3) := by decide +kernel
theorem dX6_comers_10 : decode cX6_comers 10 = .ok (.aload_n 0, 1) := by decide +kernel
theorem dX6_comers_11 : decode cX6_comers 11 = .ok (.getfield 28, 3) := by decide +kernel
theorem dX6_comers_14 : decode cX6_comers 14 = .ok (.iload_n 2, 1) := by decide +kernel
theorem dX6_comers_15 : decode cX6_comers 15 = .ok (.iaload, 1) := by decide +kernel
theorem dX6_comers_16 : decode cX6_comers 16 = .ok (.iconst 1, 1) := by decide +kernel
theorem dX6_comers_17 : decode cX6_comers 17 = .ok (.if_icmp .lt 9, 3) := by decide +kernel
theorem dX6_comers_20 : decode cX6_comers 20 = .ok (.iload_n 1, 1) := by decide +kernel
theorem dX6_comers_21 : decode cX6_comers 21 = .ok (.iconst 1, 1) := by decide +kernel
theorem dX6_comers_22 : decode cX6_comers 22 = .ok (.iload_n 2, 1) := by decide +kernel
theorem dX6_comers_23 : decode cX6_comers 23 = .ok (.ishl, 1) := by decide +kernel
theorem dX6_comers_24 : decode cX6_comers 24 = .ok (.ior, 1) := by decide +kernel
theorem dX6_comers_25 : decode cX6_comers 25 = .ok (.istore_n 1, 1) := by decide +kernel
theorem dX6_comers_26 : decode cX6_comers 26 = .ok (.iinc 2 1, 3) := by decide +kernel
theorem dX6_comers_29 : decode cX6_comers 29 = .ok (.goto (-25), 3) := by decide +kernel
theorem dX6_comers_32 : decode cX6_comers 32 = .ok (.iload_n 1, 1) := by decide +kernel
theorem dX6_comers_33 : decode cX6_comers 33 = .ok (.ireturn, 1) := by decide +kernel
theorem dX6_allArrivals_0 : decode cX6_allArrivals 0 = .ok (.iconst 0, 1) := by decide +kernel
theorem dX6_allArrivals_1 : decode cX6_allArrivals 1 = .ok (.istore_n 1, 1) := by decide +kernel
theorem dX6_allArrivals_2 : decode cX6_allArrivals 2 = .ok (.aload_n 0, 1) := by decide +kernel
theorem dX6_allArrivals_3 : decode cX6_allArrivals 3 = .ok (.getfield 31, 3) := by decide +kernel
theorem dX6_allArrivals_6 : decode cX6_allArrivals 6 = .ok (.astore_n 2, 1) := by decide +kernel
theorem dX6_allArrivals_7 : decode cX6_allArrivals 7 = .ok (.aload_n 2, 1) := by decide +kernel
theorem dX6_allArrivals_8 : decode cX6_allArrivals 8 = .ok (.arraylength, 1) := by decide +kernel
theorem dX6_allArrivals_9 : decode cX6_allArrivals 9 = .ok (.istore_n 3, 1) := by decide +kernel
theorem dX6_allArrivals_10 : decode cX6_allArrivals 10 = .ok (.iconst 0, 1) := by decide +kernel
theorem dX6_allArrivals_11 : decode cX6_allArrivals 11 = .ok (.istore 4, 2) := by decide +kernel
theorem dX6_allArrivals_13 : decode cX6_allArrivals 13 = .ok (.iload 4, 2) := by decide +kernel
theorem dX6_allArrivals_15 : decode cX6_allArrivals 15 = .ok (.iload_n 3, 1) := by decide +kernel
theorem dX6_allArrivals_16 : decode cX6_allArrivals 16 = .ok (.if_icmp .ge 20, 3) := by decide +kernel
theorem dX6_allArrivals_19 : decode cX6_allArrivals 19 = .ok (.aload_n 2, 1) := by decide +kernel
theorem dX6_allArrivals_20 : decode cX6_allArrivals 20 = .ok (.iload 4, 2) := by decide +kernel
theorem dX6_allArrivals_22 : decode cX6_allArrivals 22 = .ok (.iaload, 1) := by decide +kernel
theorem dX6_allArrivals_23 : decode cX6_allArrivals 23 = .ok (.istore 5, 2) := by decide +kernel
theorem dX6_allArrivals_25 : decode cX6_allArrivals 25 = .ok (.iload_n 1, 1) := by decide +kernel
theorem dX6_allArrivals_26 : decode cX6_allArrivals 26 = .ok (.iload 5, 2) := by decide +kernel
theorem dX6_allArrivals_28 : decode cX6_allArrivals 28 = .ok (.iadd, 1) := by decide +kernel
theorem dX6_allArrivals_29 : decode cX6_allArrivals 29 = .ok (.istore_n 1, 1) := by decide +kernel
theorem dX6_allArrivals_30 : decode cX6_allArrivals 30 = .ok (.iinc 4 1, 3) := by decide +kernel
theorem dX6_allArrivals_33 : decode cX6_allArrivals 33 = .ok (.goto (-20), 3) := by decide +kernel
theorem dX6_allArrivals_36 : decode cX6_allArrivals 36 = .ok (.iload_n 1, 1) := by decide +kernel
theorem dX6_allArrivals_37 : decode cX6_allArrivals 37 = .ok (.ireturn, 1) := by decide +kernel
set_option maxRecDepth 20000 in
theorem ggX6_trueCount_J6_bitCount_0f7a4 : GoodIn wsX6_trueCount wsJ6_bitCount_0f7a4 := goodIn_r _ [7, 8, 9, 10] (by decide +kernel) (by decide +kernel)
set_option maxRecDepth 20000 in
theorem gX6_trueCount_J6_bitCount_0f7a4 : GoodIn wsX6_trueCount (va_wsS RX6 109 yJ6_bitCount_0f7a4 wsJ6_bitCount_0f7a4) := goodIn_app (goodIn_of _ (by decide +kernel)) ggX6_trueCount_J6_bitCount_0f7a4
theorem dX6_trueCount_0 : decode cX6_trueCount 0 = .ok (.iconst 0, 1) := by decide +kernel
theorem dX6_trueCount_1 : decode cX6_trueCount 1 = .ok (.istore_n 2, 1) := by decide +kernel
theorem dX6_trueCount_2 : decode cX6_trueCount 2 = .ok (.iconst 0, 1) := by decide +kernel
theorem dX6_trueCount_3 : decode cX6_trueCount 3 = .ok (.istore_n 3, 1) := by decide +kernel
theorem dX6_trueCount_4 : decode cX6_trueCount 4 = .ok (.iload_n 3, 1) := by decide +kernel
theorem dX6_trueCount_5 : decode cX6_trueCount 5 = .ok (.aload_n 1, 1) := by decide +kernel
theorem dX6_trueCount_6 : decode cX6_trueCount 6 = .ok (.getfield 62, 3) := by decide +kernel
theorem dX6_trueCount_9 : decode cX6_trueCount 9 = .ok (.if_icmp .ge 28, 3) := by decide +kernel
theorem dX6_trueCount_12 : decode cX6_trueCount 12 = .ok (.aload_n 0, 1) := by decide +kernel
theorem dX6_trueCount_13 : decode cX6_trueCount 13 = .ok (.getfield 9, 3) := by decide +kernel
theorem dX6_trueCount_16 : decode cX6_trueCount 16 = .ok (.iload_n 3, 1) := by decide +kernel
theorem dX6_trueCount_17 : decode cX6_trueCount 17 = .ok (.iaload, 1) := by decide +kernel
theorem dX6_trueCount_18 : decode cX6_trueCount 18 = .ok (.iconst (-1), 1) := by decide +kernel
theorem dX6_trueCount_19 : decode cX6_trueCount 19 = .ok (.if_icmp .eq 12, 3) := by decide +kernel
theorem dX6_trueCount_22 : decode cX6_trueCount 22 = .ok (.iload_n 2, 1) := by decide +kernel
theorem dX6_trueCount_23 : decode cX6_trueCount 23 = .ok (.aload_n 1, 1) := by decide +kernel
theorem dX6_trueCount_24 : decode cX6_trueCount 24 = .ok (.getfield 93, 3) := by decide +kernel
theorem dX6_trueCount_27 : decode cX6_trueCount 27 = .ok (.iload_n 3, 1) := by decide +kernel
theorem dX6_trueCount_28 : decode cX6_trueCount 28 = .ok (.iaload, 1) := by decide +kernel
theorem dX6_trueCount_29 : decode cX6_trueCount 29 = .ok (.ior, 1) := by decide +kernel
theorem dX6_trueCount_30 : decode cX6_trueCount 30 = .ok (.istore_n 2, 1) := by decide +kernel
theorem dX6_trueCount_31 : decode cX6_trueCount 31 = .ok (.iinc 3 1, 3) := by decide +kernel
theorem dX6_trueCount_34 : decode cX6_trueCount 34 = .ok (.goto (-30), 3) := by decide +kernel
theorem dX6_trueCount_37 : decode cX6_trueCount 37 = .ok (.iload_n 2, 1) := by decide +kernel
theorem dX6_trueCount_38 : decode cX6_trueCount 38 = .ok (.invokestatic 109, 3) := by decide +kernel
theorem dX6_trueCount_41 : decode cX6_trueCount 41 = .ok (.ireturn, 1) := by decide +kernel
set_option maxRecDepth 20000 in
theorem ggX7_init_X3_init : GoodIn wsX7_init wsX3_init := goodIn_r _ [32, 33, 2, 3, 34, 35, 36, 37, 38, 75, 76, 77, 78, 79, 80] (by decide +kernel) (by decide +kernel)
set_option maxRecDepth 20000 in
theorem gX7_init_X3_init : GoodIn wsX7_init (wsX3_init) := ggX7_init_X3_init
set_option maxRecDepth 20000 in
theorem ggX7_init_X4_init : GoodIn wsX7_init wsX4_init := goodIn_r _ [41, 42, 2, 3, 43, 44, 5, 6, 45, 31, 32, 33, 34, 35, 36, 37, 38, 88, 89, 90, 75, 76, 77, 78, 79, 80] (by decide +kernel) (by decide +kernel)
set_option maxRecDepth 20000 in
theorem gX7_init_X4_init : GoodIn wsX7_init (wsX4_init) := ggX7_init_X4_init
set_option maxRecDepth 20000 in
theorem ggX7_init_X6_init : GoodIn wsX7_init wsX6_init := goodIn_r _ [48, 49, 2, 3, 35, 50, 51, 52, 53, 54, 55, 56, 57, 28, 58, 91, 92, 93, 94, 95, 96, 97, 98, 99, 100] (by decide +kernel) (by decide +kernel)
set_option maxRecDepth 20000 in
theorem gX7_init_X6_init : GoodIn wsX7_init (wsX6_init) := ggX7_init_X6_init
set_option maxRecDepth 20000 in
theorem ggX7_init_X0_init : GoodIn wsX7_init wsX0_init := goodIn_r _ [61, 62, 2, 3, 35, 63, 64, 101, 102, 103] (by decide +kernel) (by decide +kernel)
set_option maxRecDepth 20000 in
theorem gX7_init_X0_init : GoodIn wsX7_init (wsX0_init) := ggX7_init_X0_init
set_option maxRecDepth 20000 in
theorem ggX7_init_X1_init : GoodIn wsX7_init wsX1_init := goodIn_r _ [66, 67, 2, 3] (by decide +kernel) (by decide +kernel)
set_option maxRecDepth 20000 in
theorem gX7_init_X1_init_n39 : GoodIn wsX7_init (wsX1_init) := ggX7_init_X1_init
set_option maxRecDepth 20000 in
theorem ggX7_init_X2_init : GoodIn wsX7_init wsX2_init := goodIn_r _ [70, 71, 2, 3, 72, 5, 6, 73, 74, 31, 32, 33, 34, 35, 36, 37, 38, 75, 76, 77, 78, 79, 80, 105, 106, 107] (by decide +kernel) (by decide +kernel)
set_option maxRecDepth 20000 in
theorem gX7_init_X2_init : GoodIn wsX7_init (wsX2_init) := ggX7_init_X2_init
theorem dX7_init_0 : decode cX7_init 0 = .ok (.aload_n 0, 1) := by decide +kernel
theorem dX7_init_1 : decode cX7_init 1 = .ok (.invokespecial 1, 3) := by decide +kernel
theorem dX7_init_4 : decode cX7_init 4 = .ok (.aload_n 0, 1) := by decide +kernel
theorem dX7_init_5 : decode cX7_init 5 = .ok (.new 7, 3) := by decide +kernel
theorem dX7_init_8 : decode cX7_init 8 = .ok (.dup, 1) := by decide +kernel
theorem dX7_init_9 : decode cX7_init 9 = .ok (.invokespecial 9, 3) := by decide +kernel
theorem dX7_init_12 : decode cX7_init 12 = .ok (.putfield 10, 3) := by decide +kernel
theorem dX7_init_15 : decode cX7_init 15 = .ok (.aload_n 0, 1) := by decide +kernel
theorem dX7_init_16 : decode cX7_init 16 = .ok (.new 16, 3) := by decide +kernel
theorem dX7_init_19 : decode cX7_init 19 = .ok (.dup, 1) := by decide +kernel
theorem dX7_init_20 : decode cX7_init 20 = .ok (.invokespecial 18, 3) := by decide +kernel
theorem dX7_init_23 : decode cX7_init 23 = .ok (.putfield 19, 3) := by decide +kernel
theorem dX7_init_26 : decode cX7_init 26 = .ok (.aload_n 0, 1) := by decide +kernel
theorem dX7_init_27 : decode cX7_init 27 = .ok (.new 23, 3) := by decide +kernel
theorem dX7_init_30 : decode cX7_init 30 = .ok (.dup, 1) := by decide +kernel
theorem dX7_init_31 : decode cX7_init 31 = .ok (.invokespecial 25, 3) := by decide +kernel
theorem dX7_init_34 : decode cX7_init 34 = .ok (.putfield 26, 3) := by decide +kernel
theorem dX7_init_37 : decode cX7_init 37 = .ok (.aload_n 0, 1) := by decide +kernel
theorem dX7_init_38 : decode cX7_init 38 = .ok (.new 30, 3) := by decide +kernel
theorem dX7_init_41 : decode cX7_init 41 = .ok (.dup, 1) := by decide +kernel
theorem dX7_init_42 : decode cX7_init 42 = .ok (.invokespecial 32, 3) := by decide +kernel
theorem dX7_init_45 : decode cX7_init 45 = .ok (.putfield 33, 3) := by decide +kernel
theorem dX7_init_48 : decode cX7_init 48 = .ok (.aload_n 0, 1) := by decide +kernel
theorem dX7_init_49 : decode cX7_init 49 = .ok (.new 37, 3) := by decide +kernel
theorem dX7_init_52 : decode cX7_init 52 = .ok (.dup, 1) := by decide +kernel
theorem dX7_init_53 : decode cX7_init 53 = .ok (.invokespecial 39, 3) := by decide +kernel
theorem dX7_init_56 : decode cX7_init 56 = .ok (.putfield 40, 3) := by decide +kernel
theorem dX7_init_59 : decode cX7_init 59 = .ok (.aload_n 0, 1) := by decide +kernel
theorem dX7_init_60 : decode cX7_init 60 = .ok (.iconst 2, 1) := by decide +kernel
theorem dX7_init_61 : decode cX7_init 61 = .ok (.anewarray 44, 3) := by decide +kernel
theorem dX7_init_64 : decode cX7_init 64 = .ok (.putfield 46, 3) := by decide +kernel
theorem dX7_init_67 : decode cX7_init 67 = .ok (.iconst 0, 1) := by decide +kernel
theorem dX7_init_68 : decode cX7_init 68 = .ok (.istore_n 1, 1) := by decide +kernel
theorem dX7_init_69 : decode cX7_init 69 = .ok (.iload_n 1, 1) := by decide +kernel
theorem dX7_init_70 : decode cX7_init 70 = .ok (.iconst 2, 1) := by decide +kernel
theorem dX7_init_71 : decode cX7_init 71 = .ok (.if_icmp .ge 22, 3) := by decide +kernel
theorem dX7_init_74 : decode cX7_init 74 = .ok (.aload_n 0, 1) := by decide +kernel
theorem dX7_init_75 : decode cX7_init 75 = .ok (.getfield 46, 3) := by decide +kernel
theorem dX7_init_78 : decode cX7_init 78 = .ok (.iload_n 1, 1) := by decide +kernel
theorem dX7_init_79 : decode cX7_init 79 = .ok (.new 44, 3) := by decide +kernel
theorem dX7_init_82 : decode cX7_init 82 = .ok (.dup, 1) := by decide +kernel
theorem dX7_init_83 : decode cX7_init 83 = .ok (.invokespecial 50, 3) := by decide +kernel
theorem dX7_init_86 : decode cX7_init 86 = .ok (.aastore, 1) := by decide +kernel
theorem dX7_init_87 : decode cX7_init 87 = .ok (.iinc 1 1, 3) := by decide +kernel
theorem dX7_init_90 : decode cX7_init 90 = .ok (.goto (-21), 3) := by decide +kernel
theorem dX7_init_93 : decode cX7_init 93 = .ok (.aload_n 0, 1) := by decide +kernel
theorem dX7_init_94 : decode cX7_init 94 = .ok (.bipush 9, 2) := by decide +kernel
theorem dX7_init_96 : decode cX7_init 96 = .ok (.newarray .long, 2) := by decide +kernel
theorem dX7_init_98 : decode cX7_init 98 = .ok (.putfield 51, 3) := by decide +kernel
theorem dX7_init_101 : decode cX7_init 101 = .ok (.return_, 1) := by decide +kernel
set_option maxRecDepth 20000 in
theorem ggX7_told_X6_trace : GoodIn wsX7_told wsX6_trace := goodIn_r _ [21, 22, 23, 24, 20, 25, 26, 27, 28, 29, 30, 31, 32, 33, 34, 35, 36, 37, 38, 39, 40, 41, 42, 43, 44, 45, 46, 47, 48, 49, 50, 51, 52, 53, 54, 55, 56, 57, 58, 59, 60, 61, 62, 63, 64, 65, 167, 168, 169, 170, 171, 172, 173, 174, 175, 176, 161, 162, 163, 164, 165, 166] (by decide +kernel) (by decide +kernel)
set_option maxRecDepth 20000 in
theorem gX7_told_X6_trace : GoodIn wsX7_told (wsV RX7 55 RX6 yX6_trace wsX6_trace) := goodIn_app (goodIn_of _ (by decide +kernel)) ggX7_told_X6_trace
set_option maxRecDepth 20000 in
theorem ggX7_told_X7_pairsIn : GoodIn wsX7_told wsX7_pairsIn := goodIn_r _ [68, 69, 70, 71, 72, 73, 74, 75] (by decide +kernel) (by decide +kernel)
set_option maxRecDepth 20000 in
theorem gX7_told_X7_pairsIn : GoodIn wsX7_told (va_wsS RX7 67 yX7_pairsIn wsX7_pairsIn) := goodIn_app (goodIn_of _ (by decide +kernel)) ggX7_told_X7_pairsIn
set_option maxRecDepth 20000 in
theorem ggX7_told_X6_comers : GoodIn wsX7_told wsX6_comers := goodIn_r _ [79, 64, 167, 168, 169, 170, 171, 172, 173, 174, 175, 176] (by decide +kernel) (by decide +kernel)
set_option maxRecDepth 20000 in
theorem gX7_told_X6_comers : GoodIn wsX7_told (wsV RX7 83 RX6 yX6_comers wsX6_comers) := goodIn_app (goodIn_of _ (by decide +kernel)) ggX7_told_X6_comers
set_option maxRecDepth 20000 in
theorem ggX7_told_X6_trueCount : GoodIn wsX7_told wsX6_trueCount := goodIn_r _ [83, 37, 26, 84, 85, 70, 71, 72, 73, 74, 75, 161, 162, 163, 164, 165, 166, 167, 168, 169, 170, 171, 172, 173, 174, 175, 176] (by decide +kernel) (by decide +kernel)
set_option maxRecDepth 20000 in
theorem gX7_told_X6_trueCount : GoodIn wsX7_told (wsV RX7 87 RX6 yX6_trueCount wsX6_trueCount) := goodIn_app (goodIn_of _ (by decide +kernel)) ggX7_told_X6_trueCount
set_option maxRecDepth 20000 in
theorem ggX7_told_X6_allArrivals : GoodIn wsX7_told wsX6_allArrivals := goodIn_r _ [89, 65, 167, 168, 169, 170, 171, 172, 173, 174, 175, 176] (by decide +kernel) (by decide +kernel)
set_option maxRecDepth 20000 in
theorem gX7_told_X6_allArrivals : GoodIn wsX7_told (wsV RX7 94 RX6 yX6_allArrivals wsX6_allArrivals) := goodIn_app (goodIn_of _ (by decide +kernel)) ggX7_told_X6_allArrivals
set_option maxRecDepth 20000 in
theorem ggX7_told_X7_firstWrong : GoodIn wsX7_told wsX7_firstWrong := goodIn_r _ [93, 1, 2, 10, 11, 94, 95, 96, 97, 98, 99, 20, 100, 37, 101, 26, 102, 84, 103, 46, 54, 53, 52, 104, 105, 106, 107, 108, 109, 70, 71, 72, 73, 74, 75, 39, 40, 41, 110, 111, 112, 113, 114, 115, 116, 117, 118, 119, 120, 121, 122, 123, 124, 125, 126, 127, 128, 129, 130, 131, 132, 133, 134, 135, 136, 137, 138, 139, 140, 141, 142, 143, 144, 145, 146, 147, 148, 149, 150, 151, 152, 153, 154, 155, 156, 157, 158, 159, 160, 177, 178, 179, 167, 168, 169, 170, 171, 172, 173, 174, 175, 176, 161, 162, 163, 164, 165, 166] (by decide +kernel) (by decide +kernel)
set_option maxRecDepth 20000 in
theorem gX7_told_X7_firstWrong : GoodIn wsX7_told (wsV RX7 98 RX7 yX7_firstWrong wsX7_firstWrong) := goodIn_app (goodIn_of _ (by decide +kernel)) ggX7_told_X7_firstWrong
theorem dX7_told_0 : decode cX7_told 0 = .ok (.aload_n 0, 1) := by decide +kernel
theorem dX7_told_1 : decode cX7_told 1 = .ok (.getfield 26, 3) := by decide +kernel
theorem dX7_told_4 : decode cX7_told 4 = .ok (.aload_n 0, 1) := by decide +kernel
theorem dX7_told_5 : decode cX7_told 5 = .ok (.getfield 10, 3) := by decide +kernel
theorem dX7_told_8 : decode cX7_told 8 = .ok (.invokevirtual 55, 3) := by decide +kernel
theorem dX7_told_11 : decode cX7_told 11 = .ok (.iload_n 1, 1) := by decide +kernel
theorem dX7_told_12 : decode cX7_told 12 = .ok (.tableswitch 199 0 13 #[72, 80, 91, 102, 110, 118, 126, 134, 146, 154, 170, 178, 183, 191], 72) := by decide +kernel
theorem dX7_told_84 : decode cX7_told 84 = .ok (.aload_n 0, 1) := by decide +kernel
theorem dX7_told_85 : decode cX7_told 85 = .ok (.getfield 10, 3) := by decide +kernel
theorem dX7_told_88 : decode cX7_told 88 = .ok (.getfield 59, 3) := by decide +kernel
theorem dX7_told_91 : decode cX7_told 91 = .ok (.ireturn, 1) := by decide +kernel
theorem dX7_told_92 : decode cX7_told 92 = .ok (.aload_n 0, 1) := by decide +kernel
theorem dX7_told_93 : decode cX7_told 93 = .ok (.getfield 10, 3) := by decide +kernel
theorem dX7_told_96 : decode cX7_told 96 = .ok (.getfield 63, 3) := by decide +kernel
theorem dX7_told_99 : decode cX7_told 99 = .ok (.invokestatic 67, 3) := by decide +kernel
theorem dX7_told_102 : decode cX7_told 102 = .ok (.ireturn, 1) := by decide +kernel
theorem dX7_told_103 : decode cX7_told 103 = .ok (.aload_n 0, 1) := by decide +kernel
theorem dX7_told_104 : decode cX7_told 104 = .ok (.getfield 10, 3) := by decide +kernel
theorem dX7_told_107 : decode cX7_told 107 = .ok (.getfield 71, 3) := by decide +kernel
theorem dX7_told_110 : decode cX7_told 110 = .ok (.invokestatic 67, 3) := by decide +kernel
theorem dX7_told_113 : decode cX7_told 113 = .ok (.ireturn, 1) := by decide +kernel
theorem dX7_told_114 : decode cX7_told 114 = .ok (.aload_n 0, 1) := by decide +kernel
theorem dX7_told_115 : decode cX7_told 115 = .ok (.getfield 10, 3) := by decide +kernel
theorem dX7_told_118 : decode cX7_told 118 = .ok (.getfield 74, 3) := by decide +kernel
theorem dX7_told_121 : decode cX7_told 121 = .ok (.ireturn, 1) := by decide +kernel
theorem dX7_told_122 : decode cX7_told 122 = .ok (.aload_n 0, 1) := by decide +kernel
theorem dX7_told_123 : decode cX7_told 123 = .ok (.getfield 10, 3) := by decide +kernel
theorem dX7_told_126 : decode cX7_told 126 = .ok (.getfield 77, 3) := by decide +kernel
theorem dX7_told_129 : decode cX7_told 129 = .ok (.ireturn, 1) := by decide +kernel
theorem dX7_told_130 : decode cX7_told 130 = .ok (.aload_n 0, 1) := by decide +kernel
theorem dX7_told_131 : decode cX7_told 131 = .ok (.getfield 26, 3) := by decide +kernel
theorem dX7_told_134 : decode cX7_told 134 = .ok (.getfield 80, 3) := by decide +kernel
theorem dX7_told_137 : decode cX7_told 137 = .ok (.ireturn, 1) := by decide +kernel
theorem dX7_told_138 : decode cX7_told 138 = .ok (.aload_n 0, 1) := by decide +kernel
theorem dX7_told_139 : decode cX7_told 139 = .ok (.getfield 26, 3) := by decide +kernel
theorem dX7_told_142 : decode cX7_told 142 = .ok (.invokevirtual 83, 3) := by decide +kernel
theorem dX7_told_145 : decode cX7_told 145 = .ok (.ireturn, 1) := by decide +kernel
theorem dX7_told_146 : decode cX7_told 146 = .ok (.aload_n 0, 1) := by decide +kernel
theorem dX7_told_147 : decode cX7_told 147 = .ok (.getfield 26, 3) := by decide +kernel
theorem dX7_told_150 : decode cX7_told 150 = .ok (.aload_n 0, 1) := by decide +kernel
theorem dX7_told_151 : decode cX7_told 151 = .ok (.getfield 10, 3) := by decide +kernel
theorem dX7_told_154 : decode cX7_told 154 = .ok (.invokevirtual 87, 3) := by decide +kernel
theorem dX7_told_157 : decode cX7_told 157 = .ok (.ireturn, 1) := by decide +kernel
theorem dX7_told_158 : decode cX7_told 158 = .ok (.aload_n 0, 1) := by decide +kernel
theorem dX7_told_159 : decode cX7_told 159 = .ok (.getfield 26, 3) := by decide +kernel
theorem dX7_told_162 : decode cX7_told 162 = .ok (.getfield 91, 3) := by decide +kernel
theorem dX7_told_165 : decode cX7_told 165 = .ok (.ireturn, 1) := by decide +kernel
theorem dX7_told_166 : decode cX7_told 166 = .ok (.aload_n 0, 1) := by decide +kernel
theorem dX7_told_167 : decode cX7_told 167 = .ok (.getfield 26, 3) := by decide +kernel
theorem dX7_told_170 : decode cX7_told 170 = .ok (.getfield 91, 3) := by decide +kernel
theorem dX7_told_173 : decode cX7_told 173 = .ok (.aload_n 0, 1) := by decide +kernel
theorem dX7_told_174 : decode cX7_told 174 = .ok (.getfield 26, 3) := by decide +kernel
theorem dX7_told_177 : decode cX7_told 177 = .ok (.invokevirtual 94, 3) := by decide +kernel
theorem dX7_told_180 : decode cX7_told 180 = .ok (.isub, 1) := by decide +kernel
theorem dX7_told_181 : decode cX7_told 181 = .ok (.ireturn, 1) := by decide +kernel
theorem dX7_told_182 : decode cX7_told 182 = .ok (.aload_n 0, 1) := by decide +kernel
theorem dX7_told_183 : decode cX7_told 183 = .ok (.getfield 33, 3) := by decide +kernel
theorem dX7_told_186 : decode cX7_told 186 = .ok (.getfield 97, 3) := by decide +kernel
theorem dX7_told_189 : decode cX7_told 189 = .ok (.ireturn, 1) := by decide +kernel
theorem dX7_told_190 : decode cX7_told 190 = .ok (.aload_n 0, 1) := by decide +kernel
theorem dX7_told_191 : decode cX7_told 191 = .ok (.invokevirtual 98, 3) := by decide +kernel
theorem dX7_told_194 : decode cX7_told 194 = .ok (.ireturn, 1) := by decide +kernel
theorem dX7_told_195 : decode cX7_told 195 = .ok (.aload_n 0, 1) := by decide +kernel
theorem dX7_told_196 : decode cX7_told 196 = .ok (.getfield 19, 3) := by decide +kernel
theorem dX7_told_199 : decode cX7_told 199 = .ok (.getfield 101, 3) := by decide +kernel
theorem dX7_told_202 : decode cX7_told 202 = .ok (.ireturn, 1) := by decide +kernel
theorem dX7_told_203 : decode cX7_told 203 = .ok (.aload_n 0, 1) := by decide +kernel
theorem dX7_told_204 : decode cX7_told 204 = .ok (.getfield 40, 3) := by decide +kernel
theorem dX7_told_207 : decode cX7_told 207 = .ok (.getfield 102, 3) := by decide +kernel
theorem dX7_told_210 : decode cX7_told 210 = .ok (.ireturn, 1) := by decide +kernel
theorem dX7_told_211 : decode cX7_told 211 = .ok (.ldc 105, 2) := by decide +kernel
theorem dX7_told_213 : decode cX7_told 213 = .ok (.ireturn, 1) := by decide +kernel
set_option maxRecDepth 20000 in
theorem ggX7_at_X3_has : GoodIn wsX7_at wsX3_has := goodIn_r _ [14, 15, 83, 84, 85, 86, 87, 88] (by decide +kernel) (by decide +kernel)
set_option maxRecDepth 20000 in
theorem gX7_at_X3_has : GoodIn wsX7_at (wsV RX7 106 RX3 yX3_has wsX3_has) := goodIn_app (goodIn_of _ (by decide +kernel)) ggX7_at_X3_has
set_option maxRecDepth 20000 in
theorem ggX7_at_X6_trace : GoodIn wsX7_at wsX6_trace := goodIn_r _ [20, 21, 22, 23, 19, 24, 25, 26, 27, 28, 29, 30, 31, 32, 33, 34, 35, 36, 37, 38, 39, 40, 41, 42, 43, 44, 45, 46, 47, 48, 49, 50, 51, 52, 53, 54, 55, 56, 57, 58, 59, 60, 61, 62, 63, 64, 73, 74, 75, 76, 77, 78, 79, 80, 81, 82, 83, 84, 85, 86, 87, 88] (by decide +kernel) (by decide +kernel)
set_option maxRecDepth 20000 in
theorem gX7_at_X6_trace : GoodIn wsX7_at (wsV RX7 55 RX6 yX6_trace wsX6_trace) := goodIn_app (goodIn_of _ (by decide +kernel)) ggX7_at_X6_trace
set_option maxRecDepth 20000 in
theorem ggX7_at_X6_uppers : GoodIn wsX7_at wsX6_uppers := goodIn_r _ [58, 25, 37, 27, 73, 74, 75, 76, 77, 78, 79, 80, 81, 82, 83, 84, 85, 86, 87, 88] (by decide +kernel) (by decide +kernel)
set_option maxRecDepth 20000 in
theorem gX7_at_X6_uppers : GoodIn wsX7_at (wsV RX7 114 RX6 yX6_uppers wsX6_uppers) := goodIn_app (goodIn_of _ (by decide +kernel)) ggX7_at_X6_uppers
theorem dX7_at_0 : decode cX7_at 0 = .ok (.aload_n 0, 1) := by decide +kernel
theorem dX7_at_1 : decode cX7_at 1 = .ok (.getfield 10, 3) := by decide +kernel
theorem dX7_at_4 : decode cX7_at 4 = .ok (.iload_n 1, 1) := by decide +kernel
theorem dX7_at_5 : decode cX7_at 5 = .ok (.invokevirtual 106, 3) := by decide +kernel
theorem dX7_at_8 : decode cX7_at 8 = .ok (.ifCond .ne 6, 3) := by decide +kernel
theorem dX7_at_11 : decode cX7_at 11 = .ok (.ldc 110, 2) := by decide +kernel
theorem dX7_at_13 : decode cX7_at 13 = .ok (.ireturn, 1) := by decide +kernel
theorem dX7_at_14 : decode cX7_at 14 = .ok (.aload_n 0, 1) := by decide +kernel
theorem dX7_at_15 : decode cX7_at 15 = .ok (.getfield 26, 3) := by decide +kernel
theorem dX7_at_18 : decode cX7_at 18 = .ok (.aload_n 0, 1) := by decide +kernel
theorem dX7_at_19 : decode cX7_at 19 = .ok (.getfield 10, 3) := by decide +kernel
theorem dX7_at_22 : decode cX7_at 22 = .ok (.invokevirtual 55, 3) := by decide +kernel
theorem dX7_at_25 : decode cX7_at 25 = .ok (.iload_n 2, 1) := by decide +kernel
theorem dX7_at_26 : decode cX7_at 26 = .ok (.tableswitch 101 0 5 #[38, 48, 58, 71, 81, 91], 38) := by decide +kernel
theorem dX7_at_64 : decode cX7_at 64 = .ok (.aload_n 0, 1) := by decide +kernel
theorem dX7_at_65 : decode cX7_at 65 = .ok (.getfield 26, 3) := by decide +kernel
theorem dX7_at_68 : decode cX7_at 68 = .ok (.getfield 111, 3) := by decide +kernel
theorem dX7_at_71 : decode cX7_at 71 = .ok (.iload_n 1, 1) := by decide +kernel
theorem dX7_at_72 : decode cX7_at 72 = .ok (.iaload, 1) := by decide +kernel
theorem dX7_at_73 : decode cX7_at 73 = .ok (.ireturn, 1) := by decide +kernel
theorem dX7_at_74 : decode cX7_at 74 = .ok (.aload_n 0, 1) := by decide +kernel
theorem dX7_at_75 : decode cX7_at 75 = .ok (.getfield 10, 3) := by decide +kernel
theorem dX7_at_78 : decode cX7_at 78 = .ok (.getfield 63, 3) := by decide +kernel
theorem dX7_at_81 : decode cX7_at 81 = .ok (.iload_n 1, 1) := by decide +kernel
theorem dX7_at_82 : decode cX7_at 82 = .ok (.iaload, 1) := by decide +kernel
theorem dX7_at_83 : decode cX7_at 83 = .ok (.ireturn, 1) := by decide +kernel
theorem dX7_at_84 : decode cX7_at 84 = .ok (.aload_n 0, 1) := by decide +kernel
theorem dX7_at_85 : decode cX7_at 85 = .ok (.getfield 26, 3) := by decide +kernel
theorem dX7_at_88 : decode cX7_at 88 = .ok (.aload_n 0, 1) := by decide +kernel
theorem dX7_at_89 : decode cX7_at 89 = .ok (.getfield 10, 3) := by decide +kernel
theorem dX7_at_92 : decode cX7_at 92 = .ok (.iload_n 1, 1) := by decide +kernel
theorem dX7_at_93 : decode cX7_at 93 = .ok (.invokevirtual 114, 3) := by decide +kernel
theorem dX7_at_96 : decode cX7_at 96 = .ok (.ireturn, 1) := by decide +kernel
theorem dX7_at_97 : decode cX7_at 97 = .ok (.aload_n 0, 1) := by decide +kernel
theorem dX7_at_98 : decode cX7_at 98 = .ok (.getfield 10, 3) := by decide +kernel
theorem dX7_at_101 : decode cX7_at 101 = .ok (.getfield 118, 3) := by decide +kernel
theorem dX7_at_104 : decode cX7_at 104 = .ok (.iload_n 1, 1) := by decide +kernel
theorem dX7_at_105 : decode cX7_at 105 = .ok (.iaload, 1) := by decide +kernel
theorem dX7_at_106 : decode cX7_at 106 = .ok (.ireturn, 1) := by decide +kernel
theorem dX7_at_107 : decode cX7_at 107 = .ok (.aload_n 0, 1) := by decide +kernel
theorem dX7_at_108 : decode cX7_at 108 = .ok (.getfield 26, 3) := by decide +kernel
theorem dX7_at_111 : decode cX7_at 111 = .ok (.getfield 121, 3) := by decide +kernel
theorem dX7_at_114 : decode cX7_at 114 = .ok (.iload_n 1, 1) := by decide +kernel
theorem dX7_at_115 : decode cX7_at 115 = .ok (.iaload, 1) := by decide +kernel
theorem dX7_at_116 : decode cX7_at 116 = .ok (.ireturn, 1) := by decide +kernel
theorem dX7_at_117 : decode cX7_at 117 = .ok (.aload_n 0, 1) := by decide +kernel
theorem dX7_at_118 : decode cX7_at 118 = .ok (.getfield 26, 3) := by decide +kernel
theorem dX7_at_121 : decode cX7_at 121 = .ok (.getfield 124, 3) := by decide +kernel
theorem dX7_at_124 : decode cX7_at 124 = .ok (.iload_n 1, 1) := by decide +kernel
theorem dX7_at_125 : decode cX7_at 125 = .ok (.iaload, 1) := by decide +kernel
theorem dX7_at_126 : decode cX7_at 126 = .ok (.ireturn, 1) := by decide +kernel
theorem dX7_at_127 : decode cX7_at 127 = .ok (.ldc 105, 2) := by decide +kernel
theorem dX7_at_129 : decode cX7_at 129 = .ok (.ireturn, 1) := by decide +kernel
set_option maxRecDepth 20000 in
theorem ggX7_isLost_X3_hasLink : GoodIn wsX7_isLost wsX3_hasLink := goodIn_r _ [7, 8, 9, 10, 11, 6, 12, 13, 14, 15, 16, 29, 30, 31, 32, 33, 34] (by decide +kernel) (by decide +kernel)
set_option maxRecDepth 20000 in
theorem gX7_isLost_X3_hasLink : GoodIn wsX7_isLost (wsV RX7 127 RX3 yX3_hasLink wsX3_hasLink) := goodIn_app (goodIn_of _ (by decide +kernel)) ggX7_isLost_X3_hasLink
set_option maxRecDepth 20000 in
theorem ggX7_isLost_X3_hasLost : GoodIn wsX7_isLost wsX3_hasLost := goodIn_r _ [20, 21, 9, 10, 11, 6, 12, 13, 14, 15, 16, 29, 30, 31, 32, 33, 34] (by decide +kernel) (by decide +kernel)
set_option maxRecDepth 20000 in
theorem gX7_isLost_X3_hasLost : GoodIn wsX7_isLost (wsV RX7 131 RX3 yX3_hasLost wsX3_hasLost) := goodIn_app (goodIn_of _ (by decide +kernel)) ggX7_isLost_X3_hasLost
theorem dX7_isLost_0 : decode cX7_isLost 0 = .ok (.aload_n 0, 1) := by decide +kernel
theorem dX7_isLost_1 : decode cX7_isLost 1 = .ok (.getfield 10, 3) := by decide +kernel
theorem dX7_isLost_4 : decode cX7_isLost 4 = .ok (.iload_n 1, 1) := by decide +kernel
theorem dX7_isLost_5 : decode cX7_isLost 5 = .ok (.iload_n 2, 1) := by decide +kernel
theorem dX7_isLost_6 : decode cX7_isLost 6 = .ok (.invokevirtual 127, 3) := by decide +kernel
theorem dX7_isLost_9 : decode cX7_isLost 9 = .ok (.ifCond .ne 6, 3) := by decide +kernel
theorem dX7_isLost_12 : decode cX7_isLost 12 = .ok (.ldc 110, 2) := by decide +kernel
theorem dX7_isLost_14 : decode cX7_isLost 14 = .ok (.ireturn, 1) := by decide +kernel
theorem dX7_isLost_15 : decode cX7_isLost 15 = .ok (.aload_n 0, 1) := by decide +kernel
theorem dX7_isLost_16 : decode cX7_isLost 16 = .ok (.getfield 10, 3) := by decide +kernel
theorem dX7_isLost_19 : decode cX7_isLost 19 = .ok (.iload_n 1, 1) := by decide +kernel
theorem dX7_isLost_20 : decode cX7_isLost 20 = .ok (.iload_n 2, 1) := by decide +kernel
theorem dX7_isLost_21 : decode cX7_isLost 21 = .ok (.invokevirtual 131, 3) := by decide +kernel
theorem dX7_isLost_24 : decode cX7_isLost 24 = .ok (.ifCond .eq 7, 3) := by decide +kernel
theorem dX7_isLost_27 : decode cX7_isLost 27 = .ok (.iconst 1, 1) := by decide +kernel
theorem dX7_isLost_28 : decode cX7_isLost 28 = .ok (.goto 4, 3) := by decide +kernel
theorem dX7_isLost_31 : decode cX7_isLost 31 = .ok (.iconst 0, 1) := by decide +kernel
theorem dX7_isLost_32 : decode cX7_isLost 32 = .ok (.ireturn, 1) := by decide +kernel
set_option maxRecDepth 20000 in
theorem ggX7_mark_X7_within : GoodIn wsX7_mark wsX7_within := goodIn_r _ [7] (by decide +kernel) (by decide +kernel)
set_option maxRecDepth 20000 in
theorem gX7_mark_X7_within : GoodIn wsX7_mark (va_wsS RX7 134 yX7_within wsX7_within) := goodIn_app (goodIn_of _ (by decide +kernel)) ggX7_mark_X7_within
set_option maxRecDepth 20000 in
theorem ggX7_mark_X7_markOf : GoodIn wsX7_mark wsX7_markOf := goodIn_r _ [10, 11, 12, 13, 14] (by decide +kernel) (by decide +kernel)
set_option maxRecDepth 20000 in
theorem gX7_mark_X7_markOf : GoodIn wsX7_mark (va_wsS RX7 138 yX7_markOf wsX7_markOf) := goodIn_app (goodIn_of _ (by decide +kernel)) ggX7_mark_X7_markOf
set_option maxRecDepth 20000 in
theorem ggX7_mark_X7_rankOf : GoodIn wsX7_mark wsX7_rankOf := goodIn_r _ [17] (by decide +kernel) (by decide +kernel)
set_option maxRecDepth 20000 in
theorem gX7_mark_X7_rankOf : GoodIn wsX7_mark (va_wsS RX7 142 yX7_rankOf wsX7_rankOf) := goodIn_app (goodIn_of _ (by decide +kernel)) ggX7_mark_X7_rankOf
theorem dX7_mark_0 : decode cX7_mark 0 = .ok (.iload_n 1, 1) := by decide +kernel
theorem dX7_mark_1 : decode cX7_mark 1 = .ok (.iconst 0, 1) := by decide +kernel
theorem dX7_mark_2 : decode cX7_mark 2 = .ok (.bipush 15, 2) := by decide +kernel
theorem dX7_mark_4 : decode cX7_mark 4 = .ok (.invokestatic 134, 3) := by decide +kernel
theorem dX7_mark_7 : decode cX7_mark 7 = .ok (.ifCond .eq 12, 3) := by decide +kernel
theorem dX7_mark_10 : decode cX7_mark 10 = .ok (.iload_n 2, 1) := by decide +kernel
theorem dX7_mark_11 : decode cX7_mark 11 = .ok (.iconst 0, 1) := by decide +kernel
theorem dX7_mark_12 : decode cX7_mark 12 = .ok (.iconst 1, 1) := by decide +kernel
theorem dX7_mark_13 : decode cX7_mark 13 = .ok (.invokestatic 134, 3) := by decide +kernel
theorem dX7_mark_16 : decode cX7_mark 16 = .ok (.ifCond .ne 6, 3) := by decide +kernel
theorem dX7_mark_19 : decode cX7_mark 19 = .ok (.ldc 105, 2) := by decide +kernel
theorem dX7_mark_21 : decode cX7_mark 21 = .ok (.ireturn, 1) := by decide +kernel
theorem dX7_mark_22 : decode cX7_mark 22 = .ok (.iload_n 1, 1) := by decide +kernel
theorem dX7_mark_23 : decode cX7_mark 23 = .ok (.aload_n 0, 1) := by decide +kernel
theorem dX7_mark_24 : decode cX7_mark 24 = .ok (.getfield 10, 3) := by decide +kernel
theorem dX7_mark_27 : decode cX7_mark 27 = .ok (.getfield 74, 3) := by decide +kernel
theorem dX7_mark_30 : decode cX7_mark 30 = .ok (.invokestatic 138, 3) := by decide +kernel
theorem dX7_mark_33 : decode cX7_mark 33 = .ok (.istore_n 3, 1) := by decide +kernel
theorem dX7_mark_34 : decode cX7_mark 34 = .ok (.iload_n 2, 1) := by decide +kernel
theorem dX7_mark_35 : decode cX7_mark 35 = .ok (.ifCond .ne 7, 3) := by decide +kernel
theorem dX7_mark_38 : decode cX7_mark 38 = .ok (.iload_n 3, 1) := by decide +kernel
theorem dX7_mark_39 : decode cX7_mark 39 = .ok (.goto 7, 3) := by decide +kernel
theorem dX7_mark_42 : decode cX7_mark 42 = .ok (.iload_n 3, 1) := by decide +kernel
theorem dX7_mark_43 : decode cX7_mark 43 = .ok (.invokestatic 142, 3) := by decide +kernel
theorem dX7_mark_46 : decode cX7_mark 46 = .ok (.ireturn, 1) := by decide +kernel
set_option maxRecDepth 20000 in
theorem ggX7_holds_X3_has : GoodIn wsX7_holds wsX3_has := goodIn_r _ [10, 11, 126, 127, 128, 129, 130, 131] (by decide +kernel) (by decide +kernel)
set_option maxRecDepth 20000 in
theorem gX7_holds_X3_has : GoodIn wsX7_holds (wsV RX7 106 RX3 yX3_has wsX3_has) := goodIn_app (goodIn_of _ (by decide +kernel)) ggX7_holds_X3_has
set_option maxRecDepth 20000 in
theorem ggX7_holds_X7_within : GoodIn wsX7_holds wsX7_within := goodIn_r _ [15] (by decide +kernel) (by decide +kernel)
set_option maxRecDepth 20000 in
theorem gX7_holds_X7_within : GoodIn wsX7_holds (va_wsS RX7 134 yX7_within wsX7_within) := goodIn_app (goodIn_of _ (by decide +kernel)) ggX7_holds_X7_within
set_option maxRecDepth 20000 in
theorem ggX7_holds_X6_trace : GoodIn wsX7_holds wsX6_trace := goodIn_r _ [20, 21, 22, 23, 19, 24, 25, 26, 27, 28, 29, 30, 31, 32, 33, 34, 35, 36, 37, 38, 14, 39, 40, 41, 42, 43, 44, 45, 46, 47, 48, 49, 50, 51, 52, 53, 54, 55, 56, 57, 58, 59, 60, 61, 62, 63, 116, 117, 118, 119, 120, 121, 122, 123, 124, 125, 126, 127, 128, 129, 130, 131] (by decide +kernel) (by decide +kernel)
set_option maxRecDepth 20000 in
theorem gX7_holds_X6_trace : GoodIn wsX7_holds (wsV RX7 55 RX6 yX6_trace wsX6_trace) := goodIn_app (goodIn_of _ (by decide +kernel)) ggX7_holds_X6_trace
set_option maxRecDepth 20000 in
theorem ggX7_holds_X6_gather : GoodIn wsX7_holds wsX6_gather := goodIn_r _ [67, 36, 68, 25, 69, 70, 71, 44, 52, 51, 50, 72, 73, 74, 75, 76, 77, 78, 79, 80, 81, 82, 83, 38, 14, 39, 84, 85, 86, 87, 88, 89, 90, 91, 92, 93, 94, 95, 96, 97, 98, 99, 100, 101, 102, 103, 104, 105, 106, 107, 108, 126, 127, 128, 129, 130, 131, 116, 117, 118, 119, 120, 121, 122, 123, 124, 125] (by decide +kernel) (by decide +kernel)
set_option maxRecDepth 20000 in
theorem gX7_holds_X6_gather : GoodIn wsX7_holds (wsV RX7 150 RX6 yX6_gather wsX6_gather) := goodIn_app (goodIn_of _ (by decide +kernel)) ggX7_holds_X6_gather
theorem dX7_holds_0 : decode cX7_holds 0 = .ok (.aload_n 0, 1) := by decide +kernel
theorem dX7_holds_1 : decode cX7_holds 1 = .ok (.getfield 10, 3) := by decide +kernel
theorem dX7_holds_4 : decode cX7_holds 4 = .ok (.iload_n 1, 1) := by decide +kernel
theorem dX7_holds_5 : decode cX7_holds 5 = .ok (.invokevirtual 106, 3) := by decide +kernel
theorem dX7_holds_8 : decode cX7_holds 8 = .ok (.ifCond .ne 7, 3) := by decide +kernel
theorem dX7_holds_11 : decode cX7_holds 11 = .ok (.ldc2_w 146, 3) := by decide +kernel
theorem dX7_holds_14 : decode cX7_holds 14 = .ok (.lreturn, 1) := by decide +kernel
theorem dX7_holds_15 : decode cX7_holds 15 = .ok (.iload_n 2, 1) := by decide +kernel
theorem dX7_holds_16 : decode cX7_holds 16 = .ok (.iconst 0, 1) := by decide +kernel
theorem dX7_holds_17 : decode cX7_holds 17 = .ok (.iconst 3, 1) := by decide +kernel
theorem dX7_holds_18 : decode cX7_holds 18 = .ok (.invokestatic 134, 3) := by decide +kernel
theorem dX7_holds_21 : decode cX7_holds 21 = .ok (.ifCond .ne 7, 3) := by decide +kernel
theorem dX7_holds_24 : decode cX7_holds 24 = .ok (.ldc2_w 148, 3) := by decide +kernel
theorem dX7_holds_27 : decode cX7_holds 27 = .ok (.lreturn, 1) := by decide +kernel
theorem dX7_holds_28 : decode cX7_holds 28 = .ok (.aload_n 0, 1) := by decide +kernel
theorem dX7_holds_29 : decode cX7_holds 29 = .ok (.getfield 26, 3) := by decide +kernel
theorem dX7_holds_32 : decode cX7_holds 32 = .ok (.aload_n 0, 1) := by decide +kernel
theorem dX7_holds_33 : decode cX7_holds 33 = .ok (.getfield 10, 3) := by decide +kernel
theorem dX7_holds_36 : decode cX7_holds 36 = .ok (.invokevirtual 55, 3) := by decide +kernel
theorem dX7_holds_39 : decode cX7_holds 39 = .ok (.aload_n 0, 1) := by decide +kernel
theorem dX7_holds_40 : decode cX7_holds 40 = .ok (.getfield 26, 3) := by decide +kernel
theorem dX7_holds_43 : decode cX7_holds 43 = .ok (.aload_n 0, 1) := by decide +kernel
theorem dX7_holds_44 : decode cX7_holds 44 = .ok (.getfield 10, 3) := by decide +kernel
theorem dX7_holds_47 : decode cX7_holds 47 = .ok (.iload_n 2, 1) := by decide +kernel
theorem dX7_holds_48 : decode cX7_holds 48 = .ok (.invokevirtual 150, 3) := by decide +kernel
theorem dX7_holds_51 : decode cX7_holds 51 = .ok (.aload_n 0, 1) := by decide +kernel
theorem dX7_holds_52 : decode cX7_holds 52 = .ok (.getfield 26, 3) := by decide +kernel
theorem dX7_holds_55 : decode cX7_holds 55 = .ok (.getfield 154, 3) := by decide +kernel
theorem dX7_holds_58 : decode cX7_holds 58 = .ok (.iload_n 1, 1) := by decide +kernel
theorem dX7_holds_59 : decode cX7_holds 59 = .ok (.laload, 1) := by decide +kernel
theorem dX7_holds_60 : decode cX7_holds 60 = .ok (.lreturn, 1) := by decide +kernel
set_option maxRecDepth 20000 in
theorem ggX7_guess_X3_has : GoodIn wsX7_guess wsX3_has := goodIn_r _ [9, 10, 129, 130, 131, 132, 133, 134] (by decide +kernel) (by decide +kernel)
set_option maxRecDepth 20000 in
theorem gX7_guess_X3_has : GoodIn wsX7_guess (wsV RX7 106 RX3 yX3_has wsX3_has) := goodIn_app (goodIn_of _ (by decide +kernel)) ggX7_guess_X3_has
set_option maxRecDepth 20000 in
theorem ggX7_guess_X7_within : GoodIn wsX7_guess wsX7_within := goodIn_r _ [14] (by decide +kernel) (by decide +kernel)
set_option maxRecDepth 20000 in
theorem gX7_guess_X7_within : GoodIn wsX7_guess (va_wsS RX7 134 yX7_within wsX7_within) := goodIn_app (goodIn_of _ (by decide +kernel)) ggX7_guess_X7_within
set_option maxRecDepth 20000 in
theorem ggX7_guess_X6_trace : GoodIn wsX7_guess wsX6_trace := goodIn_r _ [19, 20, 21, 22, 18, 23, 24, 25, 26, 27, 28, 29, 30, 31, 32, 33, 34, 35, 36, 37, 13, 38, 39, 40, 41, 42, 43, 44, 45, 46, 47, 48, 49, 50, 51, 52, 53, 54, 55, 56, 57, 58, 59, 60, 61, 62, 135, 136, 137, 138, 139, 140, 141, 142, 143, 144, 129, 130, 131, 132, 133, 134] (by decide +kernel) (by decide +kernel)
set_option maxRecDepth 20000 in
theorem gX7_guess_X6_trace : GoodIn wsX7_guess (wsV RX7 55 RX6 yX6_trace wsX6_trace) := goodIn_app (goodIn_of _ (by decide +kernel)) ggX7_guess_X6_trace
set_option maxRecDepth 20000 in
theorem ggX7_guess_X6_gather : GoodIn wsX7_guess wsX6_gather := goodIn_r _ [66, 35, 67, 24, 68, 69, 70, 43, 51, 50, 49, 71, 72, 73, 74, 75, 76, 77, 78, 79, 80, 81, 82, 37, 13, 38, 83, 84, 85, 86, 87, 88, 89, 90, 91, 92, 93, 94, 95, 96, 97, 98, 99, 100, 101, 102, 103, 104, 105, 106, 107, 129, 130, 131, 132, 133, 134, 135, 136, 137, 138, 139, 140, 141, 142, 143, 144] (by decide +kernel) (by decide +kernel)
set_option maxRecDepth 20000 in
theorem gX7_guess_X6_gather : GoodIn wsX7_guess (wsV RX7 150 RX6 yX6_gather wsX6_gather) := goodIn_app (goodIn_of _ (by decide +kernel)) ggX7_guess_X6_gather
set_option maxRecDepth 20000 in
theorem ggX7_guess_X7_guessOf : GoodIn wsX7_guess wsX7_guessOf := goodIn_r _ [111, 4, 112, 113, 114, 115, 73, 116, 117, 118, 119, 120, 121, 94, 95, 96, 92, 97, 98, 99, 100, 101, 102, 93, 122, 123, 124, 125, 126, 127, 128, 135, 136, 137, 138, 139, 140, 141, 142, 143, 144] (by decide +kernel) (by decide +kernel)
set_option maxRecDepth 20000 in
theorem gX7_guess_X7_guessOf : GoodIn wsX7_guess (wsV RX7 157 RX7 yX7_guessOf wsX7_guessOf) := goodIn_app (goodIn_of _ (by decide +kernel)) ggX7_guess_X7_guessOf
theorem dX7_guess_0 : decode cX7_guess 0 = .ok (.aload_n 0, 1) := by decide +kernel
theorem dX7_guess_1 : decode cX7_guess 1 = .ok (.getfield 10, 3) := by decide +kernel
theorem dX7_guess_4 : decode cX7_guess 4 = .ok (.iload_n 1, 1) := by decide +kernel
theorem dX7_guess_5 : decode cX7_guess 5 = .ok (.invokevirtual 106, 3) := by decide +kernel
theorem dX7_guess_8 : decode cX7_guess 8 = .ok (.ifCond .ne 6, 3) := by decide +kernel
theorem dX7_guess_11 : decode cX7_guess 11 = .ok (.ldc 110, 2) := by decide +kernel
theorem dX7_guess_13 : decode cX7_guess 13 = .ok (.ireturn, 1) := by decide +kernel
theorem dX7_guess_14 : decode cX7_guess 14 = .ok (.iload_n 2, 1) := by decide +kernel
theorem dX7_guess_15 : decode cX7_guess 15 = .ok (.iconst 1, 1) := by decide +kernel
theorem dX7_guess_16 : decode cX7_guess 16 = .ok (.iconst 2, 1) := by decide +kernel
theorem dX7_guess_17 : decode cX7_guess 17 = .ok (.invokestatic 134, 3) := by decide +kernel
theorem dX7_guess_20 : decode cX7_guess 20 = .ok (.ifCond .ne 6, 3) := by decide +kernel
theorem dX7_guess_23 : decode cX7_guess 23 = .ok (.ldc 105, 2) := by decide +kernel
theorem dX7_guess_25 : decode cX7_guess 25 = .ok (.ireturn, 1) := by decide +kernel
theorem dX7_guess_26 : decode cX7_guess 26 = .ok (.aload_n 0, 1) := by decide +kernel
theorem dX7_guess_27 : decode cX7_guess 27 = .ok (.getfield 26, 3) := by decide +kernel
theorem dX7_guess_30 : decode cX7_guess 30 = .ok (.aload_n 0, 1) := by decide +kernel
theorem dX7_guess_31 : decode cX7_guess 31 = .ok (.getfield 10, 3) := by decide +kernel
theorem dX7_guess_34 : decode cX7_guess 34 = .ok (.invokevirtual 55, 3) := by decide +kernel
theorem dX7_guess_37 : decode cX7_guess 37 = .ok (.aload_n 0, 1) := by decide +kernel
theorem dX7_guess_38 : decode cX7_guess 38 = .ok (.getfield 26, 3) := by decide +kernel
theorem dX7_guess_41 : decode cX7_guess 41 = .ok (.aload_n 0, 1) := by decide +kernel
theorem dX7_guess_42 : decode cX7_guess 42 = .ok (.getfield 10, 3) := by decide +kernel
theorem dX7_guess_45 : decode cX7_guess 45 = .ok (.iload_n 2, 1) := by decide +kernel
theorem dX7_guess_46 : decode cX7_guess 46 = .ok (.invokevirtual 150, 3) := by decide +kernel
theorem dX7_guess_49 : decode cX7_guess 49 = .ok (.aload_n 0, 1) := by decide +kernel
theorem dX7_guess_50 : decode cX7_guess 50 = .ok (.iload_n 1, 1) := by decide +kernel
theorem dX7_guess_51 : decode cX7_guess 51 = .ok (.iload_n 2, 1) := by decide +kernel
theorem dX7_guess_52 : decode cX7_guess 52 = .ok (.invokevirtual 157, 3) := by decide +kernel
theorem dX7_guess_55 : decode cX7_guess 55 = .ok (.ireturn, 1) := by decide +kernel
set_option maxRecDepth 20000 in
theorem ggX7_off_X7_within : GoodIn wsX7_off wsX7_within := goodIn_r _ [8] (by decide +kernel) (by decide +kernel)
set_option maxRecDepth 20000 in
theorem gX7_off_X7_within : GoodIn wsX7_off (va_wsS RX7 134 yX7_within wsX7_within) := goodIn_app (goodIn_of _ (by decide +kernel)) ggX7_off_X7_within
set_option maxRecDepth 20000 in
theorem ggX7_off_X6_trace : GoodIn wsX7_off wsX6_trace := goodIn_r _ [13, 14, 15, 16, 12, 17, 18, 19, 20, 21, 22, 23, 24, 25, 26, 27, 28, 29, 30, 31, 7, 32, 33, 34, 35, 36, 37, 38, 39, 40, 41, 42, 43, 44, 45, 46, 47, 48, 49, 50, 51, 52, 53, 54, 55, 56, 128, 129, 130, 131, 132, 133, 134, 135, 136, 137, 138, 139, 140, 141, 142, 143] (by decide +kernel) (by decide +kernel)
set_option maxRecDepth 20000 in
theorem gX7_off_X6_trace : GoodIn wsX7_off (wsV RX7 55 RX6 yX6_trace wsX6_trace) := goodIn_app (goodIn_of _ (by decide +kernel)) ggX7_off_X6_trace
set_option maxRecDepth 20000 in
theorem ggX7_off_X6_gather : GoodIn wsX7_off wsX6_gather := goodIn_r _ [60, 29, 61, 18, 62, 63, 64, 37, 45, 44, 43, 65, 66, 67, 68, 69, 70, 71, 72, 73, 74, 75, 76, 31, 7, 32, 77, 78, 79, 80, 81, 82, 83, 84, 85, 86, 87, 88, 89, 90, 91, 92, 93, 94, 95, 96, 97, 98, 99, 100, 101, 138, 139, 140, 141, 142, 143, 128, 129, 130, 131, 132, 133, 134, 135, 136, 137] (by decide +kernel) (by decide +kernel)
set_option maxRecDepth 20000 in
theorem gX7_off_X6_gather : GoodIn wsX7_off (wsV RX7 150 RX6 yX6_gather wsX6_gather) := goodIn_app (goodIn_of _ (by decide +kernel)) ggX7_off_X6_gather
set_option maxRecDepth 20000 in
theorem ggX7_off_X7_guessOf : GoodIn wsX7_off wsX7_guessOf := goodIn_r _ [105, 2, 106, 107, 108, 109, 67, 110, 111, 112, 113, 114, 115, 88, 89, 90, 86, 91, 92, 93, 94, 95, 96, 87, 121, 122, 123, 124, 125, 126, 127, 128, 129, 130, 131, 132, 133, 134, 135, 136, 137] (by decide +kernel) (by decide +kernel)
set_option maxRecDepth 20000 in
theorem gX7_off_X7_guessOf : GoodIn wsX7_off (wsV RX7 157 RX7 yX7_guessOf wsX7_guessOf) := goodIn_app (goodIn_of _ (by decide +kernel)) ggX7_off_X7_guessOf
set_option maxRecDepth 20000 in
theorem ggX7_off_X6_trueCount : GoodIn wsX7_off wsX6_trueCount := goodIn_r _ [119, 29, 18, 63, 120, 71, 72, 73, 74, 75, 76, 138, 139, 140, 141, 142, 143, 128, 129, 130, 131, 132, 133, 134, 135, 136, 137] (by decide +kernel) (by decide +kernel)
set_option maxRecDepth 20000 in
theorem gX7_off_X6_trueCount : GoodIn wsX7_off (wsV RX7 87 RX6 yX6_trueCount wsX6_trueCount) := goodIn_app (goodIn_of _ (by decide +kernel)) ggX7_off_X6_trueCount
theorem dX7_off_0 : decode cX7_off 0 = .ok (.iload_n 1, 1) := by decide +kernel
theorem dX7_off_1 : decode cX7_off 1 = .ok (.iconst 1, 1) := by decide +kernel
theorem dX7_off_2 : decode cX7_off 2 = .ok (.iconst 2, 1) := by decide +kernel
theorem dX7_off_3 : decode cX7_off 3 = .ok (.invokestatic 134, 3) := by decide +kernel
theorem dX7_off_6 : decode cX7_off 6 = .ok (.ifCond .ne 6, 3) := by decide +kernel
theorem dX7_off_9 : decode cX7_off 9 = .ok (.ldc 105, 2) := by decide +kernel
theorem dX7_off_11 : decode cX7_off 11 = .ok (.ireturn, 1) := by decide +kernel
theorem dX7_off_12 : decode cX7_off 12 = .ok (.aload_n 0, 1) := by decide +kernel
theorem dX7_off_13 : decode cX7_off 13 = .ok (.getfield 26, 3) := by decide +kernel
theorem dX7_off_16 : decode cX7_off 16 = .ok (.aload_n 0, 1) := by decide +kernel
theorem dX7_off_17 : decode cX7_off 17 = .ok (.getfield 10, 3) := by decide +kernel
theorem dX7_off_20 : decode cX7_off 20 = .ok (.invokevirtual 55, 3) := by decide +kernel
theorem dX7_off_23 : decode cX7_off 23 = .ok (.aload_n 0, 1) := by decide +kernel
theorem dX7_off_24 : decode cX7_off 24 = .ok (.getfield 26, 3) := by decide +kernel
theorem dX7_off_27 : decode cX7_off 27 = .ok (.aload_n 0, 1) := by decide +kernel
theorem dX7_off_28 : decode cX7_off 28 = .ok (.getfield 10, 3) := by decide +kernel
theorem dX7_off_31 : decode cX7_off 31 = .ok (.iload_n 1, 1) := by decide +kernel
theorem dX7_off_32 : decode cX7_off 32 = .ok (.invokevirtual 150, 3) := by decide +kernel
theorem dX7_off_35 : decode cX7_off 35 = .ok (.aload_n 0, 1) := by decide +kernel
theorem dX7_off_36 : decode cX7_off 36 = .ok (.iconst 0, 1) := by decide +kernel
theorem dX7_off_37 : decode cX7_off 37 = .ok (.iload_n 1, 1) := by decide +kernel
theorem dX7_off_38 : decode cX7_off 38 = .ok (.invokevirtual 157, 3) := by decide +kernel
theorem dX7_off_41 : decode cX7_off 41 = .ok (.aload_n 0, 1) := by decide +kernel
theorem dX7_off_42 : decode cX7_off 42 = .ok (.getfield 26, 3) := by decide +kernel
theorem dX7_off_45 : decode cX7_off 45 = .ok (.aload_n 0, 1) := by decide +kernel
theorem dX7_off_46 : decode cX7_off 46 = .ok (.getfield 10, 3) := by decide +kernel
theorem dX7_off_49 : decode cX7_off 49 = .ok (.invokevirtual 87, 3) := by decide +kernel
theorem dX7_off_52 : decode cX7_off 52 = .ok (.isub, 1) := by decide +kernel
theorem dX7_off_53 : decode cX7_off 53 = .ok (.ldc 160, 2) := by decide +kernel
theorem dX7_off_55 : decode cX7_off 55 = .ok (.iadd, 1) := by decide +kernel
theorem dX7_off_56 : decode cX7_off 56 = .ok (.ireturn, 1) := by decide +kernel
set_option maxRecDepth 20000 in
theorem ggX7_letter_X6_trace : GoodIn wsX7_letter wsX6_trace := goodIn_r _ [13, 14, 15, 16, 12, 17, 18, 19, 20, 21, 22, 23, 24, 25, 26, 27, 28, 29, 30, 31, 32, 33, 34, 35, 36, 37, 38, 39, 40, 41, 42, 43, 44, 45, 46, 47, 48, 49, 50, 51, 52, 53, 54, 55, 56, 57, 68, 69, 70, 71, 72, 73, 74, 75, 76, 77, 78, 79, 80, 81, 82, 83] (by decide +kernel) (by decide +kernel)
set_option maxRecDepth 20000 in
theorem gX7_letter_X6_trace : GoodIn wsX7_letter (wsV RX7 55 RX6 yX6_trace wsX6_trace) := goodIn_app (goodIn_of _ (by decide +kernel)) ggX7_letter_X6_trace
set_option maxRecDepth 20000 in
theorem ggX7_letter_X7_within : GoodIn wsX7_letter wsX7_within := goodIn_r _ [60] (by decide +kernel) (by decide +kernel)
set_option maxRecDepth 20000 in
theorem gX7_letter_X7_within : GoodIn wsX7_letter (va_wsS RX7 134 yX7_within wsX7_within) := goodIn_app (goodIn_of _ (by decide +kernel)) ggX7_letter_X7_within
theorem dX7_letter_0 : decode cX7_letter 0 = .ok (.aload_n 0, 1) := by decide +kernel
theorem dX7_letter_1 : decode cX7_letter 1 = .ok (.getfield 26, 3) := by decide +kernel
theorem dX7_letter_4 : decode cX7_letter 4 = .ok (.aload_n 0, 1) := by decide +kernel
theorem dX7_letter_5 : decode cX7_letter 5 = .ok (.getfield 10, 3) := by decide +kernel
theorem dX7_letter_8 : decode cX7_letter 8 = .ok (.invokevirtual 55, 3) := by decide +kernel
theorem dX7_letter_11 : decode cX7_letter 11 = .ok (.iload_n 1, 1) := by decide +kernel
theorem dX7_letter_12 : decode cX7_letter 12 = .ok (.iconst 0, 1) := by decide +kernel
theorem dX7_letter_13 : decode cX7_letter 13 = .ok (.aload_n 0, 1) := by decide +kernel
theorem dX7_letter_14 : decode cX7_letter 14 = .ok (.getfield 26, 3) := by decide +kernel
theorem dX7_letter_17 : decode cX7_letter 17 = .ok (.getfield 91, 3) := by decide +kernel
theorem dX7_letter_20 : decode cX7_letter 20 = .ok (.iconst 1, 1) := by decide +kernel
theorem dX7_letter_21 : decode cX7_letter 21 = .ok (.isub, 1) := by decide +kernel
theorem dX7_letter_22 : decode cX7_letter 22 = .ok (.invokestatic 134, 3) := by decide +kernel
theorem dX7_letter_25 : decode cX7_letter 25 = .ok (.ifCond .ne 6, 3) := by decide +kernel
theorem dX7_letter_28 : decode cX7_letter 28 = .ok (.ldc 110, 2) := by decide +kernel
theorem dX7_letter_30 : decode cX7_letter 30 = .ok (.ireturn, 1) := by decide +kernel
theorem dX7_letter_31 : decode cX7_letter 31 = .ok (.iload_n 2, 1) := by decide +kernel
theorem dX7_letter_32 : decode cX7_letter 32 = .ok (.tableswitch 66 0 2 #[28, 38, 48], 28) := by decide +kernel
theorem dX7_letter_60 : decode cX7_letter 60 = .ok (.aload_n 0, 1) := by decide +kernel
theorem dX7_letter_61 : decode cX7_letter 61 = .ok (.getfield 26, 3) := by decide +kernel
theorem dX7_letter_64 : decode cX7_letter 64 = .ok (.getfield 161, 3) := by decide +kernel
theorem dX7_letter_67 : decode cX7_letter 67 = .ok (.iload_n 1, 1) := by decide +kernel
theorem dX7_letter_68 : decode cX7_letter 68 = .ok (.iaload, 1) := by decide +kernel
theorem dX7_letter_69 : decode cX7_letter 69 = .ok (.ireturn, 1) := by decide +kernel
theorem dX7_letter_70 : decode cX7_letter 70 = .ok (.aload_n 0, 1) := by decide +kernel
theorem dX7_letter_71 : decode cX7_letter 71 = .ok (.getfield 26, 3) := by decide +kernel
theorem dX7_letter_74 : decode cX7_letter 74 = .ok (.getfield 164, 3) := by decide +kernel
theorem dX7_letter_77 : decode cX7_letter 77 = .ok (.iload_n 1, 1) := by decide +kernel
theorem dX7_letter_78 : decode cX7_letter 78 = .ok (.iaload, 1) := by decide +kernel
theorem dX7_letter_79 : decode cX7_letter 79 = .ok (.ireturn, 1) := by decide +kernel
theorem dX7_letter_80 : decode cX7_letter 80 = .ok (.aload_n 0, 1) := by decide +kernel
theorem dX7_letter_81 : decode cX7_letter 81 = .ok (.getfield 26, 3) := by decide +kernel
theorem dX7_letter_84 : decode cX7_letter 84 = .ok (.getfield 167, 3) := by decide +kernel
theorem dX7_letter_87 : decode cX7_letter 87 = .ok (.iload_n 1, 1) := by decide +kernel
theorem dX7_letter_88 : decode cX7_letter 88 = .ok (.baload, 1) := by decide +kernel
theorem dX7_letter_89 : decode cX7_letter 89 = .ok (.ifCond .eq 7, 3) := by decide +kernel
theorem dX7_letter_92 : decode cX7_letter 92 = .ok (.iconst 1, 1) := by decide +kernel
theorem dX7_letter_93 : decode cX7_letter 93 = .ok (.goto 4, 3) := by decide +kernel
theorem dX7_letter_96 : decode cX7_letter 96 = .ok (.iconst 0, 1) := by decide +kernel
theorem dX7_letter_97 : decode cX7_letter 97 = .ok (.ireturn, 1) := by decide +kernel
theorem dX7_letter_98 : decode cX7_letter 98 = .ok (.ldc 105, 2) := by decide +kernel
theorem dX7_letter_100 : decode cX7_letter 100 = .ok (.ireturn, 1) := by decide +kernel
set_option maxRecDepth 20000 in
theorem ggX7_sent_X6_trace : GoodIn wsX7_sent wsX6_trace := goodIn_r _ [12, 13, 14, 15, 11, 16, 17, 18, 19, 20, 21, 22, 23, 24, 25, 26, 27, 28, 29, 30, 31, 32, 33, 34, 35, 36, 37, 38, 39, 40, 41, 42, 43, 44, 45, 46, 47, 48, 49, 50, 51, 52, 53, 54, 55, 56, 112, 113, 114, 115, 116, 117, 118, 119, 120, 121, 122, 123, 124, 125, 126, 127] (by decide +kernel) (by decide +kernel)
set_option maxRecDepth 20000 in
theorem gX7_sent_X6_trace : GoodIn wsX7_sent (wsV RX7 55 RX6 yX6_trace wsX6_trace) := goodIn_app (goodIn_of _ (by decide +kernel)) ggX7_sent_X6_trace
set_option maxRecDepth 20000 in
theorem ggX7_sent_X7_within : GoodIn wsX7_sent wsX7_within := goodIn_r _ [59] (by decide +kernel) (by decide +kernel)
set_option maxRecDepth 20000 in
theorem gX7_sent_X7_within : GoodIn wsX7_sent (va_wsS RX7 134 yX7_within wsX7_within) := goodIn_app (goodIn_of _ (by decide +kernel)) ggX7_sent_X7_within
set_option maxRecDepth 20000 in
theorem ggX7_sent_X6_gather : GoodIn wsX7_sent wsX6_gather := goodIn_r _ [63, 28, 64, 17, 65, 66, 67, 37, 45, 44, 43, 68, 69, 70, 71, 72, 73, 74, 75, 76, 77, 78, 79, 30, 31, 32, 80, 81, 82, 83, 84, 85, 86, 87, 88, 89, 90, 91, 92, 93, 94, 95, 96, 97, 98, 99, 100, 101, 102, 103, 104, 122, 123, 124, 125, 126, 127, 112, 113, 114, 115, 116, 117, 118, 119, 120, 121] (by decide +kernel) (by decide +kernel)
set_option maxRecDepth 20000 in
theorem gX7_sent_X6_gather : GoodIn wsX7_sent (wsV RX7 150 RX6 yX6_gather wsX6_gather) := goodIn_app (goodIn_of _ (by decide +kernel)) ggX7_sent_X6_gather
theorem dX7_sent_0 : decode cX7_sent 0 = .ok (.aload_n 0, 1) := by decide +kernel
theorem dX7_sent_1 : decode cX7_sent 1 = .ok (.getfield 26, 3) := by decide +kernel
theorem dX7_sent_4 : decode cX7_sent 4 = .ok (.aload_n 0, 1) := by decide +kernel
theorem dX7_sent_5 : decode cX7_sent 5 = .ok (.getfield 10, 3) := by decide +kernel
theorem dX7_sent_8 : decode cX7_sent 8 = .ok (.invokevirtual 55, 3) := by decide +kernel
theorem dX7_sent_11 : decode cX7_sent 11 = .ok (.iload_n 1, 1) := by decide +kernel
theorem dX7_sent_12 : decode cX7_sent 12 = .ok (.iconst 0, 1) := by decide +kernel
theorem dX7_sent_13 : decode cX7_sent 13 = .ok (.aload_n 0, 1) := by decide +kernel
theorem dX7_sent_14 : decode cX7_sent 14 = .ok (.getfield 26, 3) := by decide +kernel
theorem dX7_sent_17 : decode cX7_sent 17 = .ok (.getfield 91, 3) := by decide +kernel
theorem dX7_sent_20 : decode cX7_sent 20 = .ok (.iconst 1, 1) := by decide +kernel
theorem dX7_sent_21 : decode cX7_sent 21 = .ok (.isub, 1) := by decide +kernel
theorem dX7_sent_22 : decode cX7_sent 22 = .ok (.invokestatic 134, 3) := by decide +kernel
theorem dX7_sent_25 : decode cX7_sent 25 = .ok (.ifCond .ne 7, 3) := by decide +kernel
theorem dX7_sent_28 : decode cX7_sent 28 = .ok (.ldc2_w 146, 3) := by decide +kernel
theorem dX7_sent_31 : decode cX7_sent 31 = .ok (.lreturn, 1) := by decide +kernel
theorem dX7_sent_32 : decode cX7_sent 32 = .ok (.iload_n 2, 1) := by decide +kernel
theorem dX7_sent_33 : decode cX7_sent 33 = .ok (.iconst 0, 1) := by decide +kernel
theorem dX7_sent_34 : decode cX7_sent 34 = .ok (.iconst 3, 1) := by decide +kernel
theorem dX7_sent_35 : decode cX7_sent 35 = .ok (.invokestatic 134, 3) := by decide +kernel
theorem dX7_sent_38 : decode cX7_sent 38 = .ok (.ifCond .ne 7, 3) := by decide +kernel
theorem dX7_sent_41 : decode cX7_sent 41 = .ok (.ldc2_w 148, 3) := by decide +kernel
theorem dX7_sent_44 : decode cX7_sent 44 = .ok (.lreturn, 1) := by decide +kernel
theorem dX7_sent_45 : decode cX7_sent 45 = .ok (.aload_n 0, 1) := by decide +kernel
theorem dX7_sent_46 : decode cX7_sent 46 = .ok (.getfield 26, 3) := by decide +kernel
theorem dX7_sent_49 : decode cX7_sent 49 = .ok (.aload_n 0, 1) := by decide +kernel
theorem dX7_sent_50 : decode cX7_sent 50 = .ok (.getfield 10, 3) := by decide +kernel
theorem dX7_sent_53 : decode cX7_sent 53 = .ok (.iload_n 2, 1) := by decide +kernel
theorem dX7_sent_54 : decode cX7_sent 54 = .ok (.invokevirtual 150, 3) := by decide +kernel
theorem dX7_sent_57 : decode cX7_sent 57 = .ok (.aload_n 0, 1) := by decide +kernel
theorem dX7_sent_58 : decode cX7_sent 58 = .ok (.getfield 26, 3) := by decide +kernel
theorem dX7_sent_61 : decode cX7_sent 61 = .ok (.getfield 154, 3) := by decide +kernel
theorem dX7_sent_64 : decode cX7_sent 64 = .ok (.aload_n 0, 1) := by decide +kernel
theorem dX7_sent_65 : decode cX7_sent 65 = .ok (.getfield 26, 3) := by decide +kernel
theorem dX7_sent_68 : decode cX7_sent 68 = .ok (.getfield 161, 3) := by decide +kernel
theorem dX7_sent_71 : decode cX7_sent 71 = .ok (.iload_n 1, 1) := by decide +kernel
theorem dX7_sent_72 : decode cX7_sent 72 = .ok (.iaload, 1) := by decide +kernel
theorem dX7_sent_73 : decode cX7_sent 73 = .ok (.laload, 1) := by decide +kernel
theorem dX7_sent_74 : decode cX7_sent 74 = .ok (.lreturn, 1) := by decide +kernel
set_option maxRecDepth 20000 in
theorem ggX7_rows_X7_within : GoodIn wsX7_rows wsX7_within := goodIn_r _ [6] (by decide +kernel) (by decide +kernel)
set_option maxRecDepth 20000 in
theorem gX7_rows_X7_within : GoodIn wsX7_rows (va_wsS RX7 134 yX7_within wsX7_within) := goodIn_app (goodIn_of _ (by decide +kernel)) ggX7_rows_X7_within
set_option maxRecDepth 20000 in
theorem ggX7_rows_J7_fill_d0a16 : GoodIn wsX7_rows wsJ7_fill_d0a16 := goodIn_r _ [10] (by decide +kernel) (by decide +kernel)
set_option maxRecDepth 20000 in
theorem gX7_rows_J7_fill_d0a16 : GoodIn wsX7_rows (va_wsS RX7 171 yJ7_fill_d0a16 wsJ7_fill_d0a16) := goodIn_app (goodIn_of _ (by decide +kernel)) ggX7_rows_J7_fill_d0a16
set_option maxRecDepth 20000 in
theorem ggX7_rows_X7_waysOfRank : GoodIn wsX7_rows wsX7_waysOfRank := goodIn_r _ [13] (by decide +kernel) (by decide +kernel)
set_option maxRecDepth 20000 in
theorem gX7_rows_X7_waysOfRank : GoodIn wsX7_rows (va_wsS RX7 177 yX7_waysOfRank wsX7_waysOfRank) := goodIn_app (goodIn_of _ (by decide +kernel)) ggX7_rows_X7_waysOfRank
set_option maxRecDepth 20000 in
theorem ggX7_rows_X7_rowsJoined : GoodIn wsX7_rows wsX7_rowsJoined := goodIn_r _ [17, 2, 21, 22, 23, 24, 25, 26, 27] (by decide +kernel) (by decide +kernel)
set_option maxRecDepth 20000 in
theorem gX7_rows_X7_rowsJoined : GoodIn wsX7_rows (wsV RX7 181 RX7 yX7_rowsJoined wsX7_rowsJoined) := goodIn_app (goodIn_of _ (by decide +kernel)) ggX7_rows_X7_rowsJoined
set_option maxRecDepth 20000 in
theorem ggX7_rows_X7_waysAboveRank : GoodIn wsX7_rows wsX7_waysAboveRank := goodIn_r _ [20] (by decide +kernel) (by decide +kernel)
set_option maxRecDepth 20000 in
theorem gX7_rows_X7_waysAboveRank : GoodIn wsX7_rows (va_wsS RX7 185 yX7_waysAboveRank wsX7_waysAboveRank) := goodIn_app (goodIn_of _ (by decide +kernel)) ggX7_rows_X7_waysAboveRank
theorem dX7_rows_0 : decode cX7_rows 0 = .ok (.iload_n 1, 1) := by decide +kernel
theorem dX7_rows_1 : decode cX7_rows 1 = .ok (.iconst 1, 1) := by decide +kernel
theorem dX7_rows_2 : decode cX7_rows 2 = .ok (.bipush 8, 2) := by decide +kernel
theorem dX7_rows_4 : decode cX7_rows 4 = .ok (.invokestatic 134, 3) := by decide +kernel
theorem dX7_rows_7 : decode cX7_rows 7 = .ok (.ifCond .eq 13, 3) := by decide +kernel
theorem dX7_rows_10 : decode cX7_rows 10 = .ok (.iload_n 2, 1) := by decide +kernel
theorem dX7_rows_11 : decode cX7_rows 11 = .ok (.iconst 0, 1) := by decide +kernel
theorem dX7_rows_12 : decode cX7_rows 12 = .ok (.bipush 8, 2) := by decide +kernel
theorem dX7_rows_14 : decode cX7_rows 14 = .ok (.invokestatic 134, 3) := by decide +kernel
theorem dX7_rows_17 : decode cX7_rows 17 = .ok (.ifCond .ne 7, 3) := by decide +kernel
theorem dX7_rows_20 : decode cX7_rows 20 = .ok (.ldc2_w 148, 3) := by decide +kernel
theorem dX7_rows_23 : decode cX7_rows 23 = .ok (.lreturn, 1) := by decide +kernel
theorem dX7_rows_24 : decode cX7_rows 24 = .ok (.aload_n 0, 1) := by decide +kernel
theorem dX7_rows_25 : decode cX7_rows 25 = .ok (.getfield 51, 3) := by decide +kernel
theorem dX7_rows_28 : decode cX7_rows 28 = .ok (.lconst 0, 1) := by decide +kernel
theorem dX7_rows_29 : decode cX7_rows 29 = .ok (.invokestatic 171, 3) := by decide +kernel
theorem dX7_rows_32 : decode cX7_rows 32 = .ok (.aload_n 0, 1) := by decide +kernel
theorem dX7_rows_33 : decode cX7_rows 33 = .ok (.getfield 51, 3) := by decide +kernel
theorem dX7_rows_36 : decode cX7_rows 36 = .ok (.iconst 0, 1) := by decide +kernel
theorem dX7_rows_37 : decode cX7_rows 37 = .ok (.lconst 1, 1) := by decide +kernel
theorem dX7_rows_38 : decode cX7_rows 38 = .ok (.lastore, 1) := by decide +kernel
theorem dX7_rows_39 : decode cX7_rows 39 = .ok (.iconst 0, 1) := by decide +kernel
theorem dX7_rows_40 : decode cX7_rows 40 = .ok (.istore_n 3, 1) := by decide +kernel
theorem dX7_rows_41 : decode cX7_rows 41 = .ok (.iload_n 3, 1) := by decide +kernel
theorem dX7_rows_42 : decode cX7_rows 42 = .ok (.iload_n 2, 1) := by decide +kernel
theorem dX7_rows_43 : decode cX7_rows 43 = .ok (.if_icmp .ge 41, 3) := by decide +kernel
theorem dX7_rows_46 : decode cX7_rows 46 = .ok (.iload_n 1, 1) := by decide +kernel
theorem dX7_rows_47 : decode cX7_rows 47 = .ok (.istore 4, 2) := by decide +kernel
theorem dX7_rows_49 : decode cX7_rows 49 = .ok (.iload 4, 2) := by decide +kernel
theorem dX7_rows_51 : decode cX7_rows 51 = .ok (.ifCond .lt 27, 3) := by decide +kernel
theorem dX7_rows_54 : decode cX7_rows 54 = .ok (.aload_n 0, 1) := by decide +kernel
theorem dX7_rows_55 : decode cX7_rows 55 = .ok (.getfield 51, 3) := by decide +kernel
theorem dX7_rows_58 : decode cX7_rows 58 = .ok (.iload 4, 2) := by decide +kernel
theorem dX7_rows_60 : decode cX7_rows 60 = .ok (.aload_n 0, 1) := by decide +kernel
theorem dX7_rows_61 : decode cX7_rows 61 = .ok (.iload 4, 2) := by decide +kernel
theorem dX7_rows_63 : decode cX7_rows 63 = .ok (.iconst 1, 1) := by decide +kernel
theorem dX7_rows_64 : decode cX7_rows 64 = .ok (.iload_n 3, 1) := by decide +kernel
theorem dX7_rows_65 : decode cX7_rows 65 = .ok (.invokestatic 177, 3) := by decide +kernel
theorem dX7_rows_68 : decode cX7_rows 68 = .ok (.invokevirtual 181, 3) := by decide +kernel
theorem dX7_rows_71 : decode cX7_rows 71 = .ok (.lastore, 1) := by decide +kernel
theorem dX7_rows_72 : decode cX7_rows 72 = .ok (.iinc 4 (-1), 3) := by decide +kernel
theorem dX7_rows_75 : decode cX7_rows 75 = .ok (.goto (-26), 3) := by decide +kernel
theorem dX7_rows_78 : decode cX7_rows 78 = .ok (.iinc 3 1, 3) := by decide +kernel
theorem dX7_rows_81 : decode cX7_rows 81 = .ok (.goto (-40), 3) := by decide +kernel
theorem dX7_rows_84 : decode cX7_rows 84 = .ok (.aload_n 0, 1) := by decide +kernel
theorem dX7_rows_85 : decode cX7_rows 85 = .ok (.iload_n 1, 1) := by decide +kernel
theorem dX7_rows_86 : decode cX7_rows 86 = .ok (.iconst 0, 1) := by decide +kernel
theorem dX7_rows_87 : decode cX7_rows 87 = .ok (.iload_n 2, 1) := by decide +kernel
theorem dX7_rows_88 : decode cX7_rows 88 = .ok (.invokestatic 185, 3) := by decide +kernel
theorem dX7_rows_91 : decode cX7_rows 91 = .ok (.invokevirtual 181, 3) := by decide +kernel
theorem dX7_rows_94 : decode cX7_rows 94 = .ok (.lreturn, 1) := by decide +kernel
set_option maxRecDepth 20000 in
theorem ggX7_node_X3_everyone : GoodIn wsX7_node wsX3_everyone := goodIn_r _ [12, 13, 56, 57, 58, 59, 60, 61] (by decide +kernel) (by decide +kernel)
set_option maxRecDepth 20000 in
theorem gX7_node_X3_everyone : GoodIn wsX7_node (wsV RX7 188 RX3 yX3_everyone wsX3_everyone) := goodIn_app (goodIn_of _ (by decide +kernel)) ggX7_node_X3_everyone
set_option maxRecDepth 20000 in
theorem ggX7_node_X7_within : GoodIn wsX7_node wsX7_within := goodIn_r _ [17] (by decide +kernel) (by decide +kernel)
set_option maxRecDepth 20000 in
theorem gX7_node_X7_within : GoodIn wsX7_node (va_wsS RX7 134 yX7_within wsX7_within) := goodIn_app (goodIn_of _ (by decide +kernel)) ggX7_node_X7_within
set_option maxRecDepth 20000 in
theorem ggX7_node_X4_remember : GoodIn wsX7_node wsX4_remember := goodIn_r _ [22, 23, 24, 25, 26, 27, 28, 29, 30, 31, 32, 11, 33, 13, 34, 35, 36, 37, 38, 39, 40, 41, 42, 62, 63, 64, 56, 57, 58, 59, 60, 61] (by decide +kernel) (by decide +kernel)
set_option maxRecDepth 20000 in
theorem gX7_node_X4_remember : GoodIn wsX7_node (wsV RX7 193 RX4 yX4_remember wsX4_remember) := goodIn_app (goodIn_of _ (by decide +kernel)) ggX7_node_X4_remember
set_option maxRecDepth 20000 in
theorem ggX7_node_X3_add : GoodIn wsX7_node wsX3_add := goodIn_r _ [46, 13, 36, 41, 42, 47, 16, 48, 56, 57, 58, 59, 60, 61] (by decide +kernel) (by decide +kernel)
set_option maxRecDepth 20000 in
theorem gX7_node_X3_add : GoodIn wsX7_node (wsV RX7 196 RX3 yX3_add wsX3_add) := goodIn_app (goodIn_of _ (by decide +kernel)) ggX7_node_X3_add
theorem dX7_node_0 : decode cX7_node 0 = .ok (.iload_n 1, 1) := by decide +kernel
theorem dX7_node_1 : decode cX7_node 1 = .ok (.aload_n 0, 1) := by decide +kernel
theorem dX7_node_2 : decode cX7_node 2 = .ok (.getfield 10, 3) := by decide +kernel
theorem dX7_node_5 : decode cX7_node 5 = .ok (.invokevirtual 188, 3) := by decide +kernel
theorem dX7_node_8 : decode cX7_node 8 = .ok (.iconst (-1), 1) := by decide +kernel
theorem dX7_node_9 : decode cX7_node 9 = .ok (.ixor, 1) := by decide +kernel
theorem dX7_node_10 : decode cX7_node 10 = .ok (.iand, 1) := by decide +kernel
theorem dX7_node_11 : decode cX7_node 11 = .ok (.ifCond .eq 6, 3) := by decide +kernel
theorem dX7_node_14 : decode cX7_node 14 = .ok (.ldc 110, 2) := by decide +kernel
theorem dX7_node_16 : decode cX7_node 16 = .ok (.ireturn, 1) := by decide +kernel
theorem dX7_node_17 : decode cX7_node 17 = .ok (.iload_n 2, 1) := by decide +kernel
theorem dX7_node_18 : decode cX7_node 18 = .ok (.iconst 0, 1) := by decide +kernel
theorem dX7_node_19 : decode cX7_node 19 = .ok (.ldc 191, 2) := by decide +kernel
theorem dX7_node_21 : decode cX7_node 21 = .ok (.invokestatic 134, 3) := by decide +kernel
theorem dX7_node_24 : decode cX7_node 24 = .ok (.ifCond .ne 6, 3) := by decide +kernel
theorem dX7_node_27 : decode cX7_node 27 = .ok (.ldc 105, 2) := by decide +kernel
theorem dX7_node_29 : decode cX7_node 29 = .ok (.ireturn, 1) := by decide +kernel
theorem dX7_node_30 : decode cX7_node 30 = .ok (.aload_n 0, 1) := by decide +kernel
theorem dX7_node_31 : decode cX7_node 31 = .ok (.getfield 10, 3) := by decide +kernel
theorem dX7_node_34 : decode cX7_node 34 = .ok (.getfield 59, 3) := by decide +kernel
theorem dX7_node_37 : decode cX7_node 37 = .ok (.bipush 9, 2) := by decide +kernel
theorem dX7_node_39 : decode cX7_node 39 = .ok (.if_icmp .lt 6, 3) := by decide +kernel
theorem dX7_node_42 : decode cX7_node 42 = .ok (.ldc 192, 2) := by decide +kernel
theorem dX7_node_44 : decode cX7_node 44 = .ok (.ireturn, 1) := by decide +kernel
theorem dX7_node_45 : decode cX7_node 45 = .ok (.aload_n 0, 1) := by decide +kernel
theorem dX7_node_46 : decode cX7_node 46 = .ok (.getfield 19, 3) := by decide +kernel
theorem dX7_node_49 : decode cX7_node 49 = .ok (.aload_n 0, 1) := by decide +kernel
theorem dX7_node_50 : decode cX7_node 50 = .ok (.getfield 10, 3) := by decide +kernel
theorem dX7_node_53 : decode cX7_node 53 = .ok (.invokevirtual 193, 3) := by decide +kernel
theorem dX7_node_56 : decode cX7_node 56 = .ok (.aload_n 0, 1) := by decide +kernel
theorem dX7_node_57 : decode cX7_node 57 = .ok (.getfield 10, 3) := by decide +kernel
theorem dX7_node_60 : decode cX7_node 60 = .ok (.iload_n 1, 1) := by decide +kernel
theorem dX7_node_61 : decode cX7_node 61 = .ok (.iload_n 2, 1) := by decide +kernel
theorem dX7_node_62 : decode cX7_node 62 = .ok (.invokevirtual 196, 3) := by decide +kernel
theorem dX7_node_65 : decode cX7_node 65 = .ok (.aload_n 0, 1) := by decide +kernel
theorem dX7_node_66 : decode cX7_node 66 = .ok (.getfield 10, 3) := by decide +kernel
theorem dX7_node_69 : decode cX7_node 69 = .ok (.getfield 59, 3) := by decide +kernel
theorem dX7_node_72 : decode cX7_node 72 = .ok (.iconst 1, 1) := by decide +kernel
theorem dX7_node_73 : decode cX7_node 73 = .ok (.isub, 1) := by decide +kernel
theorem dX7_node_74 : decode cX7_node 74 = .ok (.ireturn, 1) := by decide +kernel
set_option maxRecDepth 20000 in
theorem ggX7_take_X4_remember : GoodIn wsX7_take wsX4_remember := goodIn_r _ [9, 10, 11, 12, 13, 14, 15, 16, 17, 18, 19, 20, 21, 22, 23, 24, 25, 26, 27, 28, 29, 30, 31, 53, 54, 55, 47, 48, 49, 50, 51, 52] (by decide +kernel) (by decide +kernel)
set_option maxRecDepth 20000 in
theorem gX7_take_X4_remember : GoodIn wsX7_take (wsV RX7 193 RX4 yX4_remember wsX4_remember) := goodIn_app (goodIn_of _ (by decide +kernel)) ggX7_take_X4_remember
set_option maxRecDepth 20000 in
theorem ggX7_take_X3_dropLatest : GoodIn wsX7_take wsX3_dropLatest := goodIn_r _ [35, 22, 25, 30, 31, 36, 37, 38, 20, 39, 47, 48, 49, 50, 51, 52] (by decide +kernel) (by decide +kernel)
set_option maxRecDepth 20000 in
theorem gX7_take_X3_dropLatest : GoodIn wsX7_take (wsV RX7 201 RX3 yX3_dropLatest wsX3_dropLatest) := goodIn_app (goodIn_of _ (by decide +kernel)) ggX7_take_X3_dropLatest
theorem dX7_take_0 : decode cX7_take 0 = .ok (.aload_n 0, 1) := by decide +kernel
theorem dX7_take_1 : decode cX7_take 1 = .ok (.getfield 10, 3) := by decide +kernel
theorem dX7_take_4 : decode cX7_take 4 = .ok (.getfield 59, 3) := by decide +kernel
theorem dX7_take_7 : decode cX7_take 7 = .ok (.iconst 1, 1) := by decide +kernel
theorem dX7_take_8 : decode cX7_take 8 = .ok (.if_icmp .gt 6, 3) := by decide +kernel
theorem dX7_take_11 : decode cX7_take 11 = .ok (.ldc 200, 2) := by decide +kernel
theorem dX7_take_13 : decode cX7_take 13 = .ok (.ireturn, 1) := by decide +kernel
theorem dX7_take_14 : decode cX7_take 14 = .ok (.aload_n 0, 1) := by decide +kernel
theorem dX7_take_15 : decode cX7_take 15 = .ok (.getfield 19, 3) := by decide +kernel
theorem dX7_take_18 : decode cX7_take 18 = .ok (.aload_n 0, 1) := by decide +kernel
theorem dX7_take_19 : decode cX7_take 19 = .ok (.getfield 10, 3) := by decide +kernel
theorem dX7_take_22 : decode cX7_take 22 = .ok (.invokevirtual 193, 3) := by decide +kernel
theorem dX7_take_25 : decode cX7_take 25 = .ok (.aload_n 0, 1) := by decide +kernel
theorem dX7_take_26 : decode cX7_take 26 = .ok (.getfield 10, 3) := by decide +kernel
theorem dX7_take_29 : decode cX7_take 29 = .ok (.invokevirtual 201, 3) := by decide +kernel
theorem dX7_take_32 : decode cX7_take 32 = .ok (.aload_n 0, 1) := by decide +kernel
theorem dX7_take_33 : decode cX7_take 33 = .ok (.getfield 10, 3) := by decide +kernel
theorem dX7_take_36 : decode cX7_take 36 = .ok (.getfield 59, 3) := by decide +kernel
theorem dX7_take_39 : decode cX7_take 39 = .ok (.ireturn, 1) := by decide +kernel
set_option maxRecDepth 20000 in
theorem ggX7_link_X3_has : GoodIn wsX7_link wsX3_has := goodIn_r _ [8, 9, 54, 55, 56, 57, 58, 59] (by decide +kernel) (by decide +kernel)
set_option maxRecDepth 20000 in
theorem gX7_link_X3_has : GoodIn wsX7_link (wsV RX7 106 RX3 yX3_has wsX3_has) := goodIn_app (goodIn_of _ (by decide +kernel)) ggX7_link_X3_has
set_option maxRecDepth 20000 in
theorem ggX7_link_X4_remember : GoodIn wsX7_link wsX4_remember := goodIn_r _ [14, 15, 16, 17, 18, 19, 20, 21, 22, 23, 24, 7, 25, 9, 26, 27, 28, 29, 30, 31, 32, 33, 34, 60, 61, 62, 54, 55, 56, 57, 58, 59] (by decide +kernel) (by decide +kernel)
set_option maxRecDepth 20000 in
theorem gX7_link_X4_remember : GoodIn wsX7_link (wsV RX7 193 RX4 yX4_remember wsX4_remember) := goodIn_app (goodIn_of _ (by decide +kernel)) ggX7_link_X4_remember
set_option maxRecDepth 20000 in
theorem ggX7_link_X3_turnLink : GoodIn wsX7_link wsX3_turnLink := goodIn_r _ [38, 28, 33, 54, 55, 56, 57, 58, 59] (by decide +kernel) (by decide +kernel)
set_option maxRecDepth 20000 in
theorem gX7_link_X3_turnLink : GoodIn wsX7_link (wsV RX7 204 RX3 yX3_turnLink wsX3_turnLink) := goodIn_app (goodIn_of _ (by decide +kernel)) ggX7_link_X3_turnLink
set_option maxRecDepth 20000 in
theorem ggX7_link_X3_hasLink : GoodIn wsX7_link wsX3_hasLink := goodIn_r _ [42, 28, 43, 5, 6, 7, 8, 9, 44, 45, 46, 54, 55, 56, 57, 58, 59] (by decide +kernel) (by decide +kernel)
set_option maxRecDepth 20000 in
theorem gX7_link_X3_hasLink : GoodIn wsX7_link (wsV RX7 127 RX3 yX3_hasLink wsX3_hasLink) := goodIn_app (goodIn_of _ (by decide +kernel)) ggX7_link_X3_hasLink
theorem dX7_link_0 : decode cX7_link 0 = .ok (.aload_n 0, 1) := by decide +kernel
theorem dX7_link_1 : decode cX7_link 1 = .ok (.getfield 10, 3) := by decide +kernel
theorem dX7_link_4 : decode cX7_link 4 = .ok (.iload_n 1, 1) := by decide +kernel
theorem dX7_link_5 : decode cX7_link 5 = .ok (.invokevirtual 106, 3) := by decide +kernel
theorem dX7_link_8 : decode cX7_link 8 = .ok (.ifCond .eq 19, 3) := by decide +kernel
theorem dX7_link_11 : decode cX7_link 11 = .ok (.aload_n 0, 1) := by decide +kernel
theorem dX7_link_12 : decode cX7_link 12 = .ok (.getfield 10, 3) := by decide +kernel
theorem dX7_link_15 : decode cX7_link 15 = .ok (.iload_n 2, 1) := by decide +kernel
theorem dX7_link_16 : decode cX7_link 16 = .ok (.invokevirtual 106, 3) := by decide +kernel
theorem dX7_link_19 : decode cX7_link 19 = .ok (.ifCond .eq 8, 3) := by decide +kernel
theorem dX7_link_22 : decode cX7_link 22 = .ok (.iload_n 1, 1) := by decide +kernel
theorem dX7_link_23 : decode cX7_link 23 = .ok (.iload_n 2, 1) := by decide +kernel
theorem dX7_link_24 : decode cX7_link 24 = .ok (.if_icmp .ne 6, 3) := by decide +kernel
theorem dX7_link_27 : decode cX7_link 27 = .ok (.ldc 110, 2) := by decide +kernel
theorem dX7_link_29 : decode cX7_link 29 = .ok (.ireturn, 1) := by decide +kernel
theorem dX7_link_30 : decode cX7_link 30 = .ok (.aload_n 0, 1) := by decide +kernel
theorem dX7_link_31 : decode cX7_link 31 = .ok (.getfield 19, 3) := by decide +kernel
theorem dX7_link_34 : decode cX7_link 34 = .ok (.aload_n 0, 1) := by decide +kernel
theorem dX7_link_35 : decode cX7_link 35 = .ok (.getfield 10, 3) := by decide +kernel
theorem dX7_link_38 : decode cX7_link 38 = .ok (.invokevirtual 193, 3) := by decide +kernel
theorem dX7_link_41 : decode cX7_link 41 = .ok (.aload_n 0, 1) := by decide +kernel
theorem dX7_link_42 : decode cX7_link 42 = .ok (.getfield 10, 3) := by decide +kernel
theorem dX7_link_45 : decode cX7_link 45 = .ok (.iload_n 1, 1) := by decide +kernel
theorem dX7_link_46 : decode cX7_link 46 = .ok (.iload_n 2, 1) := by decide +kernel
theorem dX7_link_47 : decode cX7_link 47 = .ok (.invokevirtual 204, 3) := by decide +kernel
theorem dX7_link_50 : decode cX7_link 50 = .ok (.aload_n 0, 1) := by decide +kernel
theorem dX7_link_51 : decode cX7_link 51 = .ok (.getfield 10, 3) := by decide +kernel
theorem dX7_link_54 : decode cX7_link 54 = .ok (.iload_n 1, 1) := by decide +kernel
theorem dX7_link_55 : decode cX7_link 55 = .ok (.iload_n 2, 1) := by decide +kernel
theorem dX7_link_56 : decode cX7_link 56 = .ok (.invokevirtual 127, 3) := by decide +kernel
theorem dX7_link_59 : decode cX7_link 59 = .ok (.ifCond .eq 7, 3) := by decide +kernel
theorem dX7_link_62 : decode cX7_link 62 = .ok (.iconst 1, 1) := by decide +kernel
theorem dX7_link_63 : decode cX7_link 63 = .ok (.goto 4, 3) := by decide +kernel
theorem dX7_link_66 : decode cX7_link 66 = .ok (.iconst 0, 1) := by decide +kernel
theorem dX7_link_67 : decode cX7_link 67 = .ok (.ireturn, 1) := by decide +kernel
set_option maxRecDepth 20000 in
theorem ggX7_lose_X3_hasLink : GoodIn wsX7_lose wsX3_hasLink := goodIn_r _ [8, 9, 10, 11, 12, 7, 13, 14, 15, 16, 17, 57, 58, 59, 60, 61, 62] (by decide +kernel) (by decide +kernel)
set_option maxRecDepth 20000 in
theorem gX7_lose_X3_hasLink : GoodIn wsX7_lose (wsV RX7 127 RX3 yX3_hasLink wsX3_hasLink) := goodIn_app (goodIn_of _ (by decide +kernel)) ggX7_lose_X3_hasLink
set_option maxRecDepth 20000 in
theorem ggX7_lose_X4_remember : GoodIn wsX7_lose wsX4_remember := goodIn_r _ [22, 23, 24, 25, 26, 27, 28, 29, 30, 31, 32, 7, 33, 14, 34, 35, 9, 36, 37, 38, 39, 40, 41, 63, 64, 65, 57, 58, 59, 60, 61, 62] (by decide +kernel) (by decide +kernel)
set_option maxRecDepth 20000 in
theorem gX7_lose_X4_remember : GoodIn wsX7_lose (wsV RX7 193 RX4 yX4_remember wsX4_remember) := goodIn_app (goodIn_of _ (by decide +kernel)) ggX7_lose_X4_remember
set_option maxRecDepth 20000 in
theorem ggX7_lose_X3_turnLost : GoodIn wsX7_lose wsX3_turnLost := goodIn_r _ [45, 40, 57, 58, 59, 60, 61, 62] (by decide +kernel) (by decide +kernel)
set_option maxRecDepth 20000 in
theorem gX7_lose_X3_turnLost : GoodIn wsX7_lose (wsV RX7 207 RX3 yX3_turnLost wsX3_turnLost) := goodIn_app (goodIn_of _ (by decide +kernel)) ggX7_lose_X3_turnLost
set_option maxRecDepth 20000 in
theorem ggX7_lose_X3_hasLost : GoodIn wsX7_lose wsX3_hasLost := goodIn_r _ [49, 40, 10, 11, 12, 7, 13, 14, 15, 16, 17, 57, 58, 59, 60, 61, 62] (by decide +kernel) (by decide +kernel)
set_option maxRecDepth 20000 in
theorem gX7_lose_X3_hasLost : GoodIn wsX7_lose (wsV RX7 131 RX3 yX3_hasLost wsX3_hasLost) := goodIn_app (goodIn_of _ (by decide +kernel)) ggX7_lose_X3_hasLost
theorem dX7_lose_0 : decode cX7_lose 0 = .ok (.aload_n 0, 1) := by decide +kernel
theorem dX7_lose_1 : decode cX7_lose 1 = .ok (.getfield 10, 3) := by decide +kernel
theorem dX7_lose_4 : decode cX7_lose 4 = .ok (.iload_n 1, 1) := by decide +kernel
theorem dX7_lose_5 : decode cX7_lose 5 = .ok (.iload_n 2, 1) := by decide +kernel
theorem dX7_lose_6 : decode cX7_lose 6 = .ok (.invokevirtual 127, 3) := by decide +kernel
theorem dX7_lose_9 : decode cX7_lose 9 = .ok (.ifCond .ne 6, 3) := by decide +kernel
theorem dX7_lose_12 : decode cX7_lose 12 = .ok (.ldc 110, 2) := by decide +kernel
theorem dX7_lose_14 : decode cX7_lose 14 = .ok (.ireturn, 1) := by decide +kernel
