theorem dX8_upper_14 : decode cX8_upper 14 = .ok (.iload_n 2, 1) := by decide +kernel
theorem dX8_upper_15 : decode cX8_upper 15 = .ok (.aload_n 0, 1) := by decide +kernel
theorem dX8_upper_16 : decode cX8_upper 16 = .ok (.getfield 22, 3) := by decide +kernel
theorem dX8_upper_19 : decode cX8_upper 19 = .ok (.iload_n 1, 1) := by decide +kernel
theorem dX8_upper_20 : decode cX8_upper 20 = .ok (.iaload, 1) := by decide +kernel
theorem dX8_upper_21 : decode cX8_upper 21 = .ok (.ifCond .le 41, 3) := by decide +kernel
theorem dX8_upper_24 : decode cX8_upper 24 = .ok (.aload_n 0, 1) := by decide +kernel
theorem dX8_upper_25 : decode cX8_upper 25 = .ok (.getfield 9, 3) := by decide +kernel
theorem dX8_upper_28 : decode cX8_upper 28 = .ok (.iconst 3, 1) := by decide +kernel
theorem dX8_upper_29 : decode cX8_upper 29 = .ok (.iload_n 1, 1) := by decide +kernel
theorem dX8_upper_30 : decode cX8_upper 30 = .ok (.iadd, 1) := by decide +kernel
theorem dX8_upper_31 : decode cX8_upper 31 = .ok (.iaload, 1) := by decide +kernel
theorem dX8_upper_32 : decode cX8_upper 32 = .ok (.iload_n 3, 1) := by decide +kernel
theorem dX8_upper_33 : decode cX8_upper 33 = .ok (.invokestatic 55, 3) := by decide +kernel
theorem dX8_upper_36 : decode cX8_upper 36 = .ok (.ifCond .eq 26, 3) := by decide +kernel
theorem dX8_upper_39 : decode cX8_upper 39 = .ok (.aload_n 0, 1) := by decide +kernel
theorem dX8_upper_40 : decode cX8_upper 40 = .ok (.getfield 22, 3) := by decide +kernel
theorem dX8_upper_43 : decode cX8_upper 43 = .ok (.iload_n 3, 1) := by decide +kernel
theorem dX8_upper_44 : decode cX8_upper 44 = .ok (.iaload, 1) := by decide +kernel
theorem dX8_upper_45 : decode cX8_upper 45 = .ok (.aload_n 0, 1) := by decide +kernel
theorem dX8_upper_46 : decode cX8_upper 46 = .ok (.getfield 22, 3) := by decide +kernel
theorem dX8_upper_49 : decode cX8_upper 49 = .ok (.iload_n 1, 1) := by decide +kernel
theorem dX8_upper_50 : decode cX8_upper 50 = .ok (.iaload, 1) := by decide +kernel
theorem dX8_upper_51 : decode cX8_upper 51 = .ok (.iconst 1, 1) := by decide +kernel
theorem dX8_upper_52 : decode cX8_upper 52 = .ok (.isub, 1) := by decide +kernel
theorem dX8_upper_53 : decode cX8_upper 53 = .ok (.if_icmp .ne 9, 3) := by decide +kernel
theorem dX8_upper_56 : decode cX8_upper 56 = .ok (.iconst 1, 1) := by decide +kernel
theorem dX8_upper_57 : decode cX8_upper 57 = .ok (.iload_n 3, 1) := by decide +kernel
theorem dX8_upper_58 : decode cX8_upper 58 = .ok (.ishl, 1) := by decide +kernel
theorem dX8_upper_59 : decode cX8_upper 59 = .ok (.goto 4, 3) := by decide +kernel
theorem dX8_upper_62 : decode cX8_upper 62 = .ok (.iconst 0, 1) := by decide +kernel
theorem dX8_upper_63 : decode cX8_upper 63 = .ok (.ior, 1) := by decide +kernel
theorem dX8_upper_64 : decode cX8_upper 64 = .ok (.istore_n 2, 1) := by decide +kernel
theorem dX8_upper_65 : decode cX8_upper 65 = .ok (.iinc 3 1, 3) := by decide +kernel
theorem dX8_upper_68 : decode cX8_upper 68 = .ok (.goto (-64), 3) := by decide +kernel
theorem dX8_upper_71 : decode cX8_upper 71 = .ok (.iload_n 2, 1) := by decide +kernel
theorem dX8_upper_72 : decode cX8_upper 72 = .ok (.ireturn, 1) := by decide +kernel
theorem dX8_greatestRing_0 : decode cX8_greatestRing 0 = .ok (.iconst 0, 1) := by decide +kernel
theorem dX8_greatestRing_1 : decode cX8_greatestRing 1 = .ok (.istore_n 1, 1) := by decide +kernel
theorem dX8_greatestRing_2 : decode cX8_greatestRing 2 = .ok (.iconst 0, 1) := by decide +kernel
theorem dX8_greatestRing_3 : decode cX8_greatestRing 3 = .ok (.istore_n 2, 1) := by decide +kernel
theorem dX8_greatestRing_4 : decode cX8_greatestRing 4 = .ok (.iload_n 2, 1) := by decide +kernel
theorem dX8_greatestRing_5 : decode cX8_greatestRing 5 = .ok (.aload_n 0, 1) := by decide +kernel
theorem dX8_greatestRing_6 : decode cX8_greatestRing 6 = .ok (.getfield 9, 3) := by decide +kernel
theorem dX8_greatestRing_9 : decode cX8_greatestRing 9 = .ok (.iconst 0, 1) := by decide +kernel
theorem dX8_greatestRing_10 : decode cX8_greatestRing 10 = .ok (.iaload, 1) := by decide +kernel
theorem dX8_greatestRing_11 : decode cX8_greatestRing 11 = .ok (.if_icmp .ge 30, 3) := by decide +kernel
theorem dX8_greatestRing_14 : decode cX8_greatestRing 14 = .ok (.aload_n 0, 1) := by decide +kernel
theorem dX8_greatestRing_15 : decode cX8_greatestRing 15 = .ok (.getfield 22, 3) := by decide +kernel
theorem dX8_greatestRing_18 : decode cX8_greatestRing 18 = .ok (.iload_n 2, 1) := by decide +kernel
theorem dX8_greatestRing_19 : decode cX8_greatestRing 19 = .ok (.iaload, 1) := by decide +kernel
theorem dX8_greatestRing_20 : decode cX8_greatestRing 20 = .ok (.iload_n 1, 1) := by decide +kernel
theorem dX8_greatestRing_21 : decode cX8_greatestRing 21 = .ok (.if_icmp .le 12, 3) := by decide +kernel
theorem dX8_greatestRing_24 : decode cX8_greatestRing 24 = .ok (.aload_n 0, 1) := by decide +kernel
theorem dX8_greatestRing_25 : decode cX8_greatestRing 25 = .ok (.getfield 22, 3) := by decide +kernel
theorem dX8_greatestRing_28 : decode cX8_greatestRing 28 = .ok (.iload_n 2, 1) := by decide +kernel
theorem dX8_greatestRing_29 : decode cX8_greatestRing 29 = .ok (.iaload, 1) := by decide +kernel
theorem dX8_greatestRing_30 : decode cX8_greatestRing 30 = .ok (.goto 4, 3) := by decide +kernel
theorem dX8_greatestRing_33 : decode cX8_greatestRing 33 = .ok (.iload_n 1, 1) := by decide +kernel
theorem dX8_greatestRing_34 : decode cX8_greatestRing 34 = .ok (.istore_n 1, 1) := by decide +kernel
theorem dX8_greatestRing_35 : decode cX8_greatestRing 35 = .ok (.iinc 2 1, 3) := by decide +kernel
theorem dX8_greatestRing_38 : decode cX8_greatestRing 38 = .ok (.goto (-34), 3) := by decide +kernel
theorem dX8_greatestRing_41 : decode cX8_greatestRing 41 = .ok (.iload_n 1, 1) := by decide +kernel
theorem dX8_greatestRing_42 : decode cX8_greatestRing 42 = .ok (.ireturn, 1) := by decide +kernel
set_option maxRecDepth 20000 in
theorem ggX8_sendFrom_X8_upper : GoodIn wsX8_sendFrom wsX8_upper := goodIn_r _ [9, 1, 10, 11, 12, 8, 13, 14, 15, 16, 17, 18, 19, 20, 21, 22, 23, 24, 25, 26, 27, 28, 29, 30] (by decide +kernel) (by decide +kernel)
set_option maxRecDepth 20000 in
theorem gX8_sendFrom_X8_upper : GoodIn wsX8_sendFrom (wsV RX8 74 RX8 yX8_upper wsX8_upper) := goodIn_app (goodIn_of _ (by decide +kernel)) ggX8_sendFrom_X8_upper
set_option maxRecDepth 20000 in
theorem ggX8_sendFrom_X8_has : GoodIn wsX8_sendFrom wsX8_has := goodIn_r _ [13] (by decide +kernel) (by decide +kernel)
set_option maxRecDepth 20000 in
theorem gX8_sendFrom_X8_has : GoodIn wsX8_sendFrom (va_wsS RX8 55 yX8_has wsX8_has) := goodIn_app (goodIn_of _ (by decide +kernel)) ggX8_sendFrom_X8_has
theorem dX8_sendFrom_0 : decode cX8_sendFrom 0 = .ok (.aload_n 0, 1) := by decide +kernel
theorem dX8_sendFrom_1 : decode cX8_sendFrom 1 = .ok (.iload_n 1, 1) := by decide +kernel
theorem dX8_sendFrom_2 : decode cX8_sendFrom 2 = .ok (.invokevirtual 74, 3) := by decide +kernel
theorem dX8_sendFrom_5 : decode cX8_sendFrom 5 = .ok (.istore_n 2, 1) := by decide +kernel
theorem dX8_sendFrom_6 : decode cX8_sendFrom 6 = .ok (.iconst 1, 1) := by decide +kernel
theorem dX8_sendFrom_7 : decode cX8_sendFrom 7 = .ok (.istore_n 3, 1) := by decide +kernel
theorem dX8_sendFrom_8 : decode cX8_sendFrom 8 = .ok (.iconst 0, 1) := by decide +kernel
theorem dX8_sendFrom_9 : decode cX8_sendFrom 9 = .ok (.istore 4, 2) := by decide +kernel
theorem dX8_sendFrom_11 : decode cX8_sendFrom 11 = .ok (.iload 4, 2) := by decide +kernel
theorem dX8_sendFrom_13 : decode cX8_sendFrom 13 = .ok (.aload_n 0, 1) := by decide +kernel
theorem dX8_sendFrom_14 : decode cX8_sendFrom 14 = .ok (.getfield 9, 3) := by decide +kernel
theorem dX8_sendFrom_17 : decode cX8_sendFrom 17 = .ok (.iconst 0, 1) := by decide +kernel
theorem dX8_sendFrom_18 : decode cX8_sendFrom 18 = .ok (.iaload, 1) := by decide +kernel
theorem dX8_sendFrom_19 : decode cX8_sendFrom 19 = .ok (.if_icmp .ge 68, 3) := by decide +kernel
theorem dX8_sendFrom_22 : decode cX8_sendFrom 22 = .ok (.iload_n 2, 1) := by decide +kernel
theorem dX8_sendFrom_23 : decode cX8_sendFrom 23 = .ok (.iload 4, 2) := by decide +kernel
theorem dX8_sendFrom_25 : decode cX8_sendFrom 25 = .ok (.invokestatic 55, 3) := by decide +kernel
theorem dX8_sendFrom_28 : decode cX8_sendFrom 28 = .ok (.ifCond .eq 53, 3) := by decide +kernel
theorem dX8_sendFrom_31 : decode cX8_sendFrom 31 = .ok (.iload_n 3, 1) := by decide +kernel
theorem dX8_sendFrom_32 : decode cX8_sendFrom 32 = .ok (.ifCond .eq 49, 3) := by decide +kernel
theorem dX8_sendFrom_35 : decode cX8_sendFrom 35 = .ok (.aload_n 0, 1) := by decide +kernel
theorem dX8_sendFrom_36 : decode cX8_sendFrom 36 = .ok (.getfield 25, 3) := by decide +kernel
theorem dX8_sendFrom_39 : decode cX8_sendFrom 39 = .ok (.aload_n 0, 1) := by decide +kernel
theorem dX8_sendFrom_40 : decode cX8_sendFrom 40 = .ok (.getfield 77, 3) := by decide +kernel
theorem dX8_sendFrom_43 : decode cX8_sendFrom 43 = .ok (.iload_n 1, 1) := by decide +kernel
theorem dX8_sendFrom_44 : decode cX8_sendFrom 44 = .ok (.iastore, 1) := by decide +kernel
theorem dX8_sendFrom_45 : decode cX8_sendFrom 45 = .ok (.aload_n 0, 1) := by decide +kernel
theorem dX8_sendFrom_46 : decode cX8_sendFrom 46 = .ok (.getfield 28, 3) := by decide +kernel
theorem dX8_sendFrom_49 : decode cX8_sendFrom 49 = .ok (.aload_n 0, 1) := by decide +kernel
theorem dX8_sendFrom_50 : decode cX8_sendFrom 50 = .ok (.getfield 77, 3) := by decide +kernel
theorem dX8_sendFrom_53 : decode cX8_sendFrom 53 = .ok (.iload 4, 2) := by decide +kernel
theorem dX8_sendFrom_55 : decode cX8_sendFrom 55 = .ok (.iastore, 1) := by decide +kernel
theorem dX8_sendFrom_56 : decode cX8_sendFrom 56 = .ok (.aload_n 0, 1) := by decide +kernel
theorem dX8_sendFrom_57 : decode cX8_sendFrom 57 = .ok (.dup, 1) := by decide +kernel
theorem dX8_sendFrom_58 : decode cX8_sendFrom 58 = .ok (.getfield 77, 3) := by decide +kernel
theorem dX8_sendFrom_61 : decode cX8_sendFrom 61 = .ok (.iconst 1, 1) := by decide +kernel
theorem dX8_sendFrom_62 : decode cX8_sendFrom 62 = .ok (.iadd, 1) := by decide +kernel
theorem dX8_sendFrom_63 : decode cX8_sendFrom 63 = .ok (.putfield 77, 3) := by decide +kernel
theorem dX8_sendFrom_66 : decode cX8_sendFrom 66 = .ok (.aload_n 0, 1) := by decide +kernel
theorem dX8_sendFrom_67 : decode cX8_sendFrom 67 = .ok (.getfield 9, 3) := by decide +kernel
theorem dX8_sendFrom_70 : decode cX8_sendFrom 70 = .ok (.iconst 2, 1) := by decide +kernel
theorem dX8_sendFrom_71 : decode cX8_sendFrom 71 = .ok (.iaload, 1) := by decide +kernel
theorem dX8_sendFrom_72 : decode cX8_sendFrom 72 = .ok (.ifCond .ne 7, 3) := by decide +kernel
theorem dX8_sendFrom_75 : decode cX8_sendFrom 75 = .ok (.iconst 1, 1) := by decide +kernel
theorem dX8_sendFrom_76 : decode cX8_sendFrom 76 = .ok (.goto 4, 3) := by decide +kernel
theorem dX8_sendFrom_79 : decode cX8_sendFrom 79 = .ok (.iconst 0, 1) := by decide +kernel
theorem dX8_sendFrom_80 : decode cX8_sendFrom 80 = .ok (.istore_n 3, 1) := by decide +kernel
theorem dX8_sendFrom_81 : decode cX8_sendFrom 81 = .ok (.iinc 4 1, 3) := by decide +kernel
theorem dX8_sendFrom_84 : decode cX8_sendFrom 84 = .ok (.goto (-73), 3) := by decide +kernel
theorem dX8_sendFrom_87 : decode cX8_sendFrom 87 = .ok (.return_, 1) := by decide +kernel
set_option maxRecDepth 20000 in
theorem ggX8_layLetters_X8_layRings : GoodIn wsX8_layLetters wsX8_layRings := goodIn_r _ [8, 3, 9, 10, 11, 7, 12, 2, 13, 14, 15, 30, 31, 32, 33, 34, 35, 36, 37, 38, 39, 40, 41, 42, 43, 44, 45, 46] (by decide +kernel) (by decide +kernel)
set_option maxRecDepth 20000 in
theorem gX8_layLetters_X8_layRings : GoodIn wsX8_layLetters (wsV RX8 81 RX8 yX8_layRings wsX8_layRings) := goodIn_app (goodIn_of _ (by decide +kernel)) ggX8_layLetters_X8_layRings
set_option maxRecDepth 20000 in
theorem ggX8_layLetters_X8_greatestRing : GoodIn wsX8_layLetters wsX8_greatestRing := goodIn_r _ [19, 2, 3, 30, 31, 32, 33, 34, 35, 36, 37, 38, 39, 40, 41, 42, 43, 44, 45, 46] (by decide +kernel) (by decide +kernel)
set_option maxRecDepth 20000 in
theorem gX8_layLetters_X8_greatestRing : GoodIn wsX8_layLetters (wsV RX8 84 RX8 yX8_greatestRing wsX8_greatestRing) := goodIn_app (goodIn_of _ (by decide +kernel)) ggX8_layLetters_X8_greatestRing
set_option maxRecDepth 20000 in
theorem ggX8_layLetters_X8_sendFrom : GoodIn wsX8_layLetters wsX8_sendFrom := goodIn_r _ [23, 2, 24, 1, 25, 26, 27, 28, 7, 29, 3, 13, 14, 15, 30, 31, 32, 33, 34, 35, 36, 37, 38, 39, 40, 41, 42, 43, 44, 45, 46] (by decide +kernel) (by decide +kernel)
set_option maxRecDepth 20000 in
theorem gX8_layLetters_X8_sendFrom : GoodIn wsX8_layLetters (wsV RX8 88 RX8 yX8_sendFrom wsX8_sendFrom) := goodIn_app (goodIn_of _ (by decide +kernel)) ggX8_layLetters_X8_sendFrom
theorem dX8_layLetters_0 : decode cX8_layLetters 0 = .ok (.aload_n 0, 1) := by decide +kernel
theorem dX8_layLetters_1 : decode cX8_layLetters 1 = .ok (.invokevirtual 81, 3) := by decide +kernel
theorem dX8_layLetters_4 : decode cX8_layLetters 4 = .ok (.aload_n 0, 1) := by decide +kernel
theorem dX8_layLetters_5 : decode cX8_layLetters 5 = .ok (.iconst 0, 1) := by decide +kernel
theorem dX8_layLetters_6 : decode cX8_layLetters 6 = .ok (.putfield 77, 3) := by decide +kernel
theorem dX8_layLetters_9 : decode cX8_layLetters 9 = .ok (.aload_n 0, 1) := by decide +kernel
theorem dX8_layLetters_10 : decode cX8_layLetters 10 = .ok (.invokevirtual 84, 3) := by decide +kernel
theorem dX8_layLetters_13 : decode cX8_layLetters 13 = .ok (.istore_n 1, 1) := by decide +kernel
theorem dX8_layLetters_14 : decode cX8_layLetters 14 = .ok (.iload_n 1, 1) := by decide +kernel
theorem dX8_layLetters_15 : decode cX8_layLetters 15 = .ok (.ifCond .le 42, 3) := by decide +kernel
theorem dX8_layLetters_18 : decode cX8_layLetters 18 = .ok (.iconst 0, 1) := by decide +kernel
theorem dX8_layLetters_19 : decode cX8_layLetters 19 = .ok (.istore_n 2, 1) := by decide +kernel
theorem dX8_layLetters_20 : decode cX8_layLetters 20 = .ok (.iload_n 2, 1) := by decide +kernel
theorem dX8_layLetters_21 : decode cX8_layLetters 21 = .ok (.aload_n 0, 1) := by decide +kernel
theorem dX8_layLetters_22 : decode cX8_layLetters 22 = .ok (.getfield 9, 3) := by decide +kernel
theorem dX8_layLetters_25 : decode cX8_layLetters 25 = .ok (.iconst 0, 1) := by decide +kernel
theorem dX8_layLetters_26 : decode cX8_layLetters 26 = .ok (.iaload, 1) := by decide +kernel
theorem dX8_layLetters_27 : decode cX8_layLetters 27 = .ok (.if_icmp .ge 24, 3) := by decide +kernel
theorem dX8_layLetters_30 : decode cX8_layLetters 30 = .ok (.aload_n 0, 1) := by decide +kernel
theorem dX8_layLetters_31 : decode cX8_layLetters 31 = .ok (.getfield 22, 3) := by decide +kernel
theorem dX8_layLetters_34 : decode cX8_layLetters 34 = .ok (.iload_n 2, 1) := by decide +kernel
theorem dX8_layLetters_35 : decode cX8_layLetters 35 = .ok (.iaload, 1) := by decide +kernel
theorem dX8_layLetters_36 : decode cX8_layLetters 36 = .ok (.iload_n 1, 1) := by decide +kernel
theorem dX8_layLetters_37 : decode cX8_layLetters 37 = .ok (.if_icmp .ne 8, 3) := by decide +kernel
theorem dX8_layLetters_40 : decode cX8_layLetters 40 = .ok (.aload_n 0, 1) := by decide +kernel
theorem dX8_layLetters_41 : decode cX8_layLetters 41 = .ok (.iload_n 2, 1) := by decide +kernel
theorem dX8_layLetters_42 : decode cX8_layLetters 42 = .ok (.invokevirtual 88, 3) := by decide +kernel
theorem dX8_layLetters_45 : decode cX8_layLetters 45 = .ok (.iinc 2 1, 3) := by decide +kernel
theorem dX8_layLetters_48 : decode cX8_layLetters 48 = .ok (.goto (-28), 3) := by decide +kernel
theorem dX8_layLetters_51 : decode cX8_layLetters 51 = .ok (.iinc 1 (-1), 3) := by decide +kernel
theorem dX8_layLetters_54 : decode cX8_layLetters 54 = .ok (.goto (-40), 3) := by decide +kernel
theorem dX8_layLetters_57 : decode cX8_layLetters 57 = .ok (.return_, 1) := by decide +kernel
set_option maxRecDepth 20000 in
theorem ggX8_comes_X8_has : GoodIn wsX8_comes wsX8_has := goodIn_r _ [7] (by decide +kernel) (by decide +kernel)
set_option maxRecDepth 20000 in
theorem gX8_comes_X8_has : GoodIn wsX8_comes (va_wsS RX8 55 yX8_has wsX8_has) := goodIn_app (goodIn_of _ (by decide +kernel)) ggX8_comes_X8_has
theorem dX8_comes_0 : decode cX8_comes 0 = .ok (.aload_n 0, 1) := by decide +kernel
theorem dX8_comes_1 : decode cX8_comes 1 = .ok (.getfield 9, 3) := by decide +kernel
theorem dX8_comes_4 : decode cX8_comes 4 = .ok (.bipush 12, 2) := by decide +kernel
theorem dX8_comes_6 : decode cX8_comes 6 = .ok (.aload_n 0, 1) := by decide +kernel
theorem dX8_comes_7 : decode cX8_comes 7 = .ok (.getfield 25, 3) := by decide +kernel
theorem dX8_comes_10 : decode cX8_comes 10 = .ok (.iload_n 1, 1) := by decide +kernel
theorem dX8_comes_11 : decode cX8_comes 11 = .ok (.iaload, 1) := by decide +kernel
theorem dX8_comes_12 : decode cX8_comes 12 = .ok (.iadd, 1) := by decide +kernel
theorem dX8_comes_13 : decode cX8_comes 13 = .ok (.iaload, 1) := by decide +kernel
theorem dX8_comes_14 : decode cX8_comes 14 = .ok (.aload_n 0, 1) := by decide +kernel
theorem dX8_comes_15 : decode cX8_comes 15 = .ok (.getfield 28, 3) := by decide +kernel
theorem dX8_comes_18 : decode cX8_comes 18 = .ok (.iload_n 1, 1) := by decide +kernel
theorem dX8_comes_19 : decode cX8_comes 19 = .ok (.iaload, 1) := by decide +kernel
theorem dX8_comes_20 : decode cX8_comes 20 = .ok (.invokestatic 55, 3) := by decide +kernel
theorem dX8_comes_23 : decode cX8_comes 23 = .ok (.ifCond .ne 7, 3) := by decide +kernel
theorem dX8_comes_26 : decode cX8_comes 26 = .ok (.iconst 1, 1) := by decide +kernel
theorem dX8_comes_27 : decode cX8_comes 27 = .ok (.goto 4, 3) := by decide +kernel
theorem dX8_comes_30 : decode cX8_comes 30 = .ok (.iconst 0, 1) := by decide +kernel
theorem dX8_comes_31 : decode cX8_comes 31 = .ok (.ireturn, 1) := by decide +kernel
set_option maxRecDepth 20000 in
theorem ggX8_lostLetters_X8_layLetters : GoodIn wsX8_lostLetters wsX8_layLetters := goodIn_r _ [6, 1, 7, 8, 9, 10, 11, 5, 12, 13, 14, 15, 16, 17, 18, 19, 20, 21, 22, 23, 24, 25, 26, 27, 28, 29, 30, 31, 32, 33, 38, 39, 40, 41, 42, 43, 44, 45, 46, 47, 48, 49, 50, 51, 52, 53, 54] (by decide +kernel) (by decide +kernel)
set_option maxRecDepth 20000 in
theorem gX8_lostLetters_X8_layLetters : GoodIn wsX8_lostLetters (wsV RX8 92 RX8 yX8_layLetters wsX8_layLetters) := goodIn_app (goodIn_of _ (by decide +kernel)) ggX8_lostLetters_X8_layLetters
set_option maxRecDepth 20000 in
theorem ggX8_lostLetters_X8_comes : GoodIn wsX8_lostLetters wsX8_comes := goodIn_r _ [37, 7, 28, 29, 17, 18, 5, 19, 38, 39, 40, 41, 42, 43, 44, 45, 46, 47, 48, 49, 50, 51, 52, 53, 54] (by decide +kernel) (by decide +kernel)
set_option maxRecDepth 20000 in
theorem gX8_lostLetters_X8_comes : GoodIn wsX8_lostLetters (wsV RX8 95 RX8 yX8_comes wsX8_comes) := goodIn_app (goodIn_of _ (by decide +kernel)) ggX8_lostLetters_X8_comes
theorem dX8_lostLetters_0 : decode cX8_lostLetters 0 = .ok (.aload_n 0, 1) := by decide +kernel
theorem dX8_lostLetters_1 : decode cX8_lostLetters 1 = .ok (.invokevirtual 92, 3) := by decide +kernel
theorem dX8_lostLetters_4 : decode cX8_lostLetters 4 = .ok (.iconst 0, 1) := by decide +kernel
theorem dX8_lostLetters_5 : decode cX8_lostLetters 5 = .ok (.istore_n 1, 1) := by decide +kernel
theorem dX8_lostLetters_6 : decode cX8_lostLetters 6 = .ok (.iconst 0, 1) := by decide +kernel
theorem dX8_lostLetters_7 : decode cX8_lostLetters 7 = .ok (.istore_n 2, 1) := by decide +kernel
theorem dX8_lostLetters_8 : decode cX8_lostLetters 8 = .ok (.iload_n 2, 1) := by decide +kernel
theorem dX8_lostLetters_9 : decode cX8_lostLetters 9 = .ok (.aload_n 0, 1) := by decide +kernel
theorem dX8_lostLetters_10 : decode cX8_lostLetters 10 = .ok (.getfield 77, 3) := by decide +kernel
theorem dX8_lostLetters_13 : decode cX8_lostLetters 13 = .ok (.if_icmp .ge 25, 3) := by decide +kernel
theorem dX8_lostLetters_16 : decode cX8_lostLetters 16 = .ok (.iload_n 1, 1) := by decide +kernel
theorem dX8_lostLetters_17 : decode cX8_lostLetters 17 = .ok (.aload_n 0, 1) := by decide +kernel
theorem dX8_lostLetters_18 : decode cX8_lostLetters 18 = .ok (.iload_n 2, 1) := by decide +kernel
theorem dX8_lostLetters_19 : decode cX8_lostLetters 19 = .ok (.invokevirtual 95, 3) := by decide +kernel
theorem dX8_lostLetters_22 : decode cX8_lostLetters 22 = .ok (.ifCond .eq 7, 3) := by decide +kernel
theorem dX8_lostLetters_25 : decode cX8_lostLetters 25 = .ok (.iconst 0, 1) := by decide +kernel
theorem dX8_lostLetters_26 : decode cX8_lostLetters 26 = .ok (.goto 4, 3) := by decide +kernel
theorem dX8_lostLetters_29 : decode cX8_lostLetters 29 = .ok (.iconst 1, 1) := by decide +kernel
theorem dX8_lostLetters_30 : decode cX8_lostLetters 30 = .ok (.iadd, 1) := by decide +kernel
theorem dX8_lostLetters_31 : decode cX8_lostLetters 31 = .ok (.istore_n 1, 1) := by decide +kernel
theorem dX8_lostLetters_32 : decode cX8_lostLetters 32 = .ok (.iinc 2 1, 3) := by decide +kernel
theorem dX8_lostLetters_35 : decode cX8_lostLetters 35 = .ok (.goto (-27), 3) := by decide +kernel
theorem dX8_lostLetters_38 : decode cX8_lostLetters 38 = .ok (.iload_n 1, 1) := by decide +kernel
theorem dX8_lostLetters_39 : decode cX8_lostLetters 39 = .ok (.ireturn, 1) := by decide +kernel
set_option maxRecDepth 20000 in
theorem ggX8_lettersTo_X8_layLetters : GoodIn wsX8_lettersTo wsX8_layLetters := goodIn_r _ [7, 1, 8, 9, 10, 11, 12, 6, 13, 14, 15, 16, 17, 18, 19, 20, 21, 22, 23, 24, 25, 26, 27, 28, 29, 2, 30, 31, 32, 33, 38, 39, 40, 41, 42, 43, 44, 45, 46, 47, 48, 49, 50, 51, 52, 53, 54] (by decide +kernel) (by decide +kernel)
set_option maxRecDepth 20000 in
theorem gX8_lettersTo_X8_layLetters : GoodIn wsX8_lettersTo (wsV RX8 92 RX8 yX8_layLetters wsX8_layLetters) := goodIn_app (goodIn_of _ (by decide +kernel)) ggX8_lettersTo_X8_layLetters
set_option maxRecDepth 20000 in
theorem ggX8_lettersTo_X8_comes : GoodIn wsX8_lettersTo wsX8_comes := goodIn_r _ [37, 8, 29, 2, 18, 19, 6, 20, 38, 39, 40, 41, 42, 43, 44, 45, 46, 47, 48, 49, 50, 51, 52, 53, 54] (by decide +kernel) (by decide +kernel)
set_option maxRecDepth 20000 in
theorem gX8_lettersTo_X8_comes : GoodIn wsX8_lettersTo (wsV RX8 95 RX8 yX8_comes wsX8_comes) := goodIn_app (goodIn_of _ (by decide +kernel)) ggX8_lettersTo_X8_comes
theorem dX8_lettersTo_0 : decode cX8_lettersTo 0 = .ok (.aload_n 0, 1) := by decide +kernel
theorem dX8_lettersTo_1 : decode cX8_lettersTo 1 = .ok (.invokevirtual 92, 3) := by decide +kernel
theorem dX8_lettersTo_4 : decode cX8_lettersTo 4 = .ok (.iconst 0, 1) := by decide +kernel
theorem dX8_lettersTo_5 : decode cX8_lettersTo 5 = .ok (.istore_n 2, 1) := by decide +kernel
theorem dX8_lettersTo_6 : decode cX8_lettersTo 6 = .ok (.iconst 0, 1) := by decide +kernel
theorem dX8_lettersTo_7 : decode cX8_lettersTo 7 = .ok (.istore_n 3, 1) := by decide +kernel
theorem dX8_lettersTo_8 : decode cX8_lettersTo 8 = .ok (.iload_n 3, 1) := by decide +kernel
theorem dX8_lettersTo_9 : decode cX8_lettersTo 9 = .ok (.aload_n 0, 1) := by decide +kernel
theorem dX8_lettersTo_10 : decode cX8_lettersTo 10 = .ok (.getfield 77, 3) := by decide +kernel
theorem dX8_lettersTo_13 : decode cX8_lettersTo 13 = .ok (.if_icmp .ge 35, 3) := by decide +kernel
theorem dX8_lettersTo_16 : decode cX8_lettersTo 16 = .ok (.iload_n 2, 1) := by decide +kernel
theorem dX8_lettersTo_17 : decode cX8_lettersTo 17 = .ok (.aload_n 0, 1) := by decide +kernel
theorem dX8_lettersTo_18 : decode cX8_lettersTo 18 = .ok (.getfield 28, 3) := by decide +kernel
theorem dX8_lettersTo_21 : decode cX8_lettersTo 21 = .ok (.iload_n 3, 1) := by decide +kernel
theorem dX8_lettersTo_22 : decode cX8_lettersTo 22 = .ok (.iaload, 1) := by decide +kernel
theorem dX8_lettersTo_23 : decode cX8_lettersTo 23 = .ok (.iload_n 1, 1) := by decide +kernel
theorem dX8_lettersTo_24 : decode cX8_lettersTo 24 = .ok (.if_icmp .ne 15, 3) := by decide +kernel
theorem dX8_lettersTo_27 : decode cX8_lettersTo 27 = .ok (.aload_n 0, 1) := by decide +kernel
theorem dX8_lettersTo_28 : decode cX8_lettersTo 28 = .ok (.iload_n 3, 1) := by decide +kernel
theorem dX8_lettersTo_29 : decode cX8_lettersTo 29 = .ok (.invokevirtual 95, 3) := by decide +kernel
theorem dX8_lettersTo_32 : decode cX8_lettersTo 32 = .ok (.ifCond .eq 7, 3) := by decide +kernel
theorem dX8_lettersTo_35 : decode cX8_lettersTo 35 = .ok (.iconst 1, 1) := by decide +kernel
theorem dX8_lettersTo_36 : decode cX8_lettersTo 36 = .ok (.goto 4, 3) := by decide +kernel
theorem dX8_lettersTo_39 : decode cX8_lettersTo 39 = .ok (.iconst 0, 1) := by decide +kernel
theorem dX8_lettersTo_40 : decode cX8_lettersTo 40 = .ok (.iadd, 1) := by decide +kernel
theorem dX8_lettersTo_41 : decode cX8_lettersTo 41 = .ok (.istore_n 2, 1) := by decide +kernel
theorem dX8_lettersTo_42 : decode cX8_lettersTo 42 = .ok (.iinc 3 1, 3) := by decide +kernel
theorem dX8_lettersTo_45 : decode cX8_lettersTo 45 = .ok (.goto (-37), 3) := by decide +kernel
theorem dX8_lettersTo_48 : decode cX8_lettersTo 48 = .ok (.iload_n 2, 1) := by decide +kernel
theorem dX8_lettersTo_49 : decode cX8_lettersTo 49 = .ok (.ireturn, 1) := by decide +kernel
set_option maxRecDepth 20000 in
theorem ggX8_layWays_X8_layLetters : GoodIn wsX8_layWays wsX8_layLetters := goodIn_r _ [9, 2, 10, 11, 12, 13, 14, 8, 15, 16, 17, 18, 19, 20, 21, 22, 23, 24, 25, 26, 27, 28, 29, 30, 3, 4, 31, 32, 33, 34, 39, 40, 41, 42, 43, 44, 45, 46, 47, 48, 49, 50, 51, 52, 53, 54, 55] (by decide +kernel) (by decide +kernel)
set_option maxRecDepth 20000 in
theorem gX8_layWays_X8_layLetters : GoodIn wsX8_layWays (wsV RX8 92 RX8 yX8_layLetters wsX8_layLetters) := goodIn_app (goodIn_of _ (by decide +kernel)) ggX8_layWays_X8_layLetters
set_option maxRecDepth 20000 in
theorem ggX8_layWays_X8_comes : GoodIn wsX8_layWays wsX8_comes := goodIn_r _ [38, 10, 3, 4, 20, 21, 8, 22, 39, 40, 41, 42, 43, 44, 45, 46, 47, 48, 49, 50, 51, 52, 53, 54, 55] (by decide +kernel) (by decide +kernel)
set_option maxRecDepth 20000 in
theorem gX8_layWays_X8_comes : GoodIn wsX8_layWays (wsV RX8 95 RX8 yX8_comes wsX8_comes) := goodIn_app (goodIn_of _ (by decide +kernel)) ggX8_layWays_X8_comes
theorem dX8_layWays_0 : decode cX8_layWays 0 = .ok (.aload_n 0, 1) := by decide +kernel
theorem dX8_layWays_1 : decode cX8_layWays 1 = .ok (.invokevirtual 92, 3) := by decide +kernel
theorem dX8_layWays_4 : decode cX8_layWays 4 = .ok (.iconst 0, 1) := by decide +kernel
theorem dX8_layWays_5 : decode cX8_layWays 5 = .ok (.istore_n 1, 1) := by decide +kernel
theorem dX8_layWays_6 : decode cX8_layWays 6 = .ok (.iload_n 1, 1) := by decide +kernel
theorem dX8_layWays_7 : decode cX8_layWays 7 = .ok (.bipush 9, 2) := by decide +kernel
theorem dX8_layWays_9 : decode cX8_layWays 9 = .ok (.if_icmp .ge 24, 3) := by decide +kernel
theorem dX8_layWays_12 : decode cX8_layWays 12 = .ok (.aload_n 0, 1) := by decide +kernel
theorem dX8_layWays_13 : decode cX8_layWays 13 = .ok (.getfield 31, 3) := by decide +kernel
theorem dX8_layWays_16 : decode cX8_layWays 16 = .ok (.iload_n 1, 1) := by decide +kernel
theorem dX8_layWays_17 : decode cX8_layWays 17 = .ok (.iload_n 1, 1) := by decide +kernel
theorem dX8_layWays_18 : decode cX8_layWays 18 = .ok (.ifCond .ne 7, 3) := by decide +kernel
theorem dX8_layWays_21 : decode cX8_layWays 21 = .ok (.iconst 1, 1) := by decide +kernel
theorem dX8_layWays_22 : decode cX8_layWays 22 = .ok (.goto 4, 3) := by decide +kernel
theorem dX8_layWays_25 : decode cX8_layWays 25 = .ok (.iconst 0, 1) := by decide +kernel
theorem dX8_layWays_26 : decode cX8_layWays 26 = .ok (.iastore, 1) := by decide +kernel
theorem dX8_layWays_27 : decode cX8_layWays 27 = .ok (.iinc 1 1, 3) := by decide +kernel
theorem dX8_layWays_30 : decode cX8_layWays 30 = .ok (.goto (-24), 3) := by decide +kernel
theorem dX8_layWays_33 : decode cX8_layWays 33 = .ok (.aload_n 0, 1) := by decide +kernel
theorem dX8_layWays_34 : decode cX8_layWays 34 = .ok (.getfield 77, 3) := by decide +kernel
theorem dX8_layWays_37 : decode cX8_layWays 37 = .ok (.iconst 1, 1) := by decide +kernel
theorem dX8_layWays_38 : decode cX8_layWays 38 = .ok (.isub, 1) := by decide +kernel
theorem dX8_layWays_39 : decode cX8_layWays 39 = .ok (.istore_n 1, 1) := by decide +kernel
theorem dX8_layWays_40 : decode cX8_layWays 40 = .ok (.iload_n 1, 1) := by decide +kernel
theorem dX8_layWays_41 : decode cX8_layWays 41 = .ok (.ifCond .lt 46, 3) := by decide +kernel
theorem dX8_layWays_44 : decode cX8_layWays 44 = .ok (.aload_n 0, 1) := by decide +kernel
theorem dX8_layWays_45 : decode cX8_layWays 45 = .ok (.getfield 31, 3) := by decide +kernel
theorem dX8_layWays_48 : decode cX8_layWays 48 = .ok (.aload_n 0, 1) := by decide +kernel
theorem dX8_layWays_49 : decode cX8_layWays 49 = .ok (.getfield 25, 3) := by decide +kernel
theorem dX8_layWays_52 : decode cX8_layWays 52 = .ok (.iload_n 1, 1) := by decide +kernel
theorem dX8_layWays_53 : decode cX8_layWays 53 = .ok (.iaload, 1) := by decide +kernel
theorem dX8_layWays_54 : decode cX8_layWays 54 = .ok (.dup2, 1) := by decide +kernel
theorem dX8_layWays_55 : decode cX8_layWays 55 = .ok (.iaload, 1) := by decide +kernel
theorem dX8_layWays_56 : decode cX8_layWays 56 = .ok (.aload_n 0, 1) := by decide +kernel
theorem dX8_layWays_57 : decode cX8_layWays 57 = .ok (.iload_n 1, 1) := by decide +kernel
theorem dX8_layWays_58 : decode cX8_layWays 58 = .ok (.invokevirtual 95, 3) := by decide +kernel
theorem dX8_layWays_61 : decode cX8_layWays 61 = .ok (.ifCond .eq 17, 3) := by decide +kernel
theorem dX8_layWays_64 : decode cX8_layWays 64 = .ok (.aload_n 0, 1) := by decide +kernel
theorem dX8_layWays_65 : decode cX8_layWays 65 = .ok (.getfield 31, 3) := by decide +kernel
theorem dX8_layWays_68 : decode cX8_layWays 68 = .ok (.aload_n 0, 1) := by decide +kernel
theorem dX8_layWays_69 : decode cX8_layWays 69 = .ok (.getfield 28, 3) := by decide +kernel
theorem dX8_layWays_72 : decode cX8_layWays 72 = .ok (.iload_n 1, 1) := by decide +kernel
theorem dX8_layWays_73 : decode cX8_layWays 73 = .ok (.iaload, 1) := by decide +kernel
theorem dX8_layWays_74 : decode cX8_layWays 74 = .ok (.iaload, 1) := by decide +kernel
theorem dX8_layWays_75 : decode cX8_layWays 75 = .ok (.goto 4, 3) := by decide +kernel
theorem dX8_layWays_78 : decode cX8_layWays 78 = .ok (.iconst 0, 1) := by decide +kernel
theorem dX8_layWays_79 : decode cX8_layWays 79 = .ok (.iadd, 1) := by decide +kernel
theorem dX8_layWays_80 : decode cX8_layWays 80 = .ok (.iastore, 1) := by decide +kernel
theorem dX8_layWays_81 : decode cX8_layWays 81 = .ok (.iinc 1 (-1), 3) := by decide +kernel
theorem dX8_layWays_84 : decode cX8_layWays 84 = .ok (.goto (-44), 3) := by decide +kernel
theorem dX8_layWays_87 : decode cX8_layWays 87 = .ok (.return_, 1) := by decide +kernel
set_option maxRecDepth 20000 in
theorem ggX8_comesSet_X8_layWays : GoodIn wsX8_comesSet wsX8_layWays := goodIn_r _ [7, 2, 8, 9, 10, 11, 12, 13, 6, 14, 1, 15, 16, 17, 18, 19, 20, 21, 22, 23, 24, 25, 26, 27, 28, 29, 30, 31, 32, 33, 34, 35, 36, 37, 38, 39, 40, 41, 42, 43, 44, 45, 46, 47, 48, 49, 50, 51, 52, 53, 54, 55, 56, 57, 58, 59] (by decide +kernel) (by decide +kernel)
set_option maxRecDepth 20000 in
theorem gX8_comesSet_X8_layWays : GoodIn wsX8_comesSet (wsV RX8 98 RX8 yX8_layWays wsX8_layWays) := goodIn_app (goodIn_of _ (by decide +kernel)) ggX8_comesSet_X8_layWays
theorem dX8_comesSet_0 : decode cX8_comesSet 0 = .ok (.aload_n 0, 1) := by decide +kernel
theorem dX8_comesSet_1 : decode cX8_comesSet 1 = .ok (.invokevirtual 98, 3) := by decide +kernel
theorem dX8_comesSet_4 : decode cX8_comesSet 4 = .ok (.iconst 0, 1) := by decide +kernel
theorem dX8_comesSet_5 : decode cX8_comesSet 5 = .ok (.istore_n 1, 1) := by decide +kernel
theorem dX8_comesSet_6 : decode cX8_comesSet 6 = .ok (.iconst 0, 1) := by decide +kernel
theorem dX8_comesSet_7 : decode cX8_comesSet 7 = .ok (.istore_n 2, 1) := by decide +kernel
theorem dX8_comesSet_8 : decode cX8_comesSet 8 = .ok (.iload_n 2, 1) := by decide +kernel
theorem dX8_comesSet_9 : decode cX8_comesSet 9 = .ok (.aload_n 0, 1) := by decide +kernel
theorem dX8_comesSet_10 : decode cX8_comesSet 10 = .ok (.getfield 9, 3) := by decide +kernel
theorem dX8_comesSet_13 : decode cX8_comesSet 13 = .ok (.iconst 0, 1) := by decide +kernel
theorem dX8_comesSet_14 : decode cX8_comesSet 14 = .ok (.iaload, 1) := by decide +kernel
theorem dX8_comesSet_15 : decode cX8_comesSet 15 = .ok (.if_icmp .ge 28, 3) := by decide +kernel
theorem dX8_comesSet_18 : decode cX8_comesSet 18 = .ok (.iload_n 1, 1) := by decide +kernel
theorem dX8_comesSet_19 : decode cX8_comesSet 19 = .ok (.aload_n 0, 1) := by decide +kernel
theorem dX8_comesSet_20 : decode cX8_comesSet 20 = .ok (.getfield 31, 3) := by decide +kernel
theorem dX8_comesSet_23 : decode cX8_comesSet 23 = .ok (.iload_n 2, 1) := by decide +kernel
theorem dX8_comesSet_24 : decode cX8_comesSet 24 = .ok (.iaload, 1) := by decide +kernel
theorem dX8_comesSet_25 : decode cX8_comesSet 25 = .ok (.ifCond .le 9, 3) := by decide +kernel
theorem dX8_comesSet_28 : decode cX8_comesSet 28 = .ok (.iconst 1, 1) := by decide +kernel
theorem dX8_comesSet_29 : decode cX8_comesSet 29 = .ok (.iload_n 2, 1) := by decide +kernel
theorem dX8_comesSet_30 : decode cX8_comesSet 30 = .ok (.ishl, 1) := by decide +kernel
theorem dX8_comesSet_31 : decode cX8_comesSet 31 = .ok (.goto 4, 3) := by decide +kernel
theorem dX8_comesSet_34 : decode cX8_comesSet 34 = .ok (.iconst 0, 1) := by decide +kernel
theorem dX8_comesSet_35 : decode cX8_comesSet 35 = .ok (.ior, 1) := by decide +kernel
theorem dX8_comesSet_36 : decode cX8_comesSet 36 = .ok (.istore_n 1, 1) := by decide +kernel
theorem dX8_comesSet_37 : decode cX8_comesSet 37 = .ok (.iinc 2 1, 3) := by decide +kernel
theorem dX8_comesSet_40 : decode cX8_comesSet 40 = .ok (.goto (-32), 3) := by decide +kernel
theorem dX8_comesSet_43 : decode cX8_comesSet 43 = .ok (.iload_n 1, 1) := by decide +kernel
theorem dX8_comesSet_44 : decode cX8_comesSet 44 = .ok (.ireturn, 1) := by decide +kernel
theorem dX8_unpack_0 : decode cX8_unpack 0 = .ok (.aload_n 0, 1) := by decide +kernel
theorem dX8_unpack_1 : decode cX8_unpack 1 = .ok (.getfield 38, 3) := by decide +kernel
theorem dX8_unpack_4 : decode cX8_unpack 4 = .ok (.iload_n 3, 1) := by decide +kernel
theorem dX8_unpack_5 : decode cX8_unpack 5 = .ok (.lload_n 1, 1) := by decide +kernel
theorem dX8_unpack_6 : decode cX8_unpack 6 = .ok (.ldc2_w 101, 3) := by decide +kernel
theorem dX8_unpack_9 : decode cX8_unpack 9 = .ok (.lrem, 1) := by decide +kernel
theorem dX8_unpack_10 : decode cX8_unpack 10 = .ok (.l2i, 1) := by decide +kernel
theorem dX8_unpack_11 : decode cX8_unpack 11 = .ok (.iastore, 1) := by decide +kernel
theorem dX8_unpack_12 : decode cX8_unpack 12 = .ok (.aload_n 0, 1) := by decide +kernel
theorem dX8_unpack_13 : decode cX8_unpack 13 = .ok (.getfield 38, 3) := by decide +kernel
theorem dX8_unpack_16 : decode cX8_unpack 16 = .ok (.iload_n 3, 1) := by decide +kernel
theorem dX8_unpack_17 : decode cX8_unpack 17 = .ok (.iconst 1, 1) := by decide +kernel
theorem dX8_unpack_18 : decode cX8_unpack 18 = .ok (.iadd, 1) := by decide +kernel
theorem dX8_unpack_19 : decode cX8_unpack 19 = .ok (.lload_n 1, 1) := by decide +kernel
theorem dX8_unpack_20 : decode cX8_unpack 20 = .ok (.ldc2_w 101, 3) := by decide +kernel
theorem dX8_unpack_23 : decode cX8_unpack 23 = .ok (.ldiv, 1) := by decide +kernel
theorem dX8_unpack_24 : decode cX8_unpack 24 = .ok (.ldc2_w 101, 3) := by decide +kernel
theorem dX8_unpack_27 : decode cX8_unpack 27 = .ok (.lrem, 1) := by decide +kernel
theorem dX8_unpack_28 : decode cX8_unpack 28 = .ok (.l2i, 1) := by decide +kernel
theorem dX8_unpack_29 : decode cX8_unpack 29 = .ok (.iastore, 1) := by decide +kernel
theorem dX8_unpack_30 : decode cX8_unpack 30 = .ok (.aload_n 0, 1) := by decide +kernel
theorem dX8_unpack_31 : decode cX8_unpack 31 = .ok (.getfield 38, 3) := by decide +kernel
theorem dX8_unpack_34 : decode cX8_unpack 34 = .ok (.iload_n 3, 1) := by decide +kernel
theorem dX8_unpack_35 : decode cX8_unpack 35 = .ok (.iconst 2, 1) := by decide +kernel
theorem dX8_unpack_36 : decode cX8_unpack 36 = .ok (.iadd, 1) := by decide +kernel
theorem dX8_unpack_37 : decode cX8_unpack 37 = .ok (.lload_n 1, 1) := by decide +kernel
theorem dX8_unpack_38 : decode cX8_unpack 38 = .ok (.ldc2_w 103, 3) := by decide +kernel
theorem dX8_unpack_41 : decode cX8_unpack 41 = .ok (.ldiv, 1) := by decide +kernel
theorem dX8_unpack_42 : decode cX8_unpack 42 = .ok (.l2i, 1) := by decide +kernel
theorem dX8_unpack_43 : decode cX8_unpack 43 = .ok (.iastore, 1) := by decide +kernel
theorem dX8_unpack_44 : decode cX8_unpack 44 = .ok (.return_, 1) := by decide +kernel
theorem dX8_leastAbove_0 : decode cX8_leastAbove 0 = .ok (.sipush 1024, 3) := by decide +kernel
theorem dX8_leastAbove_3 : decode cX8_leastAbove 3 = .ok (.istore_n 2, 1) := by decide +kernel
theorem dX8_leastAbove_4 : decode cX8_leastAbove 4 = .ok (.iconst 0, 1) := by decide +kernel
theorem dX8_leastAbove_5 : decode cX8_leastAbove 5 = .ok (.istore_n 3, 1) := by decide +kernel
theorem dX8_leastAbove_6 : decode cX8_leastAbove 6 = .ok (.iload_n 3, 1) := by decide +kernel
theorem dX8_leastAbove_7 : decode cX8_leastAbove 7 = .ok (.bipush 6, 2) := by decide +kernel
theorem dX8_leastAbove_9 : decode cX8_leastAbove 9 = .ok (.if_icmp .ge 40, 3) := by decide +kernel
theorem dX8_leastAbove_12 : decode cX8_leastAbove 12 = .ok (.aload_n 0, 1) := by decide +kernel
theorem dX8_leastAbove_13 : decode cX8_leastAbove 13 = .ok (.getfield 38, 3) := by decide +kernel
theorem dX8_leastAbove_16 : decode cX8_leastAbove 16 = .ok (.iload_n 3, 1) := by decide +kernel
theorem dX8_leastAbove_17 : decode cX8_leastAbove 17 = .ok (.iaload, 1) := by decide +kernel
theorem dX8_leastAbove_18 : decode cX8_leastAbove 18 = .ok (.iload_n 1, 1) := by decide +kernel
theorem dX8_leastAbove_19 : decode cX8_leastAbove 19 = .ok (.if_icmp .le 22, 3) := by decide +kernel
theorem dX8_leastAbove_22 : decode cX8_leastAbove 22 = .ok (.aload_n 0, 1) := by decide +kernel
theorem dX8_leastAbove_23 : decode cX8_leastAbove 23 = .ok (.getfield 38, 3) := by decide +kernel
theorem dX8_leastAbove_26 : decode cX8_leastAbove 26 = .ok (.iload_n 3, 1) := by decide +kernel
theorem dX8_leastAbove_27 : decode cX8_leastAbove 27 = .ok (.iaload, 1) := by decide +kernel
theorem dX8_leastAbove_28 : decode cX8_leastAbove 28 = .ok (.iload_n 2, 1) := by decide +kernel
theorem dX8_leastAbove_29 : decode cX8_leastAbove 29 = .ok (.if_icmp .ge 12, 3) := by decide +kernel
theorem dX8_leastAbove_32 : decode cX8_leastAbove 32 = .ok (.aload_n 0, 1) := by decide +kernel
theorem dX8_leastAbove_33 : decode cX8_leastAbove 33 = .ok (.getfield 38, 3) := by decide +kernel
theorem dX8_leastAbove_36 : decode cX8_leastAbove 36 = .ok (.iload_n 3, 1) := by decide +kernel
theorem dX8_leastAbove_37 : decode cX8_leastAbove 37 = .ok (.iaload, 1) := by decide +kernel
theorem dX8_leastAbove_38 : decode cX8_leastAbove 38 = .ok (.goto 4, 3) := by decide +kernel
theorem dX8_leastAbove_41 : decode cX8_leastAbove 41 = .ok (.iload_n 2, 1) := by decide +kernel
theorem dX8_leastAbove_42 : decode cX8_leastAbove 42 = .ok (.istore_n 2, 1) := by decide +kernel
theorem dX8_leastAbove_43 : decode cX8_leastAbove 43 = .ok (.iinc 3 1, 3) := by decide +kernel
theorem dX8_leastAbove_46 : decode cX8_leastAbove 46 = .ok (.goto (-40), 3) := by decide +kernel
theorem dX8_leastAbove_49 : decode cX8_leastAbove 49 = .ok (.iload_n 2, 1) := by decide +kernel
theorem dX8_leastAbove_50 : decode cX8_leastAbove 50 = .ok (.ireturn, 1) := by decide +kernel
set_option maxRecDepth 20000 in
theorem ggX8_threeOf_X8_unpack : GoodIn wsX8_threeOf wsX8_unpack := goodIn_r _ [7, 8, 1, 2, 13, 14, 15, 16, 17, 18, 19, 20, 21, 22, 23, 24, 25, 26, 27, 28, 29] (by decide +kernel) (by decide +kernel)
set_option maxRecDepth 20000 in
theorem gX8_threeOf_X8_unpack : GoodIn wsX8_threeOf (wsV RX8 105 RX8 yX8_unpack wsX8_unpack) := goodIn_app (goodIn_of _ (by decide +kernel)) ggX8_threeOf_X8_unpack
set_option maxRecDepth 20000 in
theorem ggX8_threeOf_X8_leastAbove : GoodIn wsX8_threeOf wsX8_leastAbove := goodIn_r _ [12, 8, 13, 14, 15, 16, 17, 18, 19, 20, 21, 22, 23, 24, 25, 26, 27, 28, 29] (by decide +kernel) (by decide +kernel)
set_option maxRecDepth 20000 in
theorem gX8_threeOf_X8_leastAbove : GoodIn wsX8_threeOf (wsV RX8 109 RX8 yX8_leastAbove wsX8_leastAbove) := goodIn_app (goodIn_of _ (by decide +kernel)) ggX8_threeOf_X8_leastAbove
theorem dX8_threeOf_0 : decode cX8_threeOf 0 = .ok (.aload_n 0, 1) := by decide +kernel
theorem dX8_threeOf_1 : decode cX8_threeOf 1 = .ok (.lload_n 1, 1) := by decide +kernel
theorem dX8_threeOf_2 : decode cX8_threeOf 2 = .ok (.iconst 0, 1) := by decide +kernel
theorem dX8_threeOf_3 : decode cX8_threeOf 3 = .ok (.invokevirtual 105, 3) := by decide +kernel
theorem dX8_threeOf_6 : decode cX8_threeOf 6 = .ok (.aload_n 0, 1) := by decide +kernel
theorem dX8_threeOf_7 : decode cX8_threeOf 7 = .ok (.lload_n 3, 1) := by decide +kernel
theorem dX8_threeOf_8 : decode cX8_threeOf 8 = .ok (.iconst 3, 1) := by decide +kernel
theorem dX8_threeOf_9 : decode cX8_threeOf 9 = .ok (.invokevirtual 105, 3) := by decide +kernel
theorem dX8_threeOf_12 : decode cX8_threeOf 12 = .ok (.aload_n 0, 1) := by decide +kernel
theorem dX8_threeOf_13 : decode cX8_threeOf 13 = .ok (.iconst (-1), 1) := by decide +kernel
theorem dX8_threeOf_14 : decode cX8_threeOf 14 = .ok (.invokevirtual 109, 3) := by decide +kernel
theorem dX8_threeOf_17 : decode cX8_threeOf 17 = .ok (.istore 5, 2) := by decide +kernel
theorem dX8_threeOf_19 : decode cX8_threeOf 19 = .ok (.aload_n 0, 1) := by decide +kernel
theorem dX8_threeOf_20 : decode cX8_threeOf 20 = .ok (.iload 5, 2) := by decide +kernel
theorem dX8_threeOf_22 : decode cX8_threeOf 22 = .ok (.invokevirtual 109, 3) := by decide +kernel
theorem dX8_threeOf_25 : decode cX8_threeOf 25 = .ok (.istore 6, 2) := by decide +kernel
theorem dX8_threeOf_27 : decode cX8_threeOf 27 = .ok (.aload_n 0, 1) := by decide +kernel
theorem dX8_threeOf_28 : decode cX8_threeOf 28 = .ok (.iload 6, 2) := by decide +kernel
theorem dX8_threeOf_30 : decode cX8_threeOf 30 = .ok (.invokevirtual 109, 3) := by decide +kernel
theorem dX8_threeOf_33 : decode cX8_threeOf 33 = .ok (.istore 7, 2) := by decide +kernel
theorem dX8_threeOf_35 : decode cX8_threeOf 35 = .ok (.iload 5, 2) := by decide +kernel
theorem dX8_threeOf_37 : decode cX8_threeOf 37 = .ok (.i2l, 1) := by decide +kernel
theorem dX8_threeOf_38 : decode cX8_threeOf 38 = .ok (.ldc2_w 101, 3) := by decide +kernel
theorem dX8_threeOf_41 : decode cX8_threeOf 41 = .ok (.iload 6, 2) := by decide +kernel
theorem dX8_threeOf_43 : decode cX8_threeOf 43 = .ok (.i2l, 1) := by decide +kernel
theorem dX8_threeOf_44 : decode cX8_threeOf 44 = .ok (.lmul, 1) := by decide +kernel
theorem dX8_threeOf_45 : decode cX8_threeOf 45 = .ok (.ladd, 1) := by decide +kernel
theorem dX8_threeOf_46 : decode cX8_threeOf 46 = .ok (.ldc2_w 103, 3) := by decide +kernel
theorem dX8_threeOf_49 : decode cX8_threeOf 49 = .ok (.iload 7, 2) := by decide +kernel
theorem dX8_threeOf_51 : decode cX8_threeOf 51 = .ok (.i2l, 1) := by decide +kernel
theorem dX8_threeOf_52 : decode cX8_threeOf 52 = .ok (.lmul, 1) := by decide +kernel
theorem dX8_threeOf_53 : decode cX8_threeOf 53 = .ok (.ladd, 1) := by decide +kernel
theorem dX8_threeOf_54 : decode cX8_threeOf 54 = .ok (.lreturn, 1) := by decide +kernel
set_option maxRecDepth 20000 in
theorem ggX8_threeOfItem_X8_markOf : GoodIn wsX8_threeOfItem wsX8_markOf := goodIn_r _ [7, 8, 9, 10, 11, 12, 13, 14, 15, 16, 17, 18, 19, 20, 21, 22, 23, 24, 25, 26, 27, 28, 29] (by decide +kernel) (by decide +kernel)
set_option maxRecDepth 20000 in
theorem gX8_threeOfItem_X8_markOf : GoodIn wsX8_threeOfItem (wsV RX8 67 RX8 yX8_markOf wsX8_markOf) := goodIn_app (goodIn_of _ (by decide +kernel)) ggX8_threeOfItem_X8_markOf
theorem dX8_threeOfItem_0 : decode cX8_threeOfItem 0 = .ok (.aload_n 0, 1) := by decide +kernel
theorem dX8_threeOfItem_1 : decode cX8_threeOfItem 1 = .ok (.iload_n 1, 1) := by decide +kernel
theorem dX8_threeOfItem_2 : decode cX8_threeOfItem 2 = .ok (.invokevirtual 67, 3) := by decide +kernel
theorem dX8_threeOfItem_5 : decode cX8_threeOfItem 5 = .ok (.i2l, 1) := by decide +kernel
theorem dX8_threeOfItem_6 : decode cX8_threeOfItem 6 = .ok (.ldc2_w 112, 3) := by decide +kernel
theorem dX8_threeOfItem_9 : decode cX8_threeOfItem 9 = .ok (.ladd, 1) := by decide +kernel
theorem dX8_threeOfItem_10 : decode cX8_threeOfItem 10 = .ok (.ldc2_w 114, 3) := by decide +kernel
theorem dX8_threeOfItem_13 : decode cX8_threeOfItem 13 = .ok (.ladd, 1) := by decide +kernel
theorem dX8_threeOfItem_14 : decode cX8_threeOfItem 14 = .ok (.lreturn, 1) := by decide +kernel
set_option maxRecDepth 20000 in
theorem ggX8_both_X8_threeOf : GoodIn wsX8_both wsX8_threeOf := goodIn_r _ [5, 6, 7, 8, 9, 10, 4, 11, 12, 13, 14, 15, 16, 17, 18, 19, 20, 21, 22, 23, 24, 25, 26, 27, 28, 29, 30, 31, 32, 33] (by decide +kernel) (by decide +kernel)
set_option maxRecDepth 20000 in
theorem gX8_both_X8_threeOf : GoodIn wsX8_both (wsV RX8 116 RX8 yX8_threeOf wsX8_threeOf) := goodIn_app (goodIn_of _ (by decide +kernel)) ggX8_both_X8_threeOf
theorem dX8_both_0 : decode cX8_both 0 = .ok (.iload_n 1, 1) := by decide +kernel
theorem dX8_both_1 : decode cX8_both 1 = .ok (.ifCond .ne 10, 3) := by decide +kernel
theorem dX8_both_4 : decode cX8_both 4 = .ok (.lload_n 2, 1) := by decide +kernel
theorem dX8_both_5 : decode cX8_both 5 = .ok (.lload 4, 2) := by decide +kernel
theorem dX8_both_7 : decode cX8_both 7 = .ok (.ladd, 1) := by decide +kernel
theorem dX8_both_8 : decode cX8_both 8 = .ok (.goto 22, 3) := by decide +kernel
theorem dX8_both_11 : decode cX8_both 11 = .ok (.iload_n 1, 1) := by decide +kernel
theorem dX8_both_12 : decode cX8_both 12 = .ok (.iconst 2, 1) := by decide +kernel
theorem dX8_both_13 : decode cX8_both 13 = .ok (.if_icmp .ne 13, 3) := by decide +kernel
theorem dX8_both_16 : decode cX8_both 16 = .ok (.aload_n 0, 1) := by decide +kernel
theorem dX8_both_17 : decode cX8_both 17 = .ok (.lload_n 2, 1) := by decide +kernel
theorem dX8_both_18 : decode cX8_both 18 = .ok (.lload 4, 2) := by decide +kernel
theorem dX8_both_20 : decode cX8_both 20 = .ok (.invokevirtual 116, 3) := by decide +kernel
theorem dX8_both_23 : decode cX8_both 23 = .ok (.goto 7, 3) := by decide +kernel
theorem dX8_both_26 : decode cX8_both 26 = .ok (.lload_n 2, 1) := by decide +kernel
theorem dX8_both_27 : decode cX8_both 27 = .ok (.lload 4, 2) := by decide +kernel
theorem dX8_both_29 : decode cX8_both 29 = .ok (.lor, 1) := by decide +kernel
theorem dX8_both_30 : decode cX8_both 30 = .ok (.lreturn, 1) := by decide +kernel
set_option maxRecDepth 20000 in
theorem ggX8_summary_X8_has : GoodIn wsX8_summary wsX8_has := goodIn_r _ [5] (by decide +kernel) (by decide +kernel)
set_option maxRecDepth 20000 in
theorem gX8_summary_X8_has : GoodIn wsX8_summary (va_wsS RX8 55 yX8_has wsX8_has) := goodIn_app (goodIn_of _ (by decide +kernel)) ggX8_summary_X8_has
set_option maxRecDepth 20000 in
theorem ggX8_summary_X8_rankOf : GoodIn wsX8_summary wsX8_rankOf := goodIn_r _ [9, 10, 11, 12, 4, 13, 14, 15, 16, 17, 18, 44, 45, 46, 47, 48, 49, 50, 51, 52, 53, 54, 55, 56, 57, 58, 59, 60] (by decide +kernel) (by decide +kernel)
set_option maxRecDepth 20000 in
theorem gX8_summary_X8_rankOf : GoodIn wsX8_summary (wsV RX8 122 RX8 yX8_rankOf wsX8_rankOf) := goodIn_app (goodIn_of _ (by decide +kernel)) ggX8_summary_X8_rankOf
set_option maxRecDepth 20000 in
theorem ggX8_summary_X8_threeOfItem : GoodIn wsX8_summary wsX8_threeOfItem := goodIn_r _ [22, 23, 24, 10, 11, 12, 4, 13, 14, 15, 16, 17, 18, 44, 45, 46, 47, 48, 49, 50, 51, 52, 53, 54, 55, 56, 57, 58, 59, 60] (by decide +kernel) (by decide +kernel)
set_option maxRecDepth 20000 in
theorem gX8_summary_X8_threeOfItem : GoodIn wsX8_summary (wsV RX8 125 RX8 yX8_threeOfItem wsX8_threeOfItem) := goodIn_app (goodIn_of _ (by decide +kernel)) ggX8_summary_X8_threeOfItem
set_option maxRecDepth 20000 in
theorem ggX8_summary_X8_both : GoodIn wsX8_summary wsX8_both := goodIn_r _ [28, 29, 30, 31, 4, 32, 33, 34, 35, 36, 37, 38, 39, 40, 41, 42, 43, 44, 45, 46, 47, 48, 49, 50, 51, 52, 53, 54, 55, 56, 57, 58, 59, 60] (by decide +kernel) (by decide +kernel)
set_option maxRecDepth 20000 in
theorem gX8_summary_X8_both : GoodIn wsX8_summary (wsV RX8 129 RX8 yX8_both wsX8_both) := goodIn_app (goodIn_of _ (by decide +kernel)) ggX8_summary_X8_both
theorem dX8_summary_0 : decode cX8_summary 0 = .ok (.iload_n 1, 1) := by decide +kernel
theorem dX8_summary_1 : decode cX8_summary 1 = .ok (.iconst 2, 1) := by decide +kernel
theorem dX8_summary_2 : decode cX8_summary 2 = .ok (.if_icmp .ne 9, 3) := by decide +kernel
theorem dX8_summary_5 : decode cX8_summary 5 = .ok (.ldc2_w 120, 3) := by decide +kernel
theorem dX8_summary_8 : decode cX8_summary 8 = .ok (.goto 4, 3) := by decide +kernel
theorem dX8_summary_11 : decode cX8_summary 11 = .ok (.lconst 0, 1) := by decide +kernel
theorem dX8_summary_12 : decode cX8_summary 12 = .ok (.lstore_n 3, 1) := by decide +kernel
theorem dX8_summary_13 : decode cX8_summary 13 = .ok (.iconst 0, 1) := by decide +kernel
theorem dX8_summary_14 : decode cX8_summary 14 = .ok (.istore 5, 2) := by decide +kernel
theorem dX8_summary_16 : decode cX8_summary 16 = .ok (.iload 5, 2) := by decide +kernel
theorem dX8_summary_18 : decode cX8_summary 18 = .ok (.bipush 16, 2) := by decide +kernel
theorem dX8_summary_20 : decode cX8_summary 20 = .ok (.if_icmp .ge 71, 3) := by decide +kernel
theorem dX8_summary_23 : decode cX8_summary 23 = .ok (.iload_n 2, 1) := by decide +kernel
theorem dX8_summary_24 : decode cX8_summary 24 = .ok (.iload 5, 2) := by decide +kernel
theorem dX8_summary_26 : decode cX8_summary 26 = .ok (.invokestatic 55, 3) := by decide +kernel
theorem dX8_summary_29 : decode cX8_summary 29 = .ok (.ifCond .eq 56, 3) := by decide +kernel
theorem dX8_summary_32 : decode cX8_summary 32 = .ok (.iload_n 1, 1) := by decide +kernel
theorem dX8_summary_33 : decode cX8_summary 33 = .ok (.ifCond .ne 7, 3) := by decide +kernel
theorem dX8_summary_36 : decode cX8_summary 36 = .ok (.lconst 1, 1) := by decide +kernel
theorem dX8_summary_37 : decode cX8_summary 37 = .ok (.goto 37, 3) := by decide +kernel
theorem dX8_summary_40 : decode cX8_summary 40 = .ok (.iload_n 1, 1) := by decide +kernel
theorem dX8_summary_41 : decode cX8_summary 41 = .ok (.iconst 1, 1) := by decide +kernel
theorem dX8_summary_42 : decode cX8_summary 42 = .ok (.if_icmp .ne 14, 3) := by decide +kernel
theorem dX8_summary_45 : decode cX8_summary 45 = .ok (.lconst 1, 1) := by decide +kernel
theorem dX8_summary_46 : decode cX8_summary 46 = .ok (.aload_n 0, 1) := by decide +kernel
theorem dX8_summary_47 : decode cX8_summary 47 = .ok (.iload 5, 2) := by decide +kernel
theorem dX8_summary_49 : decode cX8_summary 49 = .ok (.invokevirtual 122, 3) := by decide +kernel
theorem dX8_summary_52 : decode cX8_summary 52 = .ok (.lshl, 1) := by decide +kernel
theorem dX8_summary_53 : decode cX8_summary 53 = .ok (.goto 21, 3) := by decide +kernel
theorem dX8_summary_56 : decode cX8_summary 56 = .ok (.iload_n 1, 1) := by decide +kernel
theorem dX8_summary_57 : decode cX8_summary 57 = .ok (.iconst 2, 1) := by decide +kernel
theorem dX8_summary_58 : decode cX8_summary 58 = .ok (.if_icmp .ne 12, 3) := by decide +kernel
theorem dX8_summary_61 : decode cX8_summary 61 = .ok (.aload_n 0, 1) := by decide +kernel
theorem dX8_summary_62 : decode cX8_summary 62 = .ok (.iload 5, 2) := by decide +kernel
theorem dX8_summary_64 : decode cX8_summary 64 = .ok (.invokevirtual 125, 3) := by decide +kernel
theorem dX8_summary_67 : decode cX8_summary 67 = .ok (.goto 7, 3) := by decide +kernel
theorem dX8_summary_70 : decode cX8_summary 70 = .ok (.lconst 1, 1) := by decide +kernel
theorem dX8_summary_71 : decode cX8_summary 71 = .ok (.iload 5, 2) := by decide +kernel
theorem dX8_summary_73 : decode cX8_summary 73 = .ok (.lshl, 1) := by decide +kernel
theorem dX8_summary_74 : decode cX8_summary 74 = .ok (.lstore 6, 2) := by decide +kernel
theorem dX8_summary_76 : decode cX8_summary 76 = .ok (.aload_n 0, 1) := by decide +kernel
theorem dX8_summary_77 : decode cX8_summary 77 = .ok (.iload_n 1, 1) := by decide +kernel
theorem dX8_summary_78 : decode cX8_summary 78 = .ok (.lload_n 3, 1) := by decide +kernel
theorem dX8_summary_79 : decode cX8_summary 79 = .ok (.lload 6, 2) := by decide +kernel
theorem dX8_summary_81 : decode cX8_summary 81 = .ok (.invokevirtual 129, 3) := by decide +kernel
theorem dX8_summary_84 : decode cX8_summary 84 = .ok (.lstore_n 3, 1) := by decide +kernel
theorem dX8_summary_85 : decode cX8_summary 85 = .ok (.iinc 5 1, 3) := by decide +kernel
theorem dX8_summary_88 : decode cX8_summary 88 = .ok (.goto (-72), 3) := by decide +kernel
theorem dX8_summary_91 : decode cX8_summary 91 = .ok (.lload_n 3, 1) := by decide +kernel
theorem dX8_summary_92 : decode cX8_summary 92 = .ok (.lreturn, 1) := by decide +kernel
set_option maxRecDepth 20000 in
theorem ggX8_layHeld_X8_layLetters : GoodIn wsX8_layHeld wsX8_layLetters := goodIn_r _ [10, 3, 1, 11, 12, 13, 14, 9, 15, 16, 17, 18, 19, 20, 21, 22, 23, 24, 25, 26, 27, 28, 29, 30, 5, 4, 31, 32, 33, 34, 81, 82, 83, 84, 85, 86, 87, 88, 89, 90, 91, 92, 93, 94, 95, 96, 97] (by decide +kernel) (by decide +kernel)
set_option maxRecDepth 20000 in
theorem gX8_layHeld_X8_layLetters : GoodIn wsX8_layHeld (wsV RX8 92 RX8 yX8_layLetters wsX8_layLetters) := goodIn_app (goodIn_of _ (by decide +kernel)) ggX8_layHeld_X8_layLetters
set_option maxRecDepth 20000 in
theorem ggX8_layHeld_X8_summary : GoodIn wsX8_layHeld wsX8_summary := goodIn_r _ [38, 39, 20, 21, 9, 22, 40, 41, 42, 43, 44, 45, 46, 47, 48, 1, 49, 50, 51, 52, 53, 54, 55, 56, 57, 58, 59, 60, 61, 62, 63, 64, 65, 66, 67, 68, 69, 70, 71, 72, 73, 74, 75, 76, 81, 82, 83, 84, 85, 86, 87, 88, 89, 90, 91, 92, 93, 94, 95, 96, 97] (by decide +kernel) (by decide +kernel)
set_option maxRecDepth 20000 in
theorem gX8_layHeld_X8_summary : GoodIn wsX8_layHeld (wsV RX8 133 RX8 yX8_summary wsX8_summary) := goodIn_app (goodIn_of _ (by decide +kernel)) ggX8_layHeld_X8_summary
set_option maxRecDepth 20000 in
theorem ggX8_layHeld_X8_comes : GoodIn wsX8_layHeld wsX8_comes := goodIn_r _ [80, 1, 5, 4, 20, 21, 9, 22, 81, 82, 83, 84, 85, 86, 87, 88, 89, 90, 91, 92, 93, 94, 95, 96, 97] (by decide +kernel) (by decide +kernel)
set_option maxRecDepth 20000 in
theorem gX8_layHeld_X8_comes : GoodIn wsX8_layHeld (wsV RX8 95 RX8 yX8_comes wsX8_comes) := goodIn_app (goodIn_of _ (by decide +kernel)) ggX8_layHeld_X8_comes
set_option maxRecDepth 20000 in
theorem ggX8_layHeld_X8_both : GoodIn wsX8_layHeld wsX8_both := goodIn_r _ [61, 62, 63, 64, 9, 65, 66, 67, 68, 69, 70, 71, 72, 73, 74, 75, 76, 81, 82, 83, 84, 85, 86, 87, 88, 89, 90, 91, 92, 93, 94, 95, 96, 97] (by decide +kernel) (by decide +kernel)
set_option maxRecDepth 20000 in
theorem gX8_layHeld_X8_both : GoodIn wsX8_layHeld (wsV RX8 129 RX8 yX8_both wsX8_both) := goodIn_app (goodIn_of _ (by decide +kernel)) ggX8_layHeld_X8_both
theorem dX8_layHeld_0 : decode cX8_layHeld 0 = .ok (.aload_n 0, 1) := by decide +kernel
theorem dX8_layHeld_1 : decode cX8_layHeld 1 = .ok (.invokevirtual 92, 3) := by decide +kernel
theorem dX8_layHeld_4 : decode cX8_layHeld 4 = .ok (.iconst 0, 1) := by decide +kernel
theorem dX8_layHeld_5 : decode cX8_layHeld 5 = .ok (.istore_n 2, 1) := by decide +kernel
theorem dX8_layHeld_6 : decode cX8_layHeld 6 = .ok (.iload_n 2, 1) := by decide +kernel
theorem dX8_layHeld_7 : decode cX8_layHeld 7 = .ok (.aload_n 0, 1) := by decide +kernel
theorem dX8_layHeld_8 : decode cX8_layHeld 8 = .ok (.getfield 9, 3) := by decide +kernel
theorem dX8_layHeld_11 : decode cX8_layHeld 11 = .ok (.iconst 0, 1) := by decide +kernel
theorem dX8_layHeld_12 : decode cX8_layHeld 12 = .ok (.iaload, 1) := by decide +kernel
theorem dX8_layHeld_13 : decode cX8_layHeld 13 = .ok (.if_icmp .ge 29, 3) := by decide +kernel
theorem dX8_layHeld_16 : decode cX8_layHeld 16 = .ok (.aload_n 0, 1) := by decide +kernel
theorem dX8_layHeld_17 : decode cX8_layHeld 17 = .ok (.getfield 34, 3) := by decide +kernel
theorem dX8_layHeld_20 : decode cX8_layHeld 20 = .ok (.iload_n 2, 1) := by decide +kernel
theorem dX8_layHeld_21 : decode cX8_layHeld 21 = .ok (.aload_n 0, 1) := by decide +kernel
theorem dX8_layHeld_22 : decode cX8_layHeld 22 = .ok (.iload_n 1, 1) := by decide +kernel
theorem dX8_layHeld_23 : decode cX8_layHeld 23 = .ok (.aload_n 0, 1) := by decide +kernel
theorem dX8_layHeld_24 : decode cX8_layHeld 24 = .ok (.getfield 9, 3) := by decide +kernel
theorem dX8_layHeld_27 : decode cX8_layHeld 27 = .ok (.bipush 21, 2) := by decide +kernel
theorem dX8_layHeld_29 : decode cX8_layHeld 29 = .ok (.iload_n 2, 1) := by decide +kernel
theorem dX8_layHeld_30 : decode cX8_layHeld 30 = .ok (.iadd, 1) := by decide +kernel
theorem dX8_layHeld_31 : decode cX8_layHeld 31 = .ok (.iaload, 1) := by decide +kernel
theorem dX8_layHeld_32 : decode cX8_layHeld 32 = .ok (.invokevirtual 133, 3) := by decide +kernel
theorem dX8_layHeld_35 : decode cX8_layHeld 35 = .ok (.lastore, 1) := by decide +kernel
theorem dX8_layHeld_36 : decode cX8_layHeld 36 = .ok (.iinc 2 1, 3) := by decide +kernel
theorem dX8_layHeld_39 : decode cX8_layHeld 39 = .ok (.goto (-33), 3) := by decide +kernel
theorem dX8_layHeld_42 : decode cX8_layHeld 42 = .ok (.iconst 0, 1) := by decide +kernel
theorem dX8_layHeld_43 : decode cX8_layHeld 43 = .ok (.istore_n 2, 1) := by decide +kernel
theorem dX8_layHeld_44 : decode cX8_layHeld 44 = .ok (.iload_n 2, 1) := by decide +kernel
theorem dX8_layHeld_45 : decode cX8_layHeld 45 = .ok (.aload_n 0, 1) := by decide +kernel
theorem dX8_layHeld_46 : decode cX8_layHeld 46 = .ok (.getfield 77, 3) := by decide +kernel
theorem dX8_layHeld_49 : decode cX8_layHeld 49 = .ok (.if_icmp .ge 69, 3) := by decide +kernel
theorem dX8_layHeld_52 : decode cX8_layHeld 52 = .ok (.aload_n 0, 1) := by decide +kernel
theorem dX8_layHeld_53 : decode cX8_layHeld 53 = .ok (.getfield 34, 3) := by decide +kernel
theorem dX8_layHeld_56 : decode cX8_layHeld 56 = .ok (.aload_n 0, 1) := by decide +kernel
theorem dX8_layHeld_57 : decode cX8_layHeld 57 = .ok (.getfield 28, 3) := by decide +kernel
theorem dX8_layHeld_60 : decode cX8_layHeld 60 = .ok (.iload_n 2, 1) := by decide +kernel
theorem dX8_layHeld_61 : decode cX8_layHeld 61 = .ok (.iaload, 1) := by decide +kernel
theorem dX8_layHeld_62 : decode cX8_layHeld 62 = .ok (.aload_n 0, 1) := by decide +kernel
theorem dX8_layHeld_63 : decode cX8_layHeld 63 = .ok (.iload_n 2, 1) := by decide +kernel
theorem dX8_layHeld_64 : decode cX8_layHeld 64 = .ok (.invokevirtual 95, 3) := by decide +kernel
theorem dX8_layHeld_67 : decode cX8_layHeld 67 = .ok (.ifCond .eq 33, 3) := by decide +kernel
theorem dX8_layHeld_70 : decode cX8_layHeld 70 = .ok (.aload_n 0, 1) := by decide +kernel
theorem dX8_layHeld_71 : decode cX8_layHeld 71 = .ok (.iload_n 1, 1) := by decide +kernel
theorem dX8_layHeld_72 : decode cX8_layHeld 72 = .ok (.aload_n 0, 1) := by decide +kernel
theorem dX8_layHeld_73 : decode cX8_layHeld 73 = .ok (.getfield 34, 3) := by decide +kernel
theorem dX8_layHeld_76 : decode cX8_layHeld 76 = .ok (.aload_n 0, 1) := by decide +kernel
theorem dX8_layHeld_77 : decode cX8_layHeld 77 = .ok (.getfield 28, 3) := by decide +kernel
theorem dX8_layHeld_80 : decode cX8_layHeld 80 = .ok (.iload_n 2, 1) := by decide +kernel
theorem dX8_layHeld_81 : decode cX8_layHeld 81 = .ok (.iaload, 1) := by decide +kernel
theorem dX8_layHeld_82 : decode cX8_layHeld 82 = .ok (.laload, 1) := by decide +kernel
theorem dX8_layHeld_83 : decode cX8_layHeld 83 = .ok (.aload_n 0, 1) := by decide +kernel
theorem dX8_layHeld_84 : decode cX8_layHeld 84 = .ok (.getfield 34, 3) := by decide +kernel
theorem dX8_layHeld_87 : decode cX8_layHeld 87 = .ok (.aload_n 0, 1) := by decide +kernel
theorem dX8_layHeld_88 : decode cX8_layHeld 88 = .ok (.getfield 25, 3) := by decide +kernel
theorem dX8_layHeld_91 : decode cX8_layHeld 91 = .ok (.iload_n 2, 1) := by decide +kernel
theorem dX8_layHeld_92 : decode cX8_layHeld 92 = .ok (.iaload, 1) := by decide +kernel
theorem dX8_layHeld_93 : decode cX8_layHeld 93 = .ok (.laload, 1) := by decide +kernel
theorem dX8_layHeld_94 : decode cX8_layHeld 94 = .ok (.invokevirtual 129, 3) := by decide +kernel
theorem dX8_layHeld_97 : decode cX8_layHeld 97 = .ok (.goto 14, 3) := by decide +kernel
theorem dX8_layHeld_100 : decode cX8_layHeld 100 = .ok (.aload_n 0, 1) := by decide +kernel
theorem dX8_layHeld_101 : decode cX8_layHeld 101 = .ok (.getfield 34, 3) := by decide +kernel
theorem dX8_layHeld_104 : decode cX8_layHeld 104 = .ok (.aload_n 0, 1) := by decide +kernel
theorem dX8_layHeld_105 : decode cX8_layHeld 105 = .ok (.getfield 28, 3) := by decide +kernel
theorem dX8_layHeld_108 : decode cX8_layHeld 108 = .ok (.iload_n 2, 1) := by decide +kernel
theorem dX8_layHeld_109 : decode cX8_layHeld 109 = .ok (.iaload, 1) := by decide +kernel
theorem dX8_layHeld_110 : decode cX8_layHeld 110 = .ok (.laload, 1) := by decide +kernel
theorem dX8_layHeld_111 : decode cX8_layHeld 111 = .ok (.lastore, 1) := by decide +kernel
theorem dX8_layHeld_112 : decode cX8_layHeld 112 = .ok (.iinc 2 1, 3) := by decide +kernel
theorem dX8_layHeld_115 : decode cX8_layHeld 115 = .ok (.goto (-71), 3) := by decide +kernel
theorem dX8_layHeld_118 : decode cX8_layHeld 118 = .ok (.return_, 1) := by decide +kernel
set_option maxRecDepth 20000 in
theorem ggX8_byBits_X8_layHeld : GoodIn wsX8_byBits wsX8_layHeld := goodIn_r _ [6, 7, 1, 8, 9, 10, 11, 12, 13, 5, 14, 15, 16, 17, 18, 19, 20, 21, 22, 23, 24, 25, 26, 27, 28, 29, 30, 31, 32, 33, 34, 35, 36, 37, 38, 39, 40, 41, 42, 43, 44, 45, 46, 47, 48, 49, 50, 51, 52, 53, 54, 55, 56, 57, 58, 59, 60, 61, 62, 63, 64, 65, 66, 67, 68, 69, 70, 71, 72, 73, 74, 75, 76, 77, 78, 79, 80, 81, 82, 83, 84, 85, 86, 87, 88, 89, 90, 91, 92, 93, 94, 95, 96, 97, 98, 99, 100, 101] (by decide +kernel) (by decide +kernel)
set_option maxRecDepth 20000 in
theorem gX8_byBits_X8_layHeld : GoodIn wsX8_byBits (wsV RX8 137 RX8 yX8_layHeld wsX8_layHeld) := goodIn_app (goodIn_of _ (by decide +kernel)) ggX8_byBits_X8_layHeld
theorem dX8_byBits_0 : decode cX8_byBits 0 = .ok (.aload_n 0, 1) := by decide +kernel
theorem dX8_byBits_1 : decode cX8_byBits 1 = .ok (.iconst 1, 1) := by decide +kernel
theorem dX8_byBits_2 : decode cX8_byBits 2 = .ok (.invokevirtual 137, 3) := by decide +kernel
theorem dX8_byBits_5 : decode cX8_byBits 5 = .ok (.iconst 0, 1) := by decide +kernel
theorem dX8_byBits_6 : decode cX8_byBits 6 = .ok (.istore_n 2, 1) := by decide +kernel
theorem dX8_byBits_7 : decode cX8_byBits 7 = .ok (.iload_n 2, 1) := by decide +kernel
theorem dX8_byBits_8 : decode cX8_byBits 8 = .ok (.bipush 8, 2) := by decide +kernel
theorem dX8_byBits_10 : decode cX8_byBits 10 = .ok (.if_icmp .ge 24, 3) := by decide +kernel
theorem dX8_byBits_13 : decode cX8_byBits 13 = .ok (.aload_n 0, 1) := by decide +kernel
theorem dX8_byBits_14 : decode cX8_byBits 14 = .ok (.getfield 34, 3) := by decide +kernel
theorem dX8_byBits_17 : decode cX8_byBits 17 = .ok (.iload_n 1, 1) := by decide +kernel
theorem dX8_byBits_18 : decode cX8_byBits 18 = .ok (.laload, 1) := by decide +kernel
theorem dX8_byBits_19 : decode cX8_byBits 19 = .ok (.iload_n 2, 1) := by decide +kernel
theorem dX8_byBits_20 : decode cX8_byBits 20 = .ok (.lshr, 1) := by decide +kernel
theorem dX8_byBits_21 : decode cX8_byBits 21 = .ok (.lconst 1, 1) := by decide +kernel
theorem dX8_byBits_22 : decode cX8_byBits 22 = .ok (.land, 1) := by decide +kernel
theorem dX8_byBits_23 : decode cX8_byBits 23 = .ok (.lconst 1, 1) := by decide +kernel
theorem dX8_byBits_24 : decode cX8_byBits 24 = .ok (.lcmp, 1) := by decide +kernel
theorem dX8_byBits_25 : decode cX8_byBits 25 = .ok (.ifCond .ne 9, 3) := by decide +kernel
theorem dX8_byBits_28 : decode cX8_byBits 28 = .ok (.iinc 2 1, 3) := by decide +kernel
theorem dX8_byBits_31 : decode cX8_byBits 31 = .ok (.goto (-24), 3) := by decide +kernel
theorem dX8_byBits_34 : decode cX8_byBits 34 = .ok (.aload_n 0, 1) := by decide +kernel
theorem dX8_byBits_35 : decode cX8_byBits 35 = .ok (.getfield 34, 3) := by decide +kernel
theorem dX8_byBits_38 : decode cX8_byBits 38 = .ok (.iload_n 1, 1) := by decide +kernel
theorem dX8_byBits_39 : decode cX8_byBits 39 = .ok (.laload, 1) := by decide +kernel
theorem dX8_byBits_40 : decode cX8_byBits 40 = .ok (.lconst 0, 1) := by decide +kernel
theorem dX8_byBits_41 : decode cX8_byBits 41 = .ok (.lcmp, 1) := by decide +kernel
theorem dX8_byBits_42 : decode cX8_byBits 42 = .ok (.ifCond .ne 7, 3) := by decide +kernel
theorem dX8_byBits_45 : decode cX8_byBits 45 = .ok (.iconst 0, 1) := by decide +kernel
theorem dX8_byBits_46 : decode cX8_byBits 46 = .ok (.goto 14, 3) := by decide +kernel
theorem dX8_byBits_49 : decode cX8_byBits 49 = .ok (.iconst 1, 1) := by decide +kernel
theorem dX8_byBits_50 : decode cX8_byBits 50 = .ok (.iload_n 2, 1) := by decide +kernel
theorem dX8_byBits_51 : decode cX8_byBits 51 = .ok (.ishl, 1) := by decide +kernel
theorem dX8_byBits_52 : decode cX8_byBits 52 = .ok (.sipush 1000, 3) := by decide +kernel
theorem dX8_byBits_55 : decode cX8_byBits 55 = .ok (.imul, 1) := by decide +kernel
theorem dX8_byBits_56 : decode cX8_byBits 56 = .ok (.sipush 773, 3) := by decide +kernel
theorem dX8_byBits_59 : decode cX8_byBits 59 = .ok (.idiv, 1) := by decide +kernel
theorem dX8_byBits_60 : decode cX8_byBits 60 = .ok (.ireturn, 1) := by decide +kernel
set_option maxRecDepth 20000 in
theorem ggX8_byLeast_X8_layHeld : GoodIn wsX8_byLeast wsX8_layHeld := goodIn_r _ [7, 8, 1, 9, 10, 11, 12, 13, 14, 6, 15, 16, 17, 18, 19, 20, 21, 22, 23, 24, 25, 26, 27, 28, 29, 30, 31, 32, 33, 34, 35, 36, 37, 38, 39, 40, 41, 42, 43, 44, 45, 46, 47, 48, 49, 50, 51, 52, 53, 54, 55, 56, 57, 58, 59, 60, 61, 62, 63, 64, 65, 66, 67, 68, 69, 70, 71, 72, 73, 74, 75, 76, 2, 77, 78, 79, 80, 81, 82, 83, 84, 85, 86, 87, 88, 89, 90, 91, 92, 93, 94, 95, 96, 97, 98, 99, 100, 101] (by decide +kernel) (by decide +kernel)
set_option maxRecDepth 20000 in
theorem gX8_byLeast_X8_layHeld : GoodIn wsX8_byLeast (wsV RX8 137 RX8 yX8_layHeld wsX8_layHeld) := goodIn_app (goodIn_of _ (by decide +kernel)) ggX8_byLeast_X8_layHeld
set_option maxRecDepth 20000 in
theorem ggX8_byLeast_X8_unpack : GoodIn wsX8_byLeast wsX8_unpack := goodIn_r _ [76, 2, 71, 72, 85, 86, 87, 88, 89, 90, 91, 92, 93, 94, 95, 96, 97, 98, 99, 100, 101] (by decide +kernel) (by decide +kernel)
set_option maxRecDepth 20000 in
theorem gX8_byLeast_X8_unpack : GoodIn wsX8_byLeast (wsV RX8 105 RX8 yX8_unpack wsX8_unpack) := goodIn_app (goodIn_of _ (by decide +kernel)) ggX8_byLeast_X8_unpack
theorem dX8_byLeast_0 : decode cX8_byLeast 0 = .ok (.aload_n 0, 1) := by decide +kernel
theorem dX8_byLeast_1 : decode cX8_byLeast 1 = .ok (.iconst 2, 1) := by decide +kernel
theorem dX8_byLeast_2 : decode cX8_byLeast 2 = .ok (.invokevirtual 137, 3) := by decide +kernel
theorem dX8_byLeast_5 : decode cX8_byLeast 5 = .ok (.aload_n 0, 1) := by decide +kernel
theorem dX8_byLeast_6 : decode cX8_byLeast 6 = .ok (.aload_n 0, 1) := by decide +kernel
theorem dX8_byLeast_7 : decode cX8_byLeast 7 = .ok (.getfield 34, 3) := by decide +kernel
theorem dX8_byLeast_10 : decode cX8_byLeast 10 = .ok (.iload_n 1, 1) := by decide +kernel
theorem dX8_byLeast_11 : decode cX8_byLeast 11 = .ok (.laload, 1) := by decide +kernel
theorem dX8_byLeast_12 : decode cX8_byLeast 12 = .ok (.iconst 0, 1) := by decide +kernel
theorem dX8_byLeast_13 : decode cX8_byLeast 13 = .ok (.invokevirtual 105, 3) := by decide +kernel
theorem dX8_byLeast_16 : decode cX8_byLeast 16 = .ok (.aload_n 0, 1) := by decide +kernel
theorem dX8_byLeast_17 : decode cX8_byLeast 17 = .ok (.getfield 38, 3) := by decide +kernel
theorem dX8_byLeast_20 : decode cX8_byLeast 20 = .ok (.iconst 0, 1) := by decide +kernel
theorem dX8_byLeast_21 : decode cX8_byLeast 21 = .ok (.iaload, 1) := by decide +kernel
theorem dX8_byLeast_22 : decode cX8_byLeast 22 = .ok (.sipush 1024, 3) := by decide +kernel
theorem dX8_byLeast_25 : decode cX8_byLeast 25 = .ok (.if_icmp .ge 7, 3) := by decide +kernel
theorem dX8_byLeast_28 : decode cX8_byLeast 28 = .ok (.iconst 1, 1) := by decide +kernel
theorem dX8_byLeast_29 : decode cX8_byLeast 29 = .ok (.goto 4, 3) := by decide +kernel
theorem dX8_byLeast_32 : decode cX8_byLeast 32 = .ok (.iconst 0, 1) := by decide +kernel
theorem dX8_byLeast_33 : decode cX8_byLeast 33 = .ok (.aload_n 0, 1) := by decide +kernel
theorem dX8_byLeast_34 : decode cX8_byLeast 34 = .ok (.getfield 38, 3) := by decide +kernel
theorem dX8_byLeast_37 : decode cX8_byLeast 37 = .ok (.iconst 1, 1) := by decide +kernel
theorem dX8_byLeast_38 : decode cX8_byLeast 38 = .ok (.iaload, 1) := by decide +kernel
theorem dX8_byLeast_39 : decode cX8_byLeast 39 = .ok (.sipush 1024, 3) := by decide +kernel
theorem dX8_byLeast_42 : decode cX8_byLeast 42 = .ok (.if_icmp .ge 7, 3) := by decide +kernel
theorem dX8_byLeast_45 : decode cX8_byLeast 45 = .ok (.iconst 1, 1) := by decide +kernel
theorem dX8_byLeast_46 : decode cX8_byLeast 46 = .ok (.goto 4, 3) := by decide +kernel
theorem dX8_byLeast_49 : decode cX8_byLeast 49 = .ok (.iconst 0, 1) := by decide +kernel
theorem dX8_byLeast_50 : decode cX8_byLeast 50 = .ok (.iadd, 1) := by decide +kernel
theorem dX8_byLeast_51 : decode cX8_byLeast 51 = .ok (.aload_n 0, 1) := by decide +kernel
theorem dX8_byLeast_52 : decode cX8_byLeast 52 = .ok (.getfield 38, 3) := by decide +kernel
theorem dX8_byLeast_55 : decode cX8_byLeast 55 = .ok (.iconst 2, 1) := by decide +kernel
theorem dX8_byLeast_56 : decode cX8_byLeast 56 = .ok (.iaload, 1) := by decide +kernel
theorem dX8_byLeast_57 : decode cX8_byLeast 57 = .ok (.sipush 1024, 3) := by decide +kernel
theorem dX8_byLeast_60 : decode cX8_byLeast 60 = .ok (.if_icmp .ge 7, 3) := by decide +kernel
theorem dX8_byLeast_63 : decode cX8_byLeast 63 = .ok (.iconst 1, 1) := by decide +kernel
theorem dX8_byLeast_64 : decode cX8_byLeast 64 = .ok (.goto 4, 3) := by decide +kernel
theorem dX8_byLeast_67 : decode cX8_byLeast 67 = .ok (.iconst 0, 1) := by decide +kernel
theorem dX8_byLeast_68 : decode cX8_byLeast 68 = .ok (.iadd, 1) := by decide +kernel
theorem dX8_byLeast_69 : decode cX8_byLeast 69 = .ok (.istore_n 2, 1) := by decide +kernel
theorem dX8_byLeast_70 : decode cX8_byLeast 70 = .ok (.iload_n 2, 1) := by decide +kernel
theorem dX8_byLeast_71 : decode cX8_byLeast 71 = .ok (.iconst 3, 1) := by decide +kernel
theorem dX8_byLeast_72 : decode cX8_byLeast 72 = .ok (.if_icmp .ge 7, 3) := by decide +kernel
theorem dX8_byLeast_75 : decode cX8_byLeast 75 = .ok (.iload_n 2, 1) := by decide +kernel
theorem dX8_byLeast_76 : decode cX8_byLeast 76 = .ok (.goto 15, 3) := by decide +kernel
theorem dX8_byLeast_79 : decode cX8_byLeast 79 = .ok (.sipush 2048, 3) := by decide +kernel
theorem dX8_byLeast_82 : decode cX8_byLeast 82 = .ok (.aload_n 0, 1) := by decide +kernel
theorem dX8_byLeast_83 : decode cX8_byLeast 83 = .ok (.getfield 38, 3) := by decide +kernel
theorem dX8_byLeast_86 : decode cX8_byLeast 86 = .ok (.iconst 2, 1) := by decide +kernel
theorem dX8_byLeast_87 : decode cX8_byLeast 87 = .ok (.iaload, 1) := by decide +kernel
theorem dX8_byLeast_88 : decode cX8_byLeast 88 = .ok (.iconst 1, 1) := by decide +kernel
theorem dX8_byLeast_89 : decode cX8_byLeast 89 = .ok (.iadd, 1) := by decide +kernel
theorem dX8_byLeast_90 : decode cX8_byLeast 90 = .ok (.idiv, 1) := by decide +kernel
theorem dX8_byLeast_91 : decode cX8_byLeast 91 = .ok (.ireturn, 1) := by decide +kernel
set_option maxRecDepth 20000 in
theorem ggX8_truth_X8_layRings : GoodIn wsX8_truth wsX8_layRings := goodIn_r _ [7, 2, 8, 9, 10, 6, 11, 1, 12, 13, 14, 18, 19, 20, 21, 22, 23, 24, 25, 26, 27, 28, 29, 30, 31, 32, 33, 34] (by decide +kernel) (by decide +kernel)
set_option maxRecDepth 20000 in
theorem gX8_truth_X8_layRings : GoodIn wsX8_truth (wsV RX8 81 RX8 yX8_layRings wsX8_layRings) := goodIn_app (goodIn_of _ (by decide +kernel)) ggX8_truth_X8_layRings
set_option maxRecDepth 20000 in
theorem ggX8_truth_X8_ones : GoodIn wsX8_truth wsX8_ones := goodIn_r _ [17, 12, 13, 6, 14] (by decide +kernel) (by decide +kernel)
set_option maxRecDepth 20000 in
theorem gX8_truth_X8_ones : GoodIn wsX8_truth (va_wsS RX8 140 yX8_ones wsX8_ones) := goodIn_app (goodIn_of _ (by decide +kernel)) ggX8_truth_X8_ones
theorem dX8_truth_0 : decode cX8_truth 0 = .ok (.aload_n 0, 1) := by decide +kernel
theorem dX8_truth_1 : decode cX8_truth 1 = .ok (.invokevirtual 81, 3) := by decide +kernel
theorem dX8_truth_4 : decode cX8_truth 4 = .ok (.iconst 0, 1) := by decide +kernel
theorem dX8_truth_5 : decode cX8_truth 5 = .ok (.istore_n 1, 1) := by decide +kernel
theorem dX8_truth_6 : decode cX8_truth 6 = .ok (.iconst 0, 1) := by decide +kernel
theorem dX8_truth_7 : decode cX8_truth 7 = .ok (.istore_n 2, 1) := by decide +kernel
theorem dX8_truth_8 : decode cX8_truth 8 = .ok (.iload_n 2, 1) := by decide +kernel
theorem dX8_truth_9 : decode cX8_truth 9 = .ok (.aload_n 0, 1) := by decide +kernel
theorem dX8_truth_10 : decode cX8_truth 10 = .ok (.getfield 9, 3) := by decide +kernel
theorem dX8_truth_13 : decode cX8_truth 13 = .ok (.iconst 0, 1) := by decide +kernel
theorem dX8_truth_14 : decode cX8_truth 14 = .ok (.iaload, 1) := by decide +kernel
theorem dX8_truth_15 : decode cX8_truth 15 = .ok (.if_icmp .ge 35, 3) := by decide +kernel
theorem dX8_truth_18 : decode cX8_truth 18 = .ok (.iload_n 1, 1) := by decide +kernel
theorem dX8_truth_19 : decode cX8_truth 19 = .ok (.aload_n 0, 1) := by decide +kernel
theorem dX8_truth_20 : decode cX8_truth 20 = .ok (.getfield 22, 3) := by decide +kernel
theorem dX8_truth_23 : decode cX8_truth 23 = .ok (.iload_n 2, 1) := by decide +kernel
theorem dX8_truth_24 : decode cX8_truth 24 = .ok (.iaload, 1) := by decide +kernel
theorem dX8_truth_25 : decode cX8_truth 25 = .ok (.iconst (-1), 1) := by decide +kernel
theorem dX8_truth_26 : decode cX8_truth 26 = .ok (.if_icmp .ne 7, 3) := by decide +kernel
theorem dX8_truth_29 : decode cX8_truth 29 = .ok (.iconst 0, 1) := by decide +kernel
theorem dX8_truth_30 : decode cX8_truth 30 = .ok (.goto 12, 3) := by decide +kernel
theorem dX8_truth_33 : decode cX8_truth 33 = .ok (.aload_n 0, 1) := by decide +kernel
theorem dX8_truth_34 : decode cX8_truth 34 = .ok (.getfield 9, 3) := by decide +kernel
theorem dX8_truth_37 : decode cX8_truth 37 = .ok (.bipush 21, 2) := by decide +kernel
theorem dX8_truth_39 : decode cX8_truth 39 = .ok (.iload_n 2, 1) := by decide +kernel
theorem dX8_truth_40 : decode cX8_truth 40 = .ok (.iadd, 1) := by decide +kernel
theorem dX8_truth_41 : decode cX8_truth 41 = .ok (.iaload, 1) := by decide +kernel
theorem dX8_truth_42 : decode cX8_truth 42 = .ok (.ior, 1) := by decide +kernel
theorem dX8_truth_43 : decode cX8_truth 43 = .ok (.istore_n 1, 1) := by decide +kernel
theorem dX8_truth_44 : decode cX8_truth 44 = .ok (.iinc 2 1, 3) := by decide +kernel
theorem dX8_truth_47 : decode cX8_truth 47 = .ok (.goto (-39), 3) := by decide +kernel
theorem dX8_truth_50 : decode cX8_truth 50 = .ok (.iload_n 1, 1) := by decide +kernel
theorem dX8_truth_51 : decode cX8_truth 51 = .ok (.invokestatic 140, 3) := by decide +kernel
theorem dX8_truth_54 : decode cX8_truth 54 = .ok (.ireturn, 1) := by decide +kernel
set_option maxRecDepth 20000 in
theorem ggX8_links_X8_ones : GoodIn wsX8_links wsX8_ones := goodIn_r _ [5, 6, 7, 4, 8] (by decide +kernel) (by decide +kernel)
set_option maxRecDepth 20000 in
theorem gX8_links_X8_ones : GoodIn wsX8_links (va_wsS RX8 140 yX8_ones wsX8_ones) := goodIn_app (goodIn_of _ (by decide +kernel)) ggX8_links_X8_ones
theorem dX8_links_0 : decode cX8_links 0 = .ok (.iconst 0, 1) := by decide +kernel
theorem dX8_links_1 : decode cX8_links 1 = .ok (.istore_n 1, 1) := by decide +kernel
theorem dX8_links_2 : decode cX8_links 2 = .ok (.iconst 0, 1) := by decide +kernel
theorem dX8_links_3 : decode cX8_links 3 = .ok (.istore_n 2, 1) := by decide +kernel
theorem dX8_links_4 : decode cX8_links 4 = .ok (.iload_n 2, 1) := by decide +kernel
theorem dX8_links_5 : decode cX8_links 5 = .ok (.aload_n 0, 1) := by decide +kernel
theorem dX8_links_6 : decode cX8_links 6 = .ok (.getfield 9, 3) := by decide +kernel
theorem dX8_links_9 : decode cX8_links 9 = .ok (.iconst 0, 1) := by decide +kernel
theorem dX8_links_10 : decode cX8_links 10 = .ok (.iaload, 1) := by decide +kernel
theorem dX8_links_11 : decode cX8_links 11 = .ok (.if_icmp .ge 23, 3) := by decide +kernel
theorem dX8_links_14 : decode cX8_links 14 = .ok (.iload_n 1, 1) := by decide +kernel
theorem dX8_links_15 : decode cX8_links 15 = .ok (.aload_n 0, 1) := by decide +kernel
theorem dX8_links_16 : decode cX8_links 16 = .ok (.getfield 9, 3) := by decide +kernel
theorem dX8_links_19 : decode cX8_links 19 = .ok (.iconst 3, 1) := by decide +kernel
theorem dX8_links_20 : decode cX8_links 20 = .ok (.iload_n 2, 1) := by decide +kernel
theorem dX8_links_21 : decode cX8_links 21 = .ok (.iadd, 1) := by decide +kernel
theorem dX8_links_22 : decode cX8_links 22 = .ok (.iaload, 1) := by decide +kernel
theorem dX8_links_23 : decode cX8_links 23 = .ok (.invokestatic 140, 3) := by decide +kernel
theorem dX8_links_26 : decode cX8_links 26 = .ok (.iadd, 1) := by decide +kernel
theorem dX8_links_27 : decode cX8_links 27 = .ok (.istore_n 1, 1) := by decide +kernel
theorem dX8_links_28 : decode cX8_links 28 = .ok (.iinc 2 1, 3) := by decide +kernel
theorem dX8_links_31 : decode cX8_links 31 = .ok (.goto (-27), 3) := by decide +kernel
theorem dX8_links_34 : decode cX8_links 34 = .ok (.iload_n 1, 1) := by decide +kernel
theorem dX8_links_35 : decode cX8_links 35 = .ok (.iconst 2, 1) := by decide +kernel
theorem dX8_links_36 : decode cX8_links 36 = .ok (.idiv, 1) := by decide +kernel
theorem dX8_links_37 : decode cX8_links 37 = .ok (.ireturn, 1) := by decide +kernel
set_option maxRecDepth 20000 in
theorem ggX8_lostLinks_X8_ones : GoodIn wsX8_lostLinks wsX8_ones := goodIn_r _ [5, 6, 7, 4, 8] (by decide +kernel) (by decide +kernel)
set_option maxRecDepth 20000 in
theorem gX8_lostLinks_X8_ones : GoodIn wsX8_lostLinks (va_wsS RX8 140 yX8_ones wsX8_ones) := goodIn_app (goodIn_of _ (by decide +kernel)) ggX8_lostLinks_X8_ones
theorem dX8_lostLinks_0 : decode cX8_lostLinks 0 = .ok (.iconst 0, 1) := by decide +kernel
theorem dX8_lostLinks_1 : decode cX8_lostLinks 1 = .ok (.istore_n 1, 1) := by decide +kernel
theorem dX8_lostLinks_2 : decode cX8_lostLinks 2 = .ok (.iconst 0, 1) := by decide +kernel
theorem dX8_lostLinks_3 : decode cX8_lostLinks 3 = .ok (.istore_n 2, 1) := by decide +kernel
theorem dX8_lostLinks_4 : decode cX8_lostLinks 4 = .ok (.iload_n 2, 1) := by decide +kernel
theorem dX8_lostLinks_5 : decode cX8_lostLinks 5 = .ok (.aload_n 0, 1) := by decide +kernel
theorem dX8_lostLinks_6 : decode cX8_lostLinks 6 = .ok (.getfield 9, 3) := by decide +kernel
theorem dX8_lostLinks_9 : decode cX8_lostLinks 9 = .ok (.iconst 0, 1) := by decide +kernel
theorem dX8_lostLinks_10 : decode cX8_lostLinks 10 = .ok (.iaload, 1) := by decide +kernel
theorem dX8_lostLinks_11 : decode cX8_lostLinks 11 = .ok (.if_icmp .ge 24, 3) := by decide +kernel
theorem dX8_lostLinks_14 : decode cX8_lostLinks 14 = .ok (.iload_n 1, 1) := by decide +kernel
theorem dX8_lostLinks_15 : decode cX8_lostLinks 15 = .ok (.aload_n 0, 1) := by decide +kernel
theorem dX8_lostLinks_16 : decode cX8_lostLinks 16 = .ok (.getfield 9, 3) := by decide +kernel
theorem dX8_lostLinks_19 : decode cX8_lostLinks 19 = .ok (.bipush 12, 2) := by decide +kernel
theorem dX8_lostLinks_21 : decode cX8_lostLinks 21 = .ok (.iload_n 2, 1) := by decide +kernel
theorem dX8_lostLinks_22 : decode cX8_lostLinks 22 = .ok (.iadd, 1) := by decide +kernel
theorem dX8_lostLinks_23 : decode cX8_lostLinks 23 = .ok (.iaload, 1) := by decide +kernel
theorem dX8_lostLinks_24 : decode cX8_lostLinks 24 = .ok (.invokestatic 140, 3) := by decide +kernel
theorem dX8_lostLinks_27 : decode cX8_lostLinks 27 = .ok (.iadd, 1) := by decide +kernel
theorem dX8_lostLinks_28 : decode cX8_lostLinks 28 = .ok (.istore_n 1, 1) := by decide +kernel
theorem dX8_lostLinks_29 : decode cX8_lostLinks 29 = .ok (.iinc 2 1, 3) := by decide +kernel
theorem dX8_lostLinks_32 : decode cX8_lostLinks 32 = .ok (.goto (-28), 3) := by decide +kernel
theorem dX8_lostLinks_35 : decode cX8_lostLinks 35 = .ok (.iload_n 1, 1) := by decide +kernel
theorem dX8_lostLinks_36 : decode cX8_lostLinks 36 = .ok (.iconst 2, 1) := by decide +kernel
theorem dX8_lostLinks_37 : decode cX8_lostLinks 37 = .ok (.idiv, 1) := by decide +kernel
theorem dX8_lostLinks_38 : decode cX8_lostLinks 38 = .ok (.ireturn, 1) := by decide +kernel
set_option maxRecDepth 20000 in
theorem ggX8_wrongEntry_X8_layRings : GoodIn wsX8_wrongEntry wsX8_layRings := goodIn_r _ [9, 3, 10, 11, 12, 8, 13, 14, 15, 16, 17, 99, 100, 101, 102, 103, 104, 105, 106, 107, 108, 109, 110, 111, 112, 113, 114, 115] (by decide +kernel) (by decide +kernel)
set_option maxRecDepth 20000 in
theorem gX8_wrongEntry_X8_layRings : GoodIn wsX8_wrongEntry (wsV RX8 81 RX8 yX8_layRings wsX8_layRings) := goodIn_app (goodIn_of _ (by decide +kernel)) ggX8_wrongEntry_X8_layRings
set_option maxRecDepth 20000 in
theorem ggX8_wrongEntry_X8_isNode : GoodIn wsX8_wrongEntry wsX8_isNode := goodIn_r _ [21, 14, 22, 23, 8, 24, 99, 100, 101, 102, 103, 104, 105, 106, 107, 108, 109, 110, 111, 112, 113, 114, 115] (by decide +kernel) (by decide +kernel)
set_option maxRecDepth 20000 in
theorem gX8_wrongEntry_X8_isNode : GoodIn wsX8_wrongEntry (wsV RX8 51 RX8 yX8_isNode wsX8_isNode) := goodIn_app (goodIn_of _ (by decide +kernel)) ggX8_wrongEntry_X8_isNode
set_option maxRecDepth 20000 in
theorem ggX8_wrongEntry_X8_byBits : GoodIn wsX8_wrongEntry wsX8_byBits := goodIn_r _ [28, 29, 30, 31, 32, 8, 33, 14, 34, 35, 36, 37, 38, 39, 40, 3, 5, 6, 7, 9, 10, 11, 12, 13, 15, 16, 17, 41, 42, 43, 44, 45, 46, 47, 48, 49, 50, 51, 52, 53, 54, 55, 56, 57, 58, 59, 60, 61, 62, 63, 64, 65, 66, 67, 68, 69, 70, 71, 72, 73, 74, 75, 76, 77, 78, 79, 80, 81, 82, 83, 84, 85, 86, 87, 88, 89, 90, 91, 92, 93, 94, 95, 96, 97, 98, 99, 100, 101, 102, 103, 104, 105, 106, 107, 108, 109, 110, 111, 112, 113, 114, 115] (by decide +kernel) (by decide +kernel)
set_option maxRecDepth 20000 in
theorem gX8_wrongEntry_X8_byBits : GoodIn wsX8_wrongEntry (wsV RX8 146 RX8 yX8_byBits wsX8_byBits) := goodIn_app (goodIn_of _ (by decide +kernel)) ggX8_wrongEntry_X8_byBits
theorem dX8_wrongEntry_0 : decode cX8_wrongEntry 0 = .ok (.iconst 0, 1) := by decide +kernel
theorem dX8_wrongEntry_1 : decode cX8_wrongEntry 1 = .ok (.istore_n 1, 1) := by decide +kernel
theorem dX8_wrongEntry_2 : decode cX8_wrongEntry 2 = .ok (.iload_n 1, 1) := by decide +kernel
theorem dX8_wrongEntry_3 : decode cX8_wrongEntry 3 = .ok (.aload_n 0, 1) := by decide +kernel
theorem dX8_wrongEntry_4 : decode cX8_wrongEntry 4 = .ok (.getfield 143, 3) := by decide +kernel
theorem dX8_wrongEntry_7 : decode cX8_wrongEntry 7 = .ok (.if_icmp .ge 62, 3) := by decide +kernel
theorem dX8_wrongEntry_10 : decode cX8_wrongEntry 10 = .ok (.aload_n 0, 1) := by decide +kernel
theorem dX8_wrongEntry_11 : decode cX8_wrongEntry 11 = .ok (.invokevirtual 81, 3) := by decide +kernel
theorem dX8_wrongEntry_14 : decode cX8_wrongEntry 14 = .ok (.aload_n 0, 1) := by decide +kernel
theorem dX8_wrongEntry_15 : decode cX8_wrongEntry 15 = .ok (.aload_n 0, 1) := by decide +kernel
theorem dX8_wrongEntry_16 : decode cX8_wrongEntry 16 = .ok (.getfield 16, 3) := by decide +kernel
theorem dX8_wrongEntry_19 : decode cX8_wrongEntry 19 = .ok (.iload_n 1, 1) := by decide +kernel
theorem dX8_wrongEntry_20 : decode cX8_wrongEntry 20 = .ok (.iaload, 1) := by decide +kernel
theorem dX8_wrongEntry_21 : decode cX8_wrongEntry 21 = .ok (.invokevirtual 51, 3) := by decide +kernel
theorem dX8_wrongEntry_24 : decode cX8_wrongEntry 24 = .ok (.ifCond .eq 37, 3) := by decide +kernel
theorem dX8_wrongEntry_27 : decode cX8_wrongEntry 27 = .ok (.aload_n 0, 1) := by decide +kernel
theorem dX8_wrongEntry_28 : decode cX8_wrongEntry 28 = .ok (.getfield 22, 3) := by decide +kernel
theorem dX8_wrongEntry_31 : decode cX8_wrongEntry 31 = .ok (.aload_n 0, 1) := by decide +kernel
theorem dX8_wrongEntry_32 : decode cX8_wrongEntry 32 = .ok (.getfield 16, 3) := by decide +kernel
theorem dX8_wrongEntry_35 : decode cX8_wrongEntry 35 = .ok (.iload_n 1, 1) := by decide +kernel
theorem dX8_wrongEntry_36 : decode cX8_wrongEntry 36 = .ok (.iaload, 1) := by decide +kernel
theorem dX8_wrongEntry_37 : decode cX8_wrongEntry 37 = .ok (.iaload, 1) := by decide +kernel
theorem dX8_wrongEntry_38 : decode cX8_wrongEntry 38 = .ok (.iconst (-1), 1) := by decide +kernel
theorem dX8_wrongEntry_39 : decode cX8_wrongEntry 39 = .ok (.if_icmp .eq 22, 3) := by decide +kernel
theorem dX8_wrongEntry_42 : decode cX8_wrongEntry 42 = .ok (.aload_n 0, 1) := by decide +kernel
theorem dX8_wrongEntry_43 : decode cX8_wrongEntry 43 = .ok (.aload_n 0, 1) := by decide +kernel
theorem dX8_wrongEntry_44 : decode cX8_wrongEntry 44 = .ok (.getfield 16, 3) := by decide +kernel
theorem dX8_wrongEntry_47 : decode cX8_wrongEntry 47 = .ok (.iload_n 1, 1) := by decide +kernel
theorem dX8_wrongEntry_48 : decode cX8_wrongEntry 48 = .ok (.iaload, 1) := by decide +kernel
theorem dX8_wrongEntry_49 : decode cX8_wrongEntry 49 = .ok (.invokevirtual 146, 3) := by decide +kernel
theorem dX8_wrongEntry_52 : decode cX8_wrongEntry 52 = .ok (.aload_n 0, 1) := by decide +kernel
theorem dX8_wrongEntry_53 : decode cX8_wrongEntry 53 = .ok (.getfield 19, 3) := by decide +kernel
theorem dX8_wrongEntry_56 : decode cX8_wrongEntry 56 = .ok (.iload_n 1, 1) := by decide +kernel
theorem dX8_wrongEntry_57 : decode cX8_wrongEntry 57 = .ok (.iaload, 1) := by decide +kernel
theorem dX8_wrongEntry_58 : decode cX8_wrongEntry 58 = .ok (.if_icmp .eq 5, 3) := by decide +kernel
theorem dX8_wrongEntry_61 : decode cX8_wrongEntry 61 = .ok (.iload_n 1, 1) := by decide +kernel
theorem dX8_wrongEntry_62 : decode cX8_wrongEntry 62 = .ok (.ireturn, 1) := by decide +kernel
theorem dX8_wrongEntry_63 : decode cX8_wrongEntry 63 = .ok (.iinc 1 1, 3) := by decide +kernel
theorem dX8_wrongEntry_66 : decode cX8_wrongEntry 66 = .ok (.goto (-64), 3) := by decide +kernel
theorem dX8_wrongEntry_69 : decode cX8_wrongEntry 69 = .ok (.iconst (-1), 1) := by decide +kernel
theorem dX8_wrongEntry_70 : decode cX8_wrongEntry 70 = .ok (.ireturn, 1) := by decide +kernel
set_option maxRecDepth 20000 in
theorem ggX8_outermost_X8_layRings : GoodIn wsX8_outermost wsX8_layRings := goodIn_r _ [5, 6, 7, 8, 9, 4, 10, 11, 12, 13, 14, 19, 20, 21, 22, 23, 24, 25, 26, 27, 28, 29, 30, 31, 32, 33, 34, 35] (by decide +kernel) (by decide +kernel)
set_option maxRecDepth 20000 in
theorem gX8_outermost_X8_layRings : GoodIn wsX8_outermost (wsV RX8 81 RX8 yX8_layRings wsX8_layRings) := goodIn_app (goodIn_of _ (by decide +kernel)) ggX8_outermost_X8_layRings
set_option maxRecDepth 20000 in
theorem ggX8_outermost_X8_greatestRing : GoodIn wsX8_outermost wsX8_greatestRing := goodIn_r _ [18, 11, 6, 19, 20, 21, 22, 23, 24, 25, 26, 27, 28, 29, 30, 31, 32, 33, 34, 35] (by decide +kernel) (by decide +kernel)
set_option maxRecDepth 20000 in
theorem gX8_outermost_X8_greatestRing : GoodIn wsX8_outermost (wsV RX8 84 RX8 yX8_greatestRing wsX8_greatestRing) := goodIn_app (goodIn_of _ (by decide +kernel)) ggX8_outermost_X8_greatestRing
theorem dX8_outermost_0 : decode cX8_outermost 0 = .ok (.aload_n 0, 1) := by decide +kernel
theorem dX8_outermost_1 : decode cX8_outermost 1 = .ok (.invokevirtual 81, 3) := by decide +kernel
theorem dX8_outermost_4 : decode cX8_outermost 4 = .ok (.aload_n 0, 1) := by decide +kernel
theorem dX8_outermost_5 : decode cX8_outermost 5 = .ok (.invokevirtual 84, 3) := by decide +kernel
theorem dX8_outermost_8 : decode cX8_outermost 8 = .ok (.ireturn, 1) := by decide +kernel
set_option maxRecDepth 20000 in
theorem ggX8_letterMany_X8_layLetters : GoodIn wsX8_letterMany wsX8_layLetters := goodIn_r _ [6, 1, 7, 8, 9, 10, 11, 5, 12, 13, 14, 15, 16, 17, 18, 19, 20, 21, 22, 23, 24, 25, 26, 27, 28, 29, 30, 31, 32, 33, 34, 35, 36, 37, 38, 39, 40, 41, 42, 43, 44, 45, 46, 47, 48, 49, 50] (by decide +kernel) (by decide +kernel)
set_option maxRecDepth 20000 in
theorem gX8_letterMany_X8_layLetters : GoodIn wsX8_letterMany (wsV RX8 92 RX8 yX8_layLetters wsX8_layLetters) := goodIn_app (goodIn_of _ (by decide +kernel)) ggX8_letterMany_X8_layLetters
theorem dX8_letterMany_0 : decode cX8_letterMany 0 = .ok (.aload_n 0, 1) := by decide +kernel
theorem dX8_letterMany_1 : decode cX8_letterMany 1 = .ok (.invokevirtual 92, 3) := by decide +kernel
theorem dX8_letterMany_4 : decode cX8_letterMany 4 = .ok (.aload_n 0, 1) := by decide +kernel
theorem dX8_letterMany_5 : decode cX8_letterMany 5 = .ok (.getfield 77, 3) := by decide +kernel
theorem dX8_letterMany_8 : decode cX8_letterMany 8 = .ok (.ireturn, 1) := by decide +kernel
set_option maxRecDepth 20000 in
theorem ggX8_told_X8_links : GoodIn wsX8_told wsX8_links := goodIn_r _ [10, 1, 11, 12, 9, 13, 14, 15, 16, 142, 143, 144, 145, 146, 147, 148, 149, 150, 151, 152, 153, 154, 155, 156, 157, 158] (by decide +kernel) (by decide +kernel)
set_option maxRecDepth 20000 in
theorem gX8_told_X8_links : GoodIn wsX8_told (wsV RX8 149 RX8 yX8_links wsX8_links) := goodIn_app (goodIn_of _ (by decide +kernel)) ggX8_told_X8_links
set_option maxRecDepth 20000 in
theorem ggX8_told_X8_lostLinks : GoodIn wsX8_told wsX8_lostLinks := goodIn_r _ [20, 1, 11, 12, 9, 13, 14, 15, 16, 142, 143, 144, 145, 146, 147, 148, 149, 150, 151, 152, 153, 154, 155, 156, 157, 158] (by decide +kernel) (by decide +kernel)
set_option maxRecDepth 20000 in
theorem gX8_told_X8_lostLinks : GoodIn wsX8_told (wsV RX8 152 RX8 yX8_lostLinks wsX8_lostLinks) := goodIn_app (goodIn_of _ (by decide +kernel)) ggX8_told_X8_lostLinks
set_option maxRecDepth 20000 in
theorem ggX8_told_X8_outermost : GoodIn wsX8_told wsX8_outermost := goodIn_r _ [24, 25, 26, 27, 9, 28, 29, 30, 31, 32, 33, 1, 14, 15, 16, 34, 35, 36, 37, 142, 143, 144, 145, 146, 147, 148, 149, 150, 151, 152, 153, 154, 155, 156, 157, 158] (by decide +kernel) (by decide +kernel)
set_option maxRecDepth 20000 in
theorem gX8_told_X8_outermost : GoodIn wsX8_told (wsV RX8 155 RX8 yX8_outermost wsX8_outermost) := goodIn_app (goodIn_of _ (by decide +kernel)) ggX8_told_X8_outermost
set_option maxRecDepth 20000 in
theorem ggX8_told_X8_comesSet : GoodIn wsX8_told wsX8_comesSet := goodIn_r _ [41, 1, 42, 43, 44, 45, 9, 46, 47, 48, 49, 50, 51, 52, 53, 29, 25, 26, 27, 28, 30, 31, 32, 33, 14, 15, 16, 34, 35, 36, 37, 54, 55, 56, 57, 58, 59, 60, 61, 62, 63, 64, 65, 142, 143, 144, 145, 146, 147, 148, 149, 150, 151, 152, 153, 154, 155, 156, 157, 158] (by decide +kernel) (by decide +kernel)
set_option maxRecDepth 20000 in
theorem gX8_told_X8_comesSet : GoodIn wsX8_told (wsV RX8 158 RX8 yX8_comesSet wsX8_comesSet) := goodIn_app (goodIn_of _ (by decide +kernel)) ggX8_told_X8_comesSet
set_option maxRecDepth 20000 in
theorem ggX8_told_X8_truth : GoodIn wsX8_told wsX8_truth := goodIn_r _ [69, 1, 29, 25, 26, 27, 9, 28, 30, 31, 32, 33, 14, 15, 16, 11, 12, 13, 142, 143, 144, 145, 146, 147, 148, 149, 150, 151, 152, 153, 154, 155, 156, 157, 158] (by decide +kernel) (by decide +kernel)
set_option maxRecDepth 20000 in
theorem gX8_told_X8_truth : GoodIn wsX8_told (wsV RX8 161 RX8 yX8_truth wsX8_truth) := goodIn_app (goodIn_of _ (by decide +kernel)) ggX8_told_X8_truth
set_option maxRecDepth 20000 in
theorem ggX8_told_X8_letterMany : GoodIn wsX8_told wsX8_letterMany := goodIn_r _ [73, 47, 50, 51, 52, 9, 53, 1, 29, 25, 26, 27, 28, 30, 31, 32, 33, 14, 15, 16, 34, 35, 36, 37, 54, 55, 56, 57, 48, 49, 58, 59, 60, 61, 142, 143, 144, 145, 146, 147, 148, 149, 150, 151, 152, 153, 154, 155, 156, 157, 158] (by decide +kernel) (by decide +kernel)
set_option maxRecDepth 20000 in
theorem gX8_told_X8_letterMany : GoodIn wsX8_told (wsV RX8 164 RX8 yX8_letterMany wsX8_letterMany) := goodIn_app (goodIn_of _ (by decide +kernel)) ggX8_told_X8_letterMany
set_option maxRecDepth 20000 in
theorem ggX8_told_X8_lostLetters : GoodIn wsX8_told wsX8_lostLetters := goodIn_r _ [77, 47, 50, 51, 52, 9, 53, 1, 29, 25, 26, 27, 28, 30, 31, 32, 33, 14, 15, 16, 34, 35, 36, 37, 54, 55, 56, 57, 48, 49, 58, 59, 60, 61, 62, 63, 64, 65, 142, 143, 144, 145, 146, 147, 148, 149, 150, 151, 152, 153, 154, 155, 156, 157, 158] (by decide +kernel) (by decide +kernel)
set_option maxRecDepth 20000 in
theorem gX8_told_X8_lostLetters : GoodIn wsX8_told (wsV RX8 167 RX8 yX8_lostLetters wsX8_lostLetters) := goodIn_app (goodIn_of _ (by decide +kernel)) ggX8_told_X8_lostLetters
set_option maxRecDepth 20000 in
theorem ggX8_told_X8_wrongEntry : GoodIn wsX8_told wsX8_wrongEntry := goodIn_r _ [81, 2, 82, 29, 83, 25, 26, 27, 9, 28, 30, 31, 32, 33, 1, 14, 15, 16, 84, 85, 86, 87, 88, 89, 90, 91, 92, 93, 94, 95, 96, 97, 98, 99, 47, 49, 48, 50, 51, 52, 53, 34, 35, 36, 37, 54, 55, 56, 57, 58, 59, 60, 61, 100, 101, 102, 103, 104, 105, 106, 107, 108, 109, 110, 111, 112, 113, 114, 115, 116, 117, 118, 119, 120, 121, 122, 123, 124, 125, 126, 127, 128, 129, 130, 131, 132, 133, 134, 135, 136, 137, 138, 139, 140, 141, 62, 63, 64, 65, 142, 143, 144, 145, 146, 147, 148, 149, 150, 151, 152, 153, 154, 155, 156, 157, 158] (by decide +kernel) (by decide +kernel)
