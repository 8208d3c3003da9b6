theorem dX7_lose_15 : decode cX7_lose 15 = .ok (.aload_n 0, 1) := by decide +kernel
theorem dX7_lose_16 : decode cX7_lose 16 = .ok (.getfield 19, 3) := by decide +kernel
theorem dX7_lose_19 : decode cX7_lose 19 = .ok (.aload_n 0, 1) := by decide +kernel
theorem dX7_lose_20 : decode cX7_lose 20 = .ok (.getfield 10, 3) := by decide +kernel
theorem dX7_lose_23 : decode cX7_lose 23 = .ok (.invokevirtual 193, 3) := by decide +kernel
theorem dX7_lose_26 : decode cX7_lose 26 = .ok (.aload_n 0, 1) := by decide +kernel
theorem dX7_lose_27 : decode cX7_lose 27 = .ok (.getfield 10, 3) := by decide +kernel
theorem dX7_lose_30 : decode cX7_lose 30 = .ok (.iload_n 1, 1) := by decide +kernel
theorem dX7_lose_31 : decode cX7_lose 31 = .ok (.iload_n 2, 1) := by decide +kernel
theorem dX7_lose_32 : decode cX7_lose 32 = .ok (.invokevirtual 207, 3) := by decide +kernel
theorem dX7_lose_35 : decode cX7_lose 35 = .ok (.aload_n 0, 1) := by decide +kernel
theorem dX7_lose_36 : decode cX7_lose 36 = .ok (.getfield 10, 3) := by decide +kernel
theorem dX7_lose_39 : decode cX7_lose 39 = .ok (.iload_n 1, 1) := by decide +kernel
theorem dX7_lose_40 : decode cX7_lose 40 = .ok (.iload_n 2, 1) := by decide +kernel
theorem dX7_lose_41 : decode cX7_lose 41 = .ok (.invokevirtual 131, 3) := by decide +kernel
theorem dX7_lose_44 : decode cX7_lose 44 = .ok (.ifCond .eq 7, 3) := by decide +kernel
theorem dX7_lose_47 : decode cX7_lose 47 = .ok (.iconst 1, 1) := by decide +kernel
theorem dX7_lose_48 : decode cX7_lose 48 = .ok (.goto 4, 3) := by decide +kernel
theorem dX7_lose_51 : decode cX7_lose 51 = .ok (.iconst 0, 1) := by decide +kernel
theorem dX7_lose_52 : decode cX7_lose 52 = .ok (.ireturn, 1) := by decide +kernel
set_option maxRecDepth 20000 in
theorem ggX7_hear_X3_has : GoodIn wsX7_hear wsX3_has := goodIn_r _ [11, 12, 49, 50, 51, 52, 53, 54] (by decide +kernel) (by decide +kernel)
set_option maxRecDepth 20000 in
theorem gX7_hear_X3_has : GoodIn wsX7_hear (wsV RX7 106 RX3 yX3_has wsX3_has) := goodIn_app (goodIn_of _ (by decide +kernel)) ggX7_hear_X3_has
set_option maxRecDepth 20000 in
theorem ggX7_hear_X7_within : GoodIn wsX7_hear wsX7_within := goodIn_r _ [16] (by decide +kernel) (by decide +kernel)
set_option maxRecDepth 20000 in
theorem gX7_hear_X7_within : GoodIn wsX7_hear (va_wsS RX7 134 yX7_within wsX7_within) := goodIn_app (goodIn_of _ (by decide +kernel)) ggX7_hear_X7_within
set_option maxRecDepth 20000 in
theorem ggX7_hear_X4_remember : GoodIn wsX7_hear wsX4_remember := goodIn_r _ [21, 22, 23, 24, 25, 26, 27, 28, 29, 30, 31, 10, 32, 12, 33, 34, 35, 36, 37, 38, 39, 40, 41, 55, 56, 57, 49, 50, 51, 52, 53, 54] (by decide +kernel) (by decide +kernel)
set_option maxRecDepth 20000 in
theorem gX7_hear_X4_remember : GoodIn wsX7_hear (wsV RX7 193 RX4 yX4_remember wsX4_remember) := goodIn_app (goodIn_of _ (by decide +kernel)) ggX7_hear_X4_remember
theorem dX7_hear_0 : decode cX7_hear 0 = .ok (.aload_n 0, 1) := by decide +kernel
theorem dX7_hear_1 : decode cX7_hear 1 = .ok (.getfield 10, 3) := by decide +kernel
theorem dX7_hear_4 : decode cX7_hear 4 = .ok (.iload_n 1, 1) := by decide +kernel
theorem dX7_hear_5 : decode cX7_hear 5 = .ok (.invokevirtual 106, 3) := by decide +kernel
theorem dX7_hear_8 : decode cX7_hear 8 = .ok (.ifCond .ne 6, 3) := by decide +kernel
theorem dX7_hear_11 : decode cX7_hear 11 = .ok (.ldc 110, 2) := by decide +kernel
theorem dX7_hear_13 : decode cX7_hear 13 = .ok (.ireturn, 1) := by decide +kernel
theorem dX7_hear_14 : decode cX7_hear 14 = .ok (.iload_n 2, 1) := by decide +kernel
theorem dX7_hear_15 : decode cX7_hear 15 = .ok (.iconst 0, 1) := by decide +kernel
theorem dX7_hear_16 : decode cX7_hear 16 = .ok (.ldc 191, 2) := by decide +kernel
theorem dX7_hear_18 : decode cX7_hear 18 = .ok (.invokestatic 134, 3) := by decide +kernel
theorem dX7_hear_21 : decode cX7_hear 21 = .ok (.ifCond .ne 6, 3) := by decide +kernel
theorem dX7_hear_24 : decode cX7_hear 24 = .ok (.ldc 105, 2) := by decide +kernel
theorem dX7_hear_26 : decode cX7_hear 26 = .ok (.ireturn, 1) := by decide +kernel
theorem dX7_hear_27 : decode cX7_hear 27 = .ok (.aload_n 0, 1) := by decide +kernel
theorem dX7_hear_28 : decode cX7_hear 28 = .ok (.getfield 19, 3) := by decide +kernel
theorem dX7_hear_31 : decode cX7_hear 31 = .ok (.aload_n 0, 1) := by decide +kernel
theorem dX7_hear_32 : decode cX7_hear 32 = .ok (.getfield 10, 3) := by decide +kernel
theorem dX7_hear_35 : decode cX7_hear 35 = .ok (.invokevirtual 193, 3) := by decide +kernel
theorem dX7_hear_38 : decode cX7_hear 38 = .ok (.aload_n 0, 1) := by decide +kernel
theorem dX7_hear_39 : decode cX7_hear 39 = .ok (.getfield 10, 3) := by decide +kernel
theorem dX7_hear_42 : decode cX7_hear 42 = .ok (.getfield 118, 3) := by decide +kernel
theorem dX7_hear_45 : decode cX7_hear 45 = .ok (.iload_n 1, 1) := by decide +kernel
theorem dX7_hear_46 : decode cX7_hear 46 = .ok (.iaload, 1) := by decide +kernel
theorem dX7_hear_47 : decode cX7_hear 47 = .ok (.istore_n 3, 1) := by decide +kernel
theorem dX7_hear_48 : decode cX7_hear 48 = .ok (.aload_n 0, 1) := by decide +kernel
theorem dX7_hear_49 : decode cX7_hear 49 = .ok (.getfield 10, 3) := by decide +kernel
theorem dX7_hear_52 : decode cX7_hear 52 = .ok (.getfield 118, 3) := by decide +kernel
theorem dX7_hear_55 : decode cX7_hear 55 = .ok (.iload_n 1, 1) := by decide +kernel
theorem dX7_hear_56 : decode cX7_hear 56 = .ok (.iload_n 2, 1) := by decide +kernel
theorem dX7_hear_57 : decode cX7_hear 57 = .ok (.iastore, 1) := by decide +kernel
theorem dX7_hear_58 : decode cX7_hear 58 = .ok (.iload_n 3, 1) := by decide +kernel
theorem dX7_hear_59 : decode cX7_hear 59 = .ok (.ireturn, 1) := by decide +kernel
set_option maxRecDepth 20000 in
theorem ggX7_salt_X7_within : GoodIn wsX7_salt wsX7_within := goodIn_r _ [9] (by decide +kernel) (by decide +kernel)
set_option maxRecDepth 20000 in
theorem gX7_salt_X7_within : GoodIn wsX7_salt (va_wsS RX7 134 yX7_within wsX7_within) := goodIn_app (goodIn_of _ (by decide +kernel)) ggX7_salt_X7_within
set_option maxRecDepth 20000 in
theorem ggX7_salt_X4_remember : GoodIn wsX7_salt wsX4_remember := goodIn_r _ [14, 15, 16, 17, 18, 19, 20, 21, 22, 23, 24, 25, 26, 27, 28, 29, 30, 31, 32, 33, 34, 35, 36, 50, 51, 52, 44, 45, 46, 47, 48, 49] (by decide +kernel) (by decide +kernel)
set_option maxRecDepth 20000 in
theorem gX7_salt_X4_remember : GoodIn wsX7_salt (wsV RX7 193 RX4 yX4_remember wsX4_remember) := goodIn_app (goodIn_of _ (by decide +kernel)) ggX7_salt_X4_remember
theorem dX7_salt_0 : decode cX7_salt 0 = .ok (.iload_n 1, 1) := by decide +kernel
theorem dX7_salt_1 : decode cX7_salt 1 = .ok (.iconst 0, 1) := by decide +kernel
theorem dX7_salt_2 : decode cX7_salt 2 = .ok (.ldc 191, 2) := by decide +kernel
theorem dX7_salt_4 : decode cX7_salt 4 = .ok (.invokestatic 134, 3) := by decide +kernel
theorem dX7_salt_7 : decode cX7_salt 7 = .ok (.ifCond .ne 6, 3) := by decide +kernel
theorem dX7_salt_10 : decode cX7_salt 10 = .ok (.ldc 105, 2) := by decide +kernel
theorem dX7_salt_12 : decode cX7_salt 12 = .ok (.ireturn, 1) := by decide +kernel
theorem dX7_salt_13 : decode cX7_salt 13 = .ok (.aload_n 0, 1) := by decide +kernel
theorem dX7_salt_14 : decode cX7_salt 14 = .ok (.getfield 19, 3) := by decide +kernel
theorem dX7_salt_17 : decode cX7_salt 17 = .ok (.aload_n 0, 1) := by decide +kernel
theorem dX7_salt_18 : decode cX7_salt 18 = .ok (.getfield 10, 3) := by decide +kernel
theorem dX7_salt_21 : decode cX7_salt 21 = .ok (.invokevirtual 193, 3) := by decide +kernel
theorem dX7_salt_24 : decode cX7_salt 24 = .ok (.aload_n 0, 1) := by decide +kernel
theorem dX7_salt_25 : decode cX7_salt 25 = .ok (.getfield 10, 3) := by decide +kernel
theorem dX7_salt_28 : decode cX7_salt 28 = .ok (.getfield 74, 3) := by decide +kernel
theorem dX7_salt_31 : decode cX7_salt 31 = .ok (.istore_n 2, 1) := by decide +kernel
theorem dX7_salt_32 : decode cX7_salt 32 = .ok (.aload_n 0, 1) := by decide +kernel
theorem dX7_salt_33 : decode cX7_salt 33 = .ok (.getfield 10, 3) := by decide +kernel
theorem dX7_salt_36 : decode cX7_salt 36 = .ok (.iload_n 1, 1) := by decide +kernel
theorem dX7_salt_37 : decode cX7_salt 37 = .ok (.putfield 74, 3) := by decide +kernel
theorem dX7_salt_40 : decode cX7_salt 40 = .ok (.iload_n 2, 1) := by decide +kernel
theorem dX7_salt_41 : decode cX7_salt 41 = .ok (.ireturn, 1) := by decide +kernel
set_option maxRecDepth 20000 in
theorem ggX7_mode_X7_within : GoodIn wsX7_mode wsX7_within := goodIn_r _ [8] (by decide +kernel) (by decide +kernel)
set_option maxRecDepth 20000 in
theorem gX7_mode_X7_within : GoodIn wsX7_mode (va_wsS RX7 134 yX7_within wsX7_within) := goodIn_app (goodIn_of _ (by decide +kernel)) ggX7_mode_X7_within
set_option maxRecDepth 20000 in
theorem ggX7_mode_X4_remember : GoodIn wsX7_mode wsX4_remember := goodIn_r _ [13, 14, 15, 16, 17, 18, 19, 20, 21, 22, 23, 24, 25, 26, 27, 28, 29, 30, 31, 32, 33, 34, 35, 49, 50, 51, 43, 44, 45, 46, 47, 48] (by decide +kernel) (by decide +kernel)
set_option maxRecDepth 20000 in
theorem gX7_mode_X4_remember : GoodIn wsX7_mode (wsV RX7 193 RX4 yX4_remember wsX4_remember) := goodIn_app (goodIn_of _ (by decide +kernel)) ggX7_mode_X4_remember
theorem dX7_mode_0 : decode cX7_mode 0 = .ok (.iload_n 1, 1) := by decide +kernel
theorem dX7_mode_1 : decode cX7_mode 1 = .ok (.iconst 0, 1) := by decide +kernel
theorem dX7_mode_2 : decode cX7_mode 2 = .ok (.iconst 1, 1) := by decide +kernel
theorem dX7_mode_3 : decode cX7_mode 3 = .ok (.invokestatic 134, 3) := by decide +kernel
theorem dX7_mode_6 : decode cX7_mode 6 = .ok (.ifCond .ne 6, 3) := by decide +kernel
theorem dX7_mode_9 : decode cX7_mode 9 = .ok (.ldc 105, 2) := by decide +kernel
theorem dX7_mode_11 : decode cX7_mode 11 = .ok (.ireturn, 1) := by decide +kernel
theorem dX7_mode_12 : decode cX7_mode 12 = .ok (.aload_n 0, 1) := by decide +kernel
theorem dX7_mode_13 : decode cX7_mode 13 = .ok (.getfield 19, 3) := by decide +kernel
theorem dX7_mode_16 : decode cX7_mode 16 = .ok (.aload_n 0, 1) := by decide +kernel
theorem dX7_mode_17 : decode cX7_mode 17 = .ok (.getfield 10, 3) := by decide +kernel
theorem dX7_mode_20 : decode cX7_mode 20 = .ok (.invokevirtual 193, 3) := by decide +kernel
theorem dX7_mode_23 : decode cX7_mode 23 = .ok (.aload_n 0, 1) := by decide +kernel
theorem dX7_mode_24 : decode cX7_mode 24 = .ok (.getfield 10, 3) := by decide +kernel
theorem dX7_mode_27 : decode cX7_mode 27 = .ok (.getfield 77, 3) := by decide +kernel
theorem dX7_mode_30 : decode cX7_mode 30 = .ok (.istore_n 2, 1) := by decide +kernel
theorem dX7_mode_31 : decode cX7_mode 31 = .ok (.aload_n 0, 1) := by decide +kernel
theorem dX7_mode_32 : decode cX7_mode 32 = .ok (.getfield 10, 3) := by decide +kernel
theorem dX7_mode_35 : decode cX7_mode 35 = .ok (.iload_n 1, 1) := by decide +kernel
theorem dX7_mode_36 : decode cX7_mode 36 = .ok (.putfield 77, 3) := by decide +kernel
theorem dX7_mode_39 : decode cX7_mode 39 = .ok (.iload_n 2, 1) := by decide +kernel
theorem dX7_mode_40 : decode cX7_mode 40 = .ok (.ireturn, 1) := by decide +kernel
set_option maxRecDepth 20000 in
theorem ggX7_drift_X7_within : GoodIn wsX7_drift wsX7_within := goodIn_r _ [10] (by decide +kernel) (by decide +kernel)
set_option maxRecDepth 20000 in
theorem gX7_drift_X7_within : GoodIn wsX7_drift (va_wsS RX7 134 yX7_within wsX7_within) := goodIn_app (goodIn_of _ (by decide +kernel)) ggX7_drift_X7_within
set_option maxRecDepth 20000 in
theorem ggX7_drift_X4_remember : GoodIn wsX7_drift wsX4_remember := goodIn_r _ [15, 16, 17, 18, 19, 20, 21, 22, 23, 24, 25, 26, 27, 28, 29, 30, 31, 32, 33, 34, 35, 36, 37, 125, 126, 127, 119, 120, 121, 122, 123, 124] (by decide +kernel) (by decide +kernel)
set_option maxRecDepth 20000 in
theorem gX7_drift_X4_remember : GoodIn wsX7_drift (wsV RX7 193 RX4 yX4_remember wsX4_remember) := goodIn_app (goodIn_of _ (by decide +kernel)) ggX7_drift_X4_remember
set_option maxRecDepth 20000 in
theorem ggX7_drift_X1_next : GoodIn wsX7_drift wsX1_next := goodIn_r _ [42, 43, 44, 45, 46, 47, 128] (by decide +kernel) (by decide +kernel)
set_option maxRecDepth 20000 in
theorem gX7_drift_X1_next : GoodIn wsX7_drift (wsV RX7 210 RX1 yX1_next wsX1_next) := goodIn_app (goodIn_of _ (by decide +kernel)) ggX7_drift_X1_next
set_option maxRecDepth 20000 in
theorem ggX7_drift_X3_turnItem : GoodIn wsX7_drift wsX3_turnItem := goodIn_r _ [51, 37, 119, 120, 121, 122, 123, 124] (by decide +kernel) (by decide +kernel)
set_option maxRecDepth 20000 in
theorem gX7_drift_X3_turnItem : GoodIn wsX7_drift (wsV RX7 213 RX3 yX3_turnItem wsX3_turnItem) := goodIn_app (goodIn_of _ (by decide +kernel)) ggX7_drift_X3_turnItem
set_option maxRecDepth 20000 in
theorem ggX7_drift_X6_trace : GoodIn wsX7_drift wsX6_trace := goodIn_r _ [56, 57, 58, 59, 55, 60, 61, 62, 63, 64, 65, 66, 67, 68, 69, 70, 71, 72, 73, 74, 9, 75, 76, 77, 78, 79, 80, 81, 82, 83, 84, 85, 86, 87, 88, 89, 90, 91, 92, 93, 94, 95, 96, 97, 98, 99, 129, 130, 131, 132, 133, 134, 135, 136, 137, 138, 119, 120, 121, 122, 123, 124] (by decide +kernel) (by decide +kernel)
set_option maxRecDepth 20000 in
theorem gX7_drift_X6_trace : GoodIn wsX7_drift (wsV RX7 55 RX6 yX6_trace wsX6_trace) := goodIn_app (goodIn_of _ (by decide +kernel)) ggX7_drift_X6_trace
set_option maxRecDepth 20000 in
theorem ggX7_drift_X6_trueCount : GoodIn wsX7_drift wsX6_trueCount := goodIn_r _ [103, 72, 61, 104, 105, 106, 107, 108, 109, 110, 111, 119, 120, 121, 122, 123, 124, 129, 130, 131, 132, 133, 134, 135, 136, 137, 138] (by decide +kernel) (by decide +kernel)
set_option maxRecDepth 20000 in
theorem gX7_drift_X6_trueCount : GoodIn wsX7_drift (wsV RX7 87 RX6 yX6_trueCount wsX6_trueCount) := goodIn_app (goodIn_of _ (by decide +kernel)) ggX7_drift_X6_trueCount
theorem dX7_drift_0 : decode cX7_drift 0 = .ok (.iload_n 1, 1) := by decide +kernel
theorem dX7_drift_1 : decode cX7_drift 1 = .ok (.iconst 1, 1) := by decide +kernel
theorem dX7_drift_2 : decode cX7_drift 2 = .ok (.bipush 12, 2) := by decide +kernel
theorem dX7_drift_4 : decode cX7_drift 4 = .ok (.invokestatic 134, 3) := by decide +kernel
theorem dX7_drift_7 : decode cX7_drift 7 = .ok (.ifCond .ne 6, 3) := by decide +kernel
theorem dX7_drift_10 : decode cX7_drift 10 = .ok (.ldc 105, 2) := by decide +kernel
theorem dX7_drift_12 : decode cX7_drift 12 = .ok (.ireturn, 1) := by decide +kernel
theorem dX7_drift_13 : decode cX7_drift 13 = .ok (.iconst 0, 1) := by decide +kernel
theorem dX7_drift_14 : decode cX7_drift 14 = .ok (.istore_n 2, 1) := by decide +kernel
theorem dX7_drift_15 : decode cX7_drift 15 = .ok (.iload_n 2, 1) := by decide +kernel
theorem dX7_drift_16 : decode cX7_drift 16 = .ok (.iload_n 1, 1) := by decide +kernel
theorem dX7_drift_17 : decode cX7_drift 17 = .ok (.if_icmp .ge 56, 3) := by decide +kernel
theorem dX7_drift_20 : decode cX7_drift 20 = .ok (.aload_n 0, 1) := by decide +kernel
theorem dX7_drift_21 : decode cX7_drift 21 = .ok (.getfield 19, 3) := by decide +kernel
theorem dX7_drift_24 : decode cX7_drift 24 = .ok (.aload_n 0, 1) := by decide +kernel
theorem dX7_drift_25 : decode cX7_drift 25 = .ok (.getfield 10, 3) := by decide +kernel
theorem dX7_drift_28 : decode cX7_drift 28 = .ok (.invokevirtual 193, 3) := by decide +kernel
theorem dX7_drift_31 : decode cX7_drift 31 = .ok (.aload_n 0, 1) := by decide +kernel
theorem dX7_drift_32 : decode cX7_drift 32 = .ok (.getfield 40, 3) := by decide +kernel
theorem dX7_drift_35 : decode cX7_drift 35 = .ok (.aload_n 0, 1) := by decide +kernel
theorem dX7_drift_36 : decode cX7_drift 36 = .ok (.getfield 10, 3) := by decide +kernel
theorem dX7_drift_39 : decode cX7_drift 39 = .ok (.getfield 59, 3) := by decide +kernel
theorem dX7_drift_42 : decode cX7_drift 42 = .ok (.invokevirtual 210, 3) := by decide +kernel
theorem dX7_drift_45 : decode cX7_drift 45 = .ok (.istore_n 3, 1) := by decide +kernel
theorem dX7_drift_46 : decode cX7_drift 46 = .ok (.aload_n 0, 1) := by decide +kernel
theorem dX7_drift_47 : decode cX7_drift 47 = .ok (.getfield 40, 3) := by decide +kernel
theorem dX7_drift_50 : decode cX7_drift 50 = .ok (.bipush 16, 2) := by decide +kernel
theorem dX7_drift_52 : decode cX7_drift 52 = .ok (.invokevirtual 210, 3) := by decide +kernel
theorem dX7_drift_55 : decode cX7_drift 55 = .ok (.istore 4, 2) := by decide +kernel
theorem dX7_drift_57 : decode cX7_drift 57 = .ok (.aload_n 0, 1) := by decide +kernel
theorem dX7_drift_58 : decode cX7_drift 58 = .ok (.getfield 10, 3) := by decide +kernel
theorem dX7_drift_61 : decode cX7_drift 61 = .ok (.iload_n 3, 1) := by decide +kernel
theorem dX7_drift_62 : decode cX7_drift 62 = .ok (.iload 4, 2) := by decide +kernel
theorem dX7_drift_64 : decode cX7_drift 64 = .ok (.invokevirtual 213, 3) := by decide +kernel
theorem dX7_drift_67 : decode cX7_drift 67 = .ok (.iinc 2 1, 3) := by decide +kernel
theorem dX7_drift_70 : decode cX7_drift 70 = .ok (.goto (-55), 3) := by decide +kernel
theorem dX7_drift_73 : decode cX7_drift 73 = .ok (.aload_n 0, 1) := by decide +kernel
theorem dX7_drift_74 : decode cX7_drift 74 = .ok (.getfield 26, 3) := by decide +kernel
theorem dX7_drift_77 : decode cX7_drift 77 = .ok (.aload_n 0, 1) := by decide +kernel
theorem dX7_drift_78 : decode cX7_drift 78 = .ok (.getfield 10, 3) := by decide +kernel
theorem dX7_drift_81 : decode cX7_drift 81 = .ok (.invokevirtual 55, 3) := by decide +kernel
theorem dX7_drift_84 : decode cX7_drift 84 = .ok (.aload_n 0, 1) := by decide +kernel
theorem dX7_drift_85 : decode cX7_drift 85 = .ok (.getfield 26, 3) := by decide +kernel
theorem dX7_drift_88 : decode cX7_drift 88 = .ok (.aload_n 0, 1) := by decide +kernel
theorem dX7_drift_89 : decode cX7_drift 89 = .ok (.getfield 10, 3) := by decide +kernel
theorem dX7_drift_92 : decode cX7_drift 92 = .ok (.invokevirtual 87, 3) := by decide +kernel
theorem dX7_drift_95 : decode cX7_drift 95 = .ok (.ireturn, 1) := by decide +kernel
set_option maxRecDepth 20000 in
theorem ggX7_undo_X7_within : GoodIn wsX7_undo wsX7_within := goodIn_r _ [9] (by decide +kernel) (by decide +kernel)
set_option maxRecDepth 20000 in
theorem gX7_undo_X7_within : GoodIn wsX7_undo (va_wsS RX7 134 yX7_within wsX7_within) := goodIn_app (goodIn_of _ (by decide +kernel)) ggX7_undo_X7_within
set_option maxRecDepth 20000 in
theorem ggX7_undo_X4_restore : GoodIn wsX7_undo wsX4_restore := goodIn_r _ [14, 15, 16, 17, 18, 19, 20, 21, 22, 23, 24, 25, 26, 27, 28, 29, 30, 31, 32, 40, 41, 42, 43, 44, 45, 46, 47, 48] (by decide +kernel) (by decide +kernel)
set_option maxRecDepth 20000 in
theorem gX7_undo_X4_restore : GoodIn wsX7_undo (wsV RX7 216 RX4 yX4_restore wsX4_restore) := goodIn_app (goodIn_of _ (by decide +kernel)) ggX7_undo_X4_restore
theorem dX7_undo_0 : decode cX7_undo 0 = .ok (.iload_n 1, 1) := by decide +kernel
theorem dX7_undo_1 : decode cX7_undo 1 = .ok (.iconst 1, 1) := by decide +kernel
theorem dX7_undo_2 : decode cX7_undo 2 = .ok (.bipush 16, 2) := by decide +kernel
theorem dX7_undo_4 : decode cX7_undo 4 = .ok (.invokestatic 134, 3) := by decide +kernel
theorem dX7_undo_7 : decode cX7_undo 7 = .ok (.ifCond .ne 6, 3) := by decide +kernel
theorem dX7_undo_10 : decode cX7_undo 10 = .ok (.ldc 105, 2) := by decide +kernel
theorem dX7_undo_12 : decode cX7_undo 12 = .ok (.ireturn, 1) := by decide +kernel
theorem dX7_undo_13 : decode cX7_undo 13 = .ok (.iload_n 1, 1) := by decide +kernel
theorem dX7_undo_14 : decode cX7_undo 14 = .ok (.aload_n 0, 1) := by decide +kernel
theorem dX7_undo_15 : decode cX7_undo 15 = .ok (.getfield 19, 3) := by decide +kernel
theorem dX7_undo_18 : decode cX7_undo 18 = .ok (.getfield 101, 3) := by decide +kernel
theorem dX7_undo_21 : decode cX7_undo 21 = .ok (.if_icmp .le 6, 3) := by decide +kernel
theorem dX7_undo_24 : decode cX7_undo 24 = .ok (.ldc 200, 2) := by decide +kernel
theorem dX7_undo_26 : decode cX7_undo 26 = .ok (.ireturn, 1) := by decide +kernel
theorem dX7_undo_27 : decode cX7_undo 27 = .ok (.aload_n 0, 1) := by decide +kernel
theorem dX7_undo_28 : decode cX7_undo 28 = .ok (.getfield 19, 3) := by decide +kernel
theorem dX7_undo_31 : decode cX7_undo 31 = .ok (.aload_n 0, 1) := by decide +kernel
theorem dX7_undo_32 : decode cX7_undo 32 = .ok (.getfield 10, 3) := by decide +kernel
theorem dX7_undo_35 : decode cX7_undo 35 = .ok (.iload_n 1, 1) := by decide +kernel
theorem dX7_undo_36 : decode cX7_undo 36 = .ok (.invokevirtual 216, 3) := by decide +kernel
theorem dX7_undo_39 : decode cX7_undo 39 = .ok (.aload_n 0, 1) := by decide +kernel
theorem dX7_undo_40 : decode cX7_undo 40 = .ok (.getfield 19, 3) := by decide +kernel
theorem dX7_undo_43 : decode cX7_undo 43 = .ok (.getfield 101, 3) := by decide +kernel
theorem dX7_undo_46 : decode cX7_undo 46 = .ok (.ireturn, 1) := by decide +kernel
set_option maxRecDepth 20000 in
theorem ggX7_write_X3_has : GoodIn wsX7_write wsX3_has := goodIn_r _ [10, 11, 30, 31, 32, 33, 34, 35] (by decide +kernel) (by decide +kernel)
set_option maxRecDepth 20000 in
theorem gX7_write_X3_has : GoodIn wsX7_write (wsV RX7 106 RX3 yX3_has wsX3_has) := goodIn_app (goodIn_of _ (by decide +kernel)) ggX7_write_X3_has
set_option maxRecDepth 20000 in
theorem ggX7_write_X0_enter : GoodIn wsX7_write wsX0_enter := goodIn_r _ [16, 17, 18, 19, 27, 28, 29] (by decide +kernel) (by decide +kernel)
set_option maxRecDepth 20000 in
theorem gX7_write_X0_enter : GoodIn wsX7_write (wsV RX7 219 RX0 yX0_enter wsX0_enter) := goodIn_app (goodIn_of _ (by decide +kernel)) ggX7_write_X0_enter
theorem dX7_write_0 : decode cX7_write 0 = .ok (.aload_n 0, 1) := by decide +kernel
theorem dX7_write_1 : decode cX7_write 1 = .ok (.getfield 10, 3) := by decide +kernel
theorem dX7_write_4 : decode cX7_write 4 = .ok (.iload_n 1, 1) := by decide +kernel
theorem dX7_write_5 : decode cX7_write 5 = .ok (.invokevirtual 106, 3) := by decide +kernel
theorem dX7_write_8 : decode cX7_write 8 = .ok (.ifCond .ne 6, 3) := by decide +kernel
theorem dX7_write_11 : decode cX7_write 11 = .ok (.ldc 110, 2) := by decide +kernel
theorem dX7_write_13 : decode cX7_write 13 = .ok (.ireturn, 1) := by decide +kernel
theorem dX7_write_14 : decode cX7_write 14 = .ok (.aload_n 0, 1) := by decide +kernel
theorem dX7_write_15 : decode cX7_write 15 = .ok (.getfield 33, 3) := by decide +kernel
theorem dX7_write_18 : decode cX7_write 18 = .ok (.getfield 97, 3) := by decide +kernel
theorem dX7_write_21 : decode cX7_write 21 = .ok (.bipush 20, 2) := by decide +kernel
theorem dX7_write_23 : decode cX7_write 23 = .ok (.if_icmp .lt 6, 3) := by decide +kernel
theorem dX7_write_26 : decode cX7_write 26 = .ok (.ldc 192, 2) := by decide +kernel
theorem dX7_write_28 : decode cX7_write 28 = .ok (.ireturn, 1) := by decide +kernel
theorem dX7_write_29 : decode cX7_write 29 = .ok (.aload_n 0, 1) := by decide +kernel
theorem dX7_write_30 : decode cX7_write 30 = .ok (.getfield 33, 3) := by decide +kernel
theorem dX7_write_33 : decode cX7_write 33 = .ok (.iload_n 1, 1) := by decide +kernel
theorem dX7_write_34 : decode cX7_write 34 = .ok (.iload_n 2, 1) := by decide +kernel
theorem dX7_write_35 : decode cX7_write 35 = .ok (.invokevirtual 219, 3) := by decide +kernel
theorem dX7_write_38 : decode cX7_write 38 = .ok (.aload_n 0, 1) := by decide +kernel
theorem dX7_write_39 : decode cX7_write 39 = .ok (.getfield 33, 3) := by decide +kernel
theorem dX7_write_42 : decode cX7_write 42 = .ok (.getfield 97, 3) := by decide +kernel
theorem dX7_write_45 : decode cX7_write 45 = .ok (.ireturn, 1) := by decide +kernel
theorem dX7_tear_0 : decode cX7_tear 0 = .ok (.aload_n 0, 1) := by decide +kernel
theorem dX7_tear_1 : decode cX7_tear 1 = .ok (.getfield 33, 3) := by decide +kernel
theorem dX7_tear_4 : decode cX7_tear 4 = .ok (.getfield 97, 3) := by decide +kernel
theorem dX7_tear_7 : decode cX7_tear 7 = .ok (.istore_n 1, 1) := by decide +kernel
theorem dX7_tear_8 : decode cX7_tear 8 = .ok (.aload_n 0, 1) := by decide +kernel
theorem dX7_tear_9 : decode cX7_tear 9 = .ok (.getfield 33, 3) := by decide +kernel
theorem dX7_tear_12 : decode cX7_tear 12 = .ok (.iconst 0, 1) := by decide +kernel
theorem dX7_tear_13 : decode cX7_tear 13 = .ok (.putfield 97, 3) := by decide +kernel
theorem dX7_tear_16 : decode cX7_tear 16 = .ok (.iload_n 1, 1) := by decide +kernel
theorem dX7_tear_17 : decode cX7_tear 17 = .ok (.ireturn, 1) := by decide +kernel
theorem dX7_seed_0 : decode cX7_seed 0 = .ok (.iload_n 1, 1) := by decide +kernel
theorem dX7_seed_1 : decode cX7_seed 1 = .ok (.ifCond .ge 6, 3) := by decide +kernel
theorem dX7_seed_4 : decode cX7_seed 4 = .ok (.ldc 105, 2) := by decide +kernel
theorem dX7_seed_6 : decode cX7_seed 6 = .ok (.ireturn, 1) := by decide +kernel
theorem dX7_seed_7 : decode cX7_seed 7 = .ok (.aload_n 0, 1) := by decide +kernel
theorem dX7_seed_8 : decode cX7_seed 8 = .ok (.getfield 40, 3) := by decide +kernel
theorem dX7_seed_11 : decode cX7_seed 11 = .ok (.getfield 102, 3) := by decide +kernel
theorem dX7_seed_14 : decode cX7_seed 14 = .ok (.istore_n 2, 1) := by decide +kernel
theorem dX7_seed_15 : decode cX7_seed 15 = .ok (.aload_n 0, 1) := by decide +kernel
theorem dX7_seed_16 : decode cX7_seed 16 = .ok (.getfield 40, 3) := by decide +kernel
theorem dX7_seed_19 : decode cX7_seed 19 = .ok (.iload_n 1, 1) := by decide +kernel
theorem dX7_seed_20 : decode cX7_seed 20 = .ok (.putfield 102, 3) := by decide +kernel
theorem dX7_seed_23 : decode cX7_seed 23 = .ok (.iload_n 2, 1) := by decide +kernel
theorem dX7_seed_24 : decode cX7_seed 24 = .ok (.ireturn, 1) := by decide +kernel
set_option maxRecDepth 20000 in
theorem ggX7_keep_X7_within : GoodIn wsX7_keep wsX7_within := goodIn_r _ [13] (by decide +kernel) (by decide +kernel)
set_option maxRecDepth 20000 in
theorem gX7_keep_X7_within : GoodIn wsX7_keep (va_wsS RX7 134 yX7_within wsX7_within) := goodIn_app (goodIn_of _ (by decide +kernel)) ggX7_keep_X7_within
set_option maxRecDepth 20000 in
theorem ggX7_keep_X3_become : GoodIn wsX7_keep wsX3_become := goodIn_r _ [18, 19, 20, 21, 22, 23, 24, 25, 26, 27, 28, 46, 47, 48, 49, 50, 51] (by decide +kernel) (by decide +kernel)
set_option maxRecDepth 20000 in
theorem gX7_keep_X3_become : GoodIn wsX7_keep (wsV RX7 228 RX3 yX3_become wsX3_become) := goodIn_app (goodIn_of _ (by decide +kernel)) ggX7_keep_X3_become
set_option maxRecDepth 20000 in
theorem ggX7_keep_X4_forget : GoodIn wsX7_keep wsX4_forget := goodIn_r _ [33, 34, 52, 53, 54] (by decide +kernel) (by decide +kernel)
set_option maxRecDepth 20000 in
theorem gX7_keep_X4_forget : GoodIn wsX7_keep (wsV RX7 231 RX4 yX4_forget wsX4_forget) := goodIn_app (goodIn_of _ (by decide +kernel)) ggX7_keep_X4_forget
theorem dX7_keep_0 : decode cX7_keep 0 = .ok (.iload_n 1, 1) := by decide +kernel
theorem dX7_keep_1 : decode cX7_keep 1 = .ok (.iconst 0, 1) := by decide +kernel
theorem dX7_keep_2 : decode cX7_keep 2 = .ok (.iconst 1, 1) := by decide +kernel
theorem dX7_keep_3 : decode cX7_keep 3 = .ok (.invokestatic 134, 3) := by decide +kernel
theorem dX7_keep_6 : decode cX7_keep 6 = .ok (.ifCond .ne 6, 3) := by decide +kernel
theorem dX7_keep_9 : decode cX7_keep 9 = .ok (.ldc 110, 2) := by decide +kernel
theorem dX7_keep_11 : decode cX7_keep 11 = .ok (.ireturn, 1) := by decide +kernel
theorem dX7_keep_12 : decode cX7_keep 12 = .ok (.aload_n 0, 1) := by decide +kernel
theorem dX7_keep_13 : decode cX7_keep 13 = .ok (.getfield 46, 3) := by decide +kernel
theorem dX7_keep_16 : decode cX7_keep 16 = .ok (.iload_n 1, 1) := by decide +kernel
theorem dX7_keep_17 : decode cX7_keep 17 = .ok (.aaload, 1) := by decide +kernel
theorem dX7_keep_18 : decode cX7_keep 18 = .ok (.iconst 1, 1) := by decide +kernel
theorem dX7_keep_19 : decode cX7_keep 19 = .ok (.putfield 222, 3) := by decide +kernel
theorem dX7_keep_22 : decode cX7_keep 22 = .ok (.aload_n 0, 1) := by decide +kernel
theorem dX7_keep_23 : decode cX7_keep 23 = .ok (.getfield 46, 3) := by decide +kernel
theorem dX7_keep_26 : decode cX7_keep 26 = .ok (.iload_n 1, 1) := by decide +kernel
theorem dX7_keep_27 : decode cX7_keep 27 = .ok (.aaload, 1) := by decide +kernel
theorem dX7_keep_28 : decode cX7_keep 28 = .ok (.aload_n 0, 1) := by decide +kernel
theorem dX7_keep_29 : decode cX7_keep 29 = .ok (.getfield 40, 3) := by decide +kernel
theorem dX7_keep_32 : decode cX7_keep 32 = .ok (.getfield 102, 3) := by decide +kernel
theorem dX7_keep_35 : decode cX7_keep 35 = .ok (.putfield 226, 3) := by decide +kernel
theorem dX7_keep_38 : decode cX7_keep 38 = .ok (.aload_n 0, 1) := by decide +kernel
theorem dX7_keep_39 : decode cX7_keep 39 = .ok (.getfield 46, 3) := by decide +kernel
theorem dX7_keep_42 : decode cX7_keep 42 = .ok (.iload_n 1, 1) := by decide +kernel
theorem dX7_keep_43 : decode cX7_keep 43 = .ok (.aaload, 1) := by decide +kernel
theorem dX7_keep_44 : decode cX7_keep 44 = .ok (.getfield 227, 3) := by decide +kernel
theorem dX7_keep_47 : decode cX7_keep 47 = .ok (.aload_n 0, 1) := by decide +kernel
theorem dX7_keep_48 : decode cX7_keep 48 = .ok (.getfield 10, 3) := by decide +kernel
theorem dX7_keep_51 : decode cX7_keep 51 = .ok (.invokevirtual 228, 3) := by decide +kernel
theorem dX7_keep_54 : decode cX7_keep 54 = .ok (.aload_n 0, 1) := by decide +kernel
theorem dX7_keep_55 : decode cX7_keep 55 = .ok (.getfield 19, 3) := by decide +kernel
theorem dX7_keep_58 : decode cX7_keep 58 = .ok (.invokevirtual 231, 3) := by decide +kernel
theorem dX7_keep_61 : decode cX7_keep 61 = .ok (.iconst 1, 1) := by decide +kernel
theorem dX7_keep_62 : decode cX7_keep 62 = .ok (.ireturn, 1) := by decide +kernel
set_option maxRecDepth 20000 in
theorem ggX7_goBack_X7_within : GoodIn wsX7_goBack wsX7_within := goodIn_r _ [14] (by decide +kernel) (by decide +kernel)
set_option maxRecDepth 20000 in
theorem gX7_goBack_X7_within : GoodIn wsX7_goBack (va_wsS RX7 134 yX7_within wsX7_within) := goodIn_app (goodIn_of _ (by decide +kernel)) ggX7_goBack_X7_within
set_option maxRecDepth 20000 in
theorem ggX7_goBack_X3_become : GoodIn wsX7_goBack wsX3_become := goodIn_r _ [19, 20, 21, 22, 23, 24, 25, 26, 27, 28, 29, 47, 48, 49, 50, 51, 52] (by decide +kernel) (by decide +kernel)
set_option maxRecDepth 20000 in
theorem gX7_goBack_X3_become : GoodIn wsX7_goBack (wsV RX7 228 RX3 yX3_become wsX3_become) := goodIn_app (goodIn_of _ (by decide +kernel)) ggX7_goBack_X3_become
set_option maxRecDepth 20000 in
theorem ggX7_goBack_X4_forget : GoodIn wsX7_goBack wsX4_forget := goodIn_r _ [34, 35, 53, 54, 55] (by decide +kernel) (by decide +kernel)
set_option maxRecDepth 20000 in
theorem gX7_goBack_X4_forget : GoodIn wsX7_goBack (wsV RX7 231 RX4 yX4_forget wsX4_forget) := goodIn_app (goodIn_of _ (by decide +kernel)) ggX7_goBack_X4_forget
theorem dX7_goBack_0 : decode cX7_goBack 0 = .ok (.iload_n 1, 1) := by decide +kernel
theorem dX7_goBack_1 : decode cX7_goBack 1 = .ok (.iconst 0, 1) := by decide +kernel
theorem dX7_goBack_2 : decode cX7_goBack 2 = .ok (.iconst 1, 1) := by decide +kernel
theorem dX7_goBack_3 : decode cX7_goBack 3 = .ok (.invokestatic 134, 3) := by decide +kernel
theorem dX7_goBack_6 : decode cX7_goBack 6 = .ok (.ifCond .ne 6, 3) := by decide +kernel
theorem dX7_goBack_9 : decode cX7_goBack 9 = .ok (.ldc 110, 2) := by decide +kernel
theorem dX7_goBack_11 : decode cX7_goBack 11 = .ok (.ireturn, 1) := by decide +kernel
theorem dX7_goBack_12 : decode cX7_goBack 12 = .ok (.aload_n 0, 1) := by decide +kernel
theorem dX7_goBack_13 : decode cX7_goBack 13 = .ok (.getfield 46, 3) := by decide +kernel
theorem dX7_goBack_16 : decode cX7_goBack 16 = .ok (.iload_n 1, 1) := by decide +kernel
theorem dX7_goBack_17 : decode cX7_goBack 17 = .ok (.aaload, 1) := by decide +kernel
theorem dX7_goBack_18 : decode cX7_goBack 18 = .ok (.getfield 222, 3) := by decide +kernel
theorem dX7_goBack_21 : decode cX7_goBack 21 = .ok (.ifCond .ne 6, 3) := by decide +kernel
theorem dX7_goBack_24 : decode cX7_goBack 24 = .ok (.ldc 200, 2) := by decide +kernel
theorem dX7_goBack_26 : decode cX7_goBack 26 = .ok (.ireturn, 1) := by decide +kernel
theorem dX7_goBack_27 : decode cX7_goBack 27 = .ok (.aload_n 0, 1) := by decide +kernel
theorem dX7_goBack_28 : decode cX7_goBack 28 = .ok (.getfield 40, 3) := by decide +kernel
theorem dX7_goBack_31 : decode cX7_goBack 31 = .ok (.aload_n 0, 1) := by decide +kernel
theorem dX7_goBack_32 : decode cX7_goBack 32 = .ok (.getfield 46, 3) := by decide +kernel
theorem dX7_goBack_35 : decode cX7_goBack 35 = .ok (.iload_n 1, 1) := by decide +kernel
theorem dX7_goBack_36 : decode cX7_goBack 36 = .ok (.aaload, 1) := by decide +kernel
theorem dX7_goBack_37 : decode cX7_goBack 37 = .ok (.getfield 226, 3) := by decide +kernel
theorem dX7_goBack_40 : decode cX7_goBack 40 = .ok (.putfield 102, 3) := by decide +kernel
theorem dX7_goBack_43 : decode cX7_goBack 43 = .ok (.aload_n 0, 1) := by decide +kernel
theorem dX7_goBack_44 : decode cX7_goBack 44 = .ok (.getfield 10, 3) := by decide +kernel
theorem dX7_goBack_47 : decode cX7_goBack 47 = .ok (.aload_n 0, 1) := by decide +kernel
theorem dX7_goBack_48 : decode cX7_goBack 48 = .ok (.getfield 46, 3) := by decide +kernel
theorem dX7_goBack_51 : decode cX7_goBack 51 = .ok (.iload_n 1, 1) := by decide +kernel
theorem dX7_goBack_52 : decode cX7_goBack 52 = .ok (.aaload, 1) := by decide +kernel
theorem dX7_goBack_53 : decode cX7_goBack 53 = .ok (.getfield 227, 3) := by decide +kernel
theorem dX7_goBack_56 : decode cX7_goBack 56 = .ok (.invokevirtual 228, 3) := by decide +kernel
theorem dX7_goBack_59 : decode cX7_goBack 59 = .ok (.aload_n 0, 1) := by decide +kernel
theorem dX7_goBack_60 : decode cX7_goBack 60 = .ok (.getfield 19, 3) := by decide +kernel
theorem dX7_goBack_63 : decode cX7_goBack 63 = .ok (.invokevirtual 231, 3) := by decide +kernel
theorem dX7_goBack_66 : decode cX7_goBack 66 = .ok (.iconst 1, 1) := by decide +kernel
theorem dX7_goBack_67 : decode cX7_goBack 67 = .ok (.ireturn, 1) := by decide +kernel
theorem dX7_within_0 : decode cX7_within 0 = .ok (.iload_n 0, 1) := by decide +kernel
theorem dX7_within_1 : decode cX7_within 1 = .ok (.iload_n 1, 1) := by decide +kernel
theorem dX7_within_2 : decode cX7_within 2 = .ok (.if_icmp .lt 12, 3) := by decide +kernel
theorem dX7_within_5 : decode cX7_within 5 = .ok (.iload_n 0, 1) := by decide +kernel
theorem dX7_within_6 : decode cX7_within 6 = .ok (.iload_n 2, 1) := by decide +kernel
theorem dX7_within_7 : decode cX7_within 7 = .ok (.if_icmp .gt 7, 3) := by decide +kernel
theorem dX7_within_10 : decode cX7_within 10 = .ok (.iconst 1, 1) := by decide +kernel
theorem dX7_within_11 : decode cX7_within 11 = .ok (.goto 4, 3) := by decide +kernel
theorem dX7_within_14 : decode cX7_within 14 = .ok (.iconst 0, 1) := by decide +kernel
theorem dX7_within_15 : decode cX7_within 15 = .ok (.ireturn, 1) := by decide +kernel
theorem dX7_isIn_0 : decode cX7_isIn 0 = .ok (.iload_n 0, 1) := by decide +kernel
theorem dX7_isIn_1 : decode cX7_isIn 1 = .ok (.iload_n 1, 1) := by decide +kernel
theorem dX7_isIn_2 : decode cX7_isIn 2 = .ok (.ishr, 1) := by decide +kernel
theorem dX7_isIn_3 : decode cX7_isIn 3 = .ok (.iconst 1, 1) := by decide +kernel
theorem dX7_isIn_4 : decode cX7_isIn 4 = .ok (.iand, 1) := by decide +kernel
theorem dX7_isIn_5 : decode cX7_isIn 5 = .ok (.iconst 1, 1) := by decide +kernel
theorem dX7_isIn_6 : decode cX7_isIn 6 = .ok (.if_icmp .ne 7, 3) := by decide +kernel
theorem dX7_isIn_9 : decode cX7_isIn 9 = .ok (.iconst 1, 1) := by decide +kernel
theorem dX7_isIn_10 : decode cX7_isIn 10 = .ok (.goto 4, 3) := by decide +kernel
theorem dX7_isIn_13 : decode cX7_isIn 13 = .ok (.iconst 0, 1) := by decide +kernel
theorem dX7_isIn_14 : decode cX7_isIn 14 = .ok (.ireturn, 1) := by decide +kernel
set_option maxRecDepth 20000 in
theorem ggX7_pairsIn_J6_bitCount_0f7a4 : GoodIn wsX7_pairsIn wsJ6_bitCount_0f7a4 := goodIn_r _ [4, 5, 6, 7] (by decide +kernel) (by decide +kernel)
set_option maxRecDepth 20000 in
theorem gX7_pairsIn_J6_bitCount_0f7a4 : GoodIn wsX7_pairsIn (va_wsS RX7 234 yJ6_bitCount_0f7a4 wsJ6_bitCount_0f7a4) := goodIn_app (goodIn_of _ (by decide +kernel)) ggX7_pairsIn_J6_bitCount_0f7a4
theorem dX7_pairsIn_0 : decode cX7_pairsIn 0 = .ok (.iconst 0, 1) := by decide +kernel
theorem dX7_pairsIn_1 : decode cX7_pairsIn 1 = .ok (.istore_n 1, 1) := by decide +kernel
theorem dX7_pairsIn_2 : decode cX7_pairsIn 2 = .ok (.aload_n 0, 1) := by decide +kernel
theorem dX7_pairsIn_3 : decode cX7_pairsIn 3 = .ok (.astore_n 2, 1) := by decide +kernel
theorem dX7_pairsIn_4 : decode cX7_pairsIn 4 = .ok (.aload_n 2, 1) := by decide +kernel
theorem dX7_pairsIn_5 : decode cX7_pairsIn 5 = .ok (.arraylength, 1) := by decide +kernel
theorem dX7_pairsIn_6 : decode cX7_pairsIn 6 = .ok (.istore_n 3, 1) := by decide +kernel
theorem dX7_pairsIn_7 : decode cX7_pairsIn 7 = .ok (.iconst 0, 1) := by decide +kernel
theorem dX7_pairsIn_8 : decode cX7_pairsIn 8 = .ok (.istore 4, 2) := by decide +kernel
theorem dX7_pairsIn_10 : decode cX7_pairsIn 10 = .ok (.iload 4, 2) := by decide +kernel
theorem dX7_pairsIn_12 : decode cX7_pairsIn 12 = .ok (.iload_n 3, 1) := by decide +kernel
theorem dX7_pairsIn_13 : decode cX7_pairsIn 13 = .ok (.if_icmp .ge 23, 3) := by decide +kernel
theorem dX7_pairsIn_16 : decode cX7_pairsIn 16 = .ok (.aload_n 2, 1) := by decide +kernel
theorem dX7_pairsIn_17 : decode cX7_pairsIn 17 = .ok (.iload 4, 2) := by decide +kernel
theorem dX7_pairsIn_19 : decode cX7_pairsIn 19 = .ok (.iaload, 1) := by decide +kernel
theorem dX7_pairsIn_20 : decode cX7_pairsIn 20 = .ok (.istore 5, 2) := by decide +kernel
theorem dX7_pairsIn_22 : decode cX7_pairsIn 22 = .ok (.iload_n 1, 1) := by decide +kernel
theorem dX7_pairsIn_23 : decode cX7_pairsIn 23 = .ok (.iload 5, 2) := by decide +kernel
theorem dX7_pairsIn_25 : decode cX7_pairsIn 25 = .ok (.invokestatic 234, 3) := by decide +kernel
theorem dX7_pairsIn_28 : decode cX7_pairsIn 28 = .ok (.iadd, 1) := by decide +kernel
theorem dX7_pairsIn_29 : decode cX7_pairsIn 29 = .ok (.istore_n 1, 1) := by decide +kernel
theorem dX7_pairsIn_30 : decode cX7_pairsIn 30 = .ok (.iinc 4 1, 3) := by decide +kernel
theorem dX7_pairsIn_33 : decode cX7_pairsIn 33 = .ok (.goto (-23), 3) := by decide +kernel
theorem dX7_pairsIn_36 : decode cX7_pairsIn 36 = .ok (.iload_n 1, 1) := by decide +kernel
theorem dX7_pairsIn_37 : decode cX7_pairsIn 37 = .ok (.iconst 2, 1) := by decide +kernel
theorem dX7_pairsIn_38 : decode cX7_pairsIn 38 = .ok (.idiv, 1) := by decide +kernel
theorem dX7_pairsIn_39 : decode cX7_pairsIn 39 = .ok (.ireturn, 1) := by decide +kernel
theorem dX7_markOf_0 : decode cX7_markOf 0 = .ok (.iload_n 0, 1) := by decide +kernel
theorem dX7_markOf_1 : decode cX7_markOf 1 = .ok (.i2l, 1) := by decide +kernel
theorem dX7_markOf_2 : decode cX7_markOf 2 = .ok (.lconst 1, 1) := by decide +kernel
theorem dX7_markOf_3 : decode cX7_markOf 3 = .ok (.ladd, 1) := by decide +kernel
theorem dX7_markOf_4 : decode cX7_markOf 4 = .ok (.ldc2_w 239, 3) := by decide +kernel
theorem dX7_markOf_7 : decode cX7_markOf 7 = .ok (.iload_n 1, 1) := by decide +kernel
theorem dX7_markOf_8 : decode cX7_markOf 8 = .ok (.i2l, 1) := by decide +kernel
theorem dX7_markOf_9 : decode cX7_markOf 9 = .ok (.lmul, 1) := by decide +kernel
theorem dX7_markOf_10 : decode cX7_markOf 10 = .ok (.lconst 1, 1) := by decide +kernel
theorem dX7_markOf_11 : decode cX7_markOf 11 = .ok (.ladd, 1) := by decide +kernel
theorem dX7_markOf_12 : decode cX7_markOf 12 = .ok (.lmul, 1) := by decide +kernel
theorem dX7_markOf_13 : decode cX7_markOf 13 = .ok (.ldc2_w 241, 3) := by decide +kernel
theorem dX7_markOf_16 : decode cX7_markOf 16 = .ok (.lmul, 1) := by decide +kernel
theorem dX7_markOf_17 : decode cX7_markOf 17 = .ok (.lstore_n 2, 1) := by decide +kernel
theorem dX7_markOf_18 : decode cX7_markOf 18 = .ok (.lload_n 2, 1) := by decide +kernel
theorem dX7_markOf_19 : decode cX7_markOf 19 = .ok (.ldc2_w 243, 3) := by decide +kernel
theorem dX7_markOf_22 : decode cX7_markOf 22 = .ok (.lrem, 1) := by decide +kernel
theorem dX7_markOf_23 : decode cX7_markOf 23 = .ok (.ldc2_w 245, 3) := by decide +kernel
theorem dX7_markOf_26 : decode cX7_markOf 26 = .ok (.ldiv, 1) := by decide +kernel
theorem dX7_markOf_27 : decode cX7_markOf 27 = .ok (.l2i, 1) := by decide +kernel
theorem dX7_markOf_28 : decode cX7_markOf 28 = .ok (.ireturn, 1) := by decide +kernel
theorem dX7_rankOf_0 : decode cX7_rankOf 0 = .ok (.iconst 0, 1) := by decide +kernel
theorem dX7_rankOf_1 : decode cX7_rankOf 1 = .ok (.istore_n 1, 1) := by decide +kernel
theorem dX7_rankOf_2 : decode cX7_rankOf 2 = .ok (.iload_n 0, 1) := by decide +kernel
theorem dX7_rankOf_3 : decode cX7_rankOf 3 = .ok (.istore_n 2, 1) := by decide +kernel
theorem dX7_rankOf_4 : decode cX7_rankOf 4 = .ok (.iload_n 1, 1) := by decide +kernel
theorem dX7_rankOf_5 : decode cX7_rankOf 5 = .ok (.bipush 7, 2) := by decide +kernel
theorem dX7_rankOf_7 : decode cX7_rankOf 7 = .ok (.if_icmp .ge 19, 3) := by decide +kernel
theorem dX7_rankOf_10 : decode cX7_rankOf 10 = .ok (.iload_n 2, 1) := by decide +kernel
theorem dX7_rankOf_11 : decode cX7_rankOf 11 = .ok (.iconst 2, 1) := by decide +kernel
theorem dX7_rankOf_12 : decode cX7_rankOf 12 = .ok (.irem, 1) := by decide +kernel
theorem dX7_rankOf_13 : decode cX7_rankOf 13 = .ok (.ifCond .ne 13, 3) := by decide +kernel
theorem dX7_rankOf_16 : decode cX7_rankOf 16 = .ok (.iinc 1 1, 3) := by decide +kernel
theorem dX7_rankOf_19 : decode cX7_rankOf 19 = .ok (.iload_n 2, 1) := by decide +kernel
theorem dX7_rankOf_20 : decode cX7_rankOf 20 = .ok (.iconst 2, 1) := by decide +kernel
theorem dX7_rankOf_21 : decode cX7_rankOf 21 = .ok (.idiv, 1) := by decide +kernel
theorem dX7_rankOf_22 : decode cX7_rankOf 22 = .ok (.istore_n 2, 1) := by decide +kernel
theorem dX7_rankOf_23 : decode cX7_rankOf 23 = .ok (.goto (-19), 3) := by decide +kernel
theorem dX7_rankOf_26 : decode cX7_rankOf 26 = .ok (.iload_n 1, 1) := by decide +kernel
theorem dX7_rankOf_27 : decode cX7_rankOf 27 = .ok (.ireturn, 1) := by decide +kernel
set_option maxRecDepth 20000 in
theorem ggX7_guessOf_X5_guessByBits : GoodIn wsX7_guessOf wsX5_guessByBits := goodIn_r _ [7] (by decide +kernel) (by decide +kernel)
set_option maxRecDepth 20000 in
theorem gX7_guessOf_X5_guessByBits : GoodIn wsX7_guessOf (va_wsS RX7 247 yX5_guessByBits wsX5_guessByBits) := goodIn_app (goodIn_of _ (by decide +kernel)) ggX7_guessOf_X5_guessByBits
set_option maxRecDepth 20000 in
theorem ggX7_guessOf_X5_guessByLeast : GoodIn wsX7_guessOf wsX5_guessByLeast := goodIn_r _ [10, 11, 12, 13, 14, 6, 15, 16, 17, 18, 19, 20, 21, 22, 23] (by decide +kernel) (by decide +kernel)
set_option maxRecDepth 20000 in
theorem gX7_guessOf_X5_guessByLeast : GoodIn wsX7_guessOf (va_wsS RX7 253 yX5_guessByLeast wsX5_guessByLeast) := goodIn_app (goodIn_of _ (by decide +kernel)) ggX7_guessOf_X5_guessByLeast
theorem dX7_guessOf_0 : decode cX7_guessOf 0 = .ok (.aload_n 0, 1) := by decide +kernel
theorem dX7_guessOf_1 : decode cX7_guessOf 1 = .ok (.getfield 26, 3) := by decide +kernel
theorem dX7_guessOf_4 : decode cX7_guessOf 4 = .ok (.getfield 111, 3) := by decide +kernel
theorem dX7_guessOf_7 : decode cX7_guessOf 7 = .ok (.iload_n 1, 1) := by decide +kernel
theorem dX7_guessOf_8 : decode cX7_guessOf 8 = .ok (.iaload, 1) := by decide +kernel
theorem dX7_guessOf_9 : decode cX7_guessOf 9 = .ok (.iconst (-1), 1) := by decide +kernel
theorem dX7_guessOf_10 : decode cX7_guessOf 10 = .ok (.if_icmp .ne 5, 3) := by decide +kernel
theorem dX7_guessOf_13 : decode cX7_guessOf 13 = .ok (.iconst (-1), 1) := by decide +kernel
theorem dX7_guessOf_14 : decode cX7_guessOf 14 = .ok (.ireturn, 1) := by decide +kernel
theorem dX7_guessOf_15 : decode cX7_guessOf 15 = .ok (.iload_n 2, 1) := by decide +kernel
theorem dX7_guessOf_16 : decode cX7_guessOf 16 = .ok (.iconst 1, 1) := by decide +kernel
theorem dX7_guessOf_17 : decode cX7_guessOf 17 = .ok (.if_icmp .ne 18, 3) := by decide +kernel
theorem dX7_guessOf_20 : decode cX7_guessOf 20 = .ok (.aload_n 0, 1) := by decide +kernel
theorem dX7_guessOf_21 : decode cX7_guessOf 21 = .ok (.getfield 26, 3) := by decide +kernel
theorem dX7_guessOf_24 : decode cX7_guessOf 24 = .ok (.getfield 154, 3) := by decide +kernel
theorem dX7_guessOf_27 : decode cX7_guessOf 27 = .ok (.iload_n 1, 1) := by decide +kernel
theorem dX7_guessOf_28 : decode cX7_guessOf 28 = .ok (.laload, 1) := by decide +kernel
theorem dX7_guessOf_29 : decode cX7_guessOf 29 = .ok (.invokestatic 247, 3) := by decide +kernel
theorem dX7_guessOf_32 : decode cX7_guessOf 32 = .ok (.goto 15, 3) := by decide +kernel
theorem dX7_guessOf_35 : decode cX7_guessOf 35 = .ok (.aload_n 0, 1) := by decide +kernel
theorem dX7_guessOf_36 : decode cX7_guessOf 36 = .ok (.getfield 26, 3) := by decide +kernel
theorem dX7_guessOf_39 : decode cX7_guessOf 39 = .ok (.getfield 154, 3) := by decide +kernel
theorem dX7_guessOf_42 : decode cX7_guessOf 42 = .ok (.iload_n 1, 1) := by decide +kernel
theorem dX7_guessOf_43 : decode cX7_guessOf 43 = .ok (.laload, 1) := by decide +kernel
theorem dX7_guessOf_44 : decode cX7_guessOf 44 = .ok (.invokestatic 253, 3) := by decide +kernel
theorem dX7_guessOf_47 : decode cX7_guessOf 47 = .ok (.ireturn, 1) := by decide +kernel
set_option maxRecDepth 20000 in
theorem ggX7_firstWrong_X6_gather : GoodIn wsX7_firstWrong wsX6_gather := goodIn_r _ [12, 13, 14, 15, 16, 17, 18, 19, 20, 21, 22, 23, 24, 25, 26, 27, 28, 29, 30, 31, 32, 33, 34, 35, 36, 37, 38, 39, 40, 41, 42, 43, 44, 45, 46, 47, 48, 49, 50, 51, 52, 53, 54, 55, 56, 57, 58, 59, 60, 61, 62, 102, 103, 104, 105, 106, 107, 92, 93, 94, 95, 96, 97, 98, 99, 100, 101] (by decide +kernel) (by decide +kernel)
set_option maxRecDepth 20000 in
theorem gX7_firstWrong_X6_gather : GoodIn wsX7_firstWrong (wsV RX7 150 RX6 yX6_gather wsX6_gather) := goodIn_app (goodIn_of _ (by decide +kernel)) ggX7_firstWrong_X6_gather
set_option maxRecDepth 20000 in
theorem ggX7_firstWrong_X3_has : GoodIn wsX7_firstWrong wsX3_has := goodIn_r _ [67, 68, 102, 103, 104, 105, 106, 107] (by decide +kernel) (by decide +kernel)
set_option maxRecDepth 20000 in
theorem gX7_firstWrong_X3_has : GoodIn wsX7_firstWrong (wsV RX7 106 RX3 yX3_has wsX3_has) := goodIn_app (goodIn_of _ (by decide +kernel)) ggX7_firstWrong_X3_has
set_option maxRecDepth 20000 in
theorem ggX7_firstWrong_X7_guessOf : GoodIn wsX7_firstWrong wsX7_guessOf := goodIn_r _ [72, 1, 6, 73, 74, 75, 25, 76, 77, 78, 79, 80, 81, 49, 50, 51, 47, 52, 53, 54, 55, 56, 57, 48, 82, 83, 84, 85, 86, 87, 88, 92, 93, 94, 95, 96, 97, 98, 99, 100, 101] (by decide +kernel) (by decide +kernel)
set_option maxRecDepth 20000 in
theorem gX7_firstWrong_X7_guessOf : GoodIn wsX7_firstWrong (wsV RX7 157 RX7 yX7_guessOf wsX7_guessOf) := goodIn_app (goodIn_of _ (by decide +kernel)) ggX7_firstWrong_X7_guessOf
theorem dX7_firstWrong_0 : decode cX7_firstWrong 0 = .ok (.aload_n 0, 1) := by decide +kernel
theorem dX7_firstWrong_1 : decode cX7_firstWrong 1 = .ok (.getfield 26, 3) := by decide +kernel
theorem dX7_firstWrong_4 : decode cX7_firstWrong 4 = .ok (.aload_n 0, 1) := by decide +kernel
theorem dX7_firstWrong_5 : decode cX7_firstWrong 5 = .ok (.getfield 10, 3) := by decide +kernel
theorem dX7_firstWrong_8 : decode cX7_firstWrong 8 = .ok (.iconst 1, 1) := by decide +kernel
theorem dX7_firstWrong_9 : decode cX7_firstWrong 9 = .ok (.invokevirtual 150, 3) := by decide +kernel
theorem dX7_firstWrong_12 : decode cX7_firstWrong 12 = .ok (.iconst 0, 1) := by decide +kernel
theorem dX7_firstWrong_13 : decode cX7_firstWrong 13 = .ok (.istore_n 1, 1) := by decide +kernel
theorem dX7_firstWrong_14 : decode cX7_firstWrong 14 = .ok (.iload_n 1, 1) := by decide +kernel
theorem dX7_firstWrong_15 : decode cX7_firstWrong 15 = .ok (.aload_n 0, 1) := by decide +kernel
theorem dX7_firstWrong_16 : decode cX7_firstWrong 16 = .ok (.getfield 33, 3) := by decide +kernel
theorem dX7_firstWrong_19 : decode cX7_firstWrong 19 = .ok (.getfield 97, 3) := by decide +kernel
theorem dX7_firstWrong_22 : decode cX7_firstWrong 22 = .ok (.if_icmp .ge 63, 3) := by decide +kernel
theorem dX7_firstWrong_25 : decode cX7_firstWrong 25 = .ok (.aload_n 0, 1) := by decide +kernel
theorem dX7_firstWrong_26 : decode cX7_firstWrong 26 = .ok (.getfield 33, 3) := by decide +kernel
theorem dX7_firstWrong_29 : decode cX7_firstWrong 29 = .ok (.getfield 256, 3) := by decide +kernel
theorem dX7_firstWrong_32 : decode cX7_firstWrong 32 = .ok (.iload_n 1, 1) := by decide +kernel
theorem dX7_firstWrong_33 : decode cX7_firstWrong 33 = .ok (.iaload, 1) := by decide +kernel
theorem dX7_firstWrong_34 : decode cX7_firstWrong 34 = .ok (.istore_n 2, 1) := by decide +kernel
theorem dX7_firstWrong_35 : decode cX7_firstWrong 35 = .ok (.aload_n 0, 1) := by decide +kernel
theorem dX7_firstWrong_36 : decode cX7_firstWrong 36 = .ok (.getfield 10, 3) := by decide +kernel
theorem dX7_firstWrong_39 : decode cX7_firstWrong 39 = .ok (.iload_n 2, 1) := by decide +kernel
theorem dX7_firstWrong_40 : decode cX7_firstWrong 40 = .ok (.invokevirtual 106, 3) := by decide +kernel
theorem dX7_firstWrong_43 : decode cX7_firstWrong 43 = .ok (.ifCond .eq 34, 3) := by decide +kernel
theorem dX7_firstWrong_46 : decode cX7_firstWrong 46 = .ok (.aload_n 0, 1) := by decide +kernel
theorem dX7_firstWrong_47 : decode cX7_firstWrong 47 = .ok (.getfield 26, 3) := by decide +kernel
theorem dX7_firstWrong_50 : decode cX7_firstWrong 50 = .ok (.getfield 111, 3) := by decide +kernel
theorem dX7_firstWrong_53 : decode cX7_firstWrong 53 = .ok (.iload_n 2, 1) := by decide +kernel
theorem dX7_firstWrong_54 : decode cX7_firstWrong 54 = .ok (.iaload, 1) := by decide +kernel
theorem dX7_firstWrong_55 : decode cX7_firstWrong 55 = .ok (.iconst (-1), 1) := by decide +kernel
theorem dX7_firstWrong_56 : decode cX7_firstWrong 56 = .ok (.if_icmp .eq 21, 3) := by decide +kernel
theorem dX7_firstWrong_59 : decode cX7_firstWrong 59 = .ok (.aload_n 0, 1) := by decide +kernel
theorem dX7_firstWrong_60 : decode cX7_firstWrong 60 = .ok (.iload_n 2, 1) := by decide +kernel
theorem dX7_firstWrong_61 : decode cX7_firstWrong 61 = .ok (.iconst 1, 1) := by decide +kernel
theorem dX7_firstWrong_62 : decode cX7_firstWrong 62 = .ok (.invokevirtual 157, 3) := by decide +kernel
theorem dX7_firstWrong_65 : decode cX7_firstWrong 65 = .ok (.aload_n 0, 1) := by decide +kernel
theorem dX7_firstWrong_66 : decode cX7_firstWrong 66 = .ok (.getfield 33, 3) := by decide +kernel
theorem dX7_firstWrong_69 : decode cX7_firstWrong 69 = .ok (.getfield 259, 3) := by decide +kernel
theorem dX7_firstWrong_72 : decode cX7_firstWrong 72 = .ok (.iload_n 1, 1) := by decide +kernel
theorem dX7_firstWrong_73 : decode cX7_firstWrong 73 = .ok (.iaload, 1) := by decide +kernel
theorem dX7_firstWrong_74 : decode cX7_firstWrong 74 = .ok (.if_icmp .eq 5, 3) := by decide +kernel
theorem dX7_firstWrong_77 : decode cX7_firstWrong 77 = .ok (.iload_n 1, 1) := by decide +kernel
theorem dX7_firstWrong_78 : decode cX7_firstWrong 78 = .ok (.ireturn, 1) := by decide +kernel
theorem dX7_firstWrong_79 : decode cX7_firstWrong 79 = .ok (.iinc 1 1, 3) := by decide +kernel
theorem dX7_firstWrong_82 : decode cX7_firstWrong 82 = .ok (.goto (-68), 3) := by decide +kernel
theorem dX7_firstWrong_85 : decode cX7_firstWrong 85 = .ok (.iconst (-1), 1) := by decide +kernel
theorem dX7_firstWrong_86 : decode cX7_firstWrong 86 = .ok (.ireturn, 1) := by decide +kernel
theorem dX7_waysOfRank_0 : decode cX7_waysOfRank 0 = .ok (.iload_n 0, 1) := by decide +kernel
theorem dX7_waysOfRank_1 : decode cX7_waysOfRank 1 = .ok (.bipush 7, 2) := by decide +kernel
theorem dX7_waysOfRank_3 : decode cX7_waysOfRank 3 = .ok (.if_icmp .ge 12, 3) := by decide +kernel
theorem dX7_waysOfRank_6 : decode cX7_waysOfRank 6 = .ok (.lconst 1, 1) := by decide +kernel
theorem dX7_waysOfRank_7 : decode cX7_waysOfRank 7 = .ok (.bipush 6, 2) := by decide +kernel
theorem dX7_waysOfRank_9 : decode cX7_waysOfRank 9 = .ok (.iload_n 0, 1) := by decide +kernel
theorem dX7_waysOfRank_10 : decode cX7_waysOfRank 10 = .ok (.isub, 1) := by decide +kernel
theorem dX7_waysOfRank_11 : decode cX7_waysOfRank 11 = .ok (.lshl, 1) := by decide +kernel
theorem dX7_waysOfRank_12 : decode cX7_waysOfRank 12 = .ok (.goto 4, 3) := by decide +kernel
theorem dX7_waysOfRank_15 : decode cX7_waysOfRank 15 = .ok (.lconst 1, 1) := by decide +kernel
theorem dX7_waysOfRank_16 : decode cX7_waysOfRank 16 = .ok (.lreturn, 1) := by decide +kernel
theorem dX7_waysAboveRank_0 : decode cX7_waysAboveRank 0 = .ok (.iload_n 0, 1) := by decide +kernel
theorem dX7_waysAboveRank_1 : decode cX7_waysAboveRank 1 = .ok (.bipush 7, 2) := by decide +kernel
theorem dX7_waysAboveRank_3 : decode cX7_waysAboveRank 3 = .ok (.if_icmp .ge 12, 3) := by decide +kernel
theorem dX7_waysAboveRank_6 : decode cX7_waysAboveRank 6 = .ok (.lconst 1, 1) := by decide +kernel
theorem dX7_waysAboveRank_7 : decode cX7_waysAboveRank 7 = .ok (.bipush 6, 2) := by decide +kernel
theorem dX7_waysAboveRank_9 : decode cX7_waysAboveRank 9 = .ok (.iload_n 0, 1) := by decide +kernel
theorem dX7_waysAboveRank_10 : decode cX7_waysAboveRank 10 = .ok (.isub, 1) := by decide +kernel
theorem dX7_waysAboveRank_11 : decode cX7_waysAboveRank 11 = .ok (.lshl, 1) := by decide +kernel
theorem dX7_waysAboveRank_12 : decode cX7_waysAboveRank 12 = .ok (.goto 4, 3) := by decide +kernel
theorem dX7_waysAboveRank_15 : decode cX7_waysAboveRank 15 = .ok (.lconst 0, 1) := by decide +kernel
theorem dX7_waysAboveRank_16 : decode cX7_waysAboveRank 16 = .ok (.lreturn, 1) := by decide +kernel
theorem dX7_rowsJoined_0 : decode cX7_rowsJoined 0 = .ok (.lconst 0, 1) := by decide +kernel
theorem dX7_rowsJoined_1 : decode cX7_rowsJoined 1 = .ok (.lstore 5, 2) := by decide +kernel
theorem dX7_rowsJoined_3 : decode cX7_rowsJoined 3 = .ok (.lconst 1, 1) := by decide +kernel
theorem dX7_rowsJoined_4 : decode cX7_rowsJoined 4 = .ok (.lstore 7, 2) := by decide +kernel
theorem dX7_rowsJoined_6 : decode cX7_rowsJoined 6 = .ok (.lconst 1, 1) := by decide +kernel
theorem dX7_rowsJoined_7 : decode cX7_rowsJoined 7 = .ok (.lstore 9, 2) := by decide +kernel
theorem dX7_rowsJoined_9 : decode cX7_rowsJoined 9 = .ok (.iconst 0, 1) := by decide +kernel
theorem dX7_rowsJoined_10 : decode cX7_rowsJoined 10 = .ok (.istore 11, 2) := by decide +kernel
theorem dX7_rowsJoined_12 : decode cX7_rowsJoined 12 = .ok (.iload 11, 2) := by decide +kernel
theorem dX7_rowsJoined_14 : decode cX7_rowsJoined 14 = .ok (.iload_n 1, 1) := by decide +kernel
theorem dX7_rowsJoined_15 : decode cX7_rowsJoined 15 = .ok (.if_icmp .gt 57, 3) := by decide +kernel
theorem dX7_rowsJoined_18 : decode cX7_rowsJoined 18 = .ok (.iload 11, 2) := by decide +kernel
theorem dX7_rowsJoined_20 : decode cX7_rowsJoined 20 = .ok (.iload_n 2, 1) := by decide +kernel
theorem dX7_rowsJoined_21 : decode cX7_rowsJoined 21 = .ok (.if_icmp .lt 23, 3) := by decide +kernel
theorem dX7_rowsJoined_24 : decode cX7_rowsJoined 24 = .ok (.lload 5, 2) := by decide +kernel
theorem dX7_rowsJoined_26 : decode cX7_rowsJoined 26 = .ok (.lload 7, 2) := by decide +kernel
theorem dX7_rowsJoined_28 : decode cX7_rowsJoined 28 = .ok (.lload 9, 2) := by decide +kernel
theorem dX7_rowsJoined_30 : decode cX7_rowsJoined 30 = .ok (.lmul, 1) := by decide +kernel
theorem dX7_rowsJoined_31 : decode cX7_rowsJoined 31 = .ok (.aload_n 0, 1) := by decide +kernel
theorem dX7_rowsJoined_32 : decode cX7_rowsJoined 32 = .ok (.getfield 51, 3) := by decide +kernel
theorem dX7_rowsJoined_35 : decode cX7_rowsJoined 35 = .ok (.iload_n 1, 1) := by decide +kernel
theorem dX7_rowsJoined_36 : decode cX7_rowsJoined 36 = .ok (.iload 11, 2) := by decide +kernel
theorem dX7_rowsJoined_38 : decode cX7_rowsJoined 38 = .ok (.isub, 1) := by decide +kernel
theorem dX7_rowsJoined_39 : decode cX7_rowsJoined 39 = .ok (.laload, 1) := by decide +kernel
theorem dX7_rowsJoined_40 : decode cX7_rowsJoined 40 = .ok (.lmul, 1) := by decide +kernel
theorem dX7_rowsJoined_41 : decode cX7_rowsJoined 41 = .ok (.ladd, 1) := by decide +kernel
theorem dX7_rowsJoined_42 : decode cX7_rowsJoined 42 = .ok (.lstore 5, 2) := by decide +kernel
theorem dX7_rowsJoined_44 : decode cX7_rowsJoined 44 = .ok (.lload 7, 2) := by decide +kernel
theorem dX7_rowsJoined_46 : decode cX7_rowsJoined 46 = .ok (.iload_n 1, 1) := by decide +kernel
theorem dX7_rowsJoined_47 : decode cX7_rowsJoined 47 = .ok (.iload 11, 2) := by decide +kernel
theorem dX7_rowsJoined_49 : decode cX7_rowsJoined 49 = .ok (.isub, 1) := by decide +kernel
theorem dX7_rowsJoined_50 : decode cX7_rowsJoined 50 = .ok (.i2l, 1) := by decide +kernel
theorem dX7_rowsJoined_51 : decode cX7_rowsJoined 51 = .ok (.lmul, 1) := by decide +kernel
theorem dX7_rowsJoined_52 : decode cX7_rowsJoined 52 = .ok (.iload 11, 2) := by decide +kernel
theorem dX7_rowsJoined_54 : decode cX7_rowsJoined 54 = .ok (.iconst 1, 1) := by decide +kernel
theorem dX7_rowsJoined_55 : decode cX7_rowsJoined 55 = .ok (.iadd, 1) := by decide +kernel
theorem dX7_rowsJoined_56 : decode cX7_rowsJoined 56 = .ok (.i2l, 1) := by decide +kernel
theorem dX7_rowsJoined_57 : decode cX7_rowsJoined 57 = .ok (.ldiv, 1) := by decide +kernel
theorem dX7_rowsJoined_58 : decode cX7_rowsJoined 58 = .ok (.lstore 7, 2) := by decide +kernel
theorem dX7_rowsJoined_60 : decode cX7_rowsJoined 60 = .ok (.lload 9, 2) := by decide +kernel
theorem dX7_rowsJoined_62 : decode cX7_rowsJoined 62 = .ok (.lload_n 3, 1) := by decide +kernel
theorem dX7_rowsJoined_63 : decode cX7_rowsJoined 63 = .ok (.lmul, 1) := by decide +kernel
theorem dX7_rowsJoined_64 : decode cX7_rowsJoined 64 = .ok (.lstore 9, 2) := by decide +kernel
theorem dX7_rowsJoined_66 : decode cX7_rowsJoined 66 = .ok (.iinc 11 1, 3) := by decide +kernel
theorem dX7_rowsJoined_69 : decode cX7_rowsJoined 69 = .ok (.goto (-57), 3) := by decide +kernel
theorem dX7_rowsJoined_72 : decode cX7_rowsJoined 72 = .ok (.lload 5, 2) := by decide +kernel
theorem dX7_rowsJoined_74 : decode cX7_rowsJoined 74 = .ok (.lreturn, 1) := by decide +kernel
theorem dX8_init_0 : decode cX8_init 0 = .ok (.aload_n 0, 1) := by decide +kernel
theorem dX8_init_1 : decode cX8_init 1 = .ok (.invokespecial 3, 3) := by decide +kernel
theorem dX8_init_4 : decode cX8_init 4 = .ok (.aload_n 0, 1) := by decide +kernel
theorem dX8_init_5 : decode cX8_init 5 = .ok (.sipush 570, 3) := by decide +kernel
theorem dX8_init_8 : decode cX8_init 8 = .ok (.newarray .int, 2) := by decide +kernel
theorem dX8_init_10 : decode cX8_init 10 = .ok (.putfield 9, 3) := by decide +kernel
theorem dX8_init_13 : decode cX8_init 13 = .ok (.aload_n 0, 1) := by decide +kernel
theorem dX8_init_14 : decode cX8_init 14 = .ok (.iconst 2, 1) := by decide +kernel
theorem dX8_init_15 : decode cX8_init 15 = .ok (.newarray .int, 2) := by decide +kernel
theorem dX8_init_17 : decode cX8_init 17 = .ok (.putfield 13, 3) := by decide +kernel
theorem dX8_init_20 : decode cX8_init 20 = .ok (.aload_n 0, 1) := by decide +kernel
theorem dX8_init_21 : decode cX8_init 21 = .ok (.bipush 20, 2) := by decide +kernel
theorem dX8_init_23 : decode cX8_init 23 = .ok (.newarray .int, 2) := by decide +kernel
theorem dX8_init_25 : decode cX8_init 25 = .ok (.putfield 16, 3) := by decide +kernel
theorem dX8_init_28 : decode cX8_init 28 = .ok (.aload_n 0, 1) := by decide +kernel
theorem dX8_init_29 : decode cX8_init 29 = .ok (.bipush 20, 2) := by decide +kernel
theorem dX8_init_31 : decode cX8_init 31 = .ok (.newarray .int, 2) := by decide +kernel
theorem dX8_init_33 : decode cX8_init 33 = .ok (.putfield 19, 3) := by decide +kernel
theorem dX8_init_36 : decode cX8_init 36 = .ok (.aload_n 0, 1) := by decide +kernel
theorem dX8_init_37 : decode cX8_init 37 = .ok (.bipush 9, 2) := by decide +kernel
theorem dX8_init_39 : decode cX8_init 39 = .ok (.newarray .int, 2) := by decide +kernel
theorem dX8_init_41 : decode cX8_init 41 = .ok (.putfield 22, 3) := by decide +kernel
theorem dX8_init_44 : decode cX8_init 44 = .ok (.aload_n 0, 1) := by decide +kernel
theorem dX8_init_45 : decode cX8_init 45 = .ok (.bipush 40, 2) := by decide +kernel
theorem dX8_init_47 : decode cX8_init 47 = .ok (.newarray .int, 2) := by decide +kernel
theorem dX8_init_49 : decode cX8_init 49 = .ok (.putfield 25, 3) := by decide +kernel
theorem dX8_init_52 : decode cX8_init 52 = .ok (.aload_n 0, 1) := by decide +kernel
theorem dX8_init_53 : decode cX8_init 53 = .ok (.bipush 40, 2) := by decide +kernel
theorem dX8_init_55 : decode cX8_init 55 = .ok (.newarray .int, 2) := by decide +kernel
theorem dX8_init_57 : decode cX8_init 57 = .ok (.putfield 28, 3) := by decide +kernel
theorem dX8_init_60 : decode cX8_init 60 = .ok (.aload_n 0, 1) := by decide +kernel
theorem dX8_init_61 : decode cX8_init 61 = .ok (.bipush 9, 2) := by decide +kernel
theorem dX8_init_63 : decode cX8_init 63 = .ok (.newarray .int, 2) := by decide +kernel
theorem dX8_init_65 : decode cX8_init 65 = .ok (.putfield 31, 3) := by decide +kernel
theorem dX8_init_68 : decode cX8_init 68 = .ok (.aload_n 0, 1) := by decide +kernel
theorem dX8_init_69 : decode cX8_init 69 = .ok (.bipush 9, 2) := by decide +kernel
theorem dX8_init_71 : decode cX8_init 71 = .ok (.newarray .long, 2) := by decide +kernel
theorem dX8_init_73 : decode cX8_init 73 = .ok (.putfield 34, 3) := by decide +kernel
theorem dX8_init_76 : decode cX8_init 76 = .ok (.aload_n 0, 1) := by decide +kernel
theorem dX8_init_77 : decode cX8_init 77 = .ok (.bipush 6, 2) := by decide +kernel
theorem dX8_init_79 : decode cX8_init 79 = .ok (.newarray .int, 2) := by decide +kernel
theorem dX8_init_81 : decode cX8_init 81 = .ok (.putfield 38, 3) := by decide +kernel
theorem dX8_init_84 : decode cX8_init 84 = .ok (.aload_n 0, 1) := by decide +kernel
theorem dX8_init_85 : decode cX8_init 85 = .ok (.sipush 256, 3) := by decide +kernel
theorem dX8_init_88 : decode cX8_init 88 = .ok (.newarray .long, 2) := by decide +kernel
theorem dX8_init_90 : decode cX8_init 90 = .ok (.putfield 41, 3) := by decide +kernel
theorem dX8_init_93 : decode cX8_init 93 = .ok (.aload_n 0, 1) := by decide +kernel
theorem dX8_init_94 : decode cX8_init 94 = .ok (.sipush 256, 3) := by decide +kernel
theorem dX8_init_97 : decode cX8_init 97 = .ok (.newarray .long, 2) := by decide +kernel
theorem dX8_init_99 : decode cX8_init 99 = .ok (.putfield 44, 3) := by decide +kernel
theorem dX8_init_102 : decode cX8_init 102 = .ok (.aload_n 0, 1) := by decide +kernel
theorem dX8_init_103 : decode cX8_init 103 = .ok (.getfield 9, 3) := by decide +kernel
theorem dX8_init_106 : decode cX8_init 106 = .ok (.iconst 0, 1) := by decide +kernel
theorem dX8_init_107 : decode cX8_init 107 = .ok (.iconst 1, 1) := by decide +kernel
theorem dX8_init_108 : decode cX8_init 108 = .ok (.iastore, 1) := by decide +kernel
theorem dX8_init_109 : decode cX8_init 109 = .ok (.return_, 1) := by decide +kernel
theorem dX8_in_0 : decode cX8_in 0 = .ok (.iload_n 0, 1) := by decide +kernel
theorem dX8_in_1 : decode cX8_in 1 = .ok (.iload_n 1, 1) := by decide +kernel
theorem dX8_in_2 : decode cX8_in 2 = .ok (.if_icmp .lt 12, 3) := by decide +kernel
theorem dX8_in_5 : decode cX8_in 5 = .ok (.iload_n 0, 1) := by decide +kernel
theorem dX8_in_6 : decode cX8_in 6 = .ok (.iload_n 2, 1) := by decide +kernel
theorem dX8_in_7 : decode cX8_in 7 = .ok (.if_icmp .gt 7, 3) := by decide +kernel
theorem dX8_in_10 : decode cX8_in 10 = .ok (.iconst 1, 1) := by decide +kernel
theorem dX8_in_11 : decode cX8_in 11 = .ok (.goto 4, 3) := by decide +kernel
theorem dX8_in_14 : decode cX8_in 14 = .ok (.iconst 0, 1) := by decide +kernel
theorem dX8_in_15 : decode cX8_in 15 = .ok (.ireturn, 1) := by decide +kernel
theorem dX8_has_0 : decode cX8_has 0 = .ok (.iload_n 0, 1) := by decide +kernel
theorem dX8_has_1 : decode cX8_has 1 = .ok (.iload_n 1, 1) := by decide +kernel
theorem dX8_has_2 : decode cX8_has 2 = .ok (.ishr, 1) := by decide +kernel
theorem dX8_has_3 : decode cX8_has 3 = .ok (.iconst 1, 1) := by decide +kernel
theorem dX8_has_4 : decode cX8_has 4 = .ok (.iand, 1) := by decide +kernel
theorem dX8_has_5 : decode cX8_has 5 = .ok (.iconst 1, 1) := by decide +kernel
theorem dX8_has_6 : decode cX8_has 6 = .ok (.if_icmp .ne 7, 3) := by decide +kernel
theorem dX8_has_9 : decode cX8_has 9 = .ok (.iconst 1, 1) := by decide +kernel
theorem dX8_has_10 : decode cX8_has 10 = .ok (.goto 4, 3) := by decide +kernel
theorem dX8_has_13 : decode cX8_has 13 = .ok (.iconst 0, 1) := by decide +kernel
theorem dX8_has_14 : decode cX8_has 14 = .ok (.ireturn, 1) := by decide +kernel
theorem dX8_copyRow_0 : decode cX8_copyRow 0 = .ok (.iconst 0, 1) := by decide +kernel
theorem dX8_copyRow_1 : decode cX8_copyRow 1 = .ok (.istore_n 3, 1) := by decide +kernel
theorem dX8_copyRow_2 : decode cX8_copyRow 2 = .ok (.iload_n 3, 1) := by decide +kernel
theorem dX8_copyRow_3 : decode cX8_copyRow 3 = .ok (.bipush 30, 2) := by decide +kernel
theorem dX8_copyRow_5 : decode cX8_copyRow 5 = .ok (.if_icmp .ge 25, 3) := by decide +kernel
theorem dX8_copyRow_8 : decode cX8_copyRow 8 = .ok (.aload_n 0, 1) := by decide +kernel
theorem dX8_copyRow_9 : decode cX8_copyRow 9 = .ok (.getfield 9, 3) := by decide +kernel
theorem dX8_copyRow_12 : decode cX8_copyRow 12 = .ok (.iload_n 2, 1) := by decide +kernel
theorem dX8_copyRow_13 : decode cX8_copyRow 13 = .ok (.iload_n 3, 1) := by decide +kernel
theorem dX8_copyRow_14 : decode cX8_copyRow 14 = .ok (.iadd, 1) := by decide +kernel
theorem dX8_copyRow_15 : decode cX8_copyRow 15 = .ok (.aload_n 0, 1) := by decide +kernel
theorem dX8_copyRow_16 : decode cX8_copyRow 16 = .ok (.getfield 9, 3) := by decide +kernel
theorem dX8_copyRow_19 : decode cX8_copyRow 19 = .ok (.iload_n 1, 1) := by decide +kernel
theorem dX8_copyRow_20 : decode cX8_copyRow 20 = .ok (.iload_n 3, 1) := by decide +kernel
theorem dX8_copyRow_21 : decode cX8_copyRow 21 = .ok (.iadd, 1) := by decide +kernel
theorem dX8_copyRow_22 : decode cX8_copyRow 22 = .ok (.iaload, 1) := by decide +kernel
theorem dX8_copyRow_23 : decode cX8_copyRow 23 = .ok (.iastore, 1) := by decide +kernel
theorem dX8_copyRow_24 : decode cX8_copyRow 24 = .ok (.iinc 3 1, 3) := by decide +kernel
theorem dX8_copyRow_27 : decode cX8_copyRow 27 = .ok (.goto (-25), 3) := by decide +kernel
theorem dX8_copyRow_30 : decode cX8_copyRow 30 = .ok (.return_, 1) := by decide +kernel
set_option maxRecDepth 20000 in
theorem ggX8_isNode_X8_in : GoodIn wsX8_isNode wsX8_in := goodIn_r _ [5] (by decide +kernel) (by decide +kernel)
set_option maxRecDepth 20000 in
theorem gX8_isNode_X8_in : GoodIn wsX8_isNode (va_wsS RX8 47 yX8_in wsX8_in) := goodIn_app (goodIn_of _ (by decide +kernel)) ggX8_isNode_X8_in
theorem dX8_isNode_0 : decode cX8_isNode 0 = .ok (.iload_n 1, 1) := by decide +kernel
theorem dX8_isNode_1 : decode cX8_isNode 1 = .ok (.iconst 0, 1) := by decide +kernel
theorem dX8_isNode_2 : decode cX8_isNode 2 = .ok (.aload_n 0, 1) := by decide +kernel
theorem dX8_isNode_3 : decode cX8_isNode 3 = .ok (.getfield 9, 3) := by decide +kernel
theorem dX8_isNode_6 : decode cX8_isNode 6 = .ok (.iconst 0, 1) := by decide +kernel
theorem dX8_isNode_7 : decode cX8_isNode 7 = .ok (.iaload, 1) := by decide +kernel
theorem dX8_isNode_8 : decode cX8_isNode 8 = .ok (.iconst 1, 1) := by decide +kernel
theorem dX8_isNode_9 : decode cX8_isNode 9 = .ok (.isub, 1) := by decide +kernel
theorem dX8_isNode_10 : decode cX8_isNode 10 = .ok (.invokestatic 47, 3) := by decide +kernel
theorem dX8_isNode_13 : decode cX8_isNode 13 = .ok (.ireturn, 1) := by decide +kernel
set_option maxRecDepth 20000 in
theorem ggX8_isLinked_X8_isNode : GoodIn wsX8_isLinked wsX8_isNode := goodIn_r _ [6, 1, 7, 8, 5, 9, 13, 14, 15, 16, 17, 18, 19, 20, 21, 22, 23, 24, 25, 26, 27, 28, 29] (by decide +kernel) (by decide +kernel)
set_option maxRecDepth 20000 in
theorem gX8_isLinked_X8_isNode : GoodIn wsX8_isLinked (wsV RX8 51 RX8 yX8_isNode wsX8_isNode) := goodIn_app (goodIn_of _ (by decide +kernel)) ggX8_isLinked_X8_isNode
set_option maxRecDepth 20000 in
theorem ggX8_isLinked_X8_has : GoodIn wsX8_isLinked wsX8_has := goodIn_r _ [12] (by decide +kernel) (by decide +kernel)
set_option maxRecDepth 20000 in
theorem gX8_isLinked_X8_has : GoodIn wsX8_isLinked (va_wsS RX8 55 yX8_has wsX8_has) := goodIn_app (goodIn_of _ (by decide +kernel)) ggX8_isLinked_X8_has
theorem dX8_isLinked_0 : decode cX8_isLinked 0 = .ok (.aload_n 0, 1) := by decide +kernel
theorem dX8_isLinked_1 : decode cX8_isLinked 1 = .ok (.iload_n 1, 1) := by decide +kernel
theorem dX8_isLinked_2 : decode cX8_isLinked 2 = .ok (.invokevirtual 51, 3) := by decide +kernel
theorem dX8_isLinked_5 : decode cX8_isLinked 5 = .ok (.ifCond .eq 30, 3) := by decide +kernel
theorem dX8_isLinked_8 : decode cX8_isLinked 8 = .ok (.aload_n 0, 1) := by decide +kernel
theorem dX8_isLinked_9 : decode cX8_isLinked 9 = .ok (.iload_n 2, 1) := by decide +kernel
theorem dX8_isLinked_10 : decode cX8_isLinked 10 = .ok (.invokevirtual 51, 3) := by decide +kernel
theorem dX8_isLinked_13 : decode cX8_isLinked 13 = .ok (.ifCond .eq 22, 3) := by decide +kernel
theorem dX8_isLinked_16 : decode cX8_isLinked 16 = .ok (.aload_n 0, 1) := by decide +kernel
theorem dX8_isLinked_17 : decode cX8_isLinked 17 = .ok (.getfield 9, 3) := by decide +kernel
theorem dX8_isLinked_20 : decode cX8_isLinked 20 = .ok (.iconst 3, 1) := by decide +kernel
theorem dX8_isLinked_21 : decode cX8_isLinked 21 = .ok (.iload_n 1, 1) := by decide +kernel
theorem dX8_isLinked_22 : decode cX8_isLinked 22 = .ok (.iadd, 1) := by decide +kernel
theorem dX8_isLinked_23 : decode cX8_isLinked 23 = .ok (.iaload, 1) := by decide +kernel
theorem dX8_isLinked_24 : decode cX8_isLinked 24 = .ok (.iload_n 2, 1) := by decide +kernel
theorem dX8_isLinked_25 : decode cX8_isLinked 25 = .ok (.invokestatic 55, 3) := by decide +kernel
theorem dX8_isLinked_28 : decode cX8_isLinked 28 = .ok (.ifCond .eq 7, 3) := by decide +kernel
theorem dX8_isLinked_31 : decode cX8_isLinked 31 = .ok (.iconst 1, 1) := by decide +kernel
theorem dX8_isLinked_32 : decode cX8_isLinked 32 = .ok (.goto 4, 3) := by decide +kernel
theorem dX8_isLinked_35 : decode cX8_isLinked 35 = .ok (.iconst 0, 1) := by decide +kernel
theorem dX8_isLinked_36 : decode cX8_isLinked 36 = .ok (.ireturn, 1) := by decide +kernel
set_option maxRecDepth 20000 in
theorem ggX8_ones_X8_has : GoodIn wsX8_ones wsX8_has := goodIn_r _ [4] (by decide +kernel) (by decide +kernel)
set_option maxRecDepth 20000 in
theorem gX8_ones_X8_has : GoodIn wsX8_ones (va_wsS RX8 55 yX8_has wsX8_has) := goodIn_app (goodIn_of _ (by decide +kernel)) ggX8_ones_X8_has
theorem dX8_ones_0 : decode cX8_ones 0 = .ok (.iconst 0, 1) := by decide +kernel
theorem dX8_ones_1 : decode cX8_ones 1 = .ok (.istore_n 1, 1) := by decide +kernel
theorem dX8_ones_2 : decode cX8_ones 2 = .ok (.iconst 0, 1) := by decide +kernel
theorem dX8_ones_3 : decode cX8_ones 3 = .ok (.istore_n 2, 1) := by decide +kernel
theorem dX8_ones_4 : decode cX8_ones 4 = .ok (.iload_n 2, 1) := by decide +kernel
theorem dX8_ones_5 : decode cX8_ones 5 = .ok (.bipush 16, 2) := by decide +kernel
theorem dX8_ones_7 : decode cX8_ones 7 = .ok (.if_icmp .ge 25, 3) := by decide +kernel
theorem dX8_ones_10 : decode cX8_ones 10 = .ok (.iload_n 1, 1) := by decide +kernel
theorem dX8_ones_11 : decode cX8_ones 11 = .ok (.iload_n 0, 1) := by decide +kernel
theorem dX8_ones_12 : decode cX8_ones 12 = .ok (.iload_n 2, 1) := by decide +kernel
theorem dX8_ones_13 : decode cX8_ones 13 = .ok (.invokestatic 55, 3) := by decide +kernel
theorem dX8_ones_16 : decode cX8_ones 16 = .ok (.ifCond .eq 7, 3) := by decide +kernel
theorem dX8_ones_19 : decode cX8_ones 19 = .ok (.iconst 1, 1) := by decide +kernel
theorem dX8_ones_20 : decode cX8_ones 20 = .ok (.goto 4, 3) := by decide +kernel
theorem dX8_ones_23 : decode cX8_ones 23 = .ok (.iconst 0, 1) := by decide +kernel
theorem dX8_ones_24 : decode cX8_ones 24 = .ok (.iadd, 1) := by decide +kernel
theorem dX8_ones_25 : decode cX8_ones 25 = .ok (.istore_n 1, 1) := by decide +kernel
theorem dX8_ones_26 : decode cX8_ones 26 = .ok (.iinc 2 1, 3) := by decide +kernel
theorem dX8_ones_29 : decode cX8_ones 29 = .ok (.goto (-25), 3) := by decide +kernel
theorem dX8_ones_32 : decode cX8_ones 32 = .ok (.iload_n 1, 1) := by decide +kernel
theorem dX8_ones_33 : decode cX8_ones 33 = .ok (.ireturn, 1) := by decide +kernel
theorem dX8_markOf_0 : decode cX8_markOf 0 = .ok (.iload_n 1, 1) := by decide +kernel
theorem dX8_markOf_1 : decode cX8_markOf 1 = .ok (.iconst 1, 1) := by decide +kernel
theorem dX8_markOf_2 : decode cX8_markOf 2 = .ok (.iadd, 1) := by decide +kernel
theorem dX8_markOf_3 : decode cX8_markOf 3 = .ok (.i2l, 1) := by decide +kernel
theorem dX8_markOf_4 : decode cX8_markOf 4 = .ok (.ldc2_w 59, 3) := by decide +kernel
theorem dX8_markOf_7 : decode cX8_markOf 7 = .ok (.aload_n 0, 1) := by decide +kernel
theorem dX8_markOf_8 : decode cX8_markOf 8 = .ok (.getfield 9, 3) := by decide +kernel
theorem dX8_markOf_11 : decode cX8_markOf 11 = .ok (.iconst 1, 1) := by decide +kernel
theorem dX8_markOf_12 : decode cX8_markOf 12 = .ok (.iaload, 1) := by decide +kernel
theorem dX8_markOf_13 : decode cX8_markOf 13 = .ok (.i2l, 1) := by decide +kernel
theorem dX8_markOf_14 : decode cX8_markOf 14 = .ok (.lmul, 1) := by decide +kernel
theorem dX8_markOf_15 : decode cX8_markOf 15 = .ok (.lconst 1, 1) := by decide +kernel
theorem dX8_markOf_16 : decode cX8_markOf 16 = .ok (.ladd, 1) := by decide +kernel
theorem dX8_markOf_17 : decode cX8_markOf 17 = .ok (.lmul, 1) := by decide +kernel
theorem dX8_markOf_18 : decode cX8_markOf 18 = .ok (.ldc2_w 61, 3) := by decide +kernel
theorem dX8_markOf_21 : decode cX8_markOf 21 = .ok (.lmul, 1) := by decide +kernel
theorem dX8_markOf_22 : decode cX8_markOf 22 = .ok (.ldc2_w 63, 3) := by decide +kernel
theorem dX8_markOf_25 : decode cX8_markOf 25 = .ok (.lrem, 1) := by decide +kernel
theorem dX8_markOf_26 : decode cX8_markOf 26 = .ok (.lstore_n 2, 1) := by decide +kernel
theorem dX8_markOf_27 : decode cX8_markOf 27 = .ok (.lload_n 2, 1) := by decide +kernel
theorem dX8_markOf_28 : decode cX8_markOf 28 = .ok (.ldc2_w 65, 3) := by decide +kernel
theorem dX8_markOf_31 : decode cX8_markOf 31 = .ok (.ldiv, 1) := by decide +kernel
theorem dX8_markOf_32 : decode cX8_markOf 32 = .ok (.l2i, 1) := by decide +kernel
theorem dX8_markOf_33 : decode cX8_markOf 33 = .ok (.ireturn, 1) := by decide +kernel
set_option maxRecDepth 20000 in
theorem ggX8_rankOf_X8_markOf : GoodIn wsX8_rankOf wsX8_markOf := goodIn_r _ [5, 6, 7, 8, 9, 10, 11, 12, 13, 14, 15, 16, 17, 18, 19, 20, 21, 22, 23, 24, 25, 26, 27] (by decide +kernel) (by decide +kernel)
set_option maxRecDepth 20000 in
theorem gX8_rankOf_X8_markOf : GoodIn wsX8_rankOf (wsV RX8 67 RX8 yX8_markOf wsX8_markOf) := goodIn_app (goodIn_of _ (by decide +kernel)) ggX8_rankOf_X8_markOf
theorem dX8_rankOf_0 : decode cX8_rankOf 0 = .ok (.aload_n 0, 1) := by decide +kernel
theorem dX8_rankOf_1 : decode cX8_rankOf 1 = .ok (.iload_n 1, 1) := by decide +kernel
theorem dX8_rankOf_2 : decode cX8_rankOf 2 = .ok (.invokevirtual 67, 3) := by decide +kernel
theorem dX8_rankOf_5 : decode cX8_rankOf 5 = .ok (.istore_n 2, 1) := by decide +kernel
theorem dX8_rankOf_6 : decode cX8_rankOf 6 = .ok (.iconst 0, 1) := by decide +kernel
theorem dX8_rankOf_7 : decode cX8_rankOf 7 = .ok (.istore_n 3, 1) := by decide +kernel
theorem dX8_rankOf_8 : decode cX8_rankOf 8 = .ok (.iload_n 3, 1) := by decide +kernel
theorem dX8_rankOf_9 : decode cX8_rankOf 9 = .ok (.bipush 7, 2) := by decide +kernel
theorem dX8_rankOf_11 : decode cX8_rankOf 11 = .ok (.if_icmp .ge 19, 3) := by decide +kernel
theorem dX8_rankOf_14 : decode cX8_rankOf 14 = .ok (.iload_n 2, 1) := by decide +kernel
theorem dX8_rankOf_15 : decode cX8_rankOf 15 = .ok (.iconst 2, 1) := by decide +kernel
theorem dX8_rankOf_16 : decode cX8_rankOf 16 = .ok (.irem, 1) := by decide +kernel
theorem dX8_rankOf_17 : decode cX8_rankOf 17 = .ok (.ifCond .ne 13, 3) := by decide +kernel
theorem dX8_rankOf_20 : decode cX8_rankOf 20 = .ok (.iload_n 2, 1) := by decide +kernel
theorem dX8_rankOf_21 : decode cX8_rankOf 21 = .ok (.iconst 2, 1) := by decide +kernel
theorem dX8_rankOf_22 : decode cX8_rankOf 22 = .ok (.idiv, 1) := by decide +kernel
theorem dX8_rankOf_23 : decode cX8_rankOf 23 = .ok (.istore_n 2, 1) := by decide +kernel
theorem dX8_rankOf_24 : decode cX8_rankOf 24 = .ok (.iinc 3 1, 3) := by decide +kernel
theorem dX8_rankOf_27 : decode cX8_rankOf 27 = .ok (.goto (-19), 3) := by decide +kernel
theorem dX8_rankOf_30 : decode cX8_rankOf 30 = .ok (.iload_n 3, 1) := by decide +kernel
theorem dX8_rankOf_31 : decode cX8_rankOf 31 = .ok (.ireturn, 1) := by decide +kernel
set_option maxRecDepth 20000 in
theorem ggX8_spread_X8_has : GoodIn wsX8_spread wsX8_has := goodIn_r _ [6] (by decide +kernel) (by decide +kernel)
set_option maxRecDepth 20000 in
theorem gX8_spread_X8_has : GoodIn wsX8_spread (va_wsS RX8 55 yX8_has wsX8_has) := goodIn_app (goodIn_of _ (by decide +kernel)) ggX8_spread_X8_has
theorem dX8_spread_0 : decode cX8_spread 0 = .ok (.iconst 0, 1) := by decide +kernel
theorem dX8_spread_1 : decode cX8_spread 1 = .ok (.istore_n 2, 1) := by decide +kernel
theorem dX8_spread_2 : decode cX8_spread 2 = .ok (.iconst 0, 1) := by decide +kernel
theorem dX8_spread_3 : decode cX8_spread 3 = .ok (.istore_n 3, 1) := by decide +kernel
theorem dX8_spread_4 : decode cX8_spread 4 = .ok (.iload_n 3, 1) := by decide +kernel
theorem dX8_spread_5 : decode cX8_spread 5 = .ok (.aload_n 0, 1) := by decide +kernel
theorem dX8_spread_6 : decode cX8_spread 6 = .ok (.getfield 9, 3) := by decide +kernel
theorem dX8_spread_9 : decode cX8_spread 9 = .ok (.iconst 0, 1) := by decide +kernel
theorem dX8_spread_10 : decode cX8_spread 10 = .ok (.iaload, 1) := by decide +kernel
theorem dX8_spread_11 : decode cX8_spread 11 = .ok (.if_icmp .ge 77, 3) := by decide +kernel
theorem dX8_spread_14 : decode cX8_spread 14 = .ok (.iconst 0, 1) := by decide +kernel
theorem dX8_spread_15 : decode cX8_spread 15 = .ok (.istore 4, 2) := by decide +kernel
theorem dX8_spread_17 : decode cX8_spread 17 = .ok (.iload 4, 2) := by decide +kernel
theorem dX8_spread_19 : decode cX8_spread 19 = .ok (.aload_n 0, 1) := by decide +kernel
theorem dX8_spread_20 : decode cX8_spread 20 = .ok (.getfield 9, 3) := by decide +kernel
theorem dX8_spread_23 : decode cX8_spread 23 = .ok (.iconst 0, 1) := by decide +kernel
theorem dX8_spread_24 : decode cX8_spread 24 = .ok (.iaload, 1) := by decide +kernel
theorem dX8_spread_25 : decode cX8_spread 25 = .ok (.if_icmp .ge 57, 3) := by decide +kernel
theorem dX8_spread_28 : decode cX8_spread 28 = .ok (.aload_n 0, 1) := by decide +kernel
theorem dX8_spread_29 : decode cX8_spread 29 = .ok (.getfield 22, 3) := by decide +kernel
theorem dX8_spread_32 : decode cX8_spread 32 = .ok (.iload_n 3, 1) := by decide +kernel
theorem dX8_spread_33 : decode cX8_spread 33 = .ok (.iaload, 1) := by decide +kernel
theorem dX8_spread_34 : decode cX8_spread 34 = .ok (.iconst (-1), 1) := by decide +kernel
theorem dX8_spread_35 : decode cX8_spread 35 = .ok (.if_icmp .ne 47, 3) := by decide +kernel
theorem dX8_spread_38 : decode cX8_spread 38 = .ok (.aload_n 0, 1) := by decide +kernel
theorem dX8_spread_39 : decode cX8_spread 39 = .ok (.getfield 9, 3) := by decide +kernel
theorem dX8_spread_42 : decode cX8_spread 42 = .ok (.iconst 3, 1) := by decide +kernel
theorem dX8_spread_43 : decode cX8_spread 43 = .ok (.iload_n 3, 1) := by decide +kernel
theorem dX8_spread_44 : decode cX8_spread 44 = .ok (.iadd, 1) := by decide +kernel
theorem dX8_spread_45 : decode cX8_spread 45 = .ok (.iaload, 1) := by decide +kernel
theorem dX8_spread_46 : decode cX8_spread 46 = .ok (.iload 4, 2) := by decide +kernel
theorem dX8_spread_48 : decode cX8_spread 48 = .ok (.invokestatic 55, 3) := by decide +kernel
theorem dX8_spread_51 : decode cX8_spread 51 = .ok (.ifCond .eq 25, 3) := by decide +kernel
theorem dX8_spread_54 : decode cX8_spread 54 = .ok (.aload_n 0, 1) := by decide +kernel
theorem dX8_spread_55 : decode cX8_spread 55 = .ok (.getfield 22, 3) := by decide +kernel
theorem dX8_spread_58 : decode cX8_spread 58 = .ok (.iload 4, 2) := by decide +kernel
theorem dX8_spread_60 : decode cX8_spread 60 = .ok (.iaload, 1) := by decide +kernel
theorem dX8_spread_61 : decode cX8_spread 61 = .ok (.iload_n 1, 1) := by decide +kernel
theorem dX8_spread_62 : decode cX8_spread 62 = .ok (.if_icmp .ne 14, 3) := by decide +kernel
theorem dX8_spread_65 : decode cX8_spread 65 = .ok (.aload_n 0, 1) := by decide +kernel
theorem dX8_spread_66 : decode cX8_spread 66 = .ok (.getfield 22, 3) := by decide +kernel
theorem dX8_spread_69 : decode cX8_spread 69 = .ok (.iload_n 3, 1) := by decide +kernel
theorem dX8_spread_70 : decode cX8_spread 70 = .ok (.iload_n 1, 1) := by decide +kernel
theorem dX8_spread_71 : decode cX8_spread 71 = .ok (.iconst 1, 1) := by decide +kernel
theorem dX8_spread_72 : decode cX8_spread 72 = .ok (.iadd, 1) := by decide +kernel
theorem dX8_spread_73 : decode cX8_spread 73 = .ok (.iastore, 1) := by decide +kernel
theorem dX8_spread_74 : decode cX8_spread 74 = .ok (.iconst 1, 1) := by decide +kernel
theorem dX8_spread_75 : decode cX8_spread 75 = .ok (.istore_n 2, 1) := by decide +kernel
theorem dX8_spread_76 : decode cX8_spread 76 = .ok (.iinc 4 1, 3) := by decide +kernel
theorem dX8_spread_79 : decode cX8_spread 79 = .ok (.goto (-62), 3) := by decide +kernel
theorem dX8_spread_82 : decode cX8_spread 82 = .ok (.iinc 3 1, 3) := by decide +kernel
theorem dX8_spread_85 : decode cX8_spread 85 = .ok (.goto (-81), 3) := by decide +kernel
theorem dX8_spread_88 : decode cX8_spread 88 = .ok (.iload_n 2, 1) := by decide +kernel
theorem dX8_spread_89 : decode cX8_spread 89 = .ok (.ireturn, 1) := by decide +kernel
set_option maxRecDepth 20000 in
theorem ggX8_layRings_X8_spread : GoodIn wsX8_layRings wsX8_spread := goodIn_r _ [6, 7, 1, 8, 9, 5, 10, 11, 12, 13, 14, 15, 16, 17, 18, 19, 20, 21, 22, 23, 24, 25, 26, 27] (by decide +kernel) (by decide +kernel)
set_option maxRecDepth 20000 in
theorem gX8_layRings_X8_spread : GoodIn wsX8_layRings (wsV RX8 71 RX8 yX8_spread wsX8_spread) := goodIn_app (goodIn_of _ (by decide +kernel)) ggX8_layRings_X8_spread
theorem dX8_layRings_0 : decode cX8_layRings 0 = .ok (.iconst 0, 1) := by decide +kernel
theorem dX8_layRings_1 : decode cX8_layRings 1 = .ok (.istore_n 1, 1) := by decide +kernel
theorem dX8_layRings_2 : decode cX8_layRings 2 = .ok (.iload_n 1, 1) := by decide +kernel
theorem dX8_layRings_3 : decode cX8_layRings 3 = .ok (.bipush 9, 2) := by decide +kernel
theorem dX8_layRings_5 : decode cX8_layRings 5 = .ok (.if_icmp .ge 16, 3) := by decide +kernel
theorem dX8_layRings_8 : decode cX8_layRings 8 = .ok (.aload_n 0, 1) := by decide +kernel
theorem dX8_layRings_9 : decode cX8_layRings 9 = .ok (.getfield 22, 3) := by decide +kernel
theorem dX8_layRings_12 : decode cX8_layRings 12 = .ok (.iload_n 1, 1) := by decide +kernel
theorem dX8_layRings_13 : decode cX8_layRings 13 = .ok (.iconst (-1), 1) := by decide +kernel
theorem dX8_layRings_14 : decode cX8_layRings 14 = .ok (.iastore, 1) := by decide +kernel
theorem dX8_layRings_15 : decode cX8_layRings 15 = .ok (.iinc 1 1, 3) := by decide +kernel
theorem dX8_layRings_18 : decode cX8_layRings 18 = .ok (.goto (-16), 3) := by decide +kernel
theorem dX8_layRings_21 : decode cX8_layRings 21 = .ok (.aload_n 0, 1) := by decide +kernel
theorem dX8_layRings_22 : decode cX8_layRings 22 = .ok (.getfield 22, 3) := by decide +kernel
theorem dX8_layRings_25 : decode cX8_layRings 25 = .ok (.iconst 0, 1) := by decide +kernel
theorem dX8_layRings_26 : decode cX8_layRings 26 = .ok (.iconst 0, 1) := by decide +kernel
theorem dX8_layRings_27 : decode cX8_layRings 27 = .ok (.iastore, 1) := by decide +kernel
theorem dX8_layRings_28 : decode cX8_layRings 28 = .ok (.iconst 0, 1) := by decide +kernel
theorem dX8_layRings_29 : decode cX8_layRings 29 = .ok (.istore_n 1, 1) := by decide +kernel
theorem dX8_layRings_30 : decode cX8_layRings 30 = .ok (.iload_n 1, 1) := by decide +kernel
theorem dX8_layRings_31 : decode cX8_layRings 31 = .ok (.bipush 9, 2) := by decide +kernel
theorem dX8_layRings_33 : decode cX8_layRings 33 = .ok (.if_icmp .ge 17, 3) := by decide +kernel
theorem dX8_layRings_36 : decode cX8_layRings 36 = .ok (.aload_n 0, 1) := by decide +kernel
theorem dX8_layRings_37 : decode cX8_layRings 37 = .ok (.iload_n 1, 1) := by decide +kernel
theorem dX8_layRings_38 : decode cX8_layRings 38 = .ok (.invokevirtual 71, 3) := by decide +kernel
theorem dX8_layRings_41 : decode cX8_layRings 41 = .ok (.ifCond .eq 9, 3) := by decide +kernel
theorem dX8_layRings_44 : decode cX8_layRings 44 = .ok (.iinc 1 1, 3) := by decide +kernel
theorem dX8_layRings_47 : decode cX8_layRings 47 = .ok (.goto (-17), 3) := by decide +kernel
theorem dX8_layRings_50 : decode cX8_layRings 50 = .ok (.return_, 1) := by decide +kernel
set_option maxRecDepth 20000 in
theorem ggX8_upper_X8_has : GoodIn wsX8_upper wsX8_has := goodIn_r _ [6] (by decide +kernel) (by decide +kernel)
set_option maxRecDepth 20000 in
theorem gX8_upper_X8_has : GoodIn wsX8_upper (va_wsS RX8 55 yX8_has wsX8_has) := goodIn_app (goodIn_of _ (by decide +kernel)) ggX8_upper_X8_has
theorem dX8_upper_0 : decode cX8_upper 0 = .ok (.iconst 0, 1) := by decide +kernel
theorem dX8_upper_1 : decode cX8_upper 1 = .ok (.istore_n 2, 1) := by decide +kernel
theorem dX8_upper_2 : decode cX8_upper 2 = .ok (.iconst 0, 1) := by decide +kernel
theorem dX8_upper_3 : decode cX8_upper 3 = .ok (.istore_n 3, 1) := by decide +kernel
theorem dX8_upper_4 : decode cX8_upper 4 = .ok (.iload_n 3, 1) := by decide +kernel
theorem dX8_upper_5 : decode cX8_upper 5 = .ok (.aload_n 0, 1) := by decide +kernel
theorem dX8_upper_6 : decode cX8_upper 6 = .ok (.getfield 9, 3) := by decide +kernel
theorem dX8_upper_9 : decode cX8_upper 9 = .ok (.iconst 0, 1) := by decide +kernel
theorem dX8_upper_10 : decode cX8_upper 10 = .ok (.iaload, 1) := by decide +kernel
theorem dX8_upper_11 : decode cX8_upper 11 = .ok (.if_icmp .ge 60, 3) := by decide +kernel
