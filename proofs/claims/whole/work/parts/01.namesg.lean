theorem dX8_hear_27 : decode cX8_hear 27 = .ok (.invokevirtual 217, 3) := by decide +kernel
theorem dX8_hear_30 : decode cX8_hear 30 = .ok (.goto 5, 3) := by decide +kernel
theorem dX8_hear_33 : decode cX8_hear 33 = .ok (.ldc 179, 2) := by decide +kernel
theorem dX8_hear_35 : decode cX8_hear 35 = .ok (.ireturn, 1) := by decide +kernel
set_option maxRecDepth 20000 in
theorem ggX8_salt_X8_in : GoodIn wsX8_salt wsX8_in := goodIn_r _ [6] (by decide +kernel) (by decide +kernel)
set_option maxRecDepth 20000 in
theorem gX8_salt_X8_in : GoodIn wsX8_salt (va_wsS RX8 47 yX8_in wsX8_in) := goodIn_app (goodIn_of _ (by decide +kernel)) ggX8_salt_X8_in
set_option maxRecDepth 20000 in
theorem ggX8_salt_X8_put : GoodIn wsX8_salt wsX8_put := goodIn_r _ [10, 11, 12, 13, 14, 5, 15, 16, 17, 18, 19, 20, 21, 22, 23, 24, 25, 26, 27, 28, 29, 30, 31, 32, 33, 34, 35, 36, 37] (by decide +kernel) (by decide +kernel)
set_option maxRecDepth 20000 in
theorem gX8_salt_X8_put : GoodIn wsX8_salt (wsV RX8 217 RX8 yX8_put wsX8_put) := goodIn_app (goodIn_of _ (by decide +kernel)) ggX8_salt_X8_put
theorem dX8_salt_0 : decode cX8_salt 0 = .ok (.iload_n 1, 1) := by decide +kernel
theorem dX8_salt_1 : decode cX8_salt 1 = .ok (.iconst 0, 1) := by decide +kernel
theorem dX8_salt_2 : decode cX8_salt 2 = .ok (.ldc 210, 2) := by decide +kernel
theorem dX8_salt_4 : decode cX8_salt 4 = .ok (.invokestatic 47, 3) := by decide +kernel
theorem dX8_salt_7 : decode cX8_salt 7 = .ok (.ifCond .eq 12, 3) := by decide +kernel
theorem dX8_salt_10 : decode cX8_salt 10 = .ok (.aload_n 0, 1) := by decide +kernel
theorem dX8_salt_11 : decode cX8_salt 11 = .ok (.iconst 1, 1) := by decide +kernel
theorem dX8_salt_12 : decode cX8_salt 12 = .ok (.iload_n 1, 1) := by decide +kernel
theorem dX8_salt_13 : decode cX8_salt 13 = .ok (.invokevirtual 217, 3) := by decide +kernel
theorem dX8_salt_16 : decode cX8_salt 16 = .ok (.goto 5, 3) := by decide +kernel
theorem dX8_salt_19 : decode cX8_salt 19 = .ok (.ldc 179, 2) := by decide +kernel
theorem dX8_salt_21 : decode cX8_salt 21 = .ok (.ireturn, 1) := by decide +kernel
set_option maxRecDepth 20000 in
theorem ggX8_mode_X8_in : GoodIn wsX8_mode wsX8_in := goodIn_r _ [5] (by decide +kernel) (by decide +kernel)
set_option maxRecDepth 20000 in
theorem gX8_mode_X8_in : GoodIn wsX8_mode (va_wsS RX8 47 yX8_in wsX8_in) := goodIn_app (goodIn_of _ (by decide +kernel)) ggX8_mode_X8_in
set_option maxRecDepth 20000 in
theorem ggX8_mode_X8_put : GoodIn wsX8_mode wsX8_put := goodIn_r _ [9, 10, 11, 12, 13, 4, 14, 15, 16, 17, 18, 19, 20, 21, 22, 23, 24, 25, 26, 27, 28, 29, 30, 31, 32, 33, 34, 35, 36] (by decide +kernel) (by decide +kernel)
set_option maxRecDepth 20000 in
theorem gX8_mode_X8_put : GoodIn wsX8_mode (wsV RX8 217 RX8 yX8_put wsX8_put) := goodIn_app (goodIn_of _ (by decide +kernel)) ggX8_mode_X8_put
theorem dX8_mode_0 : decode cX8_mode 0 = .ok (.iload_n 1, 1) := by decide +kernel
theorem dX8_mode_1 : decode cX8_mode 1 = .ok (.iconst 0, 1) := by decide +kernel
theorem dX8_mode_2 : decode cX8_mode 2 = .ok (.iconst 1, 1) := by decide +kernel
theorem dX8_mode_3 : decode cX8_mode 3 = .ok (.invokestatic 47, 3) := by decide +kernel
theorem dX8_mode_6 : decode cX8_mode 6 = .ok (.ifCond .eq 12, 3) := by decide +kernel
theorem dX8_mode_9 : decode cX8_mode 9 = .ok (.aload_n 0, 1) := by decide +kernel
theorem dX8_mode_10 : decode cX8_mode 10 = .ok (.iconst 2, 1) := by decide +kernel
theorem dX8_mode_11 : decode cX8_mode 11 = .ok (.iload_n 1, 1) := by decide +kernel
theorem dX8_mode_12 : decode cX8_mode 12 = .ok (.invokevirtual 217, 3) := by decide +kernel
theorem dX8_mode_15 : decode cX8_mode 15 = .ok (.goto 5, 3) := by decide +kernel
theorem dX8_mode_18 : decode cX8_mode 18 = .ok (.ldc 179, 2) := by decide +kernel
theorem dX8_mode_20 : decode cX8_mode 20 = .ok (.ireturn, 1) := by decide +kernel
theorem dX8_draw_0 : decode cX8_draw 0 = .ok (.aload_n 0, 1) := by decide +kernel
theorem dX8_draw_1 : decode cX8_draw 1 = .ok (.getfield 176, 3) := by decide +kernel
theorem dX8_draw_4 : decode cX8_draw 4 = .ok (.i2l, 1) := by decide +kernel
theorem dX8_draw_5 : decode cX8_draw 5 = .ok (.ldc2_w 221, 3) := by decide +kernel
theorem dX8_draw_8 : decode cX8_draw 8 = .ok (.lmul, 1) := by decide +kernel
theorem dX8_draw_9 : decode cX8_draw 9 = .ok (.ldc2_w 223, 3) := by decide +kernel
theorem dX8_draw_12 : decode cX8_draw 12 = .ok (.ladd, 1) := by decide +kernel
theorem dX8_draw_13 : decode cX8_draw 13 = .ok (.ldc2_w 225, 3) := by decide +kernel
theorem dX8_draw_16 : decode cX8_draw 16 = .ok (.lrem, 1) := by decide +kernel
theorem dX8_draw_17 : decode cX8_draw 17 = .ok (.lstore_n 2, 1) := by decide +kernel
theorem dX8_draw_18 : decode cX8_draw 18 = .ok (.aload_n 0, 1) := by decide +kernel
theorem dX8_draw_19 : decode cX8_draw 19 = .ok (.lload_n 2, 1) := by decide +kernel
theorem dX8_draw_20 : decode cX8_draw 20 = .ok (.l2i, 1) := by decide +kernel
theorem dX8_draw_21 : decode cX8_draw 21 = .ok (.putfield 176, 3) := by decide +kernel
theorem dX8_draw_24 : decode cX8_draw 24 = .ok (.aload_n 0, 1) := by decide +kernel
theorem dX8_draw_25 : decode cX8_draw 25 = .ok (.getfield 176, 3) := by decide +kernel
theorem dX8_draw_28 : decode cX8_draw 28 = .ok (.ldc 227, 2) := by decide +kernel
theorem dX8_draw_30 : decode cX8_draw 30 = .ok (.idiv, 1) := by decide +kernel
theorem dX8_draw_31 : decode cX8_draw 31 = .ok (.iload_n 1, 1) := by decide +kernel
theorem dX8_draw_32 : decode cX8_draw 32 = .ok (.irem, 1) := by decide +kernel
theorem dX8_draw_33 : decode cX8_draw 33 = .ok (.ireturn, 1) := by decide +kernel
set_option maxRecDepth 20000 in
theorem ggX8_drift_X8_in : GoodIn wsX8_drift wsX8_in := goodIn_r _ [6] (by decide +kernel) (by decide +kernel)
set_option maxRecDepth 20000 in
theorem gX8_drift_X8_in : GoodIn wsX8_drift (va_wsS RX8 47 yX8_in wsX8_in) := goodIn_app (goodIn_of _ (by decide +kernel)) ggX8_drift_X8_in
set_option maxRecDepth 20000 in
theorem ggX8_drift_X8_remember : GoodIn wsX8_drift wsX8_remember := goodIn_r _ [10, 11, 12, 13, 14, 5, 15, 2, 44, 45, 46, 47, 48, 49, 50, 51, 52, 53, 54, 55, 56, 57, 58, 59, 60] (by decide +kernel) (by decide +kernel)
set_option maxRecDepth 20000 in
theorem gX8_drift_X8_remember : GoodIn wsX8_drift (wsV RX8 207 RX8 yX8_remember wsX8_remember) := goodIn_app (goodIn_of _ (by decide +kernel)) ggX8_drift_X8_remember
set_option maxRecDepth 20000 in
theorem ggX8_drift_X8_draw : GoodIn wsX8_drift wsX8_draw := goodIn_r _ [19, 20, 21, 22, 23, 24, 44, 45, 46, 47, 48, 49, 50, 51, 52, 53, 54, 55, 56, 57, 58, 59, 60] (by decide +kernel) (by decide +kernel)
set_option maxRecDepth 20000 in
theorem gX8_drift_X8_draw : GoodIn wsX8_drift (wsV RX8 228 RX8 yX8_draw wsX8_draw) := goodIn_app (goodIn_of _ (by decide +kernel)) ggX8_drift_X8_draw
set_option maxRecDepth 20000 in
theorem ggX8_drift_X8_truth : GoodIn wsX8_drift wsX8_truth := goodIn_r _ [28, 2, 29, 30, 31, 32, 5, 33, 34, 35, 36, 37, 38, 39, 40, 41, 42, 43, 44, 45, 46, 47, 48, 49, 50, 51, 52, 53, 54, 55, 56, 57, 58, 59, 60] (by decide +kernel) (by decide +kernel)
set_option maxRecDepth 20000 in
theorem gX8_drift_X8_truth : GoodIn wsX8_drift (wsV RX8 161 RX8 yX8_truth wsX8_truth) := goodIn_app (goodIn_of _ (by decide +kernel)) ggX8_drift_X8_truth
theorem dX8_drift_0 : decode cX8_drift 0 = .ok (.iload_n 1, 1) := by decide +kernel
theorem dX8_drift_1 : decode cX8_drift 1 = .ok (.iconst 1, 1) := by decide +kernel
theorem dX8_drift_2 : decode cX8_drift 2 = .ok (.bipush 12, 2) := by decide +kernel
theorem dX8_drift_4 : decode cX8_drift 4 = .ok (.invokestatic 47, 3) := by decide +kernel
theorem dX8_drift_7 : decode cX8_drift 7 = .ok (.ifCond .ne 6, 3) := by decide +kernel
theorem dX8_drift_10 : decode cX8_drift 10 = .ok (.ldc 179, 2) := by decide +kernel
theorem dX8_drift_12 : decode cX8_drift 12 = .ok (.ireturn, 1) := by decide +kernel
theorem dX8_drift_13 : decode cX8_drift 13 = .ok (.iconst 0, 1) := by decide +kernel
theorem dX8_drift_14 : decode cX8_drift 14 = .ok (.istore_n 2, 1) := by decide +kernel
theorem dX8_drift_15 : decode cX8_drift 15 = .ok (.iload_n 2, 1) := by decide +kernel
theorem dX8_drift_16 : decode cX8_drift 16 = .ok (.iload_n 1, 1) := by decide +kernel
theorem dX8_drift_17 : decode cX8_drift 17 = .ok (.if_icmp .ge 48, 3) := by decide +kernel
theorem dX8_drift_20 : decode cX8_drift 20 = .ok (.aload_n 0, 1) := by decide +kernel
theorem dX8_drift_21 : decode cX8_drift 21 = .ok (.invokevirtual 207, 3) := by decide +kernel
theorem dX8_drift_24 : decode cX8_drift 24 = .ok (.aload_n 0, 1) := by decide +kernel
theorem dX8_drift_25 : decode cX8_drift 25 = .ok (.aload_n 0, 1) := by decide +kernel
theorem dX8_drift_26 : decode cX8_drift 26 = .ok (.getfield 9, 3) := by decide +kernel
theorem dX8_drift_29 : decode cX8_drift 29 = .ok (.iconst 0, 1) := by decide +kernel
theorem dX8_drift_30 : decode cX8_drift 30 = .ok (.iaload, 1) := by decide +kernel
theorem dX8_drift_31 : decode cX8_drift 31 = .ok (.invokevirtual 228, 3) := by decide +kernel
theorem dX8_drift_34 : decode cX8_drift 34 = .ok (.istore_n 3, 1) := by decide +kernel
theorem dX8_drift_35 : decode cX8_drift 35 = .ok (.aload_n 0, 1) := by decide +kernel
theorem dX8_drift_36 : decode cX8_drift 36 = .ok (.bipush 16, 2) := by decide +kernel
theorem dX8_drift_38 : decode cX8_drift 38 = .ok (.invokevirtual 228, 3) := by decide +kernel
theorem dX8_drift_41 : decode cX8_drift 41 = .ok (.istore 4, 2) := by decide +kernel
theorem dX8_drift_43 : decode cX8_drift 43 = .ok (.aload_n 0, 1) := by decide +kernel
theorem dX8_drift_44 : decode cX8_drift 44 = .ok (.getfield 9, 3) := by decide +kernel
theorem dX8_drift_47 : decode cX8_drift 47 = .ok (.bipush 21, 2) := by decide +kernel
theorem dX8_drift_49 : decode cX8_drift 49 = .ok (.iload_n 3, 1) := by decide +kernel
theorem dX8_drift_50 : decode cX8_drift 50 = .ok (.iadd, 1) := by decide +kernel
theorem dX8_drift_51 : decode cX8_drift 51 = .ok (.dup2, 1) := by decide +kernel
theorem dX8_drift_52 : decode cX8_drift 52 = .ok (.iaload, 1) := by decide +kernel
theorem dX8_drift_53 : decode cX8_drift 53 = .ok (.iconst 1, 1) := by decide +kernel
theorem dX8_drift_54 : decode cX8_drift 54 = .ok (.iload 4, 2) := by decide +kernel
theorem dX8_drift_56 : decode cX8_drift 56 = .ok (.ishl, 1) := by decide +kernel
theorem dX8_drift_57 : decode cX8_drift 57 = .ok (.ixor, 1) := by decide +kernel
theorem dX8_drift_58 : decode cX8_drift 58 = .ok (.iastore, 1) := by decide +kernel
theorem dX8_drift_59 : decode cX8_drift 59 = .ok (.iinc 2 1, 3) := by decide +kernel
theorem dX8_drift_62 : decode cX8_drift 62 = .ok (.goto (-47), 3) := by decide +kernel
theorem dX8_drift_65 : decode cX8_drift 65 = .ok (.aload_n 0, 1) := by decide +kernel
theorem dX8_drift_66 : decode cX8_drift 66 = .ok (.invokevirtual 161, 3) := by decide +kernel
theorem dX8_drift_69 : decode cX8_drift 69 = .ok (.ireturn, 1) := by decide +kernel
set_option maxRecDepth 20000 in
theorem ggX8_undo_X8_in : GoodIn wsX8_undo wsX8_in := goodIn_r _ [7] (by decide +kernel) (by decide +kernel)
set_option maxRecDepth 20000 in
theorem gX8_undo_X8_in : GoodIn wsX8_undo (va_wsS RX8 47 yX8_in wsX8_in) := goodIn_app (goodIn_of _ (by decide +kernel)) ggX8_undo_X8_in
set_option maxRecDepth 20000 in
theorem ggX8_undo_X8_copyRow : GoodIn wsX8_undo wsX8_copyRow := goodIn_r _ [11, 12, 13, 14, 15, 16, 17, 18, 19, 20, 21, 22, 23, 24, 25, 26, 27, 28, 29] (by decide +kernel) (by decide +kernel)
set_option maxRecDepth 20000 in
theorem gX8_undo_X8_copyRow : GoodIn wsX8_undo (wsV RX8 203 RX8 yX8_copyRow wsX8_copyRow) := goodIn_app (goodIn_of _ (by decide +kernel)) ggX8_undo_X8_copyRow
theorem dX8_undo_0 : decode cX8_undo 0 = .ok (.iload_n 1, 1) := by decide +kernel
theorem dX8_undo_1 : decode cX8_undo 1 = .ok (.iconst 1, 1) := by decide +kernel
theorem dX8_undo_2 : decode cX8_undo 2 = .ok (.bipush 16, 2) := by decide +kernel
theorem dX8_undo_4 : decode cX8_undo 4 = .ok (.invokestatic 47, 3) := by decide +kernel
theorem dX8_undo_7 : decode cX8_undo 7 = .ok (.ifCond .ne 6, 3) := by decide +kernel
theorem dX8_undo_10 : decode cX8_undo 10 = .ok (.ldc 179, 2) := by decide +kernel
theorem dX8_undo_12 : decode cX8_undo 12 = .ok (.ireturn, 1) := by decide +kernel
theorem dX8_undo_13 : decode cX8_undo 13 = .ok (.iload_n 1, 1) := by decide +kernel
theorem dX8_undo_14 : decode cX8_undo 14 = .ok (.aload_n 0, 1) := by decide +kernel
theorem dX8_undo_15 : decode cX8_undo 15 = .ok (.getfield 173, 3) := by decide +kernel
theorem dX8_undo_18 : decode cX8_undo 18 = .ok (.if_icmp .le 6, 3) := by decide +kernel
theorem dX8_undo_21 : decode cX8_undo 21 = .ok (.ldc 216, 2) := by decide +kernel
theorem dX8_undo_23 : decode cX8_undo 23 = .ok (.ireturn, 1) := by decide +kernel
theorem dX8_undo_24 : decode cX8_undo 24 = .ok (.aload_n 0, 1) := by decide +kernel
theorem dX8_undo_25 : decode cX8_undo 25 = .ok (.dup, 1) := by decide +kernel
theorem dX8_undo_26 : decode cX8_undo 26 = .ok (.getfield 173, 3) := by decide +kernel
theorem dX8_undo_29 : decode cX8_undo 29 = .ok (.iload_n 1, 1) := by decide +kernel
theorem dX8_undo_30 : decode cX8_undo 30 = .ok (.isub, 1) := by decide +kernel
theorem dX8_undo_31 : decode cX8_undo 31 = .ok (.putfield 173, 3) := by decide +kernel
theorem dX8_undo_34 : decode cX8_undo 34 = .ok (.aload_n 0, 1) := by decide +kernel
theorem dX8_undo_35 : decode cX8_undo 35 = .ok (.bipush 30, 2) := by decide +kernel
theorem dX8_undo_37 : decode cX8_undo 37 = .ok (.aload_n 0, 1) := by decide +kernel
theorem dX8_undo_38 : decode cX8_undo 38 = .ok (.getfield 173, 3) := by decide +kernel
theorem dX8_undo_41 : decode cX8_undo 41 = .ok (.iconst 1, 1) := by decide +kernel
theorem dX8_undo_42 : decode cX8_undo 42 = .ok (.iadd, 1) := by decide +kernel
theorem dX8_undo_43 : decode cX8_undo 43 = .ok (.imul, 1) := by decide +kernel
theorem dX8_undo_44 : decode cX8_undo 44 = .ok (.iconst 0, 1) := by decide +kernel
theorem dX8_undo_45 : decode cX8_undo 45 = .ok (.invokevirtual 203, 3) := by decide +kernel
theorem dX8_undo_48 : decode cX8_undo 48 = .ok (.aload_n 0, 1) := by decide +kernel
theorem dX8_undo_49 : decode cX8_undo 49 = .ok (.getfield 173, 3) := by decide +kernel
theorem dX8_undo_52 : decode cX8_undo 52 = .ok (.ireturn, 1) := by decide +kernel
set_option maxRecDepth 20000 in
theorem ggX8_write_X8_isNode : GoodIn wsX8_write wsX8_isNode := goodIn_r _ [10, 11, 12, 13, 9, 14, 15, 16, 17, 18, 19, 20, 21, 22, 23, 24, 25, 26, 27, 28, 29, 30, 31] (by decide +kernel) (by decide +kernel)
set_option maxRecDepth 20000 in
theorem gX8_write_X8_isNode : GoodIn wsX8_write (wsV RX8 51 RX8 yX8_isNode wsX8_isNode) := goodIn_app (goodIn_of _ (by decide +kernel)) ggX8_write_X8_isNode
theorem dX8_write_0 : decode cX8_write 0 = .ok (.aload_n 0, 1) := by decide +kernel
theorem dX8_write_1 : decode cX8_write 1 = .ok (.iload_n 1, 1) := by decide +kernel
theorem dX8_write_2 : decode cX8_write 2 = .ok (.invokevirtual 51, 3) := by decide +kernel
theorem dX8_write_5 : decode cX8_write 5 = .ok (.ifCond .ne 6, 3) := by decide +kernel
theorem dX8_write_8 : decode cX8_write 8 = .ok (.ldc 180, 2) := by decide +kernel
theorem dX8_write_10 : decode cX8_write 10 = .ok (.ireturn, 1) := by decide +kernel
theorem dX8_write_11 : decode cX8_write 11 = .ok (.aload_n 0, 1) := by decide +kernel
theorem dX8_write_12 : decode cX8_write 12 = .ok (.getfield 143, 3) := by decide +kernel
theorem dX8_write_15 : decode cX8_write 15 = .ok (.bipush 20, 2) := by decide +kernel
theorem dX8_write_17 : decode cX8_write 17 = .ok (.if_icmp .ne 6, 3) := by decide +kernel
theorem dX8_write_20 : decode cX8_write 20 = .ok (.ldc 211, 2) := by decide +kernel
theorem dX8_write_22 : decode cX8_write 22 = .ok (.ireturn, 1) := by decide +kernel
theorem dX8_write_23 : decode cX8_write 23 = .ok (.aload_n 0, 1) := by decide +kernel
theorem dX8_write_24 : decode cX8_write 24 = .ok (.getfield 16, 3) := by decide +kernel
theorem dX8_write_27 : decode cX8_write 27 = .ok (.aload_n 0, 1) := by decide +kernel
theorem dX8_write_28 : decode cX8_write 28 = .ok (.getfield 143, 3) := by decide +kernel
theorem dX8_write_31 : decode cX8_write 31 = .ok (.iload_n 1, 1) := by decide +kernel
theorem dX8_write_32 : decode cX8_write 32 = .ok (.iastore, 1) := by decide +kernel
theorem dX8_write_33 : decode cX8_write 33 = .ok (.aload_n 0, 1) := by decide +kernel
theorem dX8_write_34 : decode cX8_write 34 = .ok (.getfield 19, 3) := by decide +kernel
theorem dX8_write_37 : decode cX8_write 37 = .ok (.aload_n 0, 1) := by decide +kernel
theorem dX8_write_38 : decode cX8_write 38 = .ok (.getfield 143, 3) := by decide +kernel
theorem dX8_write_41 : decode cX8_write 41 = .ok (.iload_n 2, 1) := by decide +kernel
theorem dX8_write_42 : decode cX8_write 42 = .ok (.iastore, 1) := by decide +kernel
theorem dX8_write_43 : decode cX8_write 43 = .ok (.aload_n 0, 1) := by decide +kernel
theorem dX8_write_44 : decode cX8_write 44 = .ok (.dup, 1) := by decide +kernel
theorem dX8_write_45 : decode cX8_write 45 = .ok (.getfield 143, 3) := by decide +kernel
theorem dX8_write_48 : decode cX8_write 48 = .ok (.iconst 1, 1) := by decide +kernel
theorem dX8_write_49 : decode cX8_write 49 = .ok (.iadd, 1) := by decide +kernel
theorem dX8_write_50 : decode cX8_write 50 = .ok (.putfield 143, 3) := by decide +kernel
theorem dX8_write_53 : decode cX8_write 53 = .ok (.aload_n 0, 1) := by decide +kernel
theorem dX8_write_54 : decode cX8_write 54 = .ok (.getfield 143, 3) := by decide +kernel
theorem dX8_write_57 : decode cX8_write 57 = .ok (.ireturn, 1) := by decide +kernel
theorem dX8_tear_0 : decode cX8_tear 0 = .ok (.aload_n 0, 1) := by decide +kernel
theorem dX8_tear_1 : decode cX8_tear 1 = .ok (.getfield 143, 3) := by decide +kernel
theorem dX8_tear_4 : decode cX8_tear 4 = .ok (.istore_n 1, 1) := by decide +kernel
theorem dX8_tear_5 : decode cX8_tear 5 = .ok (.aload_n 0, 1) := by decide +kernel
theorem dX8_tear_6 : decode cX8_tear 6 = .ok (.iconst 0, 1) := by decide +kernel
theorem dX8_tear_7 : decode cX8_tear 7 = .ok (.putfield 143, 3) := by decide +kernel
theorem dX8_tear_10 : decode cX8_tear 10 = .ok (.iload_n 1, 1) := by decide +kernel
theorem dX8_tear_11 : decode cX8_tear 11 = .ok (.ireturn, 1) := by decide +kernel
theorem dX8_seed_0 : decode cX8_seed 0 = .ok (.iload_n 1, 1) := by decide +kernel
theorem dX8_seed_1 : decode cX8_seed 1 = .ok (.ifCond .ge 6, 3) := by decide +kernel
theorem dX8_seed_4 : decode cX8_seed 4 = .ok (.ldc 179, 2) := by decide +kernel
theorem dX8_seed_6 : decode cX8_seed 6 = .ok (.ireturn, 1) := by decide +kernel
theorem dX8_seed_7 : decode cX8_seed 7 = .ok (.aload_n 0, 1) := by decide +kernel
theorem dX8_seed_8 : decode cX8_seed 8 = .ok (.getfield 176, 3) := by decide +kernel
theorem dX8_seed_11 : decode cX8_seed 11 = .ok (.istore_n 2, 1) := by decide +kernel
theorem dX8_seed_12 : decode cX8_seed 12 = .ok (.aload_n 0, 1) := by decide +kernel
theorem dX8_seed_13 : decode cX8_seed 13 = .ok (.iload_n 1, 1) := by decide +kernel
theorem dX8_seed_14 : decode cX8_seed 14 = .ok (.putfield 176, 3) := by decide +kernel
theorem dX8_seed_17 : decode cX8_seed 17 = .ok (.iload_n 2, 1) := by decide +kernel
theorem dX8_seed_18 : decode cX8_seed 18 = .ok (.ireturn, 1) := by decide +kernel
set_option maxRecDepth 20000 in
theorem ggX8_keep_X8_in : GoodIn wsX8_keep wsX8_in := goodIn_r _ [9] (by decide +kernel) (by decide +kernel)
set_option maxRecDepth 20000 in
theorem gX8_keep_X8_in : GoodIn wsX8_keep (va_wsS RX8 47 yX8_in wsX8_in) := goodIn_app (goodIn_of _ (by decide +kernel)) ggX8_keep_X8_in
set_option maxRecDepth 20000 in
theorem ggX8_keep_X8_copyRow : GoodIn wsX8_keep wsX8_copyRow := goodIn_r _ [13, 14, 15, 16, 17, 18, 19, 20, 21, 22, 23, 24, 25, 26, 27, 28, 29, 30, 31] (by decide +kernel) (by decide +kernel)
set_option maxRecDepth 20000 in
theorem gX8_keep_X8_copyRow : GoodIn wsX8_keep (wsV RX8 203 RX8 yX8_copyRow wsX8_copyRow) := goodIn_app (goodIn_of _ (by decide +kernel)) ggX8_keep_X8_copyRow
theorem dX8_keep_0 : decode cX8_keep 0 = .ok (.iload_n 1, 1) := by decide +kernel
theorem dX8_keep_1 : decode cX8_keep 1 = .ok (.iconst 0, 1) := by decide +kernel
theorem dX8_keep_2 : decode cX8_keep 2 = .ok (.iconst 1, 1) := by decide +kernel
theorem dX8_keep_3 : decode cX8_keep 3 = .ok (.invokestatic 47, 3) := by decide +kernel
theorem dX8_keep_6 : decode cX8_keep 6 = .ok (.ifCond .ne 6, 3) := by decide +kernel
theorem dX8_keep_9 : decode cX8_keep 9 = .ok (.ldc 180, 2) := by decide +kernel
theorem dX8_keep_11 : decode cX8_keep 11 = .ok (.ireturn, 1) := by decide +kernel
theorem dX8_keep_12 : decode cX8_keep 12 = .ok (.aload_n 0, 1) := by decide +kernel
theorem dX8_keep_13 : decode cX8_keep 13 = .ok (.iconst 0, 1) := by decide +kernel
theorem dX8_keep_14 : decode cX8_keep 14 = .ok (.sipush 510, 3) := by decide +kernel
theorem dX8_keep_17 : decode cX8_keep 17 = .ok (.bipush 30, 2) := by decide +kernel
theorem dX8_keep_19 : decode cX8_keep 19 = .ok (.iload_n 1, 1) := by decide +kernel
theorem dX8_keep_20 : decode cX8_keep 20 = .ok (.imul, 1) := by decide +kernel
theorem dX8_keep_21 : decode cX8_keep 21 = .ok (.iadd, 1) := by decide +kernel
theorem dX8_keep_22 : decode cX8_keep 22 = .ok (.invokevirtual 203, 3) := by decide +kernel
theorem dX8_keep_25 : decode cX8_keep 25 = .ok (.aload_n 0, 1) := by decide +kernel
theorem dX8_keep_26 : decode cX8_keep 26 = .ok (.getfield 13, 3) := by decide +kernel
theorem dX8_keep_29 : decode cX8_keep 29 = .ok (.iload_n 1, 1) := by decide +kernel
theorem dX8_keep_30 : decode cX8_keep 30 = .ok (.aload_n 0, 1) := by decide +kernel
theorem dX8_keep_31 : decode cX8_keep 31 = .ok (.getfield 176, 3) := by decide +kernel
theorem dX8_keep_34 : decode cX8_keep 34 = .ok (.iastore, 1) := by decide +kernel
theorem dX8_keep_35 : decode cX8_keep 35 = .ok (.aload_n 0, 1) := by decide +kernel
theorem dX8_keep_36 : decode cX8_keep 36 = .ok (.dup, 1) := by decide +kernel
theorem dX8_keep_37 : decode cX8_keep 37 = .ok (.getfield 231, 3) := by decide +kernel
theorem dX8_keep_40 : decode cX8_keep 40 = .ok (.iconst 1, 1) := by decide +kernel
theorem dX8_keep_41 : decode cX8_keep 41 = .ok (.iload_n 1, 1) := by decide +kernel
theorem dX8_keep_42 : decode cX8_keep 42 = .ok (.ishl, 1) := by decide +kernel
theorem dX8_keep_43 : decode cX8_keep 43 = .ok (.ior, 1) := by decide +kernel
theorem dX8_keep_44 : decode cX8_keep 44 = .ok (.putfield 231, 3) := by decide +kernel
theorem dX8_keep_47 : decode cX8_keep 47 = .ok (.aload_n 0, 1) := by decide +kernel
theorem dX8_keep_48 : decode cX8_keep 48 = .ok (.iconst 0, 1) := by decide +kernel
theorem dX8_keep_49 : decode cX8_keep 49 = .ok (.putfield 173, 3) := by decide +kernel
theorem dX8_keep_52 : decode cX8_keep 52 = .ok (.iconst 1, 1) := by decide +kernel
theorem dX8_keep_53 : decode cX8_keep 53 = .ok (.ireturn, 1) := by decide +kernel
set_option maxRecDepth 20000 in
theorem ggX8_goBack_X8_in : GoodIn wsX8_goBack wsX8_in := goodIn_r _ [10] (by decide +kernel) (by decide +kernel)
set_option maxRecDepth 20000 in
theorem gX8_goBack_X8_in : GoodIn wsX8_goBack (va_wsS RX8 47 yX8_in wsX8_in) := goodIn_app (goodIn_of _ (by decide +kernel)) ggX8_goBack_X8_in
set_option maxRecDepth 20000 in
theorem ggX8_goBack_X8_copyRow : GoodIn wsX8_goBack wsX8_copyRow := goodIn_r _ [14, 15, 16, 17, 18, 19, 20, 21, 22, 23, 24, 25, 26, 27, 28, 29, 30, 31, 32] (by decide +kernel) (by decide +kernel)
set_option maxRecDepth 20000 in
theorem gX8_goBack_X8_copyRow : GoodIn wsX8_goBack (wsV RX8 203 RX8 yX8_copyRow wsX8_copyRow) := goodIn_app (goodIn_of _ (by decide +kernel)) ggX8_goBack_X8_copyRow
theorem dX8_goBack_0 : decode cX8_goBack 0 = .ok (.iload_n 1, 1) := by decide +kernel
theorem dX8_goBack_1 : decode cX8_goBack 1 = .ok (.iconst 0, 1) := by decide +kernel
theorem dX8_goBack_2 : decode cX8_goBack 2 = .ok (.iconst 1, 1) := by decide +kernel
theorem dX8_goBack_3 : decode cX8_goBack 3 = .ok (.invokestatic 47, 3) := by decide +kernel
theorem dX8_goBack_6 : decode cX8_goBack 6 = .ok (.ifCond .ne 6, 3) := by decide +kernel
theorem dX8_goBack_9 : decode cX8_goBack 9 = .ok (.ldc 180, 2) := by decide +kernel
theorem dX8_goBack_11 : decode cX8_goBack 11 = .ok (.ireturn, 1) := by decide +kernel
theorem dX8_goBack_12 : decode cX8_goBack 12 = .ok (.aload_n 0, 1) := by decide +kernel
theorem dX8_goBack_13 : decode cX8_goBack 13 = .ok (.getfield 231, 3) := by decide +kernel
theorem dX8_goBack_16 : decode cX8_goBack 16 = .ok (.iload_n 1, 1) := by decide +kernel
theorem dX8_goBack_17 : decode cX8_goBack 17 = .ok (.ishr, 1) := by decide +kernel
theorem dX8_goBack_18 : decode cX8_goBack 18 = .ok (.iconst 1, 1) := by decide +kernel
theorem dX8_goBack_19 : decode cX8_goBack 19 = .ok (.iand, 1) := by decide +kernel
theorem dX8_goBack_20 : decode cX8_goBack 20 = .ok (.ifCond .ne 6, 3) := by decide +kernel
theorem dX8_goBack_23 : decode cX8_goBack 23 = .ok (.ldc 216, 2) := by decide +kernel
theorem dX8_goBack_25 : decode cX8_goBack 25 = .ok (.ireturn, 1) := by decide +kernel
theorem dX8_goBack_26 : decode cX8_goBack 26 = .ok (.aload_n 0, 1) := by decide +kernel
theorem dX8_goBack_27 : decode cX8_goBack 27 = .ok (.sipush 510, 3) := by decide +kernel
theorem dX8_goBack_30 : decode cX8_goBack 30 = .ok (.bipush 30, 2) := by decide +kernel
theorem dX8_goBack_32 : decode cX8_goBack 32 = .ok (.iload_n 1, 1) := by decide +kernel
theorem dX8_goBack_33 : decode cX8_goBack 33 = .ok (.imul, 1) := by decide +kernel
theorem dX8_goBack_34 : decode cX8_goBack 34 = .ok (.iadd, 1) := by decide +kernel
theorem dX8_goBack_35 : decode cX8_goBack 35 = .ok (.iconst 0, 1) := by decide +kernel
theorem dX8_goBack_36 : decode cX8_goBack 36 = .ok (.invokevirtual 203, 3) := by decide +kernel
theorem dX8_goBack_39 : decode cX8_goBack 39 = .ok (.aload_n 0, 1) := by decide +kernel
theorem dX8_goBack_40 : decode cX8_goBack 40 = .ok (.aload_n 0, 1) := by decide +kernel
theorem dX8_goBack_41 : decode cX8_goBack 41 = .ok (.getfield 13, 3) := by decide +kernel
theorem dX8_goBack_44 : decode cX8_goBack 44 = .ok (.iload_n 1, 1) := by decide +kernel
theorem dX8_goBack_45 : decode cX8_goBack 45 = .ok (.iaload, 1) := by decide +kernel
theorem dX8_goBack_46 : decode cX8_goBack 46 = .ok (.putfield 176, 3) := by decide +kernel
theorem dX8_goBack_49 : decode cX8_goBack 49 = .ok (.aload_n 0, 1) := by decide +kernel
theorem dX8_goBack_50 : decode cX8_goBack 50 = .ok (.iconst 0, 1) := by decide +kernel
theorem dX8_goBack_51 : decode cX8_goBack 51 = .ok (.putfield 173, 3) := by decide +kernel
theorem dX8_goBack_54 : decode cX8_goBack 54 = .ok (.iconst 1, 1) := by decide +kernel
theorem dX8_goBack_55 : decode cX8_goBack 55 = .ok (.ireturn, 1) := by decide +kernel
theorem dJ6_bitCount_0f7a4_0 : decode cJ6_bitCount_0f7a4 0 = .ok (.iload_n 0, 1) := by decide +kernel
theorem dJ6_bitCount_0f7a4_1 : decode cJ6_bitCount_0f7a4 1 = .ok (.iload_n 0, 1) := by decide +kernel
theorem dJ6_bitCount_0f7a4_2 : decode cJ6_bitCount_0f7a4 2 = .ok (.iconst 1, 1) := by decide +kernel
theorem dJ6_bitCount_0f7a4_3 : decode cJ6_bitCount_0f7a4 3 = .ok (.iushr, 1) := by decide +kernel
theorem dJ6_bitCount_0f7a4_4 : decode cJ6_bitCount_0f7a4 4 = .ok (.ldc_w 265, 3) := by decide +kernel
theorem dJ6_bitCount_0f7a4_7 : decode cJ6_bitCount_0f7a4 7 = .ok (.iand, 1) := by decide +kernel
theorem dJ6_bitCount_0f7a4_8 : decode cJ6_bitCount_0f7a4 8 = .ok (.isub, 1) := by decide +kernel
theorem dJ6_bitCount_0f7a4_9 : decode cJ6_bitCount_0f7a4 9 = .ok (.istore_n 0, 1) := by decide +kernel
theorem dJ6_bitCount_0f7a4_10 : decode cJ6_bitCount_0f7a4 10 = .ok (.iload_n 0, 1) := by decide +kernel
theorem dJ6_bitCount_0f7a4_11 : decode cJ6_bitCount_0f7a4 11 = .ok (.ldc_w 266, 3) := by decide +kernel
theorem dJ6_bitCount_0f7a4_14 : decode cJ6_bitCount_0f7a4 14 = .ok (.iand, 1) := by decide +kernel
theorem dJ6_bitCount_0f7a4_15 : decode cJ6_bitCount_0f7a4 15 = .ok (.iload_n 0, 1) := by decide +kernel
theorem dJ6_bitCount_0f7a4_16 : decode cJ6_bitCount_0f7a4 16 = .ok (.iconst 2, 1) := by decide +kernel
theorem dJ6_bitCount_0f7a4_17 : decode cJ6_bitCount_0f7a4 17 = .ok (.iushr, 1) := by decide +kernel
theorem dJ6_bitCount_0f7a4_18 : decode cJ6_bitCount_0f7a4 18 = .ok (.ldc_w 266, 3) := by decide +kernel
theorem dJ6_bitCount_0f7a4_21 : decode cJ6_bitCount_0f7a4 21 = .ok (.iand, 1) := by decide +kernel
theorem dJ6_bitCount_0f7a4_22 : decode cJ6_bitCount_0f7a4 22 = .ok (.iadd, 1) := by decide +kernel
theorem dJ6_bitCount_0f7a4_23 : decode cJ6_bitCount_0f7a4 23 = .ok (.istore_n 0, 1) := by decide +kernel
theorem dJ6_bitCount_0f7a4_24 : decode cJ6_bitCount_0f7a4 24 = .ok (.iload_n 0, 1) := by decide +kernel
theorem dJ6_bitCount_0f7a4_25 : decode cJ6_bitCount_0f7a4 25 = .ok (.iload_n 0, 1) := by decide +kernel
theorem dJ6_bitCount_0f7a4_26 : decode cJ6_bitCount_0f7a4 26 = .ok (.iconst 4, 1) := by decide +kernel
theorem dJ6_bitCount_0f7a4_27 : decode cJ6_bitCount_0f7a4 27 = .ok (.iushr, 1) := by decide +kernel
theorem dJ6_bitCount_0f7a4_28 : decode cJ6_bitCount_0f7a4 28 = .ok (.iadd, 1) := by decide +kernel
theorem dJ6_bitCount_0f7a4_29 : decode cJ6_bitCount_0f7a4 29 = .ok (.ldc_w 267, 3) := by decide +kernel
theorem dJ6_bitCount_0f7a4_32 : decode cJ6_bitCount_0f7a4 32 = .ok (.iand, 1) := by decide +kernel
theorem dJ6_bitCount_0f7a4_33 : decode cJ6_bitCount_0f7a4 33 = .ok (.istore_n 0, 1) := by decide +kernel
theorem dJ6_bitCount_0f7a4_34 : decode cJ6_bitCount_0f7a4 34 = .ok (.iload_n 0, 1) := by decide +kernel
theorem dJ6_bitCount_0f7a4_35 : decode cJ6_bitCount_0f7a4 35 = .ok (.iload_n 0, 1) := by decide +kernel
theorem dJ6_bitCount_0f7a4_36 : decode cJ6_bitCount_0f7a4 36 = .ok (.bipush 8, 2) := by decide +kernel
theorem dJ6_bitCount_0f7a4_38 : decode cJ6_bitCount_0f7a4 38 = .ok (.iushr, 1) := by decide +kernel
theorem dJ6_bitCount_0f7a4_39 : decode cJ6_bitCount_0f7a4 39 = .ok (.iadd, 1) := by decide +kernel
theorem dJ6_bitCount_0f7a4_40 : decode cJ6_bitCount_0f7a4 40 = .ok (.istore_n 0, 1) := by decide +kernel
theorem dJ6_bitCount_0f7a4_41 : decode cJ6_bitCount_0f7a4 41 = .ok (.iload_n 0, 1) := by decide +kernel
theorem dJ6_bitCount_0f7a4_42 : decode cJ6_bitCount_0f7a4 42 = .ok (.iload_n 0, 1) := by decide +kernel
theorem dJ6_bitCount_0f7a4_43 : decode cJ6_bitCount_0f7a4 43 = .ok (.bipush 16, 2) := by decide +kernel
theorem dJ6_bitCount_0f7a4_45 : decode cJ6_bitCount_0f7a4 45 = .ok (.iushr, 1) := by decide +kernel
theorem dJ6_bitCount_0f7a4_46 : decode cJ6_bitCount_0f7a4 46 = .ok (.iadd, 1) := by decide +kernel
theorem dJ6_bitCount_0f7a4_47 : decode cJ6_bitCount_0f7a4 47 = .ok (.istore_n 0, 1) := by decide +kernel
theorem dJ6_bitCount_0f7a4_48 : decode cJ6_bitCount_0f7a4 48 = .ok (.iload_n 0, 1) := by decide +kernel
theorem dJ6_bitCount_0f7a4_49 : decode cJ6_bitCount_0f7a4 49 = .ok (.bipush 63, 2) := by decide +kernel
theorem dJ6_bitCount_0f7a4_51 : decode cJ6_bitCount_0f7a4 51 = .ok (.iand, 1) := by decide +kernel
theorem dJ6_bitCount_0f7a4_52 : decode cJ6_bitCount_0f7a4 52 = .ok (.ireturn, 1) := by decide +kernel
theorem dJ9_min_7cf53_0 : decode cJ9_min_7cf53 0 = .ok (.iload_n 0, 1) := by decide +kernel
theorem dJ9_min_7cf53_1 : decode cJ9_min_7cf53 1 = .ok (.iload_n 1, 1) := by decide +kernel
theorem dJ9_min_7cf53_2 : decode cJ9_min_7cf53 2 = .ok (.if_icmp .gt 7, 3) := by decide +kernel
theorem dJ9_min_7cf53_5 : decode cJ9_min_7cf53 5 = .ok (.iload_n 0, 1) := by decide +kernel
theorem dJ9_min_7cf53_6 : decode cJ9_min_7cf53 6 = .ok (.goto 4, 3) := by decide +kernel
theorem dJ9_min_7cf53_9 : decode cJ9_min_7cf53 9 = .ok (.iload_n 1, 1) := by decide +kernel
theorem dJ9_min_7cf53_10 : decode cJ9_min_7cf53 10 = .ok (.ireturn, 1) := by decide +kernel
theorem dJ7_fill_d0a16_0 : decode cJ7_fill_d0a16 0 = .ok (.iconst 0, 1) := by decide +kernel
theorem dJ7_fill_d0a16_1 : decode cJ7_fill_d0a16 1 = .ok (.istore_n 3, 1) := by decide +kernel
theorem dJ7_fill_d0a16_2 : decode cJ7_fill_d0a16 2 = .ok (.aload_n 0, 1) := by decide +kernel
theorem dJ7_fill_d0a16_3 : decode cJ7_fill_d0a16 3 = .ok (.arraylength, 1) := by decide +kernel
theorem dJ7_fill_d0a16_4 : decode cJ7_fill_d0a16 4 = .ok (.istore 4, 2) := by decide +kernel
theorem dJ7_fill_d0a16_6 : decode cJ7_fill_d0a16 6 = .ok (.iload_n 3, 1) := by decide +kernel
theorem dJ7_fill_d0a16_7 : decode cJ7_fill_d0a16 7 = .ok (.iload 4, 2) := by decide +kernel
theorem dJ7_fill_d0a16_9 : decode cJ7_fill_d0a16 9 = .ok (.if_icmp .ge 13, 3) := by decide +kernel
theorem dJ7_fill_d0a16_12 : decode cJ7_fill_d0a16 12 = .ok (.aload_n 0, 1) := by decide +kernel
theorem dJ7_fill_d0a16_13 : decode cJ7_fill_d0a16 13 = .ok (.iload_n 3, 1) := by decide +kernel
theorem dJ7_fill_d0a16_14 : decode cJ7_fill_d0a16 14 = .ok (.lload_n 1, 1) := by decide +kernel
theorem dJ7_fill_d0a16_15 : decode cJ7_fill_d0a16 15 = .ok (.lastore, 1) := by decide +kernel
theorem dJ7_fill_d0a16_16 : decode cJ7_fill_d0a16 16 = .ok (.iinc 3 1, 3) := by decide +kernel
theorem dJ7_fill_d0a16_19 : decode cJ7_fill_d0a16 19 = .ok (.goto (-13), 3) := by decide +kernel
theorem dJ7_fill_d0a16_22 : decode cJ7_fill_d0a16 22 = .ok (.return_, 1) := by decide +kernel
theorem dJ7_fill_53178_0 : decode cJ7_fill_53178 0 = .ok (.iconst 0, 1) := by decide +kernel
theorem dJ7_fill_53178_1 : decode cJ7_fill_53178 1 = .ok (.istore_n 2, 1) := by decide +kernel
theorem dJ7_fill_53178_2 : decode cJ7_fill_53178 2 = .ok (.aload_n 0, 1) := by decide +kernel
theorem dJ7_fill_53178_3 : decode cJ7_fill_53178 3 = .ok (.arraylength, 1) := by decide +kernel
theorem dJ7_fill_53178_4 : decode cJ7_fill_53178 4 = .ok (.istore_n 3, 1) := by decide +kernel
theorem dJ7_fill_53178_5 : decode cJ7_fill_53178 5 = .ok (.iload_n 2, 1) := by decide +kernel
theorem dJ7_fill_53178_6 : decode cJ7_fill_53178 6 = .ok (.iload_n 3, 1) := by decide +kernel
theorem dJ7_fill_53178_7 : decode cJ7_fill_53178 7 = .ok (.if_icmp .ge 13, 3) := by decide +kernel
theorem dJ7_fill_53178_10 : decode cJ7_fill_53178 10 = .ok (.aload_n 0, 1) := by decide +kernel
theorem dJ7_fill_53178_11 : decode cJ7_fill_53178 11 = .ok (.iload_n 2, 1) := by decide +kernel
theorem dJ7_fill_53178_12 : decode cJ7_fill_53178 12 = .ok (.iload_n 1, 1) := by decide +kernel
theorem dJ7_fill_53178_13 : decode cJ7_fill_53178 13 = .ok (.iastore, 1) := by decide +kernel
theorem dJ7_fill_53178_14 : decode cJ7_fill_53178 14 = .ok (.iinc 2 1, 3) := by decide +kernel
theorem dJ7_fill_53178_17 : decode cJ7_fill_53178 17 = .ok (.goto (-12), 3) := by decide +kernel
theorem dJ7_fill_53178_20 : decode cJ7_fill_53178 20 = .ok (.return_, 1) := by decide +kernel
set_option maxRecDepth 20000 in
theorem ggL_law_X7_init : GoodIn wsL_law wsX7_init := goodIn_r _ [8, 9, 10, 11, 12, 13, 14, 15, 16, 17, 18, 19, 20, 21, 22, 23, 24, 25, 26, 27, 28, 29, 30, 31, 32, 33, 34, 35, 36, 37, 38, 39, 40, 41, 42, 43, 44, 45, 46, 47, 48, 49, 50, 51, 52, 53, 54, 55, 56, 57, 58, 59, 60, 61, 62, 63, 64, 65, 66, 67, 68, 69, 70, 71, 72, 73, 74, 75, 76, 77, 78, 79, 80, 81, 82, 746, 747, 748, 749, 750, 751, 722, 723, 724, 725, 726, 727, 728, 752, 753, 754, 755, 756, 757, 758, 759, 760, 761, 762, 763, 764, 765, 766, 767, 768, 769, 770, 771] (by decide +kernel) (by decide +kernel)
set_option maxRecDepth 20000 in
theorem gL_law_X7_init : GoodIn wsL_law (wsX7_init) := ggL_law_X7_init
set_option maxRecDepth 20000 in
theorem ggL_law_X8_init : GoodIn wsL_law wsX8_init := goodIn_r _ [85, 86, 10, 11, 43, 87, 88, 89, 90, 91, 92, 93, 94, 36, 95, 96, 97, 98, 729, 730, 731, 732, 733, 734, 735, 736, 737, 738, 739, 740, 741, 742, 743, 744, 745] (by decide +kernel) (by decide +kernel)
set_option maxRecDepth 20000 in
theorem gL_law_X8_init : GoodIn wsL_law (wsX8_init) := ggL_law_X8_init
set_option maxRecDepth 20000 in
theorem ggL_law_X7_told : GoodIn wsL_law wsX7_told := goodIn_r _ [102, 23, 15, 103, 104, 105, 106, 107, 108, 109, 27, 110, 19, 111, 31, 112, 113, 114, 115, 116, 22, 117, 118, 119, 120, 121, 58, 122, 59, 123, 124, 125, 126, 127, 128, 129, 130, 131, 132, 133, 2, 134, 135, 136, 137, 138, 139, 140, 141, 142, 143, 144, 60, 61, 63, 145, 146, 147, 148, 149, 150, 151, 152, 153, 64, 65, 154, 155, 156, 157, 158, 159, 160, 161, 162, 163, 164, 165, 166, 167, 168, 169, 170, 171, 172, 173, 174, 175, 176, 177, 178, 179, 180, 181, 182, 183, 184, 185, 186, 187, 188, 66, 189, 190, 191, 192, 193, 194, 195, 196, 197, 198, 199, 200, 201, 202, 203, 204, 205, 206, 207, 208, 209, 210, 211, 212, 213, 214, 215, 216, 217, 218, 219, 220, 221, 222, 223, 224, 14, 225, 42, 226, 227, 228, 229, 230, 231, 232, 233, 234, 235, 236, 237, 238, 722, 723, 724, 725, 726, 727, 728, 746, 747, 748, 749, 750, 751, 755, 756, 757, 758, 759, 760, 761, 762, 763, 764, 765, 766, 767, 752, 753, 754, 768] (by decide +kernel) (by decide +kernel)
set_option maxRecDepth 20000 in
theorem gL_law_X7_told : GoodIn wsL_law (wsV RL 13 RX7 yX7_told wsX7_told) := goodIn_app (goodIn_of _ (by decide +kernel)) ggL_law_X7_told
set_option maxRecDepth 20000 in
theorem ggL_law_X8_told : GoodIn wsL_law wsX8_told := goodIn_r _ [242, 87, 243, 244, 245, 246, 247, 248, 249, 5, 250, 251, 252, 253, 254, 255, 256, 257, 258, 259, 260, 261, 262, 263, 264, 265, 266, 267, 268, 91, 269, 270, 271, 272, 273, 274, 275, 276, 277, 278, 279, 280, 94, 281, 282, 283, 284, 285, 92, 93, 286, 287, 288, 289, 290, 291, 292, 293, 294, 295, 296, 297, 298, 299, 300, 301, 302, 303, 304, 305, 306, 307, 308, 309, 310, 311, 312, 313, 314, 315, 316, 317, 89, 90, 318, 319, 320, 321, 322, 323, 324, 325, 326, 327, 328, 95, 329, 330, 331, 332, 333, 334, 335, 336, 337, 338, 339, 340, 341, 342, 343, 344, 345, 346, 347, 348, 349, 350, 351, 352, 353, 354, 355, 356, 357, 358, 359, 360, 361, 362, 363, 364, 365, 366, 367, 368, 369, 96, 370, 371, 372, 373, 729, 730, 731, 732, 733, 734, 735, 736, 737, 738, 739, 740, 741, 742, 743, 744, 745] (by decide +kernel) (by decide +kernel)
set_option maxRecDepth 20000 in
theorem gL_law_X8_told : GoodIn wsL_law (wsV RL 17 RX8 yX8_told wsX8_told) := goodIn_app (goodIn_of _ (by decide +kernel)) ggL_law_X8_told
set_option maxRecDepth 20000 in
theorem ggL_law_X7_at : GoodIn wsL_law wsX7_at := goodIn_r _ [377, 15, 378, 23, 183, 104, 379, 380, 381, 113, 222, 223, 224, 14, 225, 42, 114, 115, 116, 22, 117, 118, 119, 120, 121, 58, 122, 59, 123, 124, 125, 126, 127, 128, 129, 130, 131, 132, 133, 2, 134, 135, 136, 137, 138, 139, 140, 141, 142, 143, 144, 60, 61, 63, 145, 146, 147, 148, 149, 150, 151, 152, 153, 64, 65, 382, 722, 723, 724, 725, 726, 727, 728, 755, 756, 757, 758, 759, 760, 761, 762, 763, 764, 746, 747, 748, 749, 750, 751] (by decide +kernel) (by decide +kernel)
set_option maxRecDepth 20000 in
theorem gL_law_X7_at : GoodIn wsL_law (wsV RL 18 RX7 yX7_at wsX7_at) := goodIn_app (goodIn_of _ (by decide +kernel)) ggL_law_X7_at
set_option maxRecDepth 20000 in
theorem ggL_law_X8_at : GoodIn wsL_law wsX8_at := goodIn_r _ [386, 387, 91, 87, 94, 246, 318, 319, 320, 5, 321, 322, 323, 324, 281, 282, 283, 284, 285, 92, 93, 286, 287, 288, 289, 265, 266, 267, 268, 269, 270, 271, 272, 254, 255, 256, 273, 274, 275, 276, 290, 291, 292, 293, 294, 295, 296, 297, 298, 299, 300, 301, 388, 389, 390, 391, 729, 730, 731, 732, 733, 734, 735, 736, 737, 738, 739, 740, 741, 742, 743, 744, 745] (by decide +kernel) (by decide +kernel)
set_option maxRecDepth 20000 in
theorem gL_law_X8_at : GoodIn wsL_law (wsV RL 22 RX8 yX8_at wsX8_at) := goodIn_app (goodIn_of _ (by decide +kernel)) ggL_law_X8_at
set_option maxRecDepth 20000 in
theorem ggL_law_X7_isLost : GoodIn wsL_law wsX7_isLost := goodIn_r _ [395, 15, 378, 396, 397, 398, 14, 399, 44, 400, 223, 224, 225, 42, 133, 2, 134, 401, 402, 403, 404, 45, 722, 723, 724, 725, 726, 727, 728, 746, 747, 748, 749, 750, 751] (by decide +kernel) (by decide +kernel)
set_option maxRecDepth 20000 in
theorem gL_law_X7_isLost : GoodIn wsL_law (wsV RL 23 RX7 yX7_isLost wsX7_isLost) := goodIn_app (goodIn_of _ (by decide +kernel)) ggL_law_X7_isLost
set_option maxRecDepth 20000 in
theorem ggL_law_X8_isLost : GoodIn wsL_law wsX8_isLost := goodIn_r _ [408, 87, 387, 409, 410, 411, 5, 412, 318, 319, 320, 321, 322, 323, 324, 254, 255, 256, 729, 730, 731, 732, 733, 734, 735, 736, 737, 738, 739, 740, 741, 742, 743, 744, 745] (by decide +kernel) (by decide +kernel)
set_option maxRecDepth 20000 in
theorem gL_law_X8_isLost : GoodIn wsL_law (wsV RL 26 RX8 yX8_isLost wsX8_isLost) := goodIn_app (goodIn_of _ (by decide +kernel)) ggL_law_X8_isLost
set_option maxRecDepth 20000 in
theorem ggL_law_X7_mark : GoodIn wsL_law wsX7_mark := goodIn_r _ [416, 113, 15, 106, 417, 418, 2, 419, 420, 197, 198, 199, 200, 201, 202, 421, 217, 218, 722, 723, 724, 725, 726, 727, 728, 746, 747, 748, 749, 750, 751] (by decide +kernel) (by decide +kernel)
set_option maxRecDepth 20000 in
theorem gL_law_X7_mark : GoodIn wsL_law (wsV RL 27 RX7 yX7_mark wsX7_mark) := goodIn_app (goodIn_of _ (by decide +kernel)) ggL_law_X7_mark
set_option maxRecDepth 20000 in
theorem ggL_law_X8_mark : GoodIn wsL_law wsX8_mark := goodIn_r _ [425, 246, 322, 323, 5, 324, 342, 343, 344, 345, 346, 87, 347, 348, 349, 338, 339, 340, 341, 729, 730, 731, 732, 733, 734, 735, 736, 737, 738, 739, 740, 741, 742, 743, 744, 745] (by decide +kernel) (by decide +kernel)
set_option maxRecDepth 20000 in
theorem gL_law_X8_mark : GoodIn wsL_law (wsV RL 30 RX8 yX8_mark wsX8_mark) := goodIn_app (goodIn_of _ (by decide +kernel)) ggL_law_X8_mark
set_option maxRecDepth 20000 in
theorem ggL_law_X7_holds : GoodIn wsL_law wsX7_holds := goodIn_r _ [429, 15, 430, 431, 23, 230, 222, 223, 224, 14, 225, 42, 417, 418, 2, 419, 114, 115, 116, 22, 117, 118, 119, 120, 121, 58, 122, 59, 123, 124, 125, 126, 127, 128, 129, 130, 131, 132, 133, 134, 135, 136, 137, 138, 139, 140, 141, 142, 143, 144, 60, 61, 63, 145, 146, 147, 148, 149, 150, 151, 152, 153, 64, 65, 185, 186, 187, 188, 66, 189, 172, 190, 191, 192, 193, 194, 195, 196, 158, 159, 160, 161, 162, 163, 197, 198, 199, 200, 201, 202, 203, 204, 205, 206, 207, 208, 209, 210, 211, 212, 213, 214, 215, 216, 217, 218, 219, 220, 221, 722, 723, 724, 725, 726, 727, 728, 755, 756, 757, 758, 759, 760, 761, 762, 763, 764, 746, 747, 748, 749, 750, 751] (by decide +kernel) (by decide +kernel)
set_option maxRecDepth 20000 in
theorem gL_law_X7_holds : GoodIn wsL_law (wsV RL 31 RX7 yX7_holds wsX7_holds) := goodIn_app (goodIn_of _ (by decide +kernel)) ggL_law_X7_holds
set_option maxRecDepth 20000 in
theorem ggL_law_X8_holds : GoodIn wsL_law wsX8_holds := goodIn_r _ [435, 436, 437, 91, 438, 95, 318, 319, 320, 5, 321, 87, 322, 323, 324, 329, 330, 331, 332, 285, 93, 92, 286, 287, 288, 289, 265, 266, 267, 268, 269, 270, 271, 272, 254, 255, 256, 273, 274, 275, 276, 290, 291, 292, 293, 294, 295, 296, 297, 333, 334, 335, 336, 337, 338, 339, 340, 341, 342, 343, 344, 345, 346, 347, 348, 349, 350, 351, 352, 353, 354, 355, 356, 357, 358, 359, 360, 361, 362, 363, 364, 365, 366, 367, 368, 369, 96, 370, 371, 372, 373, 298, 299, 300, 301, 729, 730, 731, 732, 733, 734, 735, 736, 737, 738, 739, 740, 741, 742, 743, 744, 745] (by decide +kernel) (by decide +kernel)
set_option maxRecDepth 20000 in
theorem gL_law_X8_holds : GoodIn wsL_law (wsV RL 35 RX8 yX8_holds wsX8_holds) := goodIn_app (goodIn_of _ (by decide +kernel)) ggL_law_X8_holds
set_option maxRecDepth 20000 in
theorem ggL_law_X7_guess : GoodIn wsL_law wsX7_guess := goodIn_r _ [442, 15, 378, 113, 23, 222, 223, 224, 14, 225, 42, 417, 418, 2, 419, 114, 115, 116, 22, 117, 118, 119, 120, 121, 58, 122, 59, 123, 124, 125, 126, 127, 128, 129, 130, 131, 132, 133, 134, 135, 136, 137, 138, 139, 140, 141, 142, 143, 144, 60, 61, 63, 145, 146, 147, 148, 149, 150, 151, 152, 153, 64, 65, 185, 186, 187, 188, 66, 189, 172, 190, 191, 192, 193, 194, 195, 196, 158, 159, 160, 161, 162, 163, 197, 198, 199, 200, 201, 202, 203, 204, 205, 206, 207, 208, 209, 210, 211, 212, 213, 214, 215, 216, 217, 218, 219, 220, 221, 226, 227, 228, 229, 183, 230, 231, 232, 233, 234, 235, 236, 237, 238, 722, 723, 724, 725, 726, 727, 728, 746, 747, 748, 749, 750, 751, 755, 756, 757, 758, 759, 760, 761, 762, 763, 764] (by decide +kernel) (by decide +kernel)
set_option maxRecDepth 20000 in
theorem gL_law_X7_guess : GoodIn wsL_law (wsV RL 36 RX7 yX7_guess wsX7_guess) := goodIn_app (goodIn_of _ (by decide +kernel)) ggL_law_X7_guess
set_option maxRecDepth 20000 in
theorem ggL_law_X8_guess : GoodIn wsL_law wsX8_guess := goodIn_r _ [446, 387, 246, 91, 318, 319, 320, 5, 321, 87, 322, 323, 324, 265, 266, 267, 268, 269, 270, 271, 272, 254, 255, 256, 325, 326, 327, 328, 95, 329, 330, 331, 332, 285, 93, 92, 286, 287, 288, 289, 273, 274, 275, 276, 290, 291, 292, 293, 294, 295, 296, 297, 333, 334, 335, 336, 337, 338, 339, 340, 341, 342, 343, 344, 345, 346, 347, 348, 349, 350, 351, 352, 353, 354, 355, 356, 357, 358, 359, 360, 361, 362, 363, 364, 365, 366, 367, 368, 369, 96, 370, 371, 372, 373, 298, 299, 300, 301, 447, 448, 449, 450, 729, 730, 731, 732, 733, 734, 735, 736, 737, 738, 739, 740, 741, 742, 743, 744, 745] (by decide +kernel) (by decide +kernel)
set_option maxRecDepth 20000 in
theorem gL_law_X8_guess : GoodIn wsL_law (wsV RL 39 RX8 yX8_guess wsX8_guess) := goodIn_app (goodIn_of _ (by decide +kernel)) ggL_law_X8_guess
set_option maxRecDepth 20000 in
theorem ggL_law_X7_off : GoodIn wsL_law wsX7_off := goodIn_r _ [454, 113, 23, 15, 455, 417, 418, 2, 419, 114, 115, 116, 22, 117, 118, 119, 120, 121, 58, 122, 59, 123, 124, 125, 126, 127, 128, 129, 130, 131, 132, 133, 134, 135, 136, 137, 138, 139, 140, 141, 142, 143, 144, 60, 61, 63, 145, 146, 147, 148, 149, 150, 151, 152, 153, 64, 65, 185, 186, 187, 188, 66, 189, 172, 190, 191, 192, 193, 194, 195, 196, 158, 159, 160, 161, 162, 163, 197, 198, 199, 200, 201, 202, 203, 204, 205, 206, 207, 208, 209, 210, 211, 212, 213, 214, 215, 216, 217, 218, 219, 220, 221, 226, 227, 228, 229, 183, 230, 231, 232, 233, 234, 235, 236, 237, 238, 168, 169, 170, 171, 173, 722, 723, 724, 725, 726, 727, 728, 755, 756, 757, 758, 759, 760, 761, 762, 763, 764, 746, 747, 748, 749, 750, 751] (by decide +kernel) (by decide +kernel)
set_option maxRecDepth 20000 in
theorem gL_law_X7_off : GoodIn wsL_law (wsV RL 40 RX7 yX7_off wsX7_off) := goodIn_app (goodIn_of _ (by decide +kernel)) ggL_law_X7_off
set_option maxRecDepth 20000 in
theorem ggL_law_X8_off : GoodIn wsL_law wsX8_off := goodIn_r _ [459, 246, 460, 322, 323, 5, 324, 325, 326, 327, 328, 95, 329, 330, 331, 332, 87, 285, 93, 92, 286, 287, 288, 289, 91, 265, 266, 267, 268, 269, 270, 271, 272, 254, 255, 256, 273, 274, 275, 276, 290, 291, 292, 293, 294, 295, 296, 297, 333, 334, 335, 336, 337, 338, 339, 340, 341, 342, 343, 344, 345, 346, 347, 348, 349, 350, 351, 352, 353, 354, 355, 356, 357, 358, 359, 360, 361, 362, 363, 364, 365, 366, 367, 368, 369, 96, 370, 371, 372, 373, 298, 299, 300, 301, 447, 448, 449, 450, 302, 303, 304, 305, 251, 252, 253, 729, 730, 731, 732, 733, 734, 735, 736, 737, 738, 739, 740, 741, 742, 743, 744, 745] (by decide +kernel) (by decide +kernel)
set_option maxRecDepth 20000 in
theorem gL_law_X8_off : GoodIn wsL_law (wsV RL 43 RX8 yX8_off wsX8_off) := goodIn_app (goodIn_of _ (by decide +kernel)) ggL_law_X8_off
set_option maxRecDepth 20000 in
theorem ggL_law_X7_letter : GoodIn wsL_law wsX7_letter := goodIn_r _ [464, 23, 15, 109, 378, 465, 466, 467, 113, 114, 115, 116, 22, 117, 118, 119, 120, 121, 58, 122, 59, 123, 124, 125, 126, 127, 128, 129, 130, 131, 132, 133, 2, 134, 135, 136, 137, 138, 139, 140, 141, 142, 143, 144, 60, 61, 63, 145, 146, 147, 148, 149, 150, 151, 152, 153, 64, 65, 417, 418, 419, 722, 723, 724, 725, 726, 727, 728, 755, 756, 757, 758, 759, 760, 761, 762, 763, 764, 746, 747, 748, 749, 750, 751] (by decide +kernel) (by decide +kernel)
set_option maxRecDepth 20000 in
theorem gL_law_X7_letter : GoodIn wsL_law (wsV RL 44 RX7 yX7_letter wsX7_letter) := goodIn_app (goodIn_of _ (by decide +kernel)) ggL_law_X7_letter
set_option maxRecDepth 20000 in
theorem ggL_law_X8_letter : GoodIn wsL_law wsX8_letter := goodIn_r _ [471, 285, 387, 92, 93, 246, 286, 287, 288, 5, 289, 87, 91, 265, 266, 267, 268, 269, 270, 271, 272, 254, 255, 256, 273, 274, 275, 276, 290, 291, 292, 293, 294, 295, 296, 297, 322, 323, 324, 298, 299, 300, 301, 729, 730, 731, 732, 733, 734, 735, 736, 737, 738, 739, 740, 741, 742, 743, 744, 745] (by decide +kernel) (by decide +kernel)
set_option maxRecDepth 20000 in
theorem gL_law_X8_letter : GoodIn wsL_law (wsV RL 47 RX8 yX8_letter wsX8_letter) := goodIn_app (goodIn_of _ (by decide +kernel)) ggL_law_X8_letter
set_option maxRecDepth 20000 in
theorem ggL_law_X7_sent : GoodIn wsL_law wsX7_sent := goodIn_r _ [475, 23, 15, 109, 430, 431, 230, 465, 114, 115, 116, 22, 117, 118, 119, 120, 121, 58, 122, 59, 123, 124, 125, 126, 127, 128, 129, 130, 131, 132, 133, 2, 134, 135, 136, 137, 138, 139, 140, 141, 142, 143, 144, 60, 61, 63, 145, 146, 147, 148, 149, 150, 151, 152, 153, 64, 65, 417, 418, 419, 185, 186, 187, 188, 66, 189, 172, 190, 191, 192, 193, 194, 195, 196, 158, 159, 160, 161, 162, 163, 197, 198, 199, 200, 201, 202, 203, 204, 205, 206, 207, 208, 209, 210, 211, 212, 213, 214, 215, 216, 217, 218, 219, 220, 221, 722, 723, 724, 725, 726, 727, 728, 755, 756, 757, 758, 759, 760, 761, 762, 763, 764, 746, 747, 748, 749, 750, 751] (by decide +kernel) (by decide +kernel)
set_option maxRecDepth 20000 in
theorem gL_law_X7_sent : GoodIn wsL_law (wsV RL 48 RX7 yX7_sent wsX7_sent) := goodIn_app (goodIn_of _ (by decide +kernel)) ggL_law_X7_sent
set_option maxRecDepth 20000 in
theorem ggL_law_X8_sent : GoodIn wsL_law wsX8_sent := goodIn_r _ [479, 285, 436, 437, 95, 92, 286, 287, 288, 5, 289, 87, 91, 265, 266, 267, 268, 269, 270, 271, 272, 254, 255, 256, 273, 274, 275, 276, 290, 291, 292, 293, 93, 294, 295, 296, 297, 322, 323, 324, 329, 330, 331, 332, 333, 334, 335, 336, 337, 338, 339, 340, 341, 342, 343, 344, 345, 346, 347, 348, 349, 350, 351, 352, 353, 354, 355, 356, 357, 358, 359, 360, 361, 362, 363, 364, 365, 366, 367, 368, 369, 96, 370, 371, 372, 373, 298, 299, 300, 301, 729, 730, 731, 732, 733, 734, 735, 736, 737, 738, 739, 740, 741, 742, 743, 744, 745] (by decide +kernel) (by decide +kernel)
set_option maxRecDepth 20000 in
theorem gL_law_X8_sent : GoodIn wsL_law (wsV RL 51 RX8 yX8_sent wsX8_sent) := goodIn_app (goodIn_of _ (by decide +kernel)) ggL_law_X8_sent
set_option maxRecDepth 20000 in
theorem ggL_law_X7_rows : GoodIn wsL_law wsX7_rows := goodIn_r _ [483, 431, 37, 417, 418, 2, 419, 484, 485, 125, 486, 487, 488, 489, 490, 491, 492, 493, 494, 495, 496, 722, 723, 724, 725, 726, 727, 728] (by decide +kernel) (by decide +kernel)
set_option maxRecDepth 20000 in
theorem gL_law_X7_rows : GoodIn wsL_law (wsV RL 52 RX7 yX7_rows wsX7_rows) := goodIn_app (goodIn_of _ (by decide +kernel)) ggL_law_X7_rows
set_option maxRecDepth 20000 in
theorem ggL_law_X8_rows : GoodIn wsL_law wsX8_rows := goodIn_r _ [500, 437, 97, 322, 323, 5, 324, 501, 502, 503, 504, 98, 505, 506, 507, 254, 255, 256, 729, 730, 731, 732, 733, 734, 735, 736, 737, 738, 739, 740, 741, 742, 743, 744, 745] (by decide +kernel) (by decide +kernel)
set_option maxRecDepth 20000 in
theorem gL_law_X8_rows : GoodIn wsL_law (wsV RL 55 RX8 yX8_rows wsX8_rows) := goodIn_app (goodIn_of _ (by decide +kernel)) ggL_law_X8_rows
set_option maxRecDepth 20000 in
theorem ggL_law_X7_node : GoodIn wsL_law wsX7_node := goodIn_r _ [511, 15, 378, 512, 113, 103, 513, 19, 514, 515, 516, 14, 517, 42, 417, 418, 2, 419, 518, 519, 520, 18, 521, 52, 522, 523, 524, 525, 526, 527, 528, 529, 530, 531, 532, 533, 44, 534, 535, 536, 537, 45, 46, 538, 539, 540, 541, 133, 134, 722, 723, 724, 725, 726, 727, 728, 746, 747, 748, 749, 750, 751, 752, 753, 754] (by decide +kernel) (by decide +kernel)
set_option maxRecDepth 20000 in
theorem gL_law_X7_node : GoodIn wsL_law (wsV RL 56 RX7 yX7_node wsX7_node) := goodIn_app (goodIn_of _ (by decide +kernel)) ggL_law_X7_node
set_option maxRecDepth 20000 in
theorem ggL_law_X8_node : GoodIn wsL_law wsX8_node := goodIn_r _ [545, 87, 387, 546, 246, 547, 322, 323, 5, 324, 548, 549, 550, 551, 244, 552, 553, 554, 555, 254, 255, 256, 556, 557, 558, 559, 729, 730, 731, 732, 733, 734, 735, 736, 737, 738, 739, 740, 741, 742, 743, 744, 745] (by decide +kernel) (by decide +kernel)
set_option maxRecDepth 20000 in
theorem gL_law_X8_node : GoodIn wsL_law (wsV RL 59 RX8 yX8_node wsX8_node) := goodIn_app (goodIn_of _ (by decide +kernel)) ggL_law_X8_node
set_option maxRecDepth 20000 in
theorem ggL_law_X7_take : GoodIn wsL_law wsX7_take := goodIn_r _ [563, 15, 103, 564, 19, 518, 519, 520, 18, 521, 52, 522, 523, 524, 525, 526, 527, 528, 529, 530, 14, 531, 42, 532, 533, 44, 534, 535, 536, 537, 45, 46, 565, 566, 567, 568, 569, 515, 516, 517, 722, 723, 724, 725, 726, 727, 728, 746, 747, 748, 749, 750, 751, 752, 753, 754] (by decide +kernel) (by decide +kernel)
set_option maxRecDepth 20000 in
theorem gL_law_X7_take : GoodIn wsL_law (wsV RL 60 RX7 yX7_take wsX7_take) := goodIn_app (goodIn_of _ (by decide +kernel)) ggL_law_X7_take
set_option maxRecDepth 20000 in
theorem ggL_law_X8_take : GoodIn wsL_law wsX8_take := goodIn_r _ [573, 87, 574, 548, 549, 550, 5, 551, 244, 552, 553, 554, 555, 729, 730, 731, 732, 733, 734, 735, 736, 737, 738, 739, 740, 741, 742, 743, 744, 745] (by decide +kernel) (by decide +kernel)
set_option maxRecDepth 20000 in
theorem gL_law_X8_take : GoodIn wsL_law (wsV RL 64 RX8 yX8_take wsX8_take) := goodIn_app (goodIn_of _ (by decide +kernel)) ggL_law_X8_take
set_option maxRecDepth 20000 in
theorem ggL_law_X7_link : GoodIn wsL_law wsX7_link := goodIn_r _ [578, 15, 378, 19, 222, 223, 224, 14, 225, 42, 518, 519, 520, 18, 521, 52, 522, 523, 524, 525, 526, 527, 528, 529, 530, 531, 532, 533, 44, 534, 535, 536, 537, 45, 46, 579, 580, 581, 582, 396, 397, 398, 399, 400, 133, 2, 134, 722, 723, 724, 725, 726, 727, 728, 746, 747, 748, 749, 750, 751, 752, 753, 754] (by decide +kernel) (by decide +kernel)
set_option maxRecDepth 20000 in
theorem gL_law_X7_link : GoodIn wsL_law (wsV RL 65 RX7 yX7_link wsX7_link) := goodIn_app (goodIn_of _ (by decide +kernel)) ggL_law_X7_link
set_option maxRecDepth 20000 in
theorem ggL_law_X8_link : GoodIn wsL_law wsX8_link := goodIn_r _ [586, 387, 87, 318, 319, 320, 5, 321, 322, 323, 324, 548, 549, 550, 551, 244, 552, 553, 554, 555, 254, 255, 256, 556, 557, 558, 559, 729, 730, 731, 732, 733, 734, 735, 736, 737, 738, 739, 740, 741, 742, 743, 744, 745] (by decide +kernel) (by decide +kernel)
set_option maxRecDepth 20000 in
theorem gL_law_X8_link : GoodIn wsL_law (wsV RL 68 RX8 yX8_link wsX8_link) := goodIn_app (goodIn_of _ (by decide +kernel)) ggL_law_X8_link
set_option maxRecDepth 20000 in
theorem ggL_law_X7_lose : GoodIn wsL_law wsX7_lose := goodIn_r _ [590, 15, 378, 19, 396, 397, 398, 14, 399, 44, 400, 223, 224, 225, 42, 133, 2, 134, 518, 519, 520, 18, 521, 52, 522, 523, 524, 525, 526, 527, 528, 529, 530, 531, 532, 533, 534, 535, 536, 537, 45, 46, 591, 592, 593, 594, 401, 402, 403, 404, 722, 723, 724, 725, 726, 727, 728, 746, 747, 748, 749, 750, 751, 752, 753, 754] (by decide +kernel) (by decide +kernel)
set_option maxRecDepth 20000 in
theorem gL_law_X7_lose : GoodIn wsL_law (wsV RL 69 RX7 yX7_lose wsX7_lose) := goodIn_app (goodIn_of _ (by decide +kernel)) ggL_law_X7_lose
set_option maxRecDepth 20000 in
theorem ggL_law_X8_lose : GoodIn wsL_law wsX8_lose := goodIn_r _ [598, 387, 87, 409, 410, 411, 5, 412, 318, 319, 320, 321, 322, 323, 324, 254, 255, 256, 548, 549, 550, 551, 244, 552, 553, 554, 555, 556, 557, 558, 559, 729, 730, 731, 732, 733, 734, 735, 736, 737, 738, 739, 740, 741, 742, 743, 744, 745] (by decide +kernel) (by decide +kernel)
set_option maxRecDepth 20000 in
theorem gL_law_X8_lose : GoodIn wsL_law (wsV RL 72 RX8 yX8_lose wsX8_lose) := goodIn_app (goodIn_of _ (by decide +kernel)) ggL_law_X8_lose
set_option maxRecDepth 20000 in
theorem ggL_law_X7_hear : GoodIn wsL_law wsX7_hear := goodIn_r _ [602, 15, 378, 512, 113, 19, 379, 222, 223, 224, 14, 225, 42, 417, 418, 2, 419, 518, 519, 520, 18, 521, 52, 522, 523, 524, 525, 526, 527, 528, 529, 530, 531, 532, 533, 44, 534, 535, 536, 537, 45, 46, 722, 723, 724, 725, 726, 727, 728, 746, 747, 748, 749, 750, 751, 752, 753, 754] (by decide +kernel) (by decide +kernel)
set_option maxRecDepth 20000 in
theorem gL_law_X7_hear : GoodIn wsL_law (wsV RL 73 RX7 yX7_hear wsX7_hear) := goodIn_app (goodIn_of _ (by decide +kernel)) ggL_law_X7_hear
set_option maxRecDepth 20000 in
theorem ggL_law_X8_hear : GoodIn wsL_law wsX8_hear := goodIn_r _ [606, 387, 546, 246, 318, 319, 320, 5, 321, 87, 322, 323, 324, 607, 608, 609, 610, 548, 549, 550, 551, 244, 552, 553, 554, 555, 729, 730, 731, 732, 733, 734, 735, 736, 737, 738, 739, 740, 741, 742, 743, 744, 745] (by decide +kernel) (by decide +kernel)
set_option maxRecDepth 20000 in
theorem gL_law_X8_hear : GoodIn wsL_law (wsV RL 76 RX8 yX8_hear wsX8_hear) := goodIn_app (goodIn_of _ (by decide +kernel)) ggL_law_X8_hear
set_option maxRecDepth 20000 in
theorem ggL_law_X7_salt : GoodIn wsL_law wsX7_salt := goodIn_r _ [614, 512, 113, 19, 15, 106, 417, 418, 2, 419, 518, 519, 520, 18, 521, 52, 522, 523, 524, 525, 526, 527, 528, 529, 530, 14, 531, 42, 532, 533, 44, 534, 535, 536, 537, 45, 46, 722, 723, 724, 725, 726, 727, 728, 746, 747, 748, 749, 750, 751, 752, 753, 754] (by decide +kernel) (by decide +kernel)
set_option maxRecDepth 20000 in
theorem gL_law_X7_salt : GoodIn wsL_law (wsV RL 77 RX7 yX7_salt wsX7_salt) := goodIn_app (goodIn_of _ (by decide +kernel)) ggL_law_X7_salt
set_option maxRecDepth 20000 in
theorem ggL_law_X8_salt : GoodIn wsL_law wsX8_salt := goodIn_r _ [618, 546, 246, 322, 323, 5, 324, 607, 608, 609, 610, 87, 548, 549, 550, 551, 244, 552, 553, 554, 555, 729, 730, 731, 732, 733, 734, 735, 736, 737, 738, 739, 740, 741, 742, 743, 744, 745] (by decide +kernel) (by decide +kernel)
set_option maxRecDepth 20000 in
theorem gL_law_X8_salt : GoodIn wsL_law (wsV RL 80 RX8 yX8_salt wsX8_salt) := goodIn_app (goodIn_of _ (by decide +kernel)) ggL_law_X8_salt
set_option maxRecDepth 20000 in
theorem ggL_law_X7_mode : GoodIn wsL_law wsX7_mode := goodIn_r _ [622, 113, 19, 15, 107, 417, 418, 2, 419, 518, 519, 520, 18, 521, 52, 522, 523, 524, 525, 526, 527, 528, 529, 530, 14, 531, 42, 532, 533, 44, 534, 535, 536, 537, 45, 46, 722, 723, 724, 725, 726, 727, 728, 746, 747, 748, 749, 750, 751, 752, 753, 754] (by decide +kernel) (by decide +kernel)
set_option maxRecDepth 20000 in
theorem gL_law_X7_mode : GoodIn wsL_law (wsV RL 81 RX7 yX7_mode wsX7_mode) := goodIn_app (goodIn_of _ (by decide +kernel)) ggL_law_X7_mode
set_option maxRecDepth 20000 in
theorem ggL_law_X8_mode : GoodIn wsL_law wsX8_mode := goodIn_r _ [626, 246, 322, 323, 5, 324, 607, 608, 609, 610, 87, 548, 549, 550, 551, 244, 552, 553, 554, 555, 729, 730, 731, 732, 733, 734, 735, 736, 737, 738, 739, 740, 741, 742, 743, 744, 745] (by decide +kernel) (by decide +kernel)
set_option maxRecDepth 20000 in
theorem gL_law_X8_mode : GoodIn wsL_law (wsV RL 84 RX8 yX8_mode wsX8_mode) := goodIn_app (goodIn_of _ (by decide +kernel)) ggL_law_X8_mode
set_option maxRecDepth 20000 in
theorem ggL_law_X7_drift : GoodIn wsL_law wsX7_drift := goodIn_r _ [630, 113, 19, 15, 31, 103, 23, 417, 418, 2, 419, 518, 519, 520, 18, 521, 52, 522, 523, 524, 525, 526, 527, 528, 529, 530, 14, 531, 42, 532, 533, 44, 534, 535, 536, 537, 45, 46, 631, 632, 633, 30, 634, 635, 636, 637, 638, 639, 640, 641, 642, 643, 114, 115, 116, 22, 117, 118, 119, 120, 121, 58, 122, 59, 123, 124, 125, 126, 127, 128, 129, 130, 131, 132, 133, 134, 135, 136, 137, 138, 139, 140, 141, 142, 143, 144, 60, 61, 63, 145, 146, 147, 148, 149, 150, 151, 152, 153, 64, 65, 168, 169, 170, 171, 172, 173, 158, 159, 160, 161, 162, 163, 722, 723, 724, 725, 726, 727, 728, 746, 747, 748, 749, 750, 751, 752, 753, 754, 768, 755, 756, 757, 758, 759, 760, 761, 762, 763, 764] (by decide +kernel) (by decide +kernel)
set_option maxRecDepth 20000 in
theorem gL_law_X7_drift : GoodIn wsL_law (wsV RL 85 RX7 yX7_drift wsX7_drift) := goodIn_app (goodIn_of _ (by decide +kernel)) ggL_law_X7_drift
set_option maxRecDepth 20000 in
theorem ggL_law_X8_drift : GoodIn wsL_law wsX8_drift := goodIn_r _ [647, 246, 87, 322, 323, 5, 324, 548, 549, 550, 551, 244, 552, 553, 554, 555, 648, 649, 650, 651, 245, 652, 653, 654, 655, 302, 303, 304, 305, 91, 265, 266, 267, 268, 269, 270, 271, 272, 254, 255, 256, 251, 252, 253, 729, 730, 731, 732, 733, 734, 735, 736, 737, 738, 739, 740, 741, 742, 743, 744, 745] (by decide +kernel) (by decide +kernel)
set_option maxRecDepth 20000 in
theorem gL_law_X8_drift : GoodIn wsL_law (wsV RL 88 RX8 yX8_drift wsX8_drift) := goodIn_app (goodIn_of _ (by decide +kernel)) ggL_law_X8_drift
set_option maxRecDepth 20000 in
theorem ggL_law_X7_undo : GoodIn wsL_law wsX7_undo := goodIn_r _ [659, 113, 19, 111, 564, 15, 417, 418, 2, 419, 660, 661, 662, 18, 663, 523, 522, 52, 528, 529, 530, 14, 531, 42, 532, 533, 44, 534, 535, 536, 537, 45, 46, 722, 723, 724, 725, 726, 727, 728, 752, 753, 754, 746, 747, 748, 749, 750, 751] (by decide +kernel) (by decide +kernel)
set_option maxRecDepth 20000 in
theorem gL_law_X7_undo : GoodIn wsL_law (wsV RL 89 RX7 yX7_undo wsX7_undo) := goodIn_app (goodIn_of _ (by decide +kernel)) ggL_law_X7_undo
set_option maxRecDepth 20000 in
theorem ggL_law_X8_undo : GoodIn wsL_law wsX8_undo := goodIn_r _ [667, 246, 244, 574, 322, 323, 5, 324, 552, 553, 554, 555, 87, 729, 730, 731, 732, 733, 734, 735, 736, 737, 738, 739, 740, 741, 742, 743, 744, 745] (by decide +kernel) (by decide +kernel)
set_option maxRecDepth 20000 in
theorem gL_law_X8_undo : GoodIn wsL_law (wsV RL 92 RX8 yX8_undo wsX8_undo) := goodIn_app (goodIn_of _ (by decide +kernel)) ggL_law_X8_undo
set_option maxRecDepth 20000 in
theorem ggL_law_X7_write : GoodIn wsL_law wsX7_write := goodIn_r _ [671, 15, 378, 27, 110, 513, 222, 223, 224, 14, 225, 42, 672, 673, 674, 26, 675, 676, 71, 72, 722, 723, 724, 725, 726, 727, 728, 765, 766, 767, 746, 747, 748, 749, 750, 751] (by decide +kernel) (by decide +kernel)
set_option maxRecDepth 20000 in
theorem gL_law_X7_write : GoodIn wsL_law (wsV RL 93 RX7 yX7_write wsX7_write) := goodIn_app (goodIn_of _ (by decide +kernel)) ggL_law_X7_write
set_option maxRecDepth 20000 in
theorem ggL_law_X8_write : GoodIn wsL_law wsX8_write := goodIn_r _ [680, 387, 243, 547, 89, 90, 318, 319, 320, 5, 321, 87, 322, 323, 324, 729, 730, 731, 732, 733, 734, 735, 736, 737, 738, 739, 740, 741, 742, 743, 744, 745] (by decide +kernel) (by decide +kernel)
set_option maxRecDepth 20000 in
theorem gL_law_X8_write : GoodIn wsL_law (wsV RL 96 RX8 yX8_write wsX8_write) := goodIn_app (goodIn_of _ (by decide +kernel)) ggL_law_X8_write
set_option maxRecDepth 20000 in
theorem ggL_law_X7_tear : GoodIn wsL_law wsX7_tear := goodIn_r _ [684, 27, 110, 722, 723, 724, 725, 726, 727, 728, 765, 766, 767] (by decide +kernel) (by decide +kernel)
set_option maxRecDepth 20000 in
theorem gL_law_X7_tear : GoodIn wsL_law (wsV RL 97 RX7 yX7_tear wsX7_tear) := goodIn_app (goodIn_of _ (by decide +kernel)) ggL_law_X7_tear
set_option maxRecDepth 20000 in
theorem ggL_law_X8_tear : GoodIn wsL_law wsX8_tear := goodIn_r _ [688, 243, 729, 730, 731, 732, 733, 734, 735, 736, 737, 738, 739, 740, 741, 742, 743, 744, 745] (by decide +kernel) (by decide +kernel)
set_option maxRecDepth 20000 in
theorem gL_law_X8_tear : GoodIn wsL_law (wsV RL 100 RX8 yX8_tear wsX8_tear) := goodIn_app (goodIn_of _ (by decide +kernel)) ggL_law_X8_tear
set_option maxRecDepth 20000 in
theorem ggL_law_X7_seed : GoodIn wsL_law wsX7_seed := goodIn_r _ [692, 113, 31, 112, 722, 723, 724, 725, 726, 727, 728, 768] (by decide +kernel) (by decide +kernel)
set_option maxRecDepth 20000 in
theorem gL_law_X7_seed : GoodIn wsL_law (wsV RL 101 RX7 yX7_seed wsX7_seed) := goodIn_app (goodIn_of _ (by decide +kernel)) ggL_law_X7_seed
set_option maxRecDepth 20000 in
theorem ggL_law_X8_seed : GoodIn wsL_law wsX8_seed := goodIn_r _ [696, 246, 245, 729, 730, 731, 732, 733, 734, 735, 736, 737, 738, 739, 740, 741, 742, 743, 744, 745] (by decide +kernel) (by decide +kernel)
set_option maxRecDepth 20000 in
theorem gL_law_X8_seed : GoodIn wsL_law (wsV RL 104 RX8 yX8_seed wsX8_seed) := goodIn_app (goodIn_of _ (by decide +kernel)) ggL_law_X8_seed
set_option maxRecDepth 20000 in
theorem ggL_law_X7_keep : GoodIn wsL_law wsX7_keep := goodIn_r _ [700, 378, 33, 701, 31, 112, 702, 703, 15, 19, 417, 418, 2, 419, 704, 529, 530, 14, 531, 42, 532, 533, 44, 534, 535, 536, 537, 45, 46, 705, 706, 707, 18, 708, 523, 722, 723, 724, 725, 726, 727, 728, 769, 770, 771, 768, 746, 747, 748, 749, 750, 751, 752, 753, 754] (by decide +kernel) (by decide +kernel)
set_option maxRecDepth 20000 in
theorem gL_law_X7_keep : GoodIn wsL_law (wsV RL 105 RX7 yX7_keep wsX7_keep) := goodIn_app (goodIn_of _ (by decide +kernel)) ggL_law_X7_keep
set_option maxRecDepth 20000 in
theorem ggL_law_X8_keep : GoodIn wsL_law wsX8_keep := goodIn_r _ [712, 387, 88, 245, 713, 244, 322, 323, 5, 324, 552, 553, 554, 555, 87, 729, 730, 731, 732, 733, 734, 735, 736, 737, 738, 739, 740, 741, 742, 743, 744, 745] (by decide +kernel) (by decide +kernel)
set_option maxRecDepth 20000 in
theorem gL_law_X8_keep : GoodIn wsL_law (wsV RL 108 RX8 yX8_keep wsX8_keep) := goodIn_app (goodIn_of _ (by decide +kernel)) ggL_law_X8_keep
set_option maxRecDepth 20000 in
theorem ggL_law_X7_goBack : GoodIn wsL_law wsX7_goBack := goodIn_r _ [717, 378, 33, 701, 564, 31, 702, 112, 15, 703, 19, 417, 418, 2, 419, 704, 529, 530, 14, 531, 42, 532, 533, 44, 534, 535, 536, 537, 45, 46, 705, 706, 707, 18, 708, 523, 722, 723, 724, 725, 726, 727, 728, 769, 770, 771, 768, 746, 747, 748, 749, 750, 751, 752, 753, 754] (by decide +kernel) (by decide +kernel)
set_option maxRecDepth 20000 in
theorem gL_law_X7_goBack : GoodIn wsL_law (wsV RL 109 RX7 yX7_goBack wsX7_goBack) := goodIn_app (goodIn_of _ (by decide +kernel)) ggL_law_X7_goBack
set_option maxRecDepth 20000 in
theorem ggL_law_X8_goBack : GoodIn wsL_law wsX8_goBack := goodIn_r _ [721, 387, 713, 574, 88, 245, 244, 322, 323, 5, 324, 552, 553, 554, 555, 87, 729, 730, 731, 732, 733, 734, 735, 736, 737, 738, 739, 740, 741, 742, 743, 744, 745] (by decide +kernel) (by decide +kernel)
set_option maxRecDepth 20000 in
theorem gL_law_X8_goBack : GoodIn wsL_law (wsV RL 112 RX8 yX8_goBack wsX8_goBack) := goodIn_app (goodIn_of _ (by decide +kernel)) ggL_law_X8_goBack
theorem dL_law_0 : decode cL_law 0 = .ok (.new 7, 3) := by decide +kernel
theorem dL_law_3 : decode cL_law 3 = .ok (.dup, 1) := by decide +kernel
theorem dL_law_4 : decode cL_law 4 = .ok (.invokespecial 9, 3) := by decide +kernel
theorem dL_law_7 : decode cL_law 7 = .ok (.astore_n 1, 1) := by decide +kernel
theorem dL_law_8 : decode cL_law 8 = .ok (.new 10, 3) := by decide +kernel
theorem dL_law_11 : decode cL_law 11 = .ok (.dup, 1) := by decide +kernel
theorem dL_law_12 : decode cL_law 12 = .ok (.invokespecial 12, 3) := by decide +kernel
theorem dL_law_15 : decode cL_law 15 = .ok (.astore_n 2, 1) := by decide +kernel
theorem dL_law_16 : decode cL_law 16 = .ok (.iconst 0, 1) := by decide +kernel
theorem dL_law_17 : decode cL_law 17 = .ok (.istore_n 3, 1) := by decide +kernel
theorem dL_law_18 : decode cL_law 18 = .ok (.iload_n 3, 1) := by decide +kernel
theorem dL_law_19 : decode cL_law 19 = .ok (.aload_n 0, 1) := by decide +kernel
theorem dL_law_20 : decode cL_law 20 = .ok (.arraylength, 1) := by decide +kernel
theorem dL_law_21 : decode cL_law 21 = .ok (.iconst 3, 1) := by decide +kernel
theorem dL_law_22 : decode cL_law 22 = .ok (.isub, 1) := by decide +kernel
theorem dL_law_23 : decode cL_law 23 = .ok (.if_icmp .gt 792, 3) := by decide +kernel
theorem dL_law_26 : decode cL_law 26 = .ok (.aload_n 0, 1) := by decide +kernel
theorem dL_law_27 : decode cL_law 27 = .ok (.iload_n 3, 1) := by decide +kernel
theorem dL_law_28 : decode cL_law 28 = .ok (.iaload, 1) := by decide +kernel
theorem dL_law_29 : decode cL_law 29 = .ok (.bipush 31, 2) := by decide +kernel
theorem dL_law_31 : decode cL_law 31 = .ok (.iand, 1) := by decide +kernel
theorem dL_law_32 : decode cL_law 32 = .ok (.tableswitch 777 0 23 #[112, 135, 168, 201, 234, 268, 301, 324, 357, 391, 425, 458, 471, 504, 537, 570, 593, 616, 639, 662, 695, 708, 731, 754], 112) := by decide +kernel
theorem dL_law_144 : decode cL_law 144 = .ok (.aload_n 1, 1) := by decide +kernel
theorem dL_law_145 : decode cL_law 145 = .ok (.aload_n 0, 1) := by decide +kernel
theorem dL_law_146 : decode cL_law 146 = .ok (.iload_n 3, 1) := by decide +kernel
theorem dL_law_147 : decode cL_law 147 = .ok (.iconst 1, 1) := by decide +kernel
theorem dL_law_148 : decode cL_law 148 = .ok (.iadd, 1) := by decide +kernel
theorem dL_law_149 : decode cL_law 149 = .ok (.iaload, 1) := by decide +kernel
theorem dL_law_150 : decode cL_law 150 = .ok (.invokevirtual 13, 3) := by decide +kernel
theorem dL_law_153 : decode cL_law 153 = .ok (.aload_n 2, 1) := by decide +kernel
theorem dL_law_154 : decode cL_law 154 = .ok (.aload_n 0, 1) := by decide +kernel
theorem dL_law_155 : decode cL_law 155 = .ok (.iload_n 3, 1) := by decide +kernel
theorem dL_law_156 : decode cL_law 156 = .ok (.iconst 1, 1) := by decide +kernel
theorem dL_law_157 : decode cL_law 157 = .ok (.iadd, 1) := by decide +kernel
theorem dL_law_158 : decode cL_law 158 = .ok (.iaload, 1) := by decide +kernel
theorem dL_law_159 : decode cL_law 159 = .ok (.invokevirtual 17, 3) := by decide +kernel
theorem dL_law_162 : decode cL_law 162 = .ok (.if_icmp .eq 647, 3) := by decide +kernel
theorem dL_law_165 : decode cL_law 165 = .ok (.iconst 0, 1) := by decide +kernel
theorem dL_law_166 : decode cL_law 166 = .ok (.ireturn, 1) := by decide +kernel
theorem dL_law_167 : decode cL_law 167 = .ok (.aload_n 1, 1) := by decide +kernel
theorem dL_law_168 : decode cL_law 168 = .ok (.aload_n 0, 1) := by decide +kernel
theorem dL_law_169 : decode cL_law 169 = .ok (.iload_n 3, 1) := by decide +kernel
theorem dL_law_170 : decode cL_law 170 = .ok (.iconst 1, 1) := by decide +kernel
theorem dL_law_171 : decode cL_law 171 = .ok (.iadd, 1) := by decide +kernel
theorem dL_law_172 : decode cL_law 172 = .ok (.iaload, 1) := by decide +kernel
theorem dL_law_173 : decode cL_law 173 = .ok (.aload_n 0, 1) := by decide +kernel
theorem dL_law_174 : decode cL_law 174 = .ok (.iload_n 3, 1) := by decide +kernel
theorem dL_law_175 : decode cL_law 175 = .ok (.iconst 2, 1) := by decide +kernel
theorem dL_law_176 : decode cL_law 176 = .ok (.iadd, 1) := by decide +kernel
theorem dL_law_177 : decode cL_law 177 = .ok (.iaload, 1) := by decide +kernel
theorem dL_law_178 : decode cL_law 178 = .ok (.invokevirtual 18, 3) := by decide +kernel
theorem dL_law_181 : decode cL_law 181 = .ok (.aload_n 2, 1) := by decide +kernel
theorem dL_law_182 : decode cL_law 182 = .ok (.aload_n 0, 1) := by decide +kernel
theorem dL_law_183 : decode cL_law 183 = .ok (.iload_n 3, 1) := by decide +kernel
theorem dL_law_184 : decode cL_law 184 = .ok (.iconst 1, 1) := by decide +kernel
theorem dL_law_185 : decode cL_law 185 = .ok (.iadd, 1) := by decide +kernel
theorem dL_law_186 : decode cL_law 186 = .ok (.iaload, 1) := by decide +kernel
theorem dL_law_187 : decode cL_law 187 = .ok (.aload_n 0, 1) := by decide +kernel
theorem dL_law_188 : decode cL_law 188 = .ok (.iload_n 3, 1) := by decide +kernel
theorem dL_law_189 : decode cL_law 189 = .ok (.iconst 2, 1) := by decide +kernel
theorem dL_law_190 : decode cL_law 190 = .ok (.iadd, 1) := by decide +kernel
theorem dL_law_191 : decode cL_law 191 = .ok (.iaload, 1) := by decide +kernel
theorem dL_law_192 : decode cL_law 192 = .ok (.invokevirtual 22, 3) := by decide +kernel
theorem dL_law_195 : decode cL_law 195 = .ok (.if_icmp .eq 614, 3) := by decide +kernel
theorem dL_law_198 : decode cL_law 198 = .ok (.iconst 0, 1) := by decide +kernel
theorem dL_law_199 : decode cL_law 199 = .ok (.ireturn, 1) := by decide +kernel
theorem dL_law_200 : decode cL_law 200 = .ok (.aload_n 1, 1) := by decide +kernel
theorem dL_law_201 : decode cL_law 201 = .ok (.aload_n 0, 1) := by decide +kernel
theorem dL_law_202 : decode cL_law 202 = .ok (.iload_n 3, 1) := by decide +kernel
theorem dL_law_203 : decode cL_law 203 = .ok (.iconst 1, 1) := by decide +kernel
theorem dL_law_204 : decode cL_law 204 = .ok (.iadd, 1) := by decide +kernel
theorem dL_law_205 : decode cL_law 205 = .ok (.iaload, 1) := by decide +kernel
theorem dL_law_206 : decode cL_law 206 = .ok (.aload_n 0, 1) := by decide +kernel
theorem dL_law_207 : decode cL_law 207 = .ok (.iload_n 3, 1) := by decide +kernel
theorem dL_law_208 : decode cL_law 208 = .ok (.iconst 2, 1) := by decide +kernel
theorem dL_law_209 : decode cL_law 209 = .ok (.iadd, 1) := by decide +kernel
theorem dL_law_210 : decode cL_law 210 = .ok (.iaload, 1) := by decide +kernel
theorem dL_law_211 : decode cL_law 211 = .ok (.invokevirtual 23, 3) := by decide +kernel
theorem dL_law_214 : decode cL_law 214 = .ok (.aload_n 2, 1) := by decide +kernel
theorem dL_law_215 : decode cL_law 215 = .ok (.aload_n 0, 1) := by decide +kernel
theorem dL_law_216 : decode cL_law 216 = .ok (.iload_n 3, 1) := by decide +kernel
theorem dL_law_217 : decode cL_law 217 = .ok (.iconst 1, 1) := by decide +kernel
theorem dL_law_218 : decode cL_law 218 = .ok (.iadd, 1) := by decide +kernel
theorem dL_law_219 : decode cL_law 219 = .ok (.iaload, 1) := by decide +kernel
theorem dL_law_220 : decode cL_law 220 = .ok (.aload_n 0, 1) := by decide +kernel
theorem dL_law_221 : decode cL_law 221 = .ok (.iload_n 3, 1) := by decide +kernel
theorem dL_law_222 : decode cL_law 222 = .ok (.iconst 2, 1) := by decide +kernel
theorem dL_law_223 : decode cL_law 223 = .ok (.iadd, 1) := by decide +kernel
theorem dL_law_224 : decode cL_law 224 = .ok (.iaload, 1) := by decide +kernel
theorem dL_law_225 : decode cL_law 225 = .ok (.invokevirtual 26, 3) := by decide +kernel
theorem dL_law_228 : decode cL_law 228 = .ok (.if_icmp .eq 581, 3) := by decide +kernel
theorem dL_law_231 : decode cL_law 231 = .ok (.iconst 0, 1) := by decide +kernel
theorem dL_law_232 : decode cL_law 232 = .ok (.ireturn, 1) := by decide +kernel
theorem dL_law_233 : decode cL_law 233 = .ok (.aload_n 1, 1) := by decide +kernel
theorem dL_law_234 : decode cL_law 234 = .ok (.aload_n 0, 1) := by decide +kernel
theorem dL_law_235 : decode cL_law 235 = .ok (.iload_n 3, 1) := by decide +kernel
theorem dL_law_236 : decode cL_law 236 = .ok (.iconst 1, 1) := by decide +kernel
theorem dL_law_237 : decode cL_law 237 = .ok (.iadd, 1) := by decide +kernel
theorem dL_law_238 : decode cL_law 238 = .ok (.iaload, 1) := by decide +kernel
theorem dL_law_239 : decode cL_law 239 = .ok (.aload_n 0, 1) := by decide +kernel
theorem dL_law_240 : decode cL_law 240 = .ok (.iload_n 3, 1) := by decide +kernel
theorem dL_law_241 : decode cL_law 241 = .ok (.iconst 2, 1) := by decide +kernel
theorem dL_law_242 : decode cL_law 242 = .ok (.iadd, 1) := by decide +kernel
theorem dL_law_243 : decode cL_law 243 = .ok (.iaload, 1) := by decide +kernel
theorem dL_law_244 : decode cL_law 244 = .ok (.invokevirtual 27, 3) := by decide +kernel
theorem dL_law_247 : decode cL_law 247 = .ok (.aload_n 2, 1) := by decide +kernel
theorem dL_law_248 : decode cL_law 248 = .ok (.aload_n 0, 1) := by decide +kernel
theorem dL_law_249 : decode cL_law 249 = .ok (.iload_n 3, 1) := by decide +kernel
theorem dL_law_250 : decode cL_law 250 = .ok (.iconst 1, 1) := by decide +kernel
theorem dL_law_251 : decode cL_law 251 = .ok (.iadd, 1) := by decide +kernel
theorem dL_law_252 : decode cL_law 252 = .ok (.iaload, 1) := by decide +kernel
theorem dL_law_253 : decode cL_law 253 = .ok (.aload_n 0, 1) := by decide +kernel
theorem dL_law_254 : decode cL_law 254 = .ok (.iload_n 3, 1) := by decide +kernel
theorem dL_law_255 : decode cL_law 255 = .ok (.iconst 2, 1) := by decide +kernel
theorem dL_law_256 : decode cL_law 256 = .ok (.iadd, 1) := by decide +kernel
theorem dL_law_257 : decode cL_law 257 = .ok (.iaload, 1) := by decide +kernel
theorem dL_law_258 : decode cL_law 258 = .ok (.invokevirtual 30, 3) := by decide +kernel
theorem dL_law_261 : decode cL_law 261 = .ok (.if_icmp .eq 548, 3) := by decide +kernel
theorem dL_law_264 : decode cL_law 264 = .ok (.iconst 0, 1) := by decide +kernel
theorem dL_law_265 : decode cL_law 265 = .ok (.ireturn, 1) := by decide +kernel
theorem dL_law_266 : decode cL_law 266 = .ok (.aload_n 1, 1) := by decide +kernel
theorem dL_law_267 : decode cL_law 267 = .ok (.aload_n 0, 1) := by decide +kernel
theorem dL_law_268 : decode cL_law 268 = .ok (.iload_n 3, 1) := by decide +kernel
theorem dL_law_269 : decode cL_law 269 = .ok (.iconst 1, 1) := by decide +kernel
theorem dL_law_270 : decode cL_law 270 = .ok (.iadd, 1) := by decide +kernel
theorem dL_law_271 : decode cL_law 271 = .ok (.iaload, 1) := by decide +kernel
theorem dL_law_272 : decode cL_law 272 = .ok (.aload_n 0, 1) := by decide +kernel
theorem dL_law_273 : decode cL_law 273 = .ok (.iload_n 3, 1) := by decide +kernel
theorem dL_law_274 : decode cL_law 274 = .ok (.iconst 2, 1) := by decide +kernel
theorem dL_law_275 : decode cL_law 275 = .ok (.iadd, 1) := by decide +kernel
theorem dL_law_276 : decode cL_law 276 = .ok (.iaload, 1) := by decide +kernel
theorem dL_law_277 : decode cL_law 277 = .ok (.invokevirtual 31, 3) := by decide +kernel
theorem dL_law_280 : decode cL_law 280 = .ok (.aload_n 2, 1) := by decide +kernel
theorem dL_law_281 : decode cL_law 281 = .ok (.aload_n 0, 1) := by decide +kernel
theorem dL_law_282 : decode cL_law 282 = .ok (.iload_n 3, 1) := by decide +kernel
theorem dL_law_283 : decode cL_law 283 = .ok (.iconst 1, 1) := by decide +kernel
theorem dL_law_284 : decode cL_law 284 = .ok (.iadd, 1) := by decide +kernel
theorem dL_law_285 : decode cL_law 285 = .ok (.iaload, 1) := by decide +kernel
theorem dL_law_286 : decode cL_law 286 = .ok (.aload_n 0, 1) := by decide +kernel
theorem dL_law_287 : decode cL_law 287 = .ok (.iload_n 3, 1) := by decide +kernel
theorem dL_law_288 : decode cL_law 288 = .ok (.iconst 2, 1) := by decide +kernel
theorem dL_law_289 : decode cL_law 289 = .ok (.iadd, 1) := by decide +kernel
theorem dL_law_290 : decode cL_law 290 = .ok (.iaload, 1) := by decide +kernel
theorem dL_law_291 : decode cL_law 291 = .ok (.invokevirtual 35, 3) := by decide +kernel
theorem dL_law_294 : decode cL_law 294 = .ok (.lcmp, 1) := by decide +kernel
theorem dL_law_295 : decode cL_law 295 = .ok (.ifCond .eq 514, 3) := by decide +kernel
theorem dL_law_298 : decode cL_law 298 = .ok (.iconst 0, 1) := by decide +kernel
theorem dL_law_299 : decode cL_law 299 = .ok (.ireturn, 1) := by decide +kernel
theorem dL_law_300 : decode cL_law 300 = .ok (.aload_n 1, 1) := by decide +kernel
theorem dL_law_301 : decode cL_law 301 = .ok (.aload_n 0, 1) := by decide +kernel
theorem dL_law_302 : decode cL_law 302 = .ok (.iload_n 3, 1) := by decide +kernel
theorem dL_law_303 : decode cL_law 303 = .ok (.iconst 1, 1) := by decide +kernel
theorem dL_law_304 : decode cL_law 304 = .ok (.iadd, 1) := by decide +kernel
theorem dL_law_305 : decode cL_law 305 = .ok (.iaload, 1) := by decide +kernel
theorem dL_law_306 : decode cL_law 306 = .ok (.aload_n 0, 1) := by decide +kernel
theorem dL_law_307 : decode cL_law 307 = .ok (.iload_n 3, 1) := by decide +kernel
theorem dL_law_308 : decode cL_law 308 = .ok (.iconst 2, 1) := by decide +kernel
theorem dL_law_309 : decode cL_law 309 = .ok (.iadd, 1) := by decide +kernel
theorem dL_law_310 : decode cL_law 310 = .ok (.iaload, 1) := by decide +kernel
theorem dL_law_311 : decode cL_law 311 = .ok (.invokevirtual 36, 3) := by decide +kernel
theorem dL_law_314 : decode cL_law 314 = .ok (.aload_n 2, 1) := by decide +kernel
theorem dL_law_315 : decode cL_law 315 = .ok (.aload_n 0, 1) := by decide +kernel
theorem dL_law_316 : decode cL_law 316 = .ok (.iload_n 3, 1) := by decide +kernel
theorem dL_law_317 : decode cL_law 317 = .ok (.iconst 1, 1) := by decide +kernel
theorem dL_law_318 : decode cL_law 318 = .ok (.iadd, 1) := by decide +kernel
theorem dL_law_319 : decode cL_law 319 = .ok (.iaload, 1) := by decide +kernel
theorem dL_law_320 : decode cL_law 320 = .ok (.aload_n 0, 1) := by decide +kernel
theorem dL_law_321 : decode cL_law 321 = .ok (.iload_n 3, 1) := by decide +kernel
theorem dL_law_322 : decode cL_law 322 = .ok (.iconst 2, 1) := by decide +kernel
theorem dL_law_323 : decode cL_law 323 = .ok (.iadd, 1) := by decide +kernel
theorem dL_law_324 : decode cL_law 324 = .ok (.iaload, 1) := by decide +kernel
theorem dL_law_325 : decode cL_law 325 = .ok (.invokevirtual 39, 3) := by decide +kernel
theorem dL_law_328 : decode cL_law 328 = .ok (.if_icmp .eq 481, 3) := by decide +kernel
theorem dL_law_331 : decode cL_law 331 = .ok (.iconst 0, 1) := by decide +kernel
theorem dL_law_332 : decode cL_law 332 = .ok (.ireturn, 1) := by decide +kernel
theorem dL_law_333 : decode cL_law 333 = .ok (.aload_n 1, 1) := by decide +kernel
theorem dL_law_334 : decode cL_law 334 = .ok (.aload_n 0, 1) := by decide +kernel
theorem dL_law_335 : decode cL_law 335 = .ok (.iload_n 3, 1) := by decide +kernel
theorem dL_law_336 : decode cL_law 336 = .ok (.iconst 1, 1) := by decide +kernel
theorem dL_law_337 : decode cL_law 337 = .ok (.iadd, 1) := by decide +kernel
theorem dL_law_338 : decode cL_law 338 = .ok (.iaload, 1) := by decide +kernel
theorem dL_law_339 : decode cL_law 339 = .ok (.invokevirtual 40, 3) := by decide +kernel
theorem dL_law_342 : decode cL_law 342 = .ok (.aload_n 2, 1) := by decide +kernel
theorem dL_law_343 : decode cL_law 343 = .ok (.aload_n 0, 1) := by decide +kernel
theorem dL_law_344 : decode cL_law 344 = .ok (.iload_n 3, 1) := by decide +kernel
theorem dL_law_345 : decode cL_law 345 = .ok (.iconst 1, 1) := by decide +kernel
theorem dL_law_346 : decode cL_law 346 = .ok (.iadd, 1) := by decide +kernel
theorem dL_law_347 : decode cL_law 347 = .ok (.iaload, 1) := by decide +kernel
theorem dL_law_348 : decode cL_law 348 = .ok (.invokevirtual 43, 3) := by decide +kernel
theorem dL_law_351 : decode cL_law 351 = .ok (.if_icmp .eq 458, 3) := by decide +kernel
theorem dL_law_354 : decode cL_law 354 = .ok (.iconst 0, 1) := by decide +kernel
theorem dL_law_355 : decode cL_law 355 = .ok (.ireturn, 1) := by decide +kernel
theorem dL_law_356 : decode cL_law 356 = .ok (.aload_n 1, 1) := by decide +kernel
theorem dL_law_357 : decode cL_law 357 = .ok (.aload_n 0, 1) := by decide +kernel
theorem dL_law_358 : decode cL_law 358 = .ok (.iload_n 3, 1) := by decide +kernel
theorem dL_law_359 : decode cL_law 359 = .ok (.iconst 1, 1) := by decide +kernel
theorem dL_law_360 : decode cL_law 360 = .ok (.iadd, 1) := by decide +kernel
theorem dL_law_361 : decode cL_law 361 = .ok (.iaload, 1) := by decide +kernel
theorem dL_law_362 : decode cL_law 362 = .ok (.aload_n 0, 1) := by decide +kernel
theorem dL_law_363 : decode cL_law 363 = .ok (.iload_n 3, 1) := by decide +kernel
theorem dL_law_364 : decode cL_law 364 = .ok (.iconst 2, 1) := by decide +kernel
theorem dL_law_365 : decode cL_law 365 = .ok (.iadd, 1) := by decide +kernel
theorem dL_law_366 : decode cL_law 366 = .ok (.iaload, 1) := by decide +kernel
theorem dL_law_367 : decode cL_law 367 = .ok (.invokevirtual 44, 3) := by decide +kernel
theorem dL_law_370 : decode cL_law 370 = .ok (.aload_n 2, 1) := by decide +kernel
theorem dL_law_371 : decode cL_law 371 = .ok (.aload_n 0, 1) := by decide +kernel
theorem dL_law_372 : decode cL_law 372 = .ok (.iload_n 3, 1) := by decide +kernel
theorem dL_law_373 : decode cL_law 373 = .ok (.iconst 1, 1) := by decide +kernel
theorem dL_law_374 : decode cL_law 374 = .ok (.iadd, 1) := by decide +kernel
theorem dL_law_375 : decode cL_law 375 = .ok (.iaload, 1) := by decide +kernel
theorem dL_law_376 : decode cL_law 376 = .ok (.aload_n 0, 1) := by decide +kernel
theorem dL_law_377 : decode cL_law 377 = .ok (.iload_n 3, 1) := by decide +kernel
theorem dL_law_378 : decode cL_law 378 = .ok (.iconst 2, 1) := by decide +kernel
theorem dL_law_379 : decode cL_law 379 = .ok (.iadd, 1) := by decide +kernel
theorem dL_law_380 : decode cL_law 380 = .ok (.iaload, 1) := by decide +kernel
theorem dL_law_381 : decode cL_law 381 = .ok (.invokevirtual 47, 3) := by decide +kernel
theorem dL_law_384 : decode cL_law 384 = .ok (.if_icmp .eq 425, 3) := by decide +kernel
theorem dL_law_387 : decode cL_law 387 = .ok (.iconst 0, 1) := by decide +kernel
theorem dL_law_388 : decode cL_law 388 = .ok (.ireturn, 1) := by decide +kernel
theorem dL_law_389 : decode cL_law 389 = .ok (.aload_n 1, 1) := by decide +kernel
theorem dL_law_390 : decode cL_law 390 = .ok (.aload_n 0, 1) := by decide +kernel
theorem dL_law_391 : decode cL_law 391 = .ok (.iload_n 3, 1) := by decide +kernel
theorem dL_law_392 : decode cL_law 392 = .ok (.iconst 1, 1) := by decide +kernel
theorem dL_law_393 : decode cL_law 393 = .ok (.iadd, 1) := by decide +kernel
theorem dL_law_394 : decode cL_law 394 = .ok (.iaload, 1) := by decide +kernel
theorem dL_law_395 : decode cL_law 395 = .ok (.aload_n 0, 1) := by decide +kernel
theorem dL_law_396 : decode cL_law 396 = .ok (.iload_n 3, 1) := by decide +kernel
theorem dL_law_397 : decode cL_law 397 = .ok (.iconst 2, 1) := by decide +kernel
theorem dL_law_398 : decode cL_law 398 = .ok (.iadd, 1) := by decide +kernel
theorem dL_law_399 : decode cL_law 399 = .ok (.iaload, 1) := by decide +kernel
theorem dL_law_400 : decode cL_law 400 = .ok (.invokevirtual 48, 3) := by decide +kernel
theorem dL_law_403 : decode cL_law 403 = .ok (.aload_n 2, 1) := by decide +kernel
theorem dL_law_404 : decode cL_law 404 = .ok (.aload_n 0, 1) := by decide +kernel
theorem dL_law_405 : decode cL_law 405 = .ok (.iload_n 3, 1) := by decide +kernel
theorem dL_law_406 : decode cL_law 406 = .ok (.iconst 1, 1) := by decide +kernel
theorem dL_law_407 : decode cL_law 407 = .ok (.iadd, 1) := by decide +kernel
theorem dL_law_408 : decode cL_law 408 = .ok (.iaload, 1) := by decide +kernel
theorem dL_law_409 : decode cL_law 409 = .ok (.aload_n 0, 1) := by decide +kernel
theorem dL_law_410 : decode cL_law 410 = .ok (.iload_n 3, 1) := by decide +kernel
theorem dL_law_411 : decode cL_law 411 = .ok (.iconst 2, 1) := by decide +kernel
theorem dL_law_412 : decode cL_law 412 = .ok (.iadd, 1) := by decide +kernel
theorem dL_law_413 : decode cL_law 413 = .ok (.iaload, 1) := by decide +kernel
theorem dL_law_414 : decode cL_law 414 = .ok (.invokevirtual 51, 3) := by decide +kernel
theorem dL_law_417 : decode cL_law 417 = .ok (.lcmp, 1) := by decide +kernel
theorem dL_law_418 : decode cL_law 418 = .ok (.ifCond .eq 391, 3) := by decide +kernel
theorem dL_law_421 : decode cL_law 421 = .ok (.iconst 0, 1) := by decide +kernel
theorem dL_law_422 : decode cL_law 422 = .ok (.ireturn, 1) := by decide +kernel
theorem dL_law_423 : decode cL_law 423 = .ok (.aload_n 1, 1) := by decide +kernel
theorem dL_law_424 : decode cL_law 424 = .ok (.aload_n 0, 1) := by decide +kernel
theorem dL_law_425 : decode cL_law 425 = .ok (.iload_n 3, 1) := by decide +kernel
theorem dL_law_426 : decode cL_law 426 = .ok (.iconst 1, 1) := by decide +kernel
theorem dL_law_427 : decode cL_law 427 = .ok (.iadd, 1) := by decide +kernel
theorem dL_law_428 : decode cL_law 428 = .ok (.iaload, 1) := by decide +kernel
theorem dL_law_429 : decode cL_law 429 = .ok (.aload_n 0, 1) := by decide +kernel
theorem dL_law_430 : decode cL_law 430 = .ok (.iload_n 3, 1) := by decide +kernel
theorem dL_law_431 : decode cL_law 431 = .ok (.iconst 2, 1) := by decide +kernel
theorem dL_law_432 : decode cL_law 432 = .ok (.iadd, 1) := by decide +kernel
theorem dL_law_433 : decode cL_law 433 = .ok (.iaload, 1) := by decide +kernel
theorem dL_law_434 : decode cL_law 434 = .ok (.invokevirtual 52, 3) := by decide +kernel
theorem dL_law_437 : decode cL_law 437 = .ok (.aload_n 2, 1) := by decide +kernel
theorem dL_law_438 : decode cL_law 438 = .ok (.aload_n 0, 1) := by decide +kernel
theorem dL_law_439 : decode cL_law 439 = .ok (.iload_n 3, 1) := by decide +kernel
theorem dL_law_440 : decode cL_law 440 = .ok (.iconst 1, 1) := by decide +kernel
theorem dL_law_441 : decode cL_law 441 = .ok (.iadd, 1) := by decide +kernel
theorem dL_law_442 : decode cL_law 442 = .ok (.iaload, 1) := by decide +kernel
theorem dL_law_443 : decode cL_law 443 = .ok (.aload_n 0, 1) := by decide +kernel
theorem dL_law_444 : decode cL_law 444 = .ok (.iload_n 3, 1) := by decide +kernel
theorem dL_law_445 : decode cL_law 445 = .ok (.iconst 2, 1) := by decide +kernel
theorem dL_law_446 : decode cL_law 446 = .ok (.iadd, 1) := by decide +kernel
theorem dL_law_447 : decode cL_law 447 = .ok (.iaload, 1) := by decide +kernel
theorem dL_law_448 : decode cL_law 448 = .ok (.invokevirtual 55, 3) := by decide +kernel
theorem dL_law_451 : decode cL_law 451 = .ok (.lcmp, 1) := by decide +kernel
theorem dL_law_452 : decode cL_law 452 = .ok (.ifCond .eq 357, 3) := by decide +kernel
theorem dL_law_455 : decode cL_law 455 = .ok (.iconst 0, 1) := by decide +kernel
theorem dL_law_456 : decode cL_law 456 = .ok (.ireturn, 1) := by decide +kernel
theorem dL_law_457 : decode cL_law 457 = .ok (.aload_n 1, 1) := by decide +kernel
theorem dL_law_458 : decode cL_law 458 = .ok (.aload_n 0, 1) := by decide +kernel
theorem dL_law_459 : decode cL_law 459 = .ok (.iload_n 3, 1) := by decide +kernel
theorem dL_law_460 : decode cL_law 460 = .ok (.iconst 1, 1) := by decide +kernel
theorem dL_law_461 : decode cL_law 461 = .ok (.iadd, 1) := by decide +kernel
theorem dL_law_462 : decode cL_law 462 = .ok (.iaload, 1) := by decide +kernel
theorem dL_law_463 : decode cL_law 463 = .ok (.aload_n 0, 1) := by decide +kernel
theorem dL_law_464 : decode cL_law 464 = .ok (.iload_n 3, 1) := by decide +kernel
theorem dL_law_465 : decode cL_law 465 = .ok (.iconst 2, 1) := by decide +kernel
theorem dL_law_466 : decode cL_law 466 = .ok (.iadd, 1) := by decide +kernel
theorem dL_law_467 : decode cL_law 467 = .ok (.iaload, 1) := by decide +kernel
theorem dL_law_468 : decode cL_law 468 = .ok (.invokevirtual 56, 3) := by decide +kernel
theorem dL_law_471 : decode cL_law 471 = .ok (.aload_n 2, 1) := by decide +kernel
theorem dL_law_472 : decode cL_law 472 = .ok (.aload_n 0, 1) := by decide +kernel
theorem dL_law_473 : decode cL_law 473 = .ok (.iload_n 3, 1) := by decide +kernel
theorem dL_law_474 : decode cL_law 474 = .ok (.iconst 1, 1) := by decide +kernel
theorem dL_law_475 : decode cL_law 475 = .ok (.iadd, 1) := by decide +kernel
theorem dL_law_476 : decode cL_law 476 = .ok (.iaload, 1) := by decide +kernel
theorem dL_law_477 : decode cL_law 477 = .ok (.aload_n 0, 1) := by decide +kernel
theorem dL_law_478 : decode cL_law 478 = .ok (.iload_n 3, 1) := by decide +kernel
theorem dL_law_479 : decode cL_law 479 = .ok (.iconst 2, 1) := by decide +kernel
theorem dL_law_480 : decode cL_law 480 = .ok (.iadd, 1) := by decide +kernel
theorem dL_law_481 : decode cL_law 481 = .ok (.iaload, 1) := by decide +kernel
theorem dL_law_482 : decode cL_law 482 = .ok (.invokevirtual 59, 3) := by decide +kernel
theorem dL_law_485 : decode cL_law 485 = .ok (.if_icmp .eq 324, 3) := by decide +kernel
theorem dL_law_488 : decode cL_law 488 = .ok (.iconst 0, 1) := by decide +kernel
theorem dL_law_489 : decode cL_law 489 = .ok (.ireturn, 1) := by decide +kernel
theorem dL_law_490 : decode cL_law 490 = .ok (.aload_n 1, 1) := by decide +kernel
theorem dL_law_491 : decode cL_law 491 = .ok (.invokevirtual 60, 3) := by decide +kernel
theorem dL_law_494 : decode cL_law 494 = .ok (.aload_n 2, 1) := by decide +kernel
theorem dL_law_495 : decode cL_law 495 = .ok (.invokevirtual 64, 3) := by decide +kernel
theorem dL_law_498 : decode cL_law 498 = .ok (.if_icmp .eq 311, 3) := by decide +kernel
theorem dL_law_501 : decode cL_law 501 = .ok (.iconst 0, 1) := by decide +kernel
theorem dL_law_502 : decode cL_law 502 = .ok (.ireturn, 1) := by decide +kernel
theorem dL_law_503 : decode cL_law 503 = .ok (.aload_n 1, 1) := by decide +kernel
theorem dL_law_504 : decode cL_law 504 = .ok (.aload_n 0, 1) := by decide +kernel
theorem dL_law_505 : decode cL_law 505 = .ok (.iload_n 3, 1) := by decide +kernel
theorem dL_law_506 : decode cL_law 506 = .ok (.iconst 1, 1) := by decide +kernel
theorem dL_law_507 : decode cL_law 507 = .ok (.iadd, 1) := by decide +kernel
theorem dL_law_508 : decode cL_law 508 = .ok (.iaload, 1) := by decide +kernel
theorem dL_law_509 : decode cL_law 509 = .ok (.aload_n 0, 1) := by decide +kernel
theorem dL_law_510 : decode cL_law 510 = .ok (.iload_n 3, 1) := by decide +kernel
theorem dL_law_511 : decode cL_law 511 = .ok (.iconst 2, 1) := by decide +kernel
theorem dL_law_512 : decode cL_law 512 = .ok (.iadd, 1) := by decide +kernel
theorem dL_law_513 : decode cL_law 513 = .ok (.iaload, 1) := by decide +kernel
theorem dL_law_514 : decode cL_law 514 = .ok (.invokevirtual 65, 3) := by decide +kernel
theorem dL_law_517 : decode cL_law 517 = .ok (.aload_n 2, 1) := by decide +kernel
theorem dL_law_518 : decode cL_law 518 = .ok (.aload_n 0, 1) := by decide +kernel
theorem dL_law_519 : decode cL_law 519 = .ok (.iload_n 3, 1) := by decide +kernel
theorem dL_law_520 : decode cL_law 520 = .ok (.iconst 1, 1) := by decide +kernel
theorem dL_law_521 : decode cL_law 521 = .ok (.iadd, 1) := by decide +kernel
theorem dL_law_522 : decode cL_law 522 = .ok (.iaload, 1) := by decide +kernel
theorem dL_law_523 : decode cL_law 523 = .ok (.aload_n 0, 1) := by decide +kernel
theorem dL_law_524 : decode cL_law 524 = .ok (.iload_n 3, 1) := by decide +kernel
theorem dL_law_525 : decode cL_law 525 = .ok (.iconst 2, 1) := by decide +kernel
theorem dL_law_526 : decode cL_law 526 = .ok (.iadd, 1) := by decide +kernel
theorem dL_law_527 : decode cL_law 527 = .ok (.iaload, 1) := by decide +kernel
theorem dL_law_528 : decode cL_law 528 = .ok (.invokevirtual 68, 3) := by decide +kernel
theorem dL_law_531 : decode cL_law 531 = .ok (.if_icmp .eq 278, 3) := by decide +kernel
theorem dL_law_534 : decode cL_law 534 = .ok (.iconst 0, 1) := by decide +kernel
theorem dL_law_535 : decode cL_law 535 = .ok (.ireturn, 1) := by decide +kernel
theorem dL_law_536 : decode cL_law 536 = .ok (.aload_n 1, 1) := by decide +kernel
theorem dL_law_537 : decode cL_law 537 = .ok (.aload_n 0, 1) := by decide +kernel
theorem dL_law_538 : decode cL_law 538 = .ok (.iload_n 3, 1) := by decide +kernel
theorem dL_law_539 : decode cL_law 539 = .ok (.iconst 1, 1) := by decide +kernel
theorem dL_law_540 : decode cL_law 540 = .ok (.iadd, 1) := by decide +kernel
theorem dL_law_541 : decode cL_law 541 = .ok (.iaload, 1) := by decide +kernel
theorem dL_law_542 : decode cL_law 542 = .ok (.aload_n 0, 1) := by decide +kernel
theorem dL_law_543 : decode cL_law 543 = .ok (.iload_n 3, 1) := by decide +kernel
theorem dL_law_544 : decode cL_law 544 = .ok (.iconst 2, 1) := by decide +kernel
theorem dL_law_545 : decode cL_law 545 = .ok (.iadd, 1) := by decide +kernel
theorem dL_law_546 : decode cL_law 546 = .ok (.iaload, 1) := by decide +kernel
theorem dL_law_547 : decode cL_law 547 = .ok (.invokevirtual 69, 3) := by decide +kernel
theorem dL_law_550 : decode cL_law 550 = .ok (.aload_n 2, 1) := by decide +kernel
theorem dL_law_551 : decode cL_law 551 = .ok (.aload_n 0, 1) := by decide +kernel
theorem dL_law_552 : decode cL_law 552 = .ok (.iload_n 3, 1) := by decide +kernel
theorem dL_law_553 : decode cL_law 553 = .ok (.iconst 1, 1) := by decide +kernel
theorem dL_law_554 : decode cL_law 554 = .ok (.iadd, 1) := by decide +kernel
theorem dL_law_555 : decode cL_law 555 = .ok (.iaload, 1) := by decide +kernel
theorem dL_law_556 : decode cL_law 556 = .ok (.aload_n 0, 1) := by decide +kernel
theorem dL_law_557 : decode cL_law 557 = .ok (.iload_n 3, 1) := by decide +kernel
theorem dL_law_558 : decode cL_law 558 = .ok (.iconst 2, 1) := by decide +kernel
theorem dL_law_559 : decode cL_law 559 = .ok (.iadd, 1) := by decide +kernel
theorem dL_law_560 : decode cL_law 560 = .ok (.iaload, 1) := by decide +kernel
theorem dL_law_561 : decode cL_law 561 = .ok (.invokevirtual 72, 3) := by decide +kernel
theorem dL_law_564 : decode cL_law 564 = .ok (.if_icmp .eq 245, 3) := by decide +kernel
theorem dL_law_567 : decode cL_law 567 = .ok (.iconst 0, 1) := by decide +kernel
theorem dL_law_568 : decode cL_law 568 = .ok (.ireturn, 1) := by decide +kernel
theorem dL_law_569 : decode cL_law 569 = .ok (.aload_n 1, 1) := by decide +kernel
theorem dL_law_570 : decode cL_law 570 = .ok (.aload_n 0, 1) := by decide +kernel
theorem dL_law_571 : decode cL_law 571 = .ok (.iload_n 3, 1) := by decide +kernel
theorem dL_law_572 : decode cL_law 572 = .ok (.iconst 1, 1) := by decide +kernel
