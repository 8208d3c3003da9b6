set_option maxRecDepth 20000 in
theorem gX8_told_X8_wrongEntry : GoodIn wsX8_told (wsV RX8 170 RX8 yX8_wrongEntry wsX8_wrongEntry) := goodIn_app (goodIn_of _ (by decide +kernel)) ggX8_told_X8_wrongEntry
theorem dX8_told_0 : decode cX8_told 0 = .ok (.iload_n 1, 1) := by decide +kernel
theorem dX8_told_1 : decode cX8_told 1 = .ok (.tableswitch 147 0 13 #[71, 78, 83, 88, 95, 102, 107, 112, 117, 122, 127, 132, 137, 142], 71) := by decide +kernel
theorem dX8_told_72 : decode cX8_told 72 = .ok (.aload_n 0, 1) := by decide +kernel
theorem dX8_told_73 : decode cX8_told 73 = .ok (.getfield 9, 3) := by decide +kernel
theorem dX8_told_76 : decode cX8_told 76 = .ok (.iconst 0, 1) := by decide +kernel
theorem dX8_told_77 : decode cX8_told 77 = .ok (.iaload, 1) := by decide +kernel
theorem dX8_told_78 : decode cX8_told 78 = .ok (.ireturn, 1) := by decide +kernel
theorem dX8_told_79 : decode cX8_told 79 = .ok (.aload_n 0, 1) := by decide +kernel
theorem dX8_told_80 : decode cX8_told 80 = .ok (.invokevirtual 149, 3) := by decide +kernel
theorem dX8_told_83 : decode cX8_told 83 = .ok (.ireturn, 1) := by decide +kernel
theorem dX8_told_84 : decode cX8_told 84 = .ok (.aload_n 0, 1) := by decide +kernel
theorem dX8_told_85 : decode cX8_told 85 = .ok (.invokevirtual 152, 3) := by decide +kernel
theorem dX8_told_88 : decode cX8_told 88 = .ok (.ireturn, 1) := by decide +kernel
theorem dX8_told_89 : decode cX8_told 89 = .ok (.aload_n 0, 1) := by decide +kernel
theorem dX8_told_90 : decode cX8_told 90 = .ok (.getfield 9, 3) := by decide +kernel
theorem dX8_told_93 : decode cX8_told 93 = .ok (.iconst 1, 1) := by decide +kernel
theorem dX8_told_94 : decode cX8_told 94 = .ok (.iaload, 1) := by decide +kernel
theorem dX8_told_95 : decode cX8_told 95 = .ok (.ireturn, 1) := by decide +kernel
theorem dX8_told_96 : decode cX8_told 96 = .ok (.aload_n 0, 1) := by decide +kernel
theorem dX8_told_97 : decode cX8_told 97 = .ok (.getfield 9, 3) := by decide +kernel
theorem dX8_told_100 : decode cX8_told 100 = .ok (.iconst 2, 1) := by decide +kernel
theorem dX8_told_101 : decode cX8_told 101 = .ok (.iaload, 1) := by decide +kernel
theorem dX8_told_102 : decode cX8_told 102 = .ok (.ireturn, 1) := by decide +kernel
theorem dX8_told_103 : decode cX8_told 103 = .ok (.aload_n 0, 1) := by decide +kernel
theorem dX8_told_104 : decode cX8_told 104 = .ok (.invokevirtual 155, 3) := by decide +kernel
theorem dX8_told_107 : decode cX8_told 107 = .ok (.ireturn, 1) := by decide +kernel
theorem dX8_told_108 : decode cX8_told 108 = .ok (.aload_n 0, 1) := by decide +kernel
theorem dX8_told_109 : decode cX8_told 109 = .ok (.invokevirtual 158, 3) := by decide +kernel
theorem dX8_told_112 : decode cX8_told 112 = .ok (.ireturn, 1) := by decide +kernel
theorem dX8_told_113 : decode cX8_told 113 = .ok (.aload_n 0, 1) := by decide +kernel
theorem dX8_told_114 : decode cX8_told 114 = .ok (.invokevirtual 161, 3) := by decide +kernel
theorem dX8_told_117 : decode cX8_told 117 = .ok (.ireturn, 1) := by decide +kernel
theorem dX8_told_118 : decode cX8_told 118 = .ok (.aload_n 0, 1) := by decide +kernel
theorem dX8_told_119 : decode cX8_told 119 = .ok (.invokevirtual 164, 3) := by decide +kernel
theorem dX8_told_122 : decode cX8_told 122 = .ok (.ireturn, 1) := by decide +kernel
theorem dX8_told_123 : decode cX8_told 123 = .ok (.aload_n 0, 1) := by decide +kernel
theorem dX8_told_124 : decode cX8_told 124 = .ok (.invokevirtual 167, 3) := by decide +kernel
theorem dX8_told_127 : decode cX8_told 127 = .ok (.ireturn, 1) := by decide +kernel
theorem dX8_told_128 : decode cX8_told 128 = .ok (.aload_n 0, 1) := by decide +kernel
theorem dX8_told_129 : decode cX8_told 129 = .ok (.getfield 143, 3) := by decide +kernel
theorem dX8_told_132 : decode cX8_told 132 = .ok (.ireturn, 1) := by decide +kernel
theorem dX8_told_133 : decode cX8_told 133 = .ok (.aload_n 0, 1) := by decide +kernel
theorem dX8_told_134 : decode cX8_told 134 = .ok (.invokevirtual 170, 3) := by decide +kernel
theorem dX8_told_137 : decode cX8_told 137 = .ok (.ireturn, 1) := by decide +kernel
theorem dX8_told_138 : decode cX8_told 138 = .ok (.aload_n 0, 1) := by decide +kernel
theorem dX8_told_139 : decode cX8_told 139 = .ok (.getfield 173, 3) := by decide +kernel
theorem dX8_told_142 : decode cX8_told 142 = .ok (.ireturn, 1) := by decide +kernel
theorem dX8_told_143 : decode cX8_told 143 = .ok (.aload_n 0, 1) := by decide +kernel
theorem dX8_told_144 : decode cX8_told 144 = .ok (.getfield 176, 3) := by decide +kernel
theorem dX8_told_147 : decode cX8_told 147 = .ok (.ireturn, 1) := by decide +kernel
theorem dX8_told_148 : decode cX8_told 148 = .ok (.ldc 179, 2) := by decide +kernel
theorem dX8_told_150 : decode cX8_told 150 = .ok (.ireturn, 1) := by decide +kernel
set_option maxRecDepth 20000 in
theorem ggX8_at_X8_isNode : GoodIn wsX8_at wsX8_isNode := goodIn_r _ [10, 3, 11, 12, 9, 13, 56, 57, 58, 59, 60, 61, 62, 63, 64, 65, 66, 67, 68, 69, 70, 71, 72] (by decide +kernel) (by decide +kernel)
set_option maxRecDepth 20000 in
theorem gX8_at_X8_isNode : GoodIn wsX8_at (wsV RX8 51 RX8 yX8_isNode wsX8_isNode) := goodIn_app (goodIn_of _ (by decide +kernel)) ggX8_at_X8_isNode
set_option maxRecDepth 20000 in
theorem ggX8_at_X8_layWays : GoodIn wsX8_at wsX8_layWays := goodIn_r _ [17, 4, 18, 19, 20, 21, 22, 23, 9, 24, 3, 2, 25, 26, 27, 28, 29, 30, 31, 32, 33, 34, 35, 36, 37, 38, 39, 40, 41, 42, 43, 44, 45, 46, 47, 48, 49, 50, 51, 56, 57, 58, 59, 60, 61, 62, 63, 64, 65, 66, 67, 68, 69, 70, 71, 72] (by decide +kernel) (by decide +kernel)
set_option maxRecDepth 20000 in
theorem gX8_at_X8_layWays : GoodIn wsX8_at (wsV RX8 98 RX8 yX8_layWays wsX8_layWays) := goodIn_app (goodIn_of _ (by decide +kernel)) ggX8_at_X8_layWays
set_option maxRecDepth 20000 in
theorem ggX8_at_X8_upper : GoodIn wsX8_at wsX8_upper := goodIn_r _ [47, 3, 2, 33, 34, 9, 35, 56, 57, 58, 59, 60, 61, 62, 63, 64, 65, 66, 67, 68, 69, 70, 71, 72] (by decide +kernel) (by decide +kernel)
set_option maxRecDepth 20000 in
theorem gX8_at_X8_upper : GoodIn wsX8_at (wsV RX8 74 RX8 yX8_upper wsX8_upper) := goodIn_app (goodIn_of _ (by decide +kernel)) ggX8_at_X8_upper
set_option maxRecDepth 20000 in
theorem ggX8_at_X8_lettersTo : GoodIn wsX8_at wsX8_lettersTo := goodIn_r _ [55, 18, 20, 21, 22, 23, 9, 24, 3, 2, 25, 26, 27, 28, 29, 30, 31, 32, 33, 34, 35, 36, 37, 38, 39, 40, 41, 42, 43, 19, 44, 45, 46, 47, 48, 49, 50, 51, 56, 57, 58, 59, 60, 61, 62, 63, 64, 65, 66, 67, 68, 69, 70, 71, 72] (by decide +kernel) (by decide +kernel)
set_option maxRecDepth 20000 in
theorem gX8_at_X8_lettersTo : GoodIn wsX8_at (wsV RX8 181 RX8 yX8_lettersTo wsX8_lettersTo) := goodIn_app (goodIn_of _ (by decide +kernel)) ggX8_at_X8_lettersTo
theorem dX8_at_0 : decode cX8_at 0 = .ok (.aload_n 0, 1) := by decide +kernel
theorem dX8_at_1 : decode cX8_at 1 = .ok (.iload_n 1, 1) := by decide +kernel
theorem dX8_at_2 : decode cX8_at 2 = .ok (.invokevirtual 51, 3) := by decide +kernel
theorem dX8_at_5 : decode cX8_at 5 = .ok (.ifCond .ne 6, 3) := by decide +kernel
theorem dX8_at_8 : decode cX8_at 8 = .ok (.ldc 180, 2) := by decide +kernel
theorem dX8_at_10 : decode cX8_at 10 = .ok (.ireturn, 1) := by decide +kernel
theorem dX8_at_11 : decode cX8_at 11 = .ok (.aload_n 0, 1) := by decide +kernel
theorem dX8_at_12 : decode cX8_at 12 = .ok (.invokevirtual 98, 3) := by decide +kernel
theorem dX8_at_15 : decode cX8_at 15 = .ok (.iload_n 2, 1) := by decide +kernel
theorem dX8_at_16 : decode cX8_at 16 = .ok (.tableswitch 85 0 5 #[40, 47, 56, 62, 72, 79], 40) := by decide +kernel
theorem dX8_at_56 : decode cX8_at 56 = .ok (.aload_n 0, 1) := by decide +kernel
theorem dX8_at_57 : decode cX8_at 57 = .ok (.getfield 22, 3) := by decide +kernel
theorem dX8_at_60 : decode cX8_at 60 = .ok (.iload_n 1, 1) := by decide +kernel
theorem dX8_at_61 : decode cX8_at 61 = .ok (.iaload, 1) := by decide +kernel
theorem dX8_at_62 : decode cX8_at 62 = .ok (.ireturn, 1) := by decide +kernel
theorem dX8_at_63 : decode cX8_at 63 = .ok (.aload_n 0, 1) := by decide +kernel
theorem dX8_at_64 : decode cX8_at 64 = .ok (.getfield 9, 3) := by decide +kernel
theorem dX8_at_67 : decode cX8_at 67 = .ok (.iconst 3, 1) := by decide +kernel
theorem dX8_at_68 : decode cX8_at 68 = .ok (.iload_n 1, 1) := by decide +kernel
theorem dX8_at_69 : decode cX8_at 69 = .ok (.iadd, 1) := by decide +kernel
theorem dX8_at_70 : decode cX8_at 70 = .ok (.iaload, 1) := by decide +kernel
theorem dX8_at_71 : decode cX8_at 71 = .ok (.ireturn, 1) := by decide +kernel
theorem dX8_at_72 : decode cX8_at 72 = .ok (.aload_n 0, 1) := by decide +kernel
theorem dX8_at_73 : decode cX8_at 73 = .ok (.iload_n 1, 1) := by decide +kernel
theorem dX8_at_74 : decode cX8_at 74 = .ok (.invokevirtual 74, 3) := by decide +kernel
theorem dX8_at_77 : decode cX8_at 77 = .ok (.ireturn, 1) := by decide +kernel
theorem dX8_at_78 : decode cX8_at 78 = .ok (.aload_n 0, 1) := by decide +kernel
theorem dX8_at_79 : decode cX8_at 79 = .ok (.getfield 9, 3) := by decide +kernel
theorem dX8_at_82 : decode cX8_at 82 = .ok (.bipush 21, 2) := by decide +kernel
theorem dX8_at_84 : decode cX8_at 84 = .ok (.iload_n 1, 1) := by decide +kernel
theorem dX8_at_85 : decode cX8_at 85 = .ok (.iadd, 1) := by decide +kernel
theorem dX8_at_86 : decode cX8_at 86 = .ok (.iaload, 1) := by decide +kernel
theorem dX8_at_87 : decode cX8_at 87 = .ok (.ireturn, 1) := by decide +kernel
theorem dX8_at_88 : decode cX8_at 88 = .ok (.aload_n 0, 1) := by decide +kernel
theorem dX8_at_89 : decode cX8_at 89 = .ok (.getfield 31, 3) := by decide +kernel
theorem dX8_at_92 : decode cX8_at 92 = .ok (.iload_n 1, 1) := by decide +kernel
theorem dX8_at_93 : decode cX8_at 93 = .ok (.iaload, 1) := by decide +kernel
theorem dX8_at_94 : decode cX8_at 94 = .ok (.ireturn, 1) := by decide +kernel
theorem dX8_at_95 : decode cX8_at 95 = .ok (.aload_n 0, 1) := by decide +kernel
theorem dX8_at_96 : decode cX8_at 96 = .ok (.iload_n 1, 1) := by decide +kernel
theorem dX8_at_97 : decode cX8_at 97 = .ok (.invokevirtual 181, 3) := by decide +kernel
theorem dX8_at_100 : decode cX8_at 100 = .ok (.ireturn, 1) := by decide +kernel
theorem dX8_at_101 : decode cX8_at 101 = .ok (.ldc 179, 2) := by decide +kernel
theorem dX8_at_103 : decode cX8_at 103 = .ok (.ireturn, 1) := by decide +kernel
set_option maxRecDepth 20000 in
theorem ggX8_isLost_X8_isLinked : GoodIn wsX8_isLost wsX8_isLinked := goodIn_r _ [7, 1, 8, 9, 10, 6, 11, 12, 13, 14, 15, 16, 17, 18, 19, 20, 21, 22, 23, 24, 25, 26, 27, 28, 29, 30, 31, 32, 33, 34] (by decide +kernel) (by decide +kernel)
set_option maxRecDepth 20000 in
theorem gX8_isLost_X8_isLinked : GoodIn wsX8_isLost (wsV RX8 184 RX8 yX8_isLinked wsX8_isLinked) := goodIn_app (goodIn_of _ (by decide +kernel)) ggX8_isLost_X8_isLinked
set_option maxRecDepth 20000 in
theorem ggX8_isLost_X8_has : GoodIn wsX8_isLost wsX8_has := goodIn_r _ [17] (by decide +kernel) (by decide +kernel)
set_option maxRecDepth 20000 in
theorem gX8_isLost_X8_has : GoodIn wsX8_isLost (va_wsS RX8 55 yX8_has wsX8_has) := goodIn_app (goodIn_of _ (by decide +kernel)) ggX8_isLost_X8_has
theorem dX8_isLost_0 : decode cX8_isLost 0 = .ok (.aload_n 0, 1) := by decide +kernel
theorem dX8_isLost_1 : decode cX8_isLost 1 = .ok (.iload_n 1, 1) := by decide +kernel
theorem dX8_isLost_2 : decode cX8_isLost 2 = .ok (.iload_n 2, 1) := by decide +kernel
theorem dX8_isLost_3 : decode cX8_isLost 3 = .ok (.invokevirtual 184, 3) := by decide +kernel
theorem dX8_isLost_6 : decode cX8_isLost 6 = .ok (.ifCond .eq 27, 3) := by decide +kernel
theorem dX8_isLost_9 : decode cX8_isLost 9 = .ok (.aload_n 0, 1) := by decide +kernel
theorem dX8_isLost_10 : decode cX8_isLost 10 = .ok (.getfield 9, 3) := by decide +kernel
theorem dX8_isLost_13 : decode cX8_isLost 13 = .ok (.bipush 12, 2) := by decide +kernel
theorem dX8_isLost_15 : decode cX8_isLost 15 = .ok (.iload_n 1, 1) := by decide +kernel
theorem dX8_isLost_16 : decode cX8_isLost 16 = .ok (.iadd, 1) := by decide +kernel
theorem dX8_isLost_17 : decode cX8_isLost 17 = .ok (.iaload, 1) := by decide +kernel
theorem dX8_isLost_18 : decode cX8_isLost 18 = .ok (.iload_n 2, 1) := by decide +kernel
theorem dX8_isLost_19 : decode cX8_isLost 19 = .ok (.invokestatic 55, 3) := by decide +kernel
theorem dX8_isLost_22 : decode cX8_isLost 22 = .ok (.ifCond .eq 7, 3) := by decide +kernel
theorem dX8_isLost_25 : decode cX8_isLost 25 = .ok (.iconst 1, 1) := by decide +kernel
theorem dX8_isLost_26 : decode cX8_isLost 26 = .ok (.goto 9, 3) := by decide +kernel
theorem dX8_isLost_29 : decode cX8_isLost 29 = .ok (.iconst 0, 1) := by decide +kernel
theorem dX8_isLost_30 : decode cX8_isLost 30 = .ok (.goto 5, 3) := by decide +kernel
theorem dX8_isLost_33 : decode cX8_isLost 33 = .ok (.ldc 180, 2) := by decide +kernel
theorem dX8_isLost_35 : decode cX8_isLost 35 = .ok (.ireturn, 1) := by decide +kernel
set_option maxRecDepth 20000 in
theorem ggX8_mark_X8_in : GoodIn wsX8_mark wsX8_in := goodIn_r _ [5] (by decide +kernel) (by decide +kernel)
set_option maxRecDepth 20000 in
theorem gX8_mark_X8_in : GoodIn wsX8_mark (va_wsS RX8 47 yX8_in wsX8_in) := goodIn_app (goodIn_of _ (by decide +kernel)) ggX8_mark_X8_in
set_option maxRecDepth 20000 in
theorem ggX8_mark_X8_markOf : GoodIn wsX8_mark wsX8_markOf := goodIn_r _ [9, 10, 11, 12, 13, 14, 19, 20, 21, 22, 23, 24, 25, 26, 27, 28, 29, 30, 31, 32, 33, 34, 35] (by decide +kernel) (by decide +kernel)
set_option maxRecDepth 20000 in
theorem gX8_mark_X8_markOf : GoodIn wsX8_mark (wsV RX8 67 RX8 yX8_markOf wsX8_markOf) := goodIn_app (goodIn_of _ (by decide +kernel)) ggX8_mark_X8_markOf
set_option maxRecDepth 20000 in
theorem ggX8_mark_X8_rankOf : GoodIn wsX8_mark wsX8_rankOf := goodIn_r _ [18, 6, 7, 8, 4, 9, 10, 11, 12, 13, 14, 19, 20, 21, 22, 23, 24, 25, 26, 27, 28, 29, 30, 31, 32, 33, 34, 35] (by decide +kernel) (by decide +kernel)
set_option maxRecDepth 20000 in
theorem gX8_mark_X8_rankOf : GoodIn wsX8_mark (wsV RX8 122 RX8 yX8_rankOf wsX8_rankOf) := goodIn_app (goodIn_of _ (by decide +kernel)) ggX8_mark_X8_rankOf
theorem dX8_mark_0 : decode cX8_mark 0 = .ok (.iload_n 1, 1) := by decide +kernel
theorem dX8_mark_1 : decode cX8_mark 1 = .ok (.iconst 0, 1) := by decide +kernel
theorem dX8_mark_2 : decode cX8_mark 2 = .ok (.bipush 15, 2) := by decide +kernel
theorem dX8_mark_4 : decode cX8_mark 4 = .ok (.invokestatic 47, 3) := by decide +kernel
theorem dX8_mark_7 : decode cX8_mark 7 = .ok (.ifCond .eq 12, 3) := by decide +kernel
theorem dX8_mark_10 : decode cX8_mark 10 = .ok (.iload_n 2, 1) := by decide +kernel
theorem dX8_mark_11 : decode cX8_mark 11 = .ok (.iconst 0, 1) := by decide +kernel
theorem dX8_mark_12 : decode cX8_mark 12 = .ok (.iconst 1, 1) := by decide +kernel
theorem dX8_mark_13 : decode cX8_mark 13 = .ok (.invokestatic 47, 3) := by decide +kernel
theorem dX8_mark_16 : decode cX8_mark 16 = .ok (.ifCond .ne 6, 3) := by decide +kernel
theorem dX8_mark_19 : decode cX8_mark 19 = .ok (.ldc 179, 2) := by decide +kernel
theorem dX8_mark_21 : decode cX8_mark 21 = .ok (.ireturn, 1) := by decide +kernel
theorem dX8_mark_22 : decode cX8_mark 22 = .ok (.iload_n 2, 1) := by decide +kernel
theorem dX8_mark_23 : decode cX8_mark 23 = .ok (.ifCond .ne 11, 3) := by decide +kernel
theorem dX8_mark_26 : decode cX8_mark 26 = .ok (.aload_n 0, 1) := by decide +kernel
theorem dX8_mark_27 : decode cX8_mark 27 = .ok (.iload_n 1, 1) := by decide +kernel
theorem dX8_mark_28 : decode cX8_mark 28 = .ok (.invokevirtual 67, 3) := by decide +kernel
theorem dX8_mark_31 : decode cX8_mark 31 = .ok (.goto 8, 3) := by decide +kernel
theorem dX8_mark_34 : decode cX8_mark 34 = .ok (.aload_n 0, 1) := by decide +kernel
theorem dX8_mark_35 : decode cX8_mark 35 = .ok (.iload_n 1, 1) := by decide +kernel
theorem dX8_mark_36 : decode cX8_mark 36 = .ok (.invokevirtual 122, 3) := by decide +kernel
theorem dX8_mark_39 : decode cX8_mark 39 = .ok (.ireturn, 1) := by decide +kernel
set_option maxRecDepth 20000 in
theorem ggX8_holds_X8_isNode : GoodIn wsX8_holds wsX8_isNode := goodIn_r _ [10, 11, 12, 13, 9, 14, 95, 96, 97, 98, 99, 100, 101, 102, 103, 104, 105, 106, 107, 108, 109, 110, 111] (by decide +kernel) (by decide +kernel)
set_option maxRecDepth 20000 in
theorem gX8_holds_X8_isNode : GoodIn wsX8_holds (wsV RX8 51 RX8 yX8_isNode wsX8_isNode) := goodIn_app (goodIn_of _ (by decide +kernel)) ggX8_holds_X8_isNode
set_option maxRecDepth 20000 in
theorem ggX8_holds_X8_in : GoodIn wsX8_holds wsX8_in := goodIn_r _ [14] (by decide +kernel) (by decide +kernel)
set_option maxRecDepth 20000 in
theorem gX8_holds_X8_in : GoodIn wsX8_holds (va_wsS RX8 47 yX8_in wsX8_in) := goodIn_app (goodIn_of _ (by decide +kernel)) ggX8_holds_X8_in
set_option maxRecDepth 20000 in
theorem ggX8_holds_X8_layHeld : GoodIn wsX8_holds wsX8_layHeld := goodIn_r _ [18, 11, 5, 19, 20, 21, 22, 23, 24, 9, 25, 3, 26, 27, 28, 29, 30, 31, 32, 33, 34, 35, 36, 37, 38, 39, 40, 41, 42, 43, 44, 45, 46, 47, 48, 49, 50, 51, 52, 53, 54, 55, 56, 57, 58, 59, 60, 61, 62, 63, 64, 65, 66, 67, 68, 69, 70, 71, 72, 73, 74, 75, 76, 77, 78, 79, 80, 81, 82, 83, 84, 85, 86, 87, 88, 89, 90, 91, 92, 93, 94, 95, 96, 97, 98, 99, 100, 101, 102, 103, 104, 105, 106, 107, 108, 109, 110, 111] (by decide +kernel) (by decide +kernel)
set_option maxRecDepth 20000 in
theorem gX8_holds_X8_layHeld : GoodIn wsX8_holds (wsV RX8 137 RX8 yX8_layHeld wsX8_layHeld) := goodIn_app (goodIn_of _ (by decide +kernel)) ggX8_holds_X8_layHeld
theorem dX8_holds_0 : decode cX8_holds 0 = .ok (.aload_n 0, 1) := by decide +kernel
theorem dX8_holds_1 : decode cX8_holds 1 = .ok (.iload_n 1, 1) := by decide +kernel
theorem dX8_holds_2 : decode cX8_holds 2 = .ok (.invokevirtual 51, 3) := by decide +kernel
theorem dX8_holds_5 : decode cX8_holds 5 = .ok (.ifCond .ne 7, 3) := by decide +kernel
theorem dX8_holds_8 : decode cX8_holds 8 = .ok (.ldc2_w 187, 3) := by decide +kernel
theorem dX8_holds_11 : decode cX8_holds 11 = .ok (.lreturn, 1) := by decide +kernel
theorem dX8_holds_12 : decode cX8_holds 12 = .ok (.iload_n 2, 1) := by decide +kernel
theorem dX8_holds_13 : decode cX8_holds 13 = .ok (.iconst 0, 1) := by decide +kernel
theorem dX8_holds_14 : decode cX8_holds 14 = .ok (.iconst 3, 1) := by decide +kernel
theorem dX8_holds_15 : decode cX8_holds 15 = .ok (.invokestatic 47, 3) := by decide +kernel
theorem dX8_holds_18 : decode cX8_holds 18 = .ok (.ifCond .ne 7, 3) := by decide +kernel
theorem dX8_holds_21 : decode cX8_holds 21 = .ok (.ldc2_w 189, 3) := by decide +kernel
theorem dX8_holds_24 : decode cX8_holds 24 = .ok (.lreturn, 1) := by decide +kernel
theorem dX8_holds_25 : decode cX8_holds 25 = .ok (.aload_n 0, 1) := by decide +kernel
theorem dX8_holds_26 : decode cX8_holds 26 = .ok (.iload_n 2, 1) := by decide +kernel
theorem dX8_holds_27 : decode cX8_holds 27 = .ok (.invokevirtual 137, 3) := by decide +kernel
theorem dX8_holds_30 : decode cX8_holds 30 = .ok (.aload_n 0, 1) := by decide +kernel
theorem dX8_holds_31 : decode cX8_holds 31 = .ok (.getfield 22, 3) := by decide +kernel
theorem dX8_holds_34 : decode cX8_holds 34 = .ok (.iload_n 1, 1) := by decide +kernel
theorem dX8_holds_35 : decode cX8_holds 35 = .ok (.iaload, 1) := by decide +kernel
theorem dX8_holds_36 : decode cX8_holds 36 = .ok (.iconst (-1), 1) := by decide +kernel
theorem dX8_holds_37 : decode cX8_holds 37 = .ok (.if_icmp .ne 9, 3) := by decide +kernel
theorem dX8_holds_40 : decode cX8_holds 40 = .ok (.ldc2_w 191, 3) := by decide +kernel
theorem dX8_holds_43 : decode cX8_holds 43 = .ok (.goto 9, 3) := by decide +kernel
theorem dX8_holds_46 : decode cX8_holds 46 = .ok (.aload_n 0, 1) := by decide +kernel
theorem dX8_holds_47 : decode cX8_holds 47 = .ok (.getfield 34, 3) := by decide +kernel
theorem dX8_holds_50 : decode cX8_holds 50 = .ok (.iload_n 1, 1) := by decide +kernel
theorem dX8_holds_51 : decode cX8_holds 51 = .ok (.laload, 1) := by decide +kernel
theorem dX8_holds_52 : decode cX8_holds 52 = .ok (.lreturn, 1) := by decide +kernel
set_option maxRecDepth 20000 in
theorem ggX8_guess_X8_isNode : GoodIn wsX8_guess wsX8_isNode := goodIn_r _ [8, 9, 10, 11, 7, 12, 102, 103, 104, 105, 106, 107, 108, 109, 110, 111, 112, 113, 114, 115, 116, 117, 118] (by decide +kernel) (by decide +kernel)
set_option maxRecDepth 20000 in
theorem gX8_guess_X8_isNode : GoodIn wsX8_guess (wsV RX8 51 RX8 yX8_isNode wsX8_isNode) := goodIn_app (goodIn_of _ (by decide +kernel)) ggX8_guess_X8_isNode
set_option maxRecDepth 20000 in
theorem ggX8_guess_X8_in : GoodIn wsX8_guess wsX8_in := goodIn_r _ [12] (by decide +kernel) (by decide +kernel)
set_option maxRecDepth 20000 in
theorem gX8_guess_X8_in : GoodIn wsX8_guess (va_wsS RX8 47 yX8_in wsX8_in) := goodIn_app (goodIn_of _ (by decide +kernel)) ggX8_guess_X8_in
set_option maxRecDepth 20000 in
theorem ggX8_guess_X8_layRings : GoodIn wsX8_guess wsX8_layRings := goodIn_r _ [16, 3, 17, 18, 19, 7, 20, 9, 21, 22, 23, 102, 103, 104, 105, 106, 107, 108, 109, 110, 111, 112, 113, 114, 115, 116, 117, 118] (by decide +kernel) (by decide +kernel)
set_option maxRecDepth 20000 in
theorem gX8_guess_X8_layRings : GoodIn wsX8_guess (wsV RX8 81 RX8 yX8_layRings wsX8_layRings) := goodIn_app (goodIn_of _ (by decide +kernel)) ggX8_guess_X8_layRings
set_option maxRecDepth 20000 in
theorem ggX8_guess_X8_byBits : GoodIn wsX8_guess wsX8_byBits := goodIn_r _ [27, 28, 29, 30, 31, 7, 32, 9, 33, 34, 35, 36, 37, 38, 39, 3, 13, 14, 15, 16, 17, 18, 19, 20, 21, 22, 23, 40, 41, 42, 43, 44, 45, 46, 47, 48, 49, 50, 51, 52, 53, 54, 55, 56, 57, 58, 59, 60, 61, 62, 63, 64, 65, 66, 67, 68, 69, 70, 71, 72, 73, 74, 75, 76, 77, 78, 79, 80, 81, 82, 83, 84, 85, 86, 87, 88, 89, 90, 91, 92, 93, 94, 95, 96, 97, 102, 103, 104, 105, 106, 107, 108, 109, 110, 111, 112, 113, 114, 115, 116, 117, 118] (by decide +kernel) (by decide +kernel)
set_option maxRecDepth 20000 in
theorem gX8_guess_X8_byBits : GoodIn wsX8_guess (wsV RX8 146 RX8 yX8_byBits wsX8_byBits) := goodIn_app (goodIn_of _ (by decide +kernel)) ggX8_guess_X8_byBits
set_option maxRecDepth 20000 in
theorem ggX8_guess_X8_byLeast : GoodIn wsX8_guess wsX8_byLeast := goodIn_r _ [101, 28, 89, 29, 30, 31, 7, 32, 9, 33, 34, 35, 36, 37, 38, 39, 3, 13, 14, 15, 16, 17, 18, 19, 20, 21, 22, 23, 40, 41, 42, 43, 44, 45, 46, 47, 48, 49, 50, 51, 52, 53, 54, 55, 56, 57, 58, 59, 60, 61, 62, 63, 64, 65, 66, 67, 68, 69, 70, 71, 72, 73, 74, 75, 76, 77, 78, 79, 80, 81, 82, 83, 84, 85, 86, 87, 88, 90, 91, 92, 93, 94, 95, 96, 97, 102, 103, 104, 105, 106, 107, 108, 109, 110, 111, 112, 113, 114, 115, 116, 117, 118] (by decide +kernel) (by decide +kernel)
set_option maxRecDepth 20000 in
theorem gX8_guess_X8_byLeast : GoodIn wsX8_guess (wsV RX8 193 RX8 yX8_byLeast wsX8_byLeast) := goodIn_app (goodIn_of _ (by decide +kernel)) ggX8_guess_X8_byLeast
theorem dX8_guess_0 : decode cX8_guess 0 = .ok (.aload_n 0, 1) := by decide +kernel
theorem dX8_guess_1 : decode cX8_guess 1 = .ok (.iload_n 1, 1) := by decide +kernel
theorem dX8_guess_2 : decode cX8_guess 2 = .ok (.invokevirtual 51, 3) := by decide +kernel
theorem dX8_guess_5 : decode cX8_guess 5 = .ok (.ifCond .ne 6, 3) := by decide +kernel
theorem dX8_guess_8 : decode cX8_guess 8 = .ok (.ldc 180, 2) := by decide +kernel
theorem dX8_guess_10 : decode cX8_guess 10 = .ok (.ireturn, 1) := by decide +kernel
theorem dX8_guess_11 : decode cX8_guess 11 = .ok (.iload_n 2, 1) := by decide +kernel
theorem dX8_guess_12 : decode cX8_guess 12 = .ok (.iconst 1, 1) := by decide +kernel
theorem dX8_guess_13 : decode cX8_guess 13 = .ok (.iconst 2, 1) := by decide +kernel
theorem dX8_guess_14 : decode cX8_guess 14 = .ok (.invokestatic 47, 3) := by decide +kernel
theorem dX8_guess_17 : decode cX8_guess 17 = .ok (.ifCond .ne 6, 3) := by decide +kernel
theorem dX8_guess_20 : decode cX8_guess 20 = .ok (.ldc 179, 2) := by decide +kernel
theorem dX8_guess_22 : decode cX8_guess 22 = .ok (.ireturn, 1) := by decide +kernel
theorem dX8_guess_23 : decode cX8_guess 23 = .ok (.aload_n 0, 1) := by decide +kernel
theorem dX8_guess_24 : decode cX8_guess 24 = .ok (.invokevirtual 81, 3) := by decide +kernel
theorem dX8_guess_27 : decode cX8_guess 27 = .ok (.aload_n 0, 1) := by decide +kernel
theorem dX8_guess_28 : decode cX8_guess 28 = .ok (.getfield 22, 3) := by decide +kernel
theorem dX8_guess_31 : decode cX8_guess 31 = .ok (.iload_n 1, 1) := by decide +kernel
theorem dX8_guess_32 : decode cX8_guess 32 = .ok (.iaload, 1) := by decide +kernel
theorem dX8_guess_33 : decode cX8_guess 33 = .ok (.iconst (-1), 1) := by decide +kernel
theorem dX8_guess_34 : decode cX8_guess 34 = .ok (.if_icmp .ne 5, 3) := by decide +kernel
theorem dX8_guess_37 : decode cX8_guess 37 = .ok (.iconst (-1), 1) := by decide +kernel
theorem dX8_guess_38 : decode cX8_guess 38 = .ok (.ireturn, 1) := by decide +kernel
theorem dX8_guess_39 : decode cX8_guess 39 = .ok (.iload_n 2, 1) := by decide +kernel
theorem dX8_guess_40 : decode cX8_guess 40 = .ok (.iconst 1, 1) := by decide +kernel
theorem dX8_guess_41 : decode cX8_guess 41 = .ok (.if_icmp .ne 11, 3) := by decide +kernel
theorem dX8_guess_44 : decode cX8_guess 44 = .ok (.aload_n 0, 1) := by decide +kernel
theorem dX8_guess_45 : decode cX8_guess 45 = .ok (.iload_n 1, 1) := by decide +kernel
theorem dX8_guess_46 : decode cX8_guess 46 = .ok (.invokevirtual 146, 3) := by decide +kernel
theorem dX8_guess_49 : decode cX8_guess 49 = .ok (.goto 8, 3) := by decide +kernel
theorem dX8_guess_52 : decode cX8_guess 52 = .ok (.aload_n 0, 1) := by decide +kernel
theorem dX8_guess_53 : decode cX8_guess 53 = .ok (.iload_n 1, 1) := by decide +kernel
theorem dX8_guess_54 : decode cX8_guess 54 = .ok (.invokevirtual 193, 3) := by decide +kernel
theorem dX8_guess_57 : decode cX8_guess 57 = .ok (.ireturn, 1) := by decide +kernel
set_option maxRecDepth 20000 in
theorem ggX8_off_X8_in : GoodIn wsX8_off wsX8_in := goodIn_r _ [6] (by decide +kernel) (by decide +kernel)
set_option maxRecDepth 20000 in
theorem gX8_off_X8_in : GoodIn wsX8_off (va_wsS RX8 47 yX8_in wsX8_in) := goodIn_app (goodIn_of _ (by decide +kernel)) ggX8_off_X8_in
set_option maxRecDepth 20000 in
theorem ggX8_off_X8_byBits : GoodIn wsX8_off wsX8_byBits := goodIn_r _ [10, 11, 12, 13, 14, 5, 15, 16, 17, 18, 19, 20, 21, 22, 23, 24, 25, 26, 27, 28, 29, 30, 31, 32, 33, 34, 35, 36, 37, 38, 39, 40, 41, 42, 43, 44, 45, 46, 47, 48, 49, 50, 51, 52, 53, 54, 55, 56, 57, 58, 59, 60, 61, 62, 63, 64, 65, 66, 67, 68, 69, 70, 71, 72, 73, 74, 75, 76, 77, 78, 79, 80, 81, 82, 83, 84, 85, 86, 87, 88, 89, 90, 91, 92, 93, 105, 106, 107, 108, 109, 110, 111, 112, 113, 114, 115, 116, 117, 118, 119, 120, 121] (by decide +kernel) (by decide +kernel)
set_option maxRecDepth 20000 in
theorem gX8_off_X8_byBits : GoodIn wsX8_off (wsV RX8 146 RX8 yX8_byBits wsX8_byBits) := goodIn_app (goodIn_of _ (by decide +kernel)) ggX8_off_X8_byBits
set_option maxRecDepth 20000 in
theorem ggX8_off_X8_byLeast : GoodIn wsX8_off wsX8_byLeast := goodIn_r _ [97, 11, 85, 12, 13, 14, 5, 15, 16, 17, 18, 19, 20, 21, 22, 23, 24, 25, 26, 27, 28, 29, 30, 31, 32, 33, 34, 35, 36, 37, 38, 39, 40, 41, 42, 43, 44, 45, 46, 47, 48, 49, 50, 51, 52, 53, 54, 55, 56, 57, 58, 59, 60, 61, 62, 63, 64, 65, 66, 67, 68, 69, 70, 71, 72, 73, 74, 75, 76, 77, 78, 79, 80, 81, 82, 83, 84, 86, 87, 88, 89, 90, 91, 92, 93, 105, 106, 107, 108, 109, 110, 111, 112, 113, 114, 115, 116, 117, 118, 119, 120, 121] (by decide +kernel) (by decide +kernel)
set_option maxRecDepth 20000 in
theorem gX8_off_X8_byLeast : GoodIn wsX8_off (wsV RX8 193 RX8 yX8_byLeast wsX8_byLeast) := goodIn_app (goodIn_of _ (by decide +kernel)) ggX8_off_X8_byLeast
set_option maxRecDepth 20000 in
theorem ggX8_off_X8_truth : GoodIn wsX8_off wsX8_truth := goodIn_r _ [101, 16, 24, 25, 26, 27, 5, 28, 29, 30, 31, 32, 33, 34, 35, 102, 103, 104, 105, 106, 107, 108, 109, 110, 111, 112, 113, 114, 115, 116, 117, 118, 119, 120, 121] (by decide +kernel) (by decide +kernel)
set_option maxRecDepth 20000 in
theorem gX8_off_X8_truth : GoodIn wsX8_off (wsV RX8 161 RX8 yX8_truth wsX8_truth) := goodIn_app (goodIn_of _ (by decide +kernel)) ggX8_off_X8_truth
theorem dX8_off_0 : decode cX8_off 0 = .ok (.iload_n 1, 1) := by decide +kernel
theorem dX8_off_1 : decode cX8_off 1 = .ok (.iconst 1, 1) := by decide +kernel
theorem dX8_off_2 : decode cX8_off 2 = .ok (.iconst 2, 1) := by decide +kernel
theorem dX8_off_3 : decode cX8_off 3 = .ok (.invokestatic 47, 3) := by decide +kernel
theorem dX8_off_6 : decode cX8_off 6 = .ok (.ifCond .ne 6, 3) := by decide +kernel
theorem dX8_off_9 : decode cX8_off 9 = .ok (.ldc 179, 2) := by decide +kernel
theorem dX8_off_11 : decode cX8_off 11 = .ok (.ireturn, 1) := by decide +kernel
theorem dX8_off_12 : decode cX8_off 12 = .ok (.iload_n 1, 1) := by decide +kernel
theorem dX8_off_13 : decode cX8_off 13 = .ok (.iconst 1, 1) := by decide +kernel
theorem dX8_off_14 : decode cX8_off 14 = .ok (.if_icmp .ne 11, 3) := by decide +kernel
theorem dX8_off_17 : decode cX8_off 17 = .ok (.aload_n 0, 1) := by decide +kernel
theorem dX8_off_18 : decode cX8_off 18 = .ok (.iconst 0, 1) := by decide +kernel
theorem dX8_off_19 : decode cX8_off 19 = .ok (.invokevirtual 146, 3) := by decide +kernel
theorem dX8_off_22 : decode cX8_off 22 = .ok (.goto 8, 3) := by decide +kernel
theorem dX8_off_25 : decode cX8_off 25 = .ok (.aload_n 0, 1) := by decide +kernel
theorem dX8_off_26 : decode cX8_off 26 = .ok (.iconst 0, 1) := by decide +kernel
theorem dX8_off_27 : decode cX8_off 27 = .ok (.invokevirtual 193, 3) := by decide +kernel
theorem dX8_off_30 : decode cX8_off 30 = .ok (.istore_n 2, 1) := by decide +kernel
theorem dX8_off_31 : decode cX8_off 31 = .ok (.iload_n 2, 1) := by decide +kernel
theorem dX8_off_32 : decode cX8_off 32 = .ok (.aload_n 0, 1) := by decide +kernel
theorem dX8_off_33 : decode cX8_off 33 = .ok (.invokevirtual 161, 3) := by decide +kernel
theorem dX8_off_36 : decode cX8_off 36 = .ok (.isub, 1) := by decide +kernel
theorem dX8_off_37 : decode cX8_off 37 = .ok (.ldc 196, 2) := by decide +kernel
theorem dX8_off_39 : decode cX8_off 39 = .ok (.iadd, 1) := by decide +kernel
theorem dX8_off_40 : decode cX8_off 40 = .ok (.ireturn, 1) := by decide +kernel
set_option maxRecDepth 20000 in
theorem ggX8_letter_X8_layLetters : GoodIn wsX8_letter wsX8_layLetters := goodIn_r _ [10, 1, 11, 12, 13, 14, 15, 9, 16, 17, 18, 19, 20, 21, 22, 23, 24, 25, 26, 27, 28, 29, 30, 31, 3, 4, 32, 33, 34, 35, 43, 44, 45, 46, 47, 48, 49, 50, 51, 52, 53, 54, 55, 56, 57, 58, 59] (by decide +kernel) (by decide +kernel)
set_option maxRecDepth 20000 in
theorem gX8_letter_X8_layLetters : GoodIn wsX8_letter (wsV RX8 92 RX8 yX8_layLetters wsX8_layLetters) := goodIn_app (goodIn_of _ (by decide +kernel)) ggX8_letter_X8_layLetters
set_option maxRecDepth 20000 in
theorem ggX8_letter_X8_in : GoodIn wsX8_letter wsX8_in := goodIn_r _ [38] (by decide +kernel) (by decide +kernel)
set_option maxRecDepth 20000 in
theorem gX8_letter_X8_in : GoodIn wsX8_letter (va_wsS RX8 47 yX8_in wsX8_in) := goodIn_app (goodIn_of _ (by decide +kernel)) ggX8_letter_X8_in
set_option maxRecDepth 20000 in
theorem ggX8_letter_X8_comes : GoodIn wsX8_letter wsX8_comes := goodIn_r _ [42, 11, 3, 4, 21, 22, 9, 23, 43, 44, 45, 46, 47, 48, 49, 50, 51, 52, 53, 54, 55, 56, 57, 58, 59] (by decide +kernel) (by decide +kernel)
set_option maxRecDepth 20000 in
theorem gX8_letter_X8_comes : GoodIn wsX8_letter (wsV RX8 95 RX8 yX8_comes wsX8_comes) := goodIn_app (goodIn_of _ (by decide +kernel)) ggX8_letter_X8_comes
theorem dX8_letter_0 : decode cX8_letter 0 = .ok (.aload_n 0, 1) := by decide +kernel
theorem dX8_letter_1 : decode cX8_letter 1 = .ok (.invokevirtual 92, 3) := by decide +kernel
theorem dX8_letter_4 : decode cX8_letter 4 = .ok (.iload_n 1, 1) := by decide +kernel
theorem dX8_letter_5 : decode cX8_letter 5 = .ok (.iconst 0, 1) := by decide +kernel
theorem dX8_letter_6 : decode cX8_letter 6 = .ok (.aload_n 0, 1) := by decide +kernel
theorem dX8_letter_7 : decode cX8_letter 7 = .ok (.getfield 77, 3) := by decide +kernel
theorem dX8_letter_10 : decode cX8_letter 10 = .ok (.iconst 1, 1) := by decide +kernel
theorem dX8_letter_11 : decode cX8_letter 11 = .ok (.isub, 1) := by decide +kernel
theorem dX8_letter_12 : decode cX8_letter 12 = .ok (.invokestatic 47, 3) := by decide +kernel
theorem dX8_letter_15 : decode cX8_letter 15 = .ok (.ifCond .ne 6, 3) := by decide +kernel
theorem dX8_letter_18 : decode cX8_letter 18 = .ok (.ldc 180, 2) := by decide +kernel
theorem dX8_letter_20 : decode cX8_letter 20 = .ok (.ireturn, 1) := by decide +kernel
theorem dX8_letter_21 : decode cX8_letter 21 = .ok (.iload_n 2, 1) := by decide +kernel
theorem dX8_letter_22 : decode cX8_letter 22 = .ok (.tableswitch 54 0 2 #[26, 33, 40], 26) := by decide +kernel
theorem dX8_letter_48 : decode cX8_letter 48 = .ok (.aload_n 0, 1) := by decide +kernel
theorem dX8_letter_49 : decode cX8_letter 49 = .ok (.getfield 25, 3) := by decide +kernel
theorem dX8_letter_52 : decode cX8_letter 52 = .ok (.iload_n 1, 1) := by decide +kernel
theorem dX8_letter_53 : decode cX8_letter 53 = .ok (.iaload, 1) := by decide +kernel
theorem dX8_letter_54 : decode cX8_letter 54 = .ok (.ireturn, 1) := by decide +kernel
theorem dX8_letter_55 : decode cX8_letter 55 = .ok (.aload_n 0, 1) := by decide +kernel
theorem dX8_letter_56 : decode cX8_letter 56 = .ok (.getfield 28, 3) := by decide +kernel
theorem dX8_letter_59 : decode cX8_letter 59 = .ok (.iload_n 1, 1) := by decide +kernel
theorem dX8_letter_60 : decode cX8_letter 60 = .ok (.iaload, 1) := by decide +kernel
theorem dX8_letter_61 : decode cX8_letter 61 = .ok (.ireturn, 1) := by decide +kernel
theorem dX8_letter_62 : decode cX8_letter 62 = .ok (.aload_n 0, 1) := by decide +kernel
theorem dX8_letter_63 : decode cX8_letter 63 = .ok (.iload_n 1, 1) := by decide +kernel
theorem dX8_letter_64 : decode cX8_letter 64 = .ok (.invokevirtual 95, 3) := by decide +kernel
theorem dX8_letter_67 : decode cX8_letter 67 = .ok (.ifCond .eq 7, 3) := by decide +kernel
theorem dX8_letter_70 : decode cX8_letter 70 = .ok (.iconst 1, 1) := by decide +kernel
theorem dX8_letter_71 : decode cX8_letter 71 = .ok (.goto 4, 3) := by decide +kernel
theorem dX8_letter_74 : decode cX8_letter 74 = .ok (.iconst 0, 1) := by decide +kernel
theorem dX8_letter_75 : decode cX8_letter 75 = .ok (.ireturn, 1) := by decide +kernel
theorem dX8_letter_76 : decode cX8_letter 76 = .ok (.ldc 179, 2) := by decide +kernel
theorem dX8_letter_78 : decode cX8_letter 78 = .ok (.ireturn, 1) := by decide +kernel
set_option maxRecDepth 20000 in
theorem ggX8_sent_X8_layLetters : GoodIn wsX8_sent wsX8_layLetters := goodIn_r _ [10, 1, 11, 12, 13, 14, 15, 9, 16, 17, 18, 19, 20, 21, 22, 23, 24, 25, 26, 27, 28, 29, 30, 31, 5, 32, 33, 34, 35, 36, 90, 91, 92, 93, 94, 95, 96, 97, 98, 99, 100, 101, 102, 103, 104, 105, 106] (by decide +kernel) (by decide +kernel)
set_option maxRecDepth 20000 in
theorem gX8_sent_X8_layLetters : GoodIn wsX8_sent (wsV RX8 92 RX8 yX8_layLetters wsX8_layLetters) := goodIn_app (goodIn_of _ (by decide +kernel)) ggX8_sent_X8_layLetters
set_option maxRecDepth 20000 in
theorem ggX8_sent_X8_in : GoodIn wsX8_sent wsX8_in := goodIn_r _ [39] (by decide +kernel) (by decide +kernel)
set_option maxRecDepth 20000 in
theorem gX8_sent_X8_in : GoodIn wsX8_sent (va_wsS RX8 47 yX8_in wsX8_in) := goodIn_app (goodIn_of _ (by decide +kernel)) ggX8_sent_X8_in
set_option maxRecDepth 20000 in
theorem ggX8_sent_X8_layHeld : GoodIn wsX8_sent wsX8_layHeld := goodIn_r _ [43, 11, 4, 1, 32, 5, 6, 7, 8, 9, 10, 12, 13, 14, 15, 16, 17, 18, 19, 20, 21, 22, 23, 24, 25, 26, 27, 28, 29, 30, 31, 33, 34, 35, 36, 44, 45, 46, 47, 48, 49, 50, 51, 52, 53, 54, 55, 56, 57, 58, 59, 60, 61, 62, 63, 64, 65, 66, 67, 68, 69, 70, 71, 72, 73, 74, 75, 76, 77, 78, 79, 80, 81, 82, 83, 84, 85, 86, 87, 88, 89, 90, 91, 92, 93, 94, 95, 96, 97, 98, 99, 100, 101, 102, 103, 104, 105, 106] (by decide +kernel) (by decide +kernel)
set_option maxRecDepth 20000 in
theorem gX8_sent_X8_layHeld : GoodIn wsX8_sent (wsV RX8 137 RX8 yX8_layHeld wsX8_layHeld) := goodIn_app (goodIn_of _ (by decide +kernel)) ggX8_sent_X8_layHeld
theorem dX8_sent_0 : decode cX8_sent 0 = .ok (.aload_n 0, 1) := by decide +kernel
theorem dX8_sent_1 : decode cX8_sent 1 = .ok (.invokevirtual 92, 3) := by decide +kernel
theorem dX8_sent_4 : decode cX8_sent 4 = .ok (.iload_n 1, 1) := by decide +kernel
theorem dX8_sent_5 : decode cX8_sent 5 = .ok (.iconst 0, 1) := by decide +kernel
theorem dX8_sent_6 : decode cX8_sent 6 = .ok (.aload_n 0, 1) := by decide +kernel
theorem dX8_sent_7 : decode cX8_sent 7 = .ok (.getfield 77, 3) := by decide +kernel
theorem dX8_sent_10 : decode cX8_sent 10 = .ok (.iconst 1, 1) := by decide +kernel
theorem dX8_sent_11 : decode cX8_sent 11 = .ok (.isub, 1) := by decide +kernel
theorem dX8_sent_12 : decode cX8_sent 12 = .ok (.invokestatic 47, 3) := by decide +kernel
theorem dX8_sent_15 : decode cX8_sent 15 = .ok (.ifCond .ne 7, 3) := by decide +kernel
theorem dX8_sent_18 : decode cX8_sent 18 = .ok (.ldc2_w 187, 3) := by decide +kernel
theorem dX8_sent_21 : decode cX8_sent 21 = .ok (.lreturn, 1) := by decide +kernel
theorem dX8_sent_22 : decode cX8_sent 22 = .ok (.iload_n 2, 1) := by decide +kernel
theorem dX8_sent_23 : decode cX8_sent 23 = .ok (.iconst 0, 1) := by decide +kernel
theorem dX8_sent_24 : decode cX8_sent 24 = .ok (.iconst 3, 1) := by decide +kernel
theorem dX8_sent_25 : decode cX8_sent 25 = .ok (.invokestatic 47, 3) := by decide +kernel
theorem dX8_sent_28 : decode cX8_sent 28 = .ok (.ifCond .ne 7, 3) := by decide +kernel
theorem dX8_sent_31 : decode cX8_sent 31 = .ok (.ldc2_w 189, 3) := by decide +kernel
theorem dX8_sent_34 : decode cX8_sent 34 = .ok (.lreturn, 1) := by decide +kernel
theorem dX8_sent_35 : decode cX8_sent 35 = .ok (.aload_n 0, 1) := by decide +kernel
theorem dX8_sent_36 : decode cX8_sent 36 = .ok (.iload_n 2, 1) := by decide +kernel
theorem dX8_sent_37 : decode cX8_sent 37 = .ok (.invokevirtual 137, 3) := by decide +kernel
theorem dX8_sent_40 : decode cX8_sent 40 = .ok (.aload_n 0, 1) := by decide +kernel
theorem dX8_sent_41 : decode cX8_sent 41 = .ok (.getfield 34, 3) := by decide +kernel
theorem dX8_sent_44 : decode cX8_sent 44 = .ok (.aload_n 0, 1) := by decide +kernel
theorem dX8_sent_45 : decode cX8_sent 45 = .ok (.getfield 25, 3) := by decide +kernel
theorem dX8_sent_48 : decode cX8_sent 48 = .ok (.iload_n 1, 1) := by decide +kernel
theorem dX8_sent_49 : decode cX8_sent 49 = .ok (.iaload, 1) := by decide +kernel
theorem dX8_sent_50 : decode cX8_sent 50 = .ok (.laload, 1) := by decide +kernel
theorem dX8_sent_51 : decode cX8_sent 51 = .ok (.lreturn, 1) := by decide +kernel
theorem dX8_oneMore_0 : decode cX8_oneMore 0 = .ok (.iconst 0, 1) := by decide +kernel
theorem dX8_oneMore_1 : decode cX8_oneMore 1 = .ok (.istore_n 1, 1) := by decide +kernel
theorem dX8_oneMore_2 : decode cX8_oneMore 2 = .ok (.iload_n 1, 1) := by decide +kernel
theorem dX8_oneMore_3 : decode cX8_oneMore 3 = .ok (.sipush 256, 3) := by decide +kernel
theorem dX8_oneMore_6 : decode cX8_oneMore 6 = .ok (.if_icmp .ge 16, 3) := by decide +kernel
theorem dX8_oneMore_9 : decode cX8_oneMore 9 = .ok (.aload_n 0, 1) := by decide +kernel
theorem dX8_oneMore_10 : decode cX8_oneMore 10 = .ok (.getfield 44, 3) := by decide +kernel
theorem dX8_oneMore_13 : decode cX8_oneMore 13 = .ok (.iload_n 1, 1) := by decide +kernel
theorem dX8_oneMore_14 : decode cX8_oneMore 14 = .ok (.lconst 0, 1) := by decide +kernel
theorem dX8_oneMore_15 : decode cX8_oneMore 15 = .ok (.lastore, 1) := by decide +kernel
theorem dX8_oneMore_16 : decode cX8_oneMore 16 = .ok (.iinc 1 1, 3) := by decide +kernel
theorem dX8_oneMore_19 : decode cX8_oneMore 19 = .ok (.goto (-17), 3) := by decide +kernel
theorem dX8_oneMore_22 : decode cX8_oneMore 22 = .ok (.iconst 0, 1) := by decide +kernel
theorem dX8_oneMore_23 : decode cX8_oneMore 23 = .ok (.istore_n 1, 1) := by decide +kernel
theorem dX8_oneMore_24 : decode cX8_oneMore 24 = .ok (.iload_n 1, 1) := by decide +kernel
theorem dX8_oneMore_25 : decode cX8_oneMore 25 = .ok (.sipush 256, 3) := by decide +kernel
theorem dX8_oneMore_28 : decode cX8_oneMore 28 = .ok (.if_icmp .ge 61, 3) := by decide +kernel
theorem dX8_oneMore_31 : decode cX8_oneMore 31 = .ok (.iconst 0, 1) := by decide +kernel
theorem dX8_oneMore_32 : decode cX8_oneMore 32 = .ok (.istore_n 2, 1) := by decide +kernel
theorem dX8_oneMore_33 : decode cX8_oneMore 33 = .ok (.iload_n 2, 1) := by decide +kernel
theorem dX8_oneMore_34 : decode cX8_oneMore 34 = .ok (.bipush 8, 2) := by decide +kernel
theorem dX8_oneMore_36 : decode cX8_oneMore 36 = .ok (.if_icmp .ge 47, 3) := by decide +kernel
theorem dX8_oneMore_39 : decode cX8_oneMore 39 = .ok (.iload_n 2, 1) := by decide +kernel
theorem dX8_oneMore_40 : decode cX8_oneMore 40 = .ok (.bipush 7, 2) := by decide +kernel
theorem dX8_oneMore_42 : decode cX8_oneMore 42 = .ok (.if_icmp .ne 7, 3) := by decide +kernel
theorem dX8_oneMore_45 : decode cX8_oneMore 45 = .ok (.lconst 1, 1) := by decide +kernel
theorem dX8_oneMore_46 : decode cX8_oneMore 46 = .ok (.goto 9, 3) := by decide +kernel
theorem dX8_oneMore_49 : decode cX8_oneMore 49 = .ok (.lconst 1, 1) := by decide +kernel
theorem dX8_oneMore_50 : decode cX8_oneMore 50 = .ok (.bipush 6, 2) := by decide +kernel
theorem dX8_oneMore_52 : decode cX8_oneMore 52 = .ok (.iload_n 2, 1) := by decide +kernel
theorem dX8_oneMore_53 : decode cX8_oneMore 53 = .ok (.isub, 1) := by decide +kernel
theorem dX8_oneMore_54 : decode cX8_oneMore 54 = .ok (.lshl, 1) := by decide +kernel
theorem dX8_oneMore_55 : decode cX8_oneMore 55 = .ok (.lstore_n 3, 1) := by decide +kernel
theorem dX8_oneMore_56 : decode cX8_oneMore 56 = .ok (.aload_n 0, 1) := by decide +kernel
theorem dX8_oneMore_57 : decode cX8_oneMore 57 = .ok (.getfield 44, 3) := by decide +kernel
theorem dX8_oneMore_60 : decode cX8_oneMore 60 = .ok (.iload_n 1, 1) := by decide +kernel
theorem dX8_oneMore_61 : decode cX8_oneMore 61 = .ok (.iconst 1, 1) := by decide +kernel
theorem dX8_oneMore_62 : decode cX8_oneMore 62 = .ok (.iload_n 2, 1) := by decide +kernel
theorem dX8_oneMore_63 : decode cX8_oneMore 63 = .ok (.ishl, 1) := by decide +kernel
theorem dX8_oneMore_64 : decode cX8_oneMore 64 = .ok (.ior, 1) := by decide +kernel
theorem dX8_oneMore_65 : decode cX8_oneMore 65 = .ok (.dup2, 1) := by decide +kernel
theorem dX8_oneMore_66 : decode cX8_oneMore 66 = .ok (.laload, 1) := by decide +kernel
theorem dX8_oneMore_67 : decode cX8_oneMore 67 = .ok (.lload_n 3, 1) := by decide +kernel
theorem dX8_oneMore_68 : decode cX8_oneMore 68 = .ok (.aload_n 0, 1) := by decide +kernel
theorem dX8_oneMore_69 : decode cX8_oneMore 69 = .ok (.getfield 41, 3) := by decide +kernel
theorem dX8_oneMore_72 : decode cX8_oneMore 72 = .ok (.iload_n 1, 1) := by decide +kernel
theorem dX8_oneMore_73 : decode cX8_oneMore 73 = .ok (.laload, 1) := by decide +kernel
theorem dX8_oneMore_74 : decode cX8_oneMore 74 = .ok (.lmul, 1) := by decide +kernel
theorem dX8_oneMore_75 : decode cX8_oneMore 75 = .ok (.ladd, 1) := by decide +kernel
theorem dX8_oneMore_76 : decode cX8_oneMore 76 = .ok (.lastore, 1) := by decide +kernel
theorem dX8_oneMore_77 : decode cX8_oneMore 77 = .ok (.iinc 2 1, 3) := by decide +kernel
theorem dX8_oneMore_80 : decode cX8_oneMore 80 = .ok (.goto (-47), 3) := by decide +kernel
theorem dX8_oneMore_83 : decode cX8_oneMore 83 = .ok (.iinc 1 1, 3) := by decide +kernel
theorem dX8_oneMore_86 : decode cX8_oneMore 86 = .ok (.goto (-62), 3) := by decide +kernel
theorem dX8_oneMore_89 : decode cX8_oneMore 89 = .ok (.iconst 0, 1) := by decide +kernel
theorem dX8_oneMore_90 : decode cX8_oneMore 90 = .ok (.istore_n 1, 1) := by decide +kernel
theorem dX8_oneMore_91 : decode cX8_oneMore 91 = .ok (.iload_n 1, 1) := by decide +kernel
theorem dX8_oneMore_92 : decode cX8_oneMore 92 = .ok (.sipush 256, 3) := by decide +kernel
theorem dX8_oneMore_95 : decode cX8_oneMore 95 = .ok (.if_icmp .ge 21, 3) := by decide +kernel
theorem dX8_oneMore_98 : decode cX8_oneMore 98 = .ok (.aload_n 0, 1) := by decide +kernel
theorem dX8_oneMore_99 : decode cX8_oneMore 99 = .ok (.getfield 41, 3) := by decide +kernel
theorem dX8_oneMore_102 : decode cX8_oneMore 102 = .ok (.iload_n 1, 1) := by decide +kernel
theorem dX8_oneMore_103 : decode cX8_oneMore 103 = .ok (.aload_n 0, 1) := by decide +kernel
theorem dX8_oneMore_104 : decode cX8_oneMore 104 = .ok (.getfield 44, 3) := by decide +kernel
theorem dX8_oneMore_107 : decode cX8_oneMore 107 = .ok (.iload_n 1, 1) := by decide +kernel
theorem dX8_oneMore_108 : decode cX8_oneMore 108 = .ok (.laload, 1) := by decide +kernel
theorem dX8_oneMore_109 : decode cX8_oneMore 109 = .ok (.lastore, 1) := by decide +kernel
theorem dX8_oneMore_110 : decode cX8_oneMore 110 = .ok (.iinc 1 1, 3) := by decide +kernel
theorem dX8_oneMore_113 : decode cX8_oneMore 113 = .ok (.goto (-22), 3) := by decide +kernel
theorem dX8_oneMore_116 : decode cX8_oneMore 116 = .ok (.return_, 1) := by decide +kernel
set_option maxRecDepth 20000 in
theorem ggX8_leastNot_X8_has : GoodIn wsX8_leastNot wsX8_has := goodIn_r _ [4] (by decide +kernel) (by decide +kernel)
set_option maxRecDepth 20000 in
theorem gX8_leastNot_X8_has : GoodIn wsX8_leastNot (va_wsS RX8 55 yX8_has wsX8_has) := goodIn_app (goodIn_of _ (by decide +kernel)) ggX8_leastNot_X8_has
theorem dX8_leastNot_0 : decode cX8_leastNot 0 = .ok (.iconst 0, 1) := by decide +kernel
theorem dX8_leastNot_1 : decode cX8_leastNot 1 = .ok (.istore_n 1, 1) := by decide +kernel
theorem dX8_leastNot_2 : decode cX8_leastNot 2 = .ok (.iload_n 1, 1) := by decide +kernel
theorem dX8_leastNot_3 : decode cX8_leastNot 3 = .ok (.bipush 8, 2) := by decide +kernel
theorem dX8_leastNot_5 : decode cX8_leastNot 5 = .ok (.if_icmp .ge 17, 3) := by decide +kernel
theorem dX8_leastNot_8 : decode cX8_leastNot 8 = .ok (.iload_n 0, 1) := by decide +kernel
theorem dX8_leastNot_9 : decode cX8_leastNot 9 = .ok (.iload_n 1, 1) := by decide +kernel
theorem dX8_leastNot_10 : decode cX8_leastNot 10 = .ok (.invokestatic 55, 3) := by decide +kernel
theorem dX8_leastNot_13 : decode cX8_leastNot 13 = .ok (.ifCond .eq 9, 3) := by decide +kernel
theorem dX8_leastNot_16 : decode cX8_leastNot 16 = .ok (.iinc 1 1, 3) := by decide +kernel
theorem dX8_leastNot_19 : decode cX8_leastNot 19 = .ok (.goto (-17), 3) := by decide +kernel
theorem dX8_leastNot_22 : decode cX8_leastNot 22 = .ok (.iload_n 1, 1) := by decide +kernel
theorem dX8_leastNot_23 : decode cX8_leastNot 23 = .ok (.ireturn, 1) := by decide +kernel
set_option maxRecDepth 20000 in
theorem ggX8_rows_X8_in : GoodIn wsX8_rows wsX8_in := goodIn_r _ [6] (by decide +kernel) (by decide +kernel)
set_option maxRecDepth 20000 in
theorem gX8_rows_X8_in : GoodIn wsX8_rows (va_wsS RX8 47 yX8_in wsX8_in) := goodIn_app (goodIn_of _ (by decide +kernel)) ggX8_rows_X8_in
set_option maxRecDepth 20000 in
theorem ggX8_rows_X8_oneMore : GoodIn wsX8_rows wsX8_oneMore := goodIn_r _ [10, 11, 2, 18, 19, 20, 21, 22, 23, 24, 25, 26, 27, 28, 29, 30, 31, 32, 33, 34] (by decide +kernel) (by decide +kernel)
set_option maxRecDepth 20000 in
theorem gX8_rows_X8_oneMore : GoodIn wsX8_rows (wsV RX8 197 RX8 yX8_oneMore wsX8_oneMore) := goodIn_app (goodIn_of _ (by decide +kernel)) ggX8_rows_X8_oneMore
set_option maxRecDepth 20000 in
theorem ggX8_rows_X8_leastNot : GoodIn wsX8_rows wsX8_leastNot := goodIn_r _ [14, 15, 16, 5, 17] (by decide +kernel) (by decide +kernel)
set_option maxRecDepth 20000 in
theorem gX8_rows_X8_leastNot : GoodIn wsX8_rows (va_wsS RX8 200 yX8_leastNot wsX8_leastNot) := goodIn_app (goodIn_of _ (by decide +kernel)) ggX8_rows_X8_leastNot
theorem dX8_rows_0 : decode cX8_rows 0 = .ok (.iload_n 1, 1) := by decide +kernel
theorem dX8_rows_1 : decode cX8_rows 1 = .ok (.iconst 1, 1) := by decide +kernel
theorem dX8_rows_2 : decode cX8_rows 2 = .ok (.bipush 8, 2) := by decide +kernel
theorem dX8_rows_4 : decode cX8_rows 4 = .ok (.invokestatic 47, 3) := by decide +kernel
theorem dX8_rows_7 : decode cX8_rows 7 = .ok (.ifCond .eq 13, 3) := by decide +kernel
theorem dX8_rows_10 : decode cX8_rows 10 = .ok (.iload_n 2, 1) := by decide +kernel
theorem dX8_rows_11 : decode cX8_rows 11 = .ok (.iconst 0, 1) := by decide +kernel
theorem dX8_rows_12 : decode cX8_rows 12 = .ok (.bipush 8, 2) := by decide +kernel
theorem dX8_rows_14 : decode cX8_rows 14 = .ok (.invokestatic 47, 3) := by decide +kernel
theorem dX8_rows_17 : decode cX8_rows 17 = .ok (.ifCond .ne 7, 3) := by decide +kernel
theorem dX8_rows_20 : decode cX8_rows 20 = .ok (.ldc2_w 189, 3) := by decide +kernel
theorem dX8_rows_23 : decode cX8_rows 23 = .ok (.lreturn, 1) := by decide +kernel
theorem dX8_rows_24 : decode cX8_rows 24 = .ok (.iconst 0, 1) := by decide +kernel
theorem dX8_rows_25 : decode cX8_rows 25 = .ok (.istore_n 3, 1) := by decide +kernel
theorem dX8_rows_26 : decode cX8_rows 26 = .ok (.iload_n 3, 1) := by decide +kernel
theorem dX8_rows_27 : decode cX8_rows 27 = .ok (.sipush 256, 3) := by decide +kernel
theorem dX8_rows_30 : decode cX8_rows 30 = .ok (.if_icmp .ge 24, 3) := by decide +kernel
theorem dX8_rows_33 : decode cX8_rows 33 = .ok (.aload_n 0, 1) := by decide +kernel
theorem dX8_rows_34 : decode cX8_rows 34 = .ok (.getfield 41, 3) := by decide +kernel
theorem dX8_rows_37 : decode cX8_rows 37 = .ok (.iload_n 3, 1) := by decide +kernel
theorem dX8_rows_38 : decode cX8_rows 38 = .ok (.iload_n 3, 1) := by decide +kernel
theorem dX8_rows_39 : decode cX8_rows 39 = .ok (.ifCond .ne 7, 3) := by decide +kernel
theorem dX8_rows_42 : decode cX8_rows 42 = .ok (.lconst 1, 1) := by decide +kernel
theorem dX8_rows_43 : decode cX8_rows 43 = .ok (.goto 4, 3) := by decide +kernel
theorem dX8_rows_46 : decode cX8_rows 46 = .ok (.lconst 0, 1) := by decide +kernel
theorem dX8_rows_47 : decode cX8_rows 47 = .ok (.lastore, 1) := by decide +kernel
theorem dX8_rows_48 : decode cX8_rows 48 = .ok (.iinc 3 1, 3) := by decide +kernel
theorem dX8_rows_51 : decode cX8_rows 51 = .ok (.goto (-25), 3) := by decide +kernel
theorem dX8_rows_54 : decode cX8_rows 54 = .ok (.iconst 0, 1) := by decide +kernel
theorem dX8_rows_55 : decode cX8_rows 55 = .ok (.istore_n 3, 1) := by decide +kernel
theorem dX8_rows_56 : decode cX8_rows 56 = .ok (.iload_n 3, 1) := by decide +kernel
theorem dX8_rows_57 : decode cX8_rows 57 = .ok (.iload_n 1, 1) := by decide +kernel
theorem dX8_rows_58 : decode cX8_rows 58 = .ok (.if_icmp .ge 13, 3) := by decide +kernel
theorem dX8_rows_61 : decode cX8_rows 61 = .ok (.aload_n 0, 1) := by decide +kernel
theorem dX8_rows_62 : decode cX8_rows 62 = .ok (.invokevirtual 197, 3) := by decide +kernel
theorem dX8_rows_65 : decode cX8_rows 65 = .ok (.iinc 3 1, 3) := by decide +kernel
theorem dX8_rows_68 : decode cX8_rows 68 = .ok (.goto (-12), 3) := by decide +kernel
theorem dX8_rows_71 : decode cX8_rows 71 = .ok (.lconst 0, 1) := by decide +kernel
theorem dX8_rows_72 : decode cX8_rows 72 = .ok (.lstore_n 3, 1) := by decide +kernel
theorem dX8_rows_73 : decode cX8_rows 73 = .ok (.iconst 0, 1) := by decide +kernel
theorem dX8_rows_74 : decode cX8_rows 74 = .ok (.istore 5, 2) := by decide +kernel
theorem dX8_rows_76 : decode cX8_rows 76 = .ok (.iload 5, 2) := by decide +kernel
theorem dX8_rows_78 : decode cX8_rows 78 = .ok (.sipush 256, 3) := by decide +kernel
theorem dX8_rows_81 : decode cX8_rows 81 = .ok (.if_icmp .ge 32, 3) := by decide +kernel
theorem dX8_rows_84 : decode cX8_rows 84 = .ok (.lload_n 3, 1) := by decide +kernel
theorem dX8_rows_85 : decode cX8_rows 85 = .ok (.iload 5, 2) := by decide +kernel
theorem dX8_rows_87 : decode cX8_rows 87 = .ok (.invokestatic 200, 3) := by decide +kernel
theorem dX8_rows_90 : decode cX8_rows 90 = .ok (.iload_n 2, 1) := by decide +kernel
theorem dX8_rows_91 : decode cX8_rows 91 = .ok (.if_icmp .ne 13, 3) := by decide +kernel
theorem dX8_rows_94 : decode cX8_rows 94 = .ok (.aload_n 0, 1) := by decide +kernel
theorem dX8_rows_95 : decode cX8_rows 95 = .ok (.getfield 41, 3) := by decide +kernel
theorem dX8_rows_98 : decode cX8_rows 98 = .ok (.iload 5, 2) := by decide +kernel
theorem dX8_rows_100 : decode cX8_rows 100 = .ok (.laload, 1) := by decide +kernel
theorem dX8_rows_101 : decode cX8_rows 101 = .ok (.goto 4, 3) := by decide +kernel
theorem dX8_rows_104 : decode cX8_rows 104 = .ok (.lconst 0, 1) := by decide +kernel
theorem dX8_rows_105 : decode cX8_rows 105 = .ok (.ladd, 1) := by decide +kernel
theorem dX8_rows_106 : decode cX8_rows 106 = .ok (.lstore_n 3, 1) := by decide +kernel
theorem dX8_rows_107 : decode cX8_rows 107 = .ok (.iinc 5 1, 3) := by decide +kernel
theorem dX8_rows_110 : decode cX8_rows 110 = .ok (.goto (-34), 3) := by decide +kernel
theorem dX8_rows_113 : decode cX8_rows 113 = .ok (.lload_n 3, 1) := by decide +kernel
theorem dX8_rows_114 : decode cX8_rows 114 = .ok (.lreturn, 1) := by decide +kernel
set_option maxRecDepth 20000 in
theorem ggX8_remember_X8_copyRow : GoodIn wsX8_remember wsX8_copyRow := goodIn_r _ [6, 7, 8, 9, 10, 11, 12, 13, 14, 15, 16, 17, 18, 19, 20, 21, 22, 23, 24] (by decide +kernel) (by decide +kernel)
set_option maxRecDepth 20000 in
theorem gX8_remember_X8_copyRow : GoodIn wsX8_remember (wsV RX8 203 RX8 yX8_copyRow wsX8_copyRow) := goodIn_app (goodIn_of _ (by decide +kernel)) ggX8_remember_X8_copyRow
theorem dX8_remember_0 : decode cX8_remember 0 = .ok (.aload_n 0, 1) := by decide +kernel
theorem dX8_remember_1 : decode cX8_remember 1 = .ok (.getfield 173, 3) := by decide +kernel
theorem dX8_remember_4 : decode cX8_remember 4 = .ok (.bipush 16, 2) := by decide +kernel
theorem dX8_remember_6 : decode cX8_remember 6 = .ok (.if_icmp .ne 41, 3) := by decide +kernel
theorem dX8_remember_9 : decode cX8_remember 9 = .ok (.iconst 1, 1) := by decide +kernel
theorem dX8_remember_10 : decode cX8_remember 10 = .ok (.istore_n 1, 1) := by decide +kernel
theorem dX8_remember_11 : decode cX8_remember 11 = .ok (.iload_n 1, 1) := by decide +kernel
theorem dX8_remember_12 : decode cX8_remember 12 = .ok (.bipush 16, 2) := by decide +kernel
theorem dX8_remember_14 : decode cX8_remember 14 = .ok (.if_icmp .ge 23, 3) := by decide +kernel
theorem dX8_remember_17 : decode cX8_remember 17 = .ok (.aload_n 0, 1) := by decide +kernel
theorem dX8_remember_18 : decode cX8_remember 18 = .ok (.bipush 30, 2) := by decide +kernel
theorem dX8_remember_20 : decode cX8_remember 20 = .ok (.iload_n 1, 1) := by decide +kernel
theorem dX8_remember_21 : decode cX8_remember 21 = .ok (.iconst 1, 1) := by decide +kernel
theorem dX8_remember_22 : decode cX8_remember 22 = .ok (.iadd, 1) := by decide +kernel
theorem dX8_remember_23 : decode cX8_remember 23 = .ok (.imul, 1) := by decide +kernel
theorem dX8_remember_24 : decode cX8_remember 24 = .ok (.bipush 30, 2) := by decide +kernel
theorem dX8_remember_26 : decode cX8_remember 26 = .ok (.iload_n 1, 1) := by decide +kernel
theorem dX8_remember_27 : decode cX8_remember 27 = .ok (.imul, 1) := by decide +kernel
theorem dX8_remember_28 : decode cX8_remember 28 = .ok (.invokevirtual 203, 3) := by decide +kernel
theorem dX8_remember_31 : decode cX8_remember 31 = .ok (.iinc 1 1, 3) := by decide +kernel
theorem dX8_remember_34 : decode cX8_remember 34 = .ok (.goto (-23), 3) := by decide +kernel
theorem dX8_remember_37 : decode cX8_remember 37 = .ok (.aload_n 0, 1) := by decide +kernel
theorem dX8_remember_38 : decode cX8_remember 38 = .ok (.dup, 1) := by decide +kernel
theorem dX8_remember_39 : decode cX8_remember 39 = .ok (.getfield 173, 3) := by decide +kernel
theorem dX8_remember_42 : decode cX8_remember 42 = .ok (.iconst 1, 1) := by decide +kernel
theorem dX8_remember_43 : decode cX8_remember 43 = .ok (.isub, 1) := by decide +kernel
theorem dX8_remember_44 : decode cX8_remember 44 = .ok (.putfield 173, 3) := by decide +kernel
theorem dX8_remember_47 : decode cX8_remember 47 = .ok (.aload_n 0, 1) := by decide +kernel
theorem dX8_remember_48 : decode cX8_remember 48 = .ok (.iconst 0, 1) := by decide +kernel
theorem dX8_remember_49 : decode cX8_remember 49 = .ok (.bipush 30, 2) := by decide +kernel
theorem dX8_remember_51 : decode cX8_remember 51 = .ok (.aload_n 0, 1) := by decide +kernel
theorem dX8_remember_52 : decode cX8_remember 52 = .ok (.getfield 173, 3) := by decide +kernel
theorem dX8_remember_55 : decode cX8_remember 55 = .ok (.iconst 1, 1) := by decide +kernel
theorem dX8_remember_56 : decode cX8_remember 56 = .ok (.iadd, 1) := by decide +kernel
theorem dX8_remember_57 : decode cX8_remember 57 = .ok (.imul, 1) := by decide +kernel
theorem dX8_remember_58 : decode cX8_remember 58 = .ok (.invokevirtual 203, 3) := by decide +kernel
theorem dX8_remember_61 : decode cX8_remember 61 = .ok (.aload_n 0, 1) := by decide +kernel
theorem dX8_remember_62 : decode cX8_remember 62 = .ok (.dup, 1) := by decide +kernel
theorem dX8_remember_63 : decode cX8_remember 63 = .ok (.getfield 173, 3) := by decide +kernel
theorem dX8_remember_66 : decode cX8_remember 66 = .ok (.iconst 1, 1) := by decide +kernel
theorem dX8_remember_67 : decode cX8_remember 67 = .ok (.iadd, 1) := by decide +kernel
theorem dX8_remember_68 : decode cX8_remember 68 = .ok (.putfield 173, 3) := by decide +kernel
theorem dX8_remember_71 : decode cX8_remember 71 = .ok (.return_, 1) := by decide +kernel
set_option maxRecDepth 20000 in
theorem ggX8_put_X8_remember : GoodIn wsX8_put wsX8_remember := goodIn_r _ [6, 7, 8, 9, 10, 5, 11, 1, 12, 13, 14, 15, 16, 17, 18, 19, 20, 21, 22, 23, 24, 25, 26, 27, 28] (by decide +kernel) (by decide +kernel)
set_option maxRecDepth 20000 in
theorem gX8_put_X8_remember : GoodIn wsX8_put (wsV RX8 207 RX8 yX8_remember wsX8_remember) := goodIn_app (goodIn_of _ (by decide +kernel)) ggX8_put_X8_remember
theorem dX8_put_0 : decode cX8_put 0 = .ok (.aload_n 0, 1) := by decide +kernel
theorem dX8_put_1 : decode cX8_put 1 = .ok (.invokevirtual 207, 3) := by decide +kernel
theorem dX8_put_4 : decode cX8_put 4 = .ok (.aload_n 0, 1) := by decide +kernel
theorem dX8_put_5 : decode cX8_put 5 = .ok (.getfield 9, 3) := by decide +kernel
theorem dX8_put_8 : decode cX8_put 8 = .ok (.iload_n 1, 1) := by decide +kernel
theorem dX8_put_9 : decode cX8_put 9 = .ok (.iaload, 1) := by decide +kernel
theorem dX8_put_10 : decode cX8_put 10 = .ok (.istore_n 3, 1) := by decide +kernel
theorem dX8_put_11 : decode cX8_put 11 = .ok (.aload_n 0, 1) := by decide +kernel
theorem dX8_put_12 : decode cX8_put 12 = .ok (.getfield 9, 3) := by decide +kernel
theorem dX8_put_15 : decode cX8_put 15 = .ok (.iload_n 1, 1) := by decide +kernel
theorem dX8_put_16 : decode cX8_put 16 = .ok (.iload_n 2, 1) := by decide +kernel
theorem dX8_put_17 : decode cX8_put 17 = .ok (.iastore, 1) := by decide +kernel
theorem dX8_put_18 : decode cX8_put 18 = .ok (.iload_n 3, 1) := by decide +kernel
theorem dX8_put_19 : decode cX8_put 19 = .ok (.ireturn, 1) := by decide +kernel
theorem dX8_turn_0 : decode cX8_turn 0 = .ok (.aload_n 0, 1) := by decide +kernel
theorem dX8_turn_1 : decode cX8_turn 1 = .ok (.getfield 9, 3) := by decide +kernel
theorem dX8_turn_4 : decode cX8_turn 4 = .ok (.iload_n 1, 1) := by decide +kernel
theorem dX8_turn_5 : decode cX8_turn 5 = .ok (.iload_n 2, 1) := by decide +kernel
theorem dX8_turn_6 : decode cX8_turn 6 = .ok (.iadd, 1) := by decide +kernel
theorem dX8_turn_7 : decode cX8_turn 7 = .ok (.dup2, 1) := by decide +kernel
theorem dX8_turn_8 : decode cX8_turn 8 = .ok (.iaload, 1) := by decide +kernel
theorem dX8_turn_9 : decode cX8_turn 9 = .ok (.iconst 1, 1) := by decide +kernel
theorem dX8_turn_10 : decode cX8_turn 10 = .ok (.iload_n 3, 1) := by decide +kernel
theorem dX8_turn_11 : decode cX8_turn 11 = .ok (.ishl, 1) := by decide +kernel
theorem dX8_turn_12 : decode cX8_turn 12 = .ok (.ixor, 1) := by decide +kernel
theorem dX8_turn_13 : decode cX8_turn 13 = .ok (.iastore, 1) := by decide +kernel
theorem dX8_turn_14 : decode cX8_turn 14 = .ok (.aload_n 0, 1) := by decide +kernel
theorem dX8_turn_15 : decode cX8_turn 15 = .ok (.getfield 9, 3) := by decide +kernel
theorem dX8_turn_18 : decode cX8_turn 18 = .ok (.iload_n 1, 1) := by decide +kernel
theorem dX8_turn_19 : decode cX8_turn 19 = .ok (.iload_n 3, 1) := by decide +kernel
theorem dX8_turn_20 : decode cX8_turn 20 = .ok (.iadd, 1) := by decide +kernel
theorem dX8_turn_21 : decode cX8_turn 21 = .ok (.dup2, 1) := by decide +kernel
theorem dX8_turn_22 : decode cX8_turn 22 = .ok (.iaload, 1) := by decide +kernel
theorem dX8_turn_23 : decode cX8_turn 23 = .ok (.iconst 1, 1) := by decide +kernel
theorem dX8_turn_24 : decode cX8_turn 24 = .ok (.iload_n 2, 1) := by decide +kernel
theorem dX8_turn_25 : decode cX8_turn 25 = .ok (.ishl, 1) := by decide +kernel
theorem dX8_turn_26 : decode cX8_turn 26 = .ok (.ixor, 1) := by decide +kernel
theorem dX8_turn_27 : decode cX8_turn 27 = .ok (.iastore, 1) := by decide +kernel
theorem dX8_turn_28 : decode cX8_turn 28 = .ok (.return_, 1) := by decide +kernel
set_option maxRecDepth 20000 in
theorem ggX8_node_X8_in : GoodIn wsX8_node wsX8_in := goodIn_r _ [9] (by decide +kernel) (by decide +kernel)
set_option maxRecDepth 20000 in
theorem gX8_node_X8_in : GoodIn wsX8_node (va_wsS RX8 47 yX8_in wsX8_in) := goodIn_app (goodIn_of _ (by decide +kernel)) ggX8_node_X8_in
set_option maxRecDepth 20000 in
theorem ggX8_node_X8_remember : GoodIn wsX8_node wsX8_remember := goodIn_r _ [13, 14, 15, 16, 17, 8, 18, 1, 26, 27, 28, 29, 30, 31, 32, 33, 34, 35, 36, 37, 38, 39, 40, 41, 42] (by decide +kernel) (by decide +kernel)
set_option maxRecDepth 20000 in
theorem gX8_node_X8_remember : GoodIn wsX8_node (wsV RX8 207 RX8 yX8_remember wsX8_remember) := goodIn_app (goodIn_of _ (by decide +kernel)) ggX8_node_X8_remember
set_option maxRecDepth 20000 in
theorem ggX8_node_X8_has : GoodIn wsX8_node wsX8_has := goodIn_r _ [21] (by decide +kernel) (by decide +kernel)
set_option maxRecDepth 20000 in
theorem gX8_node_X8_has : GoodIn wsX8_node (va_wsS RX8 55 yX8_has wsX8_has) := goodIn_app (goodIn_of _ (by decide +kernel)) ggX8_node_X8_has
set_option maxRecDepth 20000 in
theorem ggX8_node_X8_turn : GoodIn wsX8_node wsX8_turn := goodIn_r _ [25, 1, 26, 27, 28, 29, 30, 31, 32, 33, 34, 35, 36, 37, 38, 39, 40, 41, 42] (by decide +kernel) (by decide +kernel)
set_option maxRecDepth 20000 in
theorem gX8_node_X8_turn : GoodIn wsX8_node (wsV RX8 212 RX8 yX8_turn wsX8_turn) := goodIn_app (goodIn_of _ (by decide +kernel)) ggX8_node_X8_turn
theorem dX8_node_0 : decode cX8_node 0 = .ok (.iload_n 1, 1) := by decide +kernel
theorem dX8_node_1 : decode cX8_node 1 = .ok (.iconst 0, 1) := by decide +kernel
theorem dX8_node_2 : decode cX8_node 2 = .ok (.iconst 1, 1) := by decide +kernel
theorem dX8_node_3 : decode cX8_node 3 = .ok (.aload_n 0, 1) := by decide +kernel
theorem dX8_node_4 : decode cX8_node 4 = .ok (.getfield 9, 3) := by decide +kernel
theorem dX8_node_7 : decode cX8_node 7 = .ok (.iconst 0, 1) := by decide +kernel
theorem dX8_node_8 : decode cX8_node 8 = .ok (.iaload, 1) := by decide +kernel
theorem dX8_node_9 : decode cX8_node 9 = .ok (.ishl, 1) := by decide +kernel
theorem dX8_node_10 : decode cX8_node 10 = .ok (.iconst 1, 1) := by decide +kernel
theorem dX8_node_11 : decode cX8_node 11 = .ok (.isub, 1) := by decide +kernel
theorem dX8_node_12 : decode cX8_node 12 = .ok (.invokestatic 47, 3) := by decide +kernel
theorem dX8_node_15 : decode cX8_node 15 = .ok (.ifCond .ne 6, 3) := by decide +kernel
theorem dX8_node_18 : decode cX8_node 18 = .ok (.ldc 180, 2) := by decide +kernel
theorem dX8_node_20 : decode cX8_node 20 = .ok (.ireturn, 1) := by decide +kernel
theorem dX8_node_21 : decode cX8_node 21 = .ok (.iload_n 2, 1) := by decide +kernel
theorem dX8_node_22 : decode cX8_node 22 = .ok (.iconst 0, 1) := by decide +kernel
theorem dX8_node_23 : decode cX8_node 23 = .ok (.ldc 210, 2) := by decide +kernel
theorem dX8_node_25 : decode cX8_node 25 = .ok (.invokestatic 47, 3) := by decide +kernel
theorem dX8_node_28 : decode cX8_node 28 = .ok (.ifCond .ne 6, 3) := by decide +kernel
theorem dX8_node_31 : decode cX8_node 31 = .ok (.ldc 179, 2) := by decide +kernel
theorem dX8_node_33 : decode cX8_node 33 = .ok (.ireturn, 1) := by decide +kernel
theorem dX8_node_34 : decode cX8_node 34 = .ok (.aload_n 0, 1) := by decide +kernel
theorem dX8_node_35 : decode cX8_node 35 = .ok (.getfield 9, 3) := by decide +kernel
theorem dX8_node_38 : decode cX8_node 38 = .ok (.iconst 0, 1) := by decide +kernel
theorem dX8_node_39 : decode cX8_node 39 = .ok (.iaload, 1) := by decide +kernel
theorem dX8_node_40 : decode cX8_node 40 = .ok (.bipush 9, 2) := by decide +kernel
theorem dX8_node_42 : decode cX8_node 42 = .ok (.if_icmp .ne 6, 3) := by decide +kernel
theorem dX8_node_45 : decode cX8_node 45 = .ok (.ldc 211, 2) := by decide +kernel
theorem dX8_node_47 : decode cX8_node 47 = .ok (.ireturn, 1) := by decide +kernel
theorem dX8_node_48 : decode cX8_node 48 = .ok (.aload_n 0, 1) := by decide +kernel
theorem dX8_node_49 : decode cX8_node 49 = .ok (.invokevirtual 207, 3) := by decide +kernel
theorem dX8_node_52 : decode cX8_node 52 = .ok (.aload_n 0, 1) := by decide +kernel
theorem dX8_node_53 : decode cX8_node 53 = .ok (.getfield 9, 3) := by decide +kernel
theorem dX8_node_56 : decode cX8_node 56 = .ok (.iconst 0, 1) := by decide +kernel
theorem dX8_node_57 : decode cX8_node 57 = .ok (.iaload, 1) := by decide +kernel
theorem dX8_node_58 : decode cX8_node 58 = .ok (.istore_n 3, 1) := by decide +kernel
theorem dX8_node_59 : decode cX8_node 59 = .ok (.aload_n 0, 1) := by decide +kernel
theorem dX8_node_60 : decode cX8_node 60 = .ok (.getfield 9, 3) := by decide +kernel
theorem dX8_node_63 : decode cX8_node 63 = .ok (.iconst 0, 1) := by decide +kernel
theorem dX8_node_64 : decode cX8_node 64 = .ok (.dup2, 1) := by decide +kernel
theorem dX8_node_65 : decode cX8_node 65 = .ok (.iaload, 1) := by decide +kernel
theorem dX8_node_66 : decode cX8_node 66 = .ok (.iconst 1, 1) := by decide +kernel
theorem dX8_node_67 : decode cX8_node 67 = .ok (.iadd, 1) := by decide +kernel
theorem dX8_node_68 : decode cX8_node 68 = .ok (.iastore, 1) := by decide +kernel
theorem dX8_node_69 : decode cX8_node 69 = .ok (.aload_n 0, 1) := by decide +kernel
theorem dX8_node_70 : decode cX8_node 70 = .ok (.getfield 9, 3) := by decide +kernel
theorem dX8_node_73 : decode cX8_node 73 = .ok (.iconst 3, 1) := by decide +kernel
theorem dX8_node_74 : decode cX8_node 74 = .ok (.iload_n 3, 1) := by decide +kernel
theorem dX8_node_75 : decode cX8_node 75 = .ok (.iadd, 1) := by decide +kernel
theorem dX8_node_76 : decode cX8_node 76 = .ok (.iconst 0, 1) := by decide +kernel
theorem dX8_node_77 : decode cX8_node 77 = .ok (.iastore, 1) := by decide +kernel
theorem dX8_node_78 : decode cX8_node 78 = .ok (.aload_n 0, 1) := by decide +kernel
theorem dX8_node_79 : decode cX8_node 79 = .ok (.getfield 9, 3) := by decide +kernel
theorem dX8_node_82 : decode cX8_node 82 = .ok (.bipush 12, 2) := by decide +kernel
theorem dX8_node_84 : decode cX8_node 84 = .ok (.iload_n 3, 1) := by decide +kernel
theorem dX8_node_85 : decode cX8_node 85 = .ok (.iadd, 1) := by decide +kernel
theorem dX8_node_86 : decode cX8_node 86 = .ok (.iconst 0, 1) := by decide +kernel
theorem dX8_node_87 : decode cX8_node 87 = .ok (.iastore, 1) := by decide +kernel
theorem dX8_node_88 : decode cX8_node 88 = .ok (.aload_n 0, 1) := by decide +kernel
theorem dX8_node_89 : decode cX8_node 89 = .ok (.getfield 9, 3) := by decide +kernel
theorem dX8_node_92 : decode cX8_node 92 = .ok (.bipush 21, 2) := by decide +kernel
theorem dX8_node_94 : decode cX8_node 94 = .ok (.iload_n 3, 1) := by decide +kernel
theorem dX8_node_95 : decode cX8_node 95 = .ok (.iadd, 1) := by decide +kernel
theorem dX8_node_96 : decode cX8_node 96 = .ok (.iload_n 2, 1) := by decide +kernel
theorem dX8_node_97 : decode cX8_node 97 = .ok (.iastore, 1) := by decide +kernel
theorem dX8_node_98 : decode cX8_node 98 = .ok (.iconst 0, 1) := by decide +kernel
theorem dX8_node_99 : decode cX8_node 99 = .ok (.istore 4, 2) := by decide +kernel
theorem dX8_node_101 : decode cX8_node 101 = .ok (.iload 4, 2) := by decide +kernel
theorem dX8_node_103 : decode cX8_node 103 = .ok (.iload_n 3, 1) := by decide +kernel
theorem dX8_node_104 : decode cX8_node 104 = .ok (.if_icmp .ge 26, 3) := by decide +kernel
theorem dX8_node_107 : decode cX8_node 107 = .ok (.iload_n 1, 1) := by decide +kernel
theorem dX8_node_108 : decode cX8_node 108 = .ok (.iload 4, 2) := by decide +kernel
theorem dX8_node_110 : decode cX8_node 110 = .ok (.invokestatic 55, 3) := by decide +kernel
theorem dX8_node_113 : decode cX8_node 113 = .ok (.ifCond .eq 11, 3) := by decide +kernel
theorem dX8_node_116 : decode cX8_node 116 = .ok (.aload_n 0, 1) := by decide +kernel
theorem dX8_node_117 : decode cX8_node 117 = .ok (.iconst 3, 1) := by decide +kernel
theorem dX8_node_118 : decode cX8_node 118 = .ok (.iload 4, 2) := by decide +kernel
theorem dX8_node_120 : decode cX8_node 120 = .ok (.iload_n 3, 1) := by decide +kernel
theorem dX8_node_121 : decode cX8_node 121 = .ok (.invokevirtual 212, 3) := by decide +kernel
theorem dX8_node_124 : decode cX8_node 124 = .ok (.iinc 4 1, 3) := by decide +kernel
theorem dX8_node_127 : decode cX8_node 127 = .ok (.goto (-26), 3) := by decide +kernel
theorem dX8_node_130 : decode cX8_node 130 = .ok (.iload_n 3, 1) := by decide +kernel
theorem dX8_node_131 : decode cX8_node 131 = .ok (.ireturn, 1) := by decide +kernel
set_option maxRecDepth 20000 in
theorem ggX8_take_X8_remember : GoodIn wsX8_take wsX8_remember := goodIn_r _ [7, 8, 9, 10, 11, 6, 12, 1, 13, 14, 15, 16, 17, 18, 19, 20, 21, 22, 23, 24, 25, 26, 27, 28, 29] (by decide +kernel) (by decide +kernel)
set_option maxRecDepth 20000 in
theorem gX8_take_X8_remember : GoodIn wsX8_take (wsV RX8 207 RX8 yX8_remember wsX8_remember) := goodIn_app (goodIn_of _ (by decide +kernel)) ggX8_take_X8_remember
theorem dX8_take_0 : decode cX8_take 0 = .ok (.aload_n 0, 1) := by decide +kernel
theorem dX8_take_1 : decode cX8_take 1 = .ok (.getfield 9, 3) := by decide +kernel
theorem dX8_take_4 : decode cX8_take 4 = .ok (.iconst 0, 1) := by decide +kernel
theorem dX8_take_5 : decode cX8_take 5 = .ok (.iaload, 1) := by decide +kernel
theorem dX8_take_6 : decode cX8_take 6 = .ok (.iconst 1, 1) := by decide +kernel
theorem dX8_take_7 : decode cX8_take 7 = .ok (.if_icmp .ne 6, 3) := by decide +kernel
theorem dX8_take_10 : decode cX8_take 10 = .ok (.ldc 216, 2) := by decide +kernel
theorem dX8_take_12 : decode cX8_take 12 = .ok (.ireturn, 1) := by decide +kernel
theorem dX8_take_13 : decode cX8_take 13 = .ok (.aload_n 0, 1) := by decide +kernel
theorem dX8_take_14 : decode cX8_take 14 = .ok (.invokevirtual 207, 3) := by decide +kernel
theorem dX8_take_17 : decode cX8_take 17 = .ok (.aload_n 0, 1) := by decide +kernel
theorem dX8_take_18 : decode cX8_take 18 = .ok (.getfield 9, 3) := by decide +kernel
theorem dX8_take_21 : decode cX8_take 21 = .ok (.iconst 0, 1) := by decide +kernel
theorem dX8_take_22 : decode cX8_take 22 = .ok (.dup2, 1) := by decide +kernel
theorem dX8_take_23 : decode cX8_take 23 = .ok (.iaload, 1) := by decide +kernel
theorem dX8_take_24 : decode cX8_take 24 = .ok (.iconst 1, 1) := by decide +kernel
theorem dX8_take_25 : decode cX8_take 25 = .ok (.isub, 1) := by decide +kernel
theorem dX8_take_26 : decode cX8_take 26 = .ok (.iastore, 1) := by decide +kernel
theorem dX8_take_27 : decode cX8_take 27 = .ok (.aload_n 0, 1) := by decide +kernel
theorem dX8_take_28 : decode cX8_take 28 = .ok (.getfield 9, 3) := by decide +kernel
theorem dX8_take_31 : decode cX8_take 31 = .ok (.iconst 0, 1) := by decide +kernel
theorem dX8_take_32 : decode cX8_take 32 = .ok (.iaload, 1) := by decide +kernel
theorem dX8_take_33 : decode cX8_take 33 = .ok (.istore_n 1, 1) := by decide +kernel
theorem dX8_take_34 : decode cX8_take 34 = .ok (.iconst 0, 1) := by decide +kernel
theorem dX8_take_35 : decode cX8_take 35 = .ok (.istore_n 2, 1) := by decide +kernel
theorem dX8_take_36 : decode cX8_take 36 = .ok (.iload_n 2, 1) := by decide +kernel
theorem dX8_take_37 : decode cX8_take 37 = .ok (.iload_n 1, 1) := by decide +kernel
theorem dX8_take_38 : decode cX8_take 38 = .ok (.if_icmp .ge 42, 3) := by decide +kernel
theorem dX8_take_41 : decode cX8_take 41 = .ok (.aload_n 0, 1) := by decide +kernel
theorem dX8_take_42 : decode cX8_take 42 = .ok (.getfield 9, 3) := by decide +kernel
theorem dX8_take_45 : decode cX8_take 45 = .ok (.iconst 3, 1) := by decide +kernel
theorem dX8_take_46 : decode cX8_take 46 = .ok (.iload_n 2, 1) := by decide +kernel
theorem dX8_take_47 : decode cX8_take 47 = .ok (.iadd, 1) := by decide +kernel
theorem dX8_take_48 : decode cX8_take 48 = .ok (.dup2, 1) := by decide +kernel
theorem dX8_take_49 : decode cX8_take 49 = .ok (.iaload, 1) := by decide +kernel
theorem dX8_take_50 : decode cX8_take 50 = .ok (.iconst 1, 1) := by decide +kernel
theorem dX8_take_51 : decode cX8_take 51 = .ok (.iload_n 1, 1) := by decide +kernel
theorem dX8_take_52 : decode cX8_take 52 = .ok (.ishl, 1) := by decide +kernel
theorem dX8_take_53 : decode cX8_take 53 = .ok (.iconst (-1), 1) := by decide +kernel
theorem dX8_take_54 : decode cX8_take 54 = .ok (.ixor, 1) := by decide +kernel
theorem dX8_take_55 : decode cX8_take 55 = .ok (.iand, 1) := by decide +kernel
theorem dX8_take_56 : decode cX8_take 56 = .ok (.iastore, 1) := by decide +kernel
theorem dX8_take_57 : decode cX8_take 57 = .ok (.aload_n 0, 1) := by decide +kernel
theorem dX8_take_58 : decode cX8_take 58 = .ok (.getfield 9, 3) := by decide +kernel
theorem dX8_take_61 : decode cX8_take 61 = .ok (.bipush 12, 2) := by decide +kernel
theorem dX8_take_63 : decode cX8_take 63 = .ok (.iload_n 2, 1) := by decide +kernel
theorem dX8_take_64 : decode cX8_take 64 = .ok (.iadd, 1) := by decide +kernel
theorem dX8_take_65 : decode cX8_take 65 = .ok (.dup2, 1) := by decide +kernel
theorem dX8_take_66 : decode cX8_take 66 = .ok (.iaload, 1) := by decide +kernel
theorem dX8_take_67 : decode cX8_take 67 = .ok (.iconst 1, 1) := by decide +kernel
theorem dX8_take_68 : decode cX8_take 68 = .ok (.iload_n 1, 1) := by decide +kernel
theorem dX8_take_69 : decode cX8_take 69 = .ok (.ishl, 1) := by decide +kernel
theorem dX8_take_70 : decode cX8_take 70 = .ok (.iconst (-1), 1) := by decide +kernel
theorem dX8_take_71 : decode cX8_take 71 = .ok (.ixor, 1) := by decide +kernel
theorem dX8_take_72 : decode cX8_take 72 = .ok (.iand, 1) := by decide +kernel
theorem dX8_take_73 : decode cX8_take 73 = .ok (.iastore, 1) := by decide +kernel
theorem dX8_take_74 : decode cX8_take 74 = .ok (.iinc 2 1, 3) := by decide +kernel
theorem dX8_take_77 : decode cX8_take 77 = .ok (.goto (-41), 3) := by decide +kernel
theorem dX8_take_80 : decode cX8_take 80 = .ok (.aload_n 0, 1) := by decide +kernel
theorem dX8_take_81 : decode cX8_take 81 = .ok (.getfield 9, 3) := by decide +kernel
theorem dX8_take_84 : decode cX8_take 84 = .ok (.iconst 0, 1) := by decide +kernel
theorem dX8_take_85 : decode cX8_take 85 = .ok (.iaload, 1) := by decide +kernel
theorem dX8_take_86 : decode cX8_take 86 = .ok (.ireturn, 1) := by decide +kernel
set_option maxRecDepth 20000 in
theorem ggX8_link_X8_isNode : GoodIn wsX8_link wsX8_isNode := goodIn_r _ [7, 2, 8, 9, 6, 10, 27, 28, 29, 30, 31, 32, 33, 34, 35, 36, 37, 38, 39, 40, 41, 42, 43] (by decide +kernel) (by decide +kernel)
set_option maxRecDepth 20000 in
theorem gX8_link_X8_isNode : GoodIn wsX8_link (wsV RX8 51 RX8 yX8_isNode wsX8_isNode) := goodIn_app (goodIn_of _ (by decide +kernel)) ggX8_link_X8_isNode
set_option maxRecDepth 20000 in
theorem ggX8_link_X8_remember : GoodIn wsX8_link wsX8_remember := goodIn_r _ [14, 15, 16, 17, 18, 6, 19, 2, 27, 28, 29, 30, 31, 32, 33, 34, 35, 36, 37, 38, 39, 40, 41, 42, 43] (by decide +kernel) (by decide +kernel)
set_option maxRecDepth 20000 in
theorem gX8_link_X8_remember : GoodIn wsX8_link (wsV RX8 207 RX8 yX8_remember wsX8_remember) := goodIn_app (goodIn_of _ (by decide +kernel)) ggX8_link_X8_remember
set_option maxRecDepth 20000 in
theorem ggX8_link_X8_has : GoodIn wsX8_link wsX8_has := goodIn_r _ [22] (by decide +kernel) (by decide +kernel)
set_option maxRecDepth 20000 in
theorem gX8_link_X8_has : GoodIn wsX8_link (va_wsS RX8 55 yX8_has wsX8_has) := goodIn_app (goodIn_of _ (by decide +kernel)) ggX8_link_X8_has
set_option maxRecDepth 20000 in
theorem ggX8_link_X8_turn : GoodIn wsX8_link wsX8_turn := goodIn_r _ [26, 2, 27, 28, 29, 30, 31, 32, 33, 34, 35, 36, 37, 38, 39, 40, 41, 42, 43] (by decide +kernel) (by decide +kernel)
set_option maxRecDepth 20000 in
theorem gX8_link_X8_turn : GoodIn wsX8_link (wsV RX8 212 RX8 yX8_turn wsX8_turn) := goodIn_app (goodIn_of _ (by decide +kernel)) ggX8_link_X8_turn
theorem dX8_link_0 : decode cX8_link 0 = .ok (.aload_n 0, 1) := by decide +kernel
theorem dX8_link_1 : decode cX8_link 1 = .ok (.iload_n 1, 1) := by decide +kernel
theorem dX8_link_2 : decode cX8_link 2 = .ok (.invokevirtual 51, 3) := by decide +kernel
theorem dX8_link_5 : decode cX8_link 5 = .ok (.ifCond .eq 16, 3) := by decide +kernel
theorem dX8_link_8 : decode cX8_link 8 = .ok (.aload_n 0, 1) := by decide +kernel
theorem dX8_link_9 : decode cX8_link 9 = .ok (.iload_n 2, 1) := by decide +kernel
theorem dX8_link_10 : decode cX8_link 10 = .ok (.invokevirtual 51, 3) := by decide +kernel
theorem dX8_link_13 : decode cX8_link 13 = .ok (.ifCond .eq 8, 3) := by decide +kernel
theorem dX8_link_16 : decode cX8_link 16 = .ok (.iload_n 1, 1) := by decide +kernel
theorem dX8_link_17 : decode cX8_link 17 = .ok (.iload_n 2, 1) := by decide +kernel
theorem dX8_link_18 : decode cX8_link 18 = .ok (.if_icmp .ne 6, 3) := by decide +kernel
theorem dX8_link_21 : decode cX8_link 21 = .ok (.ldc 180, 2) := by decide +kernel
theorem dX8_link_23 : decode cX8_link 23 = .ok (.ireturn, 1) := by decide +kernel
theorem dX8_link_24 : decode cX8_link 24 = .ok (.aload_n 0, 1) := by decide +kernel
theorem dX8_link_25 : decode cX8_link 25 = .ok (.invokevirtual 207, 3) := by decide +kernel
theorem dX8_link_28 : decode cX8_link 28 = .ok (.aload_n 0, 1) := by decide +kernel
theorem dX8_link_29 : decode cX8_link 29 = .ok (.getfield 9, 3) := by decide +kernel
theorem dX8_link_32 : decode cX8_link 32 = .ok (.bipush 12, 2) := by decide +kernel
theorem dX8_link_34 : decode cX8_link 34 = .ok (.iload_n 1, 1) := by decide +kernel
theorem dX8_link_35 : decode cX8_link 35 = .ok (.iadd, 1) := by decide +kernel
theorem dX8_link_36 : decode cX8_link 36 = .ok (.iaload, 1) := by decide +kernel
theorem dX8_link_37 : decode cX8_link 37 = .ok (.iload_n 2, 1) := by decide +kernel
theorem dX8_link_38 : decode cX8_link 38 = .ok (.invokestatic 55, 3) := by decide +kernel
theorem dX8_link_41 : decode cX8_link 41 = .ok (.ifCond .eq 11, 3) := by decide +kernel
theorem dX8_link_44 : decode cX8_link 44 = .ok (.aload_n 0, 1) := by decide +kernel
theorem dX8_link_45 : decode cX8_link 45 = .ok (.bipush 12, 2) := by decide +kernel
theorem dX8_link_47 : decode cX8_link 47 = .ok (.iload_n 1, 1) := by decide +kernel
theorem dX8_link_48 : decode cX8_link 48 = .ok (.iload_n 2, 1) := by decide +kernel
theorem dX8_link_49 : decode cX8_link 49 = .ok (.invokevirtual 212, 3) := by decide +kernel
theorem dX8_link_52 : decode cX8_link 52 = .ok (.aload_n 0, 1) := by decide +kernel
theorem dX8_link_53 : decode cX8_link 53 = .ok (.iconst 3, 1) := by decide +kernel
theorem dX8_link_54 : decode cX8_link 54 = .ok (.iload_n 1, 1) := by decide +kernel
theorem dX8_link_55 : decode cX8_link 55 = .ok (.iload_n 2, 1) := by decide +kernel
theorem dX8_link_56 : decode cX8_link 56 = .ok (.invokevirtual 212, 3) := by decide +kernel
theorem dX8_link_59 : decode cX8_link 59 = .ok (.aload_n 0, 1) := by decide +kernel
theorem dX8_link_60 : decode cX8_link 60 = .ok (.getfield 9, 3) := by decide +kernel
theorem dX8_link_63 : decode cX8_link 63 = .ok (.iconst 3, 1) := by decide +kernel
theorem dX8_link_64 : decode cX8_link 64 = .ok (.iload_n 1, 1) := by decide +kernel
theorem dX8_link_65 : decode cX8_link 65 = .ok (.iadd, 1) := by decide +kernel
theorem dX8_link_66 : decode cX8_link 66 = .ok (.iaload, 1) := by decide +kernel
theorem dX8_link_67 : decode cX8_link 67 = .ok (.iload_n 2, 1) := by decide +kernel
theorem dX8_link_68 : decode cX8_link 68 = .ok (.invokestatic 55, 3) := by decide +kernel
theorem dX8_link_71 : decode cX8_link 71 = .ok (.ifCond .eq 7, 3) := by decide +kernel
theorem dX8_link_74 : decode cX8_link 74 = .ok (.iconst 1, 1) := by decide +kernel
theorem dX8_link_75 : decode cX8_link 75 = .ok (.goto 4, 3) := by decide +kernel
theorem dX8_link_78 : decode cX8_link 78 = .ok (.iconst 0, 1) := by decide +kernel
theorem dX8_link_79 : decode cX8_link 79 = .ok (.ireturn, 1) := by decide +kernel
set_option maxRecDepth 20000 in
theorem ggX8_lose_X8_isLinked : GoodIn wsX8_lose wsX8_isLinked := goodIn_r _ [7, 2, 8, 9, 10, 6, 11, 12, 13, 14, 15, 16, 17, 31, 32, 33, 34, 35, 36, 37, 38, 39, 40, 41, 42, 43, 44, 45, 46, 47] (by decide +kernel) (by decide +kernel)
set_option maxRecDepth 20000 in
theorem gX8_lose_X8_isLinked : GoodIn wsX8_lose (wsV RX8 184 RX8 yX8_isLinked wsX8_isLinked) := goodIn_app (goodIn_of _ (by decide +kernel)) ggX8_lose_X8_isLinked
set_option maxRecDepth 20000 in
theorem ggX8_lose_X8_remember : GoodIn wsX8_lose wsX8_remember := goodIn_r _ [21, 22, 23, 24, 25, 6, 26, 2, 31, 32, 33, 34, 35, 36, 37, 38, 39, 40, 41, 42, 43, 44, 45, 46, 47] (by decide +kernel) (by decide +kernel)
set_option maxRecDepth 20000 in
theorem gX8_lose_X8_remember : GoodIn wsX8_lose (wsV RX8 207 RX8 yX8_remember wsX8_remember) := goodIn_app (goodIn_of _ (by decide +kernel)) ggX8_lose_X8_remember
set_option maxRecDepth 20000 in
theorem ggX8_lose_X8_turn : GoodIn wsX8_lose wsX8_turn := goodIn_r _ [30, 2, 31, 32, 33, 34, 35, 36, 37, 38, 39, 40, 41, 42, 43, 44, 45, 46, 47] (by decide +kernel) (by decide +kernel)
set_option maxRecDepth 20000 in
theorem gX8_lose_X8_turn : GoodIn wsX8_lose (wsV RX8 212 RX8 yX8_turn wsX8_turn) := goodIn_app (goodIn_of _ (by decide +kernel)) ggX8_lose_X8_turn
set_option maxRecDepth 20000 in
theorem ggX8_lose_X8_has : GoodIn wsX8_lose wsX8_has := goodIn_r _ [17] (by decide +kernel) (by decide +kernel)
set_option maxRecDepth 20000 in
theorem gX8_lose_X8_has : GoodIn wsX8_lose (va_wsS RX8 55 yX8_has wsX8_has) := goodIn_app (goodIn_of _ (by decide +kernel)) ggX8_lose_X8_has
theorem dX8_lose_0 : decode cX8_lose 0 = .ok (.aload_n 0, 1) := by decide +kernel
theorem dX8_lose_1 : decode cX8_lose 1 = .ok (.iload_n 1, 1) := by decide +kernel
theorem dX8_lose_2 : decode cX8_lose 2 = .ok (.iload_n 2, 1) := by decide +kernel
theorem dX8_lose_3 : decode cX8_lose 3 = .ok (.invokevirtual 184, 3) := by decide +kernel
theorem dX8_lose_6 : decode cX8_lose 6 = .ok (.ifCond .ne 6, 3) := by decide +kernel
theorem dX8_lose_9 : decode cX8_lose 9 = .ok (.ldc 180, 2) := by decide +kernel
theorem dX8_lose_11 : decode cX8_lose 11 = .ok (.ireturn, 1) := by decide +kernel
theorem dX8_lose_12 : decode cX8_lose 12 = .ok (.aload_n 0, 1) := by decide +kernel
theorem dX8_lose_13 : decode cX8_lose 13 = .ok (.invokevirtual 207, 3) := by decide +kernel
theorem dX8_lose_16 : decode cX8_lose 16 = .ok (.aload_n 0, 1) := by decide +kernel
theorem dX8_lose_17 : decode cX8_lose 17 = .ok (.bipush 12, 2) := by decide +kernel
theorem dX8_lose_19 : decode cX8_lose 19 = .ok (.iload_n 1, 1) := by decide +kernel
theorem dX8_lose_20 : decode cX8_lose 20 = .ok (.iload_n 2, 1) := by decide +kernel
theorem dX8_lose_21 : decode cX8_lose 21 = .ok (.invokevirtual 212, 3) := by decide +kernel
theorem dX8_lose_24 : decode cX8_lose 24 = .ok (.aload_n 0, 1) := by decide +kernel
theorem dX8_lose_25 : decode cX8_lose 25 = .ok (.getfield 9, 3) := by decide +kernel
theorem dX8_lose_28 : decode cX8_lose 28 = .ok (.bipush 12, 2) := by decide +kernel
theorem dX8_lose_30 : decode cX8_lose 30 = .ok (.iload_n 1, 1) := by decide +kernel
theorem dX8_lose_31 : decode cX8_lose 31 = .ok (.iadd, 1) := by decide +kernel
theorem dX8_lose_32 : decode cX8_lose 32 = .ok (.iaload, 1) := by decide +kernel
theorem dX8_lose_33 : decode cX8_lose 33 = .ok (.iload_n 2, 1) := by decide +kernel
theorem dX8_lose_34 : decode cX8_lose 34 = .ok (.invokestatic 55, 3) := by decide +kernel
theorem dX8_lose_37 : decode cX8_lose 37 = .ok (.ifCond .eq 7, 3) := by decide +kernel
theorem dX8_lose_40 : decode cX8_lose 40 = .ok (.iconst 1, 1) := by decide +kernel
theorem dX8_lose_41 : decode cX8_lose 41 = .ok (.goto 4, 3) := by decide +kernel
theorem dX8_lose_44 : decode cX8_lose 44 = .ok (.iconst 0, 1) := by decide +kernel
theorem dX8_lose_45 : decode cX8_lose 45 = .ok (.ireturn, 1) := by decide +kernel
set_option maxRecDepth 20000 in
theorem ggX8_hear_X8_isNode : GoodIn wsX8_hear wsX8_isNode := goodIn_r _ [8, 9, 10, 11, 7, 12, 26, 27, 28, 29, 30, 31, 32, 33, 34, 35, 36, 37, 38, 39, 40, 41, 42] (by decide +kernel) (by decide +kernel)
set_option maxRecDepth 20000 in
theorem gX8_hear_X8_isNode : GoodIn wsX8_hear (wsV RX8 51 RX8 yX8_isNode wsX8_isNode) := goodIn_app (goodIn_of _ (by decide +kernel)) ggX8_hear_X8_isNode
set_option maxRecDepth 20000 in
theorem ggX8_hear_X8_in : GoodIn wsX8_hear wsX8_in := goodIn_r _ [12] (by decide +kernel) (by decide +kernel)
set_option maxRecDepth 20000 in
theorem gX8_hear_X8_in : GoodIn wsX8_hear (va_wsS RX8 47 yX8_in wsX8_in) := goodIn_app (goodIn_of _ (by decide +kernel)) ggX8_hear_X8_in
set_option maxRecDepth 20000 in
theorem ggX8_hear_X8_put : GoodIn wsX8_hear wsX8_put := goodIn_r _ [16, 9, 17, 18, 19, 7, 20, 21, 22, 23, 24, 25, 26, 27, 28, 29, 30, 31, 32, 33, 34, 35, 36, 37, 38, 39, 40, 41, 42] (by decide +kernel) (by decide +kernel)
set_option maxRecDepth 20000 in
theorem gX8_hear_X8_put : GoodIn wsX8_hear (wsV RX8 217 RX8 yX8_put wsX8_put) := goodIn_app (goodIn_of _ (by decide +kernel)) ggX8_hear_X8_put
theorem dX8_hear_0 : decode cX8_hear 0 = .ok (.aload_n 0, 1) := by decide +kernel
theorem dX8_hear_1 : decode cX8_hear 1 = .ok (.iload_n 1, 1) := by decide +kernel
theorem dX8_hear_2 : decode cX8_hear 2 = .ok (.invokevirtual 51, 3) := by decide +kernel
theorem dX8_hear_5 : decode cX8_hear 5 = .ok (.ifCond .ne 6, 3) := by decide +kernel
theorem dX8_hear_8 : decode cX8_hear 8 = .ok (.ldc 180, 2) := by decide +kernel
theorem dX8_hear_10 : decode cX8_hear 10 = .ok (.ireturn, 1) := by decide +kernel
theorem dX8_hear_11 : decode cX8_hear 11 = .ok (.iload_n 2, 1) := by decide +kernel
theorem dX8_hear_12 : decode cX8_hear 12 = .ok (.iconst 0, 1) := by decide +kernel
theorem dX8_hear_13 : decode cX8_hear 13 = .ok (.ldc 210, 2) := by decide +kernel
theorem dX8_hear_15 : decode cX8_hear 15 = .ok (.invokestatic 47, 3) := by decide +kernel
theorem dX8_hear_18 : decode cX8_hear 18 = .ok (.ifCond .eq 15, 3) := by decide +kernel
theorem dX8_hear_21 : decode cX8_hear 21 = .ok (.aload_n 0, 1) := by decide +kernel
theorem dX8_hear_22 : decode cX8_hear 22 = .ok (.bipush 21, 2) := by decide +kernel
theorem dX8_hear_24 : decode cX8_hear 24 = .ok (.iload_n 1, 1) := by decide +kernel
theorem dX8_hear_25 : decode cX8_hear 25 = .ok (.iadd, 1) := by decide +kernel
theorem dX8_hear_26 : decode cX8_hear 26 = .ok (.iload_n 2, 1) := by decide +kernel
