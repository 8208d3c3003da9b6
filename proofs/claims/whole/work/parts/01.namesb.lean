theorem dX3_become_40 : decode cX3_become 40 = .ok (.getfield 19, 3) := by decide +kernel
theorem dX3_become_43 : decode cX3_become 43 = .ok (.iconst 0, 1) := by decide +kernel
theorem dX3_become_44 : decode cX3_become 44 = .ok (.aload_n 0, 1) := by decide +kernel
theorem dX3_become_45 : decode cX3_become 45 = .ok (.getfield 19, 3) := by decide +kernel
theorem dX3_become_48 : decode cX3_become 48 = .ok (.iconst 0, 1) := by decide +kernel
theorem dX3_become_49 : decode cX3_become 49 = .ok (.bipush 9, 2) := by decide +kernel
theorem dX3_become_51 : decode cX3_become 51 = .ok (.invokestatic 31, 3) := by decide +kernel
theorem dX3_become_54 : decode cX3_become 54 = .ok (.aload_n 1, 1) := by decide +kernel
theorem dX3_become_55 : decode cX3_become 55 = .ok (.getfield 22, 3) := by decide +kernel
theorem dX3_become_58 : decode cX3_become 58 = .ok (.iconst 0, 1) := by decide +kernel
theorem dX3_become_59 : decode cX3_become 59 = .ok (.aload_n 0, 1) := by decide +kernel
theorem dX3_become_60 : decode cX3_become 60 = .ok (.getfield 22, 3) := by decide +kernel
theorem dX3_become_63 : decode cX3_become 63 = .ok (.iconst 0, 1) := by decide +kernel
theorem dX3_become_64 : decode cX3_become 64 = .ok (.bipush 9, 2) := by decide +kernel
theorem dX3_become_66 : decode cX3_become 66 = .ok (.invokestatic 31, 3) := by decide +kernel
theorem dX3_become_69 : decode cX3_become 69 = .ok (.return_, 1) := by decide +kernel
theorem dX3_has_0 : decode cX3_has 0 = .ok (.iload_n 1, 1) := by decide +kernel
theorem dX3_has_1 : decode cX3_has 1 = .ok (.ifCond .lt 15, 3) := by decide +kernel
theorem dX3_has_4 : decode cX3_has 4 = .ok (.iload_n 1, 1) := by decide +kernel
theorem dX3_has_5 : decode cX3_has 5 = .ok (.aload_n 0, 1) := by decide +kernel
theorem dX3_has_6 : decode cX3_has 6 = .ok (.getfield 9, 3) := by decide +kernel
theorem dX3_has_9 : decode cX3_has 9 = .ok (.if_icmp .ge 7, 3) := by decide +kernel
theorem dX3_has_12 : decode cX3_has 12 = .ok (.iconst 1, 1) := by decide +kernel
theorem dX3_has_13 : decode cX3_has 13 = .ok (.goto 4, 3) := by decide +kernel
theorem dX3_has_16 : decode cX3_has 16 = .ok (.iconst 0, 1) := by decide +kernel
theorem dX3_has_17 : decode cX3_has 17 = .ok (.ireturn, 1) := by decide +kernel
set_option maxRecDepth 20000 in
theorem ggX3_hasLink_X3_has : GoodIn wsX3_hasLink wsX3_has := goodIn_r _ [6, 7, 11, 12, 13, 14, 15, 16] (by decide +kernel) (by decide +kernel)
set_option maxRecDepth 20000 in
theorem gX3_hasLink_X3_has : GoodIn wsX3_hasLink (wsV RX3 37 RX3 yX3_has wsX3_has) := goodIn_app (goodIn_of _ (by decide +kernel)) ggX3_hasLink_X3_has
set_option maxRecDepth 20000 in
theorem ggX3_hasLink_X7_isIn : GoodIn wsX3_hasLink wsX7_isIn := goodIn_r _ [10] (by decide +kernel) (by decide +kernel)
set_option maxRecDepth 20000 in
theorem gX3_hasLink_X7_isIn_n41 : GoodIn wsX3_hasLink (wsX7_isIn) := ggX3_hasLink_X7_isIn
theorem dX3_hasLink_0 : decode cX3_hasLink 0 = .ok (.aload_n 0, 1) := by decide +kernel
theorem dX3_hasLink_1 : decode cX3_hasLink 1 = .ok (.iload_n 1, 1) := by decide +kernel
theorem dX3_hasLink_2 : decode cX3_hasLink 2 = .ok (.invokevirtual 37, 3) := by decide +kernel
theorem dX3_hasLink_5 : decode cX3_hasLink 5 = .ok (.ifCond .eq 28, 3) := by decide +kernel
theorem dX3_hasLink_8 : decode cX3_hasLink 8 = .ok (.aload_n 0, 1) := by decide +kernel
theorem dX3_hasLink_9 : decode cX3_hasLink 9 = .ok (.iload_n 2, 1) := by decide +kernel
theorem dX3_hasLink_10 : decode cX3_hasLink 10 = .ok (.invokevirtual 37, 3) := by decide +kernel
theorem dX3_hasLink_13 : decode cX3_hasLink 13 = .ok (.ifCond .eq 20, 3) := by decide +kernel
theorem dX3_hasLink_16 : decode cX3_hasLink 16 = .ok (.aload_n 0, 1) := by decide +kernel
theorem dX3_hasLink_17 : decode cX3_hasLink 17 = .ok (.getfield 15, 3) := by decide +kernel
theorem dX3_hasLink_20 : decode cX3_hasLink 20 = .ok (.iload_n 1, 1) := by decide +kernel
theorem dX3_hasLink_21 : decode cX3_hasLink 21 = .ok (.iaload, 1) := by decide +kernel
theorem dX3_hasLink_22 : decode cX3_hasLink 22 = .ok (.iload_n 2, 1) := by decide +kernel
theorem dX3_hasLink_23 : decode cX3_hasLink 23 = .ok (.invokestatic 41, 3) := by decide +kernel
theorem dX3_hasLink_26 : decode cX3_hasLink 26 = .ok (.ifCond .eq 7, 3) := by decide +kernel
theorem dX3_hasLink_29 : decode cX3_hasLink 29 = .ok (.iconst 1, 1) := by decide +kernel
theorem dX3_hasLink_30 : decode cX3_hasLink 30 = .ok (.goto 4, 3) := by decide +kernel
theorem dX3_hasLink_33 : decode cX3_hasLink 33 = .ok (.iconst 0, 1) := by decide +kernel
theorem dX3_hasLink_34 : decode cX3_hasLink 34 = .ok (.ireturn, 1) := by decide +kernel
set_option maxRecDepth 20000 in
theorem ggX3_hasLost_X3_has : GoodIn wsX3_hasLost wsX3_has := goodIn_r _ [6, 7, 11, 12, 13, 14, 15, 16] (by decide +kernel) (by decide +kernel)
set_option maxRecDepth 20000 in
theorem gX3_hasLost_X3_has : GoodIn wsX3_hasLost (wsV RX3 37 RX3 yX3_has wsX3_has) := goodIn_app (goodIn_of _ (by decide +kernel)) ggX3_hasLost_X3_has
set_option maxRecDepth 20000 in
theorem ggX3_hasLost_X7_isIn : GoodIn wsX3_hasLost wsX7_isIn := goodIn_r _ [10] (by decide +kernel) (by decide +kernel)
set_option maxRecDepth 20000 in
theorem gX3_hasLost_X7_isIn_n41 : GoodIn wsX3_hasLost (wsX7_isIn) := ggX3_hasLost_X7_isIn
theorem dX3_hasLost_0 : decode cX3_hasLost 0 = .ok (.aload_n 0, 1) := by decide +kernel
theorem dX3_hasLost_1 : decode cX3_hasLost 1 = .ok (.iload_n 1, 1) := by decide +kernel
theorem dX3_hasLost_2 : decode cX3_hasLost 2 = .ok (.invokevirtual 37, 3) := by decide +kernel
theorem dX3_hasLost_5 : decode cX3_hasLost 5 = .ok (.ifCond .eq 28, 3) := by decide +kernel
theorem dX3_hasLost_8 : decode cX3_hasLost 8 = .ok (.aload_n 0, 1) := by decide +kernel
theorem dX3_hasLost_9 : decode cX3_hasLost 9 = .ok (.iload_n 2, 1) := by decide +kernel
theorem dX3_hasLost_10 : decode cX3_hasLost 10 = .ok (.invokevirtual 37, 3) := by decide +kernel
theorem dX3_hasLost_13 : decode cX3_hasLost 13 = .ok (.ifCond .eq 20, 3) := by decide +kernel
theorem dX3_hasLost_16 : decode cX3_hasLost 16 = .ok (.aload_n 0, 1) := by decide +kernel
theorem dX3_hasLost_17 : decode cX3_hasLost 17 = .ok (.getfield 19, 3) := by decide +kernel
theorem dX3_hasLost_20 : decode cX3_hasLost 20 = .ok (.iload_n 1, 1) := by decide +kernel
theorem dX3_hasLost_21 : decode cX3_hasLost 21 = .ok (.iaload, 1) := by decide +kernel
theorem dX3_hasLost_22 : decode cX3_hasLost 22 = .ok (.iload_n 2, 1) := by decide +kernel
theorem dX3_hasLost_23 : decode cX3_hasLost 23 = .ok (.invokestatic 41, 3) := by decide +kernel
theorem dX3_hasLost_26 : decode cX3_hasLost 26 = .ok (.ifCond .eq 7, 3) := by decide +kernel
theorem dX3_hasLost_29 : decode cX3_hasLost 29 = .ok (.iconst 1, 1) := by decide +kernel
theorem dX3_hasLost_30 : decode cX3_hasLost 30 = .ok (.goto 4, 3) := by decide +kernel
theorem dX3_hasLost_33 : decode cX3_hasLost 33 = .ok (.iconst 0, 1) := by decide +kernel
theorem dX3_hasLost_34 : decode cX3_hasLost 34 = .ok (.ireturn, 1) := by decide +kernel
theorem dX3_everyone_0 : decode cX3_everyone 0 = .ok (.iconst 1, 1) := by decide +kernel
theorem dX3_everyone_1 : decode cX3_everyone 1 = .ok (.aload_n 0, 1) := by decide +kernel
theorem dX3_everyone_2 : decode cX3_everyone 2 = .ok (.getfield 9, 3) := by decide +kernel
theorem dX3_everyone_5 : decode cX3_everyone 5 = .ok (.ishl, 1) := by decide +kernel
theorem dX3_everyone_6 : decode cX3_everyone 6 = .ok (.iconst 1, 1) := by decide +kernel
theorem dX3_everyone_7 : decode cX3_everyone 7 = .ok (.isub, 1) := by decide +kernel
theorem dX3_everyone_8 : decode cX3_everyone 8 = .ok (.ireturn, 1) := by decide +kernel
set_option maxRecDepth 20000 in
theorem ggX3_add_X7_isIn : GoodIn wsX3_add wsX7_isIn := goodIn_r _ [7] (by decide +kernel) (by decide +kernel)
set_option maxRecDepth 20000 in
theorem gX3_add_X7_isIn_n41 : GoodIn wsX3_add (wsX7_isIn) := ggX3_add_X7_isIn
theorem dX3_add_0 : decode cX3_add 0 = .ok (.aload_n 0, 1) := by decide +kernel
theorem dX3_add_1 : decode cX3_add 1 = .ok (.getfield 9, 3) := by decide +kernel
theorem dX3_add_4 : decode cX3_add 4 = .ok (.istore_n 3, 1) := by decide +kernel
theorem dX3_add_5 : decode cX3_add 5 = .ok (.iload_n 3, 1) := by decide +kernel
theorem dX3_add_6 : decode cX3_add 6 = .ok (.bipush 9, 2) := by decide +kernel
theorem dX3_add_8 : decode cX3_add 8 = .ok (.if_icmp .lt 4, 3) := by decide +kernel
theorem dX3_add_11 : decode cX3_add 11 = .ok (.return_, 1) := by decide +kernel
theorem dX3_add_12 : decode cX3_add 12 = .ok (.aload_n 0, 1) := by decide +kernel
theorem dX3_add_13 : decode cX3_add 13 = .ok (.getfield 15, 3) := by decide +kernel
theorem dX3_add_16 : decode cX3_add 16 = .ok (.iload_n 3, 1) := by decide +kernel
theorem dX3_add_17 : decode cX3_add 17 = .ok (.iload_n 1, 1) := by decide +kernel
theorem dX3_add_18 : decode cX3_add 18 = .ok (.iastore, 1) := by decide +kernel
theorem dX3_add_19 : decode cX3_add 19 = .ok (.aload_n 0, 1) := by decide +kernel
theorem dX3_add_20 : decode cX3_add 20 = .ok (.getfield 19, 3) := by decide +kernel
theorem dX3_add_23 : decode cX3_add 23 = .ok (.iload_n 3, 1) := by decide +kernel
theorem dX3_add_24 : decode cX3_add 24 = .ok (.iconst 0, 1) := by decide +kernel
theorem dX3_add_25 : decode cX3_add 25 = .ok (.iastore, 1) := by decide +kernel
theorem dX3_add_26 : decode cX3_add 26 = .ok (.aload_n 0, 1) := by decide +kernel
theorem dX3_add_27 : decode cX3_add 27 = .ok (.getfield 22, 3) := by decide +kernel
theorem dX3_add_30 : decode cX3_add 30 = .ok (.iload_n 3, 1) := by decide +kernel
theorem dX3_add_31 : decode cX3_add 31 = .ok (.iload_n 2, 1) := by decide +kernel
theorem dX3_add_32 : decode cX3_add 32 = .ok (.iastore, 1) := by decide +kernel
theorem dX3_add_33 : decode cX3_add 33 = .ok (.iconst 0, 1) := by decide +kernel
theorem dX3_add_34 : decode cX3_add 34 = .ok (.istore 4, 2) := by decide +kernel
theorem dX3_add_36 : decode cX3_add 36 = .ok (.iload 4, 2) := by decide +kernel
theorem dX3_add_38 : decode cX3_add 38 = .ok (.iload_n 3, 1) := by decide +kernel
theorem dX3_add_39 : decode cX3_add 39 = .ok (.if_icmp .ge 31, 3) := by decide +kernel
theorem dX3_add_42 : decode cX3_add 42 = .ok (.iload_n 1, 1) := by decide +kernel
theorem dX3_add_43 : decode cX3_add 43 = .ok (.iload 4, 2) := by decide +kernel
theorem dX3_add_45 : decode cX3_add 45 = .ok (.invokestatic 41, 3) := by decide +kernel
theorem dX3_add_48 : decode cX3_add 48 = .ok (.ifCond .eq 16, 3) := by decide +kernel
theorem dX3_add_51 : decode cX3_add 51 = .ok (.aload_n 0, 1) := by decide +kernel
theorem dX3_add_52 : decode cX3_add 52 = .ok (.getfield 15, 3) := by decide +kernel
theorem dX3_add_55 : decode cX3_add 55 = .ok (.iload 4, 2) := by decide +kernel
theorem dX3_add_57 : decode cX3_add 57 = .ok (.dup2, 1) := by decide +kernel
theorem dX3_add_58 : decode cX3_add 58 = .ok (.iaload, 1) := by decide +kernel
theorem dX3_add_59 : decode cX3_add 59 = .ok (.iconst 1, 1) := by decide +kernel
theorem dX3_add_60 : decode cX3_add 60 = .ok (.iload_n 3, 1) := by decide +kernel
theorem dX3_add_61 : decode cX3_add 61 = .ok (.ishl, 1) := by decide +kernel
theorem dX3_add_62 : decode cX3_add 62 = .ok (.ior, 1) := by decide +kernel
theorem dX3_add_63 : decode cX3_add 63 = .ok (.iastore, 1) := by decide +kernel
theorem dX3_add_64 : decode cX3_add 64 = .ok (.iinc 4 1, 3) := by decide +kernel
theorem dX3_add_67 : decode cX3_add 67 = .ok (.goto (-31), 3) := by decide +kernel
theorem dX3_add_70 : decode cX3_add 70 = .ok (.aload_n 0, 1) := by decide +kernel
theorem dX3_add_71 : decode cX3_add 71 = .ok (.dup, 1) := by decide +kernel
theorem dX3_add_72 : decode cX3_add 72 = .ok (.getfield 9, 3) := by decide +kernel
theorem dX3_add_75 : decode cX3_add 75 = .ok (.iconst 1, 1) := by decide +kernel
theorem dX3_add_76 : decode cX3_add 76 = .ok (.iadd, 1) := by decide +kernel
theorem dX3_add_77 : decode cX3_add 77 = .ok (.putfield 9, 3) := by decide +kernel
theorem dX3_add_80 : decode cX3_add 80 = .ok (.return_, 1) := by decide +kernel
set_option maxRecDepth 20000 in
theorem ggX3_dropLatest_X3_everyone : GoodIn wsX3_dropLatest wsX3_everyone := goodIn_r _ [9, 1, 10, 11, 12, 13, 14, 15] (by decide +kernel) (by decide +kernel)
set_option maxRecDepth 20000 in
theorem gX3_dropLatest_X3_everyone : GoodIn wsX3_dropLatest (wsV RX3 45 RX3 yX3_everyone wsX3_everyone) := goodIn_app (goodIn_of _ (by decide +kernel)) ggX3_dropLatest_X3_everyone
theorem dX3_dropLatest_0 : decode cX3_dropLatest 0 = .ok (.aload_n 0, 1) := by decide +kernel
theorem dX3_dropLatest_1 : decode cX3_dropLatest 1 = .ok (.getfield 9, 3) := by decide +kernel
theorem dX3_dropLatest_4 : decode cX3_dropLatest 4 = .ok (.iconst 1, 1) := by decide +kernel
theorem dX3_dropLatest_5 : decode cX3_dropLatest 5 = .ok (.if_icmp .gt 4, 3) := by decide +kernel
theorem dX3_dropLatest_8 : decode cX3_dropLatest 8 = .ok (.return_, 1) := by decide +kernel
theorem dX3_dropLatest_9 : decode cX3_dropLatest 9 = .ok (.aload_n 0, 1) := by decide +kernel
theorem dX3_dropLatest_10 : decode cX3_dropLatest 10 = .ok (.dup, 1) := by decide +kernel
theorem dX3_dropLatest_11 : decode cX3_dropLatest 11 = .ok (.getfield 9, 3) := by decide +kernel
theorem dX3_dropLatest_14 : decode cX3_dropLatest 14 = .ok (.iconst 1, 1) := by decide +kernel
theorem dX3_dropLatest_15 : decode cX3_dropLatest 15 = .ok (.isub, 1) := by decide +kernel
theorem dX3_dropLatest_16 : decode cX3_dropLatest 16 = .ok (.putfield 9, 3) := by decide +kernel
theorem dX3_dropLatest_19 : decode cX3_dropLatest 19 = .ok (.aload_n 0, 1) := by decide +kernel
theorem dX3_dropLatest_20 : decode cX3_dropLatest 20 = .ok (.getfield 15, 3) := by decide +kernel
theorem dX3_dropLatest_23 : decode cX3_dropLatest 23 = .ok (.aload_n 0, 1) := by decide +kernel
theorem dX3_dropLatest_24 : decode cX3_dropLatest 24 = .ok (.getfield 9, 3) := by decide +kernel
theorem dX3_dropLatest_27 : decode cX3_dropLatest 27 = .ok (.iconst 0, 1) := by decide +kernel
theorem dX3_dropLatest_28 : decode cX3_dropLatest 28 = .ok (.iastore, 1) := by decide +kernel
theorem dX3_dropLatest_29 : decode cX3_dropLatest 29 = .ok (.aload_n 0, 1) := by decide +kernel
theorem dX3_dropLatest_30 : decode cX3_dropLatest 30 = .ok (.getfield 19, 3) := by decide +kernel
theorem dX3_dropLatest_33 : decode cX3_dropLatest 33 = .ok (.aload_n 0, 1) := by decide +kernel
theorem dX3_dropLatest_34 : decode cX3_dropLatest 34 = .ok (.getfield 9, 3) := by decide +kernel
theorem dX3_dropLatest_37 : decode cX3_dropLatest 37 = .ok (.iconst 0, 1) := by decide +kernel
theorem dX3_dropLatest_38 : decode cX3_dropLatest 38 = .ok (.iastore, 1) := by decide +kernel
theorem dX3_dropLatest_39 : decode cX3_dropLatest 39 = .ok (.aload_n 0, 1) := by decide +kernel
theorem dX3_dropLatest_40 : decode cX3_dropLatest 40 = .ok (.getfield 22, 3) := by decide +kernel
theorem dX3_dropLatest_43 : decode cX3_dropLatest 43 = .ok (.aload_n 0, 1) := by decide +kernel
theorem dX3_dropLatest_44 : decode cX3_dropLatest 44 = .ok (.getfield 9, 3) := by decide +kernel
theorem dX3_dropLatest_47 : decode cX3_dropLatest 47 = .ok (.iconst 0, 1) := by decide +kernel
theorem dX3_dropLatest_48 : decode cX3_dropLatest 48 = .ok (.iastore, 1) := by decide +kernel
theorem dX3_dropLatest_49 : decode cX3_dropLatest 49 = .ok (.aload_n 0, 1) := by decide +kernel
theorem dX3_dropLatest_50 : decode cX3_dropLatest 50 = .ok (.invokevirtual 45, 3) := by decide +kernel
theorem dX3_dropLatest_53 : decode cX3_dropLatest 53 = .ok (.istore_n 1, 1) := by decide +kernel
theorem dX3_dropLatest_54 : decode cX3_dropLatest 54 = .ok (.iconst 0, 1) := by decide +kernel
theorem dX3_dropLatest_55 : decode cX3_dropLatest 55 = .ok (.istore_n 2, 1) := by decide +kernel
theorem dX3_dropLatest_56 : decode cX3_dropLatest 56 = .ok (.iload_n 2, 1) := by decide +kernel
theorem dX3_dropLatest_57 : decode cX3_dropLatest 57 = .ok (.aload_n 0, 1) := by decide +kernel
theorem dX3_dropLatest_58 : decode cX3_dropLatest 58 = .ok (.getfield 9, 3) := by decide +kernel
theorem dX3_dropLatest_61 : decode cX3_dropLatest 61 = .ok (.if_icmp .ge 29, 3) := by decide +kernel
theorem dX3_dropLatest_64 : decode cX3_dropLatest 64 = .ok (.aload_n 0, 1) := by decide +kernel
theorem dX3_dropLatest_65 : decode cX3_dropLatest 65 = .ok (.getfield 15, 3) := by decide +kernel
theorem dX3_dropLatest_68 : decode cX3_dropLatest 68 = .ok (.iload_n 2, 1) := by decide +kernel
theorem dX3_dropLatest_69 : decode cX3_dropLatest 69 = .ok (.dup2, 1) := by decide +kernel
theorem dX3_dropLatest_70 : decode cX3_dropLatest 70 = .ok (.iaload, 1) := by decide +kernel
theorem dX3_dropLatest_71 : decode cX3_dropLatest 71 = .ok (.iload_n 1, 1) := by decide +kernel
theorem dX3_dropLatest_72 : decode cX3_dropLatest 72 = .ok (.iand, 1) := by decide +kernel
theorem dX3_dropLatest_73 : decode cX3_dropLatest 73 = .ok (.iastore, 1) := by decide +kernel
theorem dX3_dropLatest_74 : decode cX3_dropLatest 74 = .ok (.aload_n 0, 1) := by decide +kernel
theorem dX3_dropLatest_75 : decode cX3_dropLatest 75 = .ok (.getfield 19, 3) := by decide +kernel
theorem dX3_dropLatest_78 : decode cX3_dropLatest 78 = .ok (.iload_n 2, 1) := by decide +kernel
theorem dX3_dropLatest_79 : decode cX3_dropLatest 79 = .ok (.dup2, 1) := by decide +kernel
theorem dX3_dropLatest_80 : decode cX3_dropLatest 80 = .ok (.iaload, 1) := by decide +kernel
theorem dX3_dropLatest_81 : decode cX3_dropLatest 81 = .ok (.iload_n 1, 1) := by decide +kernel
theorem dX3_dropLatest_82 : decode cX3_dropLatest 82 = .ok (.iand, 1) := by decide +kernel
theorem dX3_dropLatest_83 : decode cX3_dropLatest 83 = .ok (.iastore, 1) := by decide +kernel
theorem dX3_dropLatest_84 : decode cX3_dropLatest 84 = .ok (.iinc 2 1, 3) := by decide +kernel
theorem dX3_dropLatest_87 : decode cX3_dropLatest 87 = .ok (.goto (-31), 3) := by decide +kernel
theorem dX3_dropLatest_90 : decode cX3_dropLatest 90 = .ok (.return_, 1) := by decide +kernel
theorem dX3_turnLink_0 : decode cX3_turnLink 0 = .ok (.aload_n 0, 1) := by decide +kernel
theorem dX3_turnLink_1 : decode cX3_turnLink 1 = .ok (.getfield 15, 3) := by decide +kernel
theorem dX3_turnLink_4 : decode cX3_turnLink 4 = .ok (.iload_n 1, 1) := by decide +kernel
theorem dX3_turnLink_5 : decode cX3_turnLink 5 = .ok (.dup2, 1) := by decide +kernel
theorem dX3_turnLink_6 : decode cX3_turnLink 6 = .ok (.iaload, 1) := by decide +kernel
theorem dX3_turnLink_7 : decode cX3_turnLink 7 = .ok (.iconst 1, 1) := by decide +kernel
theorem dX3_turnLink_8 : decode cX3_turnLink 8 = .ok (.iload_n 2, 1) := by decide +kernel
theorem dX3_turnLink_9 : decode cX3_turnLink 9 = .ok (.ishl, 1) := by decide +kernel
theorem dX3_turnLink_10 : decode cX3_turnLink 10 = .ok (.ixor, 1) := by decide +kernel
theorem dX3_turnLink_11 : decode cX3_turnLink 11 = .ok (.iastore, 1) := by decide +kernel
theorem dX3_turnLink_12 : decode cX3_turnLink 12 = .ok (.aload_n 0, 1) := by decide +kernel
theorem dX3_turnLink_13 : decode cX3_turnLink 13 = .ok (.getfield 15, 3) := by decide +kernel
theorem dX3_turnLink_16 : decode cX3_turnLink 16 = .ok (.iload_n 2, 1) := by decide +kernel
theorem dX3_turnLink_17 : decode cX3_turnLink 17 = .ok (.dup2, 1) := by decide +kernel
theorem dX3_turnLink_18 : decode cX3_turnLink 18 = .ok (.iaload, 1) := by decide +kernel
theorem dX3_turnLink_19 : decode cX3_turnLink 19 = .ok (.iconst 1, 1) := by decide +kernel
theorem dX3_turnLink_20 : decode cX3_turnLink 20 = .ok (.iload_n 1, 1) := by decide +kernel
theorem dX3_turnLink_21 : decode cX3_turnLink 21 = .ok (.ishl, 1) := by decide +kernel
theorem dX3_turnLink_22 : decode cX3_turnLink 22 = .ok (.ixor, 1) := by decide +kernel
theorem dX3_turnLink_23 : decode cX3_turnLink 23 = .ok (.iastore, 1) := by decide +kernel
theorem dX3_turnLink_24 : decode cX3_turnLink 24 = .ok (.aload_n 0, 1) := by decide +kernel
theorem dX3_turnLink_25 : decode cX3_turnLink 25 = .ok (.getfield 19, 3) := by decide +kernel
theorem dX3_turnLink_28 : decode cX3_turnLink 28 = .ok (.iload_n 1, 1) := by decide +kernel
theorem dX3_turnLink_29 : decode cX3_turnLink 29 = .ok (.dup2, 1) := by decide +kernel
theorem dX3_turnLink_30 : decode cX3_turnLink 30 = .ok (.iaload, 1) := by decide +kernel
theorem dX3_turnLink_31 : decode cX3_turnLink 31 = .ok (.aload_n 0, 1) := by decide +kernel
theorem dX3_turnLink_32 : decode cX3_turnLink 32 = .ok (.getfield 15, 3) := by decide +kernel
theorem dX3_turnLink_35 : decode cX3_turnLink 35 = .ok (.iload_n 1, 1) := by decide +kernel
theorem dX3_turnLink_36 : decode cX3_turnLink 36 = .ok (.iaload, 1) := by decide +kernel
theorem dX3_turnLink_37 : decode cX3_turnLink 37 = .ok (.iand, 1) := by decide +kernel
theorem dX3_turnLink_38 : decode cX3_turnLink 38 = .ok (.iastore, 1) := by decide +kernel
theorem dX3_turnLink_39 : decode cX3_turnLink 39 = .ok (.aload_n 0, 1) := by decide +kernel
theorem dX3_turnLink_40 : decode cX3_turnLink 40 = .ok (.getfield 19, 3) := by decide +kernel
theorem dX3_turnLink_43 : decode cX3_turnLink 43 = .ok (.iload_n 2, 1) := by decide +kernel
theorem dX3_turnLink_44 : decode cX3_turnLink 44 = .ok (.dup2, 1) := by decide +kernel
theorem dX3_turnLink_45 : decode cX3_turnLink 45 = .ok (.iaload, 1) := by decide +kernel
theorem dX3_turnLink_46 : decode cX3_turnLink 46 = .ok (.aload_n 0, 1) := by decide +kernel
theorem dX3_turnLink_47 : decode cX3_turnLink 47 = .ok (.getfield 15, 3) := by decide +kernel
theorem dX3_turnLink_50 : decode cX3_turnLink 50 = .ok (.iload_n 2, 1) := by decide +kernel
theorem dX3_turnLink_51 : decode cX3_turnLink 51 = .ok (.iaload, 1) := by decide +kernel
theorem dX3_turnLink_52 : decode cX3_turnLink 52 = .ok (.iand, 1) := by decide +kernel
theorem dX3_turnLink_53 : decode cX3_turnLink 53 = .ok (.iastore, 1) := by decide +kernel
theorem dX3_turnLink_54 : decode cX3_turnLink 54 = .ok (.return_, 1) := by decide +kernel
theorem dX3_turnLost_0 : decode cX3_turnLost 0 = .ok (.aload_n 0, 1) := by decide +kernel
theorem dX3_turnLost_1 : decode cX3_turnLost 1 = .ok (.getfield 19, 3) := by decide +kernel
theorem dX3_turnLost_4 : decode cX3_turnLost 4 = .ok (.iload_n 1, 1) := by decide +kernel
theorem dX3_turnLost_5 : decode cX3_turnLost 5 = .ok (.dup2, 1) := by decide +kernel
theorem dX3_turnLost_6 : decode cX3_turnLost 6 = .ok (.iaload, 1) := by decide +kernel
theorem dX3_turnLost_7 : decode cX3_turnLost 7 = .ok (.iconst 1, 1) := by decide +kernel
theorem dX3_turnLost_8 : decode cX3_turnLost 8 = .ok (.iload_n 2, 1) := by decide +kernel
theorem dX3_turnLost_9 : decode cX3_turnLost 9 = .ok (.ishl, 1) := by decide +kernel
theorem dX3_turnLost_10 : decode cX3_turnLost 10 = .ok (.ixor, 1) := by decide +kernel
theorem dX3_turnLost_11 : decode cX3_turnLost 11 = .ok (.iastore, 1) := by decide +kernel
theorem dX3_turnLost_12 : decode cX3_turnLost 12 = .ok (.aload_n 0, 1) := by decide +kernel
theorem dX3_turnLost_13 : decode cX3_turnLost 13 = .ok (.getfield 19, 3) := by decide +kernel
theorem dX3_turnLost_16 : decode cX3_turnLost 16 = .ok (.iload_n 2, 1) := by decide +kernel
theorem dX3_turnLost_17 : decode cX3_turnLost 17 = .ok (.dup2, 1) := by decide +kernel
theorem dX3_turnLost_18 : decode cX3_turnLost 18 = .ok (.iaload, 1) := by decide +kernel
theorem dX3_turnLost_19 : decode cX3_turnLost 19 = .ok (.iconst 1, 1) := by decide +kernel
theorem dX3_turnLost_20 : decode cX3_turnLost 20 = .ok (.iload_n 1, 1) := by decide +kernel
theorem dX3_turnLost_21 : decode cX3_turnLost 21 = .ok (.ishl, 1) := by decide +kernel
theorem dX3_turnLost_22 : decode cX3_turnLost 22 = .ok (.ixor, 1) := by decide +kernel
theorem dX3_turnLost_23 : decode cX3_turnLost 23 = .ok (.iastore, 1) := by decide +kernel
theorem dX3_turnLost_24 : decode cX3_turnLost 24 = .ok (.return_, 1) := by decide +kernel
theorem dX3_turnItem_0 : decode cX3_turnItem 0 = .ok (.aload_n 0, 1) := by decide +kernel
theorem dX3_turnItem_1 : decode cX3_turnItem 1 = .ok (.getfield 22, 3) := by decide +kernel
theorem dX3_turnItem_4 : decode cX3_turnItem 4 = .ok (.iload_n 1, 1) := by decide +kernel
theorem dX3_turnItem_5 : decode cX3_turnItem 5 = .ok (.dup2, 1) := by decide +kernel
theorem dX3_turnItem_6 : decode cX3_turnItem 6 = .ok (.iaload, 1) := by decide +kernel
theorem dX3_turnItem_7 : decode cX3_turnItem 7 = .ok (.iconst 1, 1) := by decide +kernel
theorem dX3_turnItem_8 : decode cX3_turnItem 8 = .ok (.iload_n 2, 1) := by decide +kernel
theorem dX3_turnItem_9 : decode cX3_turnItem 9 = .ok (.ishl, 1) := by decide +kernel
theorem dX3_turnItem_10 : decode cX3_turnItem 10 = .ok (.ixor, 1) := by decide +kernel
theorem dX3_turnItem_11 : decode cX3_turnItem 11 = .ok (.iastore, 1) := by decide +kernel
theorem dX3_turnItem_12 : decode cX3_turnItem 12 = .ok (.return_, 1) := by decide +kernel
set_option maxRecDepth 20000 in
theorem ggX4_init_X3_init : GoodIn wsX4_init wsX3_init := goodIn_r _ [10, 11, 2, 3, 12, 13, 14, 15, 16, 20, 21, 22, 23, 24, 25] (by decide +kernel) (by decide +kernel)
set_option maxRecDepth 20000 in
theorem gX4_init_X3_init : GoodIn wsX4_init (wsX3_init) := ggX4_init_X3_init
theorem dX4_init_0 : decode cX4_init 0 = .ok (.aload_n 0, 1) := by decide +kernel
theorem dX4_init_1 : decode cX4_init 1 = .ok (.invokespecial 3, 3) := by decide +kernel
theorem dX4_init_4 : decode cX4_init 4 = .ok (.aload_n 0, 1) := by decide +kernel
theorem dX4_init_5 : decode cX4_init 5 = .ok (.bipush 16, 2) := by decide +kernel
theorem dX4_init_7 : decode cX4_init 7 = .ok (.anewarray 9, 3) := by decide +kernel
theorem dX4_init_10 : decode cX4_init 10 = .ok (.putfield 11, 3) := by decide +kernel
theorem dX4_init_13 : decode cX4_init 13 = .ok (.iconst 0, 1) := by decide +kernel
theorem dX4_init_14 : decode cX4_init 14 = .ok (.istore_n 1, 1) := by decide +kernel
theorem dX4_init_15 : decode cX4_init 15 = .ok (.iload_n 1, 1) := by decide +kernel
theorem dX4_init_16 : decode cX4_init 16 = .ok (.bipush 16, 2) := by decide +kernel
theorem dX4_init_18 : decode cX4_init 18 = .ok (.if_icmp .ge 22, 3) := by decide +kernel
theorem dX4_init_21 : decode cX4_init 21 = .ok (.aload_n 0, 1) := by decide +kernel
theorem dX4_init_22 : decode cX4_init 22 = .ok (.getfield 11, 3) := by decide +kernel
theorem dX4_init_25 : decode cX4_init 25 = .ok (.iload_n 1, 1) := by decide +kernel
theorem dX4_init_26 : decode cX4_init 26 = .ok (.new 9, 3) := by decide +kernel
theorem dX4_init_29 : decode cX4_init 29 = .ok (.dup, 1) := by decide +kernel
theorem dX4_init_30 : decode cX4_init 30 = .ok (.invokespecial 17, 3) := by decide +kernel
theorem dX4_init_33 : decode cX4_init 33 = .ok (.aastore, 1) := by decide +kernel
theorem dX4_init_34 : decode cX4_init 34 = .ok (.iinc 1 1, 3) := by decide +kernel
theorem dX4_init_37 : decode cX4_init 37 = .ok (.goto (-22), 3) := by decide +kernel
theorem dX4_init_40 : decode cX4_init 40 = .ok (.return_, 1) := by decide +kernel
set_option maxRecDepth 20000 in
theorem ggX4_remember_X3_become : GoodIn wsX4_remember wsX3_become := goodIn_r _ [12, 13, 14, 15, 16, 17, 18, 19, 20, 21, 22, 26, 27, 28, 29, 30, 31] (by decide +kernel) (by decide +kernel)
set_option maxRecDepth 20000 in
theorem gX4_remember_X3_become : GoodIn wsX4_remember (wsV RX4 22 RX3 yX3_become wsX3_become) := goodIn_app (goodIn_of _ (by decide +kernel)) ggX4_remember_X3_become
theorem dX4_remember_0 : decode cX4_remember 0 = .ok (.aload_n 0, 1) := by decide +kernel
theorem dX4_remember_1 : decode cX4_remember 1 = .ok (.getfield 11, 3) := by decide +kernel
theorem dX4_remember_4 : decode cX4_remember 4 = .ok (.aload_n 0, 1) := by decide +kernel
theorem dX4_remember_5 : decode cX4_remember 5 = .ok (.getfield 18, 3) := by decide +kernel
theorem dX4_remember_8 : decode cX4_remember 8 = .ok (.aaload, 1) := by decide +kernel
theorem dX4_remember_9 : decode cX4_remember 9 = .ok (.aload_n 1, 1) := by decide +kernel
theorem dX4_remember_10 : decode cX4_remember 10 = .ok (.invokevirtual 22, 3) := by decide +kernel
theorem dX4_remember_13 : decode cX4_remember 13 = .ok (.aload_n 0, 1) := by decide +kernel
theorem dX4_remember_14 : decode cX4_remember 14 = .ok (.aload_n 0, 1) := by decide +kernel
theorem dX4_remember_15 : decode cX4_remember 15 = .ok (.getfield 18, 3) := by decide +kernel
theorem dX4_remember_18 : decode cX4_remember 18 = .ok (.iconst 1, 1) := by decide +kernel
theorem dX4_remember_19 : decode cX4_remember 19 = .ok (.iadd, 1) := by decide +kernel
theorem dX4_remember_20 : decode cX4_remember 20 = .ok (.bipush 16, 2) := by decide +kernel
theorem dX4_remember_22 : decode cX4_remember 22 = .ok (.irem, 1) := by decide +kernel
theorem dX4_remember_23 : decode cX4_remember 23 = .ok (.putfield 18, 3) := by decide +kernel
theorem dX4_remember_26 : decode cX4_remember 26 = .ok (.aload_n 0, 1) := by decide +kernel
theorem dX4_remember_27 : decode cX4_remember 27 = .ok (.aload_n 0, 1) := by decide +kernel
theorem dX4_remember_28 : decode cX4_remember 28 = .ok (.getfield 26, 3) := by decide +kernel
theorem dX4_remember_31 : decode cX4_remember 31 = .ok (.iconst 1, 1) := by decide +kernel
theorem dX4_remember_32 : decode cX4_remember 32 = .ok (.iadd, 1) := by decide +kernel
theorem dX4_remember_33 : decode cX4_remember 33 = .ok (.bipush 16, 2) := by decide +kernel
theorem dX4_remember_35 : decode cX4_remember 35 = .ok (.invokestatic 29, 3) := by decide +kernel
theorem dX4_remember_38 : decode cX4_remember 38 = .ok (.putfield 26, 3) := by decide +kernel
theorem dX4_remember_41 : decode cX4_remember 41 = .ok (.return_, 1) := by decide +kernel
set_option maxRecDepth 20000 in
theorem ggX4_restore_X3_become : GoodIn wsX4_restore wsX3_become := goodIn_r _ [8, 9, 10, 11, 12, 13, 14, 15, 16, 17, 18, 22, 23, 24, 25, 26, 27] (by decide +kernel) (by decide +kernel)
set_option maxRecDepth 20000 in
theorem gX4_restore_X3_become : GoodIn wsX4_restore (wsV RX4 22 RX3 yX3_become wsX3_become) := goodIn_app (goodIn_of _ (by decide +kernel)) ggX4_restore_X3_become
theorem dX4_restore_0 : decode cX4_restore 0 = .ok (.iload_n 2, 1) := by decide +kernel
theorem dX4_restore_1 : decode cX4_restore 1 = .ok (.iconst 1, 1) := by decide +kernel
theorem dX4_restore_2 : decode cX4_restore 2 = .ok (.if_icmp .lt 11, 3) := by decide +kernel
theorem dX4_restore_5 : decode cX4_restore 5 = .ok (.iload_n 2, 1) := by decide +kernel
theorem dX4_restore_6 : decode cX4_restore 6 = .ok (.aload_n 0, 1) := by decide +kernel
theorem dX4_restore_7 : decode cX4_restore 7 = .ok (.getfield 26, 3) := by decide +kernel
theorem dX4_restore_10 : decode cX4_restore 10 = .ok (.if_icmp .le 4, 3) := by decide +kernel
theorem dX4_restore_13 : decode cX4_restore 13 = .ok (.return_, 1) := by decide +kernel
theorem dX4_restore_14 : decode cX4_restore 14 = .ok (.aload_n 0, 1) := by decide +kernel
theorem dX4_restore_15 : decode cX4_restore 15 = .ok (.aload_n 0, 1) := by decide +kernel
theorem dX4_restore_16 : decode cX4_restore 16 = .ok (.getfield 18, 3) := by decide +kernel
theorem dX4_restore_19 : decode cX4_restore 19 = .ok (.bipush 16, 2) := by decide +kernel
theorem dX4_restore_21 : decode cX4_restore 21 = .ok (.iadd, 1) := by decide +kernel
theorem dX4_restore_22 : decode cX4_restore 22 = .ok (.iload_n 2, 1) := by decide +kernel
theorem dX4_restore_23 : decode cX4_restore 23 = .ok (.isub, 1) := by decide +kernel
theorem dX4_restore_24 : decode cX4_restore 24 = .ok (.bipush 16, 2) := by decide +kernel
theorem dX4_restore_26 : decode cX4_restore 26 = .ok (.irem, 1) := by decide +kernel
theorem dX4_restore_27 : decode cX4_restore 27 = .ok (.putfield 18, 3) := by decide +kernel
theorem dX4_restore_30 : decode cX4_restore 30 = .ok (.aload_n 0, 1) := by decide +kernel
theorem dX4_restore_31 : decode cX4_restore 31 = .ok (.dup, 1) := by decide +kernel
theorem dX4_restore_32 : decode cX4_restore 32 = .ok (.getfield 26, 3) := by decide +kernel
theorem dX4_restore_35 : decode cX4_restore 35 = .ok (.iload_n 2, 1) := by decide +kernel
theorem dX4_restore_36 : decode cX4_restore 36 = .ok (.isub, 1) := by decide +kernel
theorem dX4_restore_37 : decode cX4_restore 37 = .ok (.putfield 26, 3) := by decide +kernel
theorem dX4_restore_40 : decode cX4_restore 40 = .ok (.aload_n 1, 1) := by decide +kernel
theorem dX4_restore_41 : decode cX4_restore 41 = .ok (.aload_n 0, 1) := by decide +kernel
theorem dX4_restore_42 : decode cX4_restore 42 = .ok (.getfield 11, 3) := by decide +kernel
theorem dX4_restore_45 : decode cX4_restore 45 = .ok (.aload_n 0, 1) := by decide +kernel
theorem dX4_restore_46 : decode cX4_restore 46 = .ok (.getfield 18, 3) := by decide +kernel
theorem dX4_restore_49 : decode cX4_restore 49 = .ok (.aaload, 1) := by decide +kernel
theorem dX4_restore_50 : decode cX4_restore 50 = .ok (.invokevirtual 22, 3) := by decide +kernel
theorem dX4_restore_53 : decode cX4_restore 53 = .ok (.return_, 1) := by decide +kernel
theorem dX4_forget_0 : decode cX4_forget 0 = .ok (.aload_n 0, 1) := by decide +kernel
theorem dX4_forget_1 : decode cX4_forget 1 = .ok (.iconst 0, 1) := by decide +kernel
theorem dX4_forget_2 : decode cX4_forget 2 = .ok (.putfield 26, 3) := by decide +kernel
theorem dX4_forget_5 : decode cX4_forget 5 = .ok (.return_, 1) := by decide +kernel
set_option maxRecDepth 20000 in
theorem ggX5_ofItems_J6_bitCount_0f7a4 : GoodIn wsX5_ofItems wsJ6_bitCount_0f7a4 := goodIn_r _ [5, 6, 7, 8] (by decide +kernel) (by decide +kernel)
set_option maxRecDepth 20000 in
theorem gX5_ofItems_J6_bitCount_0f7a4 : GoodIn wsX5_ofItems (va_wsS RX5 11 yJ6_bitCount_0f7a4 wsJ6_bitCount_0f7a4) := goodIn_app (goodIn_of _ (by decide +kernel)) ggX5_ofItems_J6_bitCount_0f7a4
set_option maxRecDepth 20000 in
theorem ggX5_ofItems_X7_isIn : GoodIn wsX5_ofItems wsX7_isIn := goodIn_r _ [11] (by decide +kernel) (by decide +kernel)
set_option maxRecDepth 20000 in
theorem gX5_ofItems_X7_isIn_n19 : GoodIn wsX5_ofItems (wsX7_isIn) := ggX5_ofItems_X7_isIn
set_option maxRecDepth 20000 in
theorem ggX5_ofItems_X7_markOf : GoodIn wsX5_ofItems wsX7_markOf := goodIn_r _ [13, 14, 15, 16, 17] (by decide +kernel) (by decide +kernel)
set_option maxRecDepth 20000 in
theorem gX5_ofItems_X7_markOf_n23 : GoodIn wsX5_ofItems (wsX7_markOf) := ggX5_ofItems_X7_markOf
set_option maxRecDepth 20000 in
theorem ggX5_ofItems_X5_withMark : GoodIn wsX5_ofItems wsX5_withMark := goodIn_r _ [21, 22, 23, 24, 25, 20, 26, 27, 28, 29, 30, 31, 32] (by decide +kernel) (by decide +kernel)
set_option maxRecDepth 20000 in
theorem gX5_ofItems_X5_withMark : GoodIn wsX5_ofItems (va_wsS RX5 27 yX5_withMark wsX5_withMark) := goodIn_app (goodIn_of _ (by decide +kernel)) ggX5_ofItems_X5_withMark
set_option maxRecDepth 20000 in
theorem ggX5_ofItems_X7_rankOf : GoodIn wsX5_ofItems wsX7_rankOf := goodIn_r _ [34] (by decide +kernel) (by decide +kernel)
set_option maxRecDepth 20000 in
theorem gX5_ofItems_X7_rankOf_n31 : GoodIn wsX5_ofItems (wsX7_rankOf) := ggX5_ofItems_X7_rankOf
theorem dX5_ofItems_0 : decode cX5_ofItems 0 = .ok (.iload_n 1, 1) := by decide +kernel
theorem dX5_ofItems_1 : decode cX5_ofItems 1 = .ok (.ifCond .ne 9, 3) := by decide +kernel
theorem dX5_ofItems_4 : decode cX5_ofItems 4 = .ok (.iload_n 0, 1) := by decide +kernel
theorem dX5_ofItems_5 : decode cX5_ofItems 5 = .ok (.invokestatic 11, 3) := by decide +kernel
theorem dX5_ofItems_8 : decode cX5_ofItems 8 = .ok (.i2l, 1) := by decide +kernel
theorem dX5_ofItems_9 : decode cX5_ofItems 9 = .ok (.lreturn, 1) := by decide +kernel
theorem dX5_ofItems_10 : decode cX5_ofItems 10 = .ok (.iload_n 1, 1) := by decide +kernel
theorem dX5_ofItems_11 : decode cX5_ofItems 11 = .ok (.iconst 3, 1) := by decide +kernel
theorem dX5_ofItems_12 : decode cX5_ofItems 12 = .ok (.if_icmp .ne 6, 3) := by decide +kernel
theorem dX5_ofItems_15 : decode cX5_ofItems 15 = .ok (.iload_n 0, 1) := by decide +kernel
theorem dX5_ofItems_16 : decode cX5_ofItems 16 = .ok (.i2l, 1) := by decide +kernel
theorem dX5_ofItems_17 : decode cX5_ofItems 17 = .ok (.lreturn, 1) := by decide +kernel
theorem dX5_ofItems_18 : decode cX5_ofItems 18 = .ok (.iload_n 1, 1) := by decide +kernel
theorem dX5_ofItems_19 : decode cX5_ofItems 19 = .ok (.iconst 2, 1) := by decide +kernel
theorem dX5_ofItems_20 : decode cX5_ofItems 20 = .ok (.if_icmp .ne 9, 3) := by decide +kernel
theorem dX5_ofItems_23 : decode cX5_ofItems 23 = .ok (.ldc2_w 17, 3) := by decide +kernel
theorem dX5_ofItems_26 : decode cX5_ofItems 26 = .ok (.goto 4, 3) := by decide +kernel
theorem dX5_ofItems_29 : decode cX5_ofItems 29 = .ok (.lconst 0, 1) := by decide +kernel
theorem dX5_ofItems_30 : decode cX5_ofItems 30 = .ok (.lstore_n 3, 1) := by decide +kernel
theorem dX5_ofItems_31 : decode cX5_ofItems 31 = .ok (.iconst 0, 1) := by decide +kernel
theorem dX5_ofItems_32 : decode cX5_ofItems 32 = .ok (.istore 5, 2) := by decide +kernel
theorem dX5_ofItems_34 : decode cX5_ofItems 34 = .ok (.iload 5, 2) := by decide +kernel
theorem dX5_ofItems_36 : decode cX5_ofItems 36 = .ok (.bipush 16, 2) := by decide +kernel
theorem dX5_ofItems_38 : decode cX5_ofItems 38 = .ok (.if_icmp .ge 51, 3) := by decide +kernel
theorem dX5_ofItems_41 : decode cX5_ofItems 41 = .ok (.iload_n 0, 1) := by decide +kernel
theorem dX5_ofItems_42 : decode cX5_ofItems 42 = .ok (.iload 5, 2) := by decide +kernel
theorem dX5_ofItems_44 : decode cX5_ofItems 44 = .ok (.invokestatic 19, 3) := by decide +kernel
theorem dX5_ofItems_47 : decode cX5_ofItems 47 = .ok (.ifCond .eq 36, 3) := by decide +kernel
theorem dX5_ofItems_50 : decode cX5_ofItems 50 = .ok (.iload 5, 2) := by decide +kernel
theorem dX5_ofItems_52 : decode cX5_ofItems 52 = .ok (.iload_n 2, 1) := by decide +kernel
theorem dX5_ofItems_53 : decode cX5_ofItems 53 = .ok (.invokestatic 23, 3) := by decide +kernel
theorem dX5_ofItems_56 : decode cX5_ofItems 56 = .ok (.istore 6, 2) := by decide +kernel
theorem dX5_ofItems_58 : decode cX5_ofItems 58 = .ok (.iload_n 1, 1) := by decide +kernel
theorem dX5_ofItems_59 : decode cX5_ofItems 59 = .ok (.iconst 2, 1) := by decide +kernel
theorem dX5_ofItems_60 : decode cX5_ofItems 60 = .ok (.if_icmp .ne 13, 3) := by decide +kernel
theorem dX5_ofItems_63 : decode cX5_ofItems 63 = .ok (.lload_n 3, 1) := by decide +kernel
theorem dX5_ofItems_64 : decode cX5_ofItems 64 = .ok (.iload 6, 2) := by decide +kernel
theorem dX5_ofItems_66 : decode cX5_ofItems 66 = .ok (.i2l, 1) := by decide +kernel
theorem dX5_ofItems_67 : decode cX5_ofItems 67 = .ok (.invokestatic 27, 3) := by decide +kernel
theorem dX5_ofItems_70 : decode cX5_ofItems 70 = .ok (.goto 12, 3) := by decide +kernel
theorem dX5_ofItems_73 : decode cX5_ofItems 73 = .ok (.lload_n 3, 1) := by decide +kernel
theorem dX5_ofItems_74 : decode cX5_ofItems 74 = .ok (.lconst 1, 1) := by decide +kernel
theorem dX5_ofItems_75 : decode cX5_ofItems 75 = .ok (.iload 6, 2) := by decide +kernel
theorem dX5_ofItems_77 : decode cX5_ofItems 77 = .ok (.invokestatic 31, 3) := by decide +kernel
theorem dX5_ofItems_80 : decode cX5_ofItems 80 = .ok (.lshl, 1) := by decide +kernel
theorem dX5_ofItems_81 : decode cX5_ofItems 81 = .ok (.lor, 1) := by decide +kernel
theorem dX5_ofItems_82 : decode cX5_ofItems 82 = .ok (.lstore_n 3, 1) := by decide +kernel
theorem dX5_ofItems_83 : decode cX5_ofItems 83 = .ok (.iinc 5 1, 3) := by decide +kernel
theorem dX5_ofItems_86 : decode cX5_ofItems 86 = .ok (.goto (-52), 3) := by decide +kernel
theorem dX5_ofItems_89 : decode cX5_ofItems 89 = .ok (.lload_n 3, 1) := by decide +kernel
theorem dX5_ofItems_90 : decode cX5_ofItems 90 = .ok (.lreturn, 1) := by decide +kernel
set_option maxRecDepth 20000 in
theorem ggX5_together_X5_first : GoodIn wsX5_together wsX5_first := goodIn_r _ [4, 5] (by decide +kernel) (by decide +kernel)
set_option maxRecDepth 20000 in
theorem gX5_together_X5_first : GoodIn wsX5_together (va_wsS RX5 34 yX5_first wsX5_first) := goodIn_app (goodIn_of _ (by decide +kernel)) ggX5_together_X5_first
set_option maxRecDepth 20000 in
theorem ggX5_together_X5_withMark : GoodIn wsX5_together wsX5_withMark := goodIn_r _ [8, 5, 9, 1, 2, 3, 4, 10, 11, 12, 13, 14, 15] (by decide +kernel) (by decide +kernel)
set_option maxRecDepth 20000 in
theorem gX5_together_X5_withMark : GoodIn wsX5_together (va_wsS RX5 27 yX5_withMark wsX5_withMark) := goodIn_app (goodIn_of _ (by decide +kernel)) ggX5_together_X5_withMark
set_option maxRecDepth 20000 in
theorem ggX5_together_X5_second : GoodIn wsX5_together wsX5_second := goodIn_r _ [12, 5] (by decide +kernel) (by decide +kernel)
set_option maxRecDepth 20000 in
theorem gX5_together_X5_second : GoodIn wsX5_together (va_wsS RX5 38 yX5_second wsX5_second) := goodIn_app (goodIn_of _ (by decide +kernel)) ggX5_together_X5_second
set_option maxRecDepth 20000 in
theorem ggX5_together_X5_third : GoodIn wsX5_together wsX5_third := goodIn_r _ [15, 9] (by decide +kernel) (by decide +kernel)
set_option maxRecDepth 20000 in
theorem gX5_together_X5_third : GoodIn wsX5_together (va_wsS RX5 41 yX5_third wsX5_third) := goodIn_app (goodIn_of _ (by decide +kernel)) ggX5_together_X5_third
theorem dX5_together_0 : decode cX5_together 0 = .ok (.iload 4, 2) := by decide +kernel
theorem dX5_together_2 : decode cX5_together 2 = .ok (.ifCond .ne 7, 3) := by decide +kernel
theorem dX5_together_5 : decode cX5_together 5 = .ok (.lload_n 0, 1) := by decide +kernel
theorem dX5_together_6 : decode cX5_together 6 = .ok (.lload_n 2, 1) := by decide +kernel
theorem dX5_together_7 : decode cX5_together 7 = .ok (.ladd, 1) := by decide +kernel
theorem dX5_together_8 : decode cX5_together 8 = .ok (.lreturn, 1) := by decide +kernel
theorem dX5_together_9 : decode cX5_together 9 = .ok (.iload 4, 2) := by decide +kernel
theorem dX5_together_11 : decode cX5_together 11 = .ok (.iconst 2, 1) := by decide +kernel
theorem dX5_together_12 : decode cX5_together 12 = .ok (.if_icmp .eq 7, 3) := by decide +kernel
theorem dX5_together_15 : decode cX5_together 15 = .ok (.lload_n 0, 1) := by decide +kernel
theorem dX5_together_16 : decode cX5_together 16 = .ok (.lload_n 2, 1) := by decide +kernel
theorem dX5_together_17 : decode cX5_together 17 = .ok (.lor, 1) := by decide +kernel
theorem dX5_together_18 : decode cX5_together 18 = .ok (.lreturn, 1) := by decide +kernel
theorem dX5_together_19 : decode cX5_together 19 = .ok (.lload_n 0, 1) := by decide +kernel
theorem dX5_together_20 : decode cX5_together 20 = .ok (.lload_n 2, 1) := by decide +kernel
theorem dX5_together_21 : decode cX5_together 21 = .ok (.invokestatic 34, 3) := by decide +kernel
theorem dX5_together_24 : decode cX5_together 24 = .ok (.invokestatic 27, 3) := by decide +kernel
theorem dX5_together_27 : decode cX5_together 27 = .ok (.lload_n 2, 1) := by decide +kernel
theorem dX5_together_28 : decode cX5_together 28 = .ok (.invokestatic 38, 3) := by decide +kernel
theorem dX5_together_31 : decode cX5_together 31 = .ok (.invokestatic 27, 3) := by decide +kernel
theorem dX5_together_34 : decode cX5_together 34 = .ok (.lload_n 2, 1) := by decide +kernel
theorem dX5_together_35 : decode cX5_together 35 = .ok (.invokestatic 41, 3) := by decide +kernel
theorem dX5_together_38 : decode cX5_together 38 = .ok (.invokestatic 27, 3) := by decide +kernel
theorem dX5_together_41 : decode cX5_together 41 = .ok (.lreturn, 1) := by decide +kernel
set_option maxRecDepth 20000 in
theorem ggX5_withMark_X5_first : GoodIn wsX5_withMark wsX5_first := goodIn_r _ [6, 1] (by decide +kernel) (by decide +kernel)
set_option maxRecDepth 20000 in
theorem gX5_withMark_X5_first : GoodIn wsX5_withMark (va_wsS RX5 34 yX5_first wsX5_first) := goodIn_app (goodIn_of _ (by decide +kernel)) ggX5_withMark_X5_first
set_option maxRecDepth 20000 in
theorem ggX5_withMark_X5_second : GoodIn wsX5_withMark wsX5_second := goodIn_r _ [9, 1] (by decide +kernel) (by decide +kernel)
set_option maxRecDepth 20000 in
theorem gX5_withMark_X5_second : GoodIn wsX5_withMark (va_wsS RX5 38 yX5_second wsX5_second) := goodIn_app (goodIn_of _ (by decide +kernel)) ggX5_withMark_X5_second
set_option maxRecDepth 20000 in
theorem ggX5_withMark_X5_third : GoodIn wsX5_withMark wsX5_third := goodIn_r _ [12, 2] (by decide +kernel) (by decide +kernel)
set_option maxRecDepth 20000 in
theorem gX5_withMark_X5_third : GoodIn wsX5_withMark (va_wsS RX5 41 yX5_third wsX5_third) := goodIn_app (goodIn_of _ (by decide +kernel)) ggX5_withMark_X5_third
theorem dX5_withMark_0 : decode cX5_withMark 0 = .ok (.lload_n 0, 1) := by decide +kernel
theorem dX5_withMark_1 : decode cX5_withMark 1 = .ok (.invokestatic 34, 3) := by decide +kernel
theorem dX5_withMark_4 : decode cX5_withMark 4 = .ok (.lstore 4, 2) := by decide +kernel
theorem dX5_withMark_6 : decode cX5_withMark 6 = .ok (.lload_n 0, 1) := by decide +kernel
theorem dX5_withMark_7 : decode cX5_withMark 7 = .ok (.invokestatic 38, 3) := by decide +kernel
theorem dX5_withMark_10 : decode cX5_withMark 10 = .ok (.lstore 6, 2) := by decide +kernel
theorem dX5_withMark_12 : decode cX5_withMark 12 = .ok (.lload_n 0, 1) := by decide +kernel
theorem dX5_withMark_13 : decode cX5_withMark 13 = .ok (.invokestatic 41, 3) := by decide +kernel
theorem dX5_withMark_16 : decode cX5_withMark 16 = .ok (.lstore 8, 2) := by decide +kernel
theorem dX5_withMark_18 : decode cX5_withMark 18 = .ok (.lload_n 2, 1) := by decide +kernel
theorem dX5_withMark_19 : decode cX5_withMark 19 = .ok (.lload 4, 2) := by decide +kernel
theorem dX5_withMark_21 : decode cX5_withMark 21 = .ok (.lcmp, 1) := by decide +kernel
theorem dX5_withMark_22 : decode cX5_withMark 22 = .ok (.ifCond .eq 17, 3) := by decide +kernel
theorem dX5_withMark_25 : decode cX5_withMark 25 = .ok (.lload_n 2, 1) := by decide +kernel
theorem dX5_withMark_26 : decode cX5_withMark 26 = .ok (.lload 6, 2) := by decide +kernel
theorem dX5_withMark_28 : decode cX5_withMark 28 = .ok (.lcmp, 1) := by decide +kernel
theorem dX5_withMark_29 : decode cX5_withMark 29 = .ok (.ifCond .eq 10, 3) := by decide +kernel
theorem dX5_withMark_32 : decode cX5_withMark 32 = .ok (.lload_n 2, 1) := by decide +kernel
theorem dX5_withMark_33 : decode cX5_withMark 33 = .ok (.lload 8, 2) := by decide +kernel
theorem dX5_withMark_35 : decode cX5_withMark 35 = .ok (.lcmp, 1) := by decide +kernel
theorem dX5_withMark_36 : decode cX5_withMark 36 = .ok (.ifCond .lt 5, 3) := by decide +kernel
theorem dX5_withMark_39 : decode cX5_withMark 39 = .ok (.lload_n 0, 1) := by decide +kernel
theorem dX5_withMark_40 : decode cX5_withMark 40 = .ok (.lreturn, 1) := by decide +kernel
theorem dX5_withMark_41 : decode cX5_withMark 41 = .ok (.lload_n 2, 1) := by decide +kernel
theorem dX5_withMark_42 : decode cX5_withMark 42 = .ok (.lload 4, 2) := by decide +kernel
theorem dX5_withMark_44 : decode cX5_withMark 44 = .ok (.lcmp, 1) := by decide +kernel
theorem dX5_withMark_45 : decode cX5_withMark 45 = .ok (.ifCond .ge 19, 3) := by decide +kernel
theorem dX5_withMark_48 : decode cX5_withMark 48 = .ok (.lload_n 2, 1) := by decide +kernel
theorem dX5_withMark_49 : decode cX5_withMark 49 = .ok (.ldc2_w 44, 3) := by decide +kernel
theorem dX5_withMark_52 : decode cX5_withMark 52 = .ok (.lload 4, 2) := by decide +kernel
theorem dX5_withMark_54 : decode cX5_withMark 54 = .ok (.lmul, 1) := by decide +kernel
theorem dX5_withMark_55 : decode cX5_withMark 55 = .ok (.ladd, 1) := by decide +kernel
theorem dX5_withMark_56 : decode cX5_withMark 56 = .ok (.ldc2_w 46, 3) := by decide +kernel
theorem dX5_withMark_59 : decode cX5_withMark 59 = .ok (.lload 6, 2) := by decide +kernel
theorem dX5_withMark_61 : decode cX5_withMark 61 = .ok (.lmul, 1) := by decide +kernel
theorem dX5_withMark_62 : decode cX5_withMark 62 = .ok (.ladd, 1) := by decide +kernel
theorem dX5_withMark_63 : decode cX5_withMark 63 = .ok (.lreturn, 1) := by decide +kernel
theorem dX5_withMark_64 : decode cX5_withMark 64 = .ok (.lload_n 2, 1) := by decide +kernel
theorem dX5_withMark_65 : decode cX5_withMark 65 = .ok (.lload 6, 2) := by decide +kernel
theorem dX5_withMark_67 : decode cX5_withMark 67 = .ok (.lcmp, 1) := by decide +kernel
theorem dX5_withMark_68 : decode cX5_withMark 68 = .ok (.ifCond .ge 21, 3) := by decide +kernel
theorem dX5_withMark_71 : decode cX5_withMark 71 = .ok (.lload 4, 2) := by decide +kernel
theorem dX5_withMark_73 : decode cX5_withMark 73 = .ok (.ldc2_w 44, 3) := by decide +kernel
theorem dX5_withMark_76 : decode cX5_withMark 76 = .ok (.lload_n 2, 1) := by decide +kernel
theorem dX5_withMark_77 : decode cX5_withMark 77 = .ok (.lmul, 1) := by decide +kernel
theorem dX5_withMark_78 : decode cX5_withMark 78 = .ok (.ladd, 1) := by decide +kernel
theorem dX5_withMark_79 : decode cX5_withMark 79 = .ok (.ldc2_w 46, 3) := by decide +kernel
theorem dX5_withMark_82 : decode cX5_withMark 82 = .ok (.lload 6, 2) := by decide +kernel
theorem dX5_withMark_84 : decode cX5_withMark 84 = .ok (.lmul, 1) := by decide +kernel
theorem dX5_withMark_85 : decode cX5_withMark 85 = .ok (.ladd, 1) := by decide +kernel
theorem dX5_withMark_86 : decode cX5_withMark 86 = .ok (.goto 18, 3) := by decide +kernel
theorem dX5_withMark_89 : decode cX5_withMark 89 = .ok (.lload 4, 2) := by decide +kernel
theorem dX5_withMark_91 : decode cX5_withMark 91 = .ok (.ldc2_w 44, 3) := by decide +kernel
theorem dX5_withMark_94 : decode cX5_withMark 94 = .ok (.lload 6, 2) := by decide +kernel
theorem dX5_withMark_96 : decode cX5_withMark 96 = .ok (.lmul, 1) := by decide +kernel
theorem dX5_withMark_97 : decode cX5_withMark 97 = .ok (.ladd, 1) := by decide +kernel
theorem dX5_withMark_98 : decode cX5_withMark 98 = .ok (.ldc2_w 46, 3) := by decide +kernel
theorem dX5_withMark_101 : decode cX5_withMark 101 = .ok (.lload_n 2, 1) := by decide +kernel
theorem dX5_withMark_102 : decode cX5_withMark 102 = .ok (.lmul, 1) := by decide +kernel
theorem dX5_withMark_103 : decode cX5_withMark 103 = .ok (.ladd, 1) := by decide +kernel
theorem dX5_withMark_104 : decode cX5_withMark 104 = .ok (.lreturn, 1) := by decide +kernel
theorem dX5_first_0 : decode cX5_first 0 = .ok (.lload_n 0, 1) := by decide +kernel
theorem dX5_first_1 : decode cX5_first 1 = .ok (.ldc2_w 44, 3) := by decide +kernel
theorem dX5_first_4 : decode cX5_first 4 = .ok (.lrem, 1) := by decide +kernel
theorem dX5_first_5 : decode cX5_first 5 = .ok (.lreturn, 1) := by decide +kernel
theorem dX5_second_0 : decode cX5_second 0 = .ok (.lload_n 0, 1) := by decide +kernel
theorem dX5_second_1 : decode cX5_second 1 = .ok (.ldc2_w 44, 3) := by decide +kernel
theorem dX5_second_4 : decode cX5_second 4 = .ok (.ldiv, 1) := by decide +kernel
theorem dX5_second_5 : decode cX5_second 5 = .ok (.ldc2_w 44, 3) := by decide +kernel
theorem dX5_second_8 : decode cX5_second 8 = .ok (.lrem, 1) := by decide +kernel
theorem dX5_second_9 : decode cX5_second 9 = .ok (.lreturn, 1) := by decide +kernel
theorem dX5_third_0 : decode cX5_third 0 = .ok (.lload_n 0, 1) := by decide +kernel
theorem dX5_third_1 : decode cX5_third 1 = .ok (.ldc2_w 46, 3) := by decide +kernel
theorem dX5_third_4 : decode cX5_third 4 = .ok (.ldiv, 1) := by decide +kernel
theorem dX5_third_5 : decode cX5_third 5 = .ok (.lreturn, 1) := by decide +kernel
theorem dX5_guessByBits_0 : decode cX5_guessByBits 0 = .ok (.lload_n 0, 1) := by decide +kernel
theorem dX5_guessByBits_1 : decode cX5_guessByBits 1 = .ok (.lconst 0, 1) := by decide +kernel
theorem dX5_guessByBits_2 : decode cX5_guessByBits 2 = .ok (.lcmp, 1) := by decide +kernel
theorem dX5_guessByBits_3 : decode cX5_guessByBits 3 = .ok (.ifCond .ne 5, 3) := by decide +kernel
theorem dX5_guessByBits_6 : decode cX5_guessByBits 6 = .ok (.iconst 0, 1) := by decide +kernel
theorem dX5_guessByBits_7 : decode cX5_guessByBits 7 = .ok (.ireturn, 1) := by decide +kernel
theorem dX5_guessByBits_8 : decode cX5_guessByBits 8 = .ok (.iconst 0, 1) := by decide +kernel
theorem dX5_guessByBits_9 : decode cX5_guessByBits 9 = .ok (.istore_n 2, 1) := by decide +kernel
theorem dX5_guessByBits_10 : decode cX5_guessByBits 10 = .ok (.iload_n 2, 1) := by decide +kernel
theorem dX5_guessByBits_11 : decode cX5_guessByBits 11 = .ok (.bipush 7, 2) := by decide +kernel
theorem dX5_guessByBits_13 : decode cX5_guessByBits 13 = .ok (.if_icmp .gt 19, 3) := by decide +kernel
theorem dX5_guessByBits_16 : decode cX5_guessByBits 16 = .ok (.lload_n 0, 1) := by decide +kernel
theorem dX5_guessByBits_17 : decode cX5_guessByBits 17 = .ok (.iload_n 2, 1) := by decide +kernel
theorem dX5_guessByBits_18 : decode cX5_guessByBits 18 = .ok (.lshr, 1) := by decide +kernel
theorem dX5_guessByBits_19 : decode cX5_guessByBits 19 = .ok (.lconst 1, 1) := by decide +kernel
theorem dX5_guessByBits_20 : decode cX5_guessByBits 20 = .ok (.land, 1) := by decide +kernel
theorem dX5_guessByBits_21 : decode cX5_guessByBits 21 = .ok (.lconst 1, 1) := by decide +kernel
theorem dX5_guessByBits_22 : decode cX5_guessByBits 22 = .ok (.lcmp, 1) := by decide +kernel
theorem dX5_guessByBits_23 : decode cX5_guessByBits 23 = .ok (.ifCond .ne 9, 3) := by decide +kernel
theorem dX5_guessByBits_26 : decode cX5_guessByBits 26 = .ok (.iinc 2 1, 3) := by decide +kernel
theorem dX5_guessByBits_29 : decode cX5_guessByBits 29 = .ok (.goto (-19), 3) := by decide +kernel
theorem dX5_guessByBits_32 : decode cX5_guessByBits 32 = .ok (.iconst 1, 1) := by decide +kernel
theorem dX5_guessByBits_33 : decode cX5_guessByBits 33 = .ok (.iload_n 2, 1) := by decide +kernel
theorem dX5_guessByBits_34 : decode cX5_guessByBits 34 = .ok (.ishl, 1) := by decide +kernel
theorem dX5_guessByBits_35 : decode cX5_guessByBits 35 = .ok (.sipush 1000, 3) := by decide +kernel
theorem dX5_guessByBits_38 : decode cX5_guessByBits 38 = .ok (.imul, 1) := by decide +kernel
theorem dX5_guessByBits_39 : decode cX5_guessByBits 39 = .ok (.sipush 773, 3) := by decide +kernel
theorem dX5_guessByBits_42 : decode cX5_guessByBits 42 = .ok (.idiv, 1) := by decide +kernel
theorem dX5_guessByBits_43 : decode cX5_guessByBits 43 = .ok (.ireturn, 1) := by decide +kernel
set_option maxRecDepth 20000 in
theorem ggX5_guessByLeast_X5_first : GoodIn wsX5_guessByLeast wsX5_first := goodIn_r _ [6, 7] (by decide +kernel) (by decide +kernel)
set_option maxRecDepth 20000 in
theorem gX5_guessByLeast_X5_first : GoodIn wsX5_guessByLeast (va_wsS RX5 34 yX5_first wsX5_first) := goodIn_app (goodIn_of _ (by decide +kernel)) ggX5_guessByLeast_X5_first
set_option maxRecDepth 20000 in
theorem ggX5_guessByLeast_X5_second : GoodIn wsX5_guessByLeast wsX5_second := goodIn_r _ [10, 7] (by decide +kernel) (by decide +kernel)
set_option maxRecDepth 20000 in
theorem gX5_guessByLeast_X5_second : GoodIn wsX5_guessByLeast (va_wsS RX5 38 yX5_second wsX5_second) := goodIn_app (goodIn_of _ (by decide +kernel)) ggX5_guessByLeast_X5_second
set_option maxRecDepth 20000 in
theorem ggX5_guessByLeast_X5_third : GoodIn wsX5_guessByLeast wsX5_third := goodIn_r _ [13, 14] (by decide +kernel) (by decide +kernel)
set_option maxRecDepth 20000 in
theorem gX5_guessByLeast_X5_third : GoodIn wsX5_guessByLeast (va_wsS RX5 41 yX5_third wsX5_third) := goodIn_app (goodIn_of _ (by decide +kernel)) ggX5_guessByLeast_X5_third
theorem dX5_guessByLeast_0 : decode cX5_guessByLeast 0 = .ok (.lload_n 0, 1) := by decide +kernel
theorem dX5_guessByLeast_1 : decode cX5_guessByLeast 1 = .ok (.invokestatic 34, 3) := by decide +kernel
theorem dX5_guessByLeast_4 : decode cX5_guessByLeast 4 = .ok (.ldc2_w 48, 3) := by decide +kernel
theorem dX5_guessByLeast_7 : decode cX5_guessByLeast 7 = .ok (.lcmp, 1) := by decide +kernel
theorem dX5_guessByLeast_8 : decode cX5_guessByLeast 8 = .ok (.ifCond .ne 5, 3) := by decide +kernel
theorem dX5_guessByLeast_11 : decode cX5_guessByLeast 11 = .ok (.iconst 0, 1) := by decide +kernel
theorem dX5_guessByLeast_12 : decode cX5_guessByLeast 12 = .ok (.ireturn, 1) := by decide +kernel
theorem dX5_guessByLeast_13 : decode cX5_guessByLeast 13 = .ok (.lload_n 0, 1) := by decide +kernel
theorem dX5_guessByLeast_14 : decode cX5_guessByLeast 14 = .ok (.invokestatic 38, 3) := by decide +kernel
theorem dX5_guessByLeast_17 : decode cX5_guessByLeast 17 = .ok (.ldc2_w 48, 3) := by decide +kernel
theorem dX5_guessByLeast_20 : decode cX5_guessByLeast 20 = .ok (.lcmp, 1) := by decide +kernel
theorem dX5_guessByLeast_21 : decode cX5_guessByLeast 21 = .ok (.ifCond .ne 5, 3) := by decide +kernel
theorem dX5_guessByLeast_24 : decode cX5_guessByLeast 24 = .ok (.iconst 1, 1) := by decide +kernel
theorem dX5_guessByLeast_25 : decode cX5_guessByLeast 25 = .ok (.ireturn, 1) := by decide +kernel
theorem dX5_guessByLeast_26 : decode cX5_guessByLeast 26 = .ok (.lload_n 0, 1) := by decide +kernel
theorem dX5_guessByLeast_27 : decode cX5_guessByLeast 27 = .ok (.invokestatic 41, 3) := by decide +kernel
theorem dX5_guessByLeast_30 : decode cX5_guessByLeast 30 = .ok (.lstore_n 2, 1) := by decide +kernel
theorem dX5_guessByLeast_31 : decode cX5_guessByLeast 31 = .ok (.lload_n 2, 1) := by decide +kernel
theorem dX5_guessByLeast_32 : decode cX5_guessByLeast 32 = .ok (.ldc2_w 48, 3) := by decide +kernel
theorem dX5_guessByLeast_35 : decode cX5_guessByLeast 35 = .ok (.lcmp, 1) := by decide +kernel
theorem dX5_guessByLeast_36 : decode cX5_guessByLeast 36 = .ok (.ifCond .ne 5, 3) := by decide +kernel
theorem dX5_guessByLeast_39 : decode cX5_guessByLeast 39 = .ok (.iconst 2, 1) := by decide +kernel
theorem dX5_guessByLeast_40 : decode cX5_guessByLeast 40 = .ok (.ireturn, 1) := by decide +kernel
theorem dX5_guessByLeast_41 : decode cX5_guessByLeast 41 = .ok (.lload_n 2, 1) := by decide +kernel
theorem dX5_guessByLeast_42 : decode cX5_guessByLeast 42 = .ok (.lconst 0, 1) := by decide +kernel
theorem dX5_guessByLeast_43 : decode cX5_guessByLeast 43 = .ok (.lcmp, 1) := by decide +kernel
theorem dX5_guessByLeast_44 : decode cX5_guessByLeast 44 = .ok (.ifCond .ge 7, 3) := by decide +kernel
theorem dX5_guessByLeast_47 : decode cX5_guessByLeast 47 = .ok (.iconst 0, 1) := by decide +kernel
theorem dX5_guessByLeast_48 : decode cX5_guessByLeast 48 = .ok (.goto 11, 3) := by decide +kernel
theorem dX5_guessByLeast_51 : decode cX5_guessByLeast 51 = .ok (.ldc2_w 50, 3) := by decide +kernel
theorem dX5_guessByLeast_54 : decode cX5_guessByLeast 54 = .ok (.lload_n 2, 1) := by decide +kernel
theorem dX5_guessByLeast_55 : decode cX5_guessByLeast 55 = .ok (.lconst 1, 1) := by decide +kernel
theorem dX5_guessByLeast_56 : decode cX5_guessByLeast 56 = .ok (.ladd, 1) := by decide +kernel
theorem dX5_guessByLeast_57 : decode cX5_guessByLeast 57 = .ok (.ldiv, 1) := by decide +kernel
theorem dX5_guessByLeast_58 : decode cX5_guessByLeast 58 = .ok (.l2i, 1) := by decide +kernel
theorem dX5_guessByLeast_59 : decode cX5_guessByLeast 59 = .ok (.ireturn, 1) := by decide +kernel
theorem dX6_init_0 : decode cX6_init 0 = .ok (.aload_n 0, 1) := by decide +kernel
theorem dX6_init_1 : decode cX6_init 1 = .ok (.invokespecial 3, 3) := by decide +kernel
theorem dX6_init_4 : decode cX6_init 4 = .ok (.aload_n 0, 1) := by decide +kernel
theorem dX6_init_5 : decode cX6_init 5 = .ok (.bipush 9, 2) := by decide +kernel
theorem dX6_init_7 : decode cX6_init 7 = .ok (.newarray .int, 2) := by decide +kernel
theorem dX6_init_9 : decode cX6_init 9 = .ok (.putfield 9, 3) := by decide +kernel
theorem dX6_init_12 : decode cX6_init 12 = .ok (.aload_n 0, 1) := by decide +kernel
theorem dX6_init_13 : decode cX6_init 13 = .ok (.bipush 9, 2) := by decide +kernel
theorem dX6_init_15 : decode cX6_init 15 = .ok (.newarray .int, 2) := by decide +kernel
theorem dX6_init_17 : decode cX6_init 17 = .ok (.putfield 15, 3) := by decide +kernel
theorem dX6_init_20 : decode cX6_init 20 = .ok (.aload_n 0, 1) := by decide +kernel
theorem dX6_init_21 : decode cX6_init 21 = .ok (.bipush 36, 2) := by decide +kernel
theorem dX6_init_23 : decode cX6_init 23 = .ok (.newarray .int, 2) := by decide +kernel
theorem dX6_init_25 : decode cX6_init 25 = .ok (.putfield 18, 3) := by decide +kernel
theorem dX6_init_28 : decode cX6_init 28 = .ok (.aload_n 0, 1) := by decide +kernel
theorem dX6_init_29 : decode cX6_init 29 = .ok (.bipush 36, 2) := by decide +kernel
theorem dX6_init_31 : decode cX6_init 31 = .ok (.newarray .int, 2) := by decide +kernel
theorem dX6_init_33 : decode cX6_init 33 = .ok (.putfield 21, 3) := by decide +kernel
theorem dX6_init_36 : decode cX6_init 36 = .ok (.aload_n 0, 1) := by decide +kernel
theorem dX6_init_37 : decode cX6_init 37 = .ok (.bipush 36, 2) := by decide +kernel
theorem dX6_init_39 : decode cX6_init 39 = .ok (.newarray .boolean, 2) := by decide +kernel
theorem dX6_init_41 : decode cX6_init 41 = .ok (.putfield 24, 3) := by decide +kernel
theorem dX6_init_44 : decode cX6_init 44 = .ok (.aload_n 0, 1) := by decide +kernel
theorem dX6_init_45 : decode cX6_init 45 = .ok (.bipush 9, 2) := by decide +kernel
theorem dX6_init_47 : decode cX6_init 47 = .ok (.newarray .int, 2) := by decide +kernel
theorem dX6_init_49 : decode cX6_init 49 = .ok (.putfield 28, 3) := by decide +kernel
theorem dX6_init_52 : decode cX6_init 52 = .ok (.aload_n 0, 1) := by decide +kernel
theorem dX6_init_53 : decode cX6_init 53 = .ok (.bipush 9, 2) := by decide +kernel
theorem dX6_init_55 : decode cX6_init 55 = .ok (.newarray .int, 2) := by decide +kernel
theorem dX6_init_57 : decode cX6_init 57 = .ok (.putfield 31, 3) := by decide +kernel
theorem dX6_init_60 : decode cX6_init 60 = .ok (.aload_n 0, 1) := by decide +kernel
theorem dX6_init_61 : decode cX6_init 61 = .ok (.bipush 9, 2) := by decide +kernel
theorem dX6_init_63 : decode cX6_init 63 = .ok (.newarray .long, 2) := by decide +kernel
theorem dX6_init_65 : decode cX6_init 65 = .ok (.putfield 34, 3) := by decide +kernel
theorem dX6_init_68 : decode cX6_init 68 = .ok (.return_, 1) := by decide +kernel
set_option maxRecDepth 20000 in
theorem ggX6_trace_X6_layRings : GoodIn wsX6_trace wsX6_layRings := goodIn_r _ [5, 6, 7, 8, 9, 10, 11, 12, 13, 14, 15, 4, 16, 17, 18, 19, 20, 21, 46, 47, 48, 49, 50, 51, 52, 53, 54, 55, 56, 57, 58, 59, 60, 61] (by decide +kernel) (by decide +kernel)
set_option maxRecDepth 20000 in
theorem gX6_trace_X6_layRings : GoodIn wsX6_trace (wsV RX6 38 RX6 yX6_layRings wsX6_layRings) := goodIn_app (goodIn_of _ (by decide +kernel)) ggX6_trace_X6_layRings
set_option maxRecDepth 20000 in
theorem ggX6_trace_X6_writeLetters : GoodIn wsX6_trace wsX6_writeLetters := goodIn_r _ [25, 26, 7, 17, 6, 27, 28, 29, 4, 30, 31, 32, 33, 34, 35, 36, 37, 38, 39, 18, 8, 19, 20, 21, 46, 47, 48, 49, 50, 51, 52, 53, 54, 55, 56, 57, 58, 59, 60, 61] (by decide +kernel) (by decide +kernel)
set_option maxRecDepth 20000 in
theorem gX6_trace_X6_writeLetters : GoodIn wsX6_trace (wsV RX6 42 RX6 yX6_writeLetters wsX6_writeLetters) := goodIn_app (goodIn_of _ (by decide +kernel)) ggX6_trace_X6_writeLetters
set_option maxRecDepth 20000 in
theorem ggX6_trace_X6_countWays : GoodIn wsX6_trace wsX6_countWays := goodIn_r _ [43, 44, 45, 26, 34, 32, 33, 9, 10, 11, 12, 46, 47, 48, 49, 50, 51, 52, 53, 54, 55] (by decide +kernel) (by decide +kernel)
set_option maxRecDepth 20000 in
theorem gX6_trace_X6_countWays : GoodIn wsX6_trace (wsV RX6 45 RX6 yX6_countWays wsX6_countWays) := goodIn_app (goodIn_of _ (by decide +kernel)) ggX6_trace_X6_countWays
theorem dX6_trace_0 : decode cX6_trace 0 = .ok (.aload_n 0, 1) := by decide +kernel
theorem dX6_trace_1 : decode cX6_trace 1 = .ok (.aload_n 1, 1) := by decide +kernel
theorem dX6_trace_2 : decode cX6_trace 2 = .ok (.invokevirtual 38, 3) := by decide +kernel
theorem dX6_trace_5 : decode cX6_trace 5 = .ok (.aload_n 0, 1) := by decide +kernel
theorem dX6_trace_6 : decode cX6_trace 6 = .ok (.aload_n 1, 1) := by decide +kernel
theorem dX6_trace_7 : decode cX6_trace 7 = .ok (.invokevirtual 42, 3) := by decide +kernel
theorem dX6_trace_10 : decode cX6_trace 10 = .ok (.aload_n 0, 1) := by decide +kernel
theorem dX6_trace_11 : decode cX6_trace 11 = .ok (.invokevirtual 45, 3) := by decide +kernel
theorem dX6_trace_14 : decode cX6_trace 14 = .ok (.return_, 1) := by decide +kernel
set_option maxRecDepth 20000 in
theorem ggX6_layRings_J7_fill_53178 : GoodIn wsX6_layRings wsJ7_fill_53178 := goodIn_r _ [7] (by decide +kernel) (by decide +kernel)
set_option maxRecDepth 20000 in
theorem gX6_layRings_J7_fill_53178 : GoodIn wsX6_layRings (va_wsS RX6 48 yJ7_fill_53178 wsJ7_fill_53178) := goodIn_app (goodIn_of _ (by decide +kernel)) ggX6_layRings_J7_fill_53178
set_option maxRecDepth 20000 in
theorem ggX6_layRings_X6_settle : GoodIn wsX6_layRings wsX6_settle := goodIn_r _ [12, 13, 1, 14, 15, 16, 17, 28, 29, 30, 31, 32, 33, 18, 19, 20, 21, 22, 23, 24, 25, 26, 27] (by decide +kernel) (by decide +kernel)
set_option maxRecDepth 20000 in
theorem gX6_layRings_X6_settle : GoodIn wsX6_layRings (wsV RX6 58 RX6 yX6_settle wsX6_settle) := goodIn_app (goodIn_of _ (by decide +kernel)) ggX6_layRings_X6_settle
theorem dX6_layRings_0 : decode cX6_layRings 0 = .ok (.aload_n 0, 1) := by decide +kernel
theorem dX6_layRings_1 : decode cX6_layRings 1 = .ok (.getfield 9, 3) := by decide +kernel
theorem dX6_layRings_4 : decode cX6_layRings 4 = .ok (.iconst (-1), 1) := by decide +kernel
theorem dX6_layRings_5 : decode cX6_layRings 5 = .ok (.invokestatic 48, 3) := by decide +kernel
theorem dX6_layRings_8 : decode cX6_layRings 8 = .ok (.aload_n 0, 1) := by decide +kernel
theorem dX6_layRings_9 : decode cX6_layRings 9 = .ok (.iconst 0, 1) := by decide +kernel
theorem dX6_layRings_10 : decode cX6_layRings 10 = .ok (.putfield 54, 3) := by decide +kernel
theorem dX6_layRings_13 : decode cX6_layRings 13 = .ok (.iconst 1, 1) := by decide +kernel
theorem dX6_layRings_14 : decode cX6_layRings 14 = .ok (.istore_n 2, 1) := by decide +kernel
theorem dX6_layRings_15 : decode cX6_layRings 15 = .ok (.iconst 1, 1) := by decide +kernel
theorem dX6_layRings_16 : decode cX6_layRings 16 = .ok (.istore_n 3, 1) := by decide +kernel
theorem dX6_layRings_17 : decode cX6_layRings 17 = .ok (.iconst 0, 1) := by decide +kernel
theorem dX6_layRings_18 : decode cX6_layRings 18 = .ok (.istore 4, 2) := by decide +kernel
theorem dX6_layRings_20 : decode cX6_layRings 20 = .ok (.iload 4, 2) := by decide +kernel
theorem dX6_layRings_22 : decode cX6_layRings 22 = .ok (.bipush 9, 2) := by decide +kernel
theorem dX6_layRings_24 : decode cX6_layRings 24 = .ok (.if_icmp .ge 44, 3) := by decide +kernel
theorem dX6_layRings_27 : decode cX6_layRings 27 = .ok (.aload_n 0, 1) := by decide +kernel
theorem dX6_layRings_28 : decode cX6_layRings 28 = .ok (.getfield 15, 3) := by decide +kernel
theorem dX6_layRings_31 : decode cX6_layRings 31 = .ok (.iload 4, 2) := by decide +kernel
theorem dX6_layRings_33 : decode cX6_layRings 33 = .ok (.iload_n 3, 1) := by decide +kernel
theorem dX6_layRings_34 : decode cX6_layRings 34 = .ok (.iastore, 1) := by decide +kernel
theorem dX6_layRings_35 : decode cX6_layRings 35 = .ok (.iload_n 3, 1) := by decide +kernel
theorem dX6_layRings_36 : decode cX6_layRings 36 = .ok (.ifCond .eq 9, 3) := by decide +kernel
theorem dX6_layRings_39 : decode cX6_layRings 39 = .ok (.aload_n 0, 1) := by decide +kernel
theorem dX6_layRings_40 : decode cX6_layRings 40 = .ok (.iload 4, 2) := by decide +kernel
theorem dX6_layRings_42 : decode cX6_layRings 42 = .ok (.putfield 54, 3) := by decide +kernel
theorem dX6_layRings_45 : decode cX6_layRings 45 = .ok (.aload_n 0, 1) := by decide +kernel
theorem dX6_layRings_46 : decode cX6_layRings 46 = .ok (.aload_n 1, 1) := by decide +kernel
theorem dX6_layRings_47 : decode cX6_layRings 47 = .ok (.iload_n 3, 1) := by decide +kernel
theorem dX6_layRings_48 : decode cX6_layRings 48 = .ok (.iload 4, 2) := by decide +kernel
theorem dX6_layRings_50 : decode cX6_layRings 50 = .ok (.invokevirtual 58, 3) := by decide +kernel
theorem dX6_layRings_53 : decode cX6_layRings 53 = .ok (.iload_n 2, 1) := by decide +kernel
theorem dX6_layRings_54 : decode cX6_layRings 54 = .ok (.iconst (-1), 1) := by decide +kernel
theorem dX6_layRings_55 : decode cX6_layRings 55 = .ok (.ixor, 1) := by decide +kernel
theorem dX6_layRings_56 : decode cX6_layRings 56 = .ok (.iand, 1) := by decide +kernel
theorem dX6_layRings_57 : decode cX6_layRings 57 = .ok (.istore_n 3, 1) := by decide +kernel
theorem dX6_layRings_58 : decode cX6_layRings 58 = .ok (.iload_n 2, 1) := by decide +kernel
theorem dX6_layRings_59 : decode cX6_layRings 59 = .ok (.iload_n 3, 1) := by decide +kernel
theorem dX6_layRings_60 : decode cX6_layRings 60 = .ok (.ior, 1) := by decide +kernel
theorem dX6_layRings_61 : decode cX6_layRings 61 = .ok (.istore_n 2, 1) := by decide +kernel
theorem dX6_layRings_62 : decode cX6_layRings 62 = .ok (.iinc 4 1, 3) := by decide +kernel
theorem dX6_layRings_65 : decode cX6_layRings 65 = .ok (.goto (-45), 3) := by decide +kernel
theorem dX6_layRings_68 : decode cX6_layRings 68 = .ok (.return_, 1) := by decide +kernel
set_option maxRecDepth 20000 in
theorem ggX6_settle_X7_isIn : GoodIn wsX6_settle wsX7_isIn := goodIn_r _ [6] (by decide +kernel) (by decide +kernel)
set_option maxRecDepth 20000 in
theorem gX6_settle_X7_isIn_n67 : GoodIn wsX6_settle (wsX7_isIn) := ggX6_settle_X7_isIn
theorem dX6_settle_0 : decode cX6_settle 0 = .ok (.iconst 0, 1) := by decide +kernel
theorem dX6_settle_1 : decode cX6_settle 1 = .ok (.istore 4, 2) := by decide +kernel
theorem dX6_settle_3 : decode cX6_settle 3 = .ok (.iconst 0, 1) := by decide +kernel
theorem dX6_settle_4 : decode cX6_settle 4 = .ok (.istore 5, 2) := by decide +kernel
theorem dX6_settle_6 : decode cX6_settle 6 = .ok (.iload 5, 2) := by decide +kernel
theorem dX6_settle_8 : decode cX6_settle 8 = .ok (.aload_n 1, 1) := by decide +kernel
theorem dX6_settle_9 : decode cX6_settle 9 = .ok (.getfield 62, 3) := by decide +kernel
theorem dX6_settle_12 : decode cX6_settle 12 = .ok (.if_icmp .ge 38, 3) := by decide +kernel
theorem dX6_settle_15 : decode cX6_settle 15 = .ok (.iload_n 2, 1) := by decide +kernel
theorem dX6_settle_16 : decode cX6_settle 16 = .ok (.iload 5, 2) := by decide +kernel
theorem dX6_settle_18 : decode cX6_settle 18 = .ok (.invokestatic 67, 3) := by decide +kernel
theorem dX6_settle_21 : decode cX6_settle 21 = .ok (.ifCond .eq 23, 3) := by decide +kernel
theorem dX6_settle_24 : decode cX6_settle 24 = .ok (.aload_n 0, 1) := by decide +kernel
theorem dX6_settle_25 : decode cX6_settle 25 = .ok (.getfield 9, 3) := by decide +kernel
theorem dX6_settle_28 : decode cX6_settle 28 = .ok (.iload 5, 2) := by decide +kernel
theorem dX6_settle_30 : decode cX6_settle 30 = .ok (.iload_n 3, 1) := by decide +kernel
theorem dX6_settle_31 : decode cX6_settle 31 = .ok (.iastore, 1) := by decide +kernel
theorem dX6_settle_32 : decode cX6_settle 32 = .ok (.iload 4, 2) := by decide +kernel
theorem dX6_settle_34 : decode cX6_settle 34 = .ok (.aload_n 1, 1) := by decide +kernel
theorem dX6_settle_35 : decode cX6_settle 35 = .ok (.getfield 71, 3) := by decide +kernel
theorem dX6_settle_38 : decode cX6_settle 38 = .ok (.iload 5, 2) := by decide +kernel
theorem dX6_settle_40 : decode cX6_settle 40 = .ok (.iaload, 1) := by decide +kernel
theorem dX6_settle_41 : decode cX6_settle 41 = .ok (.ior, 1) := by decide +kernel
theorem dX6_settle_42 : decode cX6_settle 42 = .ok (.istore 4, 2) := by decide +kernel
theorem dX6_settle_44 : decode cX6_settle 44 = .ok (.iinc 5 1, 3) := by decide +kernel
theorem dX6_settle_47 : decode cX6_settle 47 = .ok (.goto (-41), 3) := by decide +kernel
theorem dX6_settle_50 : decode cX6_settle 50 = .ok (.iload 4, 2) := by decide +kernel
theorem dX6_settle_52 : decode cX6_settle 52 = .ok (.ireturn, 1) := by decide +kernel
theorem dX6_uppers_0 : decode cX6_uppers 0 = .ok (.aload_n 0, 1) := by decide +kernel
theorem dX6_uppers_1 : decode cX6_uppers 1 = .ok (.getfield 9, 3) := by decide +kernel
theorem dX6_uppers_4 : decode cX6_uppers 4 = .ok (.iload_n 2, 1) := by decide +kernel
theorem dX6_uppers_5 : decode cX6_uppers 5 = .ok (.iaload, 1) := by decide +kernel
theorem dX6_uppers_6 : decode cX6_uppers 6 = .ok (.iconst 1, 1) := by decide +kernel
theorem dX6_uppers_7 : decode cX6_uppers 7 = .ok (.if_icmp .ge 7, 3) := by decide +kernel
theorem dX6_uppers_10 : decode cX6_uppers 10 = .ok (.iconst 0, 1) := by decide +kernel
theorem dX6_uppers_11 : decode cX6_uppers 11 = .ok (.goto 23, 3) := by decide +kernel
theorem dX6_uppers_14 : decode cX6_uppers 14 = .ok (.aload_n 1, 1) := by decide +kernel
theorem dX6_uppers_15 : decode cX6_uppers 15 = .ok (.getfield 71, 3) := by decide +kernel
theorem dX6_uppers_18 : decode cX6_uppers 18 = .ok (.iload_n 2, 1) := by decide +kernel
theorem dX6_uppers_19 : decode cX6_uppers 19 = .ok (.iaload, 1) := by decide +kernel
theorem dX6_uppers_20 : decode cX6_uppers 20 = .ok (.aload_n 0, 1) := by decide +kernel
theorem dX6_uppers_21 : decode cX6_uppers 21 = .ok (.getfield 15, 3) := by decide +kernel
theorem dX6_uppers_24 : decode cX6_uppers 24 = .ok (.aload_n 0, 1) := by decide +kernel
theorem dX6_uppers_25 : decode cX6_uppers 25 = .ok (.getfield 9, 3) := by decide +kernel
theorem dX6_uppers_28 : decode cX6_uppers 28 = .ok (.iload_n 2, 1) := by decide +kernel
theorem dX6_uppers_29 : decode cX6_uppers 29 = .ok (.iaload, 1) := by decide +kernel
theorem dX6_uppers_30 : decode cX6_uppers 30 = .ok (.iconst 1, 1) := by decide +kernel
theorem dX6_uppers_31 : decode cX6_uppers 31 = .ok (.isub, 1) := by decide +kernel
theorem dX6_uppers_32 : decode cX6_uppers 32 = .ok (.iaload, 1) := by decide +kernel
theorem dX6_uppers_33 : decode cX6_uppers 33 = .ok (.iand, 1) := by decide +kernel
theorem dX6_uppers_34 : decode cX6_uppers 34 = .ok (.ireturn, 1) := by decide +kernel
set_option maxRecDepth 20000 in
theorem ggX6_writeLetters_X6_writeFrom : GoodIn wsX6_writeLetters wsX6_writeFrom := goodIn_r _ [9, 10, 3, 1, 11, 12, 13, 14, 15, 16, 17, 8, 18, 4, 19, 20, 21, 22, 23, 34, 35, 36, 37, 38, 39, 24, 25, 26, 27, 28, 29, 30, 31, 32, 33] (by decide +kernel) (by decide +kernel)
set_option maxRecDepth 20000 in
theorem gX6_writeLetters_X6_writeFrom : GoodIn wsX6_writeLetters (wsV RX6 77 RX6 yX6_writeFrom wsX6_writeFrom) := goodIn_app (goodIn_of _ (by decide +kernel)) ggX6_writeLetters_X6_writeFrom
theorem dX6_writeLetters_0 : decode cX6_writeLetters 0 = .ok (.aload_n 0, 1) := by decide +kernel
theorem dX6_writeLetters_1 : decode cX6_writeLetters 1 = .ok (.iconst 0, 1) := by decide +kernel
theorem dX6_writeLetters_2 : decode cX6_writeLetters 2 = .ok (.putfield 74, 3) := by decide +kernel
theorem dX6_writeLetters_5 : decode cX6_writeLetters 5 = .ok (.aload_n 0, 1) := by decide +kernel
theorem dX6_writeLetters_6 : decode cX6_writeLetters 6 = .ok (.getfield 54, 3) := by decide +kernel
theorem dX6_writeLetters_9 : decode cX6_writeLetters 9 = .ok (.istore_n 2, 1) := by decide +kernel
theorem dX6_writeLetters_10 : decode cX6_writeLetters 10 = .ok (.iload_n 2, 1) := by decide +kernel
theorem dX6_writeLetters_11 : decode cX6_writeLetters 11 = .ok (.iconst 1, 1) := by decide +kernel
theorem dX6_writeLetters_12 : decode cX6_writeLetters 12 = .ok (.if_icmp .lt 41, 3) := by decide +kernel
theorem dX6_writeLetters_15 : decode cX6_writeLetters 15 = .ok (.iconst 0, 1) := by decide +kernel
theorem dX6_writeLetters_16 : decode cX6_writeLetters 16 = .ok (.istore_n 3, 1) := by decide +kernel
theorem dX6_writeLetters_17 : decode cX6_writeLetters 17 = .ok (.iload_n 3, 1) := by decide +kernel
theorem dX6_writeLetters_18 : decode cX6_writeLetters 18 = .ok (.aload_n 1, 1) := by decide +kernel
theorem dX6_writeLetters_19 : decode cX6_writeLetters 19 = .ok (.getfield 62, 3) := by decide +kernel
theorem dX6_writeLetters_22 : decode cX6_writeLetters 22 = .ok (.if_icmp .ge 25, 3) := by decide +kernel
theorem dX6_writeLetters_25 : decode cX6_writeLetters 25 = .ok (.aload_n 0, 1) := by decide +kernel
theorem dX6_writeLetters_26 : decode cX6_writeLetters 26 = .ok (.getfield 9, 3) := by decide +kernel
theorem dX6_writeLetters_29 : decode cX6_writeLetters 29 = .ok (.iload_n 3, 1) := by decide +kernel
theorem dX6_writeLetters_30 : decode cX6_writeLetters 30 = .ok (.iaload, 1) := by decide +kernel
theorem dX6_writeLetters_31 : decode cX6_writeLetters 31 = .ok (.iload_n 2, 1) := by decide +kernel
theorem dX6_writeLetters_32 : decode cX6_writeLetters 32 = .ok (.if_icmp .ne 9, 3) := by decide +kernel
theorem dX6_writeLetters_35 : decode cX6_writeLetters 35 = .ok (.aload_n 0, 1) := by decide +kernel
theorem dX6_writeLetters_36 : decode cX6_writeLetters 36 = .ok (.aload_n 1, 1) := by decide +kernel
theorem dX6_writeLetters_37 : decode cX6_writeLetters 37 = .ok (.iload_n 3, 1) := by decide +kernel
theorem dX6_writeLetters_38 : decode cX6_writeLetters 38 = .ok (.invokevirtual 77, 3) := by decide +kernel
theorem dX6_writeLetters_41 : decode cX6_writeLetters 41 = .ok (.iinc 3 1, 3) := by decide +kernel
theorem dX6_writeLetters_44 : decode cX6_writeLetters 44 = .ok (.goto (-27), 3) := by decide +kernel
theorem dX6_writeLetters_47 : decode cX6_writeLetters 47 = .ok (.iinc 2 (-1), 3) := by decide +kernel
theorem dX6_writeLetters_50 : decode cX6_writeLetters 50 = .ok (.goto (-40), 3) := by decide +kernel
theorem dX6_writeLetters_53 : decode cX6_writeLetters 53 = .ok (.return_, 1) := by decide +kernel
set_option maxRecDepth 20000 in
theorem ggX6_writeFrom_X6_uppers : GoodIn wsX6_writeFrom wsX6_uppers := goodIn_r _ [12, 13, 14, 15, 25, 26, 27, 28, 29, 30, 31, 32, 33, 34, 19, 20, 21, 22, 23, 24] (by decide +kernel) (by decide +kernel)
set_option maxRecDepth 20000 in
theorem gX6_writeFrom_X6_uppers : GoodIn wsX6_writeFrom (wsV RX6 81 RX6 yX6_uppers wsX6_uppers) := goodIn_app (goodIn_of _ (by decide +kernel)) ggX6_writeFrom_X6_uppers
set_option maxRecDepth 20000 in
theorem ggX6_writeFrom_X7_isIn : GoodIn wsX6_writeFrom wsX7_isIn := goodIn_r _ [18] (by decide +kernel) (by decide +kernel)
set_option maxRecDepth 20000 in
theorem gX6_writeFrom_X7_isIn_n67 : GoodIn wsX6_writeFrom (wsX7_isIn) := ggX6_writeFrom_X7_isIn
theorem dX6_writeFrom_0 : decode cX6_writeFrom 0 = .ok (.aload_n 0, 1) := by decide +kernel
theorem dX6_writeFrom_1 : decode cX6_writeFrom 1 = .ok (.aload_n 1, 1) := by decide +kernel
theorem dX6_writeFrom_2 : decode cX6_writeFrom 2 = .ok (.iload_n 2, 1) := by decide +kernel
theorem dX6_writeFrom_3 : decode cX6_writeFrom 3 = .ok (.invokevirtual 81, 3) := by decide +kernel
theorem dX6_writeFrom_6 : decode cX6_writeFrom 6 = .ok (.istore_n 3, 1) := by decide +kernel
theorem dX6_writeFrom_7 : decode cX6_writeFrom 7 = .ok (.aload_n 1, 1) := by decide +kernel
theorem dX6_writeFrom_8 : decode cX6_writeFrom 8 = .ok (.getfield 85, 3) := by decide +kernel
theorem dX6_writeFrom_11 : decode cX6_writeFrom 11 = .ok (.iconst 1, 1) := by decide +kernel
theorem dX6_writeFrom_12 : decode cX6_writeFrom 12 = .ok (.if_icmp .ne 8, 3) := by decide +kernel
theorem dX6_writeFrom_15 : decode cX6_writeFrom 15 = .ok (.iload_n 3, 1) := by decide +kernel
theorem dX6_writeFrom_16 : decode cX6_writeFrom 16 = .ok (.iload_n 3, 1) := by decide +kernel
theorem dX6_writeFrom_17 : decode cX6_writeFrom 17 = .ok (.ineg, 1) := by decide +kernel
theorem dX6_writeFrom_18 : decode cX6_writeFrom 18 = .ok (.iand, 1) := by decide +kernel
theorem dX6_writeFrom_19 : decode cX6_writeFrom 19 = .ok (.istore_n 3, 1) := by decide +kernel
theorem dX6_writeFrom_20 : decode cX6_writeFrom 20 = .ok (.iconst 0, 1) := by decide +kernel
theorem dX6_writeFrom_21 : decode cX6_writeFrom 21 = .ok (.istore 4, 2) := by decide +kernel
theorem dX6_writeFrom_23 : decode cX6_writeFrom 23 = .ok (.iload 4, 2) := by decide +kernel
theorem dX6_writeFrom_25 : decode cX6_writeFrom 25 = .ok (.aload_n 1, 1) := by decide +kernel
theorem dX6_writeFrom_26 : decode cX6_writeFrom 26 = .ok (.getfield 62, 3) := by decide +kernel
theorem dX6_writeFrom_29 : decode cX6_writeFrom 29 = .ok (.if_icmp .ge 86, 3) := by decide +kernel
theorem dX6_writeFrom_32 : decode cX6_writeFrom 32 = .ok (.aload_n 0, 1) := by decide +kernel
theorem dX6_writeFrom_33 : decode cX6_writeFrom 33 = .ok (.getfield 74, 3) := by decide +kernel
theorem dX6_writeFrom_36 : decode cX6_writeFrom 36 = .ok (.bipush 36, 2) := by decide +kernel
theorem dX6_writeFrom_38 : decode cX6_writeFrom 38 = .ok (.if_icmp .ge 77, 3) := by decide +kernel
theorem dX6_writeFrom_41 : decode cX6_writeFrom 41 = .ok (.iload_n 3, 1) := by decide +kernel
theorem dX6_writeFrom_42 : decode cX6_writeFrom 42 = .ok (.iload 4, 2) := by decide +kernel
theorem dX6_writeFrom_44 : decode cX6_writeFrom 44 = .ok (.invokestatic 67, 3) := by decide +kernel
theorem dX6_writeFrom_47 : decode cX6_writeFrom 47 = .ok (.ifCond .eq 62, 3) := by decide +kernel
theorem dX6_writeFrom_50 : decode cX6_writeFrom 50 = .ok (.aload_n 0, 1) := by decide +kernel
theorem dX6_writeFrom_51 : decode cX6_writeFrom 51 = .ok (.getfield 18, 3) := by decide +kernel
theorem dX6_writeFrom_54 : decode cX6_writeFrom 54 = .ok (.aload_n 0, 1) := by decide +kernel
theorem dX6_writeFrom_55 : decode cX6_writeFrom 55 = .ok (.getfield 74, 3) := by decide +kernel
theorem dX6_writeFrom_58 : decode cX6_writeFrom 58 = .ok (.iload_n 2, 1) := by decide +kernel
theorem dX6_writeFrom_59 : decode cX6_writeFrom 59 = .ok (.iastore, 1) := by decide +kernel
theorem dX6_writeFrom_60 : decode cX6_writeFrom 60 = .ok (.aload_n 0, 1) := by decide +kernel
theorem dX6_writeFrom_61 : decode cX6_writeFrom 61 = .ok (.getfield 21, 3) := by decide +kernel
theorem dX6_writeFrom_64 : decode cX6_writeFrom 64 = .ok (.aload_n 0, 1) := by decide +kernel
theorem dX6_writeFrom_65 : decode cX6_writeFrom 65 = .ok (.getfield 74, 3) := by decide +kernel
theorem dX6_writeFrom_68 : decode cX6_writeFrom 68 = .ok (.iload 4, 2) := by decide +kernel
theorem dX6_writeFrom_70 : decode cX6_writeFrom 70 = .ok (.iastore, 1) := by decide +kernel
theorem dX6_writeFrom_71 : decode cX6_writeFrom 71 = .ok (.aload_n 0, 1) := by decide +kernel
theorem dX6_writeFrom_72 : decode cX6_writeFrom 72 = .ok (.getfield 24, 3) := by decide +kernel
theorem dX6_writeFrom_75 : decode cX6_writeFrom 75 = .ok (.aload_n 0, 1) := by decide +kernel
theorem dX6_writeFrom_76 : decode cX6_writeFrom 76 = .ok (.getfield 74, 3) := by decide +kernel
theorem dX6_writeFrom_79 : decode cX6_writeFrom 79 = .ok (.aload_n 1, 1) := by decide +kernel
theorem dX6_writeFrom_80 : decode cX6_writeFrom 80 = .ok (.getfield 88, 3) := by decide +kernel
theorem dX6_writeFrom_83 : decode cX6_writeFrom 83 = .ok (.iload_n 2, 1) := by decide +kernel
theorem dX6_writeFrom_84 : decode cX6_writeFrom 84 = .ok (.iaload, 1) := by decide +kernel
theorem dX6_writeFrom_85 : decode cX6_writeFrom 85 = .ok (.iload 4, 2) := by decide +kernel
theorem dX6_writeFrom_87 : decode cX6_writeFrom 87 = .ok (.invokestatic 67, 3) := by decide +kernel
theorem dX6_writeFrom_90 : decode cX6_writeFrom 90 = .ok (.ifCond .ne 7, 3) := by decide +kernel
theorem dX6_writeFrom_93 : decode cX6_writeFrom 93 = .ok (.iconst 1, 1) := by decide +kernel
theorem dX6_writeFrom_94 : decode cX6_writeFrom 94 = .ok (.goto 4, 3) := by decide +kernel
theorem dX6_writeFrom_97 : decode cX6_writeFrom 97 = .ok (.iconst 0, 1) := by decide +kernel
theorem dX6_writeFrom_98 : decode cX6_writeFrom 98 = .ok (.bastore, 1) := by decide +kernel
theorem dX6_writeFrom_99 : decode cX6_writeFrom 99 = .ok (.aload_n 0, 1) := by decide +kernel
theorem dX6_writeFrom_100 : decode cX6_writeFrom 100 = .ok (.dup, 1) := by decide +kernel
theorem dX6_writeFrom_101 : decode cX6_writeFrom 101 = .ok (.getfield 74, 3) := by decide +kernel
theorem dX6_writeFrom_104 : decode cX6_writeFrom 104 = .ok (.iconst 1, 1) := by decide +kernel
theorem dX6_writeFrom_105 : decode cX6_writeFrom 105 = .ok (.iadd, 1) := by decide +kernel
theorem dX6_writeFrom_106 : decode cX6_writeFrom 106 = .ok (.putfield 74, 3) := by decide +kernel
theorem dX6_writeFrom_109 : decode cX6_writeFrom 109 = .ok (.iinc 4 1, 3) := by decide +kernel
theorem dX6_writeFrom_112 : decode cX6_writeFrom 112 = .ok (.goto (-89), 3) := by decide +kernel
theorem dX6_writeFrom_115 : decode cX6_writeFrom 115 = .ok (.return_, 1) := by decide +kernel
set_option maxRecDepth 20000 in
theorem ggX6_countWays_J7_fill_53178 : GoodIn wsX6_countWays wsJ7_fill_53178 := goodIn_r _ [10] (by decide +kernel) (by decide +kernel)
set_option maxRecDepth 20000 in
theorem gX6_countWays_J7_fill_53178 : GoodIn wsX6_countWays (va_wsS RX6 48 yJ7_fill_53178 wsJ7_fill_53178) := goodIn_app (goodIn_of _ (by decide +kernel)) ggX6_countWays_J7_fill_53178
theorem dX6_countWays_0 : decode cX6_countWays 0 = .ok (.aload_n 0, 1) := by decide +kernel
theorem dX6_countWays_1 : decode cX6_countWays 1 = .ok (.getfield 28, 3) := by decide +kernel
theorem dX6_countWays_4 : decode cX6_countWays 4 = .ok (.iconst 0, 1) := by decide +kernel
theorem dX6_countWays_5 : decode cX6_countWays 5 = .ok (.invokestatic 48, 3) := by decide +kernel
theorem dX6_countWays_8 : decode cX6_countWays 8 = .ok (.aload_n 0, 1) := by decide +kernel
theorem dX6_countWays_9 : decode cX6_countWays 9 = .ok (.getfield 31, 3) := by decide +kernel
theorem dX6_countWays_12 : decode cX6_countWays 12 = .ok (.iconst 0, 1) := by decide +kernel
theorem dX6_countWays_13 : decode cX6_countWays 13 = .ok (.invokestatic 48, 3) := by decide +kernel
theorem dX6_countWays_16 : decode cX6_countWays 16 = .ok (.aload_n 0, 1) := by decide +kernel
theorem dX6_countWays_17 : decode cX6_countWays 17 = .ok (.getfield 28, 3) := by decide +kernel
theorem dX6_countWays_20 : decode cX6_countWays 20 = .ok (.iconst 0, 1) := by decide +kernel
theorem dX6_countWays_21 : decode cX6_countWays 21 = .ok (.iconst 1, 1) := by decide +kernel
theorem dX6_countWays_22 : decode cX6_countWays 22 = .ok (.iastore, 1) := by decide +kernel
theorem dX6_countWays_23 : decode cX6_countWays 23 = .ok (.aload_n 0, 1) := by decide +kernel
theorem dX6_countWays_24 : decode cX6_countWays 24 = .ok (.getfield 74, 3) := by decide +kernel
theorem dX6_countWays_27 : decode cX6_countWays 27 = .ok (.iconst 1, 1) := by decide +kernel
theorem dX6_countWays_28 : decode cX6_countWays 28 = .ok (.isub, 1) := by decide +kernel
theorem dX6_countWays_29 : decode cX6_countWays 29 = .ok (.istore_n 1, 1) := by decide +kernel
theorem dX6_countWays_30 : decode cX6_countWays 30 = .ok (.iload_n 1, 1) := by decide +kernel
theorem dX6_countWays_31 : decode cX6_countWays 31 = .ok (.ifCond .lt 58, 3) := by decide +kernel
theorem dX6_countWays_34 : decode cX6_countWays 34 = .ok (.aload_n 0, 1) := by decide +kernel
theorem dX6_countWays_35 : decode cX6_countWays 35 = .ok (.getfield 24, 3) := by decide +kernel
theorem dX6_countWays_38 : decode cX6_countWays 38 = .ok (.iload_n 1, 1) := by decide +kernel
theorem dX6_countWays_39 : decode cX6_countWays 39 = .ok (.baload, 1) := by decide +kernel
theorem dX6_countWays_40 : decode cX6_countWays 40 = .ok (.ifCond .eq 43, 3) := by decide +kernel
theorem dX6_countWays_43 : decode cX6_countWays 43 = .ok (.aload_n 0, 1) := by decide +kernel
theorem dX6_countWays_44 : decode cX6_countWays 44 = .ok (.getfield 28, 3) := by decide +kernel
theorem dX6_countWays_47 : decode cX6_countWays 47 = .ok (.aload_n 0, 1) := by decide +kernel
theorem dX6_countWays_48 : decode cX6_countWays 48 = .ok (.getfield 18, 3) := by decide +kernel
theorem dX6_countWays_51 : decode cX6_countWays 51 = .ok (.iload_n 1, 1) := by decide +kernel
theorem dX6_countWays_52 : decode cX6_countWays 52 = .ok (.iaload, 1) := by decide +kernel
theorem dX6_countWays_53 : decode cX6_countWays 53 = .ok (.dup2, 1) := by decide +kernel
theorem dX6_countWays_54 : decode cX6_countWays 54 = .ok (.iaload, 1) := by decide +kernel
