theorem dX8_findFar_14 : decode cX8_findFar 14 = .ok (.iload_n 2, 1) := by decide +kernel
theorem dX8_findFar_15 : decode cX8_findFar 15 = .ok (.iload_n 2, 1) := by decide +kernel
theorem dX8_findFar_16 : decode cX8_findFar 16 = .ok (.iload_n 1, 1) := by decide +kernel
theorem dX8_findFar_17 : decode cX8_findFar 17 = .ok (.if_icmp .ne 7, 3) := by decide +kernel
theorem dX8_findFar_20 : decode cX8_findFar 20 = .ok (.iconst 0, 1) := by decide +kernel
theorem dX8_findFar_21 : decode cX8_findFar 21 = .ok (.goto 4, 3) := by decide +kernel
theorem dX8_findFar_24 : decode cX8_findFar 24 = .ok (.iconst (-1), 1) := by decide +kernel
theorem dX8_findFar_25 : decode cX8_findFar 25 = .ok (.iastore, 1) := by decide +kernel
theorem dX8_findFar_26 : decode cX8_findFar 26 = .ok (.iinc 2 1, 3) := by decide +kernel
theorem dX8_findFar_29 : decode cX8_findFar 29 = .ok (.goto (-27), 3) := by decide +kernel
theorem dX8_findFar_32 : decode cX8_findFar 32 = .ok (.iconst 0, 1) := by decide +kernel
theorem dX8_findFar_33 : decode cX8_findFar 33 = .ok (.istore_n 2, 1) := by decide +kernel
theorem dX8_findFar_34 : decode cX8_findFar 34 = .ok (.iload_n 2, 1) := by decide +kernel
theorem dX8_findFar_35 : decode cX8_findFar 35 = .ok (.aload_n 0, 1) := by decide +kernel
theorem dX8_findFar_36 : decode cX8_findFar 36 = .ok (.getfield 71, 3) := by decide +kernel
theorem dX8_findFar_39 : decode cX8_findFar 39 = .ok (.if_icmp .ge 91, 3) := by decide +kernel
theorem dX8_findFar_42 : decode cX8_findFar 42 = .ok (.iconst 0, 1) := by decide +kernel
theorem dX8_findFar_43 : decode cX8_findFar 43 = .ok (.istore_n 3, 1) := by decide +kernel
theorem dX8_findFar_44 : decode cX8_findFar 44 = .ok (.iload_n 3, 1) := by decide +kernel
theorem dX8_findFar_45 : decode cX8_findFar 45 = .ok (.aload_n 0, 1) := by decide +kernel
theorem dX8_findFar_46 : decode cX8_findFar 46 = .ok (.getfield 71, 3) := by decide +kernel
theorem dX8_findFar_49 : decode cX8_findFar 49 = .ok (.if_icmp .ge 75, 3) := by decide +kernel
theorem dX8_findFar_52 : decode cX8_findFar 52 = .ok (.iconst 0, 1) := by decide +kernel
theorem dX8_findFar_53 : decode cX8_findFar 53 = .ok (.istore 4, 2) := by decide +kernel
theorem dX8_findFar_55 : decode cX8_findFar 55 = .ok (.iload 4, 2) := by decide +kernel
theorem dX8_findFar_57 : decode cX8_findFar 57 = .ok (.aload_n 0, 1) := by decide +kernel
theorem dX8_findFar_58 : decode cX8_findFar 58 = .ok (.getfield 71, 3) := by decide +kernel
theorem dX8_findFar_61 : decode cX8_findFar 61 = .ok (.if_icmp .ge 57, 3) := by decide +kernel
theorem dX8_findFar_64 : decode cX8_findFar 64 = .ok (.aload_n 0, 1) := by decide +kernel
theorem dX8_findFar_65 : decode cX8_findFar 65 = .ok (.getfield 26, 3) := by decide +kernel
theorem dX8_findFar_68 : decode cX8_findFar 68 = .ok (.iload_n 3, 1) := by decide +kernel
theorem dX8_findFar_69 : decode cX8_findFar 69 = .ok (.iaload, 1) := by decide +kernel
theorem dX8_findFar_70 : decode cX8_findFar 70 = .ok (.ifCond .ge 48, 3) := by decide +kernel
theorem dX8_findFar_73 : decode cX8_findFar 73 = .ok (.aload_n 0, 1) := by decide +kernel
theorem dX8_findFar_74 : decode cX8_findFar 74 = .ok (.getfield 26, 3) := by decide +kernel
theorem dX8_findFar_77 : decode cX8_findFar 77 = .ok (.iload_n 3, 1) := by decide +kernel
theorem dX8_findFar_78 : decode cX8_findFar 78 = .ok (.aload_n 0, 1) := by decide +kernel
theorem dX8_findFar_79 : decode cX8_findFar 79 = .ok (.iload_n 3, 1) := by decide +kernel
theorem dX8_findFar_80 : decode cX8_findFar 80 = .ok (.iload 4, 2) := by decide +kernel
theorem dX8_findFar_82 : decode cX8_findFar 82 = .ok (.invokevirtual 90, 3) := by decide +kernel
theorem dX8_findFar_85 : decode cX8_findFar 85 = .ok (.ifCond .eq 20, 3) := by decide +kernel
theorem dX8_findFar_88 : decode cX8_findFar 88 = .ok (.aload_n 0, 1) := by decide +kernel
theorem dX8_findFar_89 : decode cX8_findFar 89 = .ok (.getfield 26, 3) := by decide +kernel
theorem dX8_findFar_92 : decode cX8_findFar 92 = .ok (.iload 4, 2) := by decide +kernel
theorem dX8_findFar_94 : decode cX8_findFar 94 = .ok (.iaload, 1) := by decide +kernel
theorem dX8_findFar_95 : decode cX8_findFar 95 = .ok (.iload_n 2, 1) := by decide +kernel
theorem dX8_findFar_96 : decode cX8_findFar 96 = .ok (.if_icmp .ne 9, 3) := by decide +kernel
theorem dX8_findFar_99 : decode cX8_findFar 99 = .ok (.iload_n 2, 1) := by decide +kernel
theorem dX8_findFar_100 : decode cX8_findFar 100 = .ok (.iconst 1, 1) := by decide +kernel
theorem dX8_findFar_101 : decode cX8_findFar 101 = .ok (.iadd, 1) := by decide +kernel
theorem dX8_findFar_102 : decode cX8_findFar 102 = .ok (.goto 9, 3) := by decide +kernel
theorem dX8_findFar_105 : decode cX8_findFar 105 = .ok (.aload_n 0, 1) := by decide +kernel
theorem dX8_findFar_106 : decode cX8_findFar 106 = .ok (.getfield 26, 3) := by decide +kernel
theorem dX8_findFar_109 : decode cX8_findFar 109 = .ok (.iload_n 3, 1) := by decide +kernel
theorem dX8_findFar_110 : decode cX8_findFar 110 = .ok (.iaload, 1) := by decide +kernel
theorem dX8_findFar_111 : decode cX8_findFar 111 = .ok (.iastore, 1) := by decide +kernel
theorem dX8_findFar_112 : decode cX8_findFar 112 = .ok (.iinc 4 1, 3) := by decide +kernel
theorem dX8_findFar_115 : decode cX8_findFar 115 = .ok (.goto (-60), 3) := by decide +kernel
theorem dX8_findFar_118 : decode cX8_findFar 118 = .ok (.iinc 3 1, 3) := by decide +kernel
theorem dX8_findFar_121 : decode cX8_findFar 121 = .ok (.goto (-77), 3) := by decide +kernel
theorem dX8_findFar_124 : decode cX8_findFar 124 = .ok (.iinc 2 1, 3) := by decide +kernel
theorem dX8_findFar_127 : decode cX8_findFar 127 = .ok (.goto (-93), 3) := by decide +kernel
theorem dX8_findFar_130 : decode cX8_findFar 130 = .ok (.return_, 1) := by decide +kernel
set_option maxRecDepth 20000 in
theorem ggX8_findWitness_X8_findFar : GoodIn wsX8_findWitness wsX8_findFar := goodIn_r _ [8, 9, 3, 10, 11, 12, 7, 13, 14, 15, 16, 17, 18, 19, 20, 21, 22, 23, 24, 25, 26, 27, 28, 29, 30, 31, 32, 33, 34, 35, 36, 37, 38, 39, 40, 41, 42, 43] (by decide +kernel) (by decide +kernel)
set_option maxRecDepth 20000 in
theorem gX8_findWitness_X8_findFar : GoodIn wsX8_findWitness (wsV RX8 104 RX8 yX8_findFar wsX8_findFar) := goodIn_app (goodIn_of _ (by decide +kernel)) ggX8_findWitness_X8_findFar
set_option maxRecDepth 20000 in
theorem ggX8_findWitness_X8_isTied : GoodIn wsX8_findWitness wsX8_isTied := goodIn_r _ [13, 14, 15, 16, 17, 18, 19, 20, 21, 22, 23, 24, 25, 26, 27, 28, 29, 30, 31, 32, 33, 34, 35, 36, 37, 38, 39, 40, 41, 42, 43] (by decide +kernel) (by decide +kernel)
set_option maxRecDepth 20000 in
theorem gX8_findWitness_X8_isTied : GoodIn wsX8_findWitness (wsV RX8 90 RX8 yX8_isTied wsX8_isTied) := goodIn_app (goodIn_of _ (by decide +kernel)) ggX8_findWitness_X8_isTied
theorem dX8_findWitness_0 : decode cX8_findWitness 0 = .ok (.aload_n 0, 1) := by decide +kernel
theorem dX8_findWitness_1 : decode cX8_findWitness 1 = .ok (.iload_n 2, 1) := by decide +kernel
theorem dX8_findWitness_2 : decode cX8_findWitness 2 = .ok (.invokevirtual 104, 3) := by decide +kernel
theorem dX8_findWitness_5 : decode cX8_findWitness 5 = .ok (.aload_n 0, 1) := by decide +kernel
theorem dX8_findWitness_6 : decode cX8_findWitness 6 = .ok (.getfield 23, 3) := by decide +kernel
theorem dX8_findWitness_9 : decode cX8_findWitness 9 = .ok (.iconst 0, 1) := by decide +kernel
theorem dX8_findWitness_10 : decode cX8_findWitness 10 = .ok (.iload_n 1, 1) := by decide +kernel
theorem dX8_findWitness_11 : decode cX8_findWitness 11 = .ok (.iastore, 1) := by decide +kernel
theorem dX8_findWitness_12 : decode cX8_findWitness 12 = .ok (.aload_n 0, 1) := by decide +kernel
theorem dX8_findWitness_13 : decode cX8_findWitness 13 = .ok (.iconst 1, 1) := by decide +kernel
theorem dX8_findWitness_14 : decode cX8_findWitness 14 = .ok (.putfield 108, 3) := by decide +kernel
theorem dX8_findWitness_17 : decode cX8_findWitness 17 = .ok (.iload_n 1, 1) := by decide +kernel
theorem dX8_findWitness_18 : decode cX8_findWitness 18 = .ok (.istore_n 3, 1) := by decide +kernel
theorem dX8_findWitness_19 : decode cX8_findWitness 19 = .ok (.iload_n 3, 1) := by decide +kernel
theorem dX8_findWitness_20 : decode cX8_findWitness 20 = .ok (.iload_n 2, 1) := by decide +kernel
theorem dX8_findWitness_21 : decode cX8_findWitness 21 = .ok (.if_icmp .eq 66, 3) := by decide +kernel
theorem dX8_findWitness_24 : decode cX8_findWitness 24 = .ok (.iconst 0, 1) := by decide +kernel
theorem dX8_findWitness_25 : decode cX8_findWitness 25 = .ok (.istore 4, 2) := by decide +kernel
theorem dX8_findWitness_27 : decode cX8_findWitness 27 = .ok (.aload_n 0, 1) := by decide +kernel
theorem dX8_findWitness_28 : decode cX8_findWitness 28 = .ok (.iload_n 3, 1) := by decide +kernel
theorem dX8_findWitness_29 : decode cX8_findWitness 29 = .ok (.iload 4, 2) := by decide +kernel
theorem dX8_findWitness_31 : decode cX8_findWitness 31 = .ok (.invokevirtual 90, 3) := by decide +kernel
theorem dX8_findWitness_34 : decode cX8_findWitness 34 = .ok (.ifCond .eq 21, 3) := by decide +kernel
theorem dX8_findWitness_37 : decode cX8_findWitness 37 = .ok (.aload_n 0, 1) := by decide +kernel
theorem dX8_findWitness_38 : decode cX8_findWitness 38 = .ok (.getfield 26, 3) := by decide +kernel
theorem dX8_findWitness_41 : decode cX8_findWitness 41 = .ok (.iload 4, 2) := by decide +kernel
theorem dX8_findWitness_43 : decode cX8_findWitness 43 = .ok (.iaload, 1) := by decide +kernel
theorem dX8_findWitness_44 : decode cX8_findWitness 44 = .ok (.aload_n 0, 1) := by decide +kernel
theorem dX8_findWitness_45 : decode cX8_findWitness 45 = .ok (.getfield 26, 3) := by decide +kernel
theorem dX8_findWitness_48 : decode cX8_findWitness 48 = .ok (.iload_n 3, 1) := by decide +kernel
theorem dX8_findWitness_49 : decode cX8_findWitness 49 = .ok (.iaload, 1) := by decide +kernel
theorem dX8_findWitness_50 : decode cX8_findWitness 50 = .ok (.iconst 1, 1) := by decide +kernel
theorem dX8_findWitness_51 : decode cX8_findWitness 51 = .ok (.isub, 1) := by decide +kernel
theorem dX8_findWitness_52 : decode cX8_findWitness 52 = .ok (.if_icmp .eq 9, 3) := by decide +kernel
theorem dX8_findWitness_55 : decode cX8_findWitness 55 = .ok (.iinc 4 1, 3) := by decide +kernel
theorem dX8_findWitness_58 : decode cX8_findWitness 58 = .ok (.goto (-31), 3) := by decide +kernel
theorem dX8_findWitness_61 : decode cX8_findWitness 61 = .ok (.iload 4, 2) := by decide +kernel
theorem dX8_findWitness_63 : decode cX8_findWitness 63 = .ok (.istore_n 3, 1) := by decide +kernel
theorem dX8_findWitness_64 : decode cX8_findWitness 64 = .ok (.aload_n 0, 1) := by decide +kernel
theorem dX8_findWitness_65 : decode cX8_findWitness 65 = .ok (.getfield 23, 3) := by decide +kernel
theorem dX8_findWitness_68 : decode cX8_findWitness 68 = .ok (.aload_n 0, 1) := by decide +kernel
theorem dX8_findWitness_69 : decode cX8_findWitness 69 = .ok (.getfield 108, 3) := by decide +kernel
theorem dX8_findWitness_72 : decode cX8_findWitness 72 = .ok (.iload_n 3, 1) := by decide +kernel
theorem dX8_findWitness_73 : decode cX8_findWitness 73 = .ok (.iastore, 1) := by decide +kernel
theorem dX8_findWitness_74 : decode cX8_findWitness 74 = .ok (.aload_n 0, 1) := by decide +kernel
theorem dX8_findWitness_75 : decode cX8_findWitness 75 = .ok (.dup, 1) := by decide +kernel
theorem dX8_findWitness_76 : decode cX8_findWitness 76 = .ok (.getfield 108, 3) := by decide +kernel
theorem dX8_findWitness_79 : decode cX8_findWitness 79 = .ok (.iconst 1, 1) := by decide +kernel
theorem dX8_findWitness_80 : decode cX8_findWitness 80 = .ok (.iadd, 1) := by decide +kernel
theorem dX8_findWitness_81 : decode cX8_findWitness 81 = .ok (.putfield 108, 3) := by decide +kernel
theorem dX8_findWitness_84 : decode cX8_findWitness 84 = .ok (.goto (-65), 3) := by decide +kernel
theorem dX8_findWitness_87 : decode cX8_findWitness 87 = .ok (.return_, 1) := by decide +kernel
set_option maxRecDepth 20000 in
theorem ggX8_taskAt_X8_placeOf : GoodIn wsX8_taskAt wsX8_placeOf := goodIn_r _ [6, 7, 8, 9, 10, 11, 12, 13, 14, 15, 16, 17, 18, 19, 20, 21, 22, 23, 24, 25, 26, 27, 28, 29, 30, 31, 32, 33, 34, 35, 36] (by decide +kernel) (by decide +kernel)
set_option maxRecDepth 20000 in
theorem gX8_taskAt_X8_placeOf : GoodIn wsX8_taskAt (wsV RX8 111 RX8 yX8_placeOf wsX8_placeOf) := goodIn_app (goodIn_of _ (by decide +kernel)) ggX8_taskAt_X8_placeOf
theorem dX8_taskAt_0 : decode cX8_taskAt 0 = .ok (.iconst (-1), 1) := by decide +kernel
theorem dX8_taskAt_1 : decode cX8_taskAt 1 = .ok (.istore_n 2, 1) := by decide +kernel
theorem dX8_taskAt_2 : decode cX8_taskAt 2 = .ok (.iconst 0, 1) := by decide +kernel
theorem dX8_taskAt_3 : decode cX8_taskAt 3 = .ok (.istore_n 3, 1) := by decide +kernel
theorem dX8_taskAt_4 : decode cX8_taskAt 4 = .ok (.iload_n 3, 1) := by decide +kernel
theorem dX8_taskAt_5 : decode cX8_taskAt 5 = .ok (.aload_n 0, 1) := by decide +kernel
theorem dX8_taskAt_6 : decode cX8_taskAt 6 = .ok (.getfield 71, 3) := by decide +kernel
theorem dX8_taskAt_9 : decode cX8_taskAt 9 = .ok (.if_icmp .ge 24, 3) := by decide +kernel
theorem dX8_taskAt_12 : decode cX8_taskAt 12 = .ok (.aload_n 0, 1) := by decide +kernel
theorem dX8_taskAt_13 : decode cX8_taskAt 13 = .ok (.iload_n 3, 1) := by decide +kernel
theorem dX8_taskAt_14 : decode cX8_taskAt 14 = .ok (.invokevirtual 111, 3) := by decide +kernel
theorem dX8_taskAt_17 : decode cX8_taskAt 17 = .ok (.iload_n 1, 1) := by decide +kernel
theorem dX8_taskAt_18 : decode cX8_taskAt 18 = .ok (.if_icmp .ne 7, 3) := by decide +kernel
theorem dX8_taskAt_21 : decode cX8_taskAt 21 = .ok (.iload_n 3, 1) := by decide +kernel
theorem dX8_taskAt_22 : decode cX8_taskAt 22 = .ok (.goto 4, 3) := by decide +kernel
theorem dX8_taskAt_25 : decode cX8_taskAt 25 = .ok (.iload_n 2, 1) := by decide +kernel
theorem dX8_taskAt_26 : decode cX8_taskAt 26 = .ok (.istore_n 2, 1) := by decide +kernel
theorem dX8_taskAt_27 : decode cX8_taskAt 27 = .ok (.iinc 3 1, 3) := by decide +kernel
theorem dX8_taskAt_30 : decode cX8_taskAt 30 = .ok (.goto (-26), 3) := by decide +kernel
theorem dX8_taskAt_33 : decode cX8_taskAt 33 = .ok (.iload_n 2, 1) := by decide +kernel
theorem dX8_taskAt_34 : decode cX8_taskAt 34 = .ok (.ireturn, 1) := by decide +kernel
set_option maxRecDepth 20000 in
theorem ggX8_come_X8_placeOf : GoodIn wsX8_come wsX8_placeOf := goodIn_r _ [9, 4, 37, 38, 39, 40, 41, 42, 43, 44, 45, 46, 47, 48, 49, 50, 51, 52, 53, 54, 55, 56, 57, 58, 59, 60, 61, 62, 63, 64, 65] (by decide +kernel) (by decide +kernel)
set_option maxRecDepth 20000 in
theorem gX8_come_X8_placeOf : GoodIn wsX8_come (wsV RX8 111 RX8 yX8_placeOf wsX8_placeOf) := goodIn_app (goodIn_of _ (by decide +kernel)) ggX8_come_X8_placeOf
set_option maxRecDepth 20000 in
theorem ggX8_come_X8_doesReach : GoodIn wsX8_come wsX8_doesReach := goodIn_r _ [13, 14, 15, 16, 17, 18, 8, 19, 1, 20, 21, 22, 23, 4, 37, 38, 39, 40, 41, 42, 43, 44, 45, 46, 47, 48, 49, 50, 51, 52, 53, 54, 55, 56, 57, 58, 59, 60, 61, 62, 63, 64, 65] (by decide +kernel) (by decide +kernel)
set_option maxRecDepth 20000 in
theorem gX8_come_X8_doesReach : GoodIn wsX8_come (wsV RX8 115 RX8 yX8_doesReach wsX8_doesReach) := goodIn_app (goodIn_of _ (by decide +kernel)) ggX8_come_X8_doesReach
set_option maxRecDepth 20000 in
theorem ggX8_come_X8_taskAt : GoodIn wsX8_come wsX8_taskAt := goodIn_r _ [27, 1, 5, 6, 7, 8, 9, 4, 37, 38, 39, 40, 41, 42, 43, 44, 45, 46, 47, 48, 49, 50, 51, 52, 53, 54, 55, 56, 57, 58, 59, 60, 61, 62, 63, 64, 65] (by decide +kernel) (by decide +kernel)
set_option maxRecDepth 20000 in
theorem gX8_come_X8_taskAt : GoodIn wsX8_come (wsV RX8 118 RX8 yX8_taskAt wsX8_taskAt) := goodIn_app (goodIn_of _ (by decide +kernel)) ggX8_come_X8_taskAt
set_option maxRecDepth 20000 in
theorem ggX8_come_X8_nextPlace : GoodIn wsX8_come wsX8_nextPlace := goodIn_r _ [31, 1, 2, 3, 37, 38, 39, 40, 41, 42, 43, 44, 45, 46, 47, 48, 49, 50, 51, 52, 53, 54, 55, 56, 57, 58, 59, 60, 61, 62, 63, 64, 65] (by decide +kernel) (by decide +kernel)
set_option maxRecDepth 20000 in
theorem gX8_come_X8_nextPlace : GoodIn wsX8_come (wsV RX8 121 RX8 yX8_nextPlace wsX8_nextPlace) := goodIn_app (goodIn_of _ (by decide +kernel)) ggX8_come_X8_nextPlace
set_option maxRecDepth 20000 in
theorem ggX8_come_X8_changed : GoodIn wsX8_come wsX8_changed := goodIn_r _ [35, 36, 14, 37, 38, 39, 40, 41, 42, 43, 44, 45, 46, 47, 48, 49, 50, 51, 52, 53, 54, 55, 56, 57, 58, 59, 60, 61, 62, 63, 64, 65] (by decide +kernel) (by decide +kernel)
set_option maxRecDepth 20000 in
theorem gX8_come_X8_changed : GoodIn wsX8_come (wsV RX8 80 RX8 yX8_changed wsX8_changed) := goodIn_app (goodIn_of _ (by decide +kernel)) ggX8_come_X8_changed
theorem dX8_come_0 : decode cX8_come 0 = .ok (.aload_n 0, 1) := by decide +kernel
theorem dX8_come_1 : decode cX8_come 1 = .ok (.iload_n 2, 1) := by decide +kernel
theorem dX8_come_2 : decode cX8_come 2 = .ok (.invokevirtual 111, 3) := by decide +kernel
theorem dX8_come_5 : decode cX8_come 5 = .ok (.istore_n 3, 1) := by decide +kernel
theorem dX8_come_6 : decode cX8_come 6 = .ok (.aload_n 0, 1) := by decide +kernel
theorem dX8_come_7 : decode cX8_come 7 = .ok (.iload_n 1, 1) := by decide +kernel
theorem dX8_come_8 : decode cX8_come 8 = .ok (.invokevirtual 111, 3) := by decide +kernel
theorem dX8_come_11 : decode cX8_come 11 = .ok (.istore 4, 2) := by decide +kernel
theorem dX8_come_13 : decode cX8_come 13 = .ok (.iload_n 3, 1) := by decide +kernel
theorem dX8_come_14 : decode cX8_come 14 = .ok (.iload 4, 2) := by decide +kernel
theorem dX8_come_16 : decode cX8_come 16 = .ok (.if_icmp .ge 218, 3) := by decide +kernel
theorem dX8_come_19 : decode cX8_come 19 = .ok (.iconst 0, 1) := by decide +kernel
theorem dX8_come_20 : decode cX8_come 20 = .ok (.istore 5, 2) := by decide +kernel
theorem dX8_come_22 : decode cX8_come 22 = .ok (.iload 5, 2) := by decide +kernel
theorem dX8_come_24 : decode cX8_come 24 = .ok (.aload_n 0, 1) := by decide +kernel
theorem dX8_come_25 : decode cX8_come 25 = .ok (.getfield 71, 3) := by decide +kernel
theorem dX8_come_28 : decode cX8_come 28 = .ok (.if_icmp .ge 90, 3) := by decide +kernel
theorem dX8_come_31 : decode cX8_come 31 = .ok (.aload_n 0, 1) := by decide +kernel
theorem dX8_come_32 : decode cX8_come 32 = .ok (.iload 5, 2) := by decide +kernel
theorem dX8_come_34 : decode cX8_come 34 = .ok (.iload_n 1, 1) := by decide +kernel
theorem dX8_come_35 : decode cX8_come 35 = .ok (.invokevirtual 115, 3) := by decide +kernel
theorem dX8_come_38 : decode cX8_come 38 = .ok (.ifCond .eq 17, 3) := by decide +kernel
theorem dX8_come_41 : decode cX8_come 41 = .ok (.aload_n 0, 1) := by decide +kernel
theorem dX8_come_42 : decode cX8_come 42 = .ok (.iload 5, 2) := by decide +kernel
theorem dX8_come_44 : decode cX8_come 44 = .ok (.invokevirtual 111, 3) := by decide +kernel
theorem dX8_come_47 : decode cX8_come 47 = .ok (.iload_n 3, 1) := by decide +kernel
theorem dX8_come_48 : decode cX8_come 48 = .ok (.if_icmp .lt 7, 3) := by decide +kernel
theorem dX8_come_51 : decode cX8_come 51 = .ok (.iconst 1, 1) := by decide +kernel
theorem dX8_come_52 : decode cX8_come 52 = .ok (.goto 4, 3) := by decide +kernel
theorem dX8_come_55 : decode cX8_come 55 = .ok (.iconst 0, 1) := by decide +kernel
theorem dX8_come_56 : decode cX8_come 56 = .ok (.istore 6, 2) := by decide +kernel
theorem dX8_come_58 : decode cX8_come 58 = .ok (.aload_n 0, 1) := by decide +kernel
theorem dX8_come_59 : decode cX8_come 59 = .ok (.iload_n 2, 1) := by decide +kernel
theorem dX8_come_60 : decode cX8_come 60 = .ok (.iload 5, 2) := by decide +kernel
theorem dX8_come_62 : decode cX8_come 62 = .ok (.invokevirtual 115, 3) := by decide +kernel
theorem dX8_come_65 : decode cX8_come 65 = .ok (.ifCond .eq 18, 3) := by decide +kernel
theorem dX8_come_68 : decode cX8_come 68 = .ok (.aload_n 0, 1) := by decide +kernel
theorem dX8_come_69 : decode cX8_come 69 = .ok (.iload 5, 2) := by decide +kernel
theorem dX8_come_71 : decode cX8_come 71 = .ok (.invokevirtual 111, 3) := by decide +kernel
theorem dX8_come_74 : decode cX8_come 74 = .ok (.iload 4, 2) := by decide +kernel
theorem dX8_come_76 : decode cX8_come 76 = .ok (.if_icmp .gt 7, 3) := by decide +kernel
theorem dX8_come_79 : decode cX8_come 79 = .ok (.iconst 1, 1) := by decide +kernel
theorem dX8_come_80 : decode cX8_come 80 = .ok (.goto 4, 3) := by decide +kernel
theorem dX8_come_83 : decode cX8_come 83 = .ok (.iconst 0, 1) := by decide +kernel
theorem dX8_come_84 : decode cX8_come 84 = .ok (.istore 7, 2) := by decide +kernel
theorem dX8_come_86 : decode cX8_come 86 = .ok (.aload_n 0, 1) := by decide +kernel
theorem dX8_come_87 : decode cX8_come 87 = .ok (.getfield 61, 3) := by decide +kernel
theorem dX8_come_90 : decode cX8_come 90 = .ok (.iload 5, 2) := by decide +kernel
theorem dX8_come_92 : decode cX8_come 92 = .ok (.iload 6, 2) := by decide +kernel
theorem dX8_come_94 : decode cX8_come 94 = .ok (.ifCond .eq 7, 3) := by decide +kernel
theorem dX8_come_97 : decode cX8_come 97 = .ok (.iconst 1, 1) := by decide +kernel
theorem dX8_come_98 : decode cX8_come 98 = .ok (.goto 13, 3) := by decide +kernel
theorem dX8_come_101 : decode cX8_come 101 = .ok (.iload 7, 2) := by decide +kernel
theorem dX8_come_103 : decode cX8_come 103 = .ok (.ifCond .eq 7, 3) := by decide +kernel
theorem dX8_come_106 : decode cX8_come 106 = .ok (.iconst 2, 1) := by decide +kernel
theorem dX8_come_107 : decode cX8_come 107 = .ok (.goto 4, 3) := by decide +kernel
theorem dX8_come_110 : decode cX8_come 110 = .ok (.iconst 0, 1) := by decide +kernel
theorem dX8_come_111 : decode cX8_come 111 = .ok (.iastore, 1) := by decide +kernel
theorem dX8_come_112 : decode cX8_come 112 = .ok (.iinc 5 1, 3) := by decide +kernel
theorem dX8_come_115 : decode cX8_come 115 = .ok (.goto (-93), 3) := by decide +kernel
theorem dX8_come_118 : decode cX8_come 118 = .ok (.iconst 0, 1) := by decide +kernel
theorem dX8_come_119 : decode cX8_come 119 = .ok (.istore 5, 2) := by decide +kernel
theorem dX8_come_121 : decode cX8_come 121 = .ok (.iload 5, 2) := by decide +kernel
theorem dX8_come_123 : decode cX8_come 123 = .ok (.aload_n 0, 1) := by decide +kernel
theorem dX8_come_124 : decode cX8_come 124 = .ok (.getfield 71, 3) := by decide +kernel
theorem dX8_come_127 : decode cX8_come 127 = .ok (.if_icmp .ge 22, 3) := by decide +kernel
theorem dX8_come_130 : decode cX8_come 130 = .ok (.aload_n 0, 1) := by decide +kernel
theorem dX8_come_131 : decode cX8_come 131 = .ok (.getfield 58, 3) := by decide +kernel
theorem dX8_come_134 : decode cX8_come 134 = .ok (.iload 5, 2) := by decide +kernel
theorem dX8_come_136 : decode cX8_come 136 = .ok (.aload_n 0, 1) := by decide +kernel
theorem dX8_come_137 : decode cX8_come 137 = .ok (.iload 5, 2) := by decide +kernel
theorem dX8_come_139 : decode cX8_come 139 = .ok (.invokevirtual 118, 3) := by decide +kernel
theorem dX8_come_142 : decode cX8_come 142 = .ok (.iastore, 1) := by decide +kernel
theorem dX8_come_143 : decode cX8_come 143 = .ok (.iinc 5 1, 3) := by decide +kernel
theorem dX8_come_146 : decode cX8_come 146 = .ok (.goto (-25), 3) := by decide +kernel
theorem dX8_come_149 : decode cX8_come 149 = .ok (.aload_n 0, 1) := by decide +kernel
theorem dX8_come_150 : decode cX8_come 150 = .ok (.iconst 0, 1) := by decide +kernel
theorem dX8_come_151 : decode cX8_come 151 = .ok (.invokevirtual 121, 3) := by decide +kernel
theorem dX8_come_154 : decode cX8_come 154 = .ok (.istore 5, 2) := by decide +kernel
theorem dX8_come_156 : decode cX8_come 156 = .ok (.iconst 1, 1) := by decide +kernel
theorem dX8_come_157 : decode cX8_come 157 = .ok (.istore 6, 2) := by decide +kernel
theorem dX8_come_159 : decode cX8_come 159 = .ok (.iload 6, 2) := by decide +kernel
theorem dX8_come_161 : decode cX8_come 161 = .ok (.iconst 3, 1) := by decide +kernel
theorem dX8_come_162 : decode cX8_come 162 = .ok (.if_icmp .ge 72, 3) := by decide +kernel
theorem dX8_come_165 : decode cX8_come 165 = .ok (.iconst 0, 1) := by decide +kernel
theorem dX8_come_166 : decode cX8_come 166 = .ok (.istore 7, 2) := by decide +kernel
theorem dX8_come_168 : decode cX8_come 168 = .ok (.iload 7, 2) := by decide +kernel
theorem dX8_come_170 : decode cX8_come 170 = .ok (.aload_n 0, 1) := by decide +kernel
theorem dX8_come_171 : decode cX8_come 171 = .ok (.getfield 71, 3) := by decide +kernel
theorem dX8_come_174 : decode cX8_come 174 = .ok (.if_icmp .ge 54, 3) := by decide +kernel
theorem dX8_come_177 : decode cX8_come 177 = .ok (.aload_n 0, 1) := by decide +kernel
theorem dX8_come_178 : decode cX8_come 178 = .ok (.getfield 61, 3) := by decide +kernel
theorem dX8_come_181 : decode cX8_come 181 = .ok (.aload_n 0, 1) := by decide +kernel
theorem dX8_come_182 : decode cX8_come 182 = .ok (.getfield 58, 3) := by decide +kernel
theorem dX8_come_185 : decode cX8_come 185 = .ok (.iload 7, 2) := by decide +kernel
theorem dX8_come_187 : decode cX8_come 187 = .ok (.iaload, 1) := by decide +kernel
theorem dX8_come_188 : decode cX8_come 188 = .ok (.iaload, 1) := by decide +kernel
theorem dX8_come_189 : decode cX8_come 189 = .ok (.iload 6, 2) := by decide +kernel
theorem dX8_come_191 : decode cX8_come 191 = .ok (.if_icmp .ne 31, 3) := by decide +kernel
theorem dX8_come_194 : decode cX8_come 194 = .ok (.aload_n 0, 1) := by decide +kernel
theorem dX8_come_195 : decode cX8_come 195 = .ok (.getfield 7, 3) := by decide +kernel
theorem dX8_come_198 : decode cX8_come 198 = .ok (.sipush 3660, 3) := by decide +kernel
theorem dX8_come_201 : decode cX8_come 201 = .ok (.aload_n 0, 1) := by decide +kernel
theorem dX8_come_202 : decode cX8_come 202 = .ok (.getfield 58, 3) := by decide +kernel
theorem dX8_come_205 : decode cX8_come 205 = .ok (.iload 7, 2) := by decide +kernel
theorem dX8_come_207 : decode cX8_come 207 = .ok (.iaload, 1) := by decide +kernel
theorem dX8_come_208 : decode cX8_come 208 = .ok (.iadd, 1) := by decide +kernel
theorem dX8_come_209 : decode cX8_come 209 = .ok (.iload 5, 2) := by decide +kernel
theorem dX8_come_211 : decode cX8_come 211 = .ok (.iastore, 1) := by decide +kernel
theorem dX8_come_212 : decode cX8_come 212 = .ok (.aload_n 0, 1) := by decide +kernel
theorem dX8_come_213 : decode cX8_come 213 = .ok (.iload 5, 2) := by decide +kernel
theorem dX8_come_215 : decode cX8_come 215 = .ok (.iconst 1, 1) := by decide +kernel
theorem dX8_come_216 : decode cX8_come 216 = .ok (.iadd, 1) := by decide +kernel
theorem dX8_come_217 : decode cX8_come 217 = .ok (.invokevirtual 121, 3) := by decide +kernel
theorem dX8_come_220 : decode cX8_come 220 = .ok (.istore 5, 2) := by decide +kernel
theorem dX8_come_222 : decode cX8_come 222 = .ok (.iinc 7 1, 3) := by decide +kernel
theorem dX8_come_225 : decode cX8_come 225 = .ok (.goto (-57), 3) := by decide +kernel
theorem dX8_come_228 : decode cX8_come 228 = .ok (.iinc 6 1, 3) := by decide +kernel
theorem dX8_come_231 : decode cX8_come 231 = .ok (.goto (-72), 3) := by decide +kernel
theorem dX8_come_234 : decode cX8_come 234 = .ok (.aload_n 0, 1) := by decide +kernel
theorem dX8_come_235 : decode cX8_come 235 = .ok (.getfield 7, 3) := by decide +kernel
theorem dX8_come_238 : decode cX8_come 238 = .ok (.bipush 60, 2) := by decide +kernel
theorem dX8_come_240 : decode cX8_come 240 = .ok (.iload_n 1, 1) := by decide +kernel
theorem dX8_come_241 : decode cX8_come 241 = .ok (.imul, 1) := by decide +kernel
theorem dX8_come_242 : decode cX8_come 242 = .ok (.iload_n 2, 1) := by decide +kernel
theorem dX8_come_243 : decode cX8_come 243 = .ok (.iadd, 1) := by decide +kernel
theorem dX8_come_244 : decode cX8_come 244 = .ok (.iconst 1, 1) := by decide +kernel
theorem dX8_come_245 : decode cX8_come 245 = .ok (.iastore, 1) := by decide +kernel
theorem dX8_come_246 : decode cX8_come 246 = .ok (.aload_n 0, 1) := by decide +kernel
theorem dX8_come_247 : decode cX8_come 247 = .ok (.invokevirtual 80, 3) := by decide +kernel
theorem dX8_come_250 : decode cX8_come 250 = .ok (.return_, 1) := by decide +kernel
theorem dX8_nextPlace_0 : decode cX8_nextPlace 0 = .ok (.iload_n 1, 1) := by decide +kernel
theorem dX8_nextPlace_1 : decode cX8_nextPlace 1 = .ok (.istore_n 2, 1) := by decide +kernel
theorem dX8_nextPlace_2 : decode cX8_nextPlace 2 = .ok (.iload_n 2, 1) := by decide +kernel
theorem dX8_nextPlace_3 : decode cX8_nextPlace 3 = .ok (.aload_n 0, 1) := by decide +kernel
theorem dX8_nextPlace_4 : decode cX8_nextPlace 4 = .ok (.getfield 71, 3) := by decide +kernel
theorem dX8_nextPlace_7 : decode cX8_nextPlace 7 = .ok (.if_icmp .ge 23, 3) := by decide +kernel
theorem dX8_nextPlace_10 : decode cX8_nextPlace 10 = .ok (.aload_n 0, 1) := by decide +kernel
theorem dX8_nextPlace_11 : decode cX8_nextPlace 11 = .ok (.getfield 61, 3) := by decide +kernel
theorem dX8_nextPlace_14 : decode cX8_nextPlace 14 = .ok (.aload_n 0, 1) := by decide +kernel
theorem dX8_nextPlace_15 : decode cX8_nextPlace 15 = .ok (.getfield 58, 3) := by decide +kernel
theorem dX8_nextPlace_18 : decode cX8_nextPlace 18 = .ok (.iload_n 2, 1) := by decide +kernel
theorem dX8_nextPlace_19 : decode cX8_nextPlace 19 = .ok (.iaload, 1) := by decide +kernel
theorem dX8_nextPlace_20 : decode cX8_nextPlace 20 = .ok (.iaload, 1) := by decide +kernel
theorem dX8_nextPlace_21 : decode cX8_nextPlace 21 = .ok (.ifCond .ne 9, 3) := by decide +kernel
theorem dX8_nextPlace_24 : decode cX8_nextPlace 24 = .ok (.iinc 2 1, 3) := by decide +kernel
theorem dX8_nextPlace_27 : decode cX8_nextPlace 27 = .ok (.goto (-25), 3) := by decide +kernel
theorem dX8_nextPlace_30 : decode cX8_nextPlace 30 = .ok (.iload_n 2, 1) := by decide +kernel
theorem dX8_nextPlace_31 : decode cX8_nextPlace 31 = .ok (.ireturn, 1) := by decide +kernel
set_option maxRecDepth 20000 in
theorem ggX8_movedSinceCopy_X8_placeOf : GoodIn wsX8_movedSinceCopy wsX8_placeOf := goodIn_r _ [9, 10, 11, 12, 13, 14, 15, 16, 17, 18, 19, 20, 21, 22, 23, 24, 25, 26, 27, 28, 29, 30, 31, 32, 33, 34, 35, 36, 37, 38, 39] (by decide +kernel) (by decide +kernel)
set_option maxRecDepth 20000 in
theorem gX8_movedSinceCopy_X8_placeOf : GoodIn wsX8_movedSinceCopy (wsV RX8 111 RX8 yX8_placeOf wsX8_placeOf) := goodIn_app (goodIn_of _ (by decide +kernel)) ggX8_movedSinceCopy_X8_placeOf
theorem dX8_movedSinceCopy_0 : decode cX8_movedSinceCopy 0 = .ok (.sipush 3720, 3) := by decide +kernel
theorem dX8_movedSinceCopy_3 : decode cX8_movedSinceCopy 3 = .ok (.aload_n 0, 1) := by decide +kernel
theorem dX8_movedSinceCopy_4 : decode cX8_movedSinceCopy 4 = .ok (.getfield 77, 3) := by decide +kernel
theorem dX8_movedSinceCopy_7 : decode cX8_movedSinceCopy 7 = .ok (.aload_n 0, 1) := by decide +kernel
theorem dX8_movedSinceCopy_8 : decode cX8_movedSinceCopy 8 = .ok (.getfield 74, 3) := by decide +kernel
theorem dX8_movedSinceCopy_11 : decode cX8_movedSinceCopy 11 = .ok (.iadd, 1) := by decide +kernel
theorem dX8_movedSinceCopy_12 : decode cX8_movedSinceCopy 12 = .ok (.iconst 1, 1) := by decide +kernel
theorem dX8_movedSinceCopy_13 : decode cX8_movedSinceCopy 13 = .ok (.isub, 1) := by decide +kernel
theorem dX8_movedSinceCopy_14 : decode cX8_movedSinceCopy 14 = .ok (.bipush 64, 2) := by decide +kernel
theorem dX8_movedSinceCopy_16 : decode cX8_movedSinceCopy 16 = .ok (.irem, 1) := by decide +kernel
theorem dX8_movedSinceCopy_17 : decode cX8_movedSinceCopy 17 = .ok (.imul, 1) := by decide +kernel
theorem dX8_movedSinceCopy_18 : decode cX8_movedSinceCopy 18 = .ok (.sipush 3660, 3) := by decide +kernel
theorem dX8_movedSinceCopy_21 : decode cX8_movedSinceCopy 21 = .ok (.iadd, 1) := by decide +kernel
theorem dX8_movedSinceCopy_22 : decode cX8_movedSinceCopy 22 = .ok (.istore_n 1, 1) := by decide +kernel
theorem dX8_movedSinceCopy_23 : decode cX8_movedSinceCopy 23 = .ok (.iconst 0, 1) := by decide +kernel
theorem dX8_movedSinceCopy_24 : decode cX8_movedSinceCopy 24 = .ok (.istore_n 2, 1) := by decide +kernel
theorem dX8_movedSinceCopy_25 : decode cX8_movedSinceCopy 25 = .ok (.iconst 0, 1) := by decide +kernel
theorem dX8_movedSinceCopy_26 : decode cX8_movedSinceCopy 26 = .ok (.istore_n 3, 1) := by decide +kernel
theorem dX8_movedSinceCopy_27 : decode cX8_movedSinceCopy 27 = .ok (.iload_n 3, 1) := by decide +kernel
theorem dX8_movedSinceCopy_28 : decode cX8_movedSinceCopy 28 = .ok (.aload_n 0, 1) := by decide +kernel
theorem dX8_movedSinceCopy_29 : decode cX8_movedSinceCopy 29 = .ok (.getfield 71, 3) := by decide +kernel
theorem dX8_movedSinceCopy_32 : decode cX8_movedSinceCopy 32 = .ok (.if_icmp .ge 33, 3) := by decide +kernel
theorem dX8_movedSinceCopy_35 : decode cX8_movedSinceCopy 35 = .ok (.aload_n 0, 1) := by decide +kernel
theorem dX8_movedSinceCopy_36 : decode cX8_movedSinceCopy 36 = .ok (.getfield 14, 3) := by decide +kernel
theorem dX8_movedSinceCopy_39 : decode cX8_movedSinceCopy 39 = .ok (.iload_n 1, 1) := by decide +kernel
theorem dX8_movedSinceCopy_40 : decode cX8_movedSinceCopy 40 = .ok (.iload_n 3, 1) := by decide +kernel
theorem dX8_movedSinceCopy_41 : decode cX8_movedSinceCopy 41 = .ok (.iadd, 1) := by decide +kernel
theorem dX8_movedSinceCopy_42 : decode cX8_movedSinceCopy 42 = .ok (.iaload, 1) := by decide +kernel
theorem dX8_movedSinceCopy_43 : decode cX8_movedSinceCopy 43 = .ok (.aload_n 0, 1) := by decide +kernel
theorem dX8_movedSinceCopy_44 : decode cX8_movedSinceCopy 44 = .ok (.iload_n 3, 1) := by decide +kernel
theorem dX8_movedSinceCopy_45 : decode cX8_movedSinceCopy 45 = .ok (.invokevirtual 111, 3) := by decide +kernel
theorem dX8_movedSinceCopy_48 : decode cX8_movedSinceCopy 48 = .ok (.if_icmp .eq 9, 3) := by decide +kernel
theorem dX8_movedSinceCopy_51 : decode cX8_movedSinceCopy 51 = .ok (.iload_n 2, 1) := by decide +kernel
theorem dX8_movedSinceCopy_52 : decode cX8_movedSinceCopy 52 = .ok (.iconst 1, 1) := by decide +kernel
theorem dX8_movedSinceCopy_53 : decode cX8_movedSinceCopy 53 = .ok (.iadd, 1) := by decide +kernel
theorem dX8_movedSinceCopy_54 : decode cX8_movedSinceCopy 54 = .ok (.goto 4, 3) := by decide +kernel
theorem dX8_movedSinceCopy_57 : decode cX8_movedSinceCopy 57 = .ok (.iload_n 2, 1) := by decide +kernel
theorem dX8_movedSinceCopy_58 : decode cX8_movedSinceCopy 58 = .ok (.istore_n 2, 1) := by decide +kernel
theorem dX8_movedSinceCopy_59 : decode cX8_movedSinceCopy 59 = .ok (.iinc 3 1, 3) := by decide +kernel
theorem dX8_movedSinceCopy_62 : decode cX8_movedSinceCopy 62 = .ok (.goto (-35), 3) := by decide +kernel
theorem dX8_movedSinceCopy_65 : decode cX8_movedSinceCopy 65 = .ok (.iload_n 2, 1) := by decide +kernel
theorem dX8_movedSinceCopy_66 : decode cX8_movedSinceCopy 66 = .ok (.ireturn, 1) := by decide +kernel
set_option maxRecDepth 20000 in
theorem ggX8_tie_X8_has : GoodIn wsX8_tie wsX8_has := goodIn_r _ [7, 8, 73, 74, 75, 76, 77, 78, 79, 80, 81, 82, 83, 84, 85, 86, 87, 88, 89, 90, 91, 92, 93, 94, 95, 96, 97, 98, 99, 100, 101] (by decide +kernel) (by decide +kernel)
set_option maxRecDepth 20000 in
theorem gX8_tie_X8_has : GoodIn wsX8_tie (wsV RX8 83 RX8 yX8_has wsX8_has) := goodIn_app (goodIn_of _ (by decide +kernel)) ggX8_tie_X8_has
set_option maxRecDepth 20000 in
theorem ggX8_tie_X8_isTied : GoodIn wsX8_tie wsX8_isTied := goodIn_r _ [12, 13, 73, 74, 75, 76, 77, 78, 79, 80, 81, 82, 83, 84, 85, 86, 87, 88, 89, 90, 91, 92, 93, 94, 95, 96, 97, 98, 99, 100, 101] (by decide +kernel) (by decide +kernel)
set_option maxRecDepth 20000 in
theorem gX8_tie_X8_isTied : GoodIn wsX8_tie (wsV RX8 90 RX8 yX8_isTied wsX8_isTied) := goodIn_app (goodIn_of _ (by decide +kernel)) ggX8_tie_X8_isTied
set_option maxRecDepth 20000 in
theorem ggX8_tie_X8_doesReach : GoodIn wsX8_tie wsX8_doesReach := goodIn_r _ [17, 18, 19, 20, 21, 22, 6, 23, 8, 9, 10, 11, 12, 13, 73, 74, 75, 76, 77, 78, 79, 80, 81, 82, 83, 84, 85, 86, 87, 88, 89, 90, 91, 92, 93, 94, 95, 96, 97, 98, 99, 100, 101] (by decide +kernel) (by decide +kernel)
set_option maxRecDepth 20000 in
theorem gX8_tie_X8_doesReach : GoodIn wsX8_tie (wsV RX8 115 RX8 yX8_doesReach wsX8_doesReach) := goodIn_app (goodIn_of _ (by decide +kernel)) ggX8_tie_X8_doesReach
set_option maxRecDepth 20000 in
theorem ggX8_tie_X8_findWitness : GoodIn wsX8_tie wsX8_findWitness := goodIn_r _ [27, 28, 29, 30, 31, 32, 33, 6, 34, 8, 9, 10, 11, 12, 13, 73, 74, 75, 76, 77, 78, 79, 80, 81, 82, 83, 84, 85, 86, 87, 88, 89, 90, 91, 92, 93, 94, 95, 96, 97, 98, 99, 100, 101] (by decide +kernel) (by decide +kernel)
set_option maxRecDepth 20000 in
theorem gX8_tie_X8_findWitness : GoodIn wsX8_tie (wsV RX8 127 RX8 yX8_findWitness wsX8_findWitness) := goodIn_app (goodIn_of _ (by decide +kernel)) ggX8_tie_X8_findWitness
set_option maxRecDepth 20000 in
theorem ggX8_tie_X8_ties : GoodIn wsX8_tie wsX8_ties := goodIn_r _ [38, 13, 73, 74, 75, 76, 77, 78, 79, 80, 81, 82, 83, 84, 85, 86, 87, 88, 89, 90, 91, 92, 93, 94, 95, 96, 97, 98, 99, 100, 101] (by decide +kernel) (by decide +kernel)
set_option maxRecDepth 20000 in
theorem gX8_tie_X8_ties : GoodIn wsX8_tie (wsV RX8 131 RX8 yX8_ties wsX8_ties) := goodIn_app (goodIn_of _ (by decide +kernel)) ggX8_tie_X8_ties
set_option maxRecDepth 20000 in
theorem ggX8_tie_X8_keep : GoodIn wsX8_tie wsX8_keep := goodIn_r _ [42, 43, 44, 45, 13, 73, 74, 75, 76, 77, 78, 79, 80, 81, 82, 83, 84, 85, 86, 87, 88, 89, 90, 91, 92, 93, 94, 95, 96, 97, 98, 99, 100, 101] (by decide +kernel) (by decide +kernel)
set_option maxRecDepth 20000 in
theorem gX8_tie_X8_keep : GoodIn wsX8_tie (wsV RX8 87 RX8 yX8_keep wsX8_keep) := goodIn_app (goodIn_of _ (by decide +kernel)) ggX8_tie_X8_keep
set_option maxRecDepth 20000 in
theorem ggX8_tie_X8_come : GoodIn wsX8_tie wsX8_come := goodIn_r _ [49, 8, 50, 51, 13, 52, 53, 54, 6, 55, 14, 15, 16, 17, 18, 19, 20, 21, 22, 23, 9, 10, 11, 12, 56, 57, 58, 59, 60, 61, 62, 63, 64, 65, 66, 67, 68, 73, 74, 75, 76, 77, 78, 79, 80, 81, 82, 83, 84, 85, 86, 87, 88, 89, 90, 91, 92, 93, 94, 95, 96, 97, 98, 99, 100, 101] (by decide +kernel) (by decide +kernel)
set_option maxRecDepth 20000 in
theorem gX8_tie_X8_come : GoodIn wsX8_tie (wsV RX8 135 RX8 yX8_come wsX8_come) := goodIn_app (goodIn_of _ (by decide +kernel)) ggX8_tie_X8_come
set_option maxRecDepth 20000 in
theorem ggX8_tie_X8_movedSinceCopy : GoodIn wsX8_tie wsX8_movedSinceCopy := goodIn_r _ [72, 44, 43, 8, 45, 52, 53, 54, 6, 55, 13, 73, 74, 75, 76, 77, 78, 79, 80, 81, 82, 83, 84, 85, 86, 87, 88, 89, 90, 91, 92, 93, 94, 95, 96, 97, 98, 99, 100, 101] (by decide +kernel) (by decide +kernel)
set_option maxRecDepth 20000 in
theorem gX8_tie_X8_movedSinceCopy : GoodIn wsX8_tie (wsV RX8 138 RX8 yX8_movedSinceCopy wsX8_movedSinceCopy) := goodIn_app (goodIn_of _ (by decide +kernel)) ggX8_tie_X8_movedSinceCopy
theorem dX8_tie_0 : decode cX8_tie 0 = .ok (.aload_n 0, 1) := by decide +kernel
theorem dX8_tie_1 : decode cX8_tie 1 = .ok (.iconst 0, 1) := by decide +kernel
theorem dX8_tie_2 : decode cX8_tie 2 = .ok (.putfield 67, 3) := by decide +kernel
theorem dX8_tie_5 : decode cX8_tie 5 = .ok (.aload_n 0, 1) := by decide +kernel
theorem dX8_tie_6 : decode cX8_tie 6 = .ok (.iload_n 1, 1) := by decide +kernel
theorem dX8_tie_7 : decode cX8_tie 7 = .ok (.invokevirtual 83, 3) := by decide +kernel
theorem dX8_tie_10 : decode cX8_tie 10 = .ok (.ifCond .eq 11, 3) := by decide +kernel
theorem dX8_tie_13 : decode cX8_tie 13 = .ok (.aload_n 0, 1) := by decide +kernel
theorem dX8_tie_14 : decode cX8_tie 14 = .ok (.iload_n 2, 1) := by decide +kernel
theorem dX8_tie_15 : decode cX8_tie 15 = .ok (.invokevirtual 83, 3) := by decide +kernel
theorem dX8_tie_18 : decode cX8_tie 18 = .ok (.ifCond .ne 5, 3) := by decide +kernel
theorem dX8_tie_21 : decode cX8_tie 21 = .ok (.iconst (-1), 1) := by decide +kernel
theorem dX8_tie_22 : decode cX8_tie 22 = .ok (.ireturn, 1) := by decide +kernel
theorem dX8_tie_23 : decode cX8_tie 23 = .ok (.aload_n 0, 1) := by decide +kernel
theorem dX8_tie_24 : decode cX8_tie 24 = .ok (.iload_n 1, 1) := by decide +kernel
theorem dX8_tie_25 : decode cX8_tie 25 = .ok (.iload_n 2, 1) := by decide +kernel
theorem dX8_tie_26 : decode cX8_tie 26 = .ok (.invokevirtual 90, 3) := by decide +kernel
theorem dX8_tie_29 : decode cX8_tie 29 = .ok (.ifCond .eq 10, 3) := by decide +kernel
theorem dX8_tie_32 : decode cX8_tie 32 = .ok (.aload_n 0, 1) := by decide +kernel
theorem dX8_tie_33 : decode cX8_tie 33 = .ok (.iconst 0, 1) := by decide +kernel
theorem dX8_tie_34 : decode cX8_tie 34 = .ok (.putfield 124, 3) := by decide +kernel
theorem dX8_tie_37 : decode cX8_tie 37 = .ok (.iconst 0, 1) := by decide +kernel
theorem dX8_tie_38 : decode cX8_tie 38 = .ok (.ireturn, 1) := by decide +kernel
theorem dX8_tie_39 : decode cX8_tie 39 = .ok (.aload_n 0, 1) := by decide +kernel
theorem dX8_tie_40 : decode cX8_tie 40 = .ok (.iload_n 2, 1) := by decide +kernel
theorem dX8_tie_41 : decode cX8_tie 41 = .ok (.iload_n 1, 1) := by decide +kernel
theorem dX8_tie_42 : decode cX8_tie 42 = .ok (.invokevirtual 115, 3) := by decide +kernel
theorem dX8_tie_45 : decode cX8_tie 45 = .ok (.ifCond .eq 17, 3) := by decide +kernel
theorem dX8_tie_48 : decode cX8_tie 48 = .ok (.aload_n 0, 1) := by decide +kernel
theorem dX8_tie_49 : decode cX8_tie 49 = .ok (.iconst 0, 1) := by decide +kernel
theorem dX8_tie_50 : decode cX8_tie 50 = .ok (.putfield 124, 3) := by decide +kernel
theorem dX8_tie_53 : decode cX8_tie 53 = .ok (.aload_n 0, 1) := by decide +kernel
theorem dX8_tie_54 : decode cX8_tie 54 = .ok (.iload_n 2, 1) := by decide +kernel
theorem dX8_tie_55 : decode cX8_tie 55 = .ok (.iload_n 1, 1) := by decide +kernel
theorem dX8_tie_56 : decode cX8_tie 56 = .ok (.invokevirtual 127, 3) := by decide +kernel
theorem dX8_tie_59 : decode cX8_tie 59 = .ok (.bipush (-2), 2) := by decide +kernel
theorem dX8_tie_61 : decode cX8_tie 61 = .ok (.ireturn, 1) := by decide +kernel
theorem dX8_tie_62 : decode cX8_tie 62 = .ok (.aload_n 0, 1) := by decide +kernel
theorem dX8_tie_63 : decode cX8_tie 63 = .ok (.invokevirtual 131, 3) := by decide +kernel
theorem dX8_tie_66 : decode cX8_tie 66 = .ok (.sipush 400, 3) := by decide +kernel
theorem dX8_tie_69 : decode cX8_tie 69 = .ok (.if_icmp .ne 5, 3) := by decide +kernel
theorem dX8_tie_72 : decode cX8_tie 72 = .ok (.iconst (-1), 1) := by decide +kernel
theorem dX8_tie_73 : decode cX8_tie 73 = .ok (.ireturn, 1) := by decide +kernel
theorem dX8_tie_74 : decode cX8_tie 74 = .ok (.aload_n 0, 1) := by decide +kernel
theorem dX8_tie_75 : decode cX8_tie 75 = .ok (.invokevirtual 87, 3) := by decide +kernel
theorem dX8_tie_78 : decode cX8_tie 78 = .ok (.aload_n 0, 1) := by decide +kernel
theorem dX8_tie_79 : decode cX8_tie 79 = .ok (.iload_n 1, 1) := by decide +kernel
theorem dX8_tie_80 : decode cX8_tie 80 = .ok (.iload_n 2, 1) := by decide +kernel
theorem dX8_tie_81 : decode cX8_tie 81 = .ok (.invokevirtual 135, 3) := by decide +kernel
theorem dX8_tie_84 : decode cX8_tie 84 = .ok (.aload_n 0, 1) := by decide +kernel
theorem dX8_tie_85 : decode cX8_tie 85 = .ok (.aload_n 0, 1) := by decide +kernel
theorem dX8_tie_86 : decode cX8_tie 86 = .ok (.invokevirtual 138, 3) := by decide +kernel
theorem dX8_tie_89 : decode cX8_tie 89 = .ok (.putfield 124, 3) := by decide +kernel
theorem dX8_tie_92 : decode cX8_tie 92 = .ok (.iconst 1, 1) := by decide +kernel
theorem dX8_tie_93 : decode cX8_tie 93 = .ok (.ireturn, 1) := by decide +kernel
set_option maxRecDepth 20000 in
theorem ggX8_untie_X8_has : GoodIn wsX8_untie wsX8_has := goodIn_r _ [7, 8, 26, 27, 28, 29, 30, 31, 32, 33, 34, 35, 36, 37, 38, 39, 40, 41, 42, 43, 44, 45, 46, 47, 48, 49, 50, 51, 52, 53, 54] (by decide +kernel) (by decide +kernel)
set_option maxRecDepth 20000 in
theorem gX8_untie_X8_has : GoodIn wsX8_untie (wsV RX8 83 RX8 yX8_has wsX8_has) := goodIn_app (goodIn_of _ (by decide +kernel)) ggX8_untie_X8_has
set_option maxRecDepth 20000 in
theorem ggX8_untie_X8_isTied : GoodIn wsX8_untie wsX8_isTied := goodIn_r _ [12, 2, 26, 27, 28, 29, 30, 31, 32, 33, 34, 35, 36, 37, 38, 39, 40, 41, 42, 43, 44, 45, 46, 47, 48, 49, 50, 51, 52, 53, 54] (by decide +kernel) (by decide +kernel)
set_option maxRecDepth 20000 in
theorem gX8_untie_X8_isTied : GoodIn wsX8_untie (wsV RX8 90 RX8 yX8_isTied wsX8_isTied) := goodIn_app (goodIn_of _ (by decide +kernel)) ggX8_untie_X8_isTied
set_option maxRecDepth 20000 in
theorem ggX8_untie_X8_keep : GoodIn wsX8_untie wsX8_keep := goodIn_r _ [16, 17, 18, 19, 2, 26, 27, 28, 29, 30, 31, 32, 33, 34, 35, 36, 37, 38, 39, 40, 41, 42, 43, 44, 45, 46, 47, 48, 49, 50, 51, 52, 53, 54] (by decide +kernel) (by decide +kernel)
set_option maxRecDepth 20000 in
theorem gX8_untie_X8_keep : GoodIn wsX8_untie (wsV RX8 87 RX8 yX8_keep wsX8_keep) := goodIn_app (goodIn_of _ (by decide +kernel)) ggX8_untie_X8_keep
set_option maxRecDepth 20000 in
theorem ggX8_untie_X8_changed : GoodIn wsX8_untie wsX8_changed := goodIn_r _ [23, 24, 25, 26, 27, 28, 29, 30, 31, 32, 33, 34, 35, 36, 37, 38, 39, 40, 41, 42, 43, 44, 45, 46, 47, 48, 49, 50, 51, 52, 53, 54] (by decide +kernel) (by decide +kernel)
set_option maxRecDepth 20000 in
theorem gX8_untie_X8_changed : GoodIn wsX8_untie (wsV RX8 80 RX8 yX8_changed wsX8_changed) := goodIn_app (goodIn_of _ (by decide +kernel)) ggX8_untie_X8_changed
theorem dX8_untie_0 : decode cX8_untie 0 = .ok (.aload_n 0, 1) := by decide +kernel
theorem dX8_untie_1 : decode cX8_untie 1 = .ok (.iconst 0, 1) := by decide +kernel
theorem dX8_untie_2 : decode cX8_untie 2 = .ok (.putfield 67, 3) := by decide +kernel
theorem dX8_untie_5 : decode cX8_untie 5 = .ok (.aload_n 0, 1) := by decide +kernel
theorem dX8_untie_6 : decode cX8_untie 6 = .ok (.iload_n 1, 1) := by decide +kernel
theorem dX8_untie_7 : decode cX8_untie 7 = .ok (.invokevirtual 83, 3) := by decide +kernel
theorem dX8_untie_10 : decode cX8_untie 10 = .ok (.ifCond .eq 20, 3) := by decide +kernel
theorem dX8_untie_13 : decode cX8_untie 13 = .ok (.aload_n 0, 1) := by decide +kernel
theorem dX8_untie_14 : decode cX8_untie 14 = .ok (.iload_n 2, 1) := by decide +kernel
theorem dX8_untie_15 : decode cX8_untie 15 = .ok (.invokevirtual 83, 3) := by decide +kernel
theorem dX8_untie_18 : decode cX8_untie 18 = .ok (.ifCond .eq 12, 3) := by decide +kernel
theorem dX8_untie_21 : decode cX8_untie 21 = .ok (.aload_n 0, 1) := by decide +kernel
theorem dX8_untie_22 : decode cX8_untie 22 = .ok (.iload_n 1, 1) := by decide +kernel
theorem dX8_untie_23 : decode cX8_untie 23 = .ok (.iload_n 2, 1) := by decide +kernel
theorem dX8_untie_24 : decode cX8_untie 24 = .ok (.invokevirtual 90, 3) := by decide +kernel
theorem dX8_untie_27 : decode cX8_untie 27 = .ok (.ifCond .ne 5, 3) := by decide +kernel
theorem dX8_untie_30 : decode cX8_untie 30 = .ok (.iconst 0, 1) := by decide +kernel
theorem dX8_untie_31 : decode cX8_untie 31 = .ok (.ireturn, 1) := by decide +kernel
theorem dX8_untie_32 : decode cX8_untie 32 = .ok (.aload_n 0, 1) := by decide +kernel
theorem dX8_untie_33 : decode cX8_untie 33 = .ok (.invokevirtual 87, 3) := by decide +kernel
theorem dX8_untie_36 : decode cX8_untie 36 = .ok (.aload_n 0, 1) := by decide +kernel
theorem dX8_untie_37 : decode cX8_untie 37 = .ok (.getfield 7, 3) := by decide +kernel
theorem dX8_untie_40 : decode cX8_untie 40 = .ok (.bipush 60, 2) := by decide +kernel
theorem dX8_untie_42 : decode cX8_untie 42 = .ok (.iload_n 1, 1) := by decide +kernel
theorem dX8_untie_43 : decode cX8_untie 43 = .ok (.imul, 1) := by decide +kernel
theorem dX8_untie_44 : decode cX8_untie 44 = .ok (.iload_n 2, 1) := by decide +kernel
theorem dX8_untie_45 : decode cX8_untie 45 = .ok (.iadd, 1) := by decide +kernel
theorem dX8_untie_46 : decode cX8_untie 46 = .ok (.iconst 0, 1) := by decide +kernel
theorem dX8_untie_47 : decode cX8_untie 47 = .ok (.iastore, 1) := by decide +kernel
theorem dX8_untie_48 : decode cX8_untie 48 = .ok (.aload_n 0, 1) := by decide +kernel
theorem dX8_untie_49 : decode cX8_untie 49 = .ok (.invokevirtual 80, 3) := by decide +kernel
theorem dX8_untie_52 : decode cX8_untie 52 = .ok (.iconst 1, 1) := by decide +kernel
theorem dX8_untie_53 : decode cX8_untie 53 = .ok (.ireturn, 1) := by decide +kernel
set_option maxRecDepth 20000 in
theorem ggX8_gather_X8_has : GoodIn wsX8_gather wsX8_has := goodIn_r _ [9, 10, 11, 12, 13, 14, 15, 16, 17, 18, 19, 20, 21, 22, 23, 24, 25, 26, 27, 28, 29, 30, 31, 32, 33, 34, 35, 36, 37, 38, 39] (by decide +kernel) (by decide +kernel)
set_option maxRecDepth 20000 in
theorem gX8_gather_X8_has : GoodIn wsX8_gather (wsV RX8 83 RX8 yX8_has wsX8_has) := goodIn_app (goodIn_of _ (by decide +kernel)) ggX8_gather_X8_has
theorem dX8_gather_0 : decode cX8_gather 0 = .ok (.aload_n 0, 1) := by decide +kernel
theorem dX8_gather_1 : decode cX8_gather 1 = .ok (.iconst 0, 1) := by decide +kernel
theorem dX8_gather_2 : decode cX8_gather 2 = .ok (.putfield 67, 3) := by decide +kernel
theorem dX8_gather_5 : decode cX8_gather 5 = .ok (.aload_n 0, 1) := by decide +kernel
theorem dX8_gather_6 : decode cX8_gather 6 = .ok (.iload_n 1, 1) := by decide +kernel
theorem dX8_gather_7 : decode cX8_gather 7 = .ok (.invokevirtual 83, 3) := by decide +kernel
theorem dX8_gather_10 : decode cX8_gather 10 = .ok (.ifCond .eq 20, 3) := by decide +kernel
theorem dX8_gather_13 : decode cX8_gather 13 = .ok (.aload_n 0, 1) := by decide +kernel
theorem dX8_gather_14 : decode cX8_gather 14 = .ok (.iload_n 2, 1) := by decide +kernel
theorem dX8_gather_15 : decode cX8_gather 15 = .ok (.invokevirtual 83, 3) := by decide +kernel
theorem dX8_gather_18 : decode cX8_gather 18 = .ok (.ifCond .eq 12, 3) := by decide +kernel
theorem dX8_gather_21 : decode cX8_gather 21 = .ok (.aload_n 0, 1) := by decide +kernel
theorem dX8_gather_22 : decode cX8_gather 22 = .ok (.getfield 141, 3) := by decide +kernel
theorem dX8_gather_25 : decode cX8_gather 25 = .ok (.bipush 100, 2) := by decide +kernel
theorem dX8_gather_27 : decode cX8_gather 27 = .ok (.if_icmp .ne 5, 3) := by decide +kernel
theorem dX8_gather_30 : decode cX8_gather 30 = .ok (.iconst (-1), 1) := by decide +kernel
theorem dX8_gather_31 : decode cX8_gather 31 = .ok (.ireturn, 1) := by decide +kernel
theorem dX8_gather_32 : decode cX8_gather 32 = .ok (.aload_n 0, 1) := by decide +kernel
theorem dX8_gather_33 : decode cX8_gather 33 = .ok (.getfield 17, 3) := by decide +kernel
theorem dX8_gather_36 : decode cX8_gather 36 = .ok (.aload_n 0, 1) := by decide +kernel
theorem dX8_gather_37 : decode cX8_gather 37 = .ok (.getfield 141, 3) := by decide +kernel
theorem dX8_gather_40 : decode cX8_gather 40 = .ok (.iload_n 1, 1) := by decide +kernel
theorem dX8_gather_41 : decode cX8_gather 41 = .ok (.iastore, 1) := by decide +kernel
theorem dX8_gather_42 : decode cX8_gather 42 = .ok (.aload_n 0, 1) := by decide +kernel
theorem dX8_gather_43 : decode cX8_gather 43 = .ok (.getfield 20, 3) := by decide +kernel
theorem dX8_gather_46 : decode cX8_gather 46 = .ok (.aload_n 0, 1) := by decide +kernel
theorem dX8_gather_47 : decode cX8_gather 47 = .ok (.getfield 141, 3) := by decide +kernel
theorem dX8_gather_50 : decode cX8_gather 50 = .ok (.iload_n 2, 1) := by decide +kernel
theorem dX8_gather_51 : decode cX8_gather 51 = .ok (.iastore, 1) := by decide +kernel
theorem dX8_gather_52 : decode cX8_gather 52 = .ok (.aload_n 0, 1) := by decide +kernel
theorem dX8_gather_53 : decode cX8_gather 53 = .ok (.dup, 1) := by decide +kernel
theorem dX8_gather_54 : decode cX8_gather 54 = .ok (.getfield 141, 3) := by decide +kernel
theorem dX8_gather_57 : decode cX8_gather 57 = .ok (.iconst 1, 1) := by decide +kernel
theorem dX8_gather_58 : decode cX8_gather 58 = .ok (.iadd, 1) := by decide +kernel
theorem dX8_gather_59 : decode cX8_gather 59 = .ok (.putfield 141, 3) := by decide +kernel
theorem dX8_gather_62 : decode cX8_gather 62 = .ok (.aload_n 0, 1) := by decide +kernel
theorem dX8_gather_63 : decode cX8_gather 63 = .ok (.getfield 141, 3) := by decide +kernel
theorem dX8_gather_66 : decode cX8_gather 66 = .ok (.ireturn, 1) := by decide +kernel
theorem dX8_swapWhole_0 : decode cX8_swapWhole 0 = .ok (.iconst 0, 1) := by decide +kernel
theorem dX8_swapWhole_1 : decode cX8_swapWhole 1 = .ok (.istore_n 2, 1) := by decide +kernel
theorem dX8_swapWhole_2 : decode cX8_swapWhole 2 = .ok (.iload_n 2, 1) := by decide +kernel
theorem dX8_swapWhole_3 : decode cX8_swapWhole 3 = .ok (.sipush 3720, 3) := by decide +kernel
theorem dX8_swapWhole_6 : decode cX8_swapWhole 6 = .ok (.if_icmp .ge 40, 3) := by decide +kernel
theorem dX8_swapWhole_9 : decode cX8_swapWhole 9 = .ok (.iload_n 1, 1) := by decide +kernel
theorem dX8_swapWhole_10 : decode cX8_swapWhole 10 = .ok (.ifCond .eq 18, 3) := by decide +kernel
theorem dX8_swapWhole_13 : decode cX8_swapWhole 13 = .ok (.aload_n 0, 1) := by decide +kernel
theorem dX8_swapWhole_14 : decode cX8_swapWhole 14 = .ok (.getfield 7, 3) := by decide +kernel
theorem dX8_swapWhole_17 : decode cX8_swapWhole 17 = .ok (.iload_n 2, 1) := by decide +kernel
theorem dX8_swapWhole_18 : decode cX8_swapWhole 18 = .ok (.aload_n 0, 1) := by decide +kernel
theorem dX8_swapWhole_19 : decode cX8_swapWhole 19 = .ok (.getfield 64, 3) := by decide +kernel
theorem dX8_swapWhole_22 : decode cX8_swapWhole 22 = .ok (.iload_n 2, 1) := by decide +kernel
theorem dX8_swapWhole_23 : decode cX8_swapWhole 23 = .ok (.iaload, 1) := by decide +kernel
theorem dX8_swapWhole_24 : decode cX8_swapWhole 24 = .ok (.iastore, 1) := by decide +kernel
theorem dX8_swapWhole_25 : decode cX8_swapWhole 25 = .ok (.goto 15, 3) := by decide +kernel
theorem dX8_swapWhole_28 : decode cX8_swapWhole 28 = .ok (.aload_n 0, 1) := by decide +kernel
theorem dX8_swapWhole_29 : decode cX8_swapWhole 29 = .ok (.getfield 64, 3) := by decide +kernel
theorem dX8_swapWhole_32 : decode cX8_swapWhole 32 = .ok (.iload_n 2, 1) := by decide +kernel
theorem dX8_swapWhole_33 : decode cX8_swapWhole 33 = .ok (.aload_n 0, 1) := by decide +kernel
theorem dX8_swapWhole_34 : decode cX8_swapWhole 34 = .ok (.getfield 7, 3) := by decide +kernel
theorem dX8_swapWhole_37 : decode cX8_swapWhole 37 = .ok (.iload_n 2, 1) := by decide +kernel
theorem dX8_swapWhole_38 : decode cX8_swapWhole 38 = .ok (.iaload, 1) := by decide +kernel
theorem dX8_swapWhole_39 : decode cX8_swapWhole 39 = .ok (.iastore, 1) := by decide +kernel
theorem dX8_swapWhole_40 : decode cX8_swapWhole 40 = .ok (.iinc 2 1, 3) := by decide +kernel
theorem dX8_swapWhole_43 : decode cX8_swapWhole 43 = .ok (.goto (-41), 3) := by decide +kernel
theorem dX8_swapWhole_46 : decode cX8_swapWhole 46 = .ok (.return_, 1) := by decide +kernel
set_option maxRecDepth 20000 in
theorem ggX8_commit_X8_swapWhole : GoodIn wsX8_commit wsX8_swapWhole := goodIn_r _ [15, 16, 7, 73, 74, 75, 76, 77, 78, 79, 80, 81, 82, 83, 84, 85, 86, 87, 88, 89, 90, 91, 92, 93, 94, 95, 96, 97, 98, 99, 100, 101] (by decide +kernel) (by decide +kernel)
set_option maxRecDepth 20000 in
theorem gX8_commit_X8_swapWhole : GoodIn wsX8_commit (wsV RX8 144 RX8 yX8_swapWhole wsX8_swapWhole) := goodIn_app (goodIn_of _ (by decide +kernel)) ggX8_commit_X8_swapWhole
set_option maxRecDepth 20000 in
theorem ggX8_commit_X8_isTied : GoodIn wsX8_commit wsX8_isTied := goodIn_r _ [20, 16, 73, 74, 75, 76, 77, 78, 79, 80, 81, 82, 83, 84, 85, 86, 87, 88, 89, 90, 91, 92, 93, 94, 95, 96, 97, 98, 99, 100, 101] (by decide +kernel) (by decide +kernel)
set_option maxRecDepth 20000 in
theorem gX8_commit_X8_isTied : GoodIn wsX8_commit (wsV RX8 90 RX8 yX8_isTied wsX8_isTied) := goodIn_app (goodIn_of _ (by decide +kernel)) ggX8_commit_X8_isTied
set_option maxRecDepth 20000 in
theorem ggX8_commit_X8_doesReach : GoodIn wsX8_commit wsX8_doesReach := goodIn_r _ [24, 25, 26, 27, 28, 29, 14, 30, 6, 17, 18, 19, 20, 16, 73, 74, 75, 76, 77, 78, 79, 80, 81, 82, 83, 84, 85, 86, 87, 88, 89, 90, 91, 92, 93, 94, 95, 96, 97, 98, 99, 100, 101] (by decide +kernel) (by decide +kernel)
set_option maxRecDepth 20000 in
theorem gX8_commit_X8_doesReach : GoodIn wsX8_commit (wsV RX8 115 RX8 yX8_doesReach wsX8_doesReach) := goodIn_app (goodIn_of _ (by decide +kernel)) ggX8_commit_X8_doesReach
set_option maxRecDepth 20000 in
theorem ggX8_commit_X8_findWitness : GoodIn wsX8_commit wsX8_findWitness := goodIn_r _ [34, 35, 36, 37, 38, 39, 40, 14, 41, 6, 17, 18, 19, 20, 16, 73, 74, 75, 76, 77, 78, 79, 80, 81, 82, 83, 84, 85, 86, 87, 88, 89, 90, 91, 92, 93, 94, 95, 96, 97, 98, 99, 100, 101] (by decide +kernel) (by decide +kernel)
set_option maxRecDepth 20000 in
theorem gX8_commit_X8_findWitness : GoodIn wsX8_commit (wsV RX8 127 RX8 yX8_findWitness wsX8_findWitness) := goodIn_app (goodIn_of _ (by decide +kernel)) ggX8_commit_X8_findWitness
set_option maxRecDepth 20000 in
theorem ggX8_commit_X8_ties : GoodIn wsX8_commit wsX8_ties := goodIn_r _ [45, 16, 73, 74, 75, 76, 77, 78, 79, 80, 81, 82, 83, 84, 85, 86, 87, 88, 89, 90, 91, 92, 93, 94, 95, 96, 97, 98, 99, 100, 101] (by decide +kernel) (by decide +kernel)
set_option maxRecDepth 20000 in
theorem gX8_commit_X8_ties : GoodIn wsX8_commit (wsV RX8 131 RX8 yX8_ties wsX8_ties) := goodIn_app (goodIn_of _ (by decide +kernel)) ggX8_commit_X8_ties
set_option maxRecDepth 20000 in
theorem ggX8_commit_X8_come : GoodIn wsX8_commit wsX8_come := goodIn_r _ [49, 6, 50, 51, 16, 52, 53, 54, 14, 55, 21, 22, 23, 24, 25, 26, 27, 28, 29, 30, 17, 18, 19, 20, 56, 57, 58, 59, 60, 61, 62, 63, 64, 65, 66, 67, 68, 73, 74, 75, 76, 77, 78, 79, 80, 81, 82, 83, 84, 85, 86, 87, 88, 89, 90, 91, 92, 93, 94, 95, 96, 97, 98, 99, 100, 101] (by decide +kernel) (by decide +kernel)
set_option maxRecDepth 20000 in
theorem gX8_commit_X8_come : GoodIn wsX8_commit (wsV RX8 135 RX8 yX8_come wsX8_come) := goodIn_app (goodIn_of _ (by decide +kernel)) ggX8_commit_X8_come
set_option maxRecDepth 20000 in
theorem ggX8_commit_X8_changed : GoodIn wsX8_commit wsX8_changed := goodIn_r _ [67, 68, 25, 73, 74, 75, 76, 77, 78, 79, 80, 81, 82, 83, 84, 85, 86, 87, 88, 89, 90, 91, 92, 93, 94, 95, 96, 97, 98, 99, 100, 101] (by decide +kernel) (by decide +kernel)
set_option maxRecDepth 20000 in
theorem gX8_commit_X8_changed : GoodIn wsX8_commit (wsV RX8 80 RX8 yX8_changed wsX8_changed) := goodIn_app (goodIn_of _ (by decide +kernel)) ggX8_commit_X8_changed
set_option maxRecDepth 20000 in
theorem ggX8_commit_X8_placeOf : GoodIn wsX8_commit wsX8_placeOf := goodIn_r _ [55, 16, 73, 74, 75, 76, 77, 78, 79, 80, 81, 82, 83, 84, 85, 86, 87, 88, 89, 90, 91, 92, 93, 94, 95, 96, 97, 98, 99, 100, 101] (by decide +kernel) (by decide +kernel)
set_option maxRecDepth 20000 in
theorem gX8_commit_X8_placeOf : GoodIn wsX8_commit (wsV RX8 111 RX8 yX8_placeOf wsX8_placeOf) := goodIn_app (goodIn_of _ (by decide +kernel)) ggX8_commit_X8_placeOf
set_option maxRecDepth 20000 in
theorem ggX8_commit_X8_keep : GoodIn wsX8_commit wsX8_keep := goodIn_r _ [72, 9, 8, 10, 16, 73, 74, 75, 76, 77, 78, 79, 80, 81, 82, 83, 84, 85, 86, 87, 88, 89, 90, 91, 92, 93, 94, 95, 96, 97, 98, 99, 100, 101] (by decide +kernel) (by decide +kernel)
set_option maxRecDepth 20000 in
theorem gX8_commit_X8_keep : GoodIn wsX8_commit (wsV RX8 87 RX8 yX8_keep wsX8_keep) := goodIn_app (goodIn_of _ (by decide +kernel)) ggX8_commit_X8_keep
theorem dX8_commit_0 : decode cX8_commit 0 = .ok (.aload_n 0, 1) := by decide +kernel
theorem dX8_commit_1 : decode cX8_commit 1 = .ok (.iconst 0, 1) := by decide +kernel
theorem dX8_commit_2 : decode cX8_commit 2 = .ok (.putfield 67, 3) := by decide +kernel
theorem dX8_commit_5 : decode cX8_commit 5 = .ok (.aload_n 0, 1) := by decide +kernel
theorem dX8_commit_6 : decode cX8_commit 6 = .ok (.iconst 0, 1) := by decide +kernel
theorem dX8_commit_7 : decode cX8_commit 7 = .ok (.invokevirtual 144, 3) := by decide +kernel
theorem dX8_commit_10 : decode cX8_commit 10 = .ok (.iconst 0, 1) := by decide +kernel
theorem dX8_commit_11 : decode cX8_commit 11 = .ok (.istore_n 1, 1) := by decide +kernel
theorem dX8_commit_12 : decode cX8_commit 12 = .ok (.iconst 0, 1) := by decide +kernel
theorem dX8_commit_13 : decode cX8_commit 13 = .ok (.istore_n 2, 1) := by decide +kernel
theorem dX8_commit_14 : decode cX8_commit 14 = .ok (.iconst 0, 1) := by decide +kernel
theorem dX8_commit_15 : decode cX8_commit 15 = .ok (.istore_n 3, 1) := by decide +kernel
theorem dX8_commit_16 : decode cX8_commit 16 = .ok (.iload_n 3, 1) := by decide +kernel
theorem dX8_commit_17 : decode cX8_commit 17 = .ok (.aload_n 0, 1) := by decide +kernel
theorem dX8_commit_18 : decode cX8_commit 18 = .ok (.getfield 141, 3) := by decide +kernel
theorem dX8_commit_21 : decode cX8_commit 21 = .ok (.if_icmp .ge 91, 3) := by decide +kernel
theorem dX8_commit_24 : decode cX8_commit 24 = .ok (.iload_n 2, 1) := by decide +kernel
theorem dX8_commit_25 : decode cX8_commit 25 = .ok (.ifCond .ne 87, 3) := by decide +kernel
theorem dX8_commit_28 : decode cX8_commit 28 = .ok (.aload_n 0, 1) := by decide +kernel
theorem dX8_commit_29 : decode cX8_commit 29 = .ok (.getfield 17, 3) := by decide +kernel
theorem dX8_commit_32 : decode cX8_commit 32 = .ok (.iload_n 3, 1) := by decide +kernel
theorem dX8_commit_33 : decode cX8_commit 33 = .ok (.iaload, 1) := by decide +kernel
theorem dX8_commit_34 : decode cX8_commit 34 = .ok (.istore 4, 2) := by decide +kernel
theorem dX8_commit_36 : decode cX8_commit 36 = .ok (.aload_n 0, 1) := by decide +kernel
theorem dX8_commit_37 : decode cX8_commit 37 = .ok (.getfield 20, 3) := by decide +kernel
theorem dX8_commit_40 : decode cX8_commit 40 = .ok (.iload_n 3, 1) := by decide +kernel
theorem dX8_commit_41 : decode cX8_commit 41 = .ok (.iaload, 1) := by decide +kernel
theorem dX8_commit_42 : decode cX8_commit 42 = .ok (.istore 5, 2) := by decide +kernel
theorem dX8_commit_44 : decode cX8_commit 44 = .ok (.aload_n 0, 1) := by decide +kernel
theorem dX8_commit_45 : decode cX8_commit 45 = .ok (.iload 4, 2) := by decide +kernel
theorem dX8_commit_47 : decode cX8_commit 47 = .ok (.iload 5, 2) := by decide +kernel
theorem dX8_commit_49 : decode cX8_commit 49 = .ok (.invokevirtual 90, 3) := by decide +kernel
theorem dX8_commit_52 : decode cX8_commit 52 = .ok (.ifCond .ne 54, 3) := by decide +kernel
theorem dX8_commit_55 : decode cX8_commit 55 = .ok (.aload_n 0, 1) := by decide +kernel
theorem dX8_commit_56 : decode cX8_commit 56 = .ok (.iload 5, 2) := by decide +kernel
theorem dX8_commit_58 : decode cX8_commit 58 = .ok (.iload 4, 2) := by decide +kernel
theorem dX8_commit_60 : decode cX8_commit 60 = .ok (.invokevirtual 115, 3) := by decide +kernel
theorem dX8_commit_63 : decode cX8_commit 63 = .ok (.ifCond .eq 17, 3) := by decide +kernel
theorem dX8_commit_66 : decode cX8_commit 66 = .ok (.aload_n 0, 1) := by decide +kernel
theorem dX8_commit_67 : decode cX8_commit 67 = .ok (.iload 5, 2) := by decide +kernel
theorem dX8_commit_69 : decode cX8_commit 69 = .ok (.iload 4, 2) := by decide +kernel
theorem dX8_commit_71 : decode cX8_commit 71 = .ok (.invokevirtual 127, 3) := by decide +kernel
theorem dX8_commit_74 : decode cX8_commit 74 = .ok (.bipush (-2), 2) := by decide +kernel
theorem dX8_commit_76 : decode cX8_commit 76 = .ok (.istore_n 2, 1) := by decide +kernel
theorem dX8_commit_77 : decode cX8_commit 77 = .ok (.goto 29, 3) := by decide +kernel
theorem dX8_commit_80 : decode cX8_commit 80 = .ok (.aload_n 0, 1) := by decide +kernel
theorem dX8_commit_81 : decode cX8_commit 81 = .ok (.invokevirtual 131, 3) := by decide +kernel
theorem dX8_commit_84 : decode cX8_commit 84 = .ok (.sipush 400, 3) := by decide +kernel
theorem dX8_commit_87 : decode cX8_commit 87 = .ok (.if_icmp .ne 8, 3) := by decide +kernel
theorem dX8_commit_90 : decode cX8_commit 90 = .ok (.iconst (-1), 1) := by decide +kernel
theorem dX8_commit_91 : decode cX8_commit 91 = .ok (.istore_n 2, 1) := by decide +kernel
theorem dX8_commit_92 : decode cX8_commit 92 = .ok (.goto 14, 3) := by decide +kernel
theorem dX8_commit_95 : decode cX8_commit 95 = .ok (.aload_n 0, 1) := by decide +kernel
theorem dX8_commit_96 : decode cX8_commit 96 = .ok (.iload 4, 2) := by decide +kernel
theorem dX8_commit_98 : decode cX8_commit 98 = .ok (.iload 5, 2) := by decide +kernel
theorem dX8_commit_100 : decode cX8_commit 100 = .ok (.invokevirtual 135, 3) := by decide +kernel
theorem dX8_commit_103 : decode cX8_commit 103 = .ok (.iinc 1 1, 3) := by decide +kernel
theorem dX8_commit_106 : decode cX8_commit 106 = .ok (.iinc 3 1, 3) := by decide +kernel
theorem dX8_commit_109 : decode cX8_commit 109 = .ok (.goto (-93), 3) := by decide +kernel
theorem dX8_commit_112 : decode cX8_commit 112 = .ok (.aload_n 0, 1) := by decide +kernel
theorem dX8_commit_113 : decode cX8_commit 113 = .ok (.iconst 0, 1) := by decide +kernel
theorem dX8_commit_114 : decode cX8_commit 114 = .ok (.putfield 141, 3) := by decide +kernel
theorem dX8_commit_117 : decode cX8_commit 117 = .ok (.iload_n 2, 1) := by decide +kernel
theorem dX8_commit_118 : decode cX8_commit 118 = .ok (.ifCond .eq 32, 3) := by decide +kernel
theorem dX8_commit_121 : decode cX8_commit 121 = .ok (.aload_n 0, 1) := by decide +kernel
theorem dX8_commit_122 : decode cX8_commit 122 = .ok (.iconst 1, 1) := by decide +kernel
theorem dX8_commit_123 : decode cX8_commit 123 = .ok (.invokevirtual 144, 3) := by decide +kernel
theorem dX8_commit_126 : decode cX8_commit 126 = .ok (.aload_n 0, 1) := by decide +kernel
theorem dX8_commit_127 : decode cX8_commit 127 = .ok (.invokevirtual 80, 3) := by decide +kernel
theorem dX8_commit_130 : decode cX8_commit 130 = .ok (.aload_n 0, 1) := by decide +kernel
theorem dX8_commit_131 : decode cX8_commit 131 = .ok (.iload_n 2, 1) := by decide +kernel
theorem dX8_commit_132 : decode cX8_commit 132 = .ok (.bipush (-2), 2) := by decide +kernel
theorem dX8_commit_134 : decode cX8_commit 134 = .ok (.if_icmp .ne 7, 3) := by decide +kernel
theorem dX8_commit_137 : decode cX8_commit 137 = .ok (.iconst 0, 1) := by decide +kernel
theorem dX8_commit_138 : decode cX8_commit 138 = .ok (.goto 7, 3) := by decide +kernel
theorem dX8_commit_141 : decode cX8_commit 141 = .ok (.aload_n 0, 1) := by decide +kernel
theorem dX8_commit_142 : decode cX8_commit 142 = .ok (.getfield 124, 3) := by decide +kernel
theorem dX8_commit_145 : decode cX8_commit 145 = .ok (.putfield 124, 3) := by decide +kernel
theorem dX8_commit_148 : decode cX8_commit 148 = .ok (.iload_n 2, 1) := by decide +kernel
theorem dX8_commit_149 : decode cX8_commit 149 = .ok (.ireturn, 1) := by decide +kernel
theorem dX8_commit_150 : decode cX8_commit 150 = .ok (.aload_n 0, 1) := by decide +kernel
theorem dX8_commit_151 : decode cX8_commit 151 = .ok (.iconst 0, 1) := by decide +kernel
theorem dX8_commit_152 : decode cX8_commit 152 = .ok (.putfield 124, 3) := by decide +kernel
theorem dX8_commit_155 : decode cX8_commit 155 = .ok (.iconst 0, 1) := by decide +kernel
theorem dX8_commit_156 : decode cX8_commit 156 = .ok (.istore_n 3, 1) := by decide +kernel
theorem dX8_commit_157 : decode cX8_commit 157 = .ok (.iload_n 3, 1) := by decide +kernel
theorem dX8_commit_158 : decode cX8_commit 158 = .ok (.aload_n 0, 1) := by decide +kernel
theorem dX8_commit_159 : decode cX8_commit 159 = .ok (.getfield 71, 3) := by decide +kernel
theorem dX8_commit_162 : decode cX8_commit 162 = .ok (.if_icmp .ge 44, 3) := by decide +kernel
theorem dX8_commit_165 : decode cX8_commit 165 = .ok (.aload_n 0, 1) := by decide +kernel
theorem dX8_commit_166 : decode cX8_commit 166 = .ok (.aload_n 0, 1) := by decide +kernel
theorem dX8_commit_167 : decode cX8_commit 167 = .ok (.getfield 64, 3) := by decide +kernel
theorem dX8_commit_170 : decode cX8_commit 170 = .ok (.sipush 3660, 3) := by decide +kernel
theorem dX8_commit_173 : decode cX8_commit 173 = .ok (.iload_n 3, 1) := by decide +kernel
theorem dX8_commit_174 : decode cX8_commit 174 = .ok (.iadd, 1) := by decide +kernel
theorem dX8_commit_175 : decode cX8_commit 175 = .ok (.iaload, 1) := by decide +kernel
theorem dX8_commit_176 : decode cX8_commit 176 = .ok (.aload_n 0, 1) := by decide +kernel
theorem dX8_commit_177 : decode cX8_commit 177 = .ok (.iload_n 3, 1) := by decide +kernel
theorem dX8_commit_178 : decode cX8_commit 178 = .ok (.invokevirtual 111, 3) := by decide +kernel
theorem dX8_commit_181 : decode cX8_commit 181 = .ok (.if_icmp .eq 12, 3) := by decide +kernel
theorem dX8_commit_184 : decode cX8_commit 184 = .ok (.aload_n 0, 1) := by decide +kernel
theorem dX8_commit_185 : decode cX8_commit 185 = .ok (.getfield 124, 3) := by decide +kernel
theorem dX8_commit_188 : decode cX8_commit 188 = .ok (.iconst 1, 1) := by decide +kernel
theorem dX8_commit_189 : decode cX8_commit 189 = .ok (.iadd, 1) := by decide +kernel
theorem dX8_commit_190 : decode cX8_commit 190 = .ok (.goto 7, 3) := by decide +kernel
theorem dX8_commit_193 : decode cX8_commit 193 = .ok (.aload_n 0, 1) := by decide +kernel
theorem dX8_commit_194 : decode cX8_commit 194 = .ok (.getfield 124, 3) := by decide +kernel
theorem dX8_commit_197 : decode cX8_commit 197 = .ok (.putfield 124, 3) := by decide +kernel
theorem dX8_commit_200 : decode cX8_commit 200 = .ok (.iinc 3 1, 3) := by decide +kernel
theorem dX8_commit_203 : decode cX8_commit 203 = .ok (.goto (-46), 3) := by decide +kernel
theorem dX8_commit_206 : decode cX8_commit 206 = .ok (.iload_n 1, 1) := by decide +kernel
theorem dX8_commit_207 : decode cX8_commit 207 = .ok (.ifCond .le 59, 3) := by decide +kernel
theorem dX8_commit_210 : decode cX8_commit 210 = .ok (.aload_n 0, 1) := by decide +kernel
theorem dX8_commit_211 : decode cX8_commit 211 = .ok (.invokevirtual 87, 3) := by decide +kernel
theorem dX8_commit_214 : decode cX8_commit 214 = .ok (.sipush 3720, 3) := by decide +kernel
theorem dX8_commit_217 : decode cX8_commit 217 = .ok (.aload_n 0, 1) := by decide +kernel
theorem dX8_commit_218 : decode cX8_commit 218 = .ok (.getfield 77, 3) := by decide +kernel
theorem dX8_commit_221 : decode cX8_commit 221 = .ok (.aload_n 0, 1) := by decide +kernel
theorem dX8_commit_222 : decode cX8_commit 222 = .ok (.getfield 74, 3) := by decide +kernel
theorem dX8_commit_225 : decode cX8_commit 225 = .ok (.iadd, 1) := by decide +kernel
theorem dX8_commit_226 : decode cX8_commit 226 = .ok (.iconst 1, 1) := by decide +kernel
theorem dX8_commit_227 : decode cX8_commit 227 = .ok (.isub, 1) := by decide +kernel
theorem dX8_commit_228 : decode cX8_commit 228 = .ok (.bipush 64, 2) := by decide +kernel
theorem dX8_commit_230 : decode cX8_commit 230 = .ok (.irem, 1) := by decide +kernel
theorem dX8_commit_231 : decode cX8_commit 231 = .ok (.imul, 1) := by decide +kernel
theorem dX8_commit_232 : decode cX8_commit 232 = .ok (.istore_n 3, 1) := by decide +kernel
theorem dX8_commit_233 : decode cX8_commit 233 = .ok (.iconst 0, 1) := by decide +kernel
theorem dX8_commit_234 : decode cX8_commit 234 = .ok (.istore 4, 2) := by decide +kernel
theorem dX8_commit_236 : decode cX8_commit 236 = .ok (.iload 4, 2) := by decide +kernel
theorem dX8_commit_238 : decode cX8_commit 238 = .ok (.sipush 3720, 3) := by decide +kernel
theorem dX8_commit_241 : decode cX8_commit 241 = .ok (.if_icmp .ge 25, 3) := by decide +kernel
theorem dX8_commit_244 : decode cX8_commit 244 = .ok (.aload_n 0, 1) := by decide +kernel
theorem dX8_commit_245 : decode cX8_commit 245 = .ok (.getfield 14, 3) := by decide +kernel
theorem dX8_commit_248 : decode cX8_commit 248 = .ok (.iload_n 3, 1) := by decide +kernel
theorem dX8_commit_249 : decode cX8_commit 249 = .ok (.iload 4, 2) := by decide +kernel
theorem dX8_commit_251 : decode cX8_commit 251 = .ok (.iadd, 1) := by decide +kernel
theorem dX8_commit_252 : decode cX8_commit 252 = .ok (.aload_n 0, 1) := by decide +kernel
theorem dX8_commit_253 : decode cX8_commit 253 = .ok (.getfield 64, 3) := by decide +kernel
theorem dX8_commit_256 : decode cX8_commit 256 = .ok (.iload 4, 2) := by decide +kernel
theorem dX8_commit_258 : decode cX8_commit 258 = .ok (.iaload, 1) := by decide +kernel
theorem dX8_commit_259 : decode cX8_commit 259 = .ok (.iastore, 1) := by decide +kernel
theorem dX8_commit_260 : decode cX8_commit 260 = .ok (.iinc 4 1, 3) := by decide +kernel
theorem dX8_commit_263 : decode cX8_commit 263 = .ok (.goto (-27), 3) := by decide +kernel
theorem dX8_commit_266 : decode cX8_commit 266 = .ok (.iload_n 1, 1) := by decide +kernel
theorem dX8_commit_267 : decode cX8_commit 267 = .ok (.ireturn, 1) := by decide +kernel
set_option maxRecDepth 20000 in
theorem ggX8_undo_X8_changed : GoodIn wsX8_undo wsX8_changed := goodIn_r _ [10, 11, 12, 13, 14, 15, 16, 17, 18, 19, 20, 21, 22, 23, 24, 25, 26, 27, 28, 29, 30, 31, 32, 33, 34, 35, 36, 37, 38, 39, 40, 41] (by decide +kernel) (by decide +kernel)
set_option maxRecDepth 20000 in
theorem gX8_undo_X8_changed : GoodIn wsX8_undo (wsV RX8 80 RX8 yX8_changed wsX8_changed) := goodIn_app (goodIn_of _ (by decide +kernel)) ggX8_undo_X8_changed
theorem dX8_undo_0 : decode cX8_undo 0 = .ok (.aload_n 0, 1) := by decide +kernel
theorem dX8_undo_1 : decode cX8_undo 1 = .ok (.iconst 0, 1) := by decide +kernel
theorem dX8_undo_2 : decode cX8_undo 2 = .ok (.putfield 67, 3) := by decide +kernel
theorem dX8_undo_5 : decode cX8_undo 5 = .ok (.aload_n 0, 1) := by decide +kernel
theorem dX8_undo_6 : decode cX8_undo 6 = .ok (.getfield 74, 3) := by decide +kernel
theorem dX8_undo_9 : decode cX8_undo 9 = .ok (.ifCond .ne 5, 3) := by decide +kernel
theorem dX8_undo_12 : decode cX8_undo 12 = .ok (.iconst 0, 1) := by decide +kernel
theorem dX8_undo_13 : decode cX8_undo 13 = .ok (.ireturn, 1) := by decide +kernel
theorem dX8_undo_14 : decode cX8_undo 14 = .ok (.aload_n 0, 1) := by decide +kernel
theorem dX8_undo_15 : decode cX8_undo 15 = .ok (.dup, 1) := by decide +kernel
theorem dX8_undo_16 : decode cX8_undo 16 = .ok (.getfield 74, 3) := by decide +kernel
theorem dX8_undo_19 : decode cX8_undo 19 = .ok (.iconst 1, 1) := by decide +kernel
theorem dX8_undo_20 : decode cX8_undo 20 = .ok (.isub, 1) := by decide +kernel
theorem dX8_undo_21 : decode cX8_undo 21 = .ok (.putfield 74, 3) := by decide +kernel
theorem dX8_undo_24 : decode cX8_undo 24 = .ok (.sipush 3720, 3) := by decide +kernel
theorem dX8_undo_27 : decode cX8_undo 27 = .ok (.aload_n 0, 1) := by decide +kernel
theorem dX8_undo_28 : decode cX8_undo 28 = .ok (.getfield 77, 3) := by decide +kernel
theorem dX8_undo_31 : decode cX8_undo 31 = .ok (.aload_n 0, 1) := by decide +kernel
theorem dX8_undo_32 : decode cX8_undo 32 = .ok (.getfield 74, 3) := by decide +kernel
theorem dX8_undo_35 : decode cX8_undo 35 = .ok (.iadd, 1) := by decide +kernel
theorem dX8_undo_36 : decode cX8_undo 36 = .ok (.bipush 64, 2) := by decide +kernel
theorem dX8_undo_38 : decode cX8_undo 38 = .ok (.irem, 1) := by decide +kernel
theorem dX8_undo_39 : decode cX8_undo 39 = .ok (.imul, 1) := by decide +kernel
theorem dX8_undo_40 : decode cX8_undo 40 = .ok (.istore_n 1, 1) := by decide +kernel
theorem dX8_undo_41 : decode cX8_undo 41 = .ok (.iconst 0, 1) := by decide +kernel
theorem dX8_undo_42 : decode cX8_undo 42 = .ok (.istore_n 2, 1) := by decide +kernel
theorem dX8_undo_43 : decode cX8_undo 43 = .ok (.iload_n 2, 1) := by decide +kernel
theorem dX8_undo_44 : decode cX8_undo 44 = .ok (.sipush 3720, 3) := by decide +kernel
theorem dX8_undo_47 : decode cX8_undo 47 = .ok (.if_icmp .ge 23, 3) := by decide +kernel
theorem dX8_undo_50 : decode cX8_undo 50 = .ok (.aload_n 0, 1) := by decide +kernel
theorem dX8_undo_51 : decode cX8_undo 51 = .ok (.getfield 7, 3) := by decide +kernel
theorem dX8_undo_54 : decode cX8_undo 54 = .ok (.iload_n 2, 1) := by decide +kernel
theorem dX8_undo_55 : decode cX8_undo 55 = .ok (.aload_n 0, 1) := by decide +kernel
theorem dX8_undo_56 : decode cX8_undo 56 = .ok (.getfield 14, 3) := by decide +kernel
theorem dX8_undo_59 : decode cX8_undo 59 = .ok (.iload_n 1, 1) := by decide +kernel
theorem dX8_undo_60 : decode cX8_undo 60 = .ok (.iload_n 2, 1) := by decide +kernel
theorem dX8_undo_61 : decode cX8_undo 61 = .ok (.iadd, 1) := by decide +kernel
theorem dX8_undo_62 : decode cX8_undo 62 = .ok (.iaload, 1) := by decide +kernel
theorem dX8_undo_63 : decode cX8_undo 63 = .ok (.iastore, 1) := by decide +kernel
theorem dX8_undo_64 : decode cX8_undo 64 = .ok (.iinc 2 1, 3) := by decide +kernel
theorem dX8_undo_67 : decode cX8_undo 67 = .ok (.goto (-24), 3) := by decide +kernel
theorem dX8_undo_70 : decode cX8_undo 70 = .ok (.aload_n 0, 1) := by decide +kernel
theorem dX8_undo_71 : decode cX8_undo 71 = .ok (.invokevirtual 80, 3) := by decide +kernel
theorem dX8_undo_74 : decode cX8_undo 74 = .ok (.iconst 1, 1) := by decide +kernel
theorem dX8_undo_75 : decode cX8_undo 75 = .ok (.ireturn, 1) := by decide +kernel
set_option maxRecDepth 20000 in
theorem ggX8_place_X8_has : GoodIn wsX8_place wsX8_has := goodIn_r _ [6, 7, 13, 14, 15, 16, 17, 18, 19, 20, 21, 22, 23, 24, 25, 26, 27, 28, 29, 30, 31, 32, 33, 34, 35, 36, 37, 38, 39, 40, 41] (by decide +kernel) (by decide +kernel)
set_option maxRecDepth 20000 in
theorem gX8_place_X8_has : GoodIn wsX8_place (wsV RX8 83 RX8 yX8_has wsX8_has) := goodIn_app (goodIn_of _ (by decide +kernel)) ggX8_place_X8_has
set_option maxRecDepth 20000 in
theorem ggX8_place_X8_placeOf : GoodIn wsX8_place wsX8_placeOf := goodIn_r _ [11, 12, 13, 14, 15, 16, 17, 18, 19, 20, 21, 22, 23, 24, 25, 26, 27, 28, 29, 30, 31, 32, 33, 34, 35, 36, 37, 38, 39, 40, 41] (by decide +kernel) (by decide +kernel)
set_option maxRecDepth 20000 in
theorem gX8_place_X8_placeOf : GoodIn wsX8_place (wsV RX8 111 RX8 yX8_placeOf wsX8_placeOf) := goodIn_app (goodIn_of _ (by decide +kernel)) ggX8_place_X8_placeOf
theorem dX8_place_0 : decode cX8_place 0 = .ok (.aload_n 0, 1) := by decide +kernel
theorem dX8_place_1 : decode cX8_place 1 = .ok (.iconst 0, 1) := by decide +kernel
theorem dX8_place_2 : decode cX8_place 2 = .ok (.putfield 67, 3) := by decide +kernel
theorem dX8_place_5 : decode cX8_place 5 = .ok (.aload_n 0, 1) := by decide +kernel
theorem dX8_place_6 : decode cX8_place 6 = .ok (.iload_n 1, 1) := by decide +kernel
theorem dX8_place_7 : decode cX8_place 7 = .ok (.invokevirtual 83, 3) := by decide +kernel
theorem dX8_place_10 : decode cX8_place 10 = .ok (.ifCond .eq 11, 3) := by decide +kernel
theorem dX8_place_13 : decode cX8_place 13 = .ok (.aload_n 0, 1) := by decide +kernel
theorem dX8_place_14 : decode cX8_place 14 = .ok (.iload_n 1, 1) := by decide +kernel
theorem dX8_place_15 : decode cX8_place 15 = .ok (.invokevirtual 111, 3) := by decide +kernel
theorem dX8_place_18 : decode cX8_place 18 = .ok (.goto 4, 3) := by decide +kernel
theorem dX8_place_21 : decode cX8_place 21 = .ok (.iconst (-1), 1) := by decide +kernel
theorem dX8_place_22 : decode cX8_place 22 = .ok (.ireturn, 1) := by decide +kernel
set_option maxRecDepth 20000 in
theorem ggX8_at_X8_taskAt : GoodIn wsX8_at wsX8_taskAt := goodIn_r _ [6, 7, 8, 9, 10, 5, 11, 12, 13, 14, 15, 16, 17, 18, 19, 20, 21, 22, 23, 24, 25, 26, 27, 28, 29, 30, 31, 32, 33, 34, 35, 36, 37, 38, 39, 40, 41] (by decide +kernel) (by decide +kernel)
set_option maxRecDepth 20000 in
theorem gX8_at_X8_taskAt : GoodIn wsX8_at (wsV RX8 118 RX8 yX8_taskAt wsX8_taskAt) := goodIn_app (goodIn_of _ (by decide +kernel)) ggX8_at_X8_taskAt
theorem dX8_at_0 : decode cX8_at 0 = .ok (.aload_n 0, 1) := by decide +kernel
theorem dX8_at_1 : decode cX8_at 1 = .ok (.iconst 0, 1) := by decide +kernel
theorem dX8_at_2 : decode cX8_at 2 = .ok (.putfield 67, 3) := by decide +kernel
theorem dX8_at_5 : decode cX8_at 5 = .ok (.iload_n 1, 1) := by decide +kernel
theorem dX8_at_6 : decode cX8_at 6 = .ok (.ifCond .ge 7, 3) := by decide +kernel
theorem dX8_at_9 : decode cX8_at 9 = .ok (.iconst (-1), 1) := by decide +kernel
theorem dX8_at_10 : decode cX8_at 10 = .ok (.goto 8, 3) := by decide +kernel
theorem dX8_at_13 : decode cX8_at 13 = .ok (.aload_n 0, 1) := by decide +kernel
theorem dX8_at_14 : decode cX8_at 14 = .ok (.iload_n 1, 1) := by decide +kernel
theorem dX8_at_15 : decode cX8_at 15 = .ok (.invokevirtual 118, 3) := by decide +kernel
theorem dX8_at_18 : decode cX8_at 18 = .ok (.ireturn, 1) := by decide +kernel
set_option maxRecDepth 20000 in
theorem ggX8_isNeedless_X8_isTied : GoodIn wsX8_isNeedless wsX8_isTied := goodIn_r _ [6, 7, 18, 19, 20, 21, 22, 23, 24, 25, 26, 27, 28, 29, 30, 31, 32, 33, 34, 35, 36, 37, 38, 39, 40, 41, 42, 43, 44, 45, 46] (by decide +kernel) (by decide +kernel)
set_option maxRecDepth 20000 in
theorem gX8_isNeedless_X8_isTied : GoodIn wsX8_isNeedless (wsV RX8 90 RX8 yX8_isTied wsX8_isTied) := goodIn_app (goodIn_of _ (by decide +kernel)) ggX8_isNeedless_X8_isTied
set_option maxRecDepth 20000 in
theorem ggX8_isNeedless_X8_doesReach : GoodIn wsX8_isNeedless wsX8_doesReach := goodIn_r _ [11, 12, 13, 14, 15, 16, 5, 17, 1, 2, 3, 4, 6, 7, 18, 19, 20, 21, 22, 23, 24, 25, 26, 27, 28, 29, 30, 31, 32, 33, 34, 35, 36, 37, 38, 39, 40, 41, 42, 43, 44, 45, 46] (by decide +kernel) (by decide +kernel)
set_option maxRecDepth 20000 in
theorem gX8_isNeedless_X8_doesReach : GoodIn wsX8_isNeedless (wsV RX8 115 RX8 yX8_doesReach wsX8_doesReach) := goodIn_app (goodIn_of _ (by decide +kernel)) ggX8_isNeedless_X8_doesReach
theorem dX8_isNeedless_0 : decode cX8_isNeedless 0 = .ok (.iconst 0, 1) := by decide +kernel
theorem dX8_isNeedless_1 : decode cX8_isNeedless 1 = .ok (.istore_n 3, 1) := by decide +kernel
theorem dX8_isNeedless_2 : decode cX8_isNeedless 2 = .ok (.iconst 0, 1) := by decide +kernel
theorem dX8_isNeedless_3 : decode cX8_isNeedless 3 = .ok (.istore 4, 2) := by decide +kernel
theorem dX8_isNeedless_5 : decode cX8_isNeedless 5 = .ok (.iload 4, 2) := by decide +kernel
theorem dX8_isNeedless_7 : decode cX8_isNeedless 7 = .ok (.aload_n 0, 1) := by decide +kernel
theorem dX8_isNeedless_8 : decode cX8_isNeedless 8 = .ok (.getfield 71, 3) := by decide +kernel
theorem dX8_isNeedless_11 : decode cX8_isNeedless 11 = .ok (.if_icmp .ge 45, 3) := by decide +kernel
theorem dX8_isNeedless_14 : decode cX8_isNeedless 14 = .ok (.iload_n 3, 1) := by decide +kernel
theorem dX8_isNeedless_15 : decode cX8_isNeedless 15 = .ok (.ifCond .ne 41, 3) := by decide +kernel
theorem dX8_isNeedless_18 : decode cX8_isNeedless 18 = .ok (.iload 4, 2) := by decide +kernel
theorem dX8_isNeedless_20 : decode cX8_isNeedless 20 = .ok (.iload_n 2, 1) := by decide +kernel
theorem dX8_isNeedless_21 : decode cX8_isNeedless 21 = .ok (.if_icmp .eq 27, 3) := by decide +kernel
theorem dX8_isNeedless_24 : decode cX8_isNeedless 24 = .ok (.aload_n 0, 1) := by decide +kernel
theorem dX8_isNeedless_25 : decode cX8_isNeedless 25 = .ok (.iload_n 1, 1) := by decide +kernel
theorem dX8_isNeedless_26 : decode cX8_isNeedless 26 = .ok (.iload 4, 2) := by decide +kernel
theorem dX8_isNeedless_28 : decode cX8_isNeedless 28 = .ok (.invokevirtual 90, 3) := by decide +kernel
theorem dX8_isNeedless_31 : decode cX8_isNeedless 31 = .ok (.ifCond .eq 17, 3) := by decide +kernel
theorem dX8_isNeedless_34 : decode cX8_isNeedless 34 = .ok (.aload_n 0, 1) := by decide +kernel
theorem dX8_isNeedless_35 : decode cX8_isNeedless 35 = .ok (.iload 4, 2) := by decide +kernel
theorem dX8_isNeedless_37 : decode cX8_isNeedless 37 = .ok (.iload_n 2, 1) := by decide +kernel
theorem dX8_isNeedless_38 : decode cX8_isNeedless 38 = .ok (.invokevirtual 115, 3) := by decide +kernel
theorem dX8_isNeedless_41 : decode cX8_isNeedless 41 = .ok (.ifCond .eq 7, 3) := by decide +kernel
theorem dX8_isNeedless_44 : decode cX8_isNeedless 44 = .ok (.iconst 1, 1) := by decide +kernel
theorem dX8_isNeedless_45 : decode cX8_isNeedless 45 = .ok (.goto 4, 3) := by decide +kernel
theorem dX8_isNeedless_48 : decode cX8_isNeedless 48 = .ok (.iconst 0, 1) := by decide +kernel
theorem dX8_isNeedless_49 : decode cX8_isNeedless 49 = .ok (.istore_n 3, 1) := by decide +kernel
theorem dX8_isNeedless_50 : decode cX8_isNeedless 50 = .ok (.iinc 4 1, 3) := by decide +kernel
theorem dX8_isNeedless_53 : decode cX8_isNeedless 53 = .ok (.goto (-48), 3) := by decide +kernel
theorem dX8_isNeedless_56 : decode cX8_isNeedless 56 = .ok (.iload_n 3, 1) := by decide +kernel
theorem dX8_isNeedless_57 : decode cX8_isNeedless 57 = .ok (.ireturn, 1) := by decide +kernel
set_option maxRecDepth 20000 in
theorem ggX8_needless_X8_isTied : GoodIn wsX8_needless wsX8_isTied := goodIn_r _ [6, 7, 22, 23, 24, 25, 26, 27, 28, 29, 30, 31, 32, 33, 34, 35, 36, 37, 38, 39, 40, 41, 42, 43, 44, 45, 46, 47, 48, 49, 50] (by decide +kernel) (by decide +kernel)
set_option maxRecDepth 20000 in
theorem gX8_needless_X8_isTied : GoodIn wsX8_needless (wsV RX8 90 RX8 yX8_isTied wsX8_isTied) := goodIn_app (goodIn_of _ (by decide +kernel)) ggX8_needless_X8_isTied
set_option maxRecDepth 20000 in
theorem ggX8_needless_X8_isNeedless : GoodIn wsX8_needless wsX8_isNeedless := goodIn_r _ [11, 1, 2, 3, 4, 5, 6, 7, 12, 13, 14, 15, 16, 17, 18, 19, 20, 21, 22, 23, 24, 25, 26, 27, 28, 29, 30, 31, 32, 33, 34, 35, 36, 37, 38, 39, 40, 41, 42, 43, 44, 45, 46, 47, 48, 49, 50] (by decide +kernel) (by decide +kernel)
set_option maxRecDepth 20000 in
theorem gX8_needless_X8_isNeedless : GoodIn wsX8_needless (wsV RX8 148 RX8 yX8_isNeedless wsX8_isNeedless) := goodIn_app (goodIn_of _ (by decide +kernel)) ggX8_needless_X8_isNeedless
theorem dX8_needless_0 : decode cX8_needless 0 = .ok (.iconst 0, 1) := by decide +kernel
theorem dX8_needless_1 : decode cX8_needless 1 = .ok (.istore_n 1, 1) := by decide +kernel
theorem dX8_needless_2 : decode cX8_needless 2 = .ok (.iconst 0, 1) := by decide +kernel
theorem dX8_needless_3 : decode cX8_needless 3 = .ok (.istore_n 2, 1) := by decide +kernel
theorem dX8_needless_4 : decode cX8_needless 4 = .ok (.iload_n 2, 1) := by decide +kernel
theorem dX8_needless_5 : decode cX8_needless 5 = .ok (.aload_n 0, 1) := by decide +kernel
theorem dX8_needless_6 : decode cX8_needless 6 = .ok (.getfield 71, 3) := by decide +kernel
theorem dX8_needless_9 : decode cX8_needless 9 = .ok (.if_icmp .ge 51, 3) := by decide +kernel
theorem dX8_needless_12 : decode cX8_needless 12 = .ok (.iconst 0, 1) := by decide +kernel
theorem dX8_needless_13 : decode cX8_needless 13 = .ok (.istore_n 3, 1) := by decide +kernel
theorem dX8_needless_14 : decode cX8_needless 14 = .ok (.iload_n 3, 1) := by decide +kernel
theorem dX8_needless_15 : decode cX8_needless 15 = .ok (.aload_n 0, 1) := by decide +kernel
theorem dX8_needless_16 : decode cX8_needless 16 = .ok (.getfield 71, 3) := by decide +kernel
theorem dX8_needless_19 : decode cX8_needless 19 = .ok (.if_icmp .ge 35, 3) := by decide +kernel
theorem dX8_needless_22 : decode cX8_needless 22 = .ok (.aload_n 0, 1) := by decide +kernel
theorem dX8_needless_23 : decode cX8_needless 23 = .ok (.iload_n 2, 1) := by decide +kernel
theorem dX8_needless_24 : decode cX8_needless 24 = .ok (.iload_n 3, 1) := by decide +kernel
theorem dX8_needless_25 : decode cX8_needless 25 = .ok (.invokevirtual 90, 3) := by decide +kernel
