theorem dX7_place_5 : decode cX7_place 5 = .ok (.invokevirtual 76, 3) := by decide +kernel
theorem dX7_place_8 : decode cX7_place 8 = .ok (.ifCond .eq 15, 3) := by decide +kernel
theorem dX7_place_11 : decode cX7_place 11 = .ok (.aload_n 0, 1) := by decide +kernel
theorem dX7_place_12 : decode cX7_place 12 = .ok (.getfield 10, 3) := by decide +kernel
theorem dX7_place_15 : decode cX7_place 15 = .ok (.getfield 129, 3) := by decide +kernel
theorem dX7_place_18 : decode cX7_place 18 = .ok (.iload_n 1, 1) := by decide +kernel
theorem dX7_place_19 : decode cX7_place 19 = .ok (.iaload, 1) := by decide +kernel
theorem dX7_place_20 : decode cX7_place 20 = .ok (.goto 4, 3) := by decide +kernel
theorem dX7_place_23 : decode cX7_place 23 = .ok (.iconst (-1), 1) := by decide +kernel
theorem dX7_place_24 : decode cX7_place 24 = .ok (.ireturn, 1) := by decide +kernel
set_option maxRecDepth 20000 in
theorem ggX7_at_X2_isTask : GoodIn wsX7_at wsX2_isTask := goodIn_r _ [7, 8, 17, 18, 19, 20, 21, 22, 23] (by decide +kernel) (by decide +kernel)
set_option maxRecDepth 20000 in
theorem gX7_at_X2_isTask : GoodIn wsX7_at (wsV RX7 76 RX2 yX2_isTask wsX2_isTask) := goodIn_app (goodIn_of _ (by decide +kernel)) ggX7_at_X2_isTask
theorem dX7_at_0 : decode cX7_at 0 = .ok (.aload_n 0, 1) := by decide +kernel
theorem dX7_at_1 : decode cX7_at 1 = .ok (.getfield 10, 3) := by decide +kernel
theorem dX7_at_4 : decode cX7_at 4 = .ok (.iload_n 1, 1) := by decide +kernel
theorem dX7_at_5 : decode cX7_at 5 = .ok (.invokevirtual 76, 3) := by decide +kernel
theorem dX7_at_8 : decode cX7_at 8 = .ok (.ifCond .eq 15, 3) := by decide +kernel
theorem dX7_at_11 : decode cX7_at 11 = .ok (.aload_n 0, 1) := by decide +kernel
theorem dX7_at_12 : decode cX7_at 12 = .ok (.getfield 10, 3) := by decide +kernel
theorem dX7_at_15 : decode cX7_at 15 = .ok (.getfield 132, 3) := by decide +kernel
theorem dX7_at_18 : decode cX7_at 18 = .ok (.iload_n 1, 1) := by decide +kernel
theorem dX7_at_19 : decode cX7_at 19 = .ok (.iaload, 1) := by decide +kernel
theorem dX7_at_20 : decode cX7_at 20 = .ok (.goto 4, 3) := by decide +kernel
theorem dX7_at_23 : decode cX7_at 23 = .ok (.iconst (-1), 1) := by decide +kernel
theorem dX7_at_24 : decode cX7_at 24 = .ok (.ireturn, 1) := by decide +kernel
set_option maxRecDepth 20000 in
theorem ggX7_count_X2_countSpareTies : GoodIn wsX7_count wsX2_countSpareTies := goodIn_r _ [17, 18, 19, 20, 21, 16, 22, 23, 24, 25, 26, 27, 28, 29, 30, 31, 32, 33, 34, 35, 36, 37, 38, 39, 40, 73, 74, 75, 76, 77, 78, 79] (by decide +kernel) (by decide +kernel)
set_option maxRecDepth 20000 in
theorem gX7_count_X2_countSpareTies : GoodIn wsX7_count (wsV RX7 144 RX2 yX2_countSpareTies wsX2_countSpareTies) := goodIn_app (goodIn_of _ (by decide +kernel)) ggX7_count_X2_countSpareTies
set_option maxRecDepth 20000 in
theorem ggX7_count_X6_measure : GoodIn wsX7_count wsX6_measure := goodIn_r _ [45, 46, 47, 48, 44, 49, 50, 51, 52, 53, 54, 55, 56, 57, 58, 59, 20, 21, 16, 22, 23, 24, 25, 26, 60, 61, 62, 63, 64, 90, 91, 92, 73, 74, 75, 76, 77, 78, 79] (by decide +kernel) (by decide +kernel)
set_option maxRecDepth 20000 in
theorem gX7_count_X6_measure : GoodIn wsX7_count (wsV RX7 147 RX6 yX6_measure wsX6_measure) := goodIn_app (goodIn_of _ (by decide +kernel)) ggX7_count_X6_measure
theorem dX7_count_0 : decode cX7_count 0 = .ok (.iload_n 1, 1) := by decide +kernel
theorem dX7_count_1 : decode cX7_count 1 = .ok (.tableswitch 119 0 7 #[47, 55, 63, 71, 79, 87, 92, 100], 47) := by decide +kernel
theorem dX7_count_48 : decode cX7_count 48 = .ok (.aload_n 0, 1) := by decide +kernel
theorem dX7_count_49 : decode cX7_count 49 = .ok (.getfield 10, 3) := by decide +kernel
theorem dX7_count_52 : decode cX7_count 52 = .ok (.getfield 66, 3) := by decide +kernel
theorem dX7_count_55 : decode cX7_count 55 = .ok (.ireturn, 1) := by decide +kernel
theorem dX7_count_56 : decode cX7_count 56 = .ok (.aload_n 0, 1) := by decide +kernel
theorem dX7_count_57 : decode cX7_count 57 = .ok (.getfield 10, 3) := by decide +kernel
theorem dX7_count_60 : decode cX7_count 60 = .ok (.getfield 135, 3) := by decide +kernel
theorem dX7_count_63 : decode cX7_count 63 = .ok (.ireturn, 1) := by decide +kernel
theorem dX7_count_64 : decode cX7_count 64 = .ok (.aload_n 0, 1) := by decide +kernel
theorem dX7_count_65 : decode cX7_count 65 = .ok (.getfield 26, 3) := by decide +kernel
theorem dX7_count_68 : decode cX7_count 68 = .ok (.getfield 109, 3) := by decide +kernel
theorem dX7_count_71 : decode cX7_count 71 = .ok (.ireturn, 1) := by decide +kernel
theorem dX7_count_72 : decode cX7_count 72 = .ok (.aload_n 0, 1) := by decide +kernel
theorem dX7_count_73 : decode cX7_count 73 = .ok (.getfield 33, 3) := by decide +kernel
theorem dX7_count_76 : decode cX7_count 76 = .ok (.getfield 138, 3) := by decide +kernel
theorem dX7_count_79 : decode cX7_count 79 = .ok (.ireturn, 1) := by decide +kernel
theorem dX7_count_80 : decode cX7_count 80 = .ok (.aload_n 0, 1) := by decide +kernel
theorem dX7_count_81 : decode cX7_count 81 = .ok (.getfield 40, 3) := by decide +kernel
theorem dX7_count_84 : decode cX7_count 84 = .ok (.getfield 141, 3) := by decide +kernel
theorem dX7_count_87 : decode cX7_count 87 = .ok (.ireturn, 1) := by decide +kernel
theorem dX7_count_88 : decode cX7_count 88 = .ok (.aload_n 0, 1) := by decide +kernel
theorem dX7_count_89 : decode cX7_count 89 = .ok (.getfield 58, 3) := by decide +kernel
theorem dX7_count_92 : decode cX7_count 92 = .ok (.ireturn, 1) := by decide +kernel
theorem dX7_count_93 : decode cX7_count 93 = .ok (.aload_n 0, 1) := by decide +kernel
theorem dX7_count_94 : decode cX7_count 94 = .ok (.getfield 10, 3) := by decide +kernel
theorem dX7_count_97 : decode cX7_count 97 = .ok (.invokevirtual 144, 3) := by decide +kernel
theorem dX7_count_100 : decode cX7_count 100 = .ok (.ireturn, 1) := by decide +kernel
theorem dX7_count_101 : decode cX7_count 101 = .ok (.aload_n 0, 1) := by decide +kernel
theorem dX7_count_102 : decode cX7_count 102 = .ok (.getfield 47, 3) := by decide +kernel
theorem dX7_count_105 : decode cX7_count 105 = .ok (.aload_n 0, 1) := by decide +kernel
theorem dX7_count_106 : decode cX7_count 106 = .ok (.getfield 10, 3) := by decide +kernel
theorem dX7_count_109 : decode cX7_count 109 = .ok (.invokevirtual 147, 3) := by decide +kernel
theorem dX7_count_112 : decode cX7_count 112 = .ok (.aload_n 0, 1) := by decide +kernel
theorem dX7_count_113 : decode cX7_count 113 = .ok (.getfield 47, 3) := by decide +kernel
theorem dX7_count_116 : decode cX7_count 116 = .ok (.getfield 150, 3) := by decide +kernel
theorem dX7_count_119 : decode cX7_count 119 = .ok (.ireturn, 1) := by decide +kernel
theorem dX7_count_120 : decode cX7_count 120 = .ok (.iconst (-1), 1) := by decide +kernel
theorem dX7_count_121 : decode cX7_count 121 = .ok (.ireturn, 1) := by decide +kernel
set_option maxRecDepth 20000 in
theorem ggX7_reaches_X2_areTasks : GoodIn wsX7_reaches wsX2_areTasks := goodIn_r _ [6, 7, 8, 9, 5, 10, 11, 40, 41, 42, 43, 44, 45, 46] (by decide +kernel) (by decide +kernel)
set_option maxRecDepth 20000 in
theorem gX7_reaches_X2_areTasks : GoodIn wsX7_reaches (wsV RX7 90 RX2 yX2_areTasks wsX2_areTasks) := goodIn_app (goodIn_of _ (by decide +kernel)) ggX7_reaches_X2_areTasks
set_option maxRecDepth 20000 in
theorem ggX7_reaches_X2_leadsTo : GoodIn wsX7_reaches wsX2_leadsTo := goodIn_r _ [15, 16, 17, 18, 19, 5, 20, 21, 22, 23, 24, 25, 26, 27, 28, 29, 30, 31, 40, 41, 42, 43, 44, 45, 46] (by decide +kernel) (by decide +kernel)
set_option maxRecDepth 20000 in
theorem gX7_reaches_X2_leadsTo : GoodIn wsX7_reaches (wsV RX7 153 RX2 yX2_leadsTo wsX2_leadsTo) := goodIn_app (goodIn_of _ (by decide +kernel)) ggX7_reaches_X2_leadsTo
theorem dX7_reaches_0 : decode cX7_reaches 0 = .ok (.aload_n 0, 1) := by decide +kernel
theorem dX7_reaches_1 : decode cX7_reaches 1 = .ok (.getfield 10, 3) := by decide +kernel
theorem dX7_reaches_4 : decode cX7_reaches 4 = .ok (.iload_n 1, 1) := by decide +kernel
theorem dX7_reaches_5 : decode cX7_reaches 5 = .ok (.iload_n 2, 1) := by decide +kernel
theorem dX7_reaches_6 : decode cX7_reaches 6 = .ok (.invokevirtual 90, 3) := by decide +kernel
theorem dX7_reaches_9 : decode cX7_reaches 9 = .ok (.ifCond .ne 5, 3) := by decide +kernel
theorem dX7_reaches_12 : decode cX7_reaches 12 = .ok (.iconst (-1), 1) := by decide +kernel
theorem dX7_reaches_13 : decode cX7_reaches 13 = .ok (.ireturn, 1) := by decide +kernel
theorem dX7_reaches_14 : decode cX7_reaches 14 = .ok (.aload_n 0, 1) := by decide +kernel
theorem dX7_reaches_15 : decode cX7_reaches 15 = .ok (.getfield 10, 3) := by decide +kernel
theorem dX7_reaches_18 : decode cX7_reaches 18 = .ok (.iload_n 1, 1) := by decide +kernel
theorem dX7_reaches_19 : decode cX7_reaches 19 = .ok (.iload_n 2, 1) := by decide +kernel
theorem dX7_reaches_20 : decode cX7_reaches 20 = .ok (.invokevirtual 153, 3) := by decide +kernel
theorem dX7_reaches_23 : decode cX7_reaches 23 = .ok (.ifCond .eq 7, 3) := by decide +kernel
theorem dX7_reaches_26 : decode cX7_reaches 26 = .ok (.iconst 1, 1) := by decide +kernel
theorem dX7_reaches_27 : decode cX7_reaches 27 = .ok (.goto 4, 3) := by decide +kernel
theorem dX7_reaches_30 : decode cX7_reaches 30 = .ok (.iconst 0, 1) := by decide +kernel
theorem dX7_reaches_31 : decode cX7_reaches 31 = .ok (.ireturn, 1) := by decide +kernel
set_option maxRecDepth 20000 in
theorem ggX7_tied_X2_areTasks : GoodIn wsX7_tied wsX2_areTasks := goodIn_r _ [6, 7, 8, 9, 5, 10, 11, 42, 43, 44, 45, 46, 47, 48] (by decide +kernel) (by decide +kernel)
set_option maxRecDepth 20000 in
theorem gX7_tied_X2_areTasks : GoodIn wsX7_tied (wsV RX7 90 RX2 yX2_areTasks wsX2_areTasks) := goodIn_app (goodIn_of _ (by decide +kernel)) ggX7_tied_X2_areTasks
set_option maxRecDepth 20000 in
theorem ggX7_tied_X2_hasTie : GoodIn wsX7_tied wsX2_hasTie := goodIn_r _ [15, 16, 17, 18, 19, 42, 43, 44, 45, 46, 47, 48] (by decide +kernel) (by decide +kernel)
set_option maxRecDepth 20000 in
theorem gX7_tied_X2_hasTie : GoodIn wsX7_tied (wsV RX7 102 RX2 yX2_hasTie wsX2_hasTie) := goodIn_app (goodIn_of _ (by decide +kernel)) ggX7_tied_X2_hasTie
set_option maxRecDepth 20000 in
theorem ggX7_tied_X2_isSpareTie : GoodIn wsX7_tied wsX2_isSpareTie := goodIn_r _ [23, 16, 24, 25, 26, 18, 27, 28, 29, 30, 5, 31, 32, 33, 17, 19, 42, 43, 44, 45, 46, 47, 48] (by decide +kernel) (by decide +kernel)
set_option maxRecDepth 20000 in
theorem gX7_tied_X2_isSpareTie : GoodIn wsX7_tied (wsV RX7 156 RX2 yX2_isSpareTie wsX2_isSpareTie) := goodIn_app (goodIn_of _ (by decide +kernel)) ggX7_tied_X2_isSpareTie
theorem dX7_tied_0 : decode cX7_tied 0 = .ok (.aload_n 0, 1) := by decide +kernel
theorem dX7_tied_1 : decode cX7_tied 1 = .ok (.getfield 10, 3) := by decide +kernel
theorem dX7_tied_4 : decode cX7_tied 4 = .ok (.iload_n 1, 1) := by decide +kernel
theorem dX7_tied_5 : decode cX7_tied 5 = .ok (.iload_n 2, 1) := by decide +kernel
theorem dX7_tied_6 : decode cX7_tied 6 = .ok (.invokevirtual 90, 3) := by decide +kernel
theorem dX7_tied_9 : decode cX7_tied 9 = .ok (.ifCond .ne 5, 3) := by decide +kernel
theorem dX7_tied_12 : decode cX7_tied 12 = .ok (.iconst (-1), 1) := by decide +kernel
theorem dX7_tied_13 : decode cX7_tied 13 = .ok (.ireturn, 1) := by decide +kernel
theorem dX7_tied_14 : decode cX7_tied 14 = .ok (.aload_n 0, 1) := by decide +kernel
theorem dX7_tied_15 : decode cX7_tied 15 = .ok (.getfield 10, 3) := by decide +kernel
theorem dX7_tied_18 : decode cX7_tied 18 = .ok (.iload_n 1, 1) := by decide +kernel
theorem dX7_tied_19 : decode cX7_tied 19 = .ok (.iload_n 2, 1) := by decide +kernel
theorem dX7_tied_20 : decode cX7_tied 20 = .ok (.invokevirtual 102, 3) := by decide +kernel
theorem dX7_tied_23 : decode cX7_tied 23 = .ok (.ifCond .ne 5, 3) := by decide +kernel
theorem dX7_tied_26 : decode cX7_tied 26 = .ok (.iconst 0, 1) := by decide +kernel
theorem dX7_tied_27 : decode cX7_tied 27 = .ok (.ireturn, 1) := by decide +kernel
theorem dX7_tied_28 : decode cX7_tied 28 = .ok (.aload_n 0, 1) := by decide +kernel
theorem dX7_tied_29 : decode cX7_tied 29 = .ok (.getfield 10, 3) := by decide +kernel
theorem dX7_tied_32 : decode cX7_tied 32 = .ok (.iload_n 1, 1) := by decide +kernel
theorem dX7_tied_33 : decode cX7_tied 33 = .ok (.iload_n 2, 1) := by decide +kernel
theorem dX7_tied_34 : decode cX7_tied 34 = .ok (.invokevirtual 156, 3) := by decide +kernel
theorem dX7_tied_37 : decode cX7_tied 37 = .ok (.ifCond .eq 7, 3) := by decide +kernel
theorem dX7_tied_40 : decode cX7_tied 40 = .ok (.iconst 2, 1) := by decide +kernel
theorem dX7_tied_41 : decode cX7_tied 41 = .ok (.goto 4, 3) := by decide +kernel
theorem dX7_tied_44 : decode cX7_tied 44 = .ok (.iconst 1, 1) := by decide +kernel
theorem dX7_tied_45 : decode cX7_tied 45 = .ok (.ireturn, 1) := by decide +kernel
theorem dX7_witness_0 : decode cX7_witness 0 = .ok (.iload_n 1, 1) := by decide +kernel
theorem dX7_witness_1 : decode cX7_witness 1 = .ok (.ifCond .lt 26, 3) := by decide +kernel
theorem dX7_witness_4 : decode cX7_witness 4 = .ok (.iload_n 1, 1) := by decide +kernel
theorem dX7_witness_5 : decode cX7_witness 5 = .ok (.aload_n 0, 1) := by decide +kernel
theorem dX7_witness_6 : decode cX7_witness 6 = .ok (.getfield 40, 3) := by decide +kernel
theorem dX7_witness_9 : decode cX7_witness 9 = .ok (.getfield 141, 3) := by decide +kernel
theorem dX7_witness_12 : decode cX7_witness 12 = .ok (.if_icmp .ge 15, 3) := by decide +kernel
theorem dX7_witness_15 : decode cX7_witness 15 = .ok (.aload_n 0, 1) := by decide +kernel
theorem dX7_witness_16 : decode cX7_witness 16 = .ok (.getfield 40, 3) := by decide +kernel
theorem dX7_witness_19 : decode cX7_witness 19 = .ok (.getfield 159, 3) := by decide +kernel
theorem dX7_witness_22 : decode cX7_witness 22 = .ok (.iload_n 1, 1) := by decide +kernel
theorem dX7_witness_23 : decode cX7_witness 23 = .ok (.iaload, 1) := by decide +kernel
theorem dX7_witness_24 : decode cX7_witness 24 = .ok (.goto 4, 3) := by decide +kernel
theorem dX7_witness_27 : decode cX7_witness 27 = .ok (.iconst (-1), 1) := by decide +kernel
theorem dX7_witness_28 : decode cX7_witness 28 = .ok (.ireturn, 1) := by decide +kernel
set_option maxRecDepth 20000 in
theorem ggX7_time_X2_isTask : GoodIn wsX7_time wsX2_isTask := goodIn_r _ [10, 11, 63, 64, 65, 66, 67, 68, 69] (by decide +kernel) (by decide +kernel)
set_option maxRecDepth 20000 in
theorem gX7_time_X2_isTask : GoodIn wsX7_time (wsV RX7 76 RX2 yX2_isTask wsX2_isTask) := goodIn_app (goodIn_of _ (by decide +kernel)) ggX7_time_X2_isTask
set_option maxRecDepth 20000 in
theorem ggX7_time_X6_measure : GoodIn wsX7_time wsX6_measure := goodIn_r _ [16, 17, 18, 19, 15, 20, 21, 22, 23, 24, 25, 26, 27, 28, 29, 30, 31, 32, 9, 33, 34, 35, 36, 37, 38, 39, 40, 41, 42, 60, 61, 62, 63, 64, 65, 66, 67, 68, 69] (by decide +kernel) (by decide +kernel)
set_option maxRecDepth 20000 in
theorem gX7_time_X6_measure : GoodIn wsX7_time (wsV RX7 147 RX6 yX6_measure wsX6_measure) := goodIn_app (goodIn_of _ (by decide +kernel)) ggX7_time_X6_measure
set_option maxRecDepth 20000 in
theorem ggX7_time_X6_lateOf : GoodIn wsX7_time wsX6_lateOf := goodIn_r _ [46, 21, 42, 60, 61, 62] (by decide +kernel) (by decide +kernel)
set_option maxRecDepth 20000 in
theorem gX7_time_X6_lateOf : GoodIn wsX7_time (wsV RX7 165 RX6 yX6_lateOf wsX6_lateOf) := goodIn_app (goodIn_of _ (by decide +kernel)) ggX7_time_X6_lateOf
set_option maxRecDepth 20000 in
theorem ggX7_time_X6_isCritical : GoodIn wsX7_time wsX6_isCritical := goodIn_r _ [50, 24, 51, 44, 45, 15, 46, 21, 42, 60, 61, 62] (by decide +kernel) (by decide +kernel)
set_option maxRecDepth 20000 in
theorem gX7_time_X6_isCritical : GoodIn wsX7_time (wsV RX7 171 RX6 yX6_isCritical wsX6_isCritical) := goodIn_app (goodIn_of _ (by decide +kernel)) ggX7_time_X6_isCritical
theorem dX7_time_0 : decode cX7_time 0 = .ok (.aload_n 0, 1) := by decide +kernel
theorem dX7_time_1 : decode cX7_time 1 = .ok (.getfield 10, 3) := by decide +kernel
theorem dX7_time_4 : decode cX7_time 4 = .ok (.iload_n 1, 1) := by decide +kernel
theorem dX7_time_5 : decode cX7_time 5 = .ok (.invokevirtual 76, 3) := by decide +kernel
theorem dX7_time_8 : decode cX7_time 8 = .ok (.ifCond .ne 5, 3) := by decide +kernel
theorem dX7_time_11 : decode cX7_time 11 = .ok (.iconst (-1), 1) := by decide +kernel
theorem dX7_time_12 : decode cX7_time 12 = .ok (.ireturn, 1) := by decide +kernel
theorem dX7_time_13 : decode cX7_time 13 = .ok (.aload_n 0, 1) := by decide +kernel
theorem dX7_time_14 : decode cX7_time 14 = .ok (.getfield 47, 3) := by decide +kernel
theorem dX7_time_17 : decode cX7_time 17 = .ok (.aload_n 0, 1) := by decide +kernel
theorem dX7_time_18 : decode cX7_time 18 = .ok (.getfield 10, 3) := by decide +kernel
theorem dX7_time_21 : decode cX7_time 21 = .ok (.invokevirtual 147, 3) := by decide +kernel
theorem dX7_time_24 : decode cX7_time 24 = .ok (.iload_n 2, 1) := by decide +kernel
theorem dX7_time_25 : decode cX7_time 25 = .ok (.tableswitch 91 0 4 #[35, 45, 54, 64, 74], 35) := by decide +kernel
theorem dX7_time_60 : decode cX7_time 60 = .ok (.aload_n 0, 1) := by decide +kernel
theorem dX7_time_61 : decode cX7_time 61 = .ok (.getfield 47, 3) := by decide +kernel
theorem dX7_time_64 : decode cX7_time 64 = .ok (.getfield 162, 3) := by decide +kernel
theorem dX7_time_67 : decode cX7_time 67 = .ok (.iload_n 1, 1) := by decide +kernel
theorem dX7_time_68 : decode cX7_time 68 = .ok (.iaload, 1) := by decide +kernel
theorem dX7_time_69 : decode cX7_time 69 = .ok (.ireturn, 1) := by decide +kernel
theorem dX7_time_70 : decode cX7_time 70 = .ok (.aload_n 0, 1) := by decide +kernel
theorem dX7_time_71 : decode cX7_time 71 = .ok (.getfield 47, 3) := by decide +kernel
theorem dX7_time_74 : decode cX7_time 74 = .ok (.iload_n 1, 1) := by decide +kernel
theorem dX7_time_75 : decode cX7_time 75 = .ok (.invokevirtual 165, 3) := by decide +kernel
theorem dX7_time_78 : decode cX7_time 78 = .ok (.ireturn, 1) := by decide +kernel
theorem dX7_time_79 : decode cX7_time 79 = .ok (.aload_n 0, 1) := by decide +kernel
theorem dX7_time_80 : decode cX7_time 80 = .ok (.getfield 47, 3) := by decide +kernel
theorem dX7_time_83 : decode cX7_time 83 = .ok (.getfield 168, 3) := by decide +kernel
theorem dX7_time_86 : decode cX7_time 86 = .ok (.iload_n 1, 1) := by decide +kernel
theorem dX7_time_87 : decode cX7_time 87 = .ok (.iaload, 1) := by decide +kernel
theorem dX7_time_88 : decode cX7_time 88 = .ok (.ireturn, 1) := by decide +kernel
theorem dX7_time_89 : decode cX7_time 89 = .ok (.aload_n 0, 1) := by decide +kernel
theorem dX7_time_90 : decode cX7_time 90 = .ok (.getfield 10, 3) := by decide +kernel
theorem dX7_time_93 : decode cX7_time 93 = .ok (.getfield 83, 3) := by decide +kernel
theorem dX7_time_96 : decode cX7_time 96 = .ok (.iload_n 1, 1) := by decide +kernel
theorem dX7_time_97 : decode cX7_time 97 = .ok (.iaload, 1) := by decide +kernel
theorem dX7_time_98 : decode cX7_time 98 = .ok (.ireturn, 1) := by decide +kernel
theorem dX7_time_99 : decode cX7_time 99 = .ok (.aload_n 0, 1) := by decide +kernel
theorem dX7_time_100 : decode cX7_time 100 = .ok (.getfield 47, 3) := by decide +kernel
theorem dX7_time_103 : decode cX7_time 103 = .ok (.iload_n 1, 1) := by decide +kernel
theorem dX7_time_104 : decode cX7_time 104 = .ok (.invokevirtual 171, 3) := by decide +kernel
theorem dX7_time_107 : decode cX7_time 107 = .ok (.ifCond .eq 7, 3) := by decide +kernel
theorem dX7_time_110 : decode cX7_time 110 = .ok (.iconst 1, 1) := by decide +kernel
theorem dX7_time_111 : decode cX7_time 111 = .ok (.goto 4, 3) := by decide +kernel
theorem dX7_time_114 : decode cX7_time 114 = .ok (.iconst 0, 1) := by decide +kernel
theorem dX7_time_115 : decode cX7_time 115 = .ok (.ireturn, 1) := by decide +kernel
theorem dX7_time_116 : decode cX7_time 116 = .ok (.iconst (-1), 1) := by decide +kernel
theorem dX7_time_117 : decode cX7_time 117 = .ok (.ireturn, 1) := by decide +kernel
set_option maxRecDepth 20000 in
theorem ggX7_critical_X2_isTask : GoodIn wsX7_critical wsX2_isTask := goodIn_r _ [7, 8, 64, 65, 66, 67, 68, 69, 70] (by decide +kernel) (by decide +kernel)
set_option maxRecDepth 20000 in
theorem gX7_critical_X2_isTask : GoodIn wsX7_critical (wsV RX7 76 RX2 yX2_isTask wsX2_isTask) := goodIn_app (goodIn_of _ (by decide +kernel)) ggX7_critical_X2_isTask
set_option maxRecDepth 20000 in
theorem ggX7_critical_X6_measure : GoodIn wsX7_critical wsX6_measure := goodIn_r _ [13, 14, 15, 16, 12, 17, 18, 19, 20, 21, 22, 23, 24, 25, 26, 27, 28, 29, 6, 30, 31, 32, 33, 34, 35, 36, 37, 38, 39, 71, 72, 73, 64, 65, 66, 67, 68, 69, 70] (by decide +kernel) (by decide +kernel)
set_option maxRecDepth 20000 in
theorem gX7_critical_X6_measure : GoodIn wsX7_critical (wsV RX7 147 RX6 yX6_measure wsX6_measure) := goodIn_app (goodIn_of _ (by decide +kernel)) ggX7_critical_X6_measure
set_option maxRecDepth 20000 in
theorem ggX7_critical_X6_firstCritical : GoodIn wsX7_critical wsX6_firstCritical := goodIn_r _ [43, 19, 21, 44, 45, 46, 12, 47, 48, 49, 50, 51, 18, 39, 64, 65, 66, 67, 68, 69, 70, 71, 72, 73] (by decide +kernel) (by decide +kernel)
set_option maxRecDepth 20000 in
theorem gX7_critical_X6_firstCritical : GoodIn wsX7_critical (wsV RX7 174 RX6 yX6_firstCritical wsX6_firstCritical) := goodIn_app (goodIn_of _ (by decide +kernel)) ggX7_critical_X6_firstCritical
set_option maxRecDepth 20000 in
theorem ggX7_critical_X6_nextCritical : GoodIn wsX7_critical wsX6_nextCritical := goodIn_r _ [55, 21, 22, 19, 27, 28, 29, 6, 30, 31, 32, 33, 34, 44, 45, 46, 12, 47, 48, 49, 50, 51, 18, 39, 71, 72, 73, 64, 65, 66, 67, 68, 69, 70] (by decide +kernel) (by decide +kernel)
set_option maxRecDepth 20000 in
theorem gX7_critical_X6_nextCritical : GoodIn wsX7_critical (wsV RX7 178 RX6 yX6_nextCritical wsX6_nextCritical) := goodIn_app (goodIn_of _ (by decide +kernel)) ggX7_critical_X6_nextCritical
theorem dX7_critical_0 : decode cX7_critical 0 = .ok (.aload_n 0, 1) := by decide +kernel
theorem dX7_critical_1 : decode cX7_critical 1 = .ok (.getfield 10, 3) := by decide +kernel
theorem dX7_critical_4 : decode cX7_critical 4 = .ok (.iload_n 1, 1) := by decide +kernel
theorem dX7_critical_5 : decode cX7_critical 5 = .ok (.invokevirtual 76, 3) := by decide +kernel
theorem dX7_critical_8 : decode cX7_critical 8 = .ok (.ifCond .ne 5, 3) := by decide +kernel
theorem dX7_critical_11 : decode cX7_critical 11 = .ok (.iconst (-1), 1) := by decide +kernel
theorem dX7_critical_12 : decode cX7_critical 12 = .ok (.ireturn, 1) := by decide +kernel
theorem dX7_critical_13 : decode cX7_critical 13 = .ok (.aload_n 0, 1) := by decide +kernel
theorem dX7_critical_14 : decode cX7_critical 14 = .ok (.getfield 47, 3) := by decide +kernel
theorem dX7_critical_17 : decode cX7_critical 17 = .ok (.aload_n 0, 1) := by decide +kernel
theorem dX7_critical_18 : decode cX7_critical 18 = .ok (.getfield 10, 3) := by decide +kernel
theorem dX7_critical_21 : decode cX7_critical 21 = .ok (.invokevirtual 147, 3) := by decide +kernel
theorem dX7_critical_24 : decode cX7_critical 24 = .ok (.aload_n 0, 1) := by decide +kernel
theorem dX7_critical_25 : decode cX7_critical 25 = .ok (.getfield 47, 3) := by decide +kernel
theorem dX7_critical_28 : decode cX7_critical 28 = .ok (.aload_n 0, 1) := by decide +kernel
theorem dX7_critical_29 : decode cX7_critical 29 = .ok (.getfield 10, 3) := by decide +kernel
theorem dX7_critical_32 : decode cX7_critical 32 = .ok (.invokevirtual 174, 3) := by decide +kernel
theorem dX7_critical_35 : decode cX7_critical 35 = .ok (.istore_n 2, 1) := by decide +kernel
theorem dX7_critical_36 : decode cX7_critical 36 = .ok (.iconst 0, 1) := by decide +kernel
theorem dX7_critical_37 : decode cX7_critical 37 = .ok (.istore_n 3, 1) := by decide +kernel
theorem dX7_critical_38 : decode cX7_critical 38 = .ok (.iload_n 3, 1) := by decide +kernel
theorem dX7_critical_39 : decode cX7_critical 39 = .ok (.iload_n 1, 1) := by decide +kernel
theorem dX7_critical_40 : decode cX7_critical 40 = .ok (.if_icmp .ge 27, 3) := by decide +kernel
theorem dX7_critical_43 : decode cX7_critical 43 = .ok (.iload_n 2, 1) := by decide +kernel
theorem dX7_critical_44 : decode cX7_critical 44 = .ok (.iconst (-1), 1) := by decide +kernel
theorem dX7_critical_45 : decode cX7_critical 45 = .ok (.if_icmp .eq 22, 3) := by decide +kernel
theorem dX7_critical_48 : decode cX7_critical 48 = .ok (.aload_n 0, 1) := by decide +kernel
theorem dX7_critical_49 : decode cX7_critical 49 = .ok (.getfield 47, 3) := by decide +kernel
theorem dX7_critical_52 : decode cX7_critical 52 = .ok (.aload_n 0, 1) := by decide +kernel
theorem dX7_critical_53 : decode cX7_critical 53 = .ok (.getfield 10, 3) := by decide +kernel
theorem dX7_critical_56 : decode cX7_critical 56 = .ok (.iload_n 2, 1) := by decide +kernel
theorem dX7_critical_57 : decode cX7_critical 57 = .ok (.invokevirtual 178, 3) := by decide +kernel
theorem dX7_critical_60 : decode cX7_critical 60 = .ok (.istore_n 2, 1) := by decide +kernel
theorem dX7_critical_61 : decode cX7_critical 61 = .ok (.iinc 3 1, 3) := by decide +kernel
theorem dX7_critical_64 : decode cX7_critical 64 = .ok (.goto (-26), 3) := by decide +kernel
theorem dX7_critical_67 : decode cX7_critical 67 = .ok (.iload_n 2, 1) := by decide +kernel
theorem dX7_critical_68 : decode cX7_critical 68 = .ok (.ireturn, 1) := by decide +kernel
set_option maxRecDepth 20000 in
theorem ggX7_plan_X6_measure : GoodIn wsX7_plan wsX6_measure := goodIn_r _ [9, 10, 11, 12, 8, 13, 14, 15, 16, 17, 18, 19, 20, 21, 22, 23, 24, 25, 26, 27, 28, 29, 30, 31, 32, 33, 34, 35, 36, 91, 92, 93, 94, 95, 96, 97, 98, 99, 100] (by decide +kernel) (by decide +kernel)
set_option maxRecDepth 20000 in
theorem gX7_plan_X6_measure : GoodIn wsX7_plan (wsV RX7 147 RX6 yX6_measure wsX6_measure) := goodIn_app (goodIn_of _ (by decide +kernel)) ggX7_plan_X6_measure
set_option maxRecDepth 20000 in
theorem ggX7_plan_X5_make : GoodIn wsX7_plan wsX5_make := goodIn_r _ [41, 42, 43, 44, 45, 46, 47, 48, 49, 50, 51, 52, 53, 40, 54, 55, 56, 30, 57, 58, 59, 60, 61, 62, 63, 64, 65, 66, 67, 68, 69, 70, 71, 72, 29, 31, 73, 74, 75, 76, 77, 78, 79, 80, 81, 82, 94, 95, 96, 97, 98, 99, 100, 101, 102, 103, 104, 105, 106, 107] (by decide +kernel) (by decide +kernel)
set_option maxRecDepth 20000 in
theorem gX7_plan_X5_make : GoodIn wsX7_plan (wsV RX7 182 RX5 yX5_make wsX5_make) := goodIn_app (goodIn_of _ (by decide +kernel)) ggX7_plan_X5_make
theorem dX7_plan_0 : decode cX7_plan 0 = .ok (.iload_n 1, 1) := by decide +kernel
theorem dX7_plan_1 : decode cX7_plan 1 = .ok (.iconst 1, 1) := by decide +kernel
theorem dX7_plan_2 : decode cX7_plan 2 = .ok (.if_icmp .lt 9, 3) := by decide +kernel
theorem dX7_plan_5 : decode cX7_plan 5 = .ok (.iload_n 1, 1) := by decide +kernel
theorem dX7_plan_6 : decode cX7_plan 6 = .ok (.bipush 8, 2) := by decide +kernel
theorem dX7_plan_8 : decode cX7_plan 8 = .ok (.if_icmp .le 5, 3) := by decide +kernel
theorem dX7_plan_11 : decode cX7_plan 11 = .ok (.iconst (-1), 1) := by decide +kernel
theorem dX7_plan_12 : decode cX7_plan 12 = .ok (.ireturn, 1) := by decide +kernel
theorem dX7_plan_13 : decode cX7_plan 13 = .ok (.aload_n 0, 1) := by decide +kernel
theorem dX7_plan_14 : decode cX7_plan 14 = .ok (.getfield 47, 3) := by decide +kernel
theorem dX7_plan_17 : decode cX7_plan 17 = .ok (.aload_n 0, 1) := by decide +kernel
theorem dX7_plan_18 : decode cX7_plan 18 = .ok (.getfield 10, 3) := by decide +kernel
theorem dX7_plan_21 : decode cX7_plan 21 = .ok (.invokevirtual 147, 3) := by decide +kernel
theorem dX7_plan_24 : decode cX7_plan 24 = .ok (.aload_n 0, 1) := by decide +kernel
theorem dX7_plan_25 : decode cX7_plan 25 = .ok (.getfield 54, 3) := by decide +kernel
theorem dX7_plan_28 : decode cX7_plan 28 = .ok (.aload_n 0, 1) := by decide +kernel
theorem dX7_plan_29 : decode cX7_plan 29 = .ok (.getfield 10, 3) := by decide +kernel
theorem dX7_plan_32 : decode cX7_plan 32 = .ok (.aload_n 0, 1) := by decide +kernel
theorem dX7_plan_33 : decode cX7_plan 33 = .ok (.getfield 47, 3) := by decide +kernel
theorem dX7_plan_36 : decode cX7_plan 36 = .ok (.getfield 168, 3) := by decide +kernel
theorem dX7_plan_39 : decode cX7_plan 39 = .ok (.iload_n 1, 1) := by decide +kernel
theorem dX7_plan_40 : decode cX7_plan 40 = .ok (.invokevirtual 182, 3) := by decide +kernel
theorem dX7_plan_43 : decode cX7_plan 43 = .ok (.ireturn, 1) := by decide +kernel
theorem dX7_planned_0 : decode cX7_planned 0 = .ok (.iload_n 1, 1) := by decide +kernel
theorem dX7_planned_1 : decode cX7_planned 1 = .ok (.ifCond .lt 14, 3) := by decide +kernel
theorem dX7_planned_4 : decode cX7_planned 4 = .ok (.iload_n 1, 1) := by decide +kernel
theorem dX7_planned_5 : decode cX7_planned 5 = .ok (.aload_n 0, 1) := by decide +kernel
theorem dX7_planned_6 : decode cX7_planned 6 = .ok (.getfield 54, 3) := by decide +kernel
theorem dX7_planned_9 : decode cX7_planned 9 = .ok (.getfield 186, 3) := by decide +kernel
theorem dX7_planned_12 : decode cX7_planned 12 = .ok (.if_icmp .lt 5, 3) := by decide +kernel
theorem dX7_planned_15 : decode cX7_planned 15 = .ok (.iconst (-1), 1) := by decide +kernel
theorem dX7_planned_16 : decode cX7_planned 16 = .ok (.ireturn, 1) := by decide +kernel
theorem dX7_planned_17 : decode cX7_planned 17 = .ok (.iload_n 2, 1) := by decide +kernel
theorem dX7_planned_18 : decode cX7_planned 18 = .ok (.lookupswitch 46 #[(0, 26), (1, 36)], 26) := by decide +kernel
theorem dX7_planned_44 : decode cX7_planned 44 = .ok (.aload_n 0, 1) := by decide +kernel
theorem dX7_planned_45 : decode cX7_planned 45 = .ok (.getfield 54, 3) := by decide +kernel
theorem dX7_planned_48 : decode cX7_planned 48 = .ok (.getfield 187, 3) := by decide +kernel
theorem dX7_planned_51 : decode cX7_planned 51 = .ok (.iload_n 1, 1) := by decide +kernel
theorem dX7_planned_52 : decode cX7_planned 52 = .ok (.iaload, 1) := by decide +kernel
theorem dX7_planned_53 : decode cX7_planned 53 = .ok (.ireturn, 1) := by decide +kernel
theorem dX7_planned_54 : decode cX7_planned 54 = .ok (.aload_n 0, 1) := by decide +kernel
theorem dX7_planned_55 : decode cX7_planned 55 = .ok (.getfield 54, 3) := by decide +kernel
theorem dX7_planned_58 : decode cX7_planned 58 = .ok (.getfield 190, 3) := by decide +kernel
theorem dX7_planned_61 : decode cX7_planned 61 = .ok (.iload_n 1, 1) := by decide +kernel
theorem dX7_planned_62 : decode cX7_planned 62 = .ok (.iaload, 1) := by decide +kernel
theorem dX7_planned_63 : decode cX7_planned 63 = .ok (.ireturn, 1) := by decide +kernel
theorem dX7_planned_64 : decode cX7_planned 64 = .ok (.iconst (-1), 1) := by decide +kernel
theorem dX7_planned_65 : decode cX7_planned 65 = .ok (.ireturn, 1) := by decide +kernel
set_option maxRecDepth 20000 in
theorem ggX7_check_X2_placesAreSound : GoodIn wsX7_check wsX2_placesAreSound := goodIn_r _ [6, 7, 8, 9, 10, 11, 12, 5, 13, 34, 35, 36, 37, 38, 39, 40] (by decide +kernel) (by decide +kernel)
set_option maxRecDepth 20000 in
theorem gX7_check_X2_placesAreSound : GoodIn wsX7_check (wsV RX7 193 RX2 yX2_placesAreSound wsX2_placesAreSound) := goodIn_app (goodIn_of _ (by decide +kernel)) ggX7_check_X2_placesAreSound
set_option maxRecDepth 20000 in
theorem ggX7_check_X2_tiesLeadOn : GoodIn wsX7_check wsX2_tiesLeadOn := goodIn_r _ [17, 7, 8, 18, 19, 20, 5, 21, 22, 23, 24, 25, 34, 35, 36, 37, 38, 39, 40] (by decide +kernel) (by decide +kernel)
set_option maxRecDepth 20000 in
theorem gX7_check_X2_tiesLeadOn : GoodIn wsX7_check (wsV RX7 197 RX2 yX2_tiesLeadOn wsX2_tiesLeadOn) := goodIn_app (goodIn_of _ (by decide +kernel)) ggX7_check_X2_tiesLeadOn
theorem dX7_check_0 : decode cX7_check 0 = .ok (.aload_n 0, 1) := by decide +kernel
theorem dX7_check_1 : decode cX7_check 1 = .ok (.getfield 10, 3) := by decide +kernel
theorem dX7_check_4 : decode cX7_check 4 = .ok (.invokevirtual 193, 3) := by decide +kernel
theorem dX7_check_7 : decode cX7_check 7 = .ok (.ifCond .eq 17, 3) := by decide +kernel
theorem dX7_check_10 : decode cX7_check 10 = .ok (.aload_n 0, 1) := by decide +kernel
theorem dX7_check_11 : decode cX7_check 11 = .ok (.getfield 10, 3) := by decide +kernel
theorem dX7_check_14 : decode cX7_check 14 = .ok (.invokevirtual 197, 3) := by decide +kernel
theorem dX7_check_17 : decode cX7_check 17 = .ok (.ifCond .eq 7, 3) := by decide +kernel
theorem dX7_check_20 : decode cX7_check 20 = .ok (.iconst 1, 1) := by decide +kernel
theorem dX7_check_21 : decode cX7_check 21 = .ok (.goto 4, 3) := by decide +kernel
theorem dX7_check_24 : decode cX7_check 24 = .ok (.iconst 0, 1) := by decide +kernel
theorem dX7_check_25 : decode cX7_check 25 = .ok (.ireturn, 1) := by decide +kernel
theorem dX7_isWeight_0 : decode cX7_isWeight 0 = .ok (.iload_n 0, 1) := by decide +kernel
theorem dX7_isWeight_1 : decode cX7_isWeight 1 = .ok (.ifCond .lt 14, 3) := by decide +kernel
theorem dX7_isWeight_4 : decode cX7_isWeight 4 = .ok (.iload_n 0, 1) := by decide +kernel
theorem dX7_isWeight_5 : decode cX7_isWeight 5 = .ok (.sipush 1000, 3) := by decide +kernel
theorem dX7_isWeight_8 : decode cX7_isWeight 8 = .ok (.if_icmp .gt 7, 3) := by decide +kernel
theorem dX7_isWeight_11 : decode cX7_isWeight 11 = .ok (.iconst 1, 1) := by decide +kernel
theorem dX7_isWeight_12 : decode cX7_isWeight 12 = .ok (.goto 4, 3) := by decide +kernel
theorem dX7_isWeight_15 : decode cX7_isWeight 15 = .ok (.iconst 0, 1) := by decide +kernel
theorem dX7_isWeight_16 : decode cX7_isWeight 16 = .ok (.ireturn, 1) := by decide +kernel
theorem dX7_bit_0 : decode cX7_bit 0 = .ok (.lconst 1, 1) := by decide +kernel
theorem dX7_bit_1 : decode cX7_bit 1 = .ok (.iload_n 0, 1) := by decide +kernel
theorem dX7_bit_2 : decode cX7_bit 2 = .ok (.lshl, 1) := by decide +kernel
theorem dX7_bit_3 : decode cX7_bit 3 = .ok (.lreturn, 1) := by decide +kernel
theorem dX7_has_0 : decode cX7_has 0 = .ok (.lload_n 0, 1) := by decide +kernel
theorem dX7_has_1 : decode cX7_has 1 = .ok (.iload_n 2, 1) := by decide +kernel
theorem dX7_has_2 : decode cX7_has 2 = .ok (.lushr, 1) := by decide +kernel
theorem dX7_has_3 : decode cX7_has 3 = .ok (.lconst 1, 1) := by decide +kernel
theorem dX7_has_4 : decode cX7_has 4 = .ok (.land, 1) := by decide +kernel
theorem dX7_has_5 : decode cX7_has 5 = .ok (.lconst 0, 1) := by decide +kernel
theorem dX7_has_6 : decode cX7_has 6 = .ok (.lcmp, 1) := by decide +kernel
theorem dX7_has_7 : decode cX7_has 7 = .ok (.ifCond .eq 7, 3) := by decide +kernel
theorem dX7_has_10 : decode cX7_has 10 = .ok (.iconst 1, 1) := by decide +kernel
theorem dX7_has_11 : decode cX7_has 11 = .ok (.goto 4, 3) := by decide +kernel
theorem dX7_has_14 : decode cX7_has 14 = .ok (.iconst 0, 1) := by decide +kernel
theorem dX7_has_15 : decode cX7_has 15 = .ok (.ireturn, 1) := by decide +kernel
set_option maxRecDepth 20000 in
theorem ggX7_bring_X2_hasTie : GoodIn wsX7_bring wsX2_hasTie := goodIn_r _ [9, 10, 11, 12, 13, 94, 95, 96, 97, 98, 99, 100] (by decide +kernel) (by decide +kernel)
set_option maxRecDepth 20000 in
theorem gX7_bring_X2_hasTie : GoodIn wsX7_bring (wsV RX7 102 RX2 yX2_hasTie wsX2_hasTie) := goodIn_app (goodIn_of _ (by decide +kernel)) ggX7_bring_X2_hasTie
set_option maxRecDepth 20000 in
theorem ggX7_bring_X2_leadsTo : GoodIn wsX7_bring wsX2_leadsTo := goodIn_r _ [17, 18, 19, 20, 21, 8, 22, 23, 12, 24, 25, 26, 27, 28, 29, 30, 11, 13, 94, 95, 96, 97, 98, 99, 100] (by decide +kernel) (by decide +kernel)
set_option maxRecDepth 20000 in
theorem gX7_bring_X2_leadsTo : GoodIn wsX7_bring (wsV RX7 153 RX2 yX2_leadsTo wsX2_leadsTo) := goodIn_app (goodIn_of _ (by decide +kernel)) ggX7_bring_X2_leadsTo
set_option maxRecDepth 20000 in
theorem ggX7_bring_X4_find : GoodIn wsX7_bring wsX4_find := goodIn_r _ [35, 36, 37, 38, 39, 40, 41, 42, 43, 44, 45, 34, 46, 47, 48, 49, 50, 51, 52, 53, 54, 6, 7, 8, 9, 10, 11, 12, 13, 55, 56, 57, 58, 101, 102, 103, 94, 95, 96, 97, 98, 99, 100] (by decide +kernel) (by decide +kernel)
set_option maxRecDepth 20000 in
theorem gX7_bring_X4_find : GoodIn wsX7_bring (wsV RX7 200 RX4 yX4_find wsX4_find) := goodIn_app (goodIn_of _ (by decide +kernel)) ggX7_bring_X4_find
set_option maxRecDepth 20000 in
theorem ggX7_bring_X1_mend : GoodIn wsX7_bring wsX1_mend := goodIn_r _ [63, 64, 65, 66, 67, 68, 8, 69, 18, 29, 10, 23, 12, 24, 70, 20, 21, 22, 25, 26, 27, 28, 30, 71, 72, 73, 62, 74, 75, 76, 11, 13, 77, 78, 79, 80, 94, 95, 96, 97, 98, 99, 100, 104, 105] (by decide +kernel) (by decide +kernel)
set_option maxRecDepth 20000 in
theorem gX7_bring_X1_mend : GoodIn wsX7_bring (wsV RX7 204 RX1 yX1_mend wsX1_mend) := goodIn_app (goodIn_of _ (by decide +kernel)) ggX7_bring_X1_mend
set_option maxRecDepth 20000 in
theorem ggX7_bring_X2_putTie : GoodIn wsX7_bring wsX2_putTie := goodIn_r _ [84, 10, 30, 85, 23, 12, 24, 94, 95, 96, 97, 98, 99, 100] (by decide +kernel) (by decide +kernel)
set_option maxRecDepth 20000 in
theorem gX7_bring_X2_putTie : GoodIn wsX7_bring (wsV RX7 207 RX2 yX2_putTie wsX2_putTie) := goodIn_app (goodIn_of _ (by decide +kernel)) ggX7_bring_X2_putTie
theorem dX7_bring_0 : decode cX7_bring 0 = .ok (.aload_n 0, 1) := by decide +kernel
theorem dX7_bring_1 : decode cX7_bring 1 = .ok (.getfield 10, 3) := by decide +kernel
theorem dX7_bring_4 : decode cX7_bring 4 = .ok (.iload_n 1, 1) := by decide +kernel
theorem dX7_bring_5 : decode cX7_bring 5 = .ok (.iload_n 2, 1) := by decide +kernel
theorem dX7_bring_6 : decode cX7_bring 6 = .ok (.invokevirtual 102, 3) := by decide +kernel
theorem dX7_bring_9 : decode cX7_bring 9 = .ok (.ifCond .eq 5, 3) := by decide +kernel
theorem dX7_bring_12 : decode cX7_bring 12 = .ok (.iconst 0, 1) := by decide +kernel
theorem dX7_bring_13 : decode cX7_bring 13 = .ok (.ireturn, 1) := by decide +kernel
theorem dX7_bring_14 : decode cX7_bring 14 = .ok (.aload_n 0, 1) := by decide +kernel
theorem dX7_bring_15 : decode cX7_bring 15 = .ok (.getfield 10, 3) := by decide +kernel
theorem dX7_bring_18 : decode cX7_bring 18 = .ok (.iload_n 2, 1) := by decide +kernel
theorem dX7_bring_19 : decode cX7_bring 19 = .ok (.iload_n 1, 1) := by decide +kernel
theorem dX7_bring_20 : decode cX7_bring 20 = .ok (.invokevirtual 153, 3) := by decide +kernel
theorem dX7_bring_23 : decode cX7_bring 23 = .ok (.ifCond .eq 19, 3) := by decide +kernel
theorem dX7_bring_26 : decode cX7_bring 26 = .ok (.aload_n 0, 1) := by decide +kernel
theorem dX7_bring_27 : decode cX7_bring 27 = .ok (.getfield 40, 3) := by decide +kernel
theorem dX7_bring_30 : decode cX7_bring 30 = .ok (.aload_n 0, 1) := by decide +kernel
theorem dX7_bring_31 : decode cX7_bring 31 = .ok (.getfield 10, 3) := by decide +kernel
theorem dX7_bring_34 : decode cX7_bring 34 = .ok (.iload_n 2, 1) := by decide +kernel
theorem dX7_bring_35 : decode cX7_bring 35 = .ok (.iload_n 1, 1) := by decide +kernel
theorem dX7_bring_36 : decode cX7_bring 36 = .ok (.invokevirtual 200, 3) := by decide +kernel
theorem dX7_bring_39 : decode cX7_bring 39 = .ok (.bipush (-2), 2) := by decide +kernel
theorem dX7_bring_41 : decode cX7_bring 41 = .ok (.ireturn, 1) := by decide +kernel
theorem dX7_bring_42 : decode cX7_bring 42 = .ok (.aload_n 0, 1) := by decide +kernel
theorem dX7_bring_43 : decode cX7_bring 43 = .ok (.getfield 10, 3) := by decide +kernel
theorem dX7_bring_46 : decode cX7_bring 46 = .ok (.getfield 135, 3) := by decide +kernel
theorem dX7_bring_49 : decode cX7_bring 49 = .ok (.sipush 400, 3) := by decide +kernel
theorem dX7_bring_52 : decode cX7_bring 52 = .ok (.if_icmp .lt 5, 3) := by decide +kernel
theorem dX7_bring_55 : decode cX7_bring 55 = .ok (.iconst (-1), 1) := by decide +kernel
theorem dX7_bring_56 : decode cX7_bring 56 = .ok (.ireturn, 1) := by decide +kernel
theorem dX7_bring_57 : decode cX7_bring 57 = .ok (.aload_n 0, 1) := by decide +kernel
theorem dX7_bring_58 : decode cX7_bring 58 = .ok (.getfield 19, 3) := by decide +kernel
theorem dX7_bring_61 : decode cX7_bring 61 = .ok (.aload_n 0, 1) := by decide +kernel
theorem dX7_bring_62 : decode cX7_bring 62 = .ok (.getfield 10, 3) := by decide +kernel
theorem dX7_bring_65 : decode cX7_bring 65 = .ok (.iload_n 1, 1) := by decide +kernel
theorem dX7_bring_66 : decode cX7_bring 66 = .ok (.iload_n 2, 1) := by decide +kernel
theorem dX7_bring_67 : decode cX7_bring 67 = .ok (.invokevirtual 204, 3) := by decide +kernel
theorem dX7_bring_70 : decode cX7_bring 70 = .ok (.aload_n 0, 1) := by decide +kernel
theorem dX7_bring_71 : decode cX7_bring 71 = .ok (.getfield 10, 3) := by decide +kernel
theorem dX7_bring_74 : decode cX7_bring 74 = .ok (.iload_n 1, 1) := by decide +kernel
theorem dX7_bring_75 : decode cX7_bring 75 = .ok (.iload_n 2, 1) := by decide +kernel
theorem dX7_bring_76 : decode cX7_bring 76 = .ok (.invokevirtual 207, 3) := by decide +kernel
theorem dX7_bring_79 : decode cX7_bring 79 = .ok (.iconst 1, 1) := by decide +kernel
theorem dX7_bring_80 : decode cX7_bring 80 = .ok (.ireturn, 1) := by decide +kernel
set_option maxRecDepth 20000 in
theorem ggX7_bringBundle_X7_bring : GoodIn wsX7_bringBundle wsX7_bring := goodIn_r _ [9, 10, 11, 12, 13, 14, 15, 16, 17, 18, 19, 20, 8, 21, 22, 23, 24, 25, 26, 27, 28, 29, 30, 31, 32, 33, 34, 35, 36, 37, 38, 39, 40, 41, 42, 43, 44, 45, 46, 47, 48, 49, 50, 51, 52, 53, 54, 55, 56, 57, 58, 59, 60, 61, 62, 63, 64, 65, 66, 67, 68, 69, 70, 71, 72, 73, 74, 75, 76, 77, 78, 79, 80, 81, 82, 83, 84, 85, 86, 87, 88, 89, 90, 91, 92, 93, 94, 95, 96, 97, 98, 99, 100, 101, 105, 106, 107, 108, 109, 110, 111, 112, 113, 114, 115, 116] (by decide +kernel) (by decide +kernel)
set_option maxRecDepth 20000 in
theorem gX7_bringBundle_X7_bring : GoodIn wsX7_bringBundle (wsV RX7 94 RX7 yX7_bring wsX7_bring) := goodIn_app (goodIn_of _ (by decide +kernel)) ggX7_bringBundle_X7_bring
theorem dX7_bringBundle_0 : decode cX7_bringBundle 0 = .ok (.iconst 0, 1) := by decide +kernel
theorem dX7_bringBundle_1 : decode cX7_bringBundle 1 = .ok (.istore_n 1, 1) := by decide +kernel
theorem dX7_bringBundle_2 : decode cX7_bringBundle 2 = .ok (.iconst 0, 1) := by decide +kernel
theorem dX7_bringBundle_3 : decode cX7_bringBundle 3 = .ok (.istore_n 2, 1) := by decide +kernel
theorem dX7_bringBundle_4 : decode cX7_bringBundle 4 = .ok (.iload_n 2, 1) := by decide +kernel
theorem dX7_bringBundle_5 : decode cX7_bringBundle 5 = .ok (.aload_n 0, 1) := by decide +kernel
theorem dX7_bringBundle_6 : decode cX7_bringBundle 6 = .ok (.getfield 26, 3) := by decide +kernel
theorem dX7_bringBundle_9 : decode cX7_bringBundle 9 = .ok (.getfield 109, 3) := by decide +kernel
theorem dX7_bringBundle_12 : decode cX7_bringBundle 12 = .ok (.if_icmp .ge 42, 3) := by decide +kernel
theorem dX7_bringBundle_15 : decode cX7_bringBundle 15 = .ok (.aload_n 0, 1) := by decide +kernel
theorem dX7_bringBundle_16 : decode cX7_bringBundle 16 = .ok (.aload_n 0, 1) := by decide +kernel
theorem dX7_bringBundle_17 : decode cX7_bringBundle 17 = .ok (.getfield 26, 3) := by decide +kernel
theorem dX7_bringBundle_20 : decode cX7_bringBundle 20 = .ok (.getfield 210, 3) := by decide +kernel
theorem dX7_bringBundle_23 : decode cX7_bringBundle 23 = .ok (.iload_n 2, 1) := by decide +kernel
theorem dX7_bringBundle_24 : decode cX7_bringBundle 24 = .ok (.iaload, 1) := by decide +kernel
theorem dX7_bringBundle_25 : decode cX7_bringBundle 25 = .ok (.aload_n 0, 1) := by decide +kernel
theorem dX7_bringBundle_26 : decode cX7_bringBundle 26 = .ok (.getfield 26, 3) := by decide +kernel
theorem dX7_bringBundle_29 : decode cX7_bringBundle 29 = .ok (.getfield 213, 3) := by decide +kernel
theorem dX7_bringBundle_32 : decode cX7_bringBundle 32 = .ok (.iload_n 2, 1) := by decide +kernel
theorem dX7_bringBundle_33 : decode cX7_bringBundle 33 = .ok (.iaload, 1) := by decide +kernel
theorem dX7_bringBundle_34 : decode cX7_bringBundle 34 = .ok (.invokevirtual 94, 3) := by decide +kernel
theorem dX7_bringBundle_37 : decode cX7_bringBundle 37 = .ok (.istore_n 3, 1) := by decide +kernel
theorem dX7_bringBundle_38 : decode cX7_bringBundle 38 = .ok (.iload_n 3, 1) := by decide +kernel
theorem dX7_bringBundle_39 : decode cX7_bringBundle 39 = .ok (.ifCond .ge 5, 3) := by decide +kernel
theorem dX7_bringBundle_42 : decode cX7_bringBundle 42 = .ok (.iload_n 3, 1) := by decide +kernel
theorem dX7_bringBundle_43 : decode cX7_bringBundle 43 = .ok (.ireturn, 1) := by decide +kernel
theorem dX7_bringBundle_44 : decode cX7_bringBundle 44 = .ok (.iload_n 1, 1) := by decide +kernel
theorem dX7_bringBundle_45 : decode cX7_bringBundle 45 = .ok (.iload_n 3, 1) := by decide +kernel
theorem dX7_bringBundle_46 : decode cX7_bringBundle 46 = .ok (.iadd, 1) := by decide +kernel
theorem dX7_bringBundle_47 : decode cX7_bringBundle 47 = .ok (.istore_n 1, 1) := by decide +kernel
theorem dX7_bringBundle_48 : decode cX7_bringBundle 48 = .ok (.iinc 2 1, 3) := by decide +kernel
theorem dX7_bringBundle_51 : decode cX7_bringBundle 51 = .ok (.goto (-47), 3) := by decide +kernel
theorem dX7_bringBundle_54 : decode cX7_bringBundle 54 = .ok (.iload_n 1, 1) := by decide +kernel
theorem dX7_bringBundle_55 : decode cX7_bringBundle 55 = .ok (.ireturn, 1) := by decide +kernel
set_option maxRecDepth 20000 in
theorem ggX7_settle_X2_countMovedSince : GoodIn wsX7_settle wsX2_countMovedSince := goodIn_r _ [9, 10, 11, 50, 51, 52, 53, 54, 55, 56] (by decide +kernel) (by decide +kernel)
set_option maxRecDepth 20000 in
theorem gX7_settle_X2_countMovedSince : GoodIn wsX7_settle (wsV RX7 216 RX2 yX2_countMovedSince wsX2_countMovedSince) := goodIn_app (goodIn_of _ (by decide +kernel)) ggX7_settle_X2_countMovedSince
set_option maxRecDepth 20000 in
theorem ggX7_settle_X3_keep : GoodIn wsX7_settle wsX3_keep := goodIn_r _ [16, 17, 18, 19, 20, 21, 8, 22, 23, 24, 25, 26, 27, 28, 29, 30, 31, 32, 33, 34, 35, 36, 11, 37, 46, 47, 48, 49, 50, 51, 52, 53, 54, 55, 56] (by decide +kernel) (by decide +kernel)
set_option maxRecDepth 20000 in
theorem gX7_settle_X3_keep : GoodIn wsX7_settle (wsV RX7 87 RX3 yX3_keep wsX3_keep) := goodIn_app (goodIn_of _ (by decide +kernel)) ggX7_settle_X3_keep
theorem dX7_settle_0 : decode cX7_settle 0 = .ok (.iload_n 1, 1) := by decide +kernel
theorem dX7_settle_1 : decode cX7_settle 1 = .ok (.iconst (-1), 1) := by decide +kernel
theorem dX7_settle_2 : decode cX7_settle 2 = .ok (.if_icmp .ne 4, 3) := by decide +kernel
theorem dX7_settle_5 : decode cX7_settle 5 = .ok (.return_, 1) := by decide +kernel
theorem dX7_settle_6 : decode cX7_settle 6 = .ok (.aload_n 0, 1) := by decide +kernel
theorem dX7_settle_7 : decode cX7_settle 7 = .ok (.aload_n 0, 1) := by decide +kernel
theorem dX7_settle_8 : decode cX7_settle 8 = .ok (.getfield 10, 3) := by decide +kernel
theorem dX7_settle_11 : decode cX7_settle 11 = .ok (.aload_n 0, 1) := by decide +kernel
theorem dX7_settle_12 : decode cX7_settle 12 = .ok (.getfield 33, 3) := by decide +kernel
theorem dX7_settle_15 : decode cX7_settle 15 = .ok (.getfield 119, 3) := by decide +kernel
theorem dX7_settle_18 : decode cX7_settle 18 = .ok (.invokevirtual 216, 3) := by decide +kernel
theorem dX7_settle_21 : decode cX7_settle 21 = .ok (.putfield 58, 3) := by decide +kernel
theorem dX7_settle_24 : decode cX7_settle 24 = .ok (.iload_n 1, 1) := by decide +kernel
theorem dX7_settle_25 : decode cX7_settle 25 = .ok (.ifCond .le 10, 3) := by decide +kernel
theorem dX7_settle_28 : decode cX7_settle 28 = .ok (.aload_n 0, 1) := by decide +kernel
theorem dX7_settle_29 : decode cX7_settle 29 = .ok (.getfield 33, 3) := by decide +kernel
theorem dX7_settle_32 : decode cX7_settle 32 = .ok (.invokevirtual 87, 3) := by decide +kernel
theorem dX7_settle_35 : decode cX7_settle 35 = .ok (.return_, 1) := by decide +kernel
theorem dX8_init_0 : decode cX8_init 0 = .ok (.aload_n 0, 1) := by decide +kernel
theorem dX8_init_1 : decode cX8_init 1 = .ok (.invokespecial 1, 3) := by decide +kernel
theorem dX8_init_4 : decode cX8_init 4 = .ok (.aload_n 0, 1) := by decide +kernel
theorem dX8_init_5 : decode cX8_init 5 = .ok (.sipush 3720, 3) := by decide +kernel
theorem dX8_init_8 : decode cX8_init 8 = .ok (.newarray .int, 2) := by decide +kernel
theorem dX8_init_10 : decode cX8_init 10 = .ok (.putfield 7, 3) := by decide +kernel
theorem dX8_init_13 : decode cX8_init 13 = .ok (.aload_n 0, 1) := by decide +kernel
theorem dX8_init_14 : decode cX8_init 14 = .ok (.ldc 13, 2) := by decide +kernel
theorem dX8_init_16 : decode cX8_init 16 = .ok (.newarray .int, 2) := by decide +kernel
theorem dX8_init_18 : decode cX8_init 18 = .ok (.putfield 14, 3) := by decide +kernel
theorem dX8_init_21 : decode cX8_init 21 = .ok (.aload_n 0, 1) := by decide +kernel
theorem dX8_init_22 : decode cX8_init 22 = .ok (.bipush 100, 2) := by decide +kernel
theorem dX8_init_24 : decode cX8_init 24 = .ok (.newarray .int, 2) := by decide +kernel
theorem dX8_init_26 : decode cX8_init 26 = .ok (.putfield 17, 3) := by decide +kernel
theorem dX8_init_29 : decode cX8_init 29 = .ok (.aload_n 0, 1) := by decide +kernel
theorem dX8_init_30 : decode cX8_init 30 = .ok (.bipush 100, 2) := by decide +kernel
theorem dX8_init_32 : decode cX8_init 32 = .ok (.newarray .int, 2) := by decide +kernel
theorem dX8_init_34 : decode cX8_init 34 = .ok (.putfield 20, 3) := by decide +kernel
theorem dX8_init_37 : decode cX8_init 37 = .ok (.aload_n 0, 1) := by decide +kernel
theorem dX8_init_38 : decode cX8_init 38 = .ok (.bipush 61, 2) := by decide +kernel
theorem dX8_init_40 : decode cX8_init 40 = .ok (.newarray .int, 2) := by decide +kernel
theorem dX8_init_42 : decode cX8_init 42 = .ok (.putfield 23, 3) := by decide +kernel
theorem dX8_init_45 : decode cX8_init 45 = .ok (.aload_n 0, 1) := by decide +kernel
theorem dX8_init_46 : decode cX8_init 46 = .ok (.bipush 60, 2) := by decide +kernel
theorem dX8_init_48 : decode cX8_init 48 = .ok (.newarray .int, 2) := by decide +kernel
theorem dX8_init_50 : decode cX8_init 50 = .ok (.putfield 26, 3) := by decide +kernel
theorem dX8_init_53 : decode cX8_init 53 = .ok (.aload_n 0, 1) := by decide +kernel
theorem dX8_init_54 : decode cX8_init 54 = .ok (.bipush 60, 2) := by decide +kernel
theorem dX8_init_56 : decode cX8_init 56 = .ok (.newarray .int, 2) := by decide +kernel
theorem dX8_init_58 : decode cX8_init 58 = .ok (.putfield 29, 3) := by decide +kernel
theorem dX8_init_61 : decode cX8_init 61 = .ok (.aload_n 0, 1) := by decide +kernel
theorem dX8_init_62 : decode cX8_init 62 = .ok (.bipush 60, 2) := by decide +kernel
theorem dX8_init_64 : decode cX8_init 64 = .ok (.newarray .int, 2) := by decide +kernel
theorem dX8_init_66 : decode cX8_init 66 = .ok (.putfield 32, 3) := by decide +kernel
theorem dX8_init_69 : decode cX8_init 69 = .ok (.aload_n 0, 1) := by decide +kernel
theorem dX8_init_70 : decode cX8_init 70 = .ok (.bipush 60, 2) := by decide +kernel
theorem dX8_init_72 : decode cX8_init 72 = .ok (.newarray .int, 2) := by decide +kernel
theorem dX8_init_74 : decode cX8_init 74 = .ok (.putfield 35, 3) := by decide +kernel
theorem dX8_init_77 : decode cX8_init 77 = .ok (.aload_n 0, 1) := by decide +kernel
theorem dX8_init_78 : decode cX8_init 78 = .ok (.bipush 60, 2) := by decide +kernel
theorem dX8_init_80 : decode cX8_init 80 = .ok (.newarray .int, 2) := by decide +kernel
theorem dX8_init_82 : decode cX8_init 82 = .ok (.putfield 38, 3) := by decide +kernel
theorem dX8_init_85 : decode cX8_init 85 = .ok (.aload_n 0, 1) := by decide +kernel
theorem dX8_init_86 : decode cX8_init 86 = .ok (.bipush 60, 2) := by decide +kernel
theorem dX8_init_88 : decode cX8_init 88 = .ok (.newarray .int, 2) := by decide +kernel
theorem dX8_init_90 : decode cX8_init 90 = .ok (.putfield 41, 3) := by decide +kernel
theorem dX8_init_93 : decode cX8_init 93 = .ok (.aload_n 0, 1) := by decide +kernel
theorem dX8_init_94 : decode cX8_init 94 = .ok (.bipush 60, 2) := by decide +kernel
theorem dX8_init_96 : decode cX8_init 96 = .ok (.newarray .boolean, 2) := by decide +kernel
theorem dX8_init_98 : decode cX8_init 98 = .ok (.putfield 44, 3) := by decide +kernel
theorem dX8_init_101 : decode cX8_init 101 = .ok (.aload_n 0, 1) := by decide +kernel
theorem dX8_init_102 : decode cX8_init 102 = .ok (.bipush 60, 2) := by decide +kernel
theorem dX8_init_104 : decode cX8_init 104 = .ok (.newarray .boolean, 2) := by decide +kernel
theorem dX8_init_106 : decode cX8_init 106 = .ok (.putfield 48, 3) := by decide +kernel
theorem dX8_init_109 : decode cX8_init 109 = .ok (.aload_n 0, 1) := by decide +kernel
theorem dX8_init_110 : decode cX8_init 110 = .ok (.bipush 8, 2) := by decide +kernel
theorem dX8_init_112 : decode cX8_init 112 = .ok (.newarray .boolean, 2) := by decide +kernel
theorem dX8_init_114 : decode cX8_init 114 = .ok (.putfield 51, 3) := by decide +kernel
theorem dX8_init_117 : decode cX8_init 117 = .ok (.aload_n 0, 1) := by decide +kernel
theorem dX8_init_118 : decode cX8_init 118 = .ok (.bipush 60, 2) := by decide +kernel
theorem dX8_init_120 : decode cX8_init 120 = .ok (.newarray .long, 2) := by decide +kernel
theorem dX8_init_122 : decode cX8_init 122 = .ok (.putfield 54, 3) := by decide +kernel
theorem dX8_init_125 : decode cX8_init 125 = .ok (.aload_n 0, 1) := by decide +kernel
theorem dX8_init_126 : decode cX8_init 126 = .ok (.bipush 60, 2) := by decide +kernel
theorem dX8_init_128 : decode cX8_init 128 = .ok (.newarray .int, 2) := by decide +kernel
theorem dX8_init_130 : decode cX8_init 130 = .ok (.putfield 58, 3) := by decide +kernel
theorem dX8_init_133 : decode cX8_init 133 = .ok (.aload_n 0, 1) := by decide +kernel
theorem dX8_init_134 : decode cX8_init 134 = .ok (.bipush 60, 2) := by decide +kernel
theorem dX8_init_136 : decode cX8_init 136 = .ok (.newarray .int, 2) := by decide +kernel
theorem dX8_init_138 : decode cX8_init 138 = .ok (.putfield 61, 3) := by decide +kernel
theorem dX8_init_141 : decode cX8_init 141 = .ok (.aload_n 0, 1) := by decide +kernel
theorem dX8_init_142 : decode cX8_init 142 = .ok (.sipush 3720, 3) := by decide +kernel
theorem dX8_init_145 : decode cX8_init 145 = .ok (.newarray .int, 2) := by decide +kernel
theorem dX8_init_147 : decode cX8_init 147 = .ok (.putfield 64, 3) := by decide +kernel
theorem dX8_init_150 : decode cX8_init 150 = .ok (.return_, 1) := by decide +kernel
theorem dX8_has_0 : decode cX8_has 0 = .ok (.iload_n 1, 1) := by decide +kernel
theorem dX8_has_1 : decode cX8_has 1 = .ok (.ifCond .lt 15, 3) := by decide +kernel
theorem dX8_has_4 : decode cX8_has 4 = .ok (.iload_n 1, 1) := by decide +kernel
theorem dX8_has_5 : decode cX8_has 5 = .ok (.aload_n 0, 1) := by decide +kernel
theorem dX8_has_6 : decode cX8_has 6 = .ok (.getfield 71, 3) := by decide +kernel
theorem dX8_has_9 : decode cX8_has 9 = .ok (.if_icmp .ge 7, 3) := by decide +kernel
theorem dX8_has_12 : decode cX8_has 12 = .ok (.iconst 1, 1) := by decide +kernel
theorem dX8_has_13 : decode cX8_has 13 = .ok (.goto 4, 3) := by decide +kernel
theorem dX8_has_16 : decode cX8_has 16 = .ok (.iconst 0, 1) := by decide +kernel
theorem dX8_has_17 : decode cX8_has 17 = .ok (.ireturn, 1) := by decide +kernel
theorem dX8_isTied_0 : decode cX8_isTied 0 = .ok (.aload_n 0, 1) := by decide +kernel
theorem dX8_isTied_1 : decode cX8_isTied 1 = .ok (.getfield 7, 3) := by decide +kernel
theorem dX8_isTied_4 : decode cX8_isTied 4 = .ok (.bipush 60, 2) := by decide +kernel
theorem dX8_isTied_6 : decode cX8_isTied 6 = .ok (.iload_n 1, 1) := by decide +kernel
theorem dX8_isTied_7 : decode cX8_isTied 7 = .ok (.imul, 1) := by decide +kernel
theorem dX8_isTied_8 : decode cX8_isTied 8 = .ok (.iload_n 2, 1) := by decide +kernel
theorem dX8_isTied_9 : decode cX8_isTied 9 = .ok (.iadd, 1) := by decide +kernel
theorem dX8_isTied_10 : decode cX8_isTied 10 = .ok (.iaload, 1) := by decide +kernel
theorem dX8_isTied_11 : decode cX8_isTied 11 = .ok (.iconst 1, 1) := by decide +kernel
theorem dX8_isTied_12 : decode cX8_isTied 12 = .ok (.if_icmp .ne 7, 3) := by decide +kernel
theorem dX8_isTied_15 : decode cX8_isTied 15 = .ok (.iconst 1, 1) := by decide +kernel
theorem dX8_isTied_16 : decode cX8_isTied 16 = .ok (.goto 4, 3) := by decide +kernel
theorem dX8_isTied_19 : decode cX8_isTied 19 = .ok (.iconst 0, 1) := by decide +kernel
theorem dX8_isTied_20 : decode cX8_isTied 20 = .ok (.ireturn, 1) := by decide +kernel
theorem dX8_weightOf_0 : decode cX8_weightOf 0 = .ok (.aload_n 0, 1) := by decide +kernel
theorem dX8_weightOf_1 : decode cX8_weightOf 1 = .ok (.getfield 7, 3) := by decide +kernel
theorem dX8_weightOf_4 : decode cX8_weightOf 4 = .ok (.sipush 3600, 3) := by decide +kernel
theorem dX8_weightOf_7 : decode cX8_weightOf 7 = .ok (.iload_n 1, 1) := by decide +kernel
theorem dX8_weightOf_8 : decode cX8_weightOf 8 = .ok (.iadd, 1) := by decide +kernel
theorem dX8_weightOf_9 : decode cX8_weightOf 9 = .ok (.iaload, 1) := by decide +kernel
theorem dX8_weightOf_10 : decode cX8_weightOf 10 = .ok (.ireturn, 1) := by decide +kernel
theorem dX8_placeOf_0 : decode cX8_placeOf 0 = .ok (.aload_n 0, 1) := by decide +kernel
theorem dX8_placeOf_1 : decode cX8_placeOf 1 = .ok (.getfield 7, 3) := by decide +kernel
theorem dX8_placeOf_4 : decode cX8_placeOf 4 = .ok (.sipush 3660, 3) := by decide +kernel
theorem dX8_placeOf_7 : decode cX8_placeOf 7 = .ok (.iload_n 1, 1) := by decide +kernel
theorem dX8_placeOf_8 : decode cX8_placeOf 8 = .ok (.iadd, 1) := by decide +kernel
theorem dX8_placeOf_9 : decode cX8_placeOf 9 = .ok (.iaload, 1) := by decide +kernel
theorem dX8_placeOf_10 : decode cX8_placeOf 10 = .ok (.ireturn, 1) := by decide +kernel
theorem dX8_ties_0 : decode cX8_ties 0 = .ok (.iconst 0, 1) := by decide +kernel
theorem dX8_ties_1 : decode cX8_ties 1 = .ok (.istore_n 1, 1) := by decide +kernel
theorem dX8_ties_2 : decode cX8_ties 2 = .ok (.iconst 0, 1) := by decide +kernel
theorem dX8_ties_3 : decode cX8_ties 3 = .ok (.istore_n 2, 1) := by decide +kernel
theorem dX8_ties_4 : decode cX8_ties 4 = .ok (.iload_n 2, 1) := by decide +kernel
theorem dX8_ties_5 : decode cX8_ties 5 = .ok (.sipush 3600, 3) := by decide +kernel
theorem dX8_ties_8 : decode cX8_ties 8 = .ok (.if_icmp .ge 18, 3) := by decide +kernel
theorem dX8_ties_11 : decode cX8_ties 11 = .ok (.iload_n 1, 1) := by decide +kernel
theorem dX8_ties_12 : decode cX8_ties 12 = .ok (.aload_n 0, 1) := by decide +kernel
theorem dX8_ties_13 : decode cX8_ties 13 = .ok (.getfield 7, 3) := by decide +kernel
theorem dX8_ties_16 : decode cX8_ties 16 = .ok (.iload_n 2, 1) := by decide +kernel
theorem dX8_ties_17 : decode cX8_ties 17 = .ok (.iaload, 1) := by decide +kernel
theorem dX8_ties_18 : decode cX8_ties 18 = .ok (.iadd, 1) := by decide +kernel
theorem dX8_ties_19 : decode cX8_ties 19 = .ok (.istore_n 1, 1) := by decide +kernel
theorem dX8_ties_20 : decode cX8_ties 20 = .ok (.iinc 2 1, 3) := by decide +kernel
theorem dX8_ties_23 : decode cX8_ties 23 = .ok (.goto (-19), 3) := by decide +kernel
theorem dX8_ties_26 : decode cX8_ties 26 = .ok (.iload_n 1, 1) := by decide +kernel
theorem dX8_ties_27 : decode cX8_ties 27 = .ok (.ireturn, 1) := by decide +kernel
theorem dX8_keep_0 : decode cX8_keep 0 = .ok (.aload_n 0, 1) := by decide +kernel
theorem dX8_keep_1 : decode cX8_keep 1 = .ok (.getfield 74, 3) := by decide +kernel
theorem dX8_keep_4 : decode cX8_keep 4 = .ok (.bipush 64, 2) := by decide +kernel
theorem dX8_keep_6 : decode cX8_keep 6 = .ok (.if_icmp .ne 26, 3) := by decide +kernel
theorem dX8_keep_9 : decode cX8_keep 9 = .ok (.aload_n 0, 1) := by decide +kernel
theorem dX8_keep_10 : decode cX8_keep 10 = .ok (.aload_n 0, 1) := by decide +kernel
theorem dX8_keep_11 : decode cX8_keep 11 = .ok (.getfield 77, 3) := by decide +kernel
theorem dX8_keep_14 : decode cX8_keep 14 = .ok (.iconst 1, 1) := by decide +kernel
theorem dX8_keep_15 : decode cX8_keep 15 = .ok (.iadd, 1) := by decide +kernel
theorem dX8_keep_16 : decode cX8_keep 16 = .ok (.bipush 64, 2) := by decide +kernel
theorem dX8_keep_18 : decode cX8_keep 18 = .ok (.irem, 1) := by decide +kernel
theorem dX8_keep_19 : decode cX8_keep 19 = .ok (.putfield 77, 3) := by decide +kernel
theorem dX8_keep_22 : decode cX8_keep 22 = .ok (.aload_n 0, 1) := by decide +kernel
theorem dX8_keep_23 : decode cX8_keep 23 = .ok (.dup, 1) := by decide +kernel
theorem dX8_keep_24 : decode cX8_keep 24 = .ok (.getfield 74, 3) := by decide +kernel
theorem dX8_keep_27 : decode cX8_keep 27 = .ok (.iconst 1, 1) := by decide +kernel
theorem dX8_keep_28 : decode cX8_keep 28 = .ok (.isub, 1) := by decide +kernel
theorem dX8_keep_29 : decode cX8_keep 29 = .ok (.putfield 74, 3) := by decide +kernel
theorem dX8_keep_32 : decode cX8_keep 32 = .ok (.sipush 3720, 3) := by decide +kernel
theorem dX8_keep_35 : decode cX8_keep 35 = .ok (.aload_n 0, 1) := by decide +kernel
theorem dX8_keep_36 : decode cX8_keep 36 = .ok (.getfield 77, 3) := by decide +kernel
theorem dX8_keep_39 : decode cX8_keep 39 = .ok (.aload_n 0, 1) := by decide +kernel
theorem dX8_keep_40 : decode cX8_keep 40 = .ok (.getfield 74, 3) := by decide +kernel
theorem dX8_keep_43 : decode cX8_keep 43 = .ok (.iadd, 1) := by decide +kernel
theorem dX8_keep_44 : decode cX8_keep 44 = .ok (.bipush 64, 2) := by decide +kernel
theorem dX8_keep_46 : decode cX8_keep 46 = .ok (.irem, 1) := by decide +kernel
theorem dX8_keep_47 : decode cX8_keep 47 = .ok (.imul, 1) := by decide +kernel
theorem dX8_keep_48 : decode cX8_keep 48 = .ok (.istore_n 1, 1) := by decide +kernel
theorem dX8_keep_49 : decode cX8_keep 49 = .ok (.iconst 0, 1) := by decide +kernel
theorem dX8_keep_50 : decode cX8_keep 50 = .ok (.istore_n 2, 1) := by decide +kernel
theorem dX8_keep_51 : decode cX8_keep 51 = .ok (.iload_n 2, 1) := by decide +kernel
theorem dX8_keep_52 : decode cX8_keep 52 = .ok (.sipush 3720, 3) := by decide +kernel
theorem dX8_keep_55 : decode cX8_keep 55 = .ok (.if_icmp .ge 23, 3) := by decide +kernel
theorem dX8_keep_58 : decode cX8_keep 58 = .ok (.aload_n 0, 1) := by decide +kernel
theorem dX8_keep_59 : decode cX8_keep 59 = .ok (.getfield 14, 3) := by decide +kernel
theorem dX8_keep_62 : decode cX8_keep 62 = .ok (.iload_n 1, 1) := by decide +kernel
theorem dX8_keep_63 : decode cX8_keep 63 = .ok (.iload_n 2, 1) := by decide +kernel
theorem dX8_keep_64 : decode cX8_keep 64 = .ok (.iadd, 1) := by decide +kernel
theorem dX8_keep_65 : decode cX8_keep 65 = .ok (.aload_n 0, 1) := by decide +kernel
theorem dX8_keep_66 : decode cX8_keep 66 = .ok (.getfield 7, 3) := by decide +kernel
theorem dX8_keep_69 : decode cX8_keep 69 = .ok (.iload_n 2, 1) := by decide +kernel
theorem dX8_keep_70 : decode cX8_keep 70 = .ok (.iaload, 1) := by decide +kernel
theorem dX8_keep_71 : decode cX8_keep 71 = .ok (.iastore, 1) := by decide +kernel
theorem dX8_keep_72 : decode cX8_keep 72 = .ok (.iinc 2 1, 3) := by decide +kernel
theorem dX8_keep_75 : decode cX8_keep 75 = .ok (.goto (-24), 3) := by decide +kernel
theorem dX8_keep_78 : decode cX8_keep 78 = .ok (.aload_n 0, 1) := by decide +kernel
theorem dX8_keep_79 : decode cX8_keep 79 = .ok (.dup, 1) := by decide +kernel
theorem dX8_keep_80 : decode cX8_keep 80 = .ok (.getfield 74, 3) := by decide +kernel
theorem dX8_keep_83 : decode cX8_keep 83 = .ok (.iconst 1, 1) := by decide +kernel
theorem dX8_keep_84 : decode cX8_keep 84 = .ok (.iadd, 1) := by decide +kernel
theorem dX8_keep_85 : decode cX8_keep 85 = .ok (.putfield 74, 3) := by decide +kernel
theorem dX8_keep_88 : decode cX8_keep 88 = .ok (.return_, 1) := by decide +kernel
set_option maxRecDepth 20000 in
theorem ggX8_task_X8_changed : GoodIn wsX8_task wsX8_changed := goodIn_r _ [9, 10, 11, 12, 13, 14, 15, 16, 17, 18, 19, 20, 21, 22, 23, 24, 25, 26, 27, 28, 29, 30, 31, 32, 33, 34, 35, 36, 37, 38, 39, 40] (by decide +kernel) (by decide +kernel)
set_option maxRecDepth 20000 in
theorem gX8_task_X8_changed : GoodIn wsX8_task (wsV RX8 80 RX8 yX8_changed wsX8_changed) := goodIn_app (goodIn_of _ (by decide +kernel)) ggX8_task_X8_changed
theorem dX8_task_0 : decode cX8_task 0 = .ok (.aload_n 0, 1) := by decide +kernel
theorem dX8_task_1 : decode cX8_task 1 = .ok (.iconst 0, 1) := by decide +kernel
theorem dX8_task_2 : decode cX8_task 2 = .ok (.putfield 67, 3) := by decide +kernel
theorem dX8_task_5 : decode cX8_task 5 = .ok (.iload_n 1, 1) := by decide +kernel
theorem dX8_task_6 : decode cX8_task 6 = .ok (.ifCond .lt 19, 3) := by decide +kernel
theorem dX8_task_9 : decode cX8_task 9 = .ok (.iload_n 1, 1) := by decide +kernel
theorem dX8_task_10 : decode cX8_task 10 = .ok (.sipush 1000, 3) := by decide +kernel
theorem dX8_task_13 : decode cX8_task 13 = .ok (.if_icmp .gt 12, 3) := by decide +kernel
theorem dX8_task_16 : decode cX8_task 16 = .ok (.aload_n 0, 1) := by decide +kernel
theorem dX8_task_17 : decode cX8_task 17 = .ok (.getfield 71, 3) := by decide +kernel
theorem dX8_task_20 : decode cX8_task 20 = .ok (.bipush 60, 2) := by decide +kernel
theorem dX8_task_22 : decode cX8_task 22 = .ok (.if_icmp .ne 5, 3) := by decide +kernel
theorem dX8_task_25 : decode cX8_task 25 = .ok (.iconst (-1), 1) := by decide +kernel
theorem dX8_task_26 : decode cX8_task 26 = .ok (.ireturn, 1) := by decide +kernel
theorem dX8_task_27 : decode cX8_task 27 = .ok (.aload_n 0, 1) := by decide +kernel
theorem dX8_task_28 : decode cX8_task 28 = .ok (.iconst 0, 1) := by decide +kernel
theorem dX8_task_29 : decode cX8_task 29 = .ok (.putfield 74, 3) := by decide +kernel
theorem dX8_task_32 : decode cX8_task 32 = .ok (.aload_n 0, 1) := by decide +kernel
theorem dX8_task_33 : decode cX8_task 33 = .ok (.getfield 7, 3) := by decide +kernel
theorem dX8_task_36 : decode cX8_task 36 = .ok (.sipush 3600, 3) := by decide +kernel
theorem dX8_task_39 : decode cX8_task 39 = .ok (.aload_n 0, 1) := by decide +kernel
theorem dX8_task_40 : decode cX8_task 40 = .ok (.getfield 71, 3) := by decide +kernel
theorem dX8_task_43 : decode cX8_task 43 = .ok (.iadd, 1) := by decide +kernel
theorem dX8_task_44 : decode cX8_task 44 = .ok (.iload_n 1, 1) := by decide +kernel
theorem dX8_task_45 : decode cX8_task 45 = .ok (.iastore, 1) := by decide +kernel
theorem dX8_task_46 : decode cX8_task 46 = .ok (.aload_n 0, 1) := by decide +kernel
theorem dX8_task_47 : decode cX8_task 47 = .ok (.getfield 7, 3) := by decide +kernel
theorem dX8_task_50 : decode cX8_task 50 = .ok (.sipush 3660, 3) := by decide +kernel
theorem dX8_task_53 : decode cX8_task 53 = .ok (.aload_n 0, 1) := by decide +kernel
theorem dX8_task_54 : decode cX8_task 54 = .ok (.getfield 71, 3) := by decide +kernel
theorem dX8_task_57 : decode cX8_task 57 = .ok (.iadd, 1) := by decide +kernel
theorem dX8_task_58 : decode cX8_task 58 = .ok (.aload_n 0, 1) := by decide +kernel
theorem dX8_task_59 : decode cX8_task 59 = .ok (.getfield 71, 3) := by decide +kernel
theorem dX8_task_62 : decode cX8_task 62 = .ok (.iastore, 1) := by decide +kernel
theorem dX8_task_63 : decode cX8_task 63 = .ok (.aload_n 0, 1) := by decide +kernel
theorem dX8_task_64 : decode cX8_task 64 = .ok (.dup, 1) := by decide +kernel
theorem dX8_task_65 : decode cX8_task 65 = .ok (.getfield 71, 3) := by decide +kernel
theorem dX8_task_68 : decode cX8_task 68 = .ok (.iconst 1, 1) := by decide +kernel
theorem dX8_task_69 : decode cX8_task 69 = .ok (.iadd, 1) := by decide +kernel
theorem dX8_task_70 : decode cX8_task 70 = .ok (.putfield 71, 3) := by decide +kernel
theorem dX8_task_73 : decode cX8_task 73 = .ok (.aload_n 0, 1) := by decide +kernel
theorem dX8_task_74 : decode cX8_task 74 = .ok (.invokevirtual 80, 3) := by decide +kernel
theorem dX8_task_77 : decode cX8_task 77 = .ok (.aload_n 0, 1) := by decide +kernel
theorem dX8_task_78 : decode cX8_task 78 = .ok (.getfield 71, 3) := by decide +kernel
theorem dX8_task_81 : decode cX8_task 81 = .ok (.iconst 1, 1) := by decide +kernel
theorem dX8_task_82 : decode cX8_task 82 = .ok (.isub, 1) := by decide +kernel
theorem dX8_task_83 : decode cX8_task 83 = .ok (.ireturn, 1) := by decide +kernel
set_option maxRecDepth 20000 in
theorem ggX8_weigh_X8_has : GoodIn wsX8_weigh wsX8_has := goodIn_r _ [7, 8, 22, 23, 24, 25, 26, 27, 28, 29, 30, 31, 32, 33, 34, 35, 36, 37, 38, 39, 40, 41, 42, 43, 44, 45, 46, 47, 48, 49, 50] (by decide +kernel) (by decide +kernel)
set_option maxRecDepth 20000 in
theorem gX8_weigh_X8_has : GoodIn wsX8_weigh (wsV RX8 83 RX8 yX8_has wsX8_has) := goodIn_app (goodIn_of _ (by decide +kernel)) ggX8_weigh_X8_has
set_option maxRecDepth 20000 in
theorem ggX8_weigh_X8_keep : GoodIn wsX8_weigh wsX8_keep := goodIn_r _ [12, 13, 14, 15, 2, 22, 23, 24, 25, 26, 27, 28, 29, 30, 31, 32, 33, 34, 35, 36, 37, 38, 39, 40, 41, 42, 43, 44, 45, 46, 47, 48, 49, 50] (by decide +kernel) (by decide +kernel)
set_option maxRecDepth 20000 in
theorem gX8_weigh_X8_keep : GoodIn wsX8_weigh (wsV RX8 87 RX8 yX8_keep wsX8_keep) := goodIn_app (goodIn_of _ (by decide +kernel)) ggX8_weigh_X8_keep
set_option maxRecDepth 20000 in
theorem ggX8_weigh_X8_changed : GoodIn wsX8_weigh wsX8_changed := goodIn_r _ [19, 20, 21, 22, 23, 24, 25, 26, 27, 28, 29, 30, 31, 32, 33, 34, 35, 36, 37, 38, 39, 40, 41, 42, 43, 44, 45, 46, 47, 48, 49, 50] (by decide +kernel) (by decide +kernel)
set_option maxRecDepth 20000 in
theorem gX8_weigh_X8_changed : GoodIn wsX8_weigh (wsV RX8 80 RX8 yX8_changed wsX8_changed) := goodIn_app (goodIn_of _ (by decide +kernel)) ggX8_weigh_X8_changed
theorem dX8_weigh_0 : decode cX8_weigh 0 = .ok (.aload_n 0, 1) := by decide +kernel
theorem dX8_weigh_1 : decode cX8_weigh 1 = .ok (.iconst 0, 1) := by decide +kernel
theorem dX8_weigh_2 : decode cX8_weigh 2 = .ok (.putfield 67, 3) := by decide +kernel
theorem dX8_weigh_5 : decode cX8_weigh 5 = .ok (.aload_n 0, 1) := by decide +kernel
theorem dX8_weigh_6 : decode cX8_weigh 6 = .ok (.iload_n 1, 1) := by decide +kernel
theorem dX8_weigh_7 : decode cX8_weigh 7 = .ok (.invokevirtual 83, 3) := by decide +kernel
theorem dX8_weigh_10 : decode cX8_weigh 10 = .ok (.ifCond .eq 14, 3) := by decide +kernel
theorem dX8_weigh_13 : decode cX8_weigh 13 = .ok (.iload_n 2, 1) := by decide +kernel
theorem dX8_weigh_14 : decode cX8_weigh 14 = .ok (.ifCond .lt 10, 3) := by decide +kernel
theorem dX8_weigh_17 : decode cX8_weigh 17 = .ok (.iload_n 2, 1) := by decide +kernel
theorem dX8_weigh_18 : decode cX8_weigh 18 = .ok (.sipush 1000, 3) := by decide +kernel
theorem dX8_weigh_21 : decode cX8_weigh 21 = .ok (.if_icmp .le 5, 3) := by decide +kernel
theorem dX8_weigh_24 : decode cX8_weigh 24 = .ok (.iconst 0, 1) := by decide +kernel
theorem dX8_weigh_25 : decode cX8_weigh 25 = .ok (.ireturn, 1) := by decide +kernel
theorem dX8_weigh_26 : decode cX8_weigh 26 = .ok (.aload_n 0, 1) := by decide +kernel
theorem dX8_weigh_27 : decode cX8_weigh 27 = .ok (.invokevirtual 87, 3) := by decide +kernel
theorem dX8_weigh_30 : decode cX8_weigh 30 = .ok (.aload_n 0, 1) := by decide +kernel
theorem dX8_weigh_31 : decode cX8_weigh 31 = .ok (.getfield 7, 3) := by decide +kernel
theorem dX8_weigh_34 : decode cX8_weigh 34 = .ok (.sipush 3600, 3) := by decide +kernel
theorem dX8_weigh_37 : decode cX8_weigh 37 = .ok (.iload_n 1, 1) := by decide +kernel
theorem dX8_weigh_38 : decode cX8_weigh 38 = .ok (.iadd, 1) := by decide +kernel
theorem dX8_weigh_39 : decode cX8_weigh 39 = .ok (.iload_n 2, 1) := by decide +kernel
theorem dX8_weigh_40 : decode cX8_weigh 40 = .ok (.iastore, 1) := by decide +kernel
theorem dX8_weigh_41 : decode cX8_weigh 41 = .ok (.aload_n 0, 1) := by decide +kernel
theorem dX8_weigh_42 : decode cX8_weigh 42 = .ok (.invokevirtual 80, 3) := by decide +kernel
theorem dX8_weigh_45 : decode cX8_weigh 45 = .ok (.iconst 1, 1) := by decide +kernel
theorem dX8_weigh_46 : decode cX8_weigh 46 = .ok (.ireturn, 1) := by decide +kernel
set_option maxRecDepth 20000 in
theorem ggX8_findReached_X8_isTied : GoodIn wsX8_findReached wsX8_isTied := goodIn_r _ [8, 9, 10, 11, 12, 13, 14, 15, 16, 17, 18, 19, 20, 21, 22, 23, 24, 25, 26, 27, 28, 29, 30, 31, 32, 33, 34, 35, 36, 37, 38] (by decide +kernel) (by decide +kernel)
set_option maxRecDepth 20000 in
theorem gX8_findReached_X8_isTied : GoodIn wsX8_findReached (wsV RX8 90 RX8 yX8_isTied wsX8_isTied) := goodIn_app (goodIn_of _ (by decide +kernel)) ggX8_findReached_X8_isTied
theorem dX8_findReached_0 : decode cX8_findReached 0 = .ok (.iconst 0, 1) := by decide +kernel
theorem dX8_findReached_1 : decode cX8_findReached 1 = .ok (.istore_n 1, 1) := by decide +kernel
theorem dX8_findReached_2 : decode cX8_findReached 2 = .ok (.iload_n 1, 1) := by decide +kernel
theorem dX8_findReached_3 : decode cX8_findReached 3 = .ok (.aload_n 0, 1) := by decide +kernel
theorem dX8_findReached_4 : decode cX8_findReached 4 = .ok (.getfield 71, 3) := by decide +kernel
theorem dX8_findReached_7 : decode cX8_findReached 7 = .ok (.if_icmp .ge 18, 3) := by decide +kernel
theorem dX8_findReached_10 : decode cX8_findReached 10 = .ok (.aload_n 0, 1) := by decide +kernel
theorem dX8_findReached_11 : decode cX8_findReached 11 = .ok (.getfield 54, 3) := by decide +kernel
theorem dX8_findReached_14 : decode cX8_findReached 14 = .ok (.iload_n 1, 1) := by decide +kernel
theorem dX8_findReached_15 : decode cX8_findReached 15 = .ok (.lconst 1, 1) := by decide +kernel
theorem dX8_findReached_16 : decode cX8_findReached 16 = .ok (.iload_n 1, 1) := by decide +kernel
theorem dX8_findReached_17 : decode cX8_findReached 17 = .ok (.lshl, 1) := by decide +kernel
theorem dX8_findReached_18 : decode cX8_findReached 18 = .ok (.lastore, 1) := by decide +kernel
theorem dX8_findReached_19 : decode cX8_findReached 19 = .ok (.iinc 1 1, 3) := by decide +kernel
theorem dX8_findReached_22 : decode cX8_findReached 22 = .ok (.goto (-20), 3) := by decide +kernel
theorem dX8_findReached_25 : decode cX8_findReached 25 = .ok (.iconst 1, 1) := by decide +kernel
theorem dX8_findReached_26 : decode cX8_findReached 26 = .ok (.istore_n 1, 1) := by decide +kernel
theorem dX8_findReached_27 : decode cX8_findReached 27 = .ok (.iload_n 1, 1) := by decide +kernel
theorem dX8_findReached_28 : decode cX8_findReached 28 = .ok (.ifCond .eq 101, 3) := by decide +kernel
theorem dX8_findReached_31 : decode cX8_findReached 31 = .ok (.iconst 0, 1) := by decide +kernel
theorem dX8_findReached_32 : decode cX8_findReached 32 = .ok (.istore_n 1, 1) := by decide +kernel
theorem dX8_findReached_33 : decode cX8_findReached 33 = .ok (.iconst 0, 1) := by decide +kernel
theorem dX8_findReached_34 : decode cX8_findReached 34 = .ok (.istore_n 2, 1) := by decide +kernel
theorem dX8_findReached_35 : decode cX8_findReached 35 = .ok (.iload_n 2, 1) := by decide +kernel
theorem dX8_findReached_36 : decode cX8_findReached 36 = .ok (.aload_n 0, 1) := by decide +kernel
theorem dX8_findReached_37 : decode cX8_findReached 37 = .ok (.getfield 71, 3) := by decide +kernel
theorem dX8_findReached_40 : decode cX8_findReached 40 = .ok (.if_icmp .ge 86, 3) := by decide +kernel
theorem dX8_findReached_43 : decode cX8_findReached 43 = .ok (.aload_n 0, 1) := by decide +kernel
theorem dX8_findReached_44 : decode cX8_findReached 44 = .ok (.getfield 54, 3) := by decide +kernel
theorem dX8_findReached_47 : decode cX8_findReached 47 = .ok (.iload_n 2, 1) := by decide +kernel
theorem dX8_findReached_48 : decode cX8_findReached 48 = .ok (.laload, 1) := by decide +kernel
theorem dX8_findReached_49 : decode cX8_findReached 49 = .ok (.lstore_n 3, 1) := by decide +kernel
theorem dX8_findReached_50 : decode cX8_findReached 50 = .ok (.iconst 0, 1) := by decide +kernel
theorem dX8_findReached_51 : decode cX8_findReached 51 = .ok (.istore 5, 2) := by decide +kernel
theorem dX8_findReached_53 : decode cX8_findReached 53 = .ok (.iload 5, 2) := by decide +kernel
theorem dX8_findReached_55 : decode cX8_findReached 55 = .ok (.aload_n 0, 1) := by decide +kernel
theorem dX8_findReached_56 : decode cX8_findReached 56 = .ok (.getfield 71, 3) := by decide +kernel
theorem dX8_findReached_59 : decode cX8_findReached 59 = .ok (.if_icmp .ge 33, 3) := by decide +kernel
theorem dX8_findReached_62 : decode cX8_findReached 62 = .ok (.aload_n 0, 1) := by decide +kernel
theorem dX8_findReached_63 : decode cX8_findReached 63 = .ok (.iload_n 2, 1) := by decide +kernel
theorem dX8_findReached_64 : decode cX8_findReached 64 = .ok (.iload 5, 2) := by decide +kernel
theorem dX8_findReached_66 : decode cX8_findReached 66 = .ok (.invokevirtual 90, 3) := by decide +kernel
theorem dX8_findReached_69 : decode cX8_findReached 69 = .ok (.ifCond .eq 15, 3) := by decide +kernel
theorem dX8_findReached_72 : decode cX8_findReached 72 = .ok (.lload_n 3, 1) := by decide +kernel
theorem dX8_findReached_73 : decode cX8_findReached 73 = .ok (.aload_n 0, 1) := by decide +kernel
theorem dX8_findReached_74 : decode cX8_findReached 74 = .ok (.getfield 54, 3) := by decide +kernel
theorem dX8_findReached_77 : decode cX8_findReached 77 = .ok (.iload 5, 2) := by decide +kernel
theorem dX8_findReached_79 : decode cX8_findReached 79 = .ok (.laload, 1) := by decide +kernel
theorem dX8_findReached_80 : decode cX8_findReached 80 = .ok (.lor, 1) := by decide +kernel
theorem dX8_findReached_81 : decode cX8_findReached 81 = .ok (.goto 4, 3) := by decide +kernel
theorem dX8_findReached_84 : decode cX8_findReached 84 = .ok (.lload_n 3, 1) := by decide +kernel
theorem dX8_findReached_85 : decode cX8_findReached 85 = .ok (.lstore_n 3, 1) := by decide +kernel
theorem dX8_findReached_86 : decode cX8_findReached 86 = .ok (.iinc 5 1, 3) := by decide +kernel
theorem dX8_findReached_89 : decode cX8_findReached 89 = .ok (.goto (-36), 3) := by decide +kernel
theorem dX8_findReached_92 : decode cX8_findReached 92 = .ok (.iload_n 1, 1) := by decide +kernel
theorem dX8_findReached_93 : decode cX8_findReached 93 = .ok (.ifCond .ne 14, 3) := by decide +kernel
theorem dX8_findReached_96 : decode cX8_findReached 96 = .ok (.lload_n 3, 1) := by decide +kernel
theorem dX8_findReached_97 : decode cX8_findReached 97 = .ok (.aload_n 0, 1) := by decide +kernel
theorem dX8_findReached_98 : decode cX8_findReached 98 = .ok (.getfield 54, 3) := by decide +kernel
theorem dX8_findReached_101 : decode cX8_findReached 101 = .ok (.iload_n 2, 1) := by decide +kernel
theorem dX8_findReached_102 : decode cX8_findReached 102 = .ok (.laload, 1) := by decide +kernel
theorem dX8_findReached_103 : decode cX8_findReached 103 = .ok (.lcmp, 1) := by decide +kernel
theorem dX8_findReached_104 : decode cX8_findReached 104 = .ok (.ifCond .eq 7, 3) := by decide +kernel
theorem dX8_findReached_107 : decode cX8_findReached 107 = .ok (.iconst 1, 1) := by decide +kernel
theorem dX8_findReached_108 : decode cX8_findReached 108 = .ok (.goto 4, 3) := by decide +kernel
theorem dX8_findReached_111 : decode cX8_findReached 111 = .ok (.iconst 0, 1) := by decide +kernel
theorem dX8_findReached_112 : decode cX8_findReached 112 = .ok (.istore_n 1, 1) := by decide +kernel
theorem dX8_findReached_113 : decode cX8_findReached 113 = .ok (.aload_n 0, 1) := by decide +kernel
theorem dX8_findReached_114 : decode cX8_findReached 114 = .ok (.getfield 54, 3) := by decide +kernel
theorem dX8_findReached_117 : decode cX8_findReached 117 = .ok (.iload_n 2, 1) := by decide +kernel
theorem dX8_findReached_118 : decode cX8_findReached 118 = .ok (.lload_n 3, 1) := by decide +kernel
theorem dX8_findReached_119 : decode cX8_findReached 119 = .ok (.lastore, 1) := by decide +kernel
theorem dX8_findReached_120 : decode cX8_findReached 120 = .ok (.iinc 2 1, 3) := by decide +kernel
theorem dX8_findReached_123 : decode cX8_findReached 123 = .ok (.goto (-88), 3) := by decide +kernel
theorem dX8_findReached_126 : decode cX8_findReached 126 = .ok (.goto (-99), 3) := by decide +kernel
theorem dX8_findReached_129 : decode cX8_findReached 129 = .ok (.aload_n 0, 1) := by decide +kernel
theorem dX8_findReached_130 : decode cX8_findReached 130 = .ok (.iconst 1, 1) := by decide +kernel
theorem dX8_findReached_131 : decode cX8_findReached 131 = .ok (.putfield 94, 3) := by decide +kernel
theorem dX8_findReached_134 : decode cX8_findReached 134 = .ok (.return_, 1) := by decide +kernel
set_option maxRecDepth 20000 in
theorem ggX8_doesReach_X8_findReached : GoodIn wsX8_doesReach wsX8_findReached := goodIn_r _ [7, 8, 2, 1, 9, 10, 11, 6, 12, 13, 14, 15, 16, 17, 18, 19, 20, 21, 22, 23, 24, 25, 26, 27, 28, 29, 30, 31, 32, 33, 34, 35, 36, 37, 38, 39, 40, 41, 42] (by decide +kernel) (by decide +kernel)
set_option maxRecDepth 20000 in
theorem gX8_doesReach_X8_findReached : GoodIn wsX8_doesReach (wsV RX8 98 RX8 yX8_findReached wsX8_findReached) := goodIn_app (goodIn_of _ (by decide +kernel)) ggX8_doesReach_X8_findReached
theorem dX8_doesReach_0 : decode cX8_doesReach 0 = .ok (.aload_n 0, 1) := by decide +kernel
theorem dX8_doesReach_1 : decode cX8_doesReach 1 = .ok (.getfield 94, 3) := by decide +kernel
theorem dX8_doesReach_4 : decode cX8_doesReach 4 = .ok (.ifCond .ne 7, 3) := by decide +kernel
theorem dX8_doesReach_7 : decode cX8_doesReach 7 = .ok (.aload_n 0, 1) := by decide +kernel
theorem dX8_doesReach_8 : decode cX8_doesReach 8 = .ok (.invokevirtual 98, 3) := by decide +kernel
theorem dX8_doesReach_11 : decode cX8_doesReach 11 = .ok (.aload_n 0, 1) := by decide +kernel
theorem dX8_doesReach_12 : decode cX8_doesReach 12 = .ok (.getfield 54, 3) := by decide +kernel
theorem dX8_doesReach_15 : decode cX8_doesReach 15 = .ok (.iload_n 1, 1) := by decide +kernel
theorem dX8_doesReach_16 : decode cX8_doesReach 16 = .ok (.laload, 1) := by decide +kernel
theorem dX8_doesReach_17 : decode cX8_doesReach 17 = .ok (.iload_n 2, 1) := by decide +kernel
theorem dX8_doesReach_18 : decode cX8_doesReach 18 = .ok (.lshr, 1) := by decide +kernel
theorem dX8_doesReach_19 : decode cX8_doesReach 19 = .ok (.lconst 1, 1) := by decide +kernel
theorem dX8_doesReach_20 : decode cX8_doesReach 20 = .ok (.land, 1) := by decide +kernel
theorem dX8_doesReach_21 : decode cX8_doesReach 21 = .ok (.lconst 1, 1) := by decide +kernel
theorem dX8_doesReach_22 : decode cX8_doesReach 22 = .ok (.lcmp, 1) := by decide +kernel
theorem dX8_doesReach_23 : decode cX8_doesReach 23 = .ok (.ifCond .ne 7, 3) := by decide +kernel
theorem dX8_doesReach_26 : decode cX8_doesReach 26 = .ok (.iconst 1, 1) := by decide +kernel
theorem dX8_doesReach_27 : decode cX8_doesReach 27 = .ok (.goto 4, 3) := by decide +kernel
theorem dX8_doesReach_30 : decode cX8_doesReach 30 = .ok (.iconst 0, 1) := by decide +kernel
theorem dX8_doesReach_31 : decode cX8_doesReach 31 = .ok (.ireturn, 1) := by decide +kernel
theorem dX8_changed_0 : decode cX8_changed 0 = .ok (.aload_n 0, 1) := by decide +kernel
theorem dX8_changed_1 : decode cX8_changed 1 = .ok (.iconst 0, 1) := by decide +kernel
theorem dX8_changed_2 : decode cX8_changed 2 = .ok (.putfield 101, 3) := by decide +kernel
theorem dX8_changed_5 : decode cX8_changed 5 = .ok (.aload_n 0, 1) := by decide +kernel
theorem dX8_changed_6 : decode cX8_changed 6 = .ok (.iconst 0, 1) := by decide +kernel
theorem dX8_changed_7 : decode cX8_changed 7 = .ok (.putfield 94, 3) := by decide +kernel
theorem dX8_changed_10 : decode cX8_changed 10 = .ok (.return_, 1) := by decide +kernel
set_option maxRecDepth 20000 in
theorem ggX8_findFar_X8_isTied : GoodIn wsX8_findFar wsX8_isTied := goodIn_r _ [7, 8, 9, 10, 11, 12, 13, 14, 15, 16, 17, 18, 19, 20, 21, 22, 23, 24, 25, 26, 27, 28, 29, 30, 31, 32, 33, 34, 35, 36, 37] (by decide +kernel) (by decide +kernel)
set_option maxRecDepth 20000 in
theorem gX8_findFar_X8_isTied : GoodIn wsX8_findFar (wsV RX8 90 RX8 yX8_isTied wsX8_isTied) := goodIn_app (goodIn_of _ (by decide +kernel)) ggX8_findFar_X8_isTied
theorem dX8_findFar_0 : decode cX8_findFar 0 = .ok (.iconst 0, 1) := by decide +kernel
theorem dX8_findFar_1 : decode cX8_findFar 1 = .ok (.istore_n 2, 1) := by decide +kernel
theorem dX8_findFar_2 : decode cX8_findFar 2 = .ok (.iload_n 2, 1) := by decide +kernel
theorem dX8_findFar_3 : decode cX8_findFar 3 = .ok (.aload_n 0, 1) := by decide +kernel
theorem dX8_findFar_4 : decode cX8_findFar 4 = .ok (.getfield 71, 3) := by decide +kernel
theorem dX8_findFar_7 : decode cX8_findFar 7 = .ok (.if_icmp .ge 25, 3) := by decide +kernel
theorem dX8_findFar_10 : decode cX8_findFar 10 = .ok (.aload_n 0, 1) := by decide +kernel
theorem dX8_findFar_11 : decode cX8_findFar 11 = .ok (.getfield 26, 3) := by decide +kernel
