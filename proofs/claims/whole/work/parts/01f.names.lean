theorem dX8_needless_28 : decode cX8_needless 28 = .ok (.ifCond .eq 18, 3) := by decide +kernel
theorem dX8_needless_31 : decode cX8_needless 31 = .ok (.aload_n 0, 1) := by decide +kernel
theorem dX8_needless_32 : decode cX8_needless 32 = .ok (.iload_n 2, 1) := by decide +kernel
theorem dX8_needless_33 : decode cX8_needless 33 = .ok (.iload_n 3, 1) := by decide +kernel
theorem dX8_needless_34 : decode cX8_needless 34 = .ok (.invokevirtual 148, 3) := by decide +kernel
theorem dX8_needless_37 : decode cX8_needless 37 = .ok (.ifCond .eq 9, 3) := by decide +kernel
theorem dX8_needless_40 : decode cX8_needless 40 = .ok (.iload_n 1, 1) := by decide +kernel
theorem dX8_needless_41 : decode cX8_needless 41 = .ok (.iconst 1, 1) := by decide +kernel
theorem dX8_needless_42 : decode cX8_needless 42 = .ok (.iadd, 1) := by decide +kernel
theorem dX8_needless_43 : decode cX8_needless 43 = .ok (.goto 4, 3) := by decide +kernel
theorem dX8_needless_46 : decode cX8_needless 46 = .ok (.iload_n 1, 1) := by decide +kernel
theorem dX8_needless_47 : decode cX8_needless 47 = .ok (.istore_n 1, 1) := by decide +kernel
theorem dX8_needless_48 : decode cX8_needless 48 = .ok (.iinc 3 1, 3) := by decide +kernel
theorem dX8_needless_51 : decode cX8_needless 51 = .ok (.goto (-37), 3) := by decide +kernel
theorem dX8_needless_54 : decode cX8_needless 54 = .ok (.iinc 2 1, 3) := by decide +kernel
theorem dX8_needless_57 : decode cX8_needless 57 = .ok (.goto (-53), 3) := by decide +kernel
theorem dX8_needless_60 : decode cX8_needless 60 = .ok (.iload_n 1, 1) := by decide +kernel
theorem dX8_needless_61 : decode cX8_needless 61 = .ok (.ireturn, 1) := by decide +kernel
set_option maxRecDepth 20000 in
theorem ggX8_count_X8_ties : GoodIn wsX8_count wsX8_ties := goodIn_r _ [12, 13, 47, 48, 49, 50, 51, 52, 53, 54, 55, 56, 57, 58, 59, 60, 61, 62, 63, 64, 65, 66, 67, 68, 69, 70, 71, 72, 73, 74, 75] (by decide +kernel) (by decide +kernel)
set_option maxRecDepth 20000 in
theorem gX8_count_X8_ties : GoodIn wsX8_count (wsV RX8 131 RX8 yX8_ties wsX8_ties) := goodIn_app (goodIn_of _ (by decide +kernel)) ggX8_count_X8_ties
set_option maxRecDepth 20000 in
theorem ggX8_count_X8_needless : GoodIn wsX8_count wsX8_needless := goodIn_r _ [17, 2, 18, 19, 20, 11, 21, 13, 22, 23, 24, 25, 26, 27, 28, 29, 30, 31, 32, 33, 34, 35, 47, 48, 49, 50, 51, 52, 53, 54, 55, 56, 57, 58, 59, 60, 61, 62, 63, 64, 65, 66, 67, 68, 69, 70, 71, 72, 73, 74, 75] (by decide +kernel) (by decide +kernel)
set_option maxRecDepth 20000 in
theorem gX8_count_X8_needless : GoodIn wsX8_count (wsV RX8 151 RX8 yX8_needless wsX8_needless) := goodIn_app (goodIn_of _ (by decide +kernel)) ggX8_count_X8_needless
set_option maxRecDepth 20000 in
theorem ggX8_count_X8_findTimes : GoodIn wsX8_count wsX8_findTimes := goodIn_r _ [39, 40, 2, 41, 42, 7, 43, 44, 45, 11, 46, 13, 18, 19, 20, 21, 47, 48, 49, 50, 51, 52, 53, 54, 55, 56, 57, 58, 59, 60, 61, 62, 63, 64, 65, 66, 67, 68, 69, 70, 71, 72, 73, 74, 75] (by decide +kernel) (by decide +kernel)
set_option maxRecDepth 20000 in
theorem gX8_count_X8_findTimes : GoodIn wsX8_count (wsV RX8 154 RX8 yX8_findTimes wsX8_findTimes) := goodIn_app (goodIn_of _ (by decide +kernel)) ggX8_count_X8_findTimes
theorem dX8_count_0 : decode cX8_count 0 = .ok (.aload_n 0, 1) := by decide +kernel
theorem dX8_count_1 : decode cX8_count 1 = .ok (.iconst 0, 1) := by decide +kernel
theorem dX8_count_2 : decode cX8_count 2 = .ok (.putfield 67, 3) := by decide +kernel
theorem dX8_count_5 : decode cX8_count 5 = .ok (.iload_n 1, 1) := by decide +kernel
theorem dX8_count_6 : decode cX8_count 6 = .ok (.tableswitch 90 0 7 #[46, 51, 56, 61, 66, 71, 76, 81], 46) := by decide +kernel
theorem dX8_count_52 : decode cX8_count 52 = .ok (.aload_n 0, 1) := by decide +kernel
theorem dX8_count_53 : decode cX8_count 53 = .ok (.getfield 71, 3) := by decide +kernel
theorem dX8_count_56 : decode cX8_count 56 = .ok (.ireturn, 1) := by decide +kernel
theorem dX8_count_57 : decode cX8_count 57 = .ok (.aload_n 0, 1) := by decide +kernel
theorem dX8_count_58 : decode cX8_count 58 = .ok (.invokevirtual 131, 3) := by decide +kernel
theorem dX8_count_61 : decode cX8_count 61 = .ok (.ireturn, 1) := by decide +kernel
theorem dX8_count_62 : decode cX8_count 62 = .ok (.aload_n 0, 1) := by decide +kernel
theorem dX8_count_63 : decode cX8_count 63 = .ok (.getfield 141, 3) := by decide +kernel
theorem dX8_count_66 : decode cX8_count 66 = .ok (.ireturn, 1) := by decide +kernel
theorem dX8_count_67 : decode cX8_count 67 = .ok (.aload_n 0, 1) := by decide +kernel
theorem dX8_count_68 : decode cX8_count 68 = .ok (.getfield 74, 3) := by decide +kernel
theorem dX8_count_71 : decode cX8_count 71 = .ok (.ireturn, 1) := by decide +kernel
theorem dX8_count_72 : decode cX8_count 72 = .ok (.aload_n 0, 1) := by decide +kernel
theorem dX8_count_73 : decode cX8_count 73 = .ok (.getfield 108, 3) := by decide +kernel
theorem dX8_count_76 : decode cX8_count 76 = .ok (.ireturn, 1) := by decide +kernel
theorem dX8_count_77 : decode cX8_count 77 = .ok (.aload_n 0, 1) := by decide +kernel
theorem dX8_count_78 : decode cX8_count 78 = .ok (.getfield 124, 3) := by decide +kernel
theorem dX8_count_81 : decode cX8_count 81 = .ok (.ireturn, 1) := by decide +kernel
theorem dX8_count_82 : decode cX8_count 82 = .ok (.aload_n 0, 1) := by decide +kernel
theorem dX8_count_83 : decode cX8_count 83 = .ok (.invokevirtual 151, 3) := by decide +kernel
theorem dX8_count_86 : decode cX8_count 86 = .ok (.ireturn, 1) := by decide +kernel
theorem dX8_count_87 : decode cX8_count 87 = .ok (.aload_n 0, 1) := by decide +kernel
theorem dX8_count_88 : decode cX8_count 88 = .ok (.invokevirtual 154, 3) := by decide +kernel
theorem dX8_count_91 : decode cX8_count 91 = .ok (.aload_n 0, 1) := by decide +kernel
theorem dX8_count_92 : decode cX8_count 92 = .ok (.getfield 157, 3) := by decide +kernel
theorem dX8_count_95 : decode cX8_count 95 = .ok (.ireturn, 1) := by decide +kernel
theorem dX8_count_96 : decode cX8_count 96 = .ok (.iconst (-1), 1) := by decide +kernel
theorem dX8_count_97 : decode cX8_count 97 = .ok (.ireturn, 1) := by decide +kernel
set_option maxRecDepth 20000 in
theorem ggX8_reaches_X8_has : GoodIn wsX8_reaches wsX8_has := goodIn_r _ [6, 7, 23, 24, 25, 26, 27, 28, 29, 30, 31, 32, 33, 34, 35, 36, 37, 38, 39, 40, 41, 42, 43, 44, 45, 46, 47, 48, 49, 50, 51] (by decide +kernel) (by decide +kernel)
set_option maxRecDepth 20000 in
theorem gX8_reaches_X8_has : GoodIn wsX8_reaches (wsV RX8 83 RX8 yX8_has wsX8_has) := goodIn_app (goodIn_of _ (by decide +kernel)) ggX8_reaches_X8_has
set_option maxRecDepth 20000 in
theorem ggX8_reaches_X8_doesReach : GoodIn wsX8_reaches wsX8_doesReach := goodIn_r _ [11, 12, 13, 14, 15, 16, 5, 17, 7, 18, 19, 20, 21, 22, 23, 24, 25, 26, 27, 28, 29, 30, 31, 32, 33, 34, 35, 36, 37, 38, 39, 40, 41, 42, 43, 44, 45, 46, 47, 48, 49, 50, 51] (by decide +kernel) (by decide +kernel)
set_option maxRecDepth 20000 in
theorem gX8_reaches_X8_doesReach : GoodIn wsX8_reaches (wsV RX8 115 RX8 yX8_doesReach wsX8_doesReach) := goodIn_app (goodIn_of _ (by decide +kernel)) ggX8_reaches_X8_doesReach
theorem dX8_reaches_0 : decode cX8_reaches 0 = .ok (.aload_n 0, 1) := by decide +kernel
theorem dX8_reaches_1 : decode cX8_reaches 1 = .ok (.iconst 0, 1) := by decide +kernel
theorem dX8_reaches_2 : decode cX8_reaches 2 = .ok (.putfield 67, 3) := by decide +kernel
theorem dX8_reaches_5 : decode cX8_reaches 5 = .ok (.aload_n 0, 1) := by decide +kernel
theorem dX8_reaches_6 : decode cX8_reaches 6 = .ok (.iload_n 1, 1) := by decide +kernel
theorem dX8_reaches_7 : decode cX8_reaches 7 = .ok (.invokevirtual 83, 3) := by decide +kernel
theorem dX8_reaches_10 : decode cX8_reaches 10 = .ok (.ifCond .eq 11, 3) := by decide +kernel
theorem dX8_reaches_13 : decode cX8_reaches 13 = .ok (.aload_n 0, 1) := by decide +kernel
theorem dX8_reaches_14 : decode cX8_reaches 14 = .ok (.iload_n 2, 1) := by decide +kernel
theorem dX8_reaches_15 : decode cX8_reaches 15 = .ok (.invokevirtual 83, 3) := by decide +kernel
theorem dX8_reaches_18 : decode cX8_reaches 18 = .ok (.ifCond .ne 7, 3) := by decide +kernel
theorem dX8_reaches_21 : decode cX8_reaches 21 = .ok (.iconst (-1), 1) := by decide +kernel
theorem dX8_reaches_22 : decode cX8_reaches 22 = .ok (.goto 17, 3) := by decide +kernel
theorem dX8_reaches_25 : decode cX8_reaches 25 = .ok (.aload_n 0, 1) := by decide +kernel
theorem dX8_reaches_26 : decode cX8_reaches 26 = .ok (.iload_n 1, 1) := by decide +kernel
theorem dX8_reaches_27 : decode cX8_reaches 27 = .ok (.iload_n 2, 1) := by decide +kernel
theorem dX8_reaches_28 : decode cX8_reaches 28 = .ok (.invokevirtual 115, 3) := by decide +kernel
theorem dX8_reaches_31 : decode cX8_reaches 31 = .ok (.ifCond .eq 7, 3) := by decide +kernel
theorem dX8_reaches_34 : decode cX8_reaches 34 = .ok (.iconst 1, 1) := by decide +kernel
theorem dX8_reaches_35 : decode cX8_reaches 35 = .ok (.goto 4, 3) := by decide +kernel
theorem dX8_reaches_38 : decode cX8_reaches 38 = .ok (.iconst 0, 1) := by decide +kernel
theorem dX8_reaches_39 : decode cX8_reaches 39 = .ok (.ireturn, 1) := by decide +kernel
set_option maxRecDepth 20000 in
theorem ggX8_tied_X8_has : GoodIn wsX8_tied wsX8_has := goodIn_r _ [6, 7, 27, 28, 29, 30, 31, 32, 33, 34, 35, 36, 37, 38, 39, 40, 41, 42, 43, 44, 45, 46, 47, 48, 49, 50, 51, 52, 53, 54, 55] (by decide +kernel) (by decide +kernel)
set_option maxRecDepth 20000 in
theorem gX8_tied_X8_has : GoodIn wsX8_tied (wsV RX8 83 RX8 yX8_has wsX8_has) := goodIn_app (goodIn_of _ (by decide +kernel)) ggX8_tied_X8_has
set_option maxRecDepth 20000 in
theorem ggX8_tied_X8_isTied : GoodIn wsX8_tied wsX8_isTied := goodIn_r _ [11, 12, 27, 28, 29, 30, 31, 32, 33, 34, 35, 36, 37, 38, 39, 40, 41, 42, 43, 44, 45, 46, 47, 48, 49, 50, 51, 52, 53, 54, 55] (by decide +kernel) (by decide +kernel)
set_option maxRecDepth 20000 in
theorem gX8_tied_X8_isTied : GoodIn wsX8_tied (wsV RX8 90 RX8 yX8_isTied wsX8_isTied) := goodIn_app (goodIn_of _ (by decide +kernel)) ggX8_tied_X8_isTied
set_option maxRecDepth 20000 in
theorem ggX8_tied_X8_isNeedless : GoodIn wsX8_tied wsX8_isNeedless := goodIn_r _ [16, 7, 8, 9, 10, 5, 11, 12, 17, 18, 19, 20, 21, 22, 23, 24, 25, 26, 27, 28, 29, 30, 31, 32, 33, 34, 35, 36, 37, 38, 39, 40, 41, 42, 43, 44, 45, 46, 47, 48, 49, 50, 51, 52, 53, 54, 55] (by decide +kernel) (by decide +kernel)
set_option maxRecDepth 20000 in
theorem gX8_tied_X8_isNeedless : GoodIn wsX8_tied (wsV RX8 148 RX8 yX8_isNeedless wsX8_isNeedless) := goodIn_app (goodIn_of _ (by decide +kernel)) ggX8_tied_X8_isNeedless
theorem dX8_tied_0 : decode cX8_tied 0 = .ok (.aload_n 0, 1) := by decide +kernel
theorem dX8_tied_1 : decode cX8_tied 1 = .ok (.iconst 0, 1) := by decide +kernel
theorem dX8_tied_2 : decode cX8_tied 2 = .ok (.putfield 67, 3) := by decide +kernel
theorem dX8_tied_5 : decode cX8_tied 5 = .ok (.aload_n 0, 1) := by decide +kernel
theorem dX8_tied_6 : decode cX8_tied 6 = .ok (.iload_n 1, 1) := by decide +kernel
theorem dX8_tied_7 : decode cX8_tied 7 = .ok (.invokevirtual 83, 3) := by decide +kernel
theorem dX8_tied_10 : decode cX8_tied 10 = .ok (.ifCond .eq 11, 3) := by decide +kernel
theorem dX8_tied_13 : decode cX8_tied 13 = .ok (.aload_n 0, 1) := by decide +kernel
theorem dX8_tied_14 : decode cX8_tied 14 = .ok (.iload_n 2, 1) := by decide +kernel
theorem dX8_tied_15 : decode cX8_tied 15 = .ok (.invokevirtual 83, 3) := by decide +kernel
theorem dX8_tied_18 : decode cX8_tied 18 = .ok (.ifCond .ne 7, 3) := by decide +kernel
theorem dX8_tied_21 : decode cX8_tied 21 = .ok (.iconst (-1), 1) := by decide +kernel
theorem dX8_tied_22 : decode cX8_tied 22 = .ok (.goto 30, 3) := by decide +kernel
theorem dX8_tied_25 : decode cX8_tied 25 = .ok (.aload_n 0, 1) := by decide +kernel
theorem dX8_tied_26 : decode cX8_tied 26 = .ok (.iload_n 1, 1) := by decide +kernel
theorem dX8_tied_27 : decode cX8_tied 27 = .ok (.iload_n 2, 1) := by decide +kernel
theorem dX8_tied_28 : decode cX8_tied 28 = .ok (.invokevirtual 90, 3) := by decide +kernel
theorem dX8_tied_31 : decode cX8_tied 31 = .ok (.ifCond .ne 7, 3) := by decide +kernel
theorem dX8_tied_34 : decode cX8_tied 34 = .ok (.iconst 0, 1) := by decide +kernel
theorem dX8_tied_35 : decode cX8_tied 35 = .ok (.goto 17, 3) := by decide +kernel
theorem dX8_tied_38 : decode cX8_tied 38 = .ok (.aload_n 0, 1) := by decide +kernel
theorem dX8_tied_39 : decode cX8_tied 39 = .ok (.iload_n 1, 1) := by decide +kernel
theorem dX8_tied_40 : decode cX8_tied 40 = .ok (.iload_n 2, 1) := by decide +kernel
theorem dX8_tied_41 : decode cX8_tied 41 = .ok (.invokevirtual 148, 3) := by decide +kernel
theorem dX8_tied_44 : decode cX8_tied 44 = .ok (.ifCond .eq 7, 3) := by decide +kernel
theorem dX8_tied_47 : decode cX8_tied 47 = .ok (.iconst 2, 1) := by decide +kernel
theorem dX8_tied_48 : decode cX8_tied 48 = .ok (.goto 4, 3) := by decide +kernel
theorem dX8_tied_51 : decode cX8_tied 51 = .ok (.iconst 1, 1) := by decide +kernel
theorem dX8_tied_52 : decode cX8_tied 52 = .ok (.ireturn, 1) := by decide +kernel
theorem dX8_witness_0 : decode cX8_witness 0 = .ok (.aload_n 0, 1) := by decide +kernel
theorem dX8_witness_1 : decode cX8_witness 1 = .ok (.iconst 0, 1) := by decide +kernel
theorem dX8_witness_2 : decode cX8_witness 2 = .ok (.putfield 67, 3) := by decide +kernel
theorem dX8_witness_5 : decode cX8_witness 5 = .ok (.iload_n 1, 1) := by decide +kernel
theorem dX8_witness_6 : decode cX8_witness 6 = .ok (.ifCond .lt 20, 3) := by decide +kernel
theorem dX8_witness_9 : decode cX8_witness 9 = .ok (.iload_n 1, 1) := by decide +kernel
theorem dX8_witness_10 : decode cX8_witness 10 = .ok (.aload_n 0, 1) := by decide +kernel
theorem dX8_witness_11 : decode cX8_witness 11 = .ok (.getfield 108, 3) := by decide +kernel
theorem dX8_witness_14 : decode cX8_witness 14 = .ok (.if_icmp .ge 12, 3) := by decide +kernel
theorem dX8_witness_17 : decode cX8_witness 17 = .ok (.aload_n 0, 1) := by decide +kernel
theorem dX8_witness_18 : decode cX8_witness 18 = .ok (.getfield 23, 3) := by decide +kernel
theorem dX8_witness_21 : decode cX8_witness 21 = .ok (.iload_n 1, 1) := by decide +kernel
theorem dX8_witness_22 : decode cX8_witness 22 = .ok (.iaload, 1) := by decide +kernel
theorem dX8_witness_23 : decode cX8_witness 23 = .ok (.goto 4, 3) := by decide +kernel
theorem dX8_witness_26 : decode cX8_witness 26 = .ok (.iconst (-1), 1) := by decide +kernel
theorem dX8_witness_27 : decode cX8_witness 27 = .ok (.ireturn, 1) := by decide +kernel
set_option maxRecDepth 20000 in
theorem ggX8_findTimes_X8_weightOf : GoodIn wsX8_findTimes wsX8_weightOf := goodIn_r _ [10, 11, 16, 17, 18, 19, 20, 21, 22, 23, 24, 25, 26, 27, 28, 29, 30, 31, 32, 33, 34, 35, 36, 37, 38, 39, 40, 41, 42, 43, 44] (by decide +kernel) (by decide +kernel)
set_option maxRecDepth 20000 in
theorem gX8_findTimes_X8_weightOf : GoodIn wsX8_findTimes (wsV RX8 160 RX8 yX8_weightOf wsX8_weightOf) := goodIn_app (goodIn_of _ (by decide +kernel)) ggX8_findTimes_X8_weightOf
set_option maxRecDepth 20000 in
theorem ggX8_findTimes_X8_isTied : GoodIn wsX8_findTimes wsX8_isTied := goodIn_r _ [15, 11, 16, 17, 18, 19, 20, 21, 22, 23, 24, 25, 26, 27, 28, 29, 30, 31, 32, 33, 34, 35, 36, 37, 38, 39, 40, 41, 42, 43, 44] (by decide +kernel) (by decide +kernel)
set_option maxRecDepth 20000 in
theorem gX8_findTimes_X8_isTied : GoodIn wsX8_findTimes (wsV RX8 90 RX8 yX8_isTied wsX8_isTied) := goodIn_app (goodIn_of _ (by decide +kernel)) ggX8_findTimes_X8_isTied
theorem dX8_findTimes_0 : decode cX8_findTimes 0 = .ok (.aload_n 0, 1) := by decide +kernel
theorem dX8_findTimes_1 : decode cX8_findTimes 1 = .ok (.getfield 101, 3) := by decide +kernel
theorem dX8_findTimes_4 : decode cX8_findTimes 4 = .ok (.ifCond .eq 4, 3) := by decide +kernel
theorem dX8_findTimes_7 : decode cX8_findTimes 7 = .ok (.return_, 1) := by decide +kernel
theorem dX8_findTimes_8 : decode cX8_findTimes 8 = .ok (.aload_n 0, 1) := by decide +kernel
theorem dX8_findTimes_9 : decode cX8_findTimes 9 = .ok (.iconst 1, 1) := by decide +kernel
theorem dX8_findTimes_10 : decode cX8_findTimes 10 = .ok (.putfield 101, 3) := by decide +kernel
theorem dX8_findTimes_13 : decode cX8_findTimes 13 = .ok (.iconst 0, 1) := by decide +kernel
theorem dX8_findTimes_14 : decode cX8_findTimes 14 = .ok (.istore_n 1, 1) := by decide +kernel
theorem dX8_findTimes_15 : decode cX8_findTimes 15 = .ok (.iload_n 1, 1) := by decide +kernel
theorem dX8_findTimes_16 : decode cX8_findTimes 16 = .ok (.aload_n 0, 1) := by decide +kernel
theorem dX8_findTimes_17 : decode cX8_findTimes 17 = .ok (.getfield 71, 3) := by decide +kernel
theorem dX8_findTimes_20 : decode cX8_findTimes 20 = .ok (.if_icmp .ge 27, 3) := by decide +kernel
theorem dX8_findTimes_23 : decode cX8_findTimes 23 = .ok (.aload_n 0, 1) := by decide +kernel
theorem dX8_findTimes_24 : decode cX8_findTimes 24 = .ok (.getfield 29, 3) := by decide +kernel
theorem dX8_findTimes_27 : decode cX8_findTimes 27 = .ok (.iload_n 1, 1) := by decide +kernel
theorem dX8_findTimes_28 : decode cX8_findTimes 28 = .ok (.iconst 0, 1) := by decide +kernel
theorem dX8_findTimes_29 : decode cX8_findTimes 29 = .ok (.iastore, 1) := by decide +kernel
theorem dX8_findTimes_30 : decode cX8_findTimes 30 = .ok (.aload_n 0, 1) := by decide +kernel
theorem dX8_findTimes_31 : decode cX8_findTimes 31 = .ok (.getfield 32, 3) := by decide +kernel
theorem dX8_findTimes_34 : decode cX8_findTimes 34 = .ok (.iload_n 1, 1) := by decide +kernel
theorem dX8_findTimes_35 : decode cX8_findTimes 35 = .ok (.aload_n 0, 1) := by decide +kernel
theorem dX8_findTimes_36 : decode cX8_findTimes 36 = .ok (.iload_n 1, 1) := by decide +kernel
theorem dX8_findTimes_37 : decode cX8_findTimes 37 = .ok (.invokevirtual 160, 3) := by decide +kernel
theorem dX8_findTimes_40 : decode cX8_findTimes 40 = .ok (.iastore, 1) := by decide +kernel
theorem dX8_findTimes_41 : decode cX8_findTimes 41 = .ok (.iinc 1 1, 3) := by decide +kernel
theorem dX8_findTimes_44 : decode cX8_findTimes 44 = .ok (.goto (-29), 3) := by decide +kernel
theorem dX8_findTimes_47 : decode cX8_findTimes 47 = .ok (.iconst 1, 1) := by decide +kernel
theorem dX8_findTimes_48 : decode cX8_findTimes 48 = .ok (.istore_n 1, 1) := by decide +kernel
theorem dX8_findTimes_49 : decode cX8_findTimes 49 = .ok (.iload_n 1, 1) := by decide +kernel
theorem dX8_findTimes_50 : decode cX8_findTimes 50 = .ok (.ifCond .eq 198, 3) := by decide +kernel
theorem dX8_findTimes_53 : decode cX8_findTimes 53 = .ok (.iconst 0, 1) := by decide +kernel
theorem dX8_findTimes_54 : decode cX8_findTimes 54 = .ok (.istore_n 1, 1) := by decide +kernel
theorem dX8_findTimes_55 : decode cX8_findTimes 55 = .ok (.iconst 0, 1) := by decide +kernel
theorem dX8_findTimes_56 : decode cX8_findTimes 56 = .ok (.istore_n 2, 1) := by decide +kernel
theorem dX8_findTimes_57 : decode cX8_findTimes 57 = .ok (.iload_n 2, 1) := by decide +kernel
theorem dX8_findTimes_58 : decode cX8_findTimes 58 = .ok (.aload_n 0, 1) := by decide +kernel
theorem dX8_findTimes_59 : decode cX8_findTimes 59 = .ok (.getfield 71, 3) := by decide +kernel
theorem dX8_findTimes_62 : decode cX8_findTimes 62 = .ok (.if_icmp .ge 183, 3) := by decide +kernel
theorem dX8_findTimes_65 : decode cX8_findTimes 65 = .ok (.iconst 0, 1) := by decide +kernel
theorem dX8_findTimes_66 : decode cX8_findTimes 66 = .ok (.istore_n 3, 1) := by decide +kernel
theorem dX8_findTimes_67 : decode cX8_findTimes 67 = .ok (.iload_n 3, 1) := by decide +kernel
theorem dX8_findTimes_68 : decode cX8_findTimes 68 = .ok (.aload_n 0, 1) := by decide +kernel
theorem dX8_findTimes_69 : decode cX8_findTimes 69 = .ok (.getfield 71, 3) := by decide +kernel
theorem dX8_findTimes_72 : decode cX8_findTimes 72 = .ok (.if_icmp .ge 167, 3) := by decide +kernel
theorem dX8_findTimes_75 : decode cX8_findTimes 75 = .ok (.aload_n 0, 1) := by decide +kernel
theorem dX8_findTimes_76 : decode cX8_findTimes 76 = .ok (.iload_n 2, 1) := by decide +kernel
theorem dX8_findTimes_77 : decode cX8_findTimes 77 = .ok (.iload_n 3, 1) := by decide +kernel
theorem dX8_findTimes_78 : decode cX8_findTimes 78 = .ok (.invokevirtual 90, 3) := by decide +kernel
theorem dX8_findTimes_81 : decode cX8_findTimes 81 = .ok (.ifCond .eq 28, 3) := by decide +kernel
theorem dX8_findTimes_84 : decode cX8_findTimes 84 = .ok (.aload_n 0, 1) := by decide +kernel
theorem dX8_findTimes_85 : decode cX8_findTimes 85 = .ok (.getfield 29, 3) := by decide +kernel
theorem dX8_findTimes_88 : decode cX8_findTimes 88 = .ok (.iload_n 2, 1) := by decide +kernel
theorem dX8_findTimes_89 : decode cX8_findTimes 89 = .ok (.iaload, 1) := by decide +kernel
theorem dX8_findTimes_90 : decode cX8_findTimes 90 = .ok (.aload_n 0, 1) := by decide +kernel
theorem dX8_findTimes_91 : decode cX8_findTimes 91 = .ok (.iload_n 2, 1) := by decide +kernel
theorem dX8_findTimes_92 : decode cX8_findTimes 92 = .ok (.invokevirtual 160, 3) := by decide +kernel
theorem dX8_findTimes_95 : decode cX8_findTimes 95 = .ok (.iadd, 1) := by decide +kernel
theorem dX8_findTimes_96 : decode cX8_findTimes 96 = .ok (.aload_n 0, 1) := by decide +kernel
theorem dX8_findTimes_97 : decode cX8_findTimes 97 = .ok (.getfield 29, 3) := by decide +kernel
theorem dX8_findTimes_100 : decode cX8_findTimes 100 = .ok (.iload_n 3, 1) := by decide +kernel
theorem dX8_findTimes_101 : decode cX8_findTimes 101 = .ok (.iaload, 1) := by decide +kernel
theorem dX8_findTimes_102 : decode cX8_findTimes 102 = .ok (.if_icmp .le 7, 3) := by decide +kernel
theorem dX8_findTimes_105 : decode cX8_findTimes 105 = .ok (.iconst 1, 1) := by decide +kernel
theorem dX8_findTimes_106 : decode cX8_findTimes 106 = .ok (.goto 4, 3) := by decide +kernel
theorem dX8_findTimes_109 : decode cX8_findTimes 109 = .ok (.iconst 0, 1) := by decide +kernel
theorem dX8_findTimes_110 : decode cX8_findTimes 110 = .ok (.istore 4, 2) := by decide +kernel
theorem dX8_findTimes_112 : decode cX8_findTimes 112 = .ok (.aload_n 0, 1) := by decide +kernel
theorem dX8_findTimes_113 : decode cX8_findTimes 113 = .ok (.iload_n 2, 1) := by decide +kernel
theorem dX8_findTimes_114 : decode cX8_findTimes 114 = .ok (.iload_n 3, 1) := by decide +kernel
theorem dX8_findTimes_115 : decode cX8_findTimes 115 = .ok (.invokevirtual 90, 3) := by decide +kernel
theorem dX8_findTimes_118 : decode cX8_findTimes 118 = .ok (.ifCond .eq 28, 3) := by decide +kernel
theorem dX8_findTimes_121 : decode cX8_findTimes 121 = .ok (.aload_n 0, 1) := by decide +kernel
theorem dX8_findTimes_122 : decode cX8_findTimes 122 = .ok (.getfield 32, 3) := by decide +kernel
theorem dX8_findTimes_125 : decode cX8_findTimes 125 = .ok (.iload_n 3, 1) := by decide +kernel
theorem dX8_findTimes_126 : decode cX8_findTimes 126 = .ok (.iaload, 1) := by decide +kernel
theorem dX8_findTimes_127 : decode cX8_findTimes 127 = .ok (.aload_n 0, 1) := by decide +kernel
theorem dX8_findTimes_128 : decode cX8_findTimes 128 = .ok (.iload_n 2, 1) := by decide +kernel
theorem dX8_findTimes_129 : decode cX8_findTimes 129 = .ok (.invokevirtual 160, 3) := by decide +kernel
theorem dX8_findTimes_132 : decode cX8_findTimes 132 = .ok (.iadd, 1) := by decide +kernel
theorem dX8_findTimes_133 : decode cX8_findTimes 133 = .ok (.aload_n 0, 1) := by decide +kernel
theorem dX8_findTimes_134 : decode cX8_findTimes 134 = .ok (.getfield 32, 3) := by decide +kernel
theorem dX8_findTimes_137 : decode cX8_findTimes 137 = .ok (.iload_n 2, 1) := by decide +kernel
theorem dX8_findTimes_138 : decode cX8_findTimes 138 = .ok (.iaload, 1) := by decide +kernel
theorem dX8_findTimes_139 : decode cX8_findTimes 139 = .ok (.if_icmp .le 7, 3) := by decide +kernel
theorem dX8_findTimes_142 : decode cX8_findTimes 142 = .ok (.iconst 1, 1) := by decide +kernel
theorem dX8_findTimes_143 : decode cX8_findTimes 143 = .ok (.goto 4, 3) := by decide +kernel
theorem dX8_findTimes_146 : decode cX8_findTimes 146 = .ok (.iconst 0, 1) := by decide +kernel
theorem dX8_findTimes_147 : decode cX8_findTimes 147 = .ok (.istore 5, 2) := by decide +kernel
theorem dX8_findTimes_149 : decode cX8_findTimes 149 = .ok (.aload_n 0, 1) := by decide +kernel
theorem dX8_findTimes_150 : decode cX8_findTimes 150 = .ok (.getfield 29, 3) := by decide +kernel
theorem dX8_findTimes_153 : decode cX8_findTimes 153 = .ok (.iload_n 3, 1) := by decide +kernel
theorem dX8_findTimes_154 : decode cX8_findTimes 154 = .ok (.iload 4, 2) := by decide +kernel
theorem dX8_findTimes_156 : decode cX8_findTimes 156 = .ok (.ifCond .eq 18, 3) := by decide +kernel
theorem dX8_findTimes_159 : decode cX8_findTimes 159 = .ok (.aload_n 0, 1) := by decide +kernel
theorem dX8_findTimes_160 : decode cX8_findTimes 160 = .ok (.getfield 29, 3) := by decide +kernel
theorem dX8_findTimes_163 : decode cX8_findTimes 163 = .ok (.iload_n 2, 1) := by decide +kernel
theorem dX8_findTimes_164 : decode cX8_findTimes 164 = .ok (.iaload, 1) := by decide +kernel
theorem dX8_findTimes_165 : decode cX8_findTimes 165 = .ok (.aload_n 0, 1) := by decide +kernel
theorem dX8_findTimes_166 : decode cX8_findTimes 166 = .ok (.iload_n 2, 1) := by decide +kernel
theorem dX8_findTimes_167 : decode cX8_findTimes 167 = .ok (.invokevirtual 160, 3) := by decide +kernel
theorem dX8_findTimes_170 : decode cX8_findTimes 170 = .ok (.iadd, 1) := by decide +kernel
theorem dX8_findTimes_171 : decode cX8_findTimes 171 = .ok (.goto 9, 3) := by decide +kernel
theorem dX8_findTimes_174 : decode cX8_findTimes 174 = .ok (.aload_n 0, 1) := by decide +kernel
theorem dX8_findTimes_175 : decode cX8_findTimes 175 = .ok (.getfield 29, 3) := by decide +kernel
theorem dX8_findTimes_178 : decode cX8_findTimes 178 = .ok (.iload_n 3, 1) := by decide +kernel
theorem dX8_findTimes_179 : decode cX8_findTimes 179 = .ok (.iaload, 1) := by decide +kernel
theorem dX8_findTimes_180 : decode cX8_findTimes 180 = .ok (.iastore, 1) := by decide +kernel
theorem dX8_findTimes_181 : decode cX8_findTimes 181 = .ok (.aload_n 0, 1) := by decide +kernel
theorem dX8_findTimes_182 : decode cX8_findTimes 182 = .ok (.getfield 32, 3) := by decide +kernel
theorem dX8_findTimes_185 : decode cX8_findTimes 185 = .ok (.iload_n 2, 1) := by decide +kernel
theorem dX8_findTimes_186 : decode cX8_findTimes 186 = .ok (.iload 5, 2) := by decide +kernel
theorem dX8_findTimes_188 : decode cX8_findTimes 188 = .ok (.ifCond .eq 18, 3) := by decide +kernel
theorem dX8_findTimes_191 : decode cX8_findTimes 191 = .ok (.aload_n 0, 1) := by decide +kernel
theorem dX8_findTimes_192 : decode cX8_findTimes 192 = .ok (.getfield 32, 3) := by decide +kernel
theorem dX8_findTimes_195 : decode cX8_findTimes 195 = .ok (.iload_n 3, 1) := by decide +kernel
theorem dX8_findTimes_196 : decode cX8_findTimes 196 = .ok (.iaload, 1) := by decide +kernel
theorem dX8_findTimes_197 : decode cX8_findTimes 197 = .ok (.aload_n 0, 1) := by decide +kernel
theorem dX8_findTimes_198 : decode cX8_findTimes 198 = .ok (.iload_n 2, 1) := by decide +kernel
theorem dX8_findTimes_199 : decode cX8_findTimes 199 = .ok (.invokevirtual 160, 3) := by decide +kernel
theorem dX8_findTimes_202 : decode cX8_findTimes 202 = .ok (.iadd, 1) := by decide +kernel
theorem dX8_findTimes_203 : decode cX8_findTimes 203 = .ok (.goto 9, 3) := by decide +kernel
theorem dX8_findTimes_206 : decode cX8_findTimes 206 = .ok (.aload_n 0, 1) := by decide +kernel
theorem dX8_findTimes_207 : decode cX8_findTimes 207 = .ok (.getfield 32, 3) := by decide +kernel
theorem dX8_findTimes_210 : decode cX8_findTimes 210 = .ok (.iload_n 2, 1) := by decide +kernel
theorem dX8_findTimes_211 : decode cX8_findTimes 211 = .ok (.iaload, 1) := by decide +kernel
theorem dX8_findTimes_212 : decode cX8_findTimes 212 = .ok (.iastore, 1) := by decide +kernel
theorem dX8_findTimes_213 : decode cX8_findTimes 213 = .ok (.iload_n 1, 1) := by decide +kernel
theorem dX8_findTimes_214 : decode cX8_findTimes 214 = .ok (.ifCond .ne 13, 3) := by decide +kernel
theorem dX8_findTimes_217 : decode cX8_findTimes 217 = .ok (.iload 4, 2) := by decide +kernel
theorem dX8_findTimes_219 : decode cX8_findTimes 219 = .ok (.ifCond .ne 8, 3) := by decide +kernel
theorem dX8_findTimes_222 : decode cX8_findTimes 222 = .ok (.iload 5, 2) := by decide +kernel
theorem dX8_findTimes_224 : decode cX8_findTimes 224 = .ok (.ifCond .eq 7, 3) := by decide +kernel
theorem dX8_findTimes_227 : decode cX8_findTimes 227 = .ok (.iconst 1, 1) := by decide +kernel
theorem dX8_findTimes_228 : decode cX8_findTimes 228 = .ok (.goto 4, 3) := by decide +kernel
theorem dX8_findTimes_231 : decode cX8_findTimes 231 = .ok (.iconst 0, 1) := by decide +kernel
theorem dX8_findTimes_232 : decode cX8_findTimes 232 = .ok (.istore_n 1, 1) := by decide +kernel
theorem dX8_findTimes_233 : decode cX8_findTimes 233 = .ok (.iinc 3 1, 3) := by decide +kernel
theorem dX8_findTimes_236 : decode cX8_findTimes 236 = .ok (.goto (-169), 3) := by decide +kernel
theorem dX8_findTimes_239 : decode cX8_findTimes 239 = .ok (.iinc 2 1, 3) := by decide +kernel
theorem dX8_findTimes_242 : decode cX8_findTimes 242 = .ok (.goto (-185), 3) := by decide +kernel
theorem dX8_findTimes_245 : decode cX8_findTimes 245 = .ok (.goto (-196), 3) := by decide +kernel
theorem dX8_findTimes_248 : decode cX8_findTimes 248 = .ok (.aload_n 0, 1) := by decide +kernel
theorem dX8_findTimes_249 : decode cX8_findTimes 249 = .ok (.iconst 0, 1) := by decide +kernel
theorem dX8_findTimes_250 : decode cX8_findTimes 250 = .ok (.putfield 157, 3) := by decide +kernel
theorem dX8_findTimes_253 : decode cX8_findTimes 253 = .ok (.iconst 0, 1) := by decide +kernel
theorem dX8_findTimes_254 : decode cX8_findTimes 254 = .ok (.istore_n 2, 1) := by decide +kernel
theorem dX8_findTimes_255 : decode cX8_findTimes 255 = .ok (.iload_n 2, 1) := by decide +kernel
theorem dX8_findTimes_256 : decode cX8_findTimes 256 = .ok (.aload_n 0, 1) := by decide +kernel
theorem dX8_findTimes_257 : decode cX8_findTimes 257 = .ok (.getfield 71, 3) := by decide +kernel
theorem dX8_findTimes_260 : decode cX8_findTimes 260 = .ok (.if_icmp .ge 51, 3) := by decide +kernel
theorem dX8_findTimes_263 : decode cX8_findTimes 263 = .ok (.aload_n 0, 1) := by decide +kernel
theorem dX8_findTimes_264 : decode cX8_findTimes 264 = .ok (.aload_n 0, 1) := by decide +kernel
theorem dX8_findTimes_265 : decode cX8_findTimes 265 = .ok (.getfield 29, 3) := by decide +kernel
theorem dX8_findTimes_268 : decode cX8_findTimes 268 = .ok (.iload_n 2, 1) := by decide +kernel
theorem dX8_findTimes_269 : decode cX8_findTimes 269 = .ok (.iaload, 1) := by decide +kernel
theorem dX8_findTimes_270 : decode cX8_findTimes 270 = .ok (.aload_n 0, 1) := by decide +kernel
theorem dX8_findTimes_271 : decode cX8_findTimes 271 = .ok (.iload_n 2, 1) := by decide +kernel
theorem dX8_findTimes_272 : decode cX8_findTimes 272 = .ok (.invokevirtual 160, 3) := by decide +kernel
theorem dX8_findTimes_275 : decode cX8_findTimes 275 = .ok (.iadd, 1) := by decide +kernel
theorem dX8_findTimes_276 : decode cX8_findTimes 276 = .ok (.aload_n 0, 1) := by decide +kernel
theorem dX8_findTimes_277 : decode cX8_findTimes 277 = .ok (.getfield 157, 3) := by decide +kernel
theorem dX8_findTimes_280 : decode cX8_findTimes 280 = .ok (.if_icmp .le 18, 3) := by decide +kernel
theorem dX8_findTimes_283 : decode cX8_findTimes 283 = .ok (.aload_n 0, 1) := by decide +kernel
theorem dX8_findTimes_284 : decode cX8_findTimes 284 = .ok (.getfield 29, 3) := by decide +kernel
theorem dX8_findTimes_287 : decode cX8_findTimes 287 = .ok (.iload_n 2, 1) := by decide +kernel
theorem dX8_findTimes_288 : decode cX8_findTimes 288 = .ok (.iaload, 1) := by decide +kernel
theorem dX8_findTimes_289 : decode cX8_findTimes 289 = .ok (.aload_n 0, 1) := by decide +kernel
theorem dX8_findTimes_290 : decode cX8_findTimes 290 = .ok (.iload_n 2, 1) := by decide +kernel
theorem dX8_findTimes_291 : decode cX8_findTimes 291 = .ok (.invokevirtual 160, 3) := by decide +kernel
theorem dX8_findTimes_294 : decode cX8_findTimes 294 = .ok (.iadd, 1) := by decide +kernel
theorem dX8_findTimes_295 : decode cX8_findTimes 295 = .ok (.goto 7, 3) := by decide +kernel
theorem dX8_findTimes_298 : decode cX8_findTimes 298 = .ok (.aload_n 0, 1) := by decide +kernel
theorem dX8_findTimes_299 : decode cX8_findTimes 299 = .ok (.getfield 157, 3) := by decide +kernel
theorem dX8_findTimes_302 : decode cX8_findTimes 302 = .ok (.putfield 157, 3) := by decide +kernel
theorem dX8_findTimes_305 : decode cX8_findTimes 305 = .ok (.iinc 2 1, 3) := by decide +kernel
theorem dX8_findTimes_308 : decode cX8_findTimes 308 = .ok (.goto (-53), 3) := by decide +kernel
theorem dX8_findTimes_311 : decode cX8_findTimes 311 = .ok (.return_, 1) := by decide +kernel
theorem dX8_isCritical_0 : decode cX8_isCritical 0 = .ok (.aload_n 0, 1) := by decide +kernel
theorem dX8_isCritical_1 : decode cX8_isCritical 1 = .ok (.getfield 29, 3) := by decide +kernel
theorem dX8_isCritical_4 : decode cX8_isCritical 4 = .ok (.iload_n 1, 1) := by decide +kernel
theorem dX8_isCritical_5 : decode cX8_isCritical 5 = .ok (.iaload, 1) := by decide +kernel
theorem dX8_isCritical_6 : decode cX8_isCritical 6 = .ok (.aload_n 0, 1) := by decide +kernel
theorem dX8_isCritical_7 : decode cX8_isCritical 7 = .ok (.getfield 157, 3) := by decide +kernel
theorem dX8_isCritical_10 : decode cX8_isCritical 10 = .ok (.aload_n 0, 1) := by decide +kernel
theorem dX8_isCritical_11 : decode cX8_isCritical 11 = .ok (.getfield 32, 3) := by decide +kernel
theorem dX8_isCritical_14 : decode cX8_isCritical 14 = .ok (.iload_n 1, 1) := by decide +kernel
theorem dX8_isCritical_15 : decode cX8_isCritical 15 = .ok (.iaload, 1) := by decide +kernel
theorem dX8_isCritical_16 : decode cX8_isCritical 16 = .ok (.isub, 1) := by decide +kernel
theorem dX8_isCritical_17 : decode cX8_isCritical 17 = .ok (.if_icmp .ne 7, 3) := by decide +kernel
theorem dX8_isCritical_20 : decode cX8_isCritical 20 = .ok (.iconst 1, 1) := by decide +kernel
theorem dX8_isCritical_21 : decode cX8_isCritical 21 = .ok (.goto 4, 3) := by decide +kernel
theorem dX8_isCritical_24 : decode cX8_isCritical 24 = .ok (.iconst 0, 1) := by decide +kernel
theorem dX8_isCritical_25 : decode cX8_isCritical 25 = .ok (.ireturn, 1) := by decide +kernel
set_option maxRecDepth 20000 in
theorem ggX8_time_X8_has : GoodIn wsX8_time wsX8_has := goodIn_r _ [9, 10, 29, 30, 31, 32, 33, 34, 35, 36, 37, 38, 39, 40, 41, 42, 43, 44, 45, 46, 47, 48, 49, 50, 51, 52, 53, 54, 55, 56, 57] (by decide +kernel) (by decide +kernel)
set_option maxRecDepth 20000 in
theorem gX8_time_X8_has : GoodIn wsX8_time (wsV RX8 83 RX8 yX8_has wsX8_has) := goodIn_app (goodIn_of _ (by decide +kernel)) ggX8_time_X8_has
set_option maxRecDepth 20000 in
theorem ggX8_time_X8_findTimes : GoodIn wsX8_time wsX8_findTimes := goodIn_r _ [14, 15, 10, 2, 4, 3, 16, 17, 18, 8, 19, 20, 21, 22, 23, 24, 29, 30, 31, 32, 33, 34, 35, 36, 37, 38, 39, 40, 41, 42, 43, 44, 45, 46, 47, 48, 49, 50, 51, 52, 53, 54, 55, 56, 57] (by decide +kernel) (by decide +kernel)
set_option maxRecDepth 20000 in
theorem gX8_time_X8_findTimes : GoodIn wsX8_time (wsV RX8 154 RX8 yX8_findTimes wsX8_findTimes) := goodIn_app (goodIn_of _ (by decide +kernel)) ggX8_time_X8_findTimes
set_option maxRecDepth 20000 in
theorem ggX8_time_X8_weightOf : GoodIn wsX8_time wsX8_weightOf := goodIn_r _ [19, 20, 29, 30, 31, 32, 33, 34, 35, 36, 37, 38, 39, 40, 41, 42, 43, 44, 45, 46, 47, 48, 49, 50, 51, 52, 53, 54, 55, 56, 57] (by decide +kernel) (by decide +kernel)
set_option maxRecDepth 20000 in
theorem gX8_time_X8_weightOf : GoodIn wsX8_time (wsV RX8 160 RX8 yX8_weightOf wsX8_weightOf) := goodIn_app (goodIn_of _ (by decide +kernel)) ggX8_time_X8_weightOf
set_option maxRecDepth 20000 in
theorem ggX8_time_X8_isCritical : GoodIn wsX8_time wsX8_isCritical := goodIn_r _ [28, 2, 3, 4, 29, 30, 31, 32, 33, 34, 35, 36, 37, 38, 39, 40, 41, 42, 43, 44, 45, 46, 47, 48, 49, 50, 51, 52, 53, 54, 55, 56, 57] (by decide +kernel) (by decide +kernel)
set_option maxRecDepth 20000 in
theorem gX8_time_X8_isCritical : GoodIn wsX8_time (wsV RX8 163 RX8 yX8_isCritical wsX8_isCritical) := goodIn_app (goodIn_of _ (by decide +kernel)) ggX8_time_X8_isCritical
theorem dX8_time_0 : decode cX8_time 0 = .ok (.aload_n 0, 1) := by decide +kernel
theorem dX8_time_1 : decode cX8_time 1 = .ok (.iconst 0, 1) := by decide +kernel
theorem dX8_time_2 : decode cX8_time 2 = .ok (.putfield 67, 3) := by decide +kernel
theorem dX8_time_5 : decode cX8_time 5 = .ok (.aload_n 0, 1) := by decide +kernel
theorem dX8_time_6 : decode cX8_time 6 = .ok (.iload_n 1, 1) := by decide +kernel
theorem dX8_time_7 : decode cX8_time 7 = .ok (.invokevirtual 83, 3) := by decide +kernel
theorem dX8_time_10 : decode cX8_time 10 = .ok (.ifCond .ne 5, 3) := by decide +kernel
theorem dX8_time_13 : decode cX8_time 13 = .ok (.iconst (-1), 1) := by decide +kernel
theorem dX8_time_14 : decode cX8_time 14 = .ok (.ireturn, 1) := by decide +kernel
theorem dX8_time_15 : decode cX8_time 15 = .ok (.aload_n 0, 1) := by decide +kernel
theorem dX8_time_16 : decode cX8_time 16 = .ok (.invokevirtual 154, 3) := by decide +kernel
theorem dX8_time_19 : decode cX8_time 19 = .ok (.iload_n 2, 1) := by decide +kernel
theorem dX8_time_20 : decode cX8_time 20 = .ok (.ifCond .ne 12, 3) := by decide +kernel
theorem dX8_time_23 : decode cX8_time 23 = .ok (.aload_n 0, 1) := by decide +kernel
theorem dX8_time_24 : decode cX8_time 24 = .ok (.getfield 29, 3) := by decide +kernel
theorem dX8_time_27 : decode cX8_time 27 = .ok (.iload_n 1, 1) := by decide +kernel
theorem dX8_time_28 : decode cX8_time 28 = .ok (.iaload, 1) := by decide +kernel
theorem dX8_time_29 : decode cX8_time 29 = .ok (.goto 71, 3) := by decide +kernel
theorem dX8_time_32 : decode cX8_time 32 = .ok (.iload_n 2, 1) := by decide +kernel
theorem dX8_time_33 : decode cX8_time 33 = .ok (.iconst 1, 1) := by decide +kernel
theorem dX8_time_34 : decode cX8_time 34 = .ok (.if_icmp .ne 17, 3) := by decide +kernel
theorem dX8_time_37 : decode cX8_time 37 = .ok (.aload_n 0, 1) := by decide +kernel
theorem dX8_time_38 : decode cX8_time 38 = .ok (.getfield 157, 3) := by decide +kernel
theorem dX8_time_41 : decode cX8_time 41 = .ok (.aload_n 0, 1) := by decide +kernel
theorem dX8_time_42 : decode cX8_time 42 = .ok (.getfield 32, 3) := by decide +kernel
theorem dX8_time_45 : decode cX8_time 45 = .ok (.iload_n 1, 1) := by decide +kernel
theorem dX8_time_46 : decode cX8_time 46 = .ok (.iaload, 1) := by decide +kernel
theorem dX8_time_47 : decode cX8_time 47 = .ok (.isub, 1) := by decide +kernel
theorem dX8_time_48 : decode cX8_time 48 = .ok (.goto 52, 3) := by decide +kernel
theorem dX8_time_51 : decode cX8_time 51 = .ok (.iload_n 2, 1) := by decide +kernel
theorem dX8_time_52 : decode cX8_time 52 = .ok (.iconst 2, 1) := by decide +kernel
theorem dX8_time_53 : decode cX8_time 53 = .ok (.if_icmp .ne 12, 3) := by decide +kernel
theorem dX8_time_56 : decode cX8_time 56 = .ok (.aload_n 0, 1) := by decide +kernel
theorem dX8_time_57 : decode cX8_time 57 = .ok (.getfield 32, 3) := by decide +kernel
theorem dX8_time_60 : decode cX8_time 60 = .ok (.iload_n 1, 1) := by decide +kernel
theorem dX8_time_61 : decode cX8_time 61 = .ok (.iaload, 1) := by decide +kernel
theorem dX8_time_62 : decode cX8_time 62 = .ok (.goto 38, 3) := by decide +kernel
theorem dX8_time_65 : decode cX8_time 65 = .ok (.iload_n 2, 1) := by decide +kernel
theorem dX8_time_66 : decode cX8_time 66 = .ok (.iconst 3, 1) := by decide +kernel
theorem dX8_time_67 : decode cX8_time 67 = .ok (.if_icmp .ne 11, 3) := by decide +kernel
theorem dX8_time_70 : decode cX8_time 70 = .ok (.aload_n 0, 1) := by decide +kernel
theorem dX8_time_71 : decode cX8_time 71 = .ok (.iload_n 1, 1) := by decide +kernel
theorem dX8_time_72 : decode cX8_time 72 = .ok (.invokevirtual 160, 3) := by decide +kernel
theorem dX8_time_75 : decode cX8_time 75 = .ok (.goto 25, 3) := by decide +kernel
theorem dX8_time_78 : decode cX8_time 78 = .ok (.iload_n 2, 1) := by decide +kernel
theorem dX8_time_79 : decode cX8_time 79 = .ok (.iconst 4, 1) := by decide +kernel
theorem dX8_time_80 : decode cX8_time 80 = .ok (.if_icmp .ne 19, 3) := by decide +kernel
theorem dX8_time_83 : decode cX8_time 83 = .ok (.aload_n 0, 1) := by decide +kernel
theorem dX8_time_84 : decode cX8_time 84 = .ok (.iload_n 1, 1) := by decide +kernel
theorem dX8_time_85 : decode cX8_time 85 = .ok (.invokevirtual 163, 3) := by decide +kernel
theorem dX8_time_88 : decode cX8_time 88 = .ok (.ifCond .eq 7, 3) := by decide +kernel
theorem dX8_time_91 : decode cX8_time 91 = .ok (.iconst 1, 1) := by decide +kernel
theorem dX8_time_92 : decode cX8_time 92 = .ok (.goto 8, 3) := by decide +kernel
theorem dX8_time_95 : decode cX8_time 95 = .ok (.iconst 0, 1) := by decide +kernel
theorem dX8_time_96 : decode cX8_time 96 = .ok (.goto 4, 3) := by decide +kernel
theorem dX8_time_99 : decode cX8_time 99 = .ok (.iconst (-1), 1) := by decide +kernel
theorem dX8_time_100 : decode cX8_time 100 = .ok (.ireturn, 1) := by decide +kernel
set_option maxRecDepth 20000 in
theorem ggX8_critical_X8_findTimes : GoodIn wsX8_critical wsX8_findTimes := goodIn_r _ [8, 9, 2, 3, 10, 11, 12, 13, 14, 7, 15, 16, 17, 18, 19, 20, 25, 26, 27, 28, 29, 30, 31, 32, 33, 34, 35, 36, 37, 38, 39, 40, 41, 42, 43, 44, 45, 46, 47, 48, 49, 50, 51, 52, 53] (by decide +kernel) (by decide +kernel)
set_option maxRecDepth 20000 in
theorem gX8_critical_X8_findTimes : GoodIn wsX8_critical (wsV RX8 154 RX8 yX8_findTimes wsX8_findTimes) := goodIn_app (goodIn_of _ (by decide +kernel)) ggX8_critical_X8_findTimes
set_option maxRecDepth 20000 in
theorem ggX8_critical_X8_isCritical : GoodIn wsX8_critical wsX8_isCritical := goodIn_r _ [24, 3, 11, 10, 25, 26, 27, 28, 29, 30, 31, 32, 33, 34, 35, 36, 37, 38, 39, 40, 41, 42, 43, 44, 45, 46, 47, 48, 49, 50, 51, 52, 53] (by decide +kernel) (by decide +kernel)
set_option maxRecDepth 20000 in
theorem gX8_critical_X8_isCritical : GoodIn wsX8_critical (wsV RX8 163 RX8 yX8_isCritical wsX8_isCritical) := goodIn_app (goodIn_of _ (by decide +kernel)) ggX8_critical_X8_isCritical
set_option maxRecDepth 20000 in
theorem ggX8_critical_X8_isTied : GoodIn wsX8_critical wsX8_isTied := goodIn_r _ [20, 16, 25, 26, 27, 28, 29, 30, 31, 32, 33, 34, 35, 36, 37, 38, 39, 40, 41, 42, 43, 44, 45, 46, 47, 48, 49, 50, 51, 52, 53] (by decide +kernel) (by decide +kernel)
set_option maxRecDepth 20000 in
theorem gX8_critical_X8_isTied : GoodIn wsX8_critical (wsV RX8 90 RX8 yX8_isTied wsX8_isTied) := goodIn_app (goodIn_of _ (by decide +kernel)) ggX8_critical_X8_isTied
set_option maxRecDepth 20000 in
theorem ggX8_critical_X8_weightOf : GoodIn wsX8_critical wsX8_weightOf := goodIn_r _ [15, 16, 25, 26, 27, 28, 29, 30, 31, 32, 33, 34, 35, 36, 37, 38, 39, 40, 41, 42, 43, 44, 45, 46, 47, 48, 49, 50, 51, 52, 53] (by decide +kernel) (by decide +kernel)
set_option maxRecDepth 20000 in
theorem gX8_critical_X8_weightOf : GoodIn wsX8_critical (wsV RX8 160 RX8 yX8_weightOf wsX8_weightOf) := goodIn_app (goodIn_of _ (by decide +kernel)) ggX8_critical_X8_weightOf
theorem dX8_critical_0 : decode cX8_critical 0 = .ok (.aload_n 0, 1) := by decide +kernel
theorem dX8_critical_1 : decode cX8_critical 1 = .ok (.iconst 0, 1) := by decide +kernel
theorem dX8_critical_2 : decode cX8_critical 2 = .ok (.putfield 67, 3) := by decide +kernel
theorem dX8_critical_5 : decode cX8_critical 5 = .ok (.aload_n 0, 1) := by decide +kernel
theorem dX8_critical_6 : decode cX8_critical 6 = .ok (.invokevirtual 154, 3) := by decide +kernel
theorem dX8_critical_9 : decode cX8_critical 9 = .ok (.iconst (-1), 1) := by decide +kernel
theorem dX8_critical_10 : decode cX8_critical 10 = .ok (.istore_n 2, 1) := by decide +kernel
theorem dX8_critical_11 : decode cX8_critical 11 = .ok (.aload_n 0, 1) := by decide +kernel
theorem dX8_critical_12 : decode cX8_critical 12 = .ok (.getfield 71, 3) := by decide +kernel
theorem dX8_critical_15 : decode cX8_critical 15 = .ok (.iconst 1, 1) := by decide +kernel
theorem dX8_critical_16 : decode cX8_critical 16 = .ok (.isub, 1) := by decide +kernel
theorem dX8_critical_17 : decode cX8_critical 17 = .ok (.istore_n 3, 1) := by decide +kernel
theorem dX8_critical_18 : decode cX8_critical 18 = .ok (.iload_n 3, 1) := by decide +kernel
theorem dX8_critical_19 : decode cX8_critical 19 = .ok (.ifCond .lt 36, 3) := by decide +kernel
theorem dX8_critical_22 : decode cX8_critical 22 = .ok (.iload_n 1, 1) := by decide +kernel
theorem dX8_critical_23 : decode cX8_critical 23 = .ok (.ifCond .lt 32, 3) := by decide +kernel
theorem dX8_critical_26 : decode cX8_critical 26 = .ok (.aload_n 0, 1) := by decide +kernel
theorem dX8_critical_27 : decode cX8_critical 27 = .ok (.iload_n 3, 1) := by decide +kernel
theorem dX8_critical_28 : decode cX8_critical 28 = .ok (.invokevirtual 163, 3) := by decide +kernel
theorem dX8_critical_31 : decode cX8_critical 31 = .ok (.ifCond .eq 16, 3) := by decide +kernel
theorem dX8_critical_34 : decode cX8_critical 34 = .ok (.aload_n 0, 1) := by decide +kernel
theorem dX8_critical_35 : decode cX8_critical 35 = .ok (.getfield 29, 3) := by decide +kernel
theorem dX8_critical_38 : decode cX8_critical 38 = .ok (.iload_n 3, 1) := by decide +kernel
theorem dX8_critical_39 : decode cX8_critical 39 = .ok (.iaload, 1) := by decide +kernel
theorem dX8_critical_40 : decode cX8_critical 40 = .ok (.ifCond .ne 7, 3) := by decide +kernel
theorem dX8_critical_43 : decode cX8_critical 43 = .ok (.iload_n 3, 1) := by decide +kernel
theorem dX8_critical_44 : decode cX8_critical 44 = .ok (.goto 4, 3) := by decide +kernel
theorem dX8_critical_47 : decode cX8_critical 47 = .ok (.iload_n 2, 1) := by decide +kernel
theorem dX8_critical_48 : decode cX8_critical 48 = .ok (.istore_n 2, 1) := by decide +kernel
theorem dX8_critical_49 : decode cX8_critical 49 = .ok (.iinc 3 (-1), 3) := by decide +kernel
theorem dX8_critical_52 : decode cX8_critical 52 = .ok (.goto (-34), 3) := by decide +kernel
theorem dX8_critical_55 : decode cX8_critical 55 = .ok (.iconst 0, 1) := by decide +kernel
theorem dX8_critical_56 : decode cX8_critical 56 = .ok (.istore_n 3, 1) := by decide +kernel
theorem dX8_critical_57 : decode cX8_critical 57 = .ok (.iload_n 3, 1) := by decide +kernel
theorem dX8_critical_58 : decode cX8_critical 58 = .ok (.iload_n 1, 1) := by decide +kernel
theorem dX8_critical_59 : decode cX8_critical 59 = .ok (.if_icmp .ge 88, 3) := by decide +kernel
theorem dX8_critical_62 : decode cX8_critical 62 = .ok (.iload_n 2, 1) := by decide +kernel
theorem dX8_critical_63 : decode cX8_critical 63 = .ok (.ifCond .lt 84, 3) := by decide +kernel
theorem dX8_critical_66 : decode cX8_critical 66 = .ok (.iconst (-1), 1) := by decide +kernel
theorem dX8_critical_67 : decode cX8_critical 67 = .ok (.istore 4, 2) := by decide +kernel
theorem dX8_critical_69 : decode cX8_critical 69 = .ok (.aload_n 0, 1) := by decide +kernel
theorem dX8_critical_70 : decode cX8_critical 70 = .ok (.getfield 71, 3) := by decide +kernel
theorem dX8_critical_73 : decode cX8_critical 73 = .ok (.iconst 1, 1) := by decide +kernel
theorem dX8_critical_74 : decode cX8_critical 74 = .ok (.isub, 1) := by decide +kernel
theorem dX8_critical_75 : decode cX8_critical 75 = .ok (.istore 5, 2) := by decide +kernel
theorem dX8_critical_77 : decode cX8_critical 77 = .ok (.iload 5, 2) := by decide +kernel
theorem dX8_critical_79 : decode cX8_critical 79 = .ok (.ifCond .lt 59, 3) := by decide +kernel
theorem dX8_critical_82 : decode cX8_critical 82 = .ok (.aload_n 0, 1) := by decide +kernel
theorem dX8_critical_83 : decode cX8_critical 83 = .ok (.iload_n 2, 1) := by decide +kernel
theorem dX8_critical_84 : decode cX8_critical 84 = .ok (.iload 5, 2) := by decide +kernel
theorem dX8_critical_86 : decode cX8_critical 86 = .ok (.invokevirtual 90, 3) := by decide +kernel
theorem dX8_critical_89 : decode cX8_critical 89 = .ok (.ifCond .eq 39, 3) := by decide +kernel
theorem dX8_critical_92 : decode cX8_critical 92 = .ok (.aload_n 0, 1) := by decide +kernel
theorem dX8_critical_93 : decode cX8_critical 93 = .ok (.iload 5, 2) := by decide +kernel
theorem dX8_critical_95 : decode cX8_critical 95 = .ok (.invokevirtual 163, 3) := by decide +kernel
theorem dX8_critical_98 : decode cX8_critical 98 = .ok (.ifCond .eq 30, 3) := by decide +kernel
theorem dX8_critical_101 : decode cX8_critical 101 = .ok (.aload_n 0, 1) := by decide +kernel
theorem dX8_critical_102 : decode cX8_critical 102 = .ok (.getfield 29, 3) := by decide +kernel
theorem dX8_critical_105 : decode cX8_critical 105 = .ok (.iload 5, 2) := by decide +kernel
theorem dX8_critical_107 : decode cX8_critical 107 = .ok (.iaload, 1) := by decide +kernel
theorem dX8_critical_108 : decode cX8_critical 108 = .ok (.aload_n 0, 1) := by decide +kernel
theorem dX8_critical_109 : decode cX8_critical 109 = .ok (.getfield 29, 3) := by decide +kernel
theorem dX8_critical_112 : decode cX8_critical 112 = .ok (.iload_n 2, 1) := by decide +kernel
theorem dX8_critical_113 : decode cX8_critical 113 = .ok (.iaload, 1) := by decide +kernel
theorem dX8_critical_114 : decode cX8_critical 114 = .ok (.aload_n 0, 1) := by decide +kernel
theorem dX8_critical_115 : decode cX8_critical 115 = .ok (.iload_n 2, 1) := by decide +kernel
theorem dX8_critical_116 : decode cX8_critical 116 = .ok (.invokevirtual 160, 3) := by decide +kernel
theorem dX8_critical_119 : decode cX8_critical 119 = .ok (.iadd, 1) := by decide +kernel
theorem dX8_critical_120 : decode cX8_critical 120 = .ok (.if_icmp .ne 8, 3) := by decide +kernel
theorem dX8_critical_123 : decode cX8_critical 123 = .ok (.iload 5, 2) := by decide +kernel
theorem dX8_critical_125 : decode cX8_critical 125 = .ok (.goto 5, 3) := by decide +kernel
theorem dX8_critical_128 : decode cX8_critical 128 = .ok (.iload 4, 2) := by decide +kernel
theorem dX8_critical_130 : decode cX8_critical 130 = .ok (.istore 4, 2) := by decide +kernel
theorem dX8_critical_132 : decode cX8_critical 132 = .ok (.iinc 5 (-1), 3) := by decide +kernel
theorem dX8_critical_135 : decode cX8_critical 135 = .ok (.goto (-58), 3) := by decide +kernel
theorem dX8_critical_138 : decode cX8_critical 138 = .ok (.iload 4, 2) := by decide +kernel
theorem dX8_critical_140 : decode cX8_critical 140 = .ok (.istore_n 2, 1) := by decide +kernel
theorem dX8_critical_141 : decode cX8_critical 141 = .ok (.iinc 3 1, 3) := by decide +kernel
theorem dX8_critical_144 : decode cX8_critical 144 = .ok (.goto (-87), 3) := by decide +kernel
theorem dX8_critical_147 : decode cX8_critical 147 = .ok (.iload_n 2, 1) := by decide +kernel
theorem dX8_critical_148 : decode cX8_critical 148 = .ok (.ireturn, 1) := by decide +kernel
set_option maxRecDepth 20000 in
theorem ggX8_isReady_X8_isTied : GoodIn wsX8_isReady wsX8_isTied := goodIn_r _ [8, 9, 10, 11, 12, 13, 14, 15, 16, 17, 18, 19, 20, 21, 22, 23, 24, 25, 26, 27, 28, 29, 30, 31, 32, 33, 34, 35, 36, 37, 38] (by decide +kernel) (by decide +kernel)
set_option maxRecDepth 20000 in
theorem gX8_isReady_X8_isTied : GoodIn wsX8_isReady (wsV RX8 90 RX8 yX8_isTied wsX8_isTied) := goodIn_app (goodIn_of _ (by decide +kernel)) ggX8_isReady_X8_isTied
theorem dX8_isReady_0 : decode cX8_isReady 0 = .ok (.aload_n 0, 1) := by decide +kernel
theorem dX8_isReady_1 : decode cX8_isReady 1 = .ok (.getfield 44, 3) := by decide +kernel
theorem dX8_isReady_4 : decode cX8_isReady 4 = .ok (.iload_n 1, 1) := by decide +kernel
theorem dX8_isReady_5 : decode cX8_isReady 5 = .ok (.baload, 1) := by decide +kernel
theorem dX8_isReady_6 : decode cX8_isReady 6 = .ok (.ifCond .ne 7, 3) := by decide +kernel
theorem dX8_isReady_9 : decode cX8_isReady 9 = .ok (.iconst 1, 1) := by decide +kernel
theorem dX8_isReady_10 : decode cX8_isReady 10 = .ok (.goto 4, 3) := by decide +kernel
theorem dX8_isReady_13 : decode cX8_isReady 13 = .ok (.iconst 0, 1) := by decide +kernel
theorem dX8_isReady_14 : decode cX8_isReady 14 = .ok (.istore_n 2, 1) := by decide +kernel
theorem dX8_isReady_15 : decode cX8_isReady 15 = .ok (.iconst 0, 1) := by decide +kernel
theorem dX8_isReady_16 : decode cX8_isReady 16 = .ok (.istore_n 3, 1) := by decide +kernel
theorem dX8_isReady_17 : decode cX8_isReady 17 = .ok (.iload_n 3, 1) := by decide +kernel
theorem dX8_isReady_18 : decode cX8_isReady 18 = .ok (.aload_n 0, 1) := by decide +kernel
theorem dX8_isReady_19 : decode cX8_isReady 19 = .ok (.getfield 71, 3) := by decide +kernel
theorem dX8_isReady_22 : decode cX8_isReady 22 = .ok (.if_icmp .ge 37, 3) := by decide +kernel
theorem dX8_isReady_25 : decode cX8_isReady 25 = .ok (.iload_n 2, 1) := by decide +kernel
theorem dX8_isReady_26 : decode cX8_isReady 26 = .ok (.ifCond .eq 33, 3) := by decide +kernel
theorem dX8_isReady_29 : decode cX8_isReady 29 = .ok (.aload_n 0, 1) := by decide +kernel
theorem dX8_isReady_30 : decode cX8_isReady 30 = .ok (.iload_n 3, 1) := by decide +kernel
theorem dX8_isReady_31 : decode cX8_isReady 31 = .ok (.iload_n 1, 1) := by decide +kernel
theorem dX8_isReady_32 : decode cX8_isReady 32 = .ok (.invokevirtual 90, 3) := by decide +kernel
theorem dX8_isReady_35 : decode cX8_isReady 35 = .ok (.ifCond .eq 12, 3) := by decide +kernel
theorem dX8_isReady_38 : decode cX8_isReady 38 = .ok (.aload_n 0, 1) := by decide +kernel
theorem dX8_isReady_39 : decode cX8_isReady 39 = .ok (.getfield 48, 3) := by decide +kernel
theorem dX8_isReady_42 : decode cX8_isReady 42 = .ok (.iload_n 3, 1) := by decide +kernel
theorem dX8_isReady_43 : decode cX8_isReady 43 = .ok (.baload, 1) := by decide +kernel
theorem dX8_isReady_44 : decode cX8_isReady 44 = .ok (.ifCond .eq 7, 3) := by decide +kernel
theorem dX8_isReady_47 : decode cX8_isReady 47 = .ok (.iconst 1, 1) := by decide +kernel
theorem dX8_isReady_48 : decode cX8_isReady 48 = .ok (.goto 4, 3) := by decide +kernel
theorem dX8_isReady_51 : decode cX8_isReady 51 = .ok (.iconst 0, 1) := by decide +kernel
theorem dX8_isReady_52 : decode cX8_isReady 52 = .ok (.istore_n 2, 1) := by decide +kernel
theorem dX8_isReady_53 : decode cX8_isReady 53 = .ok (.iinc 3 1, 3) := by decide +kernel
theorem dX8_isReady_56 : decode cX8_isReady 56 = .ok (.goto (-39), 3) := by decide +kernel
theorem dX8_isReady_59 : decode cX8_isReady 59 = .ok (.iload_n 2, 1) := by decide +kernel
theorem dX8_isReady_60 : decode cX8_isReady 60 = .ok (.ireturn, 1) := by decide +kernel
set_option maxRecDepth 20000 in
theorem ggX8_takeAll_X8_isReady : GoodIn wsX8_takeAll wsX8_isReady := goodIn_r _ [13, 4, 2, 8, 14, 15, 16, 12, 17, 18, 23, 24, 25, 26, 27, 28, 29, 30, 31, 32, 33, 34, 35, 36, 37, 38, 39, 40, 41, 42, 43, 44, 45, 46, 47, 48, 49, 50, 51] (by decide +kernel) (by decide +kernel)
set_option maxRecDepth 20000 in
theorem gX8_takeAll_X8_isReady : GoodIn wsX8_takeAll (wsV RX8 166 RX8 yX8_isReady wsX8_isReady) := goodIn_app (goodIn_of _ (by decide +kernel)) ggX8_takeAll_X8_isReady
set_option maxRecDepth 20000 in
theorem ggX8_takeAll_X8_weightOf : GoodIn wsX8_takeAll wsX8_weightOf := goodIn_r _ [22, 18, 23, 24, 25, 26, 27, 28, 29, 30, 31, 32, 33, 34, 35, 36, 37, 38, 39, 40, 41, 42, 43, 44, 45, 46, 47, 48, 49, 50, 51] (by decide +kernel) (by decide +kernel)
set_option maxRecDepth 20000 in
theorem gX8_takeAll_X8_weightOf : GoodIn wsX8_takeAll (wsV RX8 160 RX8 yX8_weightOf wsX8_weightOf) := goodIn_app (goodIn_of _ (by decide +kernel)) ggX8_takeAll_X8_weightOf
theorem dX8_takeAll_0 : decode cX8_takeAll 0 = .ok (.iconst 1, 1) := by decide +kernel
theorem dX8_takeAll_1 : decode cX8_takeAll 1 = .ok (.istore_n 3, 1) := by decide +kernel
theorem dX8_takeAll_2 : decode cX8_takeAll 2 = .ok (.iload_n 3, 1) := by decide +kernel
theorem dX8_takeAll_3 : decode cX8_takeAll 3 = .ok (.ifCond .eq 207, 3) := by decide +kernel
theorem dX8_takeAll_6 : decode cX8_takeAll 6 = .ok (.iconst (-1), 1) := by decide +kernel
theorem dX8_takeAll_7 : decode cX8_takeAll 7 = .ok (.istore 4, 2) := by decide +kernel
theorem dX8_takeAll_9 : decode cX8_takeAll 9 = .ok (.iload_n 1, 1) := by decide +kernel
theorem dX8_takeAll_10 : decode cX8_takeAll 10 = .ok (.iconst 1, 1) := by decide +kernel
theorem dX8_takeAll_11 : decode cX8_takeAll 11 = .ok (.isub, 1) := by decide +kernel
theorem dX8_takeAll_12 : decode cX8_takeAll 12 = .ok (.istore 5, 2) := by decide +kernel
theorem dX8_takeAll_14 : decode cX8_takeAll 14 = .ok (.iload 5, 2) := by decide +kernel
theorem dX8_takeAll_16 : decode cX8_takeAll 16 = .ok (.ifCond .lt 28, 3) := by decide +kernel
theorem dX8_takeAll_19 : decode cX8_takeAll 19 = .ok (.aload_n 0, 1) := by decide +kernel
theorem dX8_takeAll_20 : decode cX8_takeAll 20 = .ok (.getfield 51, 3) := by decide +kernel
theorem dX8_takeAll_23 : decode cX8_takeAll 23 = .ok (.iload 5, 2) := by decide +kernel
theorem dX8_takeAll_25 : decode cX8_takeAll 25 = .ok (.baload, 1) := by decide +kernel
theorem dX8_takeAll_26 : decode cX8_takeAll 26 = .ok (.ifCond .eq 8, 3) := by decide +kernel
theorem dX8_takeAll_29 : decode cX8_takeAll 29 = .ok (.iload 4, 2) := by decide +kernel
theorem dX8_takeAll_31 : decode cX8_takeAll 31 = .ok (.goto 5, 3) := by decide +kernel
theorem dX8_takeAll_34 : decode cX8_takeAll 34 = .ok (.iload 5, 2) := by decide +kernel
theorem dX8_takeAll_36 : decode cX8_takeAll 36 = .ok (.istore 4, 2) := by decide +kernel
theorem dX8_takeAll_38 : decode cX8_takeAll 38 = .ok (.iinc 5 (-1), 3) := by decide +kernel
theorem dX8_takeAll_41 : decode cX8_takeAll 41 = .ok (.goto (-27), 3) := by decide +kernel
theorem dX8_takeAll_44 : decode cX8_takeAll 44 = .ok (.iconst (-1), 1) := by decide +kernel
theorem dX8_takeAll_45 : decode cX8_takeAll 45 = .ok (.istore 5, 2) := by decide +kernel
theorem dX8_takeAll_47 : decode cX8_takeAll 47 = .ok (.iconst 0, 1) := by decide +kernel
theorem dX8_takeAll_48 : decode cX8_takeAll 48 = .ok (.istore 6, 2) := by decide +kernel
theorem dX8_takeAll_50 : decode cX8_takeAll 50 = .ok (.iload 6, 2) := by decide +kernel
theorem dX8_takeAll_52 : decode cX8_takeAll 52 = .ok (.aload_n 0, 1) := by decide +kernel
theorem dX8_takeAll_53 : decode cX8_takeAll 53 = .ok (.getfield 71, 3) := by decide +kernel
theorem dX8_takeAll_56 : decode cX8_takeAll 56 = .ok (.if_icmp .ge 49, 3) := by decide +kernel
theorem dX8_takeAll_59 : decode cX8_takeAll 59 = .ok (.aload_n 0, 1) := by decide +kernel
theorem dX8_takeAll_60 : decode cX8_takeAll 60 = .ok (.iload 6, 2) := by decide +kernel
theorem dX8_takeAll_62 : decode cX8_takeAll 62 = .ok (.invokevirtual 166, 3) := by decide +kernel
theorem dX8_takeAll_65 : decode cX8_takeAll 65 = .ok (.ifCond .eq 30, 3) := by decide +kernel
theorem dX8_takeAll_68 : decode cX8_takeAll 68 = .ok (.iload 5, 2) := by decide +kernel
theorem dX8_takeAll_70 : decode cX8_takeAll 70 = .ok (.ifCond .lt 20, 3) := by decide +kernel
theorem dX8_takeAll_73 : decode cX8_takeAll 73 = .ok (.aload_n 0, 1) := by decide +kernel
theorem dX8_takeAll_74 : decode cX8_takeAll 74 = .ok (.getfield 32, 3) := by decide +kernel
theorem dX8_takeAll_77 : decode cX8_takeAll 77 = .ok (.iload 6, 2) := by decide +kernel
theorem dX8_takeAll_79 : decode cX8_takeAll 79 = .ok (.iaload, 1) := by decide +kernel
theorem dX8_takeAll_80 : decode cX8_takeAll 80 = .ok (.aload_n 0, 1) := by decide +kernel
theorem dX8_takeAll_81 : decode cX8_takeAll 81 = .ok (.getfield 32, 3) := by decide +kernel
theorem dX8_takeAll_84 : decode cX8_takeAll 84 = .ok (.iload 5, 2) := by decide +kernel
theorem dX8_takeAll_86 : decode cX8_takeAll 86 = .ok (.iaload, 1) := by decide +kernel
theorem dX8_takeAll_87 : decode cX8_takeAll 87 = .ok (.if_icmp .le 8, 3) := by decide +kernel
theorem dX8_takeAll_90 : decode cX8_takeAll 90 = .ok (.iload 6, 2) := by decide +kernel
theorem dX8_takeAll_92 : decode cX8_takeAll 92 = .ok (.goto 5, 3) := by decide +kernel
theorem dX8_takeAll_95 : decode cX8_takeAll 95 = .ok (.iload 5, 2) := by decide +kernel
theorem dX8_takeAll_97 : decode cX8_takeAll 97 = .ok (.istore 5, 2) := by decide +kernel
theorem dX8_takeAll_99 : decode cX8_takeAll 99 = .ok (.iinc 6 1, 3) := by decide +kernel
theorem dX8_takeAll_102 : decode cX8_takeAll 102 = .ok (.goto (-52), 3) := by decide +kernel
theorem dX8_takeAll_105 : decode cX8_takeAll 105 = .ok (.iload 4, 2) := by decide +kernel
theorem dX8_takeAll_107 : decode cX8_takeAll 107 = .ok (.ifCond .lt 12, 3) := by decide +kernel
theorem dX8_takeAll_110 : decode cX8_takeAll 110 = .ok (.iload 5, 2) := by decide +kernel
theorem dX8_takeAll_112 : decode cX8_takeAll 112 = .ok (.ifCond .lt 7, 3) := by decide +kernel
theorem dX8_takeAll_115 : decode cX8_takeAll 115 = .ok (.iconst 1, 1) := by decide +kernel
theorem dX8_takeAll_116 : decode cX8_takeAll 116 = .ok (.goto 4, 3) := by decide +kernel
theorem dX8_takeAll_119 : decode cX8_takeAll 119 = .ok (.iconst 0, 1) := by decide +kernel
theorem dX8_takeAll_120 : decode cX8_takeAll 120 = .ok (.istore_n 3, 1) := by decide +kernel
theorem dX8_takeAll_121 : decode cX8_takeAll 121 = .ok (.iload_n 3, 1) := by decide +kernel
theorem dX8_takeAll_122 : decode cX8_takeAll 122 = .ok (.ifCond .eq 85, 3) := by decide +kernel
theorem dX8_takeAll_125 : decode cX8_takeAll 125 = .ok (.aload_n 0, 1) := by decide +kernel
theorem dX8_takeAll_126 : decode cX8_takeAll 126 = .ok (.getfield 44, 3) := by decide +kernel
theorem dX8_takeAll_129 : decode cX8_takeAll 129 = .ok (.iload 5, 2) := by decide +kernel
theorem dX8_takeAll_131 : decode cX8_takeAll 131 = .ok (.iconst 1, 1) := by decide +kernel
theorem dX8_takeAll_132 : decode cX8_takeAll 132 = .ok (.bastore, 1) := by decide +kernel
theorem dX8_takeAll_133 : decode cX8_takeAll 133 = .ok (.aload_n 0, 1) := by decide +kernel
theorem dX8_takeAll_134 : decode cX8_takeAll 134 = .ok (.getfield 35, 3) := by decide +kernel
theorem dX8_takeAll_137 : decode cX8_takeAll 137 = .ok (.iload 5, 2) := by decide +kernel
theorem dX8_takeAll_139 : decode cX8_takeAll 139 = .ok (.iload_n 2, 1) := by decide +kernel
theorem dX8_takeAll_140 : decode cX8_takeAll 140 = .ok (.iastore, 1) := by decide +kernel
theorem dX8_takeAll_141 : decode cX8_takeAll 141 = .ok (.aload_n 0, 1) := by decide +kernel
theorem dX8_takeAll_142 : decode cX8_takeAll 142 = .ok (.getfield 38, 3) := by decide +kernel
theorem dX8_takeAll_145 : decode cX8_takeAll 145 = .ok (.iload 5, 2) := by decide +kernel
theorem dX8_takeAll_147 : decode cX8_takeAll 147 = .ok (.iload 4, 2) := by decide +kernel
theorem dX8_takeAll_149 : decode cX8_takeAll 149 = .ok (.iastore, 1) := by decide +kernel
theorem dX8_takeAll_150 : decode cX8_takeAll 150 = .ok (.aload_n 0, 1) := by decide +kernel
theorem dX8_takeAll_151 : decode cX8_takeAll 151 = .ok (.getfield 41, 3) := by decide +kernel
theorem dX8_takeAll_154 : decode cX8_takeAll 154 = .ok (.iload 5, 2) := by decide +kernel
theorem dX8_takeAll_156 : decode cX8_takeAll 156 = .ok (.iload_n 2, 1) := by decide +kernel
theorem dX8_takeAll_157 : decode cX8_takeAll 157 = .ok (.aload_n 0, 1) := by decide +kernel
theorem dX8_takeAll_158 : decode cX8_takeAll 158 = .ok (.iload 5, 2) := by decide +kernel
theorem dX8_takeAll_160 : decode cX8_takeAll 160 = .ok (.invokevirtual 160, 3) := by decide +kernel
theorem dX8_takeAll_163 : decode cX8_takeAll 163 = .ok (.iadd, 1) := by decide +kernel
theorem dX8_takeAll_164 : decode cX8_takeAll 164 = .ok (.iastore, 1) := by decide +kernel
theorem dX8_takeAll_165 : decode cX8_takeAll 165 = .ok (.aload_n 0, 1) := by decide +kernel
theorem dX8_takeAll_166 : decode cX8_takeAll 166 = .ok (.getfield 48, 3) := by decide +kernel
theorem dX8_takeAll_169 : decode cX8_takeAll 169 = .ok (.iload 5, 2) := by decide +kernel
theorem dX8_takeAll_171 : decode cX8_takeAll 171 = .ok (.aload_n 0, 1) := by decide +kernel
theorem dX8_takeAll_172 : decode cX8_takeAll 172 = .ok (.iload 5, 2) := by decide +kernel
theorem dX8_takeAll_174 : decode cX8_takeAll 174 = .ok (.invokevirtual 160, 3) := by decide +kernel
theorem dX8_takeAll_177 : decode cX8_takeAll 177 = .ok (.ifCond .ne 7, 3) := by decide +kernel
theorem dX8_takeAll_180 : decode cX8_takeAll 180 = .ok (.iconst 1, 1) := by decide +kernel
theorem dX8_takeAll_181 : decode cX8_takeAll 181 = .ok (.goto 4, 3) := by decide +kernel
theorem dX8_takeAll_184 : decode cX8_takeAll 184 = .ok (.iconst 0, 1) := by decide +kernel
theorem dX8_takeAll_185 : decode cX8_takeAll 185 = .ok (.bastore, 1) := by decide +kernel
theorem dX8_takeAll_186 : decode cX8_takeAll 186 = .ok (.aload_n 0, 1) := by decide +kernel
theorem dX8_takeAll_187 : decode cX8_takeAll 187 = .ok (.getfield 51, 3) := by decide +kernel
theorem dX8_takeAll_190 : decode cX8_takeAll 190 = .ok (.iload 4, 2) := by decide +kernel
theorem dX8_takeAll_192 : decode cX8_takeAll 192 = .ok (.aload_n 0, 1) := by decide +kernel
theorem dX8_takeAll_193 : decode cX8_takeAll 193 = .ok (.iload 5, 2) := by decide +kernel
theorem dX8_takeAll_195 : decode cX8_takeAll 195 = .ok (.invokevirtual 160, 3) := by decide +kernel
theorem dX8_takeAll_198 : decode cX8_takeAll 198 = .ok (.ifCond .le 7, 3) := by decide +kernel
theorem dX8_takeAll_201 : decode cX8_takeAll 201 = .ok (.iconst 1, 1) := by decide +kernel
theorem dX8_takeAll_202 : decode cX8_takeAll 202 = .ok (.goto 4, 3) := by decide +kernel
theorem dX8_takeAll_205 : decode cX8_takeAll 205 = .ok (.iconst 0, 1) := by decide +kernel
theorem dX8_takeAll_206 : decode cX8_takeAll 206 = .ok (.bastore, 1) := by decide +kernel
theorem dX8_takeAll_207 : decode cX8_takeAll 207 = .ok (.goto (-205), 3) := by decide +kernel
theorem dX8_takeAll_210 : decode cX8_takeAll 210 = .ok (.return_, 1) := by decide +kernel
set_option maxRecDepth 20000 in
theorem ggX8_plan_X8_findTimes : GoodIn wsX8_plan wsX8_findTimes := goodIn_r _ [13, 14, 2, 15, 16, 17, 18, 19, 20, 12, 21, 22, 23, 24, 25, 26, 36, 37, 38, 39, 40, 41, 42, 43, 44, 45, 46, 47, 48, 49, 50, 51, 52, 53, 54, 55, 56, 57, 58, 59, 60, 61, 62, 63, 64] (by decide +kernel) (by decide +kernel)
set_option maxRecDepth 20000 in
theorem gX8_plan_X8_findTimes : GoodIn wsX8_plan (wsV RX8 154 RX8 yX8_findTimes wsX8_findTimes) := goodIn_app (goodIn_of _ (by decide +kernel)) ggX8_plan_X8_findTimes
set_option maxRecDepth 20000 in
theorem ggX8_plan_X8_takeAll : GoodIn wsX8_plan wsX8_takeAll := goodIn_r _ [30, 6, 2, 16, 4, 31, 8, 7, 5, 32, 33, 34, 12, 35, 23, 24, 25, 26, 22, 18, 19, 20, 21, 36, 37, 38, 39, 40, 41, 42, 43, 44, 45, 46, 47, 48, 49, 50, 51, 52, 53, 54, 55, 56, 57, 58, 59, 60, 61, 62, 63, 64] (by decide +kernel) (by decide +kernel)
set_option maxRecDepth 20000 in
theorem gX8_plan_X8_takeAll : GoodIn wsX8_plan (wsV RX8 172 RX8 yX8_takeAll wsX8_takeAll) := goodIn_app (goodIn_of _ (by decide +kernel)) ggX8_plan_X8_takeAll
theorem dX8_plan_0 : decode cX8_plan 0 = .ok (.aload_n 0, 1) := by decide +kernel
theorem dX8_plan_1 : decode cX8_plan 1 = .ok (.iconst 0, 1) := by decide +kernel
theorem dX8_plan_2 : decode cX8_plan 2 = .ok (.putfield 67, 3) := by decide +kernel
theorem dX8_plan_5 : decode cX8_plan 5 = .ok (.iload_n 1, 1) := by decide +kernel
theorem dX8_plan_6 : decode cX8_plan 6 = .ok (.iconst 1, 1) := by decide +kernel
theorem dX8_plan_7 : decode cX8_plan 7 = .ok (.if_icmp .lt 9, 3) := by decide +kernel
theorem dX8_plan_10 : decode cX8_plan 10 = .ok (.iload_n 1, 1) := by decide +kernel
theorem dX8_plan_11 : decode cX8_plan 11 = .ok (.bipush 8, 2) := by decide +kernel
theorem dX8_plan_13 : decode cX8_plan 13 = .ok (.if_icmp .le 5, 3) := by decide +kernel
theorem dX8_plan_16 : decode cX8_plan 16 = .ok (.iconst (-1), 1) := by decide +kernel
theorem dX8_plan_17 : decode cX8_plan 17 = .ok (.ireturn, 1) := by decide +kernel
theorem dX8_plan_18 : decode cX8_plan 18 = .ok (.aload_n 0, 1) := by decide +kernel
theorem dX8_plan_19 : decode cX8_plan 19 = .ok (.invokevirtual 154, 3) := by decide +kernel
theorem dX8_plan_22 : decode cX8_plan 22 = .ok (.aload_n 0, 1) := by decide +kernel
theorem dX8_plan_23 : decode cX8_plan 23 = .ok (.aload_n 0, 1) := by decide +kernel
theorem dX8_plan_24 : decode cX8_plan 24 = .ok (.getfield 71, 3) := by decide +kernel
theorem dX8_plan_27 : decode cX8_plan 27 = .ok (.putfield 169, 3) := by decide +kernel
theorem dX8_plan_30 : decode cX8_plan 30 = .ok (.iconst 0, 1) := by decide +kernel
theorem dX8_plan_31 : decode cX8_plan 31 = .ok (.istore_n 2, 1) := by decide +kernel
theorem dX8_plan_32 : decode cX8_plan 32 = .ok (.iload_n 2, 1) := by decide +kernel
theorem dX8_plan_33 : decode cX8_plan 33 = .ok (.aload_n 0, 1) := by decide +kernel
theorem dX8_plan_34 : decode cX8_plan 34 = .ok (.getfield 71, 3) := by decide +kernel
theorem dX8_plan_37 : decode cX8_plan 37 = .ok (.if_icmp .ge 23, 3) := by decide +kernel
theorem dX8_plan_40 : decode cX8_plan 40 = .ok (.aload_n 0, 1) := by decide +kernel
theorem dX8_plan_41 : decode cX8_plan 41 = .ok (.getfield 44, 3) := by decide +kernel
theorem dX8_plan_44 : decode cX8_plan 44 = .ok (.iload_n 2, 1) := by decide +kernel
theorem dX8_plan_45 : decode cX8_plan 45 = .ok (.iconst 0, 1) := by decide +kernel
theorem dX8_plan_46 : decode cX8_plan 46 = .ok (.bastore, 1) := by decide +kernel
theorem dX8_plan_47 : decode cX8_plan 47 = .ok (.aload_n 0, 1) := by decide +kernel
theorem dX8_plan_48 : decode cX8_plan 48 = .ok (.getfield 48, 3) := by decide +kernel
theorem dX8_plan_51 : decode cX8_plan 51 = .ok (.iload_n 2, 1) := by decide +kernel
theorem dX8_plan_52 : decode cX8_plan 52 = .ok (.iconst 0, 1) := by decide +kernel
theorem dX8_plan_53 : decode cX8_plan 53 = .ok (.bastore, 1) := by decide +kernel
theorem dX8_plan_54 : decode cX8_plan 54 = .ok (.iinc 2 1, 3) := by decide +kernel
theorem dX8_plan_57 : decode cX8_plan 57 = .ok (.goto (-25), 3) := by decide +kernel
theorem dX8_plan_60 : decode cX8_plan 60 = .ok (.iconst 0, 1) := by decide +kernel
theorem dX8_plan_61 : decode cX8_plan 61 = .ok (.istore_n 2, 1) := by decide +kernel
theorem dX8_plan_62 : decode cX8_plan 62 = .ok (.iload_n 2, 1) := by decide +kernel
theorem dX8_plan_63 : decode cX8_plan 63 = .ok (.bipush 8, 2) := by decide +kernel
theorem dX8_plan_65 : decode cX8_plan 65 = .ok (.if_icmp .ge 16, 3) := by decide +kernel
theorem dX8_plan_68 : decode cX8_plan 68 = .ok (.aload_n 0, 1) := by decide +kernel
theorem dX8_plan_69 : decode cX8_plan 69 = .ok (.getfield 51, 3) := by decide +kernel
theorem dX8_plan_72 : decode cX8_plan 72 = .ok (.iload_n 2, 1) := by decide +kernel
theorem dX8_plan_73 : decode cX8_plan 73 = .ok (.iconst 0, 1) := by decide +kernel
theorem dX8_plan_74 : decode cX8_plan 74 = .ok (.bastore, 1) := by decide +kernel
theorem dX8_plan_75 : decode cX8_plan 75 = .ok (.iinc 2 1, 3) := by decide +kernel
theorem dX8_plan_78 : decode cX8_plan 78 = .ok (.goto (-16), 3) := by decide +kernel
theorem dX8_plan_81 : decode cX8_plan 81 = .ok (.iconst 0, 1) := by decide +kernel
theorem dX8_plan_82 : decode cX8_plan 82 = .ok (.istore_n 2, 1) := by decide +kernel
theorem dX8_plan_83 : decode cX8_plan 83 = .ok (.iconst 1, 1) := by decide +kernel
theorem dX8_plan_84 : decode cX8_plan 84 = .ok (.istore_n 3, 1) := by decide +kernel
theorem dX8_plan_85 : decode cX8_plan 85 = .ok (.iload_n 3, 1) := by decide +kernel
theorem dX8_plan_86 : decode cX8_plan 86 = .ok (.ifCond .eq 181, 3) := by decide +kernel
theorem dX8_plan_89 : decode cX8_plan 89 = .ok (.aload_n 0, 1) := by decide +kernel
theorem dX8_plan_90 : decode cX8_plan 90 = .ok (.iload_n 1, 1) := by decide +kernel
theorem dX8_plan_91 : decode cX8_plan 91 = .ok (.iload_n 2, 1) := by decide +kernel
theorem dX8_plan_92 : decode cX8_plan 92 = .ok (.invokevirtual 172, 3) := by decide +kernel
theorem dX8_plan_95 : decode cX8_plan 95 = .ok (.iconst (-1), 1) := by decide +kernel
theorem dX8_plan_96 : decode cX8_plan 96 = .ok (.istore 4, 2) := by decide +kernel
theorem dX8_plan_98 : decode cX8_plan 98 = .ok (.iconst 0, 1) := by decide +kernel
theorem dX8_plan_99 : decode cX8_plan 99 = .ok (.istore 5, 2) := by decide +kernel
theorem dX8_plan_101 : decode cX8_plan 101 = .ok (.iload 5, 2) := by decide +kernel
theorem dX8_plan_103 : decode cX8_plan 103 = .ok (.aload_n 0, 1) := by decide +kernel
theorem dX8_plan_104 : decode cX8_plan 104 = .ok (.getfield 71, 3) := by decide +kernel
theorem dX8_plan_107 : decode cX8_plan 107 = .ok (.if_icmp .ge 60, 3) := by decide +kernel
theorem dX8_plan_110 : decode cX8_plan 110 = .ok (.aload_n 0, 1) := by decide +kernel
theorem dX8_plan_111 : decode cX8_plan 111 = .ok (.getfield 44, 3) := by decide +kernel
theorem dX8_plan_114 : decode cX8_plan 114 = .ok (.iload 5, 2) := by decide +kernel
theorem dX8_plan_116 : decode cX8_plan 116 = .ok (.baload, 1) := by decide +kernel
theorem dX8_plan_117 : decode cX8_plan 117 = .ok (.ifCond .eq 40, 3) := by decide +kernel
theorem dX8_plan_120 : decode cX8_plan 120 = .ok (.aload_n 0, 1) := by decide +kernel
theorem dX8_plan_121 : decode cX8_plan 121 = .ok (.getfield 48, 3) := by decide +kernel
theorem dX8_plan_124 : decode cX8_plan 124 = .ok (.iload 5, 2) := by decide +kernel
theorem dX8_plan_126 : decode cX8_plan 126 = .ok (.baload, 1) := by decide +kernel
theorem dX8_plan_127 : decode cX8_plan 127 = .ok (.ifCond .ne 30, 3) := by decide +kernel
theorem dX8_plan_130 : decode cX8_plan 130 = .ok (.iload 4, 2) := by decide +kernel
theorem dX8_plan_132 : decode cX8_plan 132 = .ok (.ifCond .lt 15, 3) := by decide +kernel
theorem dX8_plan_135 : decode cX8_plan 135 = .ok (.aload_n 0, 1) := by decide +kernel
theorem dX8_plan_136 : decode cX8_plan 136 = .ok (.getfield 41, 3) := by decide +kernel
theorem dX8_plan_139 : decode cX8_plan 139 = .ok (.iload 5, 2) := by decide +kernel
theorem dX8_plan_141 : decode cX8_plan 141 = .ok (.iaload, 1) := by decide +kernel
theorem dX8_plan_142 : decode cX8_plan 142 = .ok (.iload 4, 2) := by decide +kernel
theorem dX8_plan_144 : decode cX8_plan 144 = .ok (.if_icmp .ge 13, 3) := by decide +kernel
theorem dX8_plan_147 : decode cX8_plan 147 = .ok (.aload_n 0, 1) := by decide +kernel
theorem dX8_plan_148 : decode cX8_plan 148 = .ok (.getfield 41, 3) := by decide +kernel
theorem dX8_plan_151 : decode cX8_plan 151 = .ok (.iload 5, 2) := by decide +kernel
theorem dX8_plan_153 : decode cX8_plan 153 = .ok (.iaload, 1) := by decide +kernel
theorem dX8_plan_154 : decode cX8_plan 154 = .ok (.goto 5, 3) := by decide +kernel
theorem dX8_plan_157 : decode cX8_plan 157 = .ok (.iload 4, 2) := by decide +kernel
theorem dX8_plan_159 : decode cX8_plan 159 = .ok (.istore 4, 2) := by decide +kernel
theorem dX8_plan_161 : decode cX8_plan 161 = .ok (.iinc 5 1, 3) := by decide +kernel
theorem dX8_plan_164 : decode cX8_plan 164 = .ok (.goto (-63), 3) := by decide +kernel
theorem dX8_plan_167 : decode cX8_plan 167 = .ok (.iload 4, 2) := by decide +kernel
theorem dX8_plan_169 : decode cX8_plan 169 = .ok (.ifCond .lt 7, 3) := by decide +kernel
theorem dX8_plan_172 : decode cX8_plan 172 = .ok (.iconst 1, 1) := by decide +kernel
theorem dX8_plan_173 : decode cX8_plan 173 = .ok (.goto 4, 3) := by decide +kernel
theorem dX8_plan_176 : decode cX8_plan 176 = .ok (.iconst 0, 1) := by decide +kernel
theorem dX8_plan_177 : decode cX8_plan 177 = .ok (.istore_n 3, 1) := by decide +kernel
theorem dX8_plan_178 : decode cX8_plan 178 = .ok (.iconst 0, 1) := by decide +kernel
theorem dX8_plan_179 : decode cX8_plan 179 = .ok (.istore 5, 2) := by decide +kernel
theorem dX8_plan_181 : decode cX8_plan 181 = .ok (.iload 5, 2) := by decide +kernel
theorem dX8_plan_183 : decode cX8_plan 183 = .ok (.aload_n 0, 1) := by decide +kernel
theorem dX8_plan_184 : decode cX8_plan 184 = .ok (.getfield 71, 3) := by decide +kernel
theorem dX8_plan_187 : decode cX8_plan 187 = .ok (.if_icmp .ge 66, 3) := by decide +kernel
theorem dX8_plan_190 : decode cX8_plan 190 = .ok (.iload_n 3, 1) := by decide +kernel
theorem dX8_plan_191 : decode cX8_plan 191 = .ok (.ifCond .eq 62, 3) := by decide +kernel
theorem dX8_plan_194 : decode cX8_plan 194 = .ok (.aload_n 0, 1) := by decide +kernel
theorem dX8_plan_195 : decode cX8_plan 195 = .ok (.getfield 44, 3) := by decide +kernel
theorem dX8_plan_198 : decode cX8_plan 198 = .ok (.iload 5, 2) := by decide +kernel
theorem dX8_plan_200 : decode cX8_plan 200 = .ok (.baload, 1) := by decide +kernel
theorem dX8_plan_201 : decode cX8_plan 201 = .ok (.ifCond .eq 46, 3) := by decide +kernel
theorem dX8_plan_204 : decode cX8_plan 204 = .ok (.aload_n 0, 1) := by decide +kernel
theorem dX8_plan_205 : decode cX8_plan 205 = .ok (.getfield 48, 3) := by decide +kernel
theorem dX8_plan_208 : decode cX8_plan 208 = .ok (.iload 5, 2) := by decide +kernel
theorem dX8_plan_210 : decode cX8_plan 210 = .ok (.baload, 1) := by decide +kernel
theorem dX8_plan_211 : decode cX8_plan 211 = .ok (.ifCond .ne 36, 3) := by decide +kernel
theorem dX8_plan_214 : decode cX8_plan 214 = .ok (.aload_n 0, 1) := by decide +kernel
theorem dX8_plan_215 : decode cX8_plan 215 = .ok (.getfield 41, 3) := by decide +kernel
theorem dX8_plan_218 : decode cX8_plan 218 = .ok (.iload 5, 2) := by decide +kernel
theorem dX8_plan_220 : decode cX8_plan 220 = .ok (.iaload, 1) := by decide +kernel
theorem dX8_plan_221 : decode cX8_plan 221 = .ok (.iload 4, 2) := by decide +kernel
theorem dX8_plan_223 : decode cX8_plan 223 = .ok (.if_icmp .ne 24, 3) := by decide +kernel
theorem dX8_plan_226 : decode cX8_plan 226 = .ok (.aload_n 0, 1) := by decide +kernel
theorem dX8_plan_227 : decode cX8_plan 227 = .ok (.getfield 48, 3) := by decide +kernel
theorem dX8_plan_230 : decode cX8_plan 230 = .ok (.iload 5, 2) := by decide +kernel
theorem dX8_plan_232 : decode cX8_plan 232 = .ok (.iconst 1, 1) := by decide +kernel
theorem dX8_plan_233 : decode cX8_plan 233 = .ok (.bastore, 1) := by decide +kernel
theorem dX8_plan_234 : decode cX8_plan 234 = .ok (.aload_n 0, 1) := by decide +kernel
theorem dX8_plan_235 : decode cX8_plan 235 = .ok (.getfield 51, 3) := by decide +kernel
theorem dX8_plan_238 : decode cX8_plan 238 = .ok (.aload_n 0, 1) := by decide +kernel
theorem dX8_plan_239 : decode cX8_plan 239 = .ok (.getfield 38, 3) := by decide +kernel
theorem dX8_plan_242 : decode cX8_plan 242 = .ok (.iload 5, 2) := by decide +kernel
theorem dX8_plan_244 : decode cX8_plan 244 = .ok (.iaload, 1) := by decide +kernel
theorem dX8_plan_245 : decode cX8_plan 245 = .ok (.iconst 0, 1) := by decide +kernel
theorem dX8_plan_246 : decode cX8_plan 246 = .ok (.bastore, 1) := by decide +kernel
theorem dX8_plan_247 : decode cX8_plan 247 = .ok (.iinc 5 1, 3) := by decide +kernel
theorem dX8_plan_250 : decode cX8_plan 250 = .ok (.goto (-69), 3) := by decide +kernel
theorem dX8_plan_253 : decode cX8_plan 253 = .ok (.iload_n 3, 1) := by decide +kernel
theorem dX8_plan_254 : decode cX8_plan 254 = .ok (.ifCond .eq 8, 3) := by decide +kernel
theorem dX8_plan_257 : decode cX8_plan 257 = .ok (.iload 4, 2) := by decide +kernel
theorem dX8_plan_259 : decode cX8_plan 259 = .ok (.goto 4, 3) := by decide +kernel
theorem dX8_plan_262 : decode cX8_plan 262 = .ok (.iload_n 2, 1) := by decide +kernel
theorem dX8_plan_263 : decode cX8_plan 263 = .ok (.istore_n 2, 1) := by decide +kernel
theorem dX8_plan_264 : decode cX8_plan 264 = .ok (.goto (-179), 3) := by decide +kernel
theorem dX8_plan_267 : decode cX8_plan 267 = .ok (.iload_n 2, 1) := by decide +kernel
theorem dX8_plan_268 : decode cX8_plan 268 = .ok (.ireturn, 1) := by decide +kernel
theorem dX8_planned_0 : decode cX8_planned 0 = .ok (.aload_n 0, 1) := by decide +kernel
theorem dX8_planned_1 : decode cX8_planned 1 = .ok (.iconst 0, 1) := by decide +kernel
theorem dX8_planned_2 : decode cX8_planned 2 = .ok (.putfield 67, 3) := by decide +kernel
theorem dX8_planned_5 : decode cX8_planned 5 = .ok (.iload_n 1, 1) := by decide +kernel
theorem dX8_planned_6 : decode cX8_planned 6 = .ok (.ifCond .lt 11, 3) := by decide +kernel
theorem dX8_planned_9 : decode cX8_planned 9 = .ok (.iload_n 1, 1) := by decide +kernel
theorem dX8_planned_10 : decode cX8_planned 10 = .ok (.aload_n 0, 1) := by decide +kernel
theorem dX8_planned_11 : decode cX8_planned 11 = .ok (.getfield 169, 3) := by decide +kernel
theorem dX8_planned_14 : decode cX8_planned 14 = .ok (.if_icmp .lt 5, 3) := by decide +kernel
theorem dX8_planned_17 : decode cX8_planned 17 = .ok (.iconst (-1), 1) := by decide +kernel
theorem dX8_planned_18 : decode cX8_planned 18 = .ok (.ireturn, 1) := by decide +kernel
theorem dX8_planned_19 : decode cX8_planned 19 = .ok (.iload_n 2, 1) := by decide +kernel
theorem dX8_planned_20 : decode cX8_planned 20 = .ok (.ifCond .ne 12, 3) := by decide +kernel
theorem dX8_planned_23 : decode cX8_planned 23 = .ok (.aload_n 0, 1) := by decide +kernel
theorem dX8_planned_24 : decode cX8_planned 24 = .ok (.getfield 35, 3) := by decide +kernel
theorem dX8_planned_27 : decode cX8_planned 27 = .ok (.iload_n 1, 1) := by decide +kernel
theorem dX8_planned_28 : decode cX8_planned 28 = .ok (.iaload, 1) := by decide +kernel
theorem dX8_planned_29 : decode cX8_planned 29 = .ok (.goto 18, 3) := by decide +kernel
theorem dX8_planned_32 : decode cX8_planned 32 = .ok (.iload_n 2, 1) := by decide +kernel
theorem dX8_planned_33 : decode cX8_planned 33 = .ok (.iconst 1, 1) := by decide +kernel
theorem dX8_planned_34 : decode cX8_planned 34 = .ok (.if_icmp .ne 12, 3) := by decide +kernel
theorem dX8_planned_37 : decode cX8_planned 37 = .ok (.aload_n 0, 1) := by decide +kernel
theorem dX8_planned_38 : decode cX8_planned 38 = .ok (.getfield 38, 3) := by decide +kernel
theorem dX8_planned_41 : decode cX8_planned 41 = .ok (.iload_n 1, 1) := by decide +kernel
theorem dX8_planned_42 : decode cX8_planned 42 = .ok (.iaload, 1) := by decide +kernel
theorem dX8_planned_43 : decode cX8_planned 43 = .ok (.goto 4, 3) := by decide +kernel
theorem dX8_planned_46 : decode cX8_planned 46 = .ok (.iconst (-1), 1) := by decide +kernel
theorem dX8_planned_47 : decode cX8_planned 47 = .ok (.ireturn, 1) := by decide +kernel
theorem dX8_check_0 : decode cX8_check 0 = .ok (.aload_n 0, 1) := by decide +kernel
theorem dX8_check_1 : decode cX8_check 1 = .ok (.iconst 0, 1) := by decide +kernel
theorem dX8_check_2 : decode cX8_check 2 = .ok (.putfield 67, 3) := by decide +kernel
theorem dX8_check_5 : decode cX8_check 5 = .ok (.iconst 1, 1) := by decide +kernel
theorem dX8_check_6 : decode cX8_check 6 = .ok (.ireturn, 1) := by decide +kernel
theorem dJ9_max_7cf53_0 : decode cJ9_max_7cf53 0 = .ok (.iload_n 0, 1) := by decide +kernel
theorem dJ9_max_7cf53_1 : decode cJ9_max_7cf53 1 = .ok (.iload_n 1, 1) := by decide +kernel
theorem dJ9_max_7cf53_2 : decode cJ9_max_7cf53 2 = .ok (.if_icmp .lt 7, 3) := by decide +kernel
theorem dJ9_max_7cf53_5 : decode cJ9_max_7cf53 5 = .ok (.iload_n 0, 1) := by decide +kernel
theorem dJ9_max_7cf53_6 : decode cJ9_max_7cf53 6 = .ok (.goto 4, 3) := by decide +kernel
theorem dJ9_max_7cf53_9 : decode cJ9_max_7cf53 9 = .ok (.iload_n 1, 1) := by decide +kernel
theorem dJ9_max_7cf53_10 : decode cJ9_max_7cf53 10 = .ok (.ireturn, 1) := by decide +kernel
theorem dJ9_min_7cf53_0 : decode cJ9_min_7cf53 0 = .ok (.iload_n 0, 1) := by decide +kernel
theorem dJ9_min_7cf53_1 : decode cJ9_min_7cf53 1 = .ok (.iload_n 1, 1) := by decide +kernel
theorem dJ9_min_7cf53_2 : decode cJ9_min_7cf53 2 = .ok (.if_icmp .gt 7, 3) := by decide +kernel
theorem dJ9_min_7cf53_5 : decode cJ9_min_7cf53 5 = .ok (.iload_n 0, 1) := by decide +kernel
theorem dJ9_min_7cf53_6 : decode cJ9_min_7cf53 6 = .ok (.goto 4, 3) := by decide +kernel
theorem dJ9_min_7cf53_9 : decode cJ9_min_7cf53 9 = .ok (.iload_n 1, 1) := by decide +kernel
theorem dJ9_min_7cf53_10 : decode cJ9_min_7cf53 10 = .ok (.ireturn, 1) := by decide +kernel
theorem dJ7_fill_53178_0 : decode cJ7_fill_53178 0 = .ok (.iconst 0, 1) := by decide +kernel
theorem dJ7_fill_53178_1 : decode cJ7_fill_53178 1 = .ok (.istore_n 2, 1) := by decide +kernel
theorem dJ7_fill_53178_2 : decode cJ7_fill_53178 2 = .ok (.aload_n 0, 1) := by decide +kernel
theorem dJ7_fill_53178_3 : decode cJ7_fill_53178 3 = .ok (.arraylength, 1) := by decide +kernel
theorem dJ7_fill_53178_4 : decode cJ7_fill_53178 4 = .ok (.istore_n 3, 1) := by decide +kernel
theorem dJ7_fill_53178_5 : decode cJ7_fill_53178 5 = .ok (.iload_n 2, 1) := by decide +kernel
theorem dJ7_fill_53178_6 : decode cJ7_fill_53178 6 = .ok (.iload_n 3, 1) := by decide +kernel
theorem dJ7_fill_53178_7 : decode cJ7_fill_53178 7 = .ok (.if_icmp .ge 13, 3) := by decide +kernel
theorem dJ7_fill_53178_10 : decode cJ7_fill_53178 10 = .ok (.aload_n 0, 1) := by decide +kernel
theorem dJ7_fill_53178_11 : decode cJ7_fill_53178 11 = .ok (.iload_n 2, 1) := by decide +kernel
theorem dJ7_fill_53178_12 : decode cJ7_fill_53178 12 = .ok (.iload_n 1, 1) := by decide +kernel
theorem dJ7_fill_53178_13 : decode cJ7_fill_53178 13 = .ok (.iastore, 1) := by decide +kernel
theorem dJ7_fill_53178_14 : decode cJ7_fill_53178 14 = .ok (.iinc 2 1, 3) := by decide +kernel
theorem dJ7_fill_53178_17 : decode cJ7_fill_53178 17 = .ok (.goto (-12), 3) := by decide +kernel
theorem dJ7_fill_53178_20 : decode cJ7_fill_53178 20 = .ok (.return_, 1) := by decide +kernel
