set_option maxRecDepth 20000 in
theorem gX4_nearer_X2_hasTie : GoodIn wsX4_nearer (wsV RX4 53 RX2 yX2_hasTie wsX2_hasTie) := goodIn_app (goodIn_of _ (by decide +kernel)) ggX4_nearer_X2_hasTie
theorem dX4_nearer_0 : decode cX4_nearer 0 = .ok (.iconst 0, 1) := by decide +kernel
theorem dX4_nearer_1 : decode cX4_nearer 1 = .ok (.istore_n 3, 1) := by decide +kernel
theorem dX4_nearer_2 : decode cX4_nearer 2 = .ok (.iload_n 3, 1) := by decide +kernel
theorem dX4_nearer_3 : decode cX4_nearer 3 = .ok (.aload_n 1, 1) := by decide +kernel
theorem dX4_nearer_4 : decode cX4_nearer 4 = .ok (.getfield 50, 3) := by decide +kernel
theorem dX4_nearer_7 : decode cX4_nearer 7 = .ok (.if_icmp .ge 37, 3) := by decide +kernel
theorem dX4_nearer_10 : decode cX4_nearer 10 = .ok (.aload_n 1, 1) := by decide +kernel
theorem dX4_nearer_11 : decode cX4_nearer 11 = .ok (.iload_n 2, 1) := by decide +kernel
theorem dX4_nearer_12 : decode cX4_nearer 12 = .ok (.iload_n 3, 1) := by decide +kernel
theorem dX4_nearer_13 : decode cX4_nearer 13 = .ok (.invokevirtual 53, 3) := by decide +kernel
theorem dX4_nearer_16 : decode cX4_nearer 16 = .ok (.ifCond .eq 22, 3) := by decide +kernel
theorem dX4_nearer_19 : decode cX4_nearer 19 = .ok (.aload_n 0, 1) := by decide +kernel
theorem dX4_nearer_20 : decode cX4_nearer 20 = .ok (.getfield 15, 3) := by decide +kernel
theorem dX4_nearer_23 : decode cX4_nearer 23 = .ok (.iload_n 3, 1) := by decide +kernel
theorem dX4_nearer_24 : decode cX4_nearer 24 = .ok (.iaload, 1) := by decide +kernel
theorem dX4_nearer_25 : decode cX4_nearer 25 = .ok (.aload_n 0, 1) := by decide +kernel
theorem dX4_nearer_26 : decode cX4_nearer 26 = .ok (.getfield 15, 3) := by decide +kernel
theorem dX4_nearer_29 : decode cX4_nearer 29 = .ok (.iload_n 2, 1) := by decide +kernel
theorem dX4_nearer_30 : decode cX4_nearer 30 = .ok (.iaload, 1) := by decide +kernel
theorem dX4_nearer_31 : decode cX4_nearer 31 = .ok (.iconst 1, 1) := by decide +kernel
theorem dX4_nearer_32 : decode cX4_nearer 32 = .ok (.isub, 1) := by decide +kernel
theorem dX4_nearer_33 : decode cX4_nearer 33 = .ok (.if_icmp .ne 5, 3) := by decide +kernel
theorem dX4_nearer_36 : decode cX4_nearer 36 = .ok (.iload_n 3, 1) := by decide +kernel
theorem dX4_nearer_37 : decode cX4_nearer 37 = .ok (.ireturn, 1) := by decide +kernel
theorem dX4_nearer_38 : decode cX4_nearer 38 = .ok (.iinc 3 1, 3) := by decide +kernel
theorem dX4_nearer_41 : decode cX4_nearer 41 = .ok (.goto (-39), 3) := by decide +kernel
theorem dX4_nearer_44 : decode cX4_nearer 44 = .ok (.iconst (-1), 1) := by decide +kernel
theorem dX4_nearer_45 : decode cX4_nearer 45 = .ok (.ireturn, 1) := by decide +kernel
theorem dX5_init_0 : decode cX5_init 0 = .ok (.aload_n 0, 1) := by decide +kernel
theorem dX5_init_1 : decode cX5_init 1 = .ok (.invokespecial 3, 3) := by decide +kernel
theorem dX5_init_4 : decode cX5_init 4 = .ok (.aload_n 0, 1) := by decide +kernel
theorem dX5_init_5 : decode cX5_init 5 = .ok (.bipush 60, 2) := by decide +kernel
theorem dX5_init_7 : decode cX5_init 7 = .ok (.newarray .int, 2) := by decide +kernel
theorem dX5_init_9 : decode cX5_init 9 = .ok (.putfield 9, 3) := by decide +kernel
theorem dX5_init_12 : decode cX5_init 12 = .ok (.aload_n 0, 1) := by decide +kernel
theorem dX5_init_13 : decode cX5_init 13 = .ok (.bipush 60, 2) := by decide +kernel
theorem dX5_init_15 : decode cX5_init 15 = .ok (.newarray .int, 2) := by decide +kernel
theorem dX5_init_17 : decode cX5_init 17 = .ok (.putfield 15, 3) := by decide +kernel
theorem dX5_init_20 : decode cX5_init 20 = .ok (.aload_n 0, 1) := by decide +kernel
theorem dX5_init_21 : decode cX5_init 21 = .ok (.bipush 8, 2) := by decide +kernel
theorem dX5_init_23 : decode cX5_init 23 = .ok (.newarray .int, 2) := by decide +kernel
theorem dX5_init_25 : decode cX5_init 25 = .ok (.putfield 18, 3) := by decide +kernel
theorem dX5_init_28 : decode cX5_init 28 = .ok (.aload_n 0, 1) := by decide +kernel
theorem dX5_init_29 : decode cX5_init 29 = .ok (.bipush 8, 2) := by decide +kernel
theorem dX5_init_31 : decode cX5_init 31 = .ok (.newarray .int, 2) := by decide +kernel
theorem dX5_init_33 : decode cX5_init 33 = .ok (.putfield 21, 3) := by decide +kernel
theorem dX5_init_36 : decode cX5_init 36 = .ok (.return_, 1) := by decide +kernel
set_option maxRecDepth 20000 in
theorem ggX5_make_J7_fill_53178 : GoodIn wsX5_make wsJ7_fill_53178 := goodIn_r _ [9] (by decide +kernel) (by decide +kernel)
set_option maxRecDepth 20000 in
theorem gX5_make_J7_fill_53178 : GoodIn wsX5_make (va_wsS RX5 38 yJ7_fill_53178 wsJ7_fill_53178) := goodIn_app (goodIn_of _ (by decide +kernel)) ggX5_make_J7_fill_53178
set_option maxRecDepth 20000 in
theorem ggX5_make_X5_endTasks : GoodIn wsX5_make wsX5_endTasks := goodIn_r _ [14, 5, 15, 4, 16, 17, 18, 53, 54, 55, 56, 57, 58, 59] (by decide +kernel) (by decide +kernel)
set_option maxRecDepth 20000 in
theorem gX5_make_X5_endTasks : GoodIn wsX5_make (wsV RX5 44 RX5 yX5_endTasks wsX5_endTasks) := goodIn_app (goodIn_of _ (by decide +kernel)) ggX5_make_X5_endTasks
set_option maxRecDepth 20000 in
theorem ggX5_make_X5_handOut : GoodIn wsX5_make wsX5_handOut := goodIn_r _ [22, 2, 23, 24, 25, 26, 13, 27, 5, 28, 29, 30, 31, 3, 32, 4, 33, 34, 17, 35, 36, 37, 38, 39, 40, 41, 15, 16, 18, 53, 54, 55, 56, 57, 58, 59, 46, 47, 48, 49, 50, 51, 52] (by decide +kernel) (by decide +kernel)
set_option maxRecDepth 20000 in
theorem gX5_make_X5_handOut : GoodIn wsX5_make (wsV RX5 48 RX5 yX5_handOut wsX5_handOut) := goodIn_app (goodIn_of _ (by decide +kernel)) ggX5_make_X5_handOut
set_option maxRecDepth 20000 in
theorem ggX5_make_X5_nextEnd : GoodIn wsX5_make wsX5_nextEnd := goodIn_r _ [45, 5, 15, 53, 54, 55, 56, 57, 58, 59] (by decide +kernel) (by decide +kernel)
set_option maxRecDepth 20000 in
theorem gX5_make_X5_nextEnd : GoodIn wsX5_make (wsV RX5 52 RX5 yX5_nextEnd wsX5_nextEnd) := goodIn_app (goodIn_of _ (by decide +kernel)) ggX5_make_X5_nextEnd
theorem dX5_make_0 : decode cX5_make 0 = .ok (.aload_n 0, 1) := by decide +kernel
theorem dX5_make_1 : decode cX5_make 1 = .ok (.aload_n 1, 1) := by decide +kernel
theorem dX5_make_2 : decode cX5_make 2 = .ok (.getfield 24, 3) := by decide +kernel
theorem dX5_make_5 : decode cX5_make 5 = .ok (.putfield 30, 3) := by decide +kernel
theorem dX5_make_8 : decode cX5_make 8 = .ok (.aload_n 0, 1) := by decide +kernel
theorem dX5_make_9 : decode cX5_make 9 = .ok (.lconst 0, 1) := by decide +kernel
theorem dX5_make_10 : decode cX5_make 10 = .ok (.putfield 31, 3) := by decide +kernel
theorem dX5_make_13 : decode cX5_make 13 = .ok (.aload_n 0, 1) := by decide +kernel
theorem dX5_make_14 : decode cX5_make 14 = .ok (.lconst 0, 1) := by decide +kernel
theorem dX5_make_15 : decode cX5_make 15 = .ok (.putfield 35, 3) := by decide +kernel
theorem dX5_make_18 : decode cX5_make 18 = .ok (.aload_n 0, 1) := by decide +kernel
theorem dX5_make_19 : decode cX5_make 19 = .ok (.getfield 18, 3) := by decide +kernel
theorem dX5_make_22 : decode cX5_make 22 = .ok (.iconst (-1), 1) := by decide +kernel
theorem dX5_make_23 : decode cX5_make 23 = .ok (.invokestatic 38, 3) := by decide +kernel
theorem dX5_make_26 : decode cX5_make 26 = .ok (.iconst 0, 1) := by decide +kernel
theorem dX5_make_27 : decode cX5_make 27 = .ok (.istore 4, 2) := by decide +kernel
theorem dX5_make_29 : decode cX5_make 29 = .ok (.iconst 0, 1) := by decide +kernel
theorem dX5_make_30 : decode cX5_make 30 = .ok (.istore 5, 2) := by decide +kernel
theorem dX5_make_32 : decode cX5_make 32 = .ok (.iload 5, 2) := by decide +kernel
theorem dX5_make_34 : decode cX5_make 34 = .ok (.aload_n 0, 1) := by decide +kernel
theorem dX5_make_35 : decode cX5_make 35 = .ok (.getfield 30, 3) := by decide +kernel
theorem dX5_make_38 : decode cX5_make 38 = .ok (.if_icmp .gt 45, 3) := by decide +kernel
theorem dX5_make_41 : decode cX5_make 41 = .ok (.aload_n 0, 1) := by decide +kernel
theorem dX5_make_42 : decode cX5_make 42 = .ok (.iload 4, 2) := by decide +kernel
theorem dX5_make_44 : decode cX5_make 44 = .ok (.iload_n 3, 1) := by decide +kernel
theorem dX5_make_45 : decode cX5_make 45 = .ok (.invokevirtual 44, 3) := by decide +kernel
theorem dX5_make_48 : decode cX5_make 48 = .ok (.aload_n 0, 1) := by decide +kernel
theorem dX5_make_49 : decode cX5_make 49 = .ok (.aload_n 1, 1) := by decide +kernel
theorem dX5_make_50 : decode cX5_make 50 = .ok (.aload_n 2, 1) := by decide +kernel
theorem dX5_make_51 : decode cX5_make 51 = .ok (.iload_n 3, 1) := by decide +kernel
theorem dX5_make_52 : decode cX5_make 52 = .ok (.iload 4, 2) := by decide +kernel
theorem dX5_make_54 : decode cX5_make 54 = .ok (.invokevirtual 48, 3) := by decide +kernel
theorem dX5_make_57 : decode cX5_make 57 = .ok (.aload_n 0, 1) := by decide +kernel
theorem dX5_make_58 : decode cX5_make 58 = .ok (.iload_n 3, 1) := by decide +kernel
theorem dX5_make_59 : decode cX5_make 59 = .ok (.invokevirtual 52, 3) := by decide +kernel
theorem dX5_make_62 : decode cX5_make 62 = .ok (.istore 6, 2) := by decide +kernel
theorem dX5_make_64 : decode cX5_make 64 = .ok (.iload 6, 2) := by decide +kernel
theorem dX5_make_66 : decode cX5_make 66 = .ok (.iconst (-1), 1) := by decide +kernel
theorem dX5_make_67 : decode cX5_make 67 = .ok (.if_icmp .ne 6, 3) := by decide +kernel
theorem dX5_make_70 : decode cX5_make 70 = .ok (.goto 13, 3) := by decide +kernel
theorem dX5_make_73 : decode cX5_make 73 = .ok (.iload 6, 2) := by decide +kernel
theorem dX5_make_75 : decode cX5_make 75 = .ok (.istore 4, 2) := by decide +kernel
theorem dX5_make_77 : decode cX5_make 77 = .ok (.iinc 5 1, 3) := by decide +kernel
theorem dX5_make_80 : decode cX5_make 80 = .ok (.goto (-48), 3) := by decide +kernel
theorem dX5_make_83 : decode cX5_make 83 = .ok (.iload 4, 2) := by decide +kernel
theorem dX5_make_85 : decode cX5_make 85 = .ok (.ireturn, 1) := by decide +kernel
set_option maxRecDepth 20000 in
theorem ggX5_endTasks_X7_bit : GoodIn wsX5_endTasks wsX7_bit := goodIn_r _ [6] (by decide +kernel) (by decide +kernel)
set_option maxRecDepth 20000 in
theorem gX5_endTasks_X7_bit_n56 : GoodIn wsX5_endTasks (wsX7_bit) := ggX5_endTasks_X7_bit
theorem dX5_endTasks_0 : decode cX5_endTasks 0 = .ok (.iconst 0, 1) := by decide +kernel
theorem dX5_endTasks_1 : decode cX5_endTasks 1 = .ok (.istore_n 3, 1) := by decide +kernel
theorem dX5_endTasks_2 : decode cX5_endTasks 2 = .ok (.iload_n 3, 1) := by decide +kernel
theorem dX5_endTasks_3 : decode cX5_endTasks 3 = .ok (.iload_n 2, 1) := by decide +kernel
theorem dX5_endTasks_4 : decode cX5_endTasks 4 = .ok (.if_icmp .ge 54, 3) := by decide +kernel
theorem dX5_endTasks_7 : decode cX5_endTasks 7 = .ok (.aload_n 0, 1) := by decide +kernel
theorem dX5_endTasks_8 : decode cX5_endTasks 8 = .ok (.getfield 18, 3) := by decide +kernel
theorem dX5_endTasks_11 : decode cX5_endTasks 11 = .ok (.iload_n 3, 1) := by decide +kernel
theorem dX5_endTasks_12 : decode cX5_endTasks 12 = .ok (.iaload, 1) := by decide +kernel
theorem dX5_endTasks_13 : decode cX5_endTasks 13 = .ok (.iconst (-1), 1) := by decide +kernel
theorem dX5_endTasks_14 : decode cX5_endTasks 14 = .ok (.if_icmp .eq 38, 3) := by decide +kernel
theorem dX5_endTasks_17 : decode cX5_endTasks 17 = .ok (.aload_n 0, 1) := by decide +kernel
theorem dX5_endTasks_18 : decode cX5_endTasks 18 = .ok (.getfield 21, 3) := by decide +kernel
theorem dX5_endTasks_21 : decode cX5_endTasks 21 = .ok (.iload_n 3, 1) := by decide +kernel
theorem dX5_endTasks_22 : decode cX5_endTasks 22 = .ok (.iaload, 1) := by decide +kernel
theorem dX5_endTasks_23 : decode cX5_endTasks 23 = .ok (.iload_n 1, 1) := by decide +kernel
theorem dX5_endTasks_24 : decode cX5_endTasks 24 = .ok (.if_icmp .ne 28, 3) := by decide +kernel
theorem dX5_endTasks_27 : decode cX5_endTasks 27 = .ok (.aload_n 0, 1) := by decide +kernel
theorem dX5_endTasks_28 : decode cX5_endTasks 28 = .ok (.dup, 1) := by decide +kernel
theorem dX5_endTasks_29 : decode cX5_endTasks 29 = .ok (.getfield 35, 3) := by decide +kernel
theorem dX5_endTasks_32 : decode cX5_endTasks 32 = .ok (.aload_n 0, 1) := by decide +kernel
theorem dX5_endTasks_33 : decode cX5_endTasks 33 = .ok (.getfield 18, 3) := by decide +kernel
theorem dX5_endTasks_36 : decode cX5_endTasks 36 = .ok (.iload_n 3, 1) := by decide +kernel
theorem dX5_endTasks_37 : decode cX5_endTasks 37 = .ok (.iaload, 1) := by decide +kernel
theorem dX5_endTasks_38 : decode cX5_endTasks 38 = .ok (.invokestatic 56, 3) := by decide +kernel
theorem dX5_endTasks_41 : decode cX5_endTasks 41 = .ok (.lor, 1) := by decide +kernel
theorem dX5_endTasks_42 : decode cX5_endTasks 42 = .ok (.putfield 35, 3) := by decide +kernel
theorem dX5_endTasks_45 : decode cX5_endTasks 45 = .ok (.aload_n 0, 1) := by decide +kernel
theorem dX5_endTasks_46 : decode cX5_endTasks 46 = .ok (.getfield 18, 3) := by decide +kernel
theorem dX5_endTasks_49 : decode cX5_endTasks 49 = .ok (.iload_n 3, 1) := by decide +kernel
theorem dX5_endTasks_50 : decode cX5_endTasks 50 = .ok (.iconst (-1), 1) := by decide +kernel
theorem dX5_endTasks_51 : decode cX5_endTasks 51 = .ok (.iastore, 1) := by decide +kernel
theorem dX5_endTasks_52 : decode cX5_endTasks 52 = .ok (.iinc 3 1, 3) := by decide +kernel
theorem dX5_endTasks_55 : decode cX5_endTasks 55 = .ok (.goto (-53), 3) := by decide +kernel
theorem dX5_endTasks_58 : decode cX5_endTasks 58 = .ok (.return_, 1) := by decide +kernel
set_option maxRecDepth 20000 in
theorem ggX5_handOut_X5_leastFree : GoodIn wsX5_handOut wsX5_leastFree := goodIn_r _ [7, 8, 29, 30, 31, 32, 33, 34, 35] (by decide +kernel) (by decide +kernel)
set_option maxRecDepth 20000 in
theorem gX5_handOut_X5_leastFree : GoodIn wsX5_handOut (wsV RX5 60 RX5 yX5_leastFree wsX5_leastFree) := goodIn_app (goodIn_of _ (by decide +kernel)) ggX5_handOut_X5_leastFree
set_option maxRecDepth 20000 in
theorem ggX5_handOut_X5_firstReady : GoodIn wsX5_handOut wsX5_firstReady := goodIn_r _ [12, 1, 13, 14, 15, 16, 17, 18, 19, 29, 30, 31, 32, 33, 34, 35, 36, 37, 38, 39, 40, 41, 42] (by decide +kernel) (by decide +kernel)
set_option maxRecDepth 20000 in
theorem gX5_handOut_X5_firstReady : GoodIn wsX5_handOut (wsV RX5 63 RX5 yX5_firstReady wsX5_firstReady) := goodIn_app (goodIn_of _ (by decide +kernel)) ggX5_handOut_X5_firstReady
set_option maxRecDepth 20000 in
theorem ggX5_handOut_X5_take : GoodIn wsX5_handOut wsX5_take := goodIn_r _ [23, 24, 25, 13, 15, 8, 26, 27, 18, 28, 29, 30, 31, 32, 33, 34, 35] (by decide +kernel) (by decide +kernel)
set_option maxRecDepth 20000 in
theorem gX5_handOut_X5_take : GoodIn wsX5_handOut (wsV RX5 70 RX5 yX5_take wsX5_take) := goodIn_app (goodIn_of _ (by decide +kernel)) ggX5_handOut_X5_take
theorem dX5_handOut_0 : decode cX5_handOut 0 = .ok (.iconst 0, 1) := by decide +kernel
theorem dX5_handOut_1 : decode cX5_handOut 1 = .ok (.istore 5, 2) := by decide +kernel
theorem dX5_handOut_3 : decode cX5_handOut 3 = .ok (.iload 5, 2) := by decide +kernel
theorem dX5_handOut_5 : decode cX5_handOut 5 = .ok (.aload_n 0, 1) := by decide +kernel
theorem dX5_handOut_6 : decode cX5_handOut 6 = .ok (.getfield 30, 3) := by decide +kernel
theorem dX5_handOut_9 : decode cX5_handOut 9 = .ok (.if_icmp .ge 54, 3) := by decide +kernel
theorem dX5_handOut_12 : decode cX5_handOut 12 = .ok (.aload_n 0, 1) := by decide +kernel
theorem dX5_handOut_13 : decode cX5_handOut 13 = .ok (.iload_n 3, 1) := by decide +kernel
theorem dX5_handOut_14 : decode cX5_handOut 14 = .ok (.invokevirtual 60, 3) := by decide +kernel
theorem dX5_handOut_17 : decode cX5_handOut 17 = .ok (.istore 6, 2) := by decide +kernel
theorem dX5_handOut_19 : decode cX5_handOut 19 = .ok (.aload_n 0, 1) := by decide +kernel
theorem dX5_handOut_20 : decode cX5_handOut 20 = .ok (.aload_n 1, 1) := by decide +kernel
theorem dX5_handOut_21 : decode cX5_handOut 21 = .ok (.aload_n 2, 1) := by decide +kernel
theorem dX5_handOut_22 : decode cX5_handOut 22 = .ok (.invokevirtual 63, 3) := by decide +kernel
theorem dX5_handOut_25 : decode cX5_handOut 25 = .ok (.istore 7, 2) := by decide +kernel
theorem dX5_handOut_27 : decode cX5_handOut 27 = .ok (.iload 6, 2) := by decide +kernel
theorem dX5_handOut_29 : decode cX5_handOut 29 = .ok (.iconst (-1), 1) := by decide +kernel
theorem dX5_handOut_30 : decode cX5_handOut 30 = .ok (.if_icmp .eq 9, 3) := by decide +kernel
theorem dX5_handOut_33 : decode cX5_handOut 33 = .ok (.iload 7, 2) := by decide +kernel
theorem dX5_handOut_35 : decode cX5_handOut 35 = .ok (.iconst (-1), 1) := by decide +kernel
theorem dX5_handOut_36 : decode cX5_handOut 36 = .ok (.if_icmp .ne 4, 3) := by decide +kernel
theorem dX5_handOut_39 : decode cX5_handOut 39 = .ok (.return_, 1) := by decide +kernel
theorem dX5_handOut_40 : decode cX5_handOut 40 = .ok (.aload_n 0, 1) := by decide +kernel
theorem dX5_handOut_41 : decode cX5_handOut 41 = .ok (.iload 7, 2) := by decide +kernel
theorem dX5_handOut_43 : decode cX5_handOut 43 = .ok (.iload 6, 2) := by decide +kernel
theorem dX5_handOut_45 : decode cX5_handOut 45 = .ok (.iload 4, 2) := by decide +kernel
theorem dX5_handOut_47 : decode cX5_handOut 47 = .ok (.aload_n 1, 1) := by decide +kernel
theorem dX5_handOut_48 : decode cX5_handOut 48 = .ok (.getfield 67, 3) := by decide +kernel
theorem dX5_handOut_51 : decode cX5_handOut 51 = .ok (.iload 7, 2) := by decide +kernel
theorem dX5_handOut_53 : decode cX5_handOut 53 = .ok (.iaload, 1) := by decide +kernel
theorem dX5_handOut_54 : decode cX5_handOut 54 = .ok (.invokevirtual 70, 3) := by decide +kernel
theorem dX5_handOut_57 : decode cX5_handOut 57 = .ok (.iinc 5 1, 3) := by decide +kernel
theorem dX5_handOut_60 : decode cX5_handOut 60 = .ok (.goto (-57), 3) := by decide +kernel
theorem dX5_handOut_63 : decode cX5_handOut 63 = .ok (.return_, 1) := by decide +kernel
set_option maxRecDepth 20000 in
theorem ggX5_take_X7_bit : GoodIn wsX5_take wsX7_bit := goodIn_r _ [9] (by decide +kernel) (by decide +kernel)
set_option maxRecDepth 20000 in
theorem gX5_take_X7_bit_n56 : GoodIn wsX5_take (wsX7_bit) := ggX5_take_X7_bit
theorem dX5_take_0 : decode cX5_take 0 = .ok (.aload_n 0, 1) := by decide +kernel
theorem dX5_take_1 : decode cX5_take 1 = .ok (.getfield 9, 3) := by decide +kernel
theorem dX5_take_4 : decode cX5_take 4 = .ok (.iload_n 1, 1) := by decide +kernel
theorem dX5_take_5 : decode cX5_take 5 = .ok (.iload_n 3, 1) := by decide +kernel
theorem dX5_take_6 : decode cX5_take 6 = .ok (.iastore, 1) := by decide +kernel
theorem dX5_take_7 : decode cX5_take 7 = .ok (.aload_n 0, 1) := by decide +kernel
theorem dX5_take_8 : decode cX5_take 8 = .ok (.getfield 15, 3) := by decide +kernel
theorem dX5_take_11 : decode cX5_take 11 = .ok (.iload_n 1, 1) := by decide +kernel
theorem dX5_take_12 : decode cX5_take 12 = .ok (.iload_n 2, 1) := by decide +kernel
theorem dX5_take_13 : decode cX5_take 13 = .ok (.iastore, 1) := by decide +kernel
theorem dX5_take_14 : decode cX5_take 14 = .ok (.aload_n 0, 1) := by decide +kernel
theorem dX5_take_15 : decode cX5_take 15 = .ok (.dup, 1) := by decide +kernel
theorem dX5_take_16 : decode cX5_take 16 = .ok (.getfield 31, 3) := by decide +kernel
theorem dX5_take_19 : decode cX5_take 19 = .ok (.iload_n 1, 1) := by decide +kernel
theorem dX5_take_20 : decode cX5_take 20 = .ok (.invokestatic 56, 3) := by decide +kernel
theorem dX5_take_23 : decode cX5_take 23 = .ok (.lor, 1) := by decide +kernel
theorem dX5_take_24 : decode cX5_take 24 = .ok (.putfield 31, 3) := by decide +kernel
theorem dX5_take_27 : decode cX5_take 27 = .ok (.iload 4, 2) := by decide +kernel
theorem dX5_take_29 : decode cX5_take 29 = .ok (.ifCond .ne 19, 3) := by decide +kernel
theorem dX5_take_32 : decode cX5_take 32 = .ok (.aload_n 0, 1) := by decide +kernel
theorem dX5_take_33 : decode cX5_take 33 = .ok (.dup, 1) := by decide +kernel
theorem dX5_take_34 : decode cX5_take 34 = .ok (.getfield 35, 3) := by decide +kernel
theorem dX5_take_37 : decode cX5_take 37 = .ok (.iload_n 1, 1) := by decide +kernel
theorem dX5_take_38 : decode cX5_take 38 = .ok (.invokestatic 56, 3) := by decide +kernel
theorem dX5_take_41 : decode cX5_take 41 = .ok (.lor, 1) := by decide +kernel
theorem dX5_take_42 : decode cX5_take 42 = .ok (.putfield 35, 3) := by decide +kernel
theorem dX5_take_45 : decode cX5_take 45 = .ok (.goto 20, 3) := by decide +kernel
theorem dX5_take_48 : decode cX5_take 48 = .ok (.aload_n 0, 1) := by decide +kernel
theorem dX5_take_49 : decode cX5_take 49 = .ok (.getfield 18, 3) := by decide +kernel
theorem dX5_take_52 : decode cX5_take 52 = .ok (.iload_n 2, 1) := by decide +kernel
theorem dX5_take_53 : decode cX5_take 53 = .ok (.iload_n 1, 1) := by decide +kernel
theorem dX5_take_54 : decode cX5_take 54 = .ok (.iastore, 1) := by decide +kernel
theorem dX5_take_55 : decode cX5_take 55 = .ok (.aload_n 0, 1) := by decide +kernel
theorem dX5_take_56 : decode cX5_take 56 = .ok (.getfield 21, 3) := by decide +kernel
theorem dX5_take_59 : decode cX5_take 59 = .ok (.iload_n 2, 1) := by decide +kernel
theorem dX5_take_60 : decode cX5_take 60 = .ok (.iload_n 3, 1) := by decide +kernel
theorem dX5_take_61 : decode cX5_take 61 = .ok (.iload 4, 2) := by decide +kernel
theorem dX5_take_63 : decode cX5_take 63 = .ok (.iadd, 1) := by decide +kernel
theorem dX5_take_64 : decode cX5_take 64 = .ok (.iastore, 1) := by decide +kernel
theorem dX5_take_65 : decode cX5_take 65 = .ok (.return_, 1) := by decide +kernel
theorem dX5_leastFree_0 : decode cX5_leastFree 0 = .ok (.iconst 0, 1) := by decide +kernel
theorem dX5_leastFree_1 : decode cX5_leastFree 1 = .ok (.istore_n 2, 1) := by decide +kernel
theorem dX5_leastFree_2 : decode cX5_leastFree 2 = .ok (.iload_n 2, 1) := by decide +kernel
theorem dX5_leastFree_3 : decode cX5_leastFree 3 = .ok (.iload_n 1, 1) := by decide +kernel
theorem dX5_leastFree_4 : decode cX5_leastFree 4 = .ok (.if_icmp .ge 21, 3) := by decide +kernel
theorem dX5_leastFree_7 : decode cX5_leastFree 7 = .ok (.aload_n 0, 1) := by decide +kernel
theorem dX5_leastFree_8 : decode cX5_leastFree 8 = .ok (.getfield 18, 3) := by decide +kernel
theorem dX5_leastFree_11 : decode cX5_leastFree 11 = .ok (.iload_n 2, 1) := by decide +kernel
theorem dX5_leastFree_12 : decode cX5_leastFree 12 = .ok (.iaload, 1) := by decide +kernel
theorem dX5_leastFree_13 : decode cX5_leastFree 13 = .ok (.iconst (-1), 1) := by decide +kernel
theorem dX5_leastFree_14 : decode cX5_leastFree 14 = .ok (.if_icmp .ne 5, 3) := by decide +kernel
theorem dX5_leastFree_17 : decode cX5_leastFree 17 = .ok (.iload_n 2, 1) := by decide +kernel
theorem dX5_leastFree_18 : decode cX5_leastFree 18 = .ok (.ireturn, 1) := by decide +kernel
theorem dX5_leastFree_19 : decode cX5_leastFree 19 = .ok (.iinc 2 1, 3) := by decide +kernel
theorem dX5_leastFree_22 : decode cX5_leastFree 22 = .ok (.goto (-20), 3) := by decide +kernel
theorem dX5_leastFree_25 : decode cX5_leastFree 25 = .ok (.iconst (-1), 1) := by decide +kernel
theorem dX5_leastFree_26 : decode cX5_leastFree 26 = .ok (.ireturn, 1) := by decide +kernel
set_option maxRecDepth 20000 in
theorem ggX5_firstReady_X7_has : GoodIn wsX5_firstReady wsX7_has := goodIn_r _ [8] (by decide +kernel) (by decide +kernel)
set_option maxRecDepth 20000 in
theorem gX5_firstReady_X7_has_n74 : GoodIn wsX5_firstReady (wsX7_has) := ggX5_firstReady_X7_has
theorem dX5_firstReady_0 : decode cX5_firstReady 0 = .ok (.iconst (-1), 1) := by decide +kernel
theorem dX5_firstReady_1 : decode cX5_firstReady 1 = .ok (.istore_n 3, 1) := by decide +kernel
theorem dX5_firstReady_2 : decode cX5_firstReady 2 = .ok (.iconst 0, 1) := by decide +kernel
theorem dX5_firstReady_3 : decode cX5_firstReady 3 = .ok (.istore 4, 2) := by decide +kernel
theorem dX5_firstReady_5 : decode cX5_firstReady 5 = .ok (.iload 4, 2) := by decide +kernel
theorem dX5_firstReady_7 : decode cX5_firstReady 7 = .ok (.aload_n 0, 1) := by decide +kernel
theorem dX5_firstReady_8 : decode cX5_firstReady 8 = .ok (.getfield 30, 3) := by decide +kernel
theorem dX5_firstReady_11 : decode cX5_firstReady 11 = .ok (.if_icmp .ge 72, 3) := by decide +kernel
theorem dX5_firstReady_14 : decode cX5_firstReady 14 = .ok (.aload_n 0, 1) := by decide +kernel
theorem dX5_firstReady_15 : decode cX5_firstReady 15 = .ok (.getfield 31, 3) := by decide +kernel
theorem dX5_firstReady_18 : decode cX5_firstReady 18 = .ok (.iload 4, 2) := by decide +kernel
theorem dX5_firstReady_20 : decode cX5_firstReady 20 = .ok (.invokestatic 74, 3) := by decide +kernel
theorem dX5_firstReady_23 : decode cX5_firstReady 23 = .ok (.ifCond .ne 28, 3) := by decide +kernel
theorem dX5_firstReady_26 : decode cX5_firstReady 26 = .ok (.aload_n 1, 1) := by decide +kernel
theorem dX5_firstReady_27 : decode cX5_firstReady 27 = .ok (.getfield 78, 3) := by decide +kernel
theorem dX5_firstReady_30 : decode cX5_firstReady 30 = .ok (.iload 4, 2) := by decide +kernel
theorem dX5_firstReady_32 : decode cX5_firstReady 32 = .ok (.laload, 1) := by decide +kernel
theorem dX5_firstReady_33 : decode cX5_firstReady 33 = .ok (.aload_n 0, 1) := by decide +kernel
theorem dX5_firstReady_34 : decode cX5_firstReady 34 = .ok (.getfield 35, 3) := by decide +kernel
theorem dX5_firstReady_37 : decode cX5_firstReady 37 = .ok (.ldc2_w 82, 3) := by decide +kernel
theorem dX5_firstReady_40 : decode cX5_firstReady 40 = .ok (.lxor, 1) := by decide +kernel
theorem dX5_firstReady_41 : decode cX5_firstReady 41 = .ok (.land, 1) := by decide +kernel
theorem dX5_firstReady_42 : decode cX5_firstReady 42 = .ok (.lconst 0, 1) := by decide +kernel
theorem dX5_firstReady_43 : decode cX5_firstReady 43 = .ok (.lcmp, 1) := by decide +kernel
theorem dX5_firstReady_44 : decode cX5_firstReady 44 = .ok (.ifCond .ne 7, 3) := by decide +kernel
theorem dX5_firstReady_47 : decode cX5_firstReady 47 = .ok (.iconst 1, 1) := by decide +kernel
theorem dX5_firstReady_48 : decode cX5_firstReady 48 = .ok (.goto 4, 3) := by decide +kernel
theorem dX5_firstReady_51 : decode cX5_firstReady 51 = .ok (.iconst 0, 1) := by decide +kernel
theorem dX5_firstReady_52 : decode cX5_firstReady 52 = .ok (.istore 5, 2) := by decide +kernel
theorem dX5_firstReady_54 : decode cX5_firstReady 54 = .ok (.iload 5, 2) := by decide +kernel
theorem dX5_firstReady_56 : decode cX5_firstReady 56 = .ok (.ifCond .eq 21, 3) := by decide +kernel
theorem dX5_firstReady_59 : decode cX5_firstReady 59 = .ok (.iload_n 3, 1) := by decide +kernel
theorem dX5_firstReady_60 : decode cX5_firstReady 60 = .ok (.iconst (-1), 1) := by decide +kernel
theorem dX5_firstReady_61 : decode cX5_firstReady 61 = .ok (.if_icmp .eq 13, 3) := by decide +kernel
theorem dX5_firstReady_64 : decode cX5_firstReady 64 = .ok (.aload_n 2, 1) := by decide +kernel
theorem dX5_firstReady_65 : decode cX5_firstReady 65 = .ok (.iload 4, 2) := by decide +kernel
theorem dX5_firstReady_67 : decode cX5_firstReady 67 = .ok (.iaload, 1) := by decide +kernel
theorem dX5_firstReady_68 : decode cX5_firstReady 68 = .ok (.aload_n 2, 1) := by decide +kernel
theorem dX5_firstReady_69 : decode cX5_firstReady 69 = .ok (.iload_n 3, 1) := by decide +kernel
theorem dX5_firstReady_70 : decode cX5_firstReady 70 = .ok (.iaload, 1) := by decide +kernel
theorem dX5_firstReady_71 : decode cX5_firstReady 71 = .ok (.if_icmp .le 6, 3) := by decide +kernel
theorem dX5_firstReady_74 : decode cX5_firstReady 74 = .ok (.iload 4, 2) := by decide +kernel
theorem dX5_firstReady_76 : decode cX5_firstReady 76 = .ok (.istore_n 3, 1) := by decide +kernel
theorem dX5_firstReady_77 : decode cX5_firstReady 77 = .ok (.iinc 4 1, 3) := by decide +kernel
theorem dX5_firstReady_80 : decode cX5_firstReady 80 = .ok (.goto (-75), 3) := by decide +kernel
theorem dX5_firstReady_83 : decode cX5_firstReady 83 = .ok (.iload_n 3, 1) := by decide +kernel
theorem dX5_firstReady_84 : decode cX5_firstReady 84 = .ok (.ireturn, 1) := by decide +kernel
theorem dX5_nextEnd_0 : decode cX5_nextEnd 0 = .ok (.iconst (-1), 1) := by decide +kernel
theorem dX5_nextEnd_1 : decode cX5_nextEnd 1 = .ok (.istore_n 2, 1) := by decide +kernel
theorem dX5_nextEnd_2 : decode cX5_nextEnd 2 = .ok (.iconst 0, 1) := by decide +kernel
theorem dX5_nextEnd_3 : decode cX5_nextEnd 3 = .ok (.istore_n 3, 1) := by decide +kernel
theorem dX5_nextEnd_4 : decode cX5_nextEnd 4 = .ok (.iload_n 3, 1) := by decide +kernel
theorem dX5_nextEnd_5 : decode cX5_nextEnd 5 = .ok (.iload_n 1, 1) := by decide +kernel
theorem dX5_nextEnd_6 : decode cX5_nextEnd 6 = .ok (.if_icmp .ge 41, 3) := by decide +kernel
theorem dX5_nextEnd_9 : decode cX5_nextEnd 9 = .ok (.aload_n 0, 1) := by decide +kernel
theorem dX5_nextEnd_10 : decode cX5_nextEnd 10 = .ok (.getfield 18, 3) := by decide +kernel
theorem dX5_nextEnd_13 : decode cX5_nextEnd 13 = .ok (.iload_n 3, 1) := by decide +kernel
theorem dX5_nextEnd_14 : decode cX5_nextEnd 14 = .ok (.iaload, 1) := by decide +kernel
theorem dX5_nextEnd_15 : decode cX5_nextEnd 15 = .ok (.iconst (-1), 1) := by decide +kernel
theorem dX5_nextEnd_16 : decode cX5_nextEnd 16 = .ok (.if_icmp .eq 25, 3) := by decide +kernel
theorem dX5_nextEnd_19 : decode cX5_nextEnd 19 = .ok (.iload_n 2, 1) := by decide +kernel
theorem dX5_nextEnd_20 : decode cX5_nextEnd 20 = .ok (.iconst (-1), 1) := by decide +kernel
theorem dX5_nextEnd_21 : decode cX5_nextEnd 21 = .ok (.if_icmp .eq 13, 3) := by decide +kernel
theorem dX5_nextEnd_24 : decode cX5_nextEnd 24 = .ok (.aload_n 0, 1) := by decide +kernel
theorem dX5_nextEnd_25 : decode cX5_nextEnd 25 = .ok (.getfield 21, 3) := by decide +kernel
theorem dX5_nextEnd_28 : decode cX5_nextEnd 28 = .ok (.iload_n 3, 1) := by decide +kernel
theorem dX5_nextEnd_29 : decode cX5_nextEnd 29 = .ok (.iaload, 1) := by decide +kernel
theorem dX5_nextEnd_30 : decode cX5_nextEnd 30 = .ok (.iload_n 2, 1) := by decide +kernel
theorem dX5_nextEnd_31 : decode cX5_nextEnd 31 = .ok (.if_icmp .ge 10, 3) := by decide +kernel
theorem dX5_nextEnd_34 : decode cX5_nextEnd 34 = .ok (.aload_n 0, 1) := by decide +kernel
theorem dX5_nextEnd_35 : decode cX5_nextEnd 35 = .ok (.getfield 21, 3) := by decide +kernel
theorem dX5_nextEnd_38 : decode cX5_nextEnd 38 = .ok (.iload_n 3, 1) := by decide +kernel
theorem dX5_nextEnd_39 : decode cX5_nextEnd 39 = .ok (.iaload, 1) := by decide +kernel
theorem dX5_nextEnd_40 : decode cX5_nextEnd 40 = .ok (.istore_n 2, 1) := by decide +kernel
theorem dX5_nextEnd_41 : decode cX5_nextEnd 41 = .ok (.iinc 3 1, 3) := by decide +kernel
theorem dX5_nextEnd_44 : decode cX5_nextEnd 44 = .ok (.goto (-40), 3) := by decide +kernel
theorem dX5_nextEnd_47 : decode cX5_nextEnd 47 = .ok (.iload_n 2, 1) := by decide +kernel
theorem dX5_nextEnd_48 : decode cX5_nextEnd 48 = .ok (.ireturn, 1) := by decide +kernel
theorem dX6_init_0 : decode cX6_init 0 = .ok (.aload_n 0, 1) := by decide +kernel
theorem dX6_init_1 : decode cX6_init 1 = .ok (.invokespecial 3, 3) := by decide +kernel
theorem dX6_init_4 : decode cX6_init 4 = .ok (.aload_n 0, 1) := by decide +kernel
theorem dX6_init_5 : decode cX6_init 5 = .ok (.bipush 60, 2) := by decide +kernel
theorem dX6_init_7 : decode cX6_init 7 = .ok (.newarray .int, 2) := by decide +kernel
theorem dX6_init_9 : decode cX6_init 9 = .ok (.putfield 9, 3) := by decide +kernel
theorem dX6_init_12 : decode cX6_init 12 = .ok (.aload_n 0, 1) := by decide +kernel
theorem dX6_init_13 : decode cX6_init 13 = .ok (.bipush 60, 2) := by decide +kernel
theorem dX6_init_15 : decode cX6_init 15 = .ok (.newarray .int, 2) := by decide +kernel
theorem dX6_init_17 : decode cX6_init 17 = .ok (.putfield 15, 3) := by decide +kernel
theorem dX6_init_20 : decode cX6_init 20 = .ok (.return_, 1) := by decide +kernel
set_option maxRecDepth 20000 in
theorem ggX6_measure_X6_measureEarly : GoodIn wsX6_measure wsX6_measureEarly := goodIn_r _ [5, 6, 7, 8, 9, 10, 11, 12, 13, 14, 15, 16, 17, 18, 19, 20, 21, 22, 23, 29, 30, 31, 32, 33, 34, 35, 36, 37, 38] (by decide +kernel) (by decide +kernel)
set_option maxRecDepth 20000 in
theorem gX6_measure_X6_measureEarly : GoodIn wsX6_measure (wsV RX6 18 RX6 yX6_measureEarly wsX6_measureEarly) := goodIn_app (goodIn_of _ (by decide +kernel)) ggX6_measure_X6_measureEarly
set_option maxRecDepth 20000 in
theorem ggX6_measure_X6_measureTail : GoodIn wsX6_measure wsX6_measureTail := goodIn_r _ [27, 7, 8, 28, 11, 12, 13, 14, 10, 15, 16, 17, 18, 19, 20, 21, 22, 23, 32, 33, 34, 35, 36, 37, 38, 29, 30, 31] (by decide +kernel) (by decide +kernel)
set_option maxRecDepth 20000 in
theorem gX6_measure_X6_measureTail : GoodIn wsX6_measure (wsV RX6 22 RX6 yX6_measureTail wsX6_measureTail) := goodIn_app (goodIn_of _ (by decide +kernel)) ggX6_measure_X6_measureTail
theorem dX6_measure_0 : decode cX6_measure 0 = .ok (.aload_n 0, 1) := by decide +kernel
theorem dX6_measure_1 : decode cX6_measure 1 = .ok (.aload_n 1, 1) := by decide +kernel
theorem dX6_measure_2 : decode cX6_measure 2 = .ok (.invokevirtual 18, 3) := by decide +kernel
theorem dX6_measure_5 : decode cX6_measure 5 = .ok (.aload_n 0, 1) := by decide +kernel
theorem dX6_measure_6 : decode cX6_measure 6 = .ok (.aload_n 1, 1) := by decide +kernel
theorem dX6_measure_7 : decode cX6_measure 7 = .ok (.invokevirtual 22, 3) := by decide +kernel
theorem dX6_measure_10 : decode cX6_measure 10 = .ok (.return_, 1) := by decide +kernel
set_option maxRecDepth 20000 in
theorem ggX6_measureEarly_X2_hasTie : GoodIn wsX6_measureEarly wsX2_hasTie := goodIn_r _ [14, 15, 16, 17, 18, 22, 23, 24, 25, 26, 27, 28] (by decide +kernel) (by decide +kernel)
set_option maxRecDepth 20000 in
theorem gX6_measureEarly_X2_hasTie : GoodIn wsX6_measureEarly (wsV RX6 37 RX2 yX2_hasTie wsX2_hasTie) := goodIn_app (goodIn_of _ (by decide +kernel)) ggX6_measureEarly_X2_hasTie
theorem dX6_measureEarly_0 : decode cX6_measureEarly 0 = .ok (.aload_n 0, 1) := by decide +kernel
theorem dX6_measureEarly_1 : decode cX6_measureEarly 1 = .ok (.iconst 0, 1) := by decide +kernel
theorem dX6_measureEarly_2 : decode cX6_measureEarly 2 = .ok (.putfield 25, 3) := by decide +kernel
theorem dX6_measureEarly_5 : decode cX6_measureEarly 5 = .ok (.iconst 0, 1) := by decide +kernel
theorem dX6_measureEarly_6 : decode cX6_measureEarly 6 = .ok (.istore_n 2, 1) := by decide +kernel
theorem dX6_measureEarly_7 : decode cX6_measureEarly 7 = .ok (.iload_n 2, 1) := by decide +kernel
theorem dX6_measureEarly_8 : decode cX6_measureEarly 8 = .ok (.aload_n 1, 1) := by decide +kernel
theorem dX6_measureEarly_9 : decode cX6_measureEarly 9 = .ok (.getfield 29, 3) := by decide +kernel
theorem dX6_measureEarly_12 : decode cX6_measureEarly 12 = .ok (.if_icmp .ge 105, 3) := by decide +kernel
theorem dX6_measureEarly_15 : decode cX6_measureEarly 15 = .ok (.aload_n 1, 1) := by decide +kernel
theorem dX6_measureEarly_16 : decode cX6_measureEarly 16 = .ok (.getfield 34, 3) := by decide +kernel
theorem dX6_measureEarly_19 : decode cX6_measureEarly 19 = .ok (.iload_n 2, 1) := by decide +kernel
theorem dX6_measureEarly_20 : decode cX6_measureEarly 20 = .ok (.iaload, 1) := by decide +kernel
theorem dX6_measureEarly_21 : decode cX6_measureEarly 21 = .ok (.istore_n 3, 1) := by decide +kernel
theorem dX6_measureEarly_22 : decode cX6_measureEarly 22 = .ok (.aload_n 0, 1) := by decide +kernel
theorem dX6_measureEarly_23 : decode cX6_measureEarly 23 = .ok (.getfield 9, 3) := by decide +kernel
theorem dX6_measureEarly_26 : decode cX6_measureEarly 26 = .ok (.iload_n 3, 1) := by decide +kernel
theorem dX6_measureEarly_27 : decode cX6_measureEarly 27 = .ok (.iconst 0, 1) := by decide +kernel
theorem dX6_measureEarly_28 : decode cX6_measureEarly 28 = .ok (.iastore, 1) := by decide +kernel
theorem dX6_measureEarly_29 : decode cX6_measureEarly 29 = .ok (.iconst 0, 1) := by decide +kernel
theorem dX6_measureEarly_30 : decode cX6_measureEarly 30 = .ok (.istore 4, 2) := by decide +kernel
theorem dX6_measureEarly_32 : decode cX6_measureEarly 32 = .ok (.iload 4, 2) := by decide +kernel
theorem dX6_measureEarly_34 : decode cX6_measureEarly 34 = .ok (.aload_n 1, 1) := by decide +kernel
theorem dX6_measureEarly_35 : decode cX6_measureEarly 35 = .ok (.getfield 29, 3) := by decide +kernel
theorem dX6_measureEarly_38 : decode cX6_measureEarly 38 = .ok (.if_icmp .ge 49, 3) := by decide +kernel
theorem dX6_measureEarly_41 : decode cX6_measureEarly 41 = .ok (.aload_n 1, 1) := by decide +kernel
theorem dX6_measureEarly_42 : decode cX6_measureEarly 42 = .ok (.iload 4, 2) := by decide +kernel
theorem dX6_measureEarly_44 : decode cX6_measureEarly 44 = .ok (.iload_n 3, 1) := by decide +kernel
theorem dX6_measureEarly_45 : decode cX6_measureEarly 45 = .ok (.invokevirtual 37, 3) := by decide +kernel
theorem dX6_measureEarly_48 : decode cX6_measureEarly 48 = .ok (.ifCond .eq 33, 3) := by decide +kernel
theorem dX6_measureEarly_51 : decode cX6_measureEarly 51 = .ok (.aload_n 0, 1) := by decide +kernel
theorem dX6_measureEarly_52 : decode cX6_measureEarly 52 = .ok (.getfield 9, 3) := by decide +kernel
theorem dX6_measureEarly_55 : decode cX6_measureEarly 55 = .ok (.iload_n 3, 1) := by decide +kernel
theorem dX6_measureEarly_56 : decode cX6_measureEarly 56 = .ok (.aload_n 0, 1) := by decide +kernel
theorem dX6_measureEarly_57 : decode cX6_measureEarly 57 = .ok (.getfield 9, 3) := by decide +kernel
theorem dX6_measureEarly_60 : decode cX6_measureEarly 60 = .ok (.iload_n 3, 1) := by decide +kernel
theorem dX6_measureEarly_61 : decode cX6_measureEarly 61 = .ok (.iaload, 1) := by decide +kernel
theorem dX6_measureEarly_62 : decode cX6_measureEarly 62 = .ok (.aload_n 0, 1) := by decide +kernel
theorem dX6_measureEarly_63 : decode cX6_measureEarly 63 = .ok (.getfield 9, 3) := by decide +kernel
theorem dX6_measureEarly_66 : decode cX6_measureEarly 66 = .ok (.iload 4, 2) := by decide +kernel
theorem dX6_measureEarly_68 : decode cX6_measureEarly 68 = .ok (.iaload, 1) := by decide +kernel
theorem dX6_measureEarly_69 : decode cX6_measureEarly 69 = .ok (.aload_n 1, 1) := by decide +kernel
theorem dX6_measureEarly_70 : decode cX6_measureEarly 70 = .ok (.getfield 41, 3) := by decide +kernel
theorem dX6_measureEarly_73 : decode cX6_measureEarly 73 = .ok (.iload 4, 2) := by decide +kernel
theorem dX6_measureEarly_75 : decode cX6_measureEarly 75 = .ok (.iaload, 1) := by decide +kernel
theorem dX6_measureEarly_76 : decode cX6_measureEarly 76 = .ok (.iadd, 1) := by decide +kernel
theorem dX6_measureEarly_77 : decode cX6_measureEarly 77 = .ok (.invokestatic 44, 3) := by decide +kernel
theorem dX6_measureEarly_80 : decode cX6_measureEarly 80 = .ok (.iastore, 1) := by decide +kernel
theorem dX6_measureEarly_81 : decode cX6_measureEarly 81 = .ok (.iinc 4 1, 3) := by decide +kernel
theorem dX6_measureEarly_84 : decode cX6_measureEarly 84 = .ok (.goto (-52), 3) := by decide +kernel
theorem dX6_measureEarly_87 : decode cX6_measureEarly 87 = .ok (.aload_n 0, 1) := by decide +kernel
theorem dX6_measureEarly_88 : decode cX6_measureEarly 88 = .ok (.aload_n 0, 1) := by decide +kernel
theorem dX6_measureEarly_89 : decode cX6_measureEarly 89 = .ok (.getfield 25, 3) := by decide +kernel
theorem dX6_measureEarly_92 : decode cX6_measureEarly 92 = .ok (.aload_n 0, 1) := by decide +kernel
theorem dX6_measureEarly_93 : decode cX6_measureEarly 93 = .ok (.getfield 9, 3) := by decide +kernel
theorem dX6_measureEarly_96 : decode cX6_measureEarly 96 = .ok (.iload_n 3, 1) := by decide +kernel
theorem dX6_measureEarly_97 : decode cX6_measureEarly 97 = .ok (.iaload, 1) := by decide +kernel
theorem dX6_measureEarly_98 : decode cX6_measureEarly 98 = .ok (.aload_n 1, 1) := by decide +kernel
theorem dX6_measureEarly_99 : decode cX6_measureEarly 99 = .ok (.getfield 41, 3) := by decide +kernel
theorem dX6_measureEarly_102 : decode cX6_measureEarly 102 = .ok (.iload_n 3, 1) := by decide +kernel
theorem dX6_measureEarly_103 : decode cX6_measureEarly 103 = .ok (.iaload, 1) := by decide +kernel
theorem dX6_measureEarly_104 : decode cX6_measureEarly 104 = .ok (.iadd, 1) := by decide +kernel
theorem dX6_measureEarly_105 : decode cX6_measureEarly 105 = .ok (.invokestatic 44, 3) := by decide +kernel
theorem dX6_measureEarly_108 : decode cX6_measureEarly 108 = .ok (.putfield 25, 3) := by decide +kernel
theorem dX6_measureEarly_111 : decode cX6_measureEarly 111 = .ok (.iinc 2 1, 3) := by decide +kernel
theorem dX6_measureEarly_114 : decode cX6_measureEarly 114 = .ok (.goto (-107), 3) := by decide +kernel
theorem dX6_measureEarly_117 : decode cX6_measureEarly 117 = .ok (.return_, 1) := by decide +kernel
set_option maxRecDepth 20000 in
theorem ggX6_measureTail_X2_hasTie : GoodIn wsX6_measureTail wsX2_hasTie := goodIn_r _ [13, 14, 15, 16, 17, 18, 19, 20, 21, 22, 23, 24] (by decide +kernel) (by decide +kernel)
set_option maxRecDepth 20000 in
theorem gX6_measureTail_X2_hasTie : GoodIn wsX6_measureTail (wsV RX6 37 RX2 yX2_hasTie wsX2_hasTie) := goodIn_app (goodIn_of _ (by decide +kernel)) ggX6_measureTail_X2_hasTie
theorem dX6_measureTail_0 : decode cX6_measureTail 0 = .ok (.aload_n 1, 1) := by decide +kernel
theorem dX6_measureTail_1 : decode cX6_measureTail 1 = .ok (.getfield 29, 3) := by decide +kernel
theorem dX6_measureTail_4 : decode cX6_measureTail 4 = .ok (.iconst 1, 1) := by decide +kernel
theorem dX6_measureTail_5 : decode cX6_measureTail 5 = .ok (.isub, 1) := by decide +kernel
theorem dX6_measureTail_6 : decode cX6_measureTail 6 = .ok (.istore_n 2, 1) := by decide +kernel
theorem dX6_measureTail_7 : decode cX6_measureTail 7 = .ok (.iload_n 2, 1) := by decide +kernel
theorem dX6_measureTail_8 : decode cX6_measureTail 8 = .ok (.ifCond .lt 76, 3) := by decide +kernel
theorem dX6_measureTail_11 : decode cX6_measureTail 11 = .ok (.aload_n 1, 1) := by decide +kernel
theorem dX6_measureTail_12 : decode cX6_measureTail 12 = .ok (.getfield 34, 3) := by decide +kernel
theorem dX6_measureTail_15 : decode cX6_measureTail 15 = .ok (.iload_n 2, 1) := by decide +kernel
theorem dX6_measureTail_16 : decode cX6_measureTail 16 = .ok (.iaload, 1) := by decide +kernel
theorem dX6_measureTail_17 : decode cX6_measureTail 17 = .ok (.istore_n 3, 1) := by decide +kernel
theorem dX6_measureTail_18 : decode cX6_measureTail 18 = .ok (.iconst 0, 1) := by decide +kernel
theorem dX6_measureTail_19 : decode cX6_measureTail 19 = .ok (.istore 4, 2) := by decide +kernel
theorem dX6_measureTail_21 : decode cX6_measureTail 21 = .ok (.iconst 0, 1) := by decide +kernel
theorem dX6_measureTail_22 : decode cX6_measureTail 22 = .ok (.istore 5, 2) := by decide +kernel
theorem dX6_measureTail_24 : decode cX6_measureTail 24 = .ok (.iload 5, 2) := by decide +kernel
theorem dX6_measureTail_26 : decode cX6_measureTail 26 = .ok (.aload_n 1, 1) := by decide +kernel
theorem dX6_measureTail_27 : decode cX6_measureTail 27 = .ok (.getfield 29, 3) := by decide +kernel
theorem dX6_measureTail_30 : decode cX6_measureTail 30 = .ok (.if_icmp .ge 33, 3) := by decide +kernel
theorem dX6_measureTail_33 : decode cX6_measureTail 33 = .ok (.aload_n 1, 1) := by decide +kernel
theorem dX6_measureTail_34 : decode cX6_measureTail 34 = .ok (.iload_n 3, 1) := by decide +kernel
theorem dX6_measureTail_35 : decode cX6_measureTail 35 = .ok (.iload 5, 2) := by decide +kernel
theorem dX6_measureTail_37 : decode cX6_measureTail 37 = .ok (.invokevirtual 37, 3) := by decide +kernel
theorem dX6_measureTail_40 : decode cX6_measureTail 40 = .ok (.ifCond .eq 17, 3) := by decide +kernel
theorem dX6_measureTail_43 : decode cX6_measureTail 43 = .ok (.iload 4, 2) := by decide +kernel
theorem dX6_measureTail_45 : decode cX6_measureTail 45 = .ok (.aload_n 0, 1) := by decide +kernel
theorem dX6_measureTail_46 : decode cX6_measureTail 46 = .ok (.getfield 15, 3) := by decide +kernel
theorem dX6_measureTail_49 : decode cX6_measureTail 49 = .ok (.iload 5, 2) := by decide +kernel
theorem dX6_measureTail_51 : decode cX6_measureTail 51 = .ok (.iaload, 1) := by decide +kernel
theorem dX6_measureTail_52 : decode cX6_measureTail 52 = .ok (.invokestatic 44, 3) := by decide +kernel
theorem dX6_measureTail_55 : decode cX6_measureTail 55 = .ok (.istore 4, 2) := by decide +kernel
theorem dX6_measureTail_57 : decode cX6_measureTail 57 = .ok (.iinc 5 1, 3) := by decide +kernel
theorem dX6_measureTail_60 : decode cX6_measureTail 60 = .ok (.goto (-36), 3) := by decide +kernel
theorem dX6_measureTail_63 : decode cX6_measureTail 63 = .ok (.aload_n 0, 1) := by decide +kernel
theorem dX6_measureTail_64 : decode cX6_measureTail 64 = .ok (.getfield 15, 3) := by decide +kernel
theorem dX6_measureTail_67 : decode cX6_measureTail 67 = .ok (.iload_n 3, 1) := by decide +kernel
theorem dX6_measureTail_68 : decode cX6_measureTail 68 = .ok (.iload 4, 2) := by decide +kernel
theorem dX6_measureTail_70 : decode cX6_measureTail 70 = .ok (.aload_n 1, 1) := by decide +kernel
theorem dX6_measureTail_71 : decode cX6_measureTail 71 = .ok (.getfield 41, 3) := by decide +kernel
theorem dX6_measureTail_74 : decode cX6_measureTail 74 = .ok (.iload_n 3, 1) := by decide +kernel
theorem dX6_measureTail_75 : decode cX6_measureTail 75 = .ok (.iaload, 1) := by decide +kernel
theorem dX6_measureTail_76 : decode cX6_measureTail 76 = .ok (.iadd, 1) := by decide +kernel
theorem dX6_measureTail_77 : decode cX6_measureTail 77 = .ok (.iastore, 1) := by decide +kernel
theorem dX6_measureTail_78 : decode cX6_measureTail 78 = .ok (.iinc 2 (-1), 3) := by decide +kernel
theorem dX6_measureTail_81 : decode cX6_measureTail 81 = .ok (.goto (-74), 3) := by decide +kernel
theorem dX6_measureTail_84 : decode cX6_measureTail 84 = .ok (.return_, 1) := by decide +kernel
theorem dX6_lateOf_0 : decode cX6_lateOf 0 = .ok (.aload_n 0, 1) := by decide +kernel
theorem dX6_lateOf_1 : decode cX6_lateOf 1 = .ok (.getfield 25, 3) := by decide +kernel
theorem dX6_lateOf_4 : decode cX6_lateOf 4 = .ok (.aload_n 0, 1) := by decide +kernel
theorem dX6_lateOf_5 : decode cX6_lateOf 5 = .ok (.getfield 15, 3) := by decide +kernel
theorem dX6_lateOf_8 : decode cX6_lateOf 8 = .ok (.iload_n 1, 1) := by decide +kernel
theorem dX6_lateOf_9 : decode cX6_lateOf 9 = .ok (.iaload, 1) := by decide +kernel
theorem dX6_lateOf_10 : decode cX6_lateOf 10 = .ok (.isub, 1) := by decide +kernel
theorem dX6_lateOf_11 : decode cX6_lateOf 11 = .ok (.ireturn, 1) := by decide +kernel
set_option maxRecDepth 20000 in
theorem ggX6_isCritical_X6_lateOf : GoodIn wsX6_isCritical wsX6_lateOf := goodIn_r _ [6, 7, 8, 9, 10, 11] (by decide +kernel) (by decide +kernel)
set_option maxRecDepth 20000 in
theorem gX6_isCritical_X6_lateOf : GoodIn wsX6_isCritical (wsV RX6 50 RX6 yX6_lateOf wsX6_lateOf) := goodIn_app (goodIn_of _ (by decide +kernel)) ggX6_isCritical_X6_lateOf
theorem dX6_isCritical_0 : decode cX6_isCritical 0 = .ok (.aload_n 0, 1) := by decide +kernel
theorem dX6_isCritical_1 : decode cX6_isCritical 1 = .ok (.getfield 9, 3) := by decide +kernel
theorem dX6_isCritical_4 : decode cX6_isCritical 4 = .ok (.iload_n 1, 1) := by decide +kernel
theorem dX6_isCritical_5 : decode cX6_isCritical 5 = .ok (.iaload, 1) := by decide +kernel
theorem dX6_isCritical_6 : decode cX6_isCritical 6 = .ok (.aload_n 0, 1) := by decide +kernel
theorem dX6_isCritical_7 : decode cX6_isCritical 7 = .ok (.iload_n 1, 1) := by decide +kernel
theorem dX6_isCritical_8 : decode cX6_isCritical 8 = .ok (.invokevirtual 50, 3) := by decide +kernel
theorem dX6_isCritical_11 : decode cX6_isCritical 11 = .ok (.if_icmp .ne 7, 3) := by decide +kernel
theorem dX6_isCritical_14 : decode cX6_isCritical 14 = .ok (.iconst 1, 1) := by decide +kernel
theorem dX6_isCritical_15 : decode cX6_isCritical 15 = .ok (.goto 4, 3) := by decide +kernel
theorem dX6_isCritical_18 : decode cX6_isCritical 18 = .ok (.iconst 0, 1) := by decide +kernel
theorem dX6_isCritical_19 : decode cX6_isCritical 19 = .ok (.ireturn, 1) := by decide +kernel
set_option maxRecDepth 20000 in
theorem ggX6_firstCritical_X6_isCritical : GoodIn wsX6_firstCritical wsX6_isCritical := goodIn_r _ [7, 2, 8, 9, 10, 6, 11, 12, 13, 21, 22, 23] (by decide +kernel) (by decide +kernel)
set_option maxRecDepth 20000 in
theorem gX6_firstCritical_X6_isCritical : GoodIn wsX6_firstCritical (wsV RX6 54 RX6 yX6_isCritical wsX6_isCritical) := goodIn_app (goodIn_of _ (by decide +kernel)) ggX6_firstCritical_X6_isCritical
theorem dX6_firstCritical_0 : decode cX6_firstCritical 0 = .ok (.iconst 0, 1) := by decide +kernel
theorem dX6_firstCritical_1 : decode cX6_firstCritical 1 = .ok (.istore_n 2, 1) := by decide +kernel
theorem dX6_firstCritical_2 : decode cX6_firstCritical 2 = .ok (.iload_n 2, 1) := by decide +kernel
theorem dX6_firstCritical_3 : decode cX6_firstCritical 3 = .ok (.aload_n 1, 1) := by decide +kernel
theorem dX6_firstCritical_4 : decode cX6_firstCritical 4 = .ok (.getfield 29, 3) := by decide +kernel
theorem dX6_firstCritical_7 : decode cX6_firstCritical 7 = .ok (.if_icmp .ge 28, 3) := by decide +kernel
theorem dX6_firstCritical_10 : decode cX6_firstCritical 10 = .ok (.aload_n 0, 1) := by decide +kernel
theorem dX6_firstCritical_11 : decode cX6_firstCritical 11 = .ok (.iload_n 2, 1) := by decide +kernel
theorem dX6_firstCritical_12 : decode cX6_firstCritical 12 = .ok (.invokevirtual 54, 3) := by decide +kernel
theorem dX6_firstCritical_15 : decode cX6_firstCritical 15 = .ok (.ifCond .eq 14, 3) := by decide +kernel
theorem dX6_firstCritical_18 : decode cX6_firstCritical 18 = .ok (.aload_n 0, 1) := by decide +kernel
theorem dX6_firstCritical_19 : decode cX6_firstCritical 19 = .ok (.getfield 9, 3) := by decide +kernel
theorem dX6_firstCritical_22 : decode cX6_firstCritical 22 = .ok (.iload_n 2, 1) := by decide +kernel
theorem dX6_firstCritical_23 : decode cX6_firstCritical 23 = .ok (.iaload, 1) := by decide +kernel
theorem dX6_firstCritical_24 : decode cX6_firstCritical 24 = .ok (.ifCond .ne 5, 3) := by decide +kernel
theorem dX6_firstCritical_27 : decode cX6_firstCritical 27 = .ok (.iload_n 2, 1) := by decide +kernel
theorem dX6_firstCritical_28 : decode cX6_firstCritical 28 = .ok (.ireturn, 1) := by decide +kernel
theorem dX6_firstCritical_29 : decode cX6_firstCritical 29 = .ok (.iinc 2 1, 3) := by decide +kernel
theorem dX6_firstCritical_32 : decode cX6_firstCritical 32 = .ok (.goto (-30), 3) := by decide +kernel
theorem dX6_firstCritical_35 : decode cX6_firstCritical 35 = .ok (.iconst (-1), 1) := by decide +kernel
theorem dX6_firstCritical_36 : decode cX6_firstCritical 36 = .ok (.ireturn, 1) := by decide +kernel
set_option maxRecDepth 20000 in
theorem ggX6_nextCritical_X2_hasTie : GoodIn wsX6_nextCritical wsX2_hasTie := goodIn_r _ [8, 9, 10, 11, 12, 27, 28, 29, 30, 31, 32, 33] (by decide +kernel) (by decide +kernel)
set_option maxRecDepth 20000 in
theorem gX6_nextCritical_X2_hasTie : GoodIn wsX6_nextCritical (wsV RX6 37 RX2 yX2_hasTie wsX2_hasTie) := goodIn_app (goodIn_of _ (by decide +kernel)) ggX6_nextCritical_X2_hasTie
set_option maxRecDepth 20000 in
theorem ggX6_nextCritical_X6_isCritical : GoodIn wsX6_nextCritical wsX6_isCritical := goodIn_r _ [17, 1, 18, 19, 20, 16, 21, 22, 23, 24, 25, 26] (by decide +kernel) (by decide +kernel)
set_option maxRecDepth 20000 in
theorem gX6_nextCritical_X6_isCritical : GoodIn wsX6_nextCritical (wsV RX6 54 RX6 yX6_isCritical wsX6_isCritical) := goodIn_app (goodIn_of _ (by decide +kernel)) ggX6_nextCritical_X6_isCritical
theorem dX6_nextCritical_0 : decode cX6_nextCritical 0 = .ok (.aload_n 0, 1) := by decide +kernel
theorem dX6_nextCritical_1 : decode cX6_nextCritical 1 = .ok (.getfield 9, 3) := by decide +kernel
theorem dX6_nextCritical_4 : decode cX6_nextCritical 4 = .ok (.iload_n 2, 1) := by decide +kernel
theorem dX6_nextCritical_5 : decode cX6_nextCritical 5 = .ok (.iaload, 1) := by decide +kernel
theorem dX6_nextCritical_6 : decode cX6_nextCritical 6 = .ok (.aload_n 1, 1) := by decide +kernel
theorem dX6_nextCritical_7 : decode cX6_nextCritical 7 = .ok (.getfield 41, 3) := by decide +kernel
theorem dX6_nextCritical_10 : decode cX6_nextCritical 10 = .ok (.iload_n 2, 1) := by decide +kernel
theorem dX6_nextCritical_11 : decode cX6_nextCritical 11 = .ok (.iaload, 1) := by decide +kernel
theorem dX6_nextCritical_12 : decode cX6_nextCritical 12 = .ok (.iadd, 1) := by decide +kernel
theorem dX6_nextCritical_13 : decode cX6_nextCritical 13 = .ok (.istore_n 3, 1) := by decide +kernel
theorem dX6_nextCritical_14 : decode cX6_nextCritical 14 = .ok (.iconst 0, 1) := by decide +kernel
theorem dX6_nextCritical_15 : decode cX6_nextCritical 15 = .ok (.istore 4, 2) := by decide +kernel
theorem dX6_nextCritical_17 : decode cX6_nextCritical 17 = .ok (.iload 4, 2) := by decide +kernel
theorem dX6_nextCritical_19 : decode cX6_nextCritical 19 = .ok (.aload_n 1, 1) := by decide +kernel
theorem dX6_nextCritical_20 : decode cX6_nextCritical 20 = .ok (.getfield 29, 3) := by decide +kernel
theorem dX6_nextCritical_23 : decode cX6_nextCritical 23 = .ok (.if_icmp .ge 42, 3) := by decide +kernel
theorem dX6_nextCritical_26 : decode cX6_nextCritical 26 = .ok (.aload_n 1, 1) := by decide +kernel
theorem dX6_nextCritical_27 : decode cX6_nextCritical 27 = .ok (.iload_n 2, 1) := by decide +kernel
theorem dX6_nextCritical_28 : decode cX6_nextCritical 28 = .ok (.iload 4, 2) := by decide +kernel
theorem dX6_nextCritical_30 : decode cX6_nextCritical 30 = .ok (.invokevirtual 37, 3) := by decide +kernel
theorem dX6_nextCritical_33 : decode cX6_nextCritical 33 = .ok (.ifCond .eq 26, 3) := by decide +kernel
theorem dX6_nextCritical_36 : decode cX6_nextCritical 36 = .ok (.aload_n 0, 1) := by decide +kernel
theorem dX6_nextCritical_37 : decode cX6_nextCritical 37 = .ok (.iload 4, 2) := by decide +kernel
theorem dX6_nextCritical_39 : decode cX6_nextCritical 39 = .ok (.invokevirtual 54, 3) := by decide +kernel
theorem dX6_nextCritical_42 : decode cX6_nextCritical 42 = .ok (.ifCond .eq 17, 3) := by decide +kernel
theorem dX6_nextCritical_45 : decode cX6_nextCritical 45 = .ok (.aload_n 0, 1) := by decide +kernel
theorem dX6_nextCritical_46 : decode cX6_nextCritical 46 = .ok (.getfield 9, 3) := by decide +kernel
theorem dX6_nextCritical_49 : decode cX6_nextCritical 49 = .ok (.iload 4, 2) := by decide +kernel
theorem dX6_nextCritical_51 : decode cX6_nextCritical 51 = .ok (.iaload, 1) := by decide +kernel
theorem dX6_nextCritical_52 : decode cX6_nextCritical 52 = .ok (.iload_n 3, 1) := by decide +kernel
theorem dX6_nextCritical_53 : decode cX6_nextCritical 53 = .ok (.if_icmp .ne 6, 3) := by decide +kernel
theorem dX6_nextCritical_56 : decode cX6_nextCritical 56 = .ok (.iload 4, 2) := by decide +kernel
theorem dX6_nextCritical_58 : decode cX6_nextCritical 58 = .ok (.ireturn, 1) := by decide +kernel
theorem dX6_nextCritical_59 : decode cX6_nextCritical 59 = .ok (.iinc 4 1, 3) := by decide +kernel
theorem dX6_nextCritical_62 : decode cX6_nextCritical 62 = .ok (.goto (-45), 3) := by decide +kernel
theorem dX6_nextCritical_65 : decode cX6_nextCritical 65 = .ok (.iconst (-1), 1) := by decide +kernel
theorem dX6_nextCritical_66 : decode cX6_nextCritical 66 = .ok (.ireturn, 1) := by decide +kernel
set_option maxRecDepth 20000 in
theorem ggX7_init_X2_init : GoodIn wsX7_init wsX2_init := goodIn_r _ [34, 35, 2, 3, 36, 37, 38, 39, 40, 41, 42, 75, 76, 77, 78, 79, 80, 81] (by decide +kernel) (by decide +kernel)
set_option maxRecDepth 20000 in
theorem gX7_init_X2_init_n9 : GoodIn wsX7_init (wsX2_init) := ggX7_init_X2_init
set_option maxRecDepth 20000 in
theorem ggX7_init_X1_init : GoodIn wsX7_init wsX1_init := goodIn_r _ [44, 45, 2, 3, 36, 46, 90, 91] (by decide +kernel) (by decide +kernel)
set_option maxRecDepth 20000 in
theorem gX7_init_X1_init_n18 : GoodIn wsX7_init (wsX1_init) := ggX7_init_X1_init
set_option maxRecDepth 20000 in
theorem ggX7_init_X0_init : GoodIn wsX7_init wsX0_init := goodIn_r _ [48, 49, 2, 3, 36, 50, 51, 92, 93, 94] (by decide +kernel) (by decide +kernel)
set_option maxRecDepth 20000 in
theorem gX7_init_X0_init_n25 : GoodIn wsX7_init (wsX0_init) := ggX7_init_X0_init
set_option maxRecDepth 20000 in
theorem ggX7_init_X3_init : GoodIn wsX7_init wsX3_init := goodIn_r _ [53, 54, 2, 3, 55, 5, 6, 56, 57, 33, 34, 35, 36, 37, 38, 39, 40, 41, 42, 75, 76, 77, 78, 79, 80, 81, 95, 96, 97, 98] (by decide +kernel) (by decide +kernel)
set_option maxRecDepth 20000 in
theorem gX7_init_X3_init_n32 : GoodIn wsX7_init (wsX3_init) := ggX7_init_X3_init
set_option maxRecDepth 20000 in
theorem ggX7_init_X4_init : GoodIn wsX7_init wsX4_init := goodIn_r _ [59, 60, 2, 3, 36, 61, 62, 99, 100, 101] (by decide +kernel) (by decide +kernel)
set_option maxRecDepth 20000 in
theorem gX7_init_X4_init_n39 : GoodIn wsX7_init (wsX4_init) := ggX7_init_X4_init
set_option maxRecDepth 20000 in
theorem ggX7_init_X6_init : GoodIn wsX7_init wsX6_init := goodIn_r _ [64, 65, 2, 3, 36, 66, 67, 102, 103, 104] (by decide +kernel) (by decide +kernel)
set_option maxRecDepth 20000 in
theorem gX7_init_X6_init_n46 : GoodIn wsX7_init (wsX6_init) := ggX7_init_X6_init
set_option maxRecDepth 20000 in
theorem ggX7_init_X5_init : GoodIn wsX7_init wsX5_init := goodIn_r _ [69, 70, 2, 3, 36, 71, 72, 73, 74, 105, 106, 107, 108, 109, 110, 111] (by decide +kernel) (by decide +kernel)
set_option maxRecDepth 20000 in
theorem gX7_init_X5_init_n53 : GoodIn wsX7_init (wsX5_init) := ggX7_init_X5_init
theorem dX7_init_0 : decode cX7_init 0 = .ok (.aload_n 0, 1) := by decide +kernel
theorem dX7_init_1 : decode cX7_init 1 = .ok (.invokespecial 1, 3) := by decide +kernel
theorem dX7_init_4 : decode cX7_init 4 = .ok (.aload_n 0, 1) := by decide +kernel
theorem dX7_init_5 : decode cX7_init 5 = .ok (.new 7, 3) := by decide +kernel
theorem dX7_init_8 : decode cX7_init 8 = .ok (.dup, 1) := by decide +kernel
theorem dX7_init_9 : decode cX7_init 9 = .ok (.invokespecial 9, 3) := by decide +kernel
theorem dX7_init_12 : decode cX7_init 12 = .ok (.putfield 10, 3) := by decide +kernel
theorem dX7_init_15 : decode cX7_init 15 = .ok (.aload_n 0, 1) := by decide +kernel
theorem dX7_init_16 : decode cX7_init 16 = .ok (.new 16, 3) := by decide +kernel
theorem dX7_init_19 : decode cX7_init 19 = .ok (.dup, 1) := by decide +kernel
theorem dX7_init_20 : decode cX7_init 20 = .ok (.invokespecial 18, 3) := by decide +kernel
theorem dX7_init_23 : decode cX7_init 23 = .ok (.putfield 19, 3) := by decide +kernel
theorem dX7_init_26 : decode cX7_init 26 = .ok (.aload_n 0, 1) := by decide +kernel
theorem dX7_init_27 : decode cX7_init 27 = .ok (.new 23, 3) := by decide +kernel
theorem dX7_init_30 : decode cX7_init 30 = .ok (.dup, 1) := by decide +kernel
theorem dX7_init_31 : decode cX7_init 31 = .ok (.invokespecial 25, 3) := by decide +kernel
theorem dX7_init_34 : decode cX7_init 34 = .ok (.putfield 26, 3) := by decide +kernel
theorem dX7_init_37 : decode cX7_init 37 = .ok (.aload_n 0, 1) := by decide +kernel
theorem dX7_init_38 : decode cX7_init 38 = .ok (.new 30, 3) := by decide +kernel
theorem dX7_init_41 : decode cX7_init 41 = .ok (.dup, 1) := by decide +kernel
theorem dX7_init_42 : decode cX7_init 42 = .ok (.invokespecial 32, 3) := by decide +kernel
theorem dX7_init_45 : decode cX7_init 45 = .ok (.putfield 33, 3) := by decide +kernel
theorem dX7_init_48 : decode cX7_init 48 = .ok (.aload_n 0, 1) := by decide +kernel
theorem dX7_init_49 : decode cX7_init 49 = .ok (.new 37, 3) := by decide +kernel
theorem dX7_init_52 : decode cX7_init 52 = .ok (.dup, 1) := by decide +kernel
theorem dX7_init_53 : decode cX7_init 53 = .ok (.invokespecial 39, 3) := by decide +kernel
theorem dX7_init_56 : decode cX7_init 56 = .ok (.putfield 40, 3) := by decide +kernel
theorem dX7_init_59 : decode cX7_init 59 = .ok (.aload_n 0, 1) := by decide +kernel
theorem dX7_init_60 : decode cX7_init 60 = .ok (.new 44, 3) := by decide +kernel
theorem dX7_init_63 : decode cX7_init 63 = .ok (.dup, 1) := by decide +kernel
theorem dX7_init_64 : decode cX7_init 64 = .ok (.invokespecial 46, 3) := by decide +kernel
theorem dX7_init_67 : decode cX7_init 67 = .ok (.putfield 47, 3) := by decide +kernel
theorem dX7_init_70 : decode cX7_init 70 = .ok (.aload_n 0, 1) := by decide +kernel
theorem dX7_init_71 : decode cX7_init 71 = .ok (.new 51, 3) := by decide +kernel
theorem dX7_init_74 : decode cX7_init 74 = .ok (.dup, 1) := by decide +kernel
theorem dX7_init_75 : decode cX7_init 75 = .ok (.invokespecial 53, 3) := by decide +kernel
theorem dX7_init_78 : decode cX7_init 78 = .ok (.putfield 54, 3) := by decide +kernel
theorem dX7_init_81 : decode cX7_init 81 = .ok (.aload_n 0, 1) := by decide +kernel
theorem dX7_init_82 : decode cX7_init 82 = .ok (.iconst 0, 1) := by decide +kernel
theorem dX7_init_83 : decode cX7_init 83 = .ok (.putfield 58, 3) := by decide +kernel
theorem dX7_init_86 : decode cX7_init 86 = .ok (.return_, 1) := by decide +kernel
set_option maxRecDepth 20000 in
theorem ggX7_task_X7_isWeight : GoodIn wsX7_task wsX7_isWeight := goodIn_r _ [7] (by decide +kernel) (by decide +kernel)
set_option maxRecDepth 20000 in
theorem gX7_task_X7_isWeight : GoodIn wsX7_task (va_wsS RX7 62 yX7_isWeight wsX7_isWeight) := goodIn_app (goodIn_of _ (by decide +kernel)) ggX7_task_X7_isWeight
set_option maxRecDepth 20000 in
theorem ggX7_task_X3_forget : GoodIn wsX7_task wsX3_forget := goodIn_r _ [12, 13, 38, 39, 40, 41] (by decide +kernel) (by decide +kernel)
set_option maxRecDepth 20000 in
theorem gX7_task_X3_forget : GoodIn wsX7_task (wsV RX7 69 RX3 yX3_forget wsX3_forget) := goodIn_app (goodIn_of _ (by decide +kernel)) ggX7_task_X3_forget
set_option maxRecDepth 20000 in
theorem ggX7_task_X2_addTask : GoodIn wsX7_task wsX2_addTask := goodIn_r _ [18, 19, 20, 21, 22, 31, 32, 33, 34, 35, 36, 37] (by decide +kernel) (by decide +kernel)
set_option maxRecDepth 20000 in
theorem gX7_task_X2_addTask : GoodIn wsX7_task (wsV RX7 72 RX2 yX2_addTask wsX2_addTask) := goodIn_app (goodIn_of _ (by decide +kernel)) ggX7_task_X2_addTask
theorem dX7_task_0 : decode cX7_task 0 = .ok (.iload_n 1, 1) := by decide +kernel
theorem dX7_task_1 : decode cX7_task 1 = .ok (.invokestatic 62, 3) := by decide +kernel
theorem dX7_task_4 : decode cX7_task 4 = .ok (.ifCond .eq 15, 3) := by decide +kernel
theorem dX7_task_7 : decode cX7_task 7 = .ok (.aload_n 0, 1) := by decide +kernel
theorem dX7_task_8 : decode cX7_task 8 = .ok (.getfield 10, 3) := by decide +kernel
theorem dX7_task_11 : decode cX7_task 11 = .ok (.getfield 66, 3) := by decide +kernel
theorem dX7_task_14 : decode cX7_task 14 = .ok (.bipush 60, 2) := by decide +kernel
theorem dX7_task_16 : decode cX7_task 16 = .ok (.if_icmp .lt 5, 3) := by decide +kernel
theorem dX7_task_19 : decode cX7_task 19 = .ok (.iconst (-1), 1) := by decide +kernel
theorem dX7_task_20 : decode cX7_task 20 = .ok (.ireturn, 1) := by decide +kernel
theorem dX7_task_21 : decode cX7_task 21 = .ok (.aload_n 0, 1) := by decide +kernel
theorem dX7_task_22 : decode cX7_task 22 = .ok (.getfield 33, 3) := by decide +kernel
theorem dX7_task_25 : decode cX7_task 25 = .ok (.invokevirtual 69, 3) := by decide +kernel
theorem dX7_task_28 : decode cX7_task 28 = .ok (.aload_n 0, 1) := by decide +kernel
theorem dX7_task_29 : decode cX7_task 29 = .ok (.getfield 10, 3) := by decide +kernel
theorem dX7_task_32 : decode cX7_task 32 = .ok (.iload_n 1, 1) := by decide +kernel
theorem dX7_task_33 : decode cX7_task 33 = .ok (.invokevirtual 72, 3) := by decide +kernel
theorem dX7_task_36 : decode cX7_task 36 = .ok (.ireturn, 1) := by decide +kernel
set_option maxRecDepth 20000 in
theorem ggX7_weigh_X2_isTask : GoodIn wsX7_weigh wsX2_isTask := goodIn_r _ [8, 9, 62, 63, 64, 65, 66, 67, 68] (by decide +kernel) (by decide +kernel)
set_option maxRecDepth 20000 in
theorem gX7_weigh_X2_isTask : GoodIn wsX7_weigh (wsV RX7 76 RX2 yX2_isTask wsX2_isTask) := goodIn_app (goodIn_of _ (by decide +kernel)) ggX7_weigh_X2_isTask
set_option maxRecDepth 20000 in
theorem ggX7_weigh_X7_isWeight : GoodIn wsX7_weigh wsX7_isWeight := goodIn_r _ [13] (by decide +kernel) (by decide +kernel)
set_option maxRecDepth 20000 in
theorem gX7_weigh_X7_isWeight : GoodIn wsX7_weigh (va_wsS RX7 62 yX7_isWeight wsX7_isWeight) := goodIn_app (goodIn_of _ (by decide +kernel)) ggX7_weigh_X7_isWeight
set_option maxRecDepth 20000 in
theorem ggX7_weigh_X3_hold : GoodIn wsX7_weigh wsX3_hold := goodIn_r _ [18, 19, 20, 21, 22, 7, 23, 24, 25, 26, 27, 28, 29, 30, 31, 32, 9, 33, 69, 70, 71, 72, 62, 63, 64, 65, 66, 67, 68] (by decide +kernel) (by decide +kernel)
set_option maxRecDepth 20000 in
theorem gX7_weigh_X3_hold : GoodIn wsX7_weigh (wsV RX7 79 RX3 yX3_hold wsX3_hold) := goodIn_app (goodIn_of _ (by decide +kernel)) ggX7_weigh_X3_hold
set_option maxRecDepth 20000 in
theorem ggX7_weigh_X3_keep : GoodIn wsX7_weigh wsX3_keep := goodIn_r _ [37, 38, 39, 19, 40, 41, 7, 42, 43, 44, 45, 46, 47, 48, 49, 50, 51, 52, 24, 53, 29, 30, 31, 32, 69, 70, 71, 72, 62, 63, 64, 65, 66, 67, 68] (by decide +kernel) (by decide +kernel)
set_option maxRecDepth 20000 in
theorem gX7_weigh_X3_keep : GoodIn wsX7_weigh (wsV RX7 87 RX3 yX3_keep wsX3_keep) := goodIn_app (goodIn_of _ (by decide +kernel)) ggX7_weigh_X3_keep
theorem dX7_weigh_0 : decode cX7_weigh 0 = .ok (.aload_n 0, 1) := by decide +kernel
theorem dX7_weigh_1 : decode cX7_weigh 1 = .ok (.getfield 10, 3) := by decide +kernel
theorem dX7_weigh_4 : decode cX7_weigh 4 = .ok (.iload_n 1, 1) := by decide +kernel
theorem dX7_weigh_5 : decode cX7_weigh 5 = .ok (.invokevirtual 76, 3) := by decide +kernel
theorem dX7_weigh_8 : decode cX7_weigh 8 = .ok (.ifCond .eq 10, 3) := by decide +kernel
theorem dX7_weigh_11 : decode cX7_weigh 11 = .ok (.iload_n 2, 1) := by decide +kernel
theorem dX7_weigh_12 : decode cX7_weigh 12 = .ok (.invokestatic 62, 3) := by decide +kernel
theorem dX7_weigh_15 : decode cX7_weigh 15 = .ok (.ifCond .ne 5, 3) := by decide +kernel
theorem dX7_weigh_18 : decode cX7_weigh 18 = .ok (.iconst 0, 1) := by decide +kernel
theorem dX7_weigh_19 : decode cX7_weigh 19 = .ok (.ireturn, 1) := by decide +kernel
theorem dX7_weigh_20 : decode cX7_weigh 20 = .ok (.aload_n 0, 1) := by decide +kernel
theorem dX7_weigh_21 : decode cX7_weigh 21 = .ok (.getfield 33, 3) := by decide +kernel
theorem dX7_weigh_24 : decode cX7_weigh 24 = .ok (.aload_n 0, 1) := by decide +kernel
theorem dX7_weigh_25 : decode cX7_weigh 25 = .ok (.getfield 10, 3) := by decide +kernel
theorem dX7_weigh_28 : decode cX7_weigh 28 = .ok (.invokevirtual 79, 3) := by decide +kernel
theorem dX7_weigh_31 : decode cX7_weigh 31 = .ok (.aload_n 0, 1) := by decide +kernel
theorem dX7_weigh_32 : decode cX7_weigh 32 = .ok (.getfield 10, 3) := by decide +kernel
theorem dX7_weigh_35 : decode cX7_weigh 35 = .ok (.getfield 83, 3) := by decide +kernel
theorem dX7_weigh_38 : decode cX7_weigh 38 = .ok (.iload_n 1, 1) := by decide +kernel
theorem dX7_weigh_39 : decode cX7_weigh 39 = .ok (.iload_n 2, 1) := by decide +kernel
theorem dX7_weigh_40 : decode cX7_weigh 40 = .ok (.iastore, 1) := by decide +kernel
theorem dX7_weigh_41 : decode cX7_weigh 41 = .ok (.aload_n 0, 1) := by decide +kernel
theorem dX7_weigh_42 : decode cX7_weigh 42 = .ok (.getfield 33, 3) := by decide +kernel
theorem dX7_weigh_45 : decode cX7_weigh 45 = .ok (.invokevirtual 87, 3) := by decide +kernel
theorem dX7_weigh_48 : decode cX7_weigh 48 = .ok (.iconst 1, 1) := by decide +kernel
theorem dX7_weigh_49 : decode cX7_weigh 49 = .ok (.ireturn, 1) := by decide +kernel
set_option maxRecDepth 20000 in
theorem ggX7_tie_X2_areTasks : GoodIn wsX7_tie wsX2_areTasks := goodIn_r _ [7, 8, 9, 10, 6, 11, 12, 150, 151, 152, 153, 154, 155, 156] (by decide +kernel) (by decide +kernel)
set_option maxRecDepth 20000 in
theorem gX7_tie_X2_areTasks : GoodIn wsX7_tie (wsV RX7 90 RX2 yX2_areTasks wsX2_areTasks) := goodIn_app (goodIn_of _ (by decide +kernel)) ggX7_tie_X2_areTasks
set_option maxRecDepth 20000 in
theorem ggX7_tie_X3_hold : GoodIn wsX7_tie wsX3_hold := goodIn_r _ [17, 18, 19, 20, 21, 6, 22, 23, 24, 25, 26, 27, 28, 29, 30, 31, 12, 32, 157, 158, 159, 160, 150, 151, 152, 153, 154, 155, 156] (by decide +kernel) (by decide +kernel)
set_option maxRecDepth 20000 in
theorem gX7_tie_X3_hold : GoodIn wsX7_tie (wsV RX7 79 RX3 yX3_hold wsX3_hold) := goodIn_app (goodIn_of _ (by decide +kernel)) ggX7_tie_X3_hold
set_option maxRecDepth 20000 in
theorem ggX7_tie_X7_bring : GoodIn wsX7_tie wsX7_bring := goodIn_r _ [37, 1, 38, 39, 40, 41, 42, 43, 6, 44, 28, 45, 36, 46, 47, 48, 49, 50, 30, 51, 52, 53, 54, 55, 56, 57, 58, 59, 60, 31, 29, 61, 62, 63, 64, 65, 66, 67, 68, 69, 70, 71, 72, 73, 74, 75, 76, 77, 78, 79, 80, 81, 82, 83, 84, 85, 86, 87, 88, 89, 90, 91, 92, 93, 94, 95, 96, 97, 98, 99, 100, 101, 102, 103, 104, 105, 106, 107, 108, 109, 110, 111, 112, 113, 114, 32, 142, 143, 144, 145, 146, 147, 148, 149, 150, 151, 152, 153, 154, 155, 156, 161, 162, 163, 164, 165] (by decide +kernel) (by decide +kernel)
set_option maxRecDepth 20000 in
theorem gX7_tie_X7_bring : GoodIn wsX7_tie (wsV RX7 94 RX7 yX7_bring wsX7_bring) := goodIn_app (goodIn_of _ (by decide +kernel)) ggX7_tie_X7_bring
set_option maxRecDepth 20000 in
theorem ggX7_tie_X7_settle : GoodIn wsX7_tie wsX7_settle := goodIn_r _ [118, 1, 2, 119, 120, 121, 122, 123, 6, 124, 12, 30, 125, 126, 127, 16, 128, 129, 130, 18, 131, 132, 133, 134, 68, 69, 70, 135, 136, 137, 138, 139, 140, 23, 141, 28, 29, 31, 142, 143, 144, 145, 146, 147, 148, 149, 157, 158, 159, 160, 150, 151, 152, 153, 154, 155, 156] (by decide +kernel) (by decide +kernel)
set_option maxRecDepth 20000 in
theorem gX7_tie_X7_settle : GoodIn wsX7_tie (wsV RX7 98 RX7 yX7_settle wsX7_settle) := goodIn_app (goodIn_of _ (by decide +kernel)) ggX7_tie_X7_settle
theorem dX7_tie_0 : decode cX7_tie 0 = .ok (.aload_n 0, 1) := by decide +kernel
theorem dX7_tie_1 : decode cX7_tie 1 = .ok (.getfield 10, 3) := by decide +kernel
theorem dX7_tie_4 : decode cX7_tie 4 = .ok (.iload_n 1, 1) := by decide +kernel
theorem dX7_tie_5 : decode cX7_tie 5 = .ok (.iload_n 2, 1) := by decide +kernel
theorem dX7_tie_6 : decode cX7_tie 6 = .ok (.invokevirtual 90, 3) := by decide +kernel
theorem dX7_tie_9 : decode cX7_tie 9 = .ok (.ifCond .ne 5, 3) := by decide +kernel
theorem dX7_tie_12 : decode cX7_tie 12 = .ok (.iconst (-1), 1) := by decide +kernel
theorem dX7_tie_13 : decode cX7_tie 13 = .ok (.ireturn, 1) := by decide +kernel
theorem dX7_tie_14 : decode cX7_tie 14 = .ok (.aload_n 0, 1) := by decide +kernel
theorem dX7_tie_15 : decode cX7_tie 15 = .ok (.getfield 33, 3) := by decide +kernel
theorem dX7_tie_18 : decode cX7_tie 18 = .ok (.aload_n 0, 1) := by decide +kernel
theorem dX7_tie_19 : decode cX7_tie 19 = .ok (.getfield 10, 3) := by decide +kernel
theorem dX7_tie_22 : decode cX7_tie 22 = .ok (.invokevirtual 79, 3) := by decide +kernel
theorem dX7_tie_25 : decode cX7_tie 25 = .ok (.aload_n 0, 1) := by decide +kernel
theorem dX7_tie_26 : decode cX7_tie 26 = .ok (.iload_n 1, 1) := by decide +kernel
theorem dX7_tie_27 : decode cX7_tie 27 = .ok (.iload_n 2, 1) := by decide +kernel
theorem dX7_tie_28 : decode cX7_tie 28 = .ok (.invokevirtual 94, 3) := by decide +kernel
theorem dX7_tie_31 : decode cX7_tie 31 = .ok (.istore_n 3, 1) := by decide +kernel
theorem dX7_tie_32 : decode cX7_tie 32 = .ok (.aload_n 0, 1) := by decide +kernel
theorem dX7_tie_33 : decode cX7_tie 33 = .ok (.iload_n 3, 1) := by decide +kernel
theorem dX7_tie_34 : decode cX7_tie 34 = .ok (.invokevirtual 98, 3) := by decide +kernel
theorem dX7_tie_37 : decode cX7_tie 37 = .ok (.iload_n 3, 1) := by decide +kernel
theorem dX7_tie_38 : decode cX7_tie 38 = .ok (.ireturn, 1) := by decide +kernel
set_option maxRecDepth 20000 in
theorem ggX7_untie_X2_areTasks : GoodIn wsX7_untie wsX2_areTasks := goodIn_r _ [7, 8, 9, 10, 6, 11, 12, 75, 76, 77, 78, 79, 80, 81] (by decide +kernel) (by decide +kernel)
set_option maxRecDepth 20000 in
theorem gX7_untie_X2_areTasks : GoodIn wsX7_untie (wsV RX7 90 RX2 yX2_areTasks wsX2_areTasks) := goodIn_app (goodIn_of _ (by decide +kernel)) ggX7_untie_X2_areTasks
set_option maxRecDepth 20000 in
theorem ggX7_untie_X2_hasTie : GoodIn wsX7_untie wsX2_hasTie := goodIn_r _ [16, 17, 18, 19, 20, 75, 76, 77, 78, 79, 80, 81] (by decide +kernel) (by decide +kernel)
set_option maxRecDepth 20000 in
theorem gX7_untie_X2_hasTie : GoodIn wsX7_untie (wsV RX7 102 RX2 yX2_hasTie wsX2_hasTie) := goodIn_app (goodIn_of _ (by decide +kernel)) ggX7_untie_X2_hasTie
set_option maxRecDepth 20000 in
theorem ggX7_untie_X3_hold : GoodIn wsX7_untie wsX3_hold := goodIn_r _ [25, 26, 27, 28, 29, 6, 30, 31, 32, 33, 34, 35, 17, 36, 37, 38, 12, 39, 82, 83, 84, 85, 75, 76, 77, 78, 79, 80, 81] (by decide +kernel) (by decide +kernel)
set_option maxRecDepth 20000 in
theorem gX7_untie_X3_hold : GoodIn wsX7_untie (wsV RX7 79 RX3 yX3_hold wsX3_hold) := goodIn_app (goodIn_of _ (by decide +kernel)) ggX7_untie_X3_hold
set_option maxRecDepth 20000 in
theorem ggX7_untie_X2_dropTie : GoodIn wsX7_untie wsX2_dropTie := goodIn_r _ [43, 17, 44, 36, 39, 45, 19, 46, 75, 76, 77, 78, 79, 80, 81] (by decide +kernel) (by decide +kernel)
set_option maxRecDepth 20000 in
theorem gX7_untie_X2_dropTie : GoodIn wsX7_untie (wsV RX7 105 RX2 yX2_dropTie wsX2_dropTie) := goodIn_app (goodIn_of _ (by decide +kernel)) ggX7_untie_X2_dropTie
set_option maxRecDepth 20000 in
theorem ggX7_untie_X3_keep : GoodIn wsX7_untie wsX3_keep := goodIn_r _ [50, 51, 52, 26, 53, 54, 6, 55, 56, 57, 58, 59, 60, 61, 62, 63, 64, 65, 31, 66, 17, 36, 37, 38, 82, 83, 84, 85, 75, 76, 77, 78, 79, 80, 81] (by decide +kernel) (by decide +kernel)
set_option maxRecDepth 20000 in
theorem gX7_untie_X3_keep : GoodIn wsX7_untie (wsV RX7 87 RX3 yX3_keep wsX3_keep) := goodIn_app (goodIn_of _ (by decide +kernel)) ggX7_untie_X3_keep
theorem dX7_untie_0 : decode cX7_untie 0 = .ok (.aload_n 0, 1) := by decide +kernel
theorem dX7_untie_1 : decode cX7_untie 1 = .ok (.getfield 10, 3) := by decide +kernel
theorem dX7_untie_4 : decode cX7_untie 4 = .ok (.iload_n 1, 1) := by decide +kernel
theorem dX7_untie_5 : decode cX7_untie 5 = .ok (.iload_n 2, 1) := by decide +kernel
theorem dX7_untie_6 : decode cX7_untie 6 = .ok (.invokevirtual 90, 3) := by decide +kernel
theorem dX7_untie_9 : decode cX7_untie 9 = .ok (.ifCond .eq 15, 3) := by decide +kernel
theorem dX7_untie_12 : decode cX7_untie 12 = .ok (.aload_n 0, 1) := by decide +kernel
theorem dX7_untie_13 : decode cX7_untie 13 = .ok (.getfield 10, 3) := by decide +kernel
theorem dX7_untie_16 : decode cX7_untie 16 = .ok (.iload_n 1, 1) := by decide +kernel
theorem dX7_untie_17 : decode cX7_untie 17 = .ok (.iload_n 2, 1) := by decide +kernel
theorem dX7_untie_18 : decode cX7_untie 18 = .ok (.invokevirtual 102, 3) := by decide +kernel
theorem dX7_untie_21 : decode cX7_untie 21 = .ok (.ifCond .ne 5, 3) := by decide +kernel
theorem dX7_untie_24 : decode cX7_untie 24 = .ok (.iconst 0, 1) := by decide +kernel
theorem dX7_untie_25 : decode cX7_untie 25 = .ok (.ireturn, 1) := by decide +kernel
theorem dX7_untie_26 : decode cX7_untie 26 = .ok (.aload_n 0, 1) := by decide +kernel
theorem dX7_untie_27 : decode cX7_untie 27 = .ok (.getfield 33, 3) := by decide +kernel
theorem dX7_untie_30 : decode cX7_untie 30 = .ok (.aload_n 0, 1) := by decide +kernel
theorem dX7_untie_31 : decode cX7_untie 31 = .ok (.getfield 10, 3) := by decide +kernel
theorem dX7_untie_34 : decode cX7_untie 34 = .ok (.invokevirtual 79, 3) := by decide +kernel
theorem dX7_untie_37 : decode cX7_untie 37 = .ok (.aload_n 0, 1) := by decide +kernel
theorem dX7_untie_38 : decode cX7_untie 38 = .ok (.getfield 10, 3) := by decide +kernel
theorem dX7_untie_41 : decode cX7_untie 41 = .ok (.iload_n 1, 1) := by decide +kernel
theorem dX7_untie_42 : decode cX7_untie 42 = .ok (.iload_n 2, 1) := by decide +kernel
theorem dX7_untie_43 : decode cX7_untie 43 = .ok (.invokevirtual 105, 3) := by decide +kernel
theorem dX7_untie_46 : decode cX7_untie 46 = .ok (.aload_n 0, 1) := by decide +kernel
theorem dX7_untie_47 : decode cX7_untie 47 = .ok (.getfield 33, 3) := by decide +kernel
theorem dX7_untie_50 : decode cX7_untie 50 = .ok (.invokevirtual 87, 3) := by decide +kernel
theorem dX7_untie_53 : decode cX7_untie 53 = .ok (.iconst 1, 1) := by decide +kernel
theorem dX7_untie_54 : decode cX7_untie 54 = .ok (.ireturn, 1) := by decide +kernel
set_option maxRecDepth 20000 in
theorem ggX7_gather_X2_areTasks : GoodIn wsX7_gather wsX2_areTasks := goodIn_r _ [8, 9, 10, 11, 7, 12, 13, 33, 34, 35, 36, 37, 38, 39] (by decide +kernel) (by decide +kernel)
set_option maxRecDepth 20000 in
theorem gX7_gather_X2_areTasks : GoodIn wsX7_gather (wsV RX7 90 RX2 yX2_areTasks wsX2_areTasks) := goodIn_app (goodIn_of _ (by decide +kernel)) ggX7_gather_X2_areTasks
set_option maxRecDepth 20000 in
theorem ggX7_gather_X0_add : GoodIn wsX7_gather wsX0_add := goodIn_r _ [18, 19, 20, 21, 30, 31, 32] (by decide +kernel) (by decide +kernel)
set_option maxRecDepth 20000 in
theorem gX7_gather_X0_add : GoodIn wsX7_gather (wsV RX7 112 RX0 yX0_add wsX0_add) := goodIn_app (goodIn_of _ (by decide +kernel)) ggX7_gather_X0_add
theorem dX7_gather_0 : decode cX7_gather 0 = .ok (.aload_n 0, 1) := by decide +kernel
theorem dX7_gather_1 : decode cX7_gather 1 = .ok (.getfield 10, 3) := by decide +kernel
theorem dX7_gather_4 : decode cX7_gather 4 = .ok (.iload_n 1, 1) := by decide +kernel
theorem dX7_gather_5 : decode cX7_gather 5 = .ok (.iload_n 2, 1) := by decide +kernel
theorem dX7_gather_6 : decode cX7_gather 6 = .ok (.invokevirtual 90, 3) := by decide +kernel
theorem dX7_gather_9 : decode cX7_gather 9 = .ok (.ifCond .eq 15, 3) := by decide +kernel
theorem dX7_gather_12 : decode cX7_gather 12 = .ok (.aload_n 0, 1) := by decide +kernel
theorem dX7_gather_13 : decode cX7_gather 13 = .ok (.getfield 26, 3) := by decide +kernel
theorem dX7_gather_16 : decode cX7_gather 16 = .ok (.getfield 109, 3) := by decide +kernel
theorem dX7_gather_19 : decode cX7_gather 19 = .ok (.bipush 100, 2) := by decide +kernel
theorem dX7_gather_21 : decode cX7_gather 21 = .ok (.if_icmp .lt 5, 3) := by decide +kernel
theorem dX7_gather_24 : decode cX7_gather 24 = .ok (.iconst (-1), 1) := by decide +kernel
theorem dX7_gather_25 : decode cX7_gather 25 = .ok (.ireturn, 1) := by decide +kernel
theorem dX7_gather_26 : decode cX7_gather 26 = .ok (.aload_n 0, 1) := by decide +kernel
theorem dX7_gather_27 : decode cX7_gather 27 = .ok (.getfield 26, 3) := by decide +kernel
theorem dX7_gather_30 : decode cX7_gather 30 = .ok (.iload_n 1, 1) := by decide +kernel
theorem dX7_gather_31 : decode cX7_gather 31 = .ok (.iload_n 2, 1) := by decide +kernel
theorem dX7_gather_32 : decode cX7_gather 32 = .ok (.invokevirtual 112, 3) := by decide +kernel
theorem dX7_gather_35 : decode cX7_gather 35 = .ok (.ireturn, 1) := by decide +kernel
set_option maxRecDepth 20000 in
theorem ggX7_commit_X3_hold : GoodIn wsX7_commit wsX3_hold := goodIn_r _ [10, 11, 12, 13, 14, 15, 16, 17, 18, 19, 20, 21, 22, 23, 24, 25, 26, 27, 154, 155, 156, 157, 158, 159, 160, 161, 162, 163, 164] (by decide +kernel) (by decide +kernel)
set_option maxRecDepth 20000 in
theorem gX7_commit_X3_hold : GoodIn wsX7_commit (wsV RX7 79 RX3 yX3_hold wsX3_hold) := goodIn_app (goodIn_of _ (by decide +kernel)) ggX7_commit_X3_hold
set_option maxRecDepth 20000 in
theorem ggX7_commit_X7_bringBundle : GoodIn wsX7_commit wsX7_bringBundle := goodIn_r _ [32, 3, 4, 33, 34, 35, 36, 37, 31, 38, 2, 39, 40, 41, 42, 43, 44, 15, 45, 22, 46, 47, 48, 49, 50, 51, 24, 52, 53, 54, 55, 56, 57, 58, 59, 60, 61, 25, 23, 62, 63, 64, 65, 66, 67, 68, 69, 70, 71, 72, 73, 74, 75, 76, 77, 78, 79, 80, 81, 82, 83, 84, 85, 86, 87, 88, 89, 90, 91, 92, 93, 94, 95, 96, 97, 98, 99, 100, 101, 102, 103, 104, 105, 106, 107, 108, 109, 110, 111, 112, 113, 114, 115, 27, 143, 144, 145, 146, 147, 148, 149, 150, 151, 152, 153, 158, 159, 160, 161, 162, 163, 164, 165, 166, 167, 168, 169] (by decide +kernel) (by decide +kernel)
set_option maxRecDepth 20000 in
theorem gX7_commit_X7_bringBundle : GoodIn wsX7_commit (wsV RX7 115 RX7 yX7_bringBundle wsX7_bringBundle) := goodIn_app (goodIn_of _ (by decide +kernel)) ggX7_commit_X7_bringBundle
set_option maxRecDepth 20000 in
theorem ggX7_commit_X2_copyFrom : GoodIn wsX7_commit wsX2_copyFrom := goodIn_r _ [16, 17, 18, 19, 20, 21, 22, 23, 24, 25, 26, 27, 158, 159, 160, 161, 162, 163, 164] (by decide +kernel) (by decide +kernel)
set_option maxRecDepth 20000 in
theorem gX7_commit_X2_copyFrom : GoodIn wsX7_commit (wsV RX7 122 RX2 yX2_copyFrom wsX2_copyFrom) := goodIn_app (goodIn_of _ (by decide +kernel)) ggX7_commit_X2_copyFrom
set_option maxRecDepth 20000 in
theorem ggX7_commit_X7_settle : GoodIn wsX7_commit wsX7_settle := goodIn_r _ [120, 2, 1, 5, 121, 122, 123, 124, 15, 125, 26, 24, 126, 127, 128, 9, 129, 130, 131, 11, 132, 133, 134, 135, 69, 70, 71, 136, 137, 138, 139, 140, 141, 17, 142, 22, 23, 25, 143, 144, 145, 146, 147, 148, 149, 150, 154, 155, 156, 157, 158, 159, 160, 161, 162, 163, 164] (by decide +kernel) (by decide +kernel)
set_option maxRecDepth 20000 in
theorem gX7_commit_X7_settle : GoodIn wsX7_commit (wsV RX7 98 RX7 yX7_settle wsX7_settle) := goodIn_app (goodIn_of _ (by decide +kernel)) ggX7_commit_X7_settle
theorem dX7_commit_0 : decode cX7_commit 0 = .ok (.aload_n 0, 1) := by decide +kernel
theorem dX7_commit_1 : decode cX7_commit 1 = .ok (.getfield 33, 3) := by decide +kernel
theorem dX7_commit_4 : decode cX7_commit 4 = .ok (.aload_n 0, 1) := by decide +kernel
theorem dX7_commit_5 : decode cX7_commit 5 = .ok (.getfield 10, 3) := by decide +kernel
theorem dX7_commit_8 : decode cX7_commit 8 = .ok (.invokevirtual 79, 3) := by decide +kernel
theorem dX7_commit_11 : decode cX7_commit 11 = .ok (.aload_n 0, 1) := by decide +kernel
theorem dX7_commit_12 : decode cX7_commit 12 = .ok (.invokevirtual 115, 3) := by decide +kernel
theorem dX7_commit_15 : decode cX7_commit 15 = .ok (.istore_n 1, 1) := by decide +kernel
theorem dX7_commit_16 : decode cX7_commit 16 = .ok (.aload_n 0, 1) := by decide +kernel
theorem dX7_commit_17 : decode cX7_commit 17 = .ok (.getfield 26, 3) := by decide +kernel
theorem dX7_commit_20 : decode cX7_commit 20 = .ok (.iconst 0, 1) := by decide +kernel
theorem dX7_commit_21 : decode cX7_commit 21 = .ok (.putfield 109, 3) := by decide +kernel
theorem dX7_commit_24 : decode cX7_commit 24 = .ok (.iload_n 1, 1) := by decide +kernel
theorem dX7_commit_25 : decode cX7_commit 25 = .ok (.ifCond .ge 17, 3) := by decide +kernel
theorem dX7_commit_28 : decode cX7_commit 28 = .ok (.aload_n 0, 1) := by decide +kernel
theorem dX7_commit_29 : decode cX7_commit 29 = .ok (.getfield 10, 3) := by decide +kernel
theorem dX7_commit_32 : decode cX7_commit 32 = .ok (.aload_n 0, 1) := by decide +kernel
theorem dX7_commit_33 : decode cX7_commit 33 = .ok (.getfield 33, 3) := by decide +kernel
theorem dX7_commit_36 : decode cX7_commit 36 = .ok (.getfield 119, 3) := by decide +kernel
theorem dX7_commit_39 : decode cX7_commit 39 = .ok (.invokevirtual 122, 3) := by decide +kernel
theorem dX7_commit_42 : decode cX7_commit 42 = .ok (.aload_n 0, 1) := by decide +kernel
theorem dX7_commit_43 : decode cX7_commit 43 = .ok (.iload_n 1, 1) := by decide +kernel
theorem dX7_commit_44 : decode cX7_commit 44 = .ok (.invokevirtual 98, 3) := by decide +kernel
theorem dX7_commit_47 : decode cX7_commit 47 = .ok (.iload_n 1, 1) := by decide +kernel
theorem dX7_commit_48 : decode cX7_commit 48 = .ok (.ireturn, 1) := by decide +kernel
set_option maxRecDepth 20000 in
theorem ggX7_undo_X3_takeBack : GoodIn wsX7_undo wsX3_takeBack := goodIn_r _ [7, 8, 9, 10, 11, 12, 13, 14, 15, 16, 17, 18, 19, 20, 21, 22, 23, 24, 25, 26, 35, 36, 37, 38, 39, 40, 41, 42, 43, 44, 45] (by decide +kernel) (by decide +kernel)
set_option maxRecDepth 20000 in
theorem gX7_undo_X3_takeBack : GoodIn wsX7_undo (wsV RX7 125 RX3 yX3_takeBack wsX3_takeBack) := goodIn_app (goodIn_of _ (by decide +kernel)) ggX7_undo_X3_takeBack
theorem dX7_undo_0 : decode cX7_undo 0 = .ok (.aload_n 0, 1) := by decide +kernel
theorem dX7_undo_1 : decode cX7_undo 1 = .ok (.getfield 33, 3) := by decide +kernel
theorem dX7_undo_4 : decode cX7_undo 4 = .ok (.aload_n 0, 1) := by decide +kernel
theorem dX7_undo_5 : decode cX7_undo 5 = .ok (.getfield 10, 3) := by decide +kernel
theorem dX7_undo_8 : decode cX7_undo 8 = .ok (.invokevirtual 125, 3) := by decide +kernel
theorem dX7_undo_11 : decode cX7_undo 11 = .ok (.ifCond .eq 7, 3) := by decide +kernel
theorem dX7_undo_14 : decode cX7_undo 14 = .ok (.iconst 1, 1) := by decide +kernel
theorem dX7_undo_15 : decode cX7_undo 15 = .ok (.goto 4, 3) := by decide +kernel
theorem dX7_undo_18 : decode cX7_undo 18 = .ok (.iconst 0, 1) := by decide +kernel
theorem dX7_undo_19 : decode cX7_undo 19 = .ok (.ireturn, 1) := by decide +kernel
set_option maxRecDepth 20000 in
theorem ggX7_place_X2_isTask : GoodIn wsX7_place wsX2_isTask := goodIn_r _ [7, 8, 17, 18, 19, 20, 21, 22, 23] (by decide +kernel) (by decide +kernel)
set_option maxRecDepth 20000 in
theorem gX7_place_X2_isTask : GoodIn wsX7_place (wsV RX7 76 RX2 yX2_isTask wsX2_isTask) := goodIn_app (goodIn_of _ (by decide +kernel)) ggX7_place_X2_isTask
theorem dX7_place_0 : decode cX7_place 0 = .ok (.aload_n 0, 1) := by decide +kernel
theorem dX7_place_1 : decode cX7_place 1 = .ok (.getfield 10, 3) := by decide +kernel
theorem dX7_place_4 : decode cX7_place 4 = .ok (.iload_n 1, 1) := by decide +kernel
