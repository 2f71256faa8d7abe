theorem dX0_init_0 : decode cX0_init 0 = .ok (.aload_n 0, 1) := by decide +kernel
theorem dX0_init_1 : decode cX0_init 1 = .ok (.invokespecial 3, 3) := by decide +kernel
theorem dX0_init_4 : decode cX0_init 4 = .ok (.aload_n 0, 1) := by decide +kernel
theorem dX0_init_5 : decode cX0_init 5 = .ok (.bipush 100, 2) := by decide +kernel
theorem dX0_init_7 : decode cX0_init 7 = .ok (.newarray .int, 2) := by decide +kernel
theorem dX0_init_9 : decode cX0_init 9 = .ok (.putfield 9, 3) := by decide +kernel
theorem dX0_init_12 : decode cX0_init 12 = .ok (.aload_n 0, 1) := by decide +kernel
theorem dX0_init_13 : decode cX0_init 13 = .ok (.bipush 100, 2) := by decide +kernel
theorem dX0_init_15 : decode cX0_init 15 = .ok (.newarray .int, 2) := by decide +kernel
theorem dX0_init_17 : decode cX0_init 17 = .ok (.putfield 15, 3) := by decide +kernel
theorem dX0_init_20 : decode cX0_init 20 = .ok (.return_, 1) := by decide +kernel
theorem dX0_add_0 : decode cX0_add 0 = .ok (.aload_n 0, 1) := by decide +kernel
theorem dX0_add_1 : decode cX0_add 1 = .ok (.getfield 9, 3) := by decide +kernel
theorem dX0_add_4 : decode cX0_add 4 = .ok (.aload_n 0, 1) := by decide +kernel
theorem dX0_add_5 : decode cX0_add 5 = .ok (.getfield 18, 3) := by decide +kernel
theorem dX0_add_8 : decode cX0_add 8 = .ok (.iload_n 1, 1) := by decide +kernel
theorem dX0_add_9 : decode cX0_add 9 = .ok (.iastore, 1) := by decide +kernel
theorem dX0_add_10 : decode cX0_add 10 = .ok (.aload_n 0, 1) := by decide +kernel
theorem dX0_add_11 : decode cX0_add 11 = .ok (.getfield 15, 3) := by decide +kernel
theorem dX0_add_14 : decode cX0_add 14 = .ok (.aload_n 0, 1) := by decide +kernel
theorem dX0_add_15 : decode cX0_add 15 = .ok (.getfield 18, 3) := by decide +kernel
theorem dX0_add_18 : decode cX0_add 18 = .ok (.iload_n 2, 1) := by decide +kernel
theorem dX0_add_19 : decode cX0_add 19 = .ok (.iastore, 1) := by decide +kernel
theorem dX0_add_20 : decode cX0_add 20 = .ok (.aload_n 0, 1) := by decide +kernel
theorem dX0_add_21 : decode cX0_add 21 = .ok (.dup, 1) := by decide +kernel
theorem dX0_add_22 : decode cX0_add 22 = .ok (.getfield 18, 3) := by decide +kernel
theorem dX0_add_25 : decode cX0_add 25 = .ok (.iconst 1, 1) := by decide +kernel
theorem dX0_add_26 : decode cX0_add 26 = .ok (.iadd, 1) := by decide +kernel
theorem dX0_add_27 : decode cX0_add 27 = .ok (.putfield 18, 3) := by decide +kernel
theorem dX0_add_30 : decode cX0_add 30 = .ok (.aload_n 0, 1) := by decide +kernel
theorem dX0_add_31 : decode cX0_add 31 = .ok (.getfield 18, 3) := by decide +kernel
theorem dX0_add_34 : decode cX0_add 34 = .ok (.ireturn, 1) := by decide +kernel
theorem dX1_init_0 : decode cX1_init 0 = .ok (.aload_n 0, 1) := by decide +kernel
theorem dX1_init_1 : decode cX1_init 1 = .ok (.invokespecial 3, 3) := by decide +kernel
theorem dX1_init_4 : decode cX1_init 4 = .ok (.aload_n 0, 1) := by decide +kernel
theorem dX1_init_5 : decode cX1_init 5 = .ok (.bipush 60, 2) := by decide +kernel
theorem dX1_init_7 : decode cX1_init 7 = .ok (.newarray .int, 2) := by decide +kernel
theorem dX1_init_9 : decode cX1_init 9 = .ok (.putfield 9, 3) := by decide +kernel
theorem dX1_init_12 : decode cX1_init 12 = .ok (.return_, 1) := by decide +kernel
set_option maxRecDepth 20000 in
theorem ggX1_mend_X2_reaching : GoodIn wsX1_mend wsX2_reaching := goodIn_r _ [7, 8, 9, 10, 11, 12, 13, 36, 37, 38, 39, 40, 41, 42] (by decide +kernel) (by decide +kernel)
set_option maxRecDepth 20000 in
theorem gX1_mend_X2_reaching : GoodIn wsX1_mend (wsV RX1 20 RX2 yX2_reaching wsX2_reaching) := goodIn_app (goodIn_of _ (by decide +kernel)) ggX1_mend_X2_reaching
set_option maxRecDepth 20000 in
theorem ggX1_mend_X2_reachedFrom : GoodIn wsX1_mend wsX2_reachedFrom := goodIn_r _ [17, 8, 11, 12, 13, 18, 19, 20, 6, 21, 9, 22, 36, 37, 38, 39, 40, 41, 42] (by decide +kernel) (by decide +kernel)
set_option maxRecDepth 20000 in
theorem gX1_mend_X2_reachedFrom : GoodIn wsX1_mend (wsV RX1 24 RX2 yX2_reachedFrom wsX2_reachedFrom) := goodIn_app (goodIn_of _ (by decide +kernel)) ggX1_mend_X2_reachedFrom
set_option maxRecDepth 20000 in
theorem ggX1_mend_X1_line : GoodIn wsX1_mend wsX1_line := goodIn_r _ [27, 28, 29, 2, 30, 12, 31, 36, 37, 38, 39, 40, 41, 42, 43, 44] (by decide +kernel) (by decide +kernel)
set_option maxRecDepth 20000 in
theorem gX1_mend_X1_line : GoodIn wsX1_mend (wsV RX1 31 RX1 yX1_line wsX1_line) := goodIn_app (goodIn_of _ (by decide +kernel)) ggX1_mend_X1_line
set_option maxRecDepth 20000 in
theorem ggX1_mend_X1_deal : GoodIn wsX1_mend wsX1_deal := goodIn_r _ [35, 2, 28, 29, 1, 30, 12, 31, 43, 44, 36, 37, 38, 39, 40, 41, 42] (by decide +kernel) (by decide +kernel)
set_option maxRecDepth 20000 in
theorem gX1_mend_X1_deal : GoodIn wsX1_mend (wsV RX1 35 RX1 yX1_deal wsX1_deal) := goodIn_app (goodIn_of _ (by decide +kernel)) ggX1_mend_X1_deal
theorem dX1_mend_0 : decode cX1_mend 0 = .ok (.aload_n 1, 1) := by decide +kernel
theorem dX1_mend_1 : decode cX1_mend 1 = .ok (.getfield 15, 3) := by decide +kernel
theorem dX1_mend_4 : decode cX1_mend 4 = .ok (.iload_n 3, 1) := by decide +kernel
theorem dX1_mend_5 : decode cX1_mend 5 = .ok (.iaload, 1) := by decide +kernel
theorem dX1_mend_6 : decode cX1_mend 6 = .ok (.istore 4, 2) := by decide +kernel
theorem dX1_mend_8 : decode cX1_mend 8 = .ok (.aload_n 1, 1) := by decide +kernel
theorem dX1_mend_9 : decode cX1_mend 9 = .ok (.getfield 15, 3) := by decide +kernel
theorem dX1_mend_12 : decode cX1_mend 12 = .ok (.iload_n 2, 1) := by decide +kernel
theorem dX1_mend_13 : decode cX1_mend 13 = .ok (.iaload, 1) := by decide +kernel
theorem dX1_mend_14 : decode cX1_mend 14 = .ok (.istore 5, 2) := by decide +kernel
theorem dX1_mend_16 : decode cX1_mend 16 = .ok (.iload 4, 2) := by decide +kernel
theorem dX1_mend_18 : decode cX1_mend 18 = .ok (.iload 5, 2) := by decide +kernel
theorem dX1_mend_20 : decode cX1_mend 20 = .ok (.if_icmp .le 4, 3) := by decide +kernel
theorem dX1_mend_23 : decode cX1_mend 23 = .ok (.return_, 1) := by decide +kernel
theorem dX1_mend_24 : decode cX1_mend 24 = .ok (.aload_n 1, 1) := by decide +kernel
theorem dX1_mend_25 : decode cX1_mend 25 = .ok (.iload_n 2, 1) := by decide +kernel
theorem dX1_mend_26 : decode cX1_mend 26 = .ok (.iload 4, 2) := by decide +kernel
theorem dX1_mend_28 : decode cX1_mend 28 = .ok (.invokevirtual 20, 3) := by decide +kernel
theorem dX1_mend_31 : decode cX1_mend 31 = .ok (.lstore 6, 2) := by decide +kernel
theorem dX1_mend_33 : decode cX1_mend 33 = .ok (.aload_n 1, 1) := by decide +kernel
theorem dX1_mend_34 : decode cX1_mend 34 = .ok (.iload_n 3, 1) := by decide +kernel
theorem dX1_mend_35 : decode cX1_mend 35 = .ok (.iload 5, 2) := by decide +kernel
theorem dX1_mend_37 : decode cX1_mend 37 = .ok (.invokevirtual 24, 3) := by decide +kernel
theorem dX1_mend_40 : decode cX1_mend 40 = .ok (.lstore 8, 2) := by decide +kernel
theorem dX1_mend_42 : decode cX1_mend 42 = .ok (.aload_n 0, 1) := by decide +kernel
theorem dX1_mend_43 : decode cX1_mend 43 = .ok (.iconst 0, 1) := by decide +kernel
theorem dX1_mend_44 : decode cX1_mend 44 = .ok (.putfield 27, 3) := by decide +kernel
theorem dX1_mend_47 : decode cX1_mend 47 = .ok (.aload_n 0, 1) := by decide +kernel
theorem dX1_mend_48 : decode cX1_mend 48 = .ok (.aload_n 1, 1) := by decide +kernel
theorem dX1_mend_49 : decode cX1_mend 49 = .ok (.lload 6, 2) := by decide +kernel
theorem dX1_mend_51 : decode cX1_mend 51 = .ok (.iload 4, 2) := by decide +kernel
theorem dX1_mend_53 : decode cX1_mend 53 = .ok (.iload 5, 2) := by decide +kernel
theorem dX1_mend_55 : decode cX1_mend 55 = .ok (.invokevirtual 31, 3) := by decide +kernel
theorem dX1_mend_58 : decode cX1_mend 58 = .ok (.aload_n 0, 1) := by decide +kernel
theorem dX1_mend_59 : decode cX1_mend 59 = .ok (.aload_n 1, 1) := by decide +kernel
theorem dX1_mend_60 : decode cX1_mend 60 = .ok (.lload 8, 2) := by decide +kernel
theorem dX1_mend_62 : decode cX1_mend 62 = .ok (.iload 4, 2) := by decide +kernel
theorem dX1_mend_64 : decode cX1_mend 64 = .ok (.iload 5, 2) := by decide +kernel
theorem dX1_mend_66 : decode cX1_mend 66 = .ok (.invokevirtual 31, 3) := by decide +kernel
theorem dX1_mend_69 : decode cX1_mend 69 = .ok (.aload_n 0, 1) := by decide +kernel
theorem dX1_mend_70 : decode cX1_mend 70 = .ok (.aload_n 1, 1) := by decide +kernel
theorem dX1_mend_71 : decode cX1_mend 71 = .ok (.lload 6, 2) := by decide +kernel
theorem dX1_mend_73 : decode cX1_mend 73 = .ok (.lload 8, 2) := by decide +kernel
theorem dX1_mend_75 : decode cX1_mend 75 = .ok (.lor, 1) := by decide +kernel
theorem dX1_mend_76 : decode cX1_mend 76 = .ok (.iload 4, 2) := by decide +kernel
theorem dX1_mend_78 : decode cX1_mend 78 = .ok (.iload 5, 2) := by decide +kernel
theorem dX1_mend_80 : decode cX1_mend 80 = .ok (.invokevirtual 35, 3) := by decide +kernel
theorem dX1_mend_83 : decode cX1_mend 83 = .ok (.return_, 1) := by decide +kernel
set_option maxRecDepth 20000 in
theorem ggX1_line_X7_has : GoodIn wsX1_line wsX7_has := goodIn_r _ [6] (by decide +kernel) (by decide +kernel)
set_option maxRecDepth 20000 in
theorem gX1_line_X7_has_n41 : GoodIn wsX1_line (wsX7_has) := ggX1_line_X7_has
theorem dX1_line_0 : decode cX1_line 0 = .ok (.iload 4, 2) := by decide +kernel
theorem dX1_line_2 : decode cX1_line 2 = .ok (.istore 6, 2) := by decide +kernel
theorem dX1_line_4 : decode cX1_line 4 = .ok (.iload 6, 2) := by decide +kernel
theorem dX1_line_6 : decode cX1_line 6 = .ok (.iload 5, 2) := by decide +kernel
theorem dX1_line_8 : decode cX1_line 8 = .ok (.if_icmp .gt 49, 3) := by decide +kernel
theorem dX1_line_11 : decode cX1_line 11 = .ok (.lload_n 2, 1) := by decide +kernel
theorem dX1_line_12 : decode cX1_line 12 = .ok (.aload_n 1, 1) := by decide +kernel
theorem dX1_line_13 : decode cX1_line 13 = .ok (.getfield 38, 3) := by decide +kernel
theorem dX1_line_16 : decode cX1_line 16 = .ok (.iload 6, 2) := by decide +kernel
theorem dX1_line_18 : decode cX1_line 18 = .ok (.iaload, 1) := by decide +kernel
theorem dX1_line_19 : decode cX1_line 19 = .ok (.invokestatic 41, 3) := by decide +kernel
theorem dX1_line_22 : decode cX1_line 22 = .ok (.ifCond .eq 29, 3) := by decide +kernel
theorem dX1_line_25 : decode cX1_line 25 = .ok (.aload_n 0, 1) := by decide +kernel
theorem dX1_line_26 : decode cX1_line 26 = .ok (.getfield 9, 3) := by decide +kernel
theorem dX1_line_29 : decode cX1_line 29 = .ok (.aload_n 0, 1) := by decide +kernel
theorem dX1_line_30 : decode cX1_line 30 = .ok (.getfield 27, 3) := by decide +kernel
theorem dX1_line_33 : decode cX1_line 33 = .ok (.aload_n 1, 1) := by decide +kernel
theorem dX1_line_34 : decode cX1_line 34 = .ok (.getfield 38, 3) := by decide +kernel
theorem dX1_line_37 : decode cX1_line 37 = .ok (.iload 6, 2) := by decide +kernel
theorem dX1_line_39 : decode cX1_line 39 = .ok (.iaload, 1) := by decide +kernel
theorem dX1_line_40 : decode cX1_line 40 = .ok (.iastore, 1) := by decide +kernel
theorem dX1_line_41 : decode cX1_line 41 = .ok (.aload_n 0, 1) := by decide +kernel
theorem dX1_line_42 : decode cX1_line 42 = .ok (.dup, 1) := by decide +kernel
theorem dX1_line_43 : decode cX1_line 43 = .ok (.getfield 27, 3) := by decide +kernel
theorem dX1_line_46 : decode cX1_line 46 = .ok (.iconst 1, 1) := by decide +kernel
theorem dX1_line_47 : decode cX1_line 47 = .ok (.iadd, 1) := by decide +kernel
theorem dX1_line_48 : decode cX1_line 48 = .ok (.putfield 27, 3) := by decide +kernel
theorem dX1_line_51 : decode cX1_line 51 = .ok (.iinc 6 1, 3) := by decide +kernel
theorem dX1_line_54 : decode cX1_line 54 = .ok (.goto (-50), 3) := by decide +kernel
theorem dX1_line_57 : decode cX1_line 57 = .ok (.return_, 1) := by decide +kernel
set_option maxRecDepth 20000 in
theorem ggX1_deal_X7_has : GoodIn wsX1_deal wsX7_has := goodIn_r _ [7] (by decide +kernel) (by decide +kernel)
set_option maxRecDepth 20000 in
theorem gX1_deal_X7_has_n41 : GoodIn wsX1_deal (wsX7_has) := ggX1_deal_X7_has
theorem dX1_deal_0 : decode cX1_deal 0 = .ok (.iconst 0, 1) := by decide +kernel
theorem dX1_deal_1 : decode cX1_deal 1 = .ok (.istore 6, 2) := by decide +kernel
theorem dX1_deal_3 : decode cX1_deal 3 = .ok (.iload 4, 2) := by decide +kernel
theorem dX1_deal_5 : decode cX1_deal 5 = .ok (.istore 7, 2) := by decide +kernel
theorem dX1_deal_7 : decode cX1_deal 7 = .ok (.iload 7, 2) := by decide +kernel
theorem dX1_deal_9 : decode cX1_deal 9 = .ok (.iload 5, 2) := by decide +kernel
theorem dX1_deal_11 : decode cX1_deal 11 = .ok (.if_icmp .gt 62, 3) := by decide +kernel
theorem dX1_deal_14 : decode cX1_deal 14 = .ok (.iload 6, 2) := by decide +kernel
theorem dX1_deal_16 : decode cX1_deal 16 = .ok (.aload_n 0, 1) := by decide +kernel
theorem dX1_deal_17 : decode cX1_deal 17 = .ok (.getfield 27, 3) := by decide +kernel
theorem dX1_deal_20 : decode cX1_deal 20 = .ok (.if_icmp .ge 53, 3) := by decide +kernel
theorem dX1_deal_23 : decode cX1_deal 23 = .ok (.lload_n 2, 1) := by decide +kernel
theorem dX1_deal_24 : decode cX1_deal 24 = .ok (.aload_n 1, 1) := by decide +kernel
theorem dX1_deal_25 : decode cX1_deal 25 = .ok (.getfield 38, 3) := by decide +kernel
theorem dX1_deal_28 : decode cX1_deal 28 = .ok (.iload 7, 2) := by decide +kernel
theorem dX1_deal_30 : decode cX1_deal 30 = .ok (.iaload, 1) := by decide +kernel
theorem dX1_deal_31 : decode cX1_deal 31 = .ok (.invokestatic 41, 3) := by decide +kernel
theorem dX1_deal_34 : decode cX1_deal 34 = .ok (.ifCond .eq 33, 3) := by decide +kernel
theorem dX1_deal_37 : decode cX1_deal 37 = .ok (.aload_n 0, 1) := by decide +kernel
theorem dX1_deal_38 : decode cX1_deal 38 = .ok (.getfield 9, 3) := by decide +kernel
theorem dX1_deal_41 : decode cX1_deal 41 = .ok (.iload 6, 2) := by decide +kernel
theorem dX1_deal_43 : decode cX1_deal 43 = .ok (.iaload, 1) := by decide +kernel
theorem dX1_deal_44 : decode cX1_deal 44 = .ok (.istore 8, 2) := by decide +kernel
theorem dX1_deal_46 : decode cX1_deal 46 = .ok (.aload_n 1, 1) := by decide +kernel
theorem dX1_deal_47 : decode cX1_deal 47 = .ok (.getfield 38, 3) := by decide +kernel
theorem dX1_deal_50 : decode cX1_deal 50 = .ok (.iload 7, 2) := by decide +kernel
theorem dX1_deal_52 : decode cX1_deal 52 = .ok (.iload 8, 2) := by decide +kernel
theorem dX1_deal_54 : decode cX1_deal 54 = .ok (.iastore, 1) := by decide +kernel
theorem dX1_deal_55 : decode cX1_deal 55 = .ok (.aload_n 1, 1) := by decide +kernel
theorem dX1_deal_56 : decode cX1_deal 56 = .ok (.getfield 15, 3) := by decide +kernel
theorem dX1_deal_59 : decode cX1_deal 59 = .ok (.iload 8, 2) := by decide +kernel
theorem dX1_deal_61 : decode cX1_deal 61 = .ok (.iload 7, 2) := by decide +kernel
theorem dX1_deal_63 : decode cX1_deal 63 = .ok (.iastore, 1) := by decide +kernel
theorem dX1_deal_64 : decode cX1_deal 64 = .ok (.iinc 6 1, 3) := by decide +kernel
theorem dX1_deal_67 : decode cX1_deal 67 = .ok (.iinc 7 1, 3) := by decide +kernel
theorem dX1_deal_70 : decode cX1_deal 70 = .ok (.goto (-63), 3) := by decide +kernel
theorem dX1_deal_73 : decode cX1_deal 73 = .ok (.return_, 1) := by decide +kernel
theorem dX2_init_0 : decode cX2_init 0 = .ok (.aload_n 0, 1) := by decide +kernel
theorem dX2_init_1 : decode cX2_init 1 = .ok (.invokespecial 3, 3) := by decide +kernel
theorem dX2_init_4 : decode cX2_init 4 = .ok (.aload_n 0, 1) := by decide +kernel
theorem dX2_init_5 : decode cX2_init 5 = .ok (.bipush 60, 2) := by decide +kernel
theorem dX2_init_7 : decode cX2_init 7 = .ok (.newarray .int, 2) := by decide +kernel
theorem dX2_init_9 : decode cX2_init 9 = .ok (.putfield 9, 3) := by decide +kernel
theorem dX2_init_12 : decode cX2_init 12 = .ok (.aload_n 0, 1) := by decide +kernel
theorem dX2_init_13 : decode cX2_init 13 = .ok (.bipush 60, 2) := by decide +kernel
theorem dX2_init_15 : decode cX2_init 15 = .ok (.newarray .long, 2) := by decide +kernel
theorem dX2_init_17 : decode cX2_init 17 = .ok (.putfield 15, 3) := by decide +kernel
theorem dX2_init_20 : decode cX2_init 20 = .ok (.aload_n 0, 1) := by decide +kernel
theorem dX2_init_21 : decode cX2_init 21 = .ok (.bipush 60, 2) := by decide +kernel
theorem dX2_init_23 : decode cX2_init 23 = .ok (.newarray .long, 2) := by decide +kernel
theorem dX2_init_25 : decode cX2_init 25 = .ok (.putfield 19, 3) := by decide +kernel
theorem dX2_init_28 : decode cX2_init 28 = .ok (.aload_n 0, 1) := by decide +kernel
theorem dX2_init_29 : decode cX2_init 29 = .ok (.bipush 60, 2) := by decide +kernel
theorem dX2_init_31 : decode cX2_init 31 = .ok (.newarray .int, 2) := by decide +kernel
theorem dX2_init_33 : decode cX2_init 33 = .ok (.putfield 22, 3) := by decide +kernel
theorem dX2_init_36 : decode cX2_init 36 = .ok (.aload_n 0, 1) := by decide +kernel
theorem dX2_init_37 : decode cX2_init 37 = .ok (.bipush 60, 2) := by decide +kernel
theorem dX2_init_39 : decode cX2_init 39 = .ok (.newarray .int, 2) := by decide +kernel
theorem dX2_init_41 : decode cX2_init 41 = .ok (.putfield 25, 3) := by decide +kernel
theorem dX2_init_44 : decode cX2_init 44 = .ok (.return_, 1) := by decide +kernel
theorem dX2_copyFrom_0 : decode cX2_copyFrom 0 = .ok (.aload_n 1, 1) := by decide +kernel
theorem dX2_copyFrom_1 : decode cX2_copyFrom 1 = .ok (.getfield 9, 3) := by decide +kernel
theorem dX2_copyFrom_4 : decode cX2_copyFrom 4 = .ok (.iconst 0, 1) := by decide +kernel
theorem dX2_copyFrom_5 : decode cX2_copyFrom 5 = .ok (.aload_n 0, 1) := by decide +kernel
theorem dX2_copyFrom_6 : decode cX2_copyFrom 6 = .ok (.getfield 9, 3) := by decide +kernel
theorem dX2_copyFrom_9 : decode cX2_copyFrom 9 = .ok (.iconst 0, 1) := by decide +kernel
theorem dX2_copyFrom_10 : decode cX2_copyFrom 10 = .ok (.bipush 60, 2) := by decide +kernel
theorem dX2_copyFrom_12 : decode cX2_copyFrom 12 = .ok (.invokestatic 28, 3) := by decide +kernel
theorem dX2_copyFrom_15 : decode cX2_copyFrom 15 = .ok (.aload_n 1, 1) := by decide +kernel
theorem dX2_copyFrom_16 : decode cX2_copyFrom 16 = .ok (.getfield 15, 3) := by decide +kernel
theorem dX2_copyFrom_19 : decode cX2_copyFrom 19 = .ok (.iconst 0, 1) := by decide +kernel
theorem dX2_copyFrom_20 : decode cX2_copyFrom 20 = .ok (.aload_n 0, 1) := by decide +kernel
theorem dX2_copyFrom_21 : decode cX2_copyFrom 21 = .ok (.getfield 15, 3) := by decide +kernel
theorem dX2_copyFrom_24 : decode cX2_copyFrom 24 = .ok (.iconst 0, 1) := by decide +kernel
theorem dX2_copyFrom_25 : decode cX2_copyFrom 25 = .ok (.bipush 60, 2) := by decide +kernel
theorem dX2_copyFrom_27 : decode cX2_copyFrom 27 = .ok (.invokestatic 28, 3) := by decide +kernel
theorem dX2_copyFrom_30 : decode cX2_copyFrom 30 = .ok (.aload_n 1, 1) := by decide +kernel
theorem dX2_copyFrom_31 : decode cX2_copyFrom 31 = .ok (.getfield 19, 3) := by decide +kernel
theorem dX2_copyFrom_34 : decode cX2_copyFrom 34 = .ok (.iconst 0, 1) := by decide +kernel
theorem dX2_copyFrom_35 : decode cX2_copyFrom 35 = .ok (.aload_n 0, 1) := by decide +kernel
theorem dX2_copyFrom_36 : decode cX2_copyFrom 36 = .ok (.getfield 19, 3) := by decide +kernel
theorem dX2_copyFrom_39 : decode cX2_copyFrom 39 = .ok (.iconst 0, 1) := by decide +kernel
theorem dX2_copyFrom_40 : decode cX2_copyFrom 40 = .ok (.bipush 60, 2) := by decide +kernel
theorem dX2_copyFrom_42 : decode cX2_copyFrom 42 = .ok (.invokestatic 28, 3) := by decide +kernel
theorem dX2_copyFrom_45 : decode cX2_copyFrom 45 = .ok (.aload_n 1, 1) := by decide +kernel
theorem dX2_copyFrom_46 : decode cX2_copyFrom 46 = .ok (.getfield 22, 3) := by decide +kernel
theorem dX2_copyFrom_49 : decode cX2_copyFrom 49 = .ok (.iconst 0, 1) := by decide +kernel
theorem dX2_copyFrom_50 : decode cX2_copyFrom 50 = .ok (.aload_n 0, 1) := by decide +kernel
theorem dX2_copyFrom_51 : decode cX2_copyFrom 51 = .ok (.getfield 22, 3) := by decide +kernel
theorem dX2_copyFrom_54 : decode cX2_copyFrom 54 = .ok (.iconst 0, 1) := by decide +kernel
theorem dX2_copyFrom_55 : decode cX2_copyFrom 55 = .ok (.bipush 60, 2) := by decide +kernel
theorem dX2_copyFrom_57 : decode cX2_copyFrom 57 = .ok (.invokestatic 28, 3) := by decide +kernel
theorem dX2_copyFrom_60 : decode cX2_copyFrom 60 = .ok (.aload_n 1, 1) := by decide +kernel
theorem dX2_copyFrom_61 : decode cX2_copyFrom 61 = .ok (.getfield 25, 3) := by decide +kernel
theorem dX2_copyFrom_64 : decode cX2_copyFrom 64 = .ok (.iconst 0, 1) := by decide +kernel
theorem dX2_copyFrom_65 : decode cX2_copyFrom 65 = .ok (.aload_n 0, 1) := by decide +kernel
theorem dX2_copyFrom_66 : decode cX2_copyFrom 66 = .ok (.getfield 25, 3) := by decide +kernel
theorem dX2_copyFrom_69 : decode cX2_copyFrom 69 = .ok (.iconst 0, 1) := by decide +kernel
theorem dX2_copyFrom_70 : decode cX2_copyFrom 70 = .ok (.bipush 60, 2) := by decide +kernel
theorem dX2_copyFrom_72 : decode cX2_copyFrom 72 = .ok (.invokestatic 28, 3) := by decide +kernel
theorem dX2_copyFrom_75 : decode cX2_copyFrom 75 = .ok (.aload_n 0, 1) := by decide +kernel
theorem dX2_copyFrom_76 : decode cX2_copyFrom 76 = .ok (.aload_n 1, 1) := by decide +kernel
theorem dX2_copyFrom_77 : decode cX2_copyFrom 77 = .ok (.getfield 34, 3) := by decide +kernel
theorem dX2_copyFrom_80 : decode cX2_copyFrom 80 = .ok (.putfield 34, 3) := by decide +kernel
theorem dX2_copyFrom_83 : decode cX2_copyFrom 83 = .ok (.aload_n 0, 1) := by decide +kernel
theorem dX2_copyFrom_84 : decode cX2_copyFrom 84 = .ok (.aload_n 1, 1) := by decide +kernel
theorem dX2_copyFrom_85 : decode cX2_copyFrom 85 = .ok (.getfield 38, 3) := by decide +kernel
theorem dX2_copyFrom_88 : decode cX2_copyFrom 88 = .ok (.putfield 38, 3) := by decide +kernel
theorem dX2_copyFrom_91 : decode cX2_copyFrom 91 = .ok (.return_, 1) := by decide +kernel
theorem dX2_isTask_0 : decode cX2_isTask 0 = .ok (.iload_n 1, 1) := by decide +kernel
theorem dX2_isTask_1 : decode cX2_isTask 1 = .ok (.ifCond .lt 15, 3) := by decide +kernel
theorem dX2_isTask_4 : decode cX2_isTask 4 = .ok (.iload_n 1, 1) := by decide +kernel
theorem dX2_isTask_5 : decode cX2_isTask 5 = .ok (.aload_n 0, 1) := by decide +kernel
theorem dX2_isTask_6 : decode cX2_isTask 6 = .ok (.getfield 34, 3) := by decide +kernel
theorem dX2_isTask_9 : decode cX2_isTask 9 = .ok (.if_icmp .ge 7, 3) := by decide +kernel
theorem dX2_isTask_12 : decode cX2_isTask 12 = .ok (.iconst 1, 1) := by decide +kernel
theorem dX2_isTask_13 : decode cX2_isTask 13 = .ok (.goto 4, 3) := by decide +kernel
theorem dX2_isTask_16 : decode cX2_isTask 16 = .ok (.iconst 0, 1) := by decide +kernel
theorem dX2_isTask_17 : decode cX2_isTask 17 = .ok (.ireturn, 1) := by decide +kernel
set_option maxRecDepth 20000 in
theorem ggX2_areTasks_X2_isTask : GoodIn wsX2_areTasks wsX2_isTask := goodIn_r _ [5, 6, 7, 8, 9, 10, 11, 12, 13] (by decide +kernel) (by decide +kernel)
set_option maxRecDepth 20000 in
theorem gX2_areTasks_X2_isTask : GoodIn wsX2_areTasks (wsV RX2 41 RX2 yX2_isTask wsX2_isTask) := goodIn_app (goodIn_of _ (by decide +kernel)) ggX2_areTasks_X2_isTask
theorem dX2_areTasks_0 : decode cX2_areTasks 0 = .ok (.aload_n 0, 1) := by decide +kernel
theorem dX2_areTasks_1 : decode cX2_areTasks 1 = .ok (.iload_n 1, 1) := by decide +kernel
theorem dX2_areTasks_2 : decode cX2_areTasks 2 = .ok (.invokevirtual 41, 3) := by decide +kernel
theorem dX2_areTasks_5 : decode cX2_areTasks 5 = .ok (.ifCond .eq 15, 3) := by decide +kernel
theorem dX2_areTasks_8 : decode cX2_areTasks 8 = .ok (.aload_n 0, 1) := by decide +kernel
theorem dX2_areTasks_9 : decode cX2_areTasks 9 = .ok (.iload_n 2, 1) := by decide +kernel
theorem dX2_areTasks_10 : decode cX2_areTasks 10 = .ok (.invokevirtual 41, 3) := by decide +kernel
theorem dX2_areTasks_13 : decode cX2_areTasks 13 = .ok (.ifCond .eq 7, 3) := by decide +kernel
theorem dX2_areTasks_16 : decode cX2_areTasks 16 = .ok (.iconst 1, 1) := by decide +kernel
theorem dX2_areTasks_17 : decode cX2_areTasks 17 = .ok (.goto 4, 3) := by decide +kernel
theorem dX2_areTasks_20 : decode cX2_areTasks 20 = .ok (.iconst 0, 1) := by decide +kernel
theorem dX2_areTasks_21 : decode cX2_areTasks 21 = .ok (.ireturn, 1) := by decide +kernel
theorem dX2_addTask_0 : decode cX2_addTask 0 = .ok (.aload_n 0, 1) := by decide +kernel
theorem dX2_addTask_1 : decode cX2_addTask 1 = .ok (.getfield 34, 3) := by decide +kernel
theorem dX2_addTask_4 : decode cX2_addTask 4 = .ok (.istore_n 2, 1) := by decide +kernel
theorem dX2_addTask_5 : decode cX2_addTask 5 = .ok (.aload_n 0, 1) := by decide +kernel
theorem dX2_addTask_6 : decode cX2_addTask 6 = .ok (.getfield 9, 3) := by decide +kernel
theorem dX2_addTask_9 : decode cX2_addTask 9 = .ok (.iload_n 2, 1) := by decide +kernel
theorem dX2_addTask_10 : decode cX2_addTask 10 = .ok (.iload_n 1, 1) := by decide +kernel
theorem dX2_addTask_11 : decode cX2_addTask 11 = .ok (.iastore, 1) := by decide +kernel
theorem dX2_addTask_12 : decode cX2_addTask 12 = .ok (.aload_n 0, 1) := by decide +kernel
theorem dX2_addTask_13 : decode cX2_addTask 13 = .ok (.getfield 22, 3) := by decide +kernel
theorem dX2_addTask_16 : decode cX2_addTask 16 = .ok (.iload_n 2, 1) := by decide +kernel
theorem dX2_addTask_17 : decode cX2_addTask 17 = .ok (.iload_n 2, 1) := by decide +kernel
theorem dX2_addTask_18 : decode cX2_addTask 18 = .ok (.iastore, 1) := by decide +kernel
theorem dX2_addTask_19 : decode cX2_addTask 19 = .ok (.aload_n 0, 1) := by decide +kernel
theorem dX2_addTask_20 : decode cX2_addTask 20 = .ok (.getfield 25, 3) := by decide +kernel
theorem dX2_addTask_23 : decode cX2_addTask 23 = .ok (.iload_n 2, 1) := by decide +kernel
theorem dX2_addTask_24 : decode cX2_addTask 24 = .ok (.iload_n 2, 1) := by decide +kernel
theorem dX2_addTask_25 : decode cX2_addTask 25 = .ok (.iastore, 1) := by decide +kernel
theorem dX2_addTask_26 : decode cX2_addTask 26 = .ok (.aload_n 0, 1) := by decide +kernel
theorem dX2_addTask_27 : decode cX2_addTask 27 = .ok (.dup, 1) := by decide +kernel
theorem dX2_addTask_28 : decode cX2_addTask 28 = .ok (.getfield 34, 3) := by decide +kernel
theorem dX2_addTask_31 : decode cX2_addTask 31 = .ok (.iconst 1, 1) := by decide +kernel
theorem dX2_addTask_32 : decode cX2_addTask 32 = .ok (.iadd, 1) := by decide +kernel
theorem dX2_addTask_33 : decode cX2_addTask 33 = .ok (.putfield 34, 3) := by decide +kernel
theorem dX2_addTask_36 : decode cX2_addTask 36 = .ok (.iload_n 2, 1) := by decide +kernel
theorem dX2_addTask_37 : decode cX2_addTask 37 = .ok (.ireturn, 1) := by decide +kernel
set_option maxRecDepth 20000 in
theorem ggX2_hasTie_X7_has : GoodIn wsX2_hasTie wsX7_has := goodIn_r _ [4] (by decide +kernel) (by decide +kernel)
set_option maxRecDepth 20000 in
theorem gX2_hasTie_X7_has_n45 : GoodIn wsX2_hasTie (wsX7_has) := ggX2_hasTie_X7_has
theorem dX2_hasTie_0 : decode cX2_hasTie 0 = .ok (.aload_n 0, 1) := by decide +kernel
theorem dX2_hasTie_1 : decode cX2_hasTie 1 = .ok (.getfield 15, 3) := by decide +kernel
theorem dX2_hasTie_4 : decode cX2_hasTie 4 = .ok (.iload_n 1, 1) := by decide +kernel
theorem dX2_hasTie_5 : decode cX2_hasTie 5 = .ok (.laload, 1) := by decide +kernel
theorem dX2_hasTie_6 : decode cX2_hasTie 6 = .ok (.iload_n 2, 1) := by decide +kernel
theorem dX2_hasTie_7 : decode cX2_hasTie 7 = .ok (.invokestatic 45, 3) := by decide +kernel
theorem dX2_hasTie_10 : decode cX2_hasTie 10 = .ok (.ireturn, 1) := by decide +kernel
set_option maxRecDepth 20000 in
theorem ggX2_putTie_X7_bit : GoodIn wsX2_putTie wsX7_bit := goodIn_r _ [6] (by decide +kernel) (by decide +kernel)
set_option maxRecDepth 20000 in
theorem gX2_putTie_X7_bit_n49 : GoodIn wsX2_putTie (wsX7_bit) := ggX2_putTie_X7_bit
theorem dX2_putTie_0 : decode cX2_putTie 0 = .ok (.aload_n 0, 1) := by decide +kernel
theorem dX2_putTie_1 : decode cX2_putTie 1 = .ok (.getfield 15, 3) := by decide +kernel
theorem dX2_putTie_4 : decode cX2_putTie 4 = .ok (.iload_n 1, 1) := by decide +kernel
theorem dX2_putTie_5 : decode cX2_putTie 5 = .ok (.dup2, 1) := by decide +kernel
theorem dX2_putTie_6 : decode cX2_putTie 6 = .ok (.laload, 1) := by decide +kernel
theorem dX2_putTie_7 : decode cX2_putTie 7 = .ok (.iload_n 2, 1) := by decide +kernel
theorem dX2_putTie_8 : decode cX2_putTie 8 = .ok (.invokestatic 49, 3) := by decide +kernel
theorem dX2_putTie_11 : decode cX2_putTie 11 = .ok (.lor, 1) := by decide +kernel
theorem dX2_putTie_12 : decode cX2_putTie 12 = .ok (.lastore, 1) := by decide +kernel
theorem dX2_putTie_13 : decode cX2_putTie 13 = .ok (.aload_n 0, 1) := by decide +kernel
theorem dX2_putTie_14 : decode cX2_putTie 14 = .ok (.getfield 19, 3) := by decide +kernel
theorem dX2_putTie_17 : decode cX2_putTie 17 = .ok (.iload_n 2, 1) := by decide +kernel
theorem dX2_putTie_18 : decode cX2_putTie 18 = .ok (.dup2, 1) := by decide +kernel
theorem dX2_putTie_19 : decode cX2_putTie 19 = .ok (.laload, 1) := by decide +kernel
theorem dX2_putTie_20 : decode cX2_putTie 20 = .ok (.iload_n 1, 1) := by decide +kernel
theorem dX2_putTie_21 : decode cX2_putTie 21 = .ok (.invokestatic 49, 3) := by decide +kernel
theorem dX2_putTie_24 : decode cX2_putTie 24 = .ok (.lor, 1) := by decide +kernel
theorem dX2_putTie_25 : decode cX2_putTie 25 = .ok (.lastore, 1) := by decide +kernel
theorem dX2_putTie_26 : decode cX2_putTie 26 = .ok (.aload_n 0, 1) := by decide +kernel
theorem dX2_putTie_27 : decode cX2_putTie 27 = .ok (.dup, 1) := by decide +kernel
theorem dX2_putTie_28 : decode cX2_putTie 28 = .ok (.getfield 38, 3) := by decide +kernel
theorem dX2_putTie_31 : decode cX2_putTie 31 = .ok (.iconst 1, 1) := by decide +kernel
theorem dX2_putTie_32 : decode cX2_putTie 32 = .ok (.iadd, 1) := by decide +kernel
theorem dX2_putTie_33 : decode cX2_putTie 33 = .ok (.putfield 38, 3) := by decide +kernel
theorem dX2_putTie_36 : decode cX2_putTie 36 = .ok (.return_, 1) := by decide +kernel
set_option maxRecDepth 20000 in
theorem ggX2_dropTie_X7_bit : GoodIn wsX2_dropTie wsX7_bit := goodIn_r _ [7] (by decide +kernel) (by decide +kernel)
set_option maxRecDepth 20000 in
theorem gX2_dropTie_X7_bit_n49 : GoodIn wsX2_dropTie (wsX7_bit) := ggX2_dropTie_X7_bit
theorem dX2_dropTie_0 : decode cX2_dropTie 0 = .ok (.aload_n 0, 1) := by decide +kernel
theorem dX2_dropTie_1 : decode cX2_dropTie 1 = .ok (.getfield 15, 3) := by decide +kernel
theorem dX2_dropTie_4 : decode cX2_dropTie 4 = .ok (.iload_n 1, 1) := by decide +kernel
theorem dX2_dropTie_5 : decode cX2_dropTie 5 = .ok (.dup2, 1) := by decide +kernel
theorem dX2_dropTie_6 : decode cX2_dropTie 6 = .ok (.laload, 1) := by decide +kernel
theorem dX2_dropTie_7 : decode cX2_dropTie 7 = .ok (.iload_n 2, 1) := by decide +kernel
theorem dX2_dropTie_8 : decode cX2_dropTie 8 = .ok (.invokestatic 49, 3) := by decide +kernel
theorem dX2_dropTie_11 : decode cX2_dropTie 11 = .ok (.ldc2_w 53, 3) := by decide +kernel
theorem dX2_dropTie_14 : decode cX2_dropTie 14 = .ok (.lxor, 1) := by decide +kernel
theorem dX2_dropTie_15 : decode cX2_dropTie 15 = .ok (.land, 1) := by decide +kernel
theorem dX2_dropTie_16 : decode cX2_dropTie 16 = .ok (.lastore, 1) := by decide +kernel
theorem dX2_dropTie_17 : decode cX2_dropTie 17 = .ok (.aload_n 0, 1) := by decide +kernel
theorem dX2_dropTie_18 : decode cX2_dropTie 18 = .ok (.getfield 19, 3) := by decide +kernel
theorem dX2_dropTie_21 : decode cX2_dropTie 21 = .ok (.iload_n 2, 1) := by decide +kernel
theorem dX2_dropTie_22 : decode cX2_dropTie 22 = .ok (.dup2, 1) := by decide +kernel
theorem dX2_dropTie_23 : decode cX2_dropTie 23 = .ok (.laload, 1) := by decide +kernel
theorem dX2_dropTie_24 : decode cX2_dropTie 24 = .ok (.iload_n 1, 1) := by decide +kernel
theorem dX2_dropTie_25 : decode cX2_dropTie 25 = .ok (.invokestatic 49, 3) := by decide +kernel
theorem dX2_dropTie_28 : decode cX2_dropTie 28 = .ok (.ldc2_w 53, 3) := by decide +kernel
theorem dX2_dropTie_31 : decode cX2_dropTie 31 = .ok (.lxor, 1) := by decide +kernel
theorem dX2_dropTie_32 : decode cX2_dropTie 32 = .ok (.land, 1) := by decide +kernel
theorem dX2_dropTie_33 : decode cX2_dropTie 33 = .ok (.lastore, 1) := by decide +kernel
theorem dX2_dropTie_34 : decode cX2_dropTie 34 = .ok (.aload_n 0, 1) := by decide +kernel
theorem dX2_dropTie_35 : decode cX2_dropTie 35 = .ok (.dup, 1) := by decide +kernel
theorem dX2_dropTie_36 : decode cX2_dropTie 36 = .ok (.getfield 38, 3) := by decide +kernel
theorem dX2_dropTie_39 : decode cX2_dropTie 39 = .ok (.iconst 1, 1) := by decide +kernel
theorem dX2_dropTie_40 : decode cX2_dropTie 40 = .ok (.isub, 1) := by decide +kernel
theorem dX2_dropTie_41 : decode cX2_dropTie 41 = .ok (.putfield 38, 3) := by decide +kernel
theorem dX2_dropTie_44 : decode cX2_dropTie 44 = .ok (.return_, 1) := by decide +kernel
set_option maxRecDepth 20000 in
theorem ggX2_spread_X7_bit : GoodIn wsX2_spread wsX7_bit := goodIn_r _ [5] (by decide +kernel) (by decide +kernel)
set_option maxRecDepth 20000 in
theorem gX2_spread_X7_bit_n49 : GoodIn wsX2_spread (wsX7_bit) := ggX2_spread_X7_bit
theorem dX2_spread_0 : decode cX2_spread 0 = .ok (.lload_n 1, 1) := by decide +kernel
theorem dX2_spread_1 : decode cX2_spread 1 = .ok (.lstore 5, 2) := by decide +kernel
theorem dX2_spread_3 : decode cX2_spread 3 = .ok (.iload_n 3, 1) := by decide +kernel
theorem dX2_spread_4 : decode cX2_spread 4 = .ok (.istore 7, 2) := by decide +kernel
theorem dX2_spread_6 : decode cX2_spread 6 = .ok (.iload 7, 2) := by decide +kernel
theorem dX2_spread_8 : decode cX2_spread 8 = .ok (.iload 4, 2) := by decide +kernel
theorem dX2_spread_10 : decode cX2_spread 10 = .ok (.if_icmp .gt 43, 3) := by decide +kernel
theorem dX2_spread_13 : decode cX2_spread 13 = .ok (.aload_n 0, 1) := by decide +kernel
theorem dX2_spread_14 : decode cX2_spread 14 = .ok (.getfield 25, 3) := by decide +kernel
theorem dX2_spread_17 : decode cX2_spread 17 = .ok (.iload 7, 2) := by decide +kernel
theorem dX2_spread_19 : decode cX2_spread 19 = .ok (.iaload, 1) := by decide +kernel
theorem dX2_spread_20 : decode cX2_spread 20 = .ok (.istore 8, 2) := by decide +kernel
theorem dX2_spread_22 : decode cX2_spread 22 = .ok (.aload_n 0, 1) := by decide +kernel
theorem dX2_spread_23 : decode cX2_spread 23 = .ok (.getfield 19, 3) := by decide +kernel
theorem dX2_spread_26 : decode cX2_spread 26 = .ok (.iload 8, 2) := by decide +kernel
theorem dX2_spread_28 : decode cX2_spread 28 = .ok (.laload, 1) := by decide +kernel
theorem dX2_spread_29 : decode cX2_spread 29 = .ok (.lload 5, 2) := by decide +kernel
theorem dX2_spread_31 : decode cX2_spread 31 = .ok (.land, 1) := by decide +kernel
theorem dX2_spread_32 : decode cX2_spread 32 = .ok (.lconst 0, 1) := by decide +kernel
theorem dX2_spread_33 : decode cX2_spread 33 = .ok (.lcmp, 1) := by decide +kernel
theorem dX2_spread_34 : decode cX2_spread 34 = .ok (.ifCond .eq 13, 3) := by decide +kernel
theorem dX2_spread_37 : decode cX2_spread 37 = .ok (.lload 5, 2) := by decide +kernel
theorem dX2_spread_39 : decode cX2_spread 39 = .ok (.iload 8, 2) := by decide +kernel
theorem dX2_spread_41 : decode cX2_spread 41 = .ok (.invokestatic 49, 3) := by decide +kernel
theorem dX2_spread_44 : decode cX2_spread 44 = .ok (.lor, 1) := by decide +kernel
theorem dX2_spread_45 : decode cX2_spread 45 = .ok (.lstore 5, 2) := by decide +kernel
theorem dX2_spread_47 : decode cX2_spread 47 = .ok (.iinc 7 1, 3) := by decide +kernel
theorem dX2_spread_50 : decode cX2_spread 50 = .ok (.goto (-44), 3) := by decide +kernel
theorem dX2_spread_53 : decode cX2_spread 53 = .ok (.lload 5, 2) := by decide +kernel
theorem dX2_spread_55 : decode cX2_spread 55 = .ok (.lreturn, 1) := by decide +kernel
set_option maxRecDepth 20000 in
theorem ggX2_reachedFrom_X7_bit : GoodIn wsX2_reachedFrom wsX7_bit := goodIn_r _ [4] (by decide +kernel) (by decide +kernel)
set_option maxRecDepth 20000 in
theorem gX2_reachedFrom_X7_bit_n49 : GoodIn wsX2_reachedFrom (wsX7_bit) := ggX2_reachedFrom_X7_bit
set_option maxRecDepth 20000 in
theorem ggX2_reachedFrom_X2_spread : GoodIn wsX2_reachedFrom wsX2_spread := goodIn_r _ [9, 10, 11, 2, 3, 4, 12, 13, 14, 15, 16, 17, 18] (by decide +kernel) (by decide +kernel)
set_option maxRecDepth 20000 in
theorem gX2_reachedFrom_X2_spread : GoodIn wsX2_reachedFrom (wsV RX2 55 RX2 yX2_spread wsX2_spread) := goodIn_app (goodIn_of _ (by decide +kernel)) ggX2_reachedFrom_X2_spread
theorem dX2_reachedFrom_0 : decode cX2_reachedFrom 0 = .ok (.aload_n 0, 1) := by decide +kernel
theorem dX2_reachedFrom_1 : decode cX2_reachedFrom 1 = .ok (.iload_n 1, 1) := by decide +kernel
theorem dX2_reachedFrom_2 : decode cX2_reachedFrom 2 = .ok (.invokestatic 49, 3) := by decide +kernel
theorem dX2_reachedFrom_5 : decode cX2_reachedFrom 5 = .ok (.aload_n 0, 1) := by decide +kernel
theorem dX2_reachedFrom_6 : decode cX2_reachedFrom 6 = .ok (.getfield 22, 3) := by decide +kernel
theorem dX2_reachedFrom_9 : decode cX2_reachedFrom 9 = .ok (.iload_n 1, 1) := by decide +kernel
theorem dX2_reachedFrom_10 : decode cX2_reachedFrom 10 = .ok (.iaload, 1) := by decide +kernel
theorem dX2_reachedFrom_11 : decode cX2_reachedFrom 11 = .ok (.iconst 1, 1) := by decide +kernel
theorem dX2_reachedFrom_12 : decode cX2_reachedFrom 12 = .ok (.iadd, 1) := by decide +kernel
theorem dX2_reachedFrom_13 : decode cX2_reachedFrom 13 = .ok (.iload_n 2, 1) := by decide +kernel
theorem dX2_reachedFrom_14 : decode cX2_reachedFrom 14 = .ok (.invokevirtual 55, 3) := by decide +kernel
theorem dX2_reachedFrom_17 : decode cX2_reachedFrom 17 = .ok (.lreturn, 1) := by decide +kernel
set_option maxRecDepth 20000 in
theorem ggX2_reaching_X7_bit : GoodIn wsX2_reaching wsX7_bit := goodIn_r _ [6] (by decide +kernel) (by decide +kernel)
set_option maxRecDepth 20000 in
theorem gX2_reaching_X7_bit_n49 : GoodIn wsX2_reaching (wsX7_bit) := ggX2_reaching_X7_bit
theorem dX2_reaching_0 : decode cX2_reaching 0 = .ok (.iload_n 1, 1) := by decide +kernel
theorem dX2_reaching_1 : decode cX2_reaching 1 = .ok (.invokestatic 49, 3) := by decide +kernel
theorem dX2_reaching_4 : decode cX2_reaching 4 = .ok (.lstore_n 3, 1) := by decide +kernel
theorem dX2_reaching_5 : decode cX2_reaching 5 = .ok (.aload_n 0, 1) := by decide +kernel
theorem dX2_reaching_6 : decode cX2_reaching 6 = .ok (.getfield 22, 3) := by decide +kernel
theorem dX2_reaching_9 : decode cX2_reaching 9 = .ok (.iload_n 1, 1) := by decide +kernel
theorem dX2_reaching_10 : decode cX2_reaching 10 = .ok (.iaload, 1) := by decide +kernel
theorem dX2_reaching_11 : decode cX2_reaching 11 = .ok (.iconst 1, 1) := by decide +kernel
theorem dX2_reaching_12 : decode cX2_reaching 12 = .ok (.isub, 1) := by decide +kernel
theorem dX2_reaching_13 : decode cX2_reaching 13 = .ok (.istore 5, 2) := by decide +kernel
theorem dX2_reaching_15 : decode cX2_reaching 15 = .ok (.iload 5, 2) := by decide +kernel
theorem dX2_reaching_17 : decode cX2_reaching 17 = .ok (.iload_n 2, 1) := by decide +kernel
theorem dX2_reaching_18 : decode cX2_reaching 18 = .ok (.if_icmp .lt 40, 3) := by decide +kernel
theorem dX2_reaching_21 : decode cX2_reaching 21 = .ok (.aload_n 0, 1) := by decide +kernel
theorem dX2_reaching_22 : decode cX2_reaching 22 = .ok (.getfield 25, 3) := by decide +kernel
theorem dX2_reaching_25 : decode cX2_reaching 25 = .ok (.iload 5, 2) := by decide +kernel
theorem dX2_reaching_27 : decode cX2_reaching 27 = .ok (.iaload, 1) := by decide +kernel
theorem dX2_reaching_28 : decode cX2_reaching 28 = .ok (.istore 6, 2) := by decide +kernel
theorem dX2_reaching_30 : decode cX2_reaching 30 = .ok (.aload_n 0, 1) := by decide +kernel
theorem dX2_reaching_31 : decode cX2_reaching 31 = .ok (.getfield 15, 3) := by decide +kernel
theorem dX2_reaching_34 : decode cX2_reaching 34 = .ok (.iload 6, 2) := by decide +kernel
theorem dX2_reaching_36 : decode cX2_reaching 36 = .ok (.laload, 1) := by decide +kernel
theorem dX2_reaching_37 : decode cX2_reaching 37 = .ok (.lload_n 3, 1) := by decide +kernel
theorem dX2_reaching_38 : decode cX2_reaching 38 = .ok (.land, 1) := by decide +kernel
theorem dX2_reaching_39 : decode cX2_reaching 39 = .ok (.lconst 0, 1) := by decide +kernel
theorem dX2_reaching_40 : decode cX2_reaching 40 = .ok (.lcmp, 1) := by decide +kernel
theorem dX2_reaching_41 : decode cX2_reaching 41 = .ok (.ifCond .eq 11, 3) := by decide +kernel
theorem dX2_reaching_44 : decode cX2_reaching 44 = .ok (.lload_n 3, 1) := by decide +kernel
theorem dX2_reaching_45 : decode cX2_reaching 45 = .ok (.iload 6, 2) := by decide +kernel
theorem dX2_reaching_47 : decode cX2_reaching 47 = .ok (.invokestatic 49, 3) := by decide +kernel
theorem dX2_reaching_50 : decode cX2_reaching 50 = .ok (.lor, 1) := by decide +kernel
theorem dX2_reaching_51 : decode cX2_reaching 51 = .ok (.lstore_n 3, 1) := by decide +kernel
theorem dX2_reaching_52 : decode cX2_reaching 52 = .ok (.iinc 5 (-1), 3) := by decide +kernel
theorem dX2_reaching_55 : decode cX2_reaching 55 = .ok (.goto (-40), 3) := by decide +kernel
theorem dX2_reaching_58 : decode cX2_reaching 58 = .ok (.lload_n 3, 1) := by decide +kernel
theorem dX2_reaching_59 : decode cX2_reaching 59 = .ok (.lreturn, 1) := by decide +kernel
set_option maxRecDepth 20000 in
theorem ggX2_leadsTo_X2_reachedFrom : GoodIn wsX2_leadsTo wsX2_reachedFrom := goodIn_r _ [6, 1, 7, 8, 9, 10, 11, 12, 5, 13, 14, 15, 18, 19, 20, 21, 22, 23, 24] (by decide +kernel) (by decide +kernel)
set_option maxRecDepth 20000 in
theorem gX2_leadsTo_X2_reachedFrom : GoodIn wsX2_leadsTo (wsV RX2 59 RX2 yX2_reachedFrom wsX2_reachedFrom) := goodIn_app (goodIn_of _ (by decide +kernel)) ggX2_leadsTo_X2_reachedFrom
set_option maxRecDepth 20000 in
theorem ggX2_leadsTo_X7_has : GoodIn wsX2_leadsTo wsX7_has := goodIn_r _ [17] (by decide +kernel) (by decide +kernel)
set_option maxRecDepth 20000 in
theorem gX2_leadsTo_X7_has_n45 : GoodIn wsX2_leadsTo (wsX7_has) := ggX2_leadsTo_X7_has
theorem dX2_leadsTo_0 : decode cX2_leadsTo 0 = .ok (.aload_n 0, 1) := by decide +kernel
theorem dX2_leadsTo_1 : decode cX2_leadsTo 1 = .ok (.iload_n 1, 1) := by decide +kernel
theorem dX2_leadsTo_2 : decode cX2_leadsTo 2 = .ok (.aload_n 0, 1) := by decide +kernel
theorem dX2_leadsTo_3 : decode cX2_leadsTo 3 = .ok (.getfield 22, 3) := by decide +kernel
theorem dX2_leadsTo_6 : decode cX2_leadsTo 6 = .ok (.iload_n 2, 1) := by decide +kernel
theorem dX2_leadsTo_7 : decode cX2_leadsTo 7 = .ok (.iaload, 1) := by decide +kernel
theorem dX2_leadsTo_8 : decode cX2_leadsTo 8 = .ok (.invokevirtual 59, 3) := by decide +kernel
theorem dX2_leadsTo_11 : decode cX2_leadsTo 11 = .ok (.iload_n 2, 1) := by decide +kernel
theorem dX2_leadsTo_12 : decode cX2_leadsTo 12 = .ok (.invokestatic 45, 3) := by decide +kernel
theorem dX2_leadsTo_15 : decode cX2_leadsTo 15 = .ok (.ireturn, 1) := by decide +kernel
set_option maxRecDepth 20000 in
theorem ggX2_isSpareTie_X7_bit : GoodIn wsX2_isSpareTie wsX7_bit := goodIn_r _ [6] (by decide +kernel) (by decide +kernel)
set_option maxRecDepth 20000 in
theorem gX2_isSpareTie_X7_bit_n49 : GoodIn wsX2_isSpareTie (wsX7_bit) := ggX2_isSpareTie_X7_bit
set_option maxRecDepth 20000 in
theorem ggX2_isSpareTie_X2_spread : GoodIn wsX2_isSpareTie wsX2_spread := goodIn_r _ [11, 12, 13, 4, 5, 6, 16, 17, 18, 19, 20, 21, 22] (by decide +kernel) (by decide +kernel)
set_option maxRecDepth 20000 in
theorem gX2_isSpareTie_X2_spread : GoodIn wsX2_isSpareTie (wsV RX2 55 RX2 yX2_spread wsX2_spread) := goodIn_app (goodIn_of _ (by decide +kernel)) ggX2_isSpareTie_X2_spread
set_option maxRecDepth 20000 in
theorem ggX2_isSpareTie_X7_has : GoodIn wsX2_isSpareTie wsX7_has := goodIn_r _ [15] (by decide +kernel) (by decide +kernel)
set_option maxRecDepth 20000 in
theorem gX2_isSpareTie_X7_has_n45 : GoodIn wsX2_isSpareTie (wsX7_has) := ggX2_isSpareTie_X7_has
theorem dX2_isSpareTie_0 : decode cX2_isSpareTie 0 = .ok (.aload_n 0, 1) := by decide +kernel
theorem dX2_isSpareTie_1 : decode cX2_isSpareTie 1 = .ok (.getfield 15, 3) := by decide +kernel
theorem dX2_isSpareTie_4 : decode cX2_isSpareTie 4 = .ok (.iload_n 1, 1) := by decide +kernel
theorem dX2_isSpareTie_5 : decode cX2_isSpareTie 5 = .ok (.laload, 1) := by decide +kernel
theorem dX2_isSpareTie_6 : decode cX2_isSpareTie 6 = .ok (.iload_n 2, 1) := by decide +kernel
theorem dX2_isSpareTie_7 : decode cX2_isSpareTie 7 = .ok (.invokestatic 49, 3) := by decide +kernel
theorem dX2_isSpareTie_10 : decode cX2_isSpareTie 10 = .ok (.ldc2_w 53, 3) := by decide +kernel
theorem dX2_isSpareTie_13 : decode cX2_isSpareTie 13 = .ok (.lxor, 1) := by decide +kernel
theorem dX2_isSpareTie_14 : decode cX2_isSpareTie 14 = .ok (.land, 1) := by decide +kernel
theorem dX2_isSpareTie_15 : decode cX2_isSpareTie 15 = .ok (.lstore_n 3, 1) := by decide +kernel
theorem dX2_isSpareTie_16 : decode cX2_isSpareTie 16 = .ok (.aload_n 0, 1) := by decide +kernel
theorem dX2_isSpareTie_17 : decode cX2_isSpareTie 17 = .ok (.lload_n 3, 1) := by decide +kernel
theorem dX2_isSpareTie_18 : decode cX2_isSpareTie 18 = .ok (.aload_n 0, 1) := by decide +kernel
theorem dX2_isSpareTie_19 : decode cX2_isSpareTie 19 = .ok (.getfield 22, 3) := by decide +kernel
theorem dX2_isSpareTie_22 : decode cX2_isSpareTie 22 = .ok (.iload_n 1, 1) := by decide +kernel
theorem dX2_isSpareTie_23 : decode cX2_isSpareTie 23 = .ok (.iaload, 1) := by decide +kernel
theorem dX2_isSpareTie_24 : decode cX2_isSpareTie 24 = .ok (.iconst 1, 1) := by decide +kernel
theorem dX2_isSpareTie_25 : decode cX2_isSpareTie 25 = .ok (.iadd, 1) := by decide +kernel
theorem dX2_isSpareTie_26 : decode cX2_isSpareTie 26 = .ok (.aload_n 0, 1) := by decide +kernel
theorem dX2_isSpareTie_27 : decode cX2_isSpareTie 27 = .ok (.getfield 22, 3) := by decide +kernel
theorem dX2_isSpareTie_30 : decode cX2_isSpareTie 30 = .ok (.iload_n 2, 1) := by decide +kernel
theorem dX2_isSpareTie_31 : decode cX2_isSpareTie 31 = .ok (.iaload, 1) := by decide +kernel
theorem dX2_isSpareTie_32 : decode cX2_isSpareTie 32 = .ok (.invokevirtual 55, 3) := by decide +kernel
theorem dX2_isSpareTie_35 : decode cX2_isSpareTie 35 = .ok (.iload_n 2, 1) := by decide +kernel
theorem dX2_isSpareTie_36 : decode cX2_isSpareTie 36 = .ok (.invokestatic 45, 3) := by decide +kernel
theorem dX2_isSpareTie_39 : decode cX2_isSpareTie 39 = .ok (.ireturn, 1) := by decide +kernel
set_option maxRecDepth 20000 in
theorem ggX2_countSpareTies_X2_hasTie : GoodIn wsX2_countSpareTies wsX2_hasTie := goodIn_r _ [6, 7, 8, 9, 10, 25, 26, 27, 28, 29, 30, 31] (by decide +kernel) (by decide +kernel)
set_option maxRecDepth 20000 in
theorem gX2_countSpareTies_X2_hasTie : GoodIn wsX2_countSpareTies (wsV RX2 63 RX2 yX2_hasTie wsX2_hasTie) := goodIn_app (goodIn_of _ (by decide +kernel)) ggX2_countSpareTies_X2_hasTie
set_option maxRecDepth 20000 in
theorem ggX2_countSpareTies_X2_isSpareTie : GoodIn wsX2_countSpareTies wsX2_isSpareTie := goodIn_r _ [14, 7, 15, 16, 17, 9, 18, 19, 20, 21, 5, 22, 23, 24, 8, 10, 25, 26, 27, 28, 29, 30, 31] (by decide +kernel) (by decide +kernel)
set_option maxRecDepth 20000 in
theorem gX2_countSpareTies_X2_isSpareTie : GoodIn wsX2_countSpareTies (wsV RX2 67 RX2 yX2_isSpareTie wsX2_isSpareTie) := goodIn_app (goodIn_of _ (by decide +kernel)) ggX2_countSpareTies_X2_isSpareTie
theorem dX2_countSpareTies_0 : decode cX2_countSpareTies 0 = .ok (.iconst 0, 1) := by decide +kernel
theorem dX2_countSpareTies_1 : decode cX2_countSpareTies 1 = .ok (.istore_n 1, 1) := by decide +kernel
theorem dX2_countSpareTies_2 : decode cX2_countSpareTies 2 = .ok (.iconst 0, 1) := by decide +kernel
theorem dX2_countSpareTies_3 : decode cX2_countSpareTies 3 = .ok (.istore_n 2, 1) := by decide +kernel
theorem dX2_countSpareTies_4 : decode cX2_countSpareTies 4 = .ok (.iload_n 2, 1) := by decide +kernel
theorem dX2_countSpareTies_5 : decode cX2_countSpareTies 5 = .ok (.aload_n 0, 1) := by decide +kernel
theorem dX2_countSpareTies_6 : decode cX2_countSpareTies 6 = .ok (.getfield 34, 3) := by decide +kernel
theorem dX2_countSpareTies_9 : decode cX2_countSpareTies 9 = .ok (.if_icmp .ge 46, 3) := by decide +kernel
theorem dX2_countSpareTies_12 : decode cX2_countSpareTies 12 = .ok (.iconst 0, 1) := by decide +kernel
theorem dX2_countSpareTies_13 : decode cX2_countSpareTies 13 = .ok (.istore_n 3, 1) := by decide +kernel
theorem dX2_countSpareTies_14 : decode cX2_countSpareTies 14 = .ok (.iload_n 3, 1) := by decide +kernel
theorem dX2_countSpareTies_15 : decode cX2_countSpareTies 15 = .ok (.aload_n 0, 1) := by decide +kernel
theorem dX2_countSpareTies_16 : decode cX2_countSpareTies 16 = .ok (.getfield 34, 3) := by decide +kernel
theorem dX2_countSpareTies_19 : decode cX2_countSpareTies 19 = .ok (.if_icmp .ge 30, 3) := by decide +kernel
theorem dX2_countSpareTies_22 : decode cX2_countSpareTies 22 = .ok (.aload_n 0, 1) := by decide +kernel
theorem dX2_countSpareTies_23 : decode cX2_countSpareTies 23 = .ok (.iload_n 2, 1) := by decide +kernel
theorem dX2_countSpareTies_24 : decode cX2_countSpareTies 24 = .ok (.iload_n 3, 1) := by decide +kernel
theorem dX2_countSpareTies_25 : decode cX2_countSpareTies 25 = .ok (.invokevirtual 63, 3) := by decide +kernel
theorem dX2_countSpareTies_28 : decode cX2_countSpareTies 28 = .ok (.ifCond .eq 15, 3) := by decide +kernel
theorem dX2_countSpareTies_31 : decode cX2_countSpareTies 31 = .ok (.aload_n 0, 1) := by decide +kernel
theorem dX2_countSpareTies_32 : decode cX2_countSpareTies 32 = .ok (.iload_n 2, 1) := by decide +kernel
theorem dX2_countSpareTies_33 : decode cX2_countSpareTies 33 = .ok (.iload_n 3, 1) := by decide +kernel
theorem dX2_countSpareTies_34 : decode cX2_countSpareTies 34 = .ok (.invokevirtual 67, 3) := by decide +kernel
theorem dX2_countSpareTies_37 : decode cX2_countSpareTies 37 = .ok (.ifCond .eq 6, 3) := by decide +kernel
theorem dX2_countSpareTies_40 : decode cX2_countSpareTies 40 = .ok (.iinc 1 1, 3) := by decide +kernel
theorem dX2_countSpareTies_43 : decode cX2_countSpareTies 43 = .ok (.iinc 3 1, 3) := by decide +kernel
theorem dX2_countSpareTies_46 : decode cX2_countSpareTies 46 = .ok (.goto (-32), 3) := by decide +kernel
theorem dX2_countSpareTies_49 : decode cX2_countSpareTies 49 = .ok (.iinc 2 1, 3) := by decide +kernel
theorem dX2_countSpareTies_52 : decode cX2_countSpareTies 52 = .ok (.goto (-48), 3) := by decide +kernel
theorem dX2_countSpareTies_55 : decode cX2_countSpareTies 55 = .ok (.iload_n 1, 1) := by decide +kernel
theorem dX2_countSpareTies_56 : decode cX2_countSpareTies 56 = .ok (.ireturn, 1) := by decide +kernel
theorem dX2_countMovedSince_0 : decode cX2_countMovedSince 0 = .ok (.iconst 0, 1) := by decide +kernel
theorem dX2_countMovedSince_1 : decode cX2_countMovedSince 1 = .ok (.istore_n 2, 1) := by decide +kernel
theorem dX2_countMovedSince_2 : decode cX2_countMovedSince 2 = .ok (.iconst 0, 1) := by decide +kernel
theorem dX2_countMovedSince_3 : decode cX2_countMovedSince 3 = .ok (.istore_n 3, 1) := by decide +kernel
theorem dX2_countMovedSince_4 : decode cX2_countMovedSince 4 = .ok (.iload_n 3, 1) := by decide +kernel
theorem dX2_countMovedSince_5 : decode cX2_countMovedSince 5 = .ok (.aload_n 0, 1) := by decide +kernel
theorem dX2_countMovedSince_6 : decode cX2_countMovedSince 6 = .ok (.getfield 34, 3) := by decide +kernel
theorem dX2_countMovedSince_9 : decode cX2_countMovedSince 9 = .ok (.if_icmp .ge 27, 3) := by decide +kernel
theorem dX2_countMovedSince_12 : decode cX2_countMovedSince 12 = .ok (.aload_n 0, 1) := by decide +kernel
theorem dX2_countMovedSince_13 : decode cX2_countMovedSince 13 = .ok (.getfield 22, 3) := by decide +kernel
theorem dX2_countMovedSince_16 : decode cX2_countMovedSince 16 = .ok (.iload_n 3, 1) := by decide +kernel
theorem dX2_countMovedSince_17 : decode cX2_countMovedSince 17 = .ok (.iaload, 1) := by decide +kernel
theorem dX2_countMovedSince_18 : decode cX2_countMovedSince 18 = .ok (.aload_n 1, 1) := by decide +kernel
theorem dX2_countMovedSince_19 : decode cX2_countMovedSince 19 = .ok (.getfield 22, 3) := by decide +kernel
theorem dX2_countMovedSince_22 : decode cX2_countMovedSince 22 = .ok (.iload_n 3, 1) := by decide +kernel
theorem dX2_countMovedSince_23 : decode cX2_countMovedSince 23 = .ok (.iaload, 1) := by decide +kernel
theorem dX2_countMovedSince_24 : decode cX2_countMovedSince 24 = .ok (.if_icmp .eq 6, 3) := by decide +kernel
theorem dX2_countMovedSince_27 : decode cX2_countMovedSince 27 = .ok (.iinc 2 1, 3) := by decide +kernel
theorem dX2_countMovedSince_30 : decode cX2_countMovedSince 30 = .ok (.iinc 3 1, 3) := by decide +kernel
theorem dX2_countMovedSince_33 : decode cX2_countMovedSince 33 = .ok (.goto (-29), 3) := by decide +kernel
theorem dX2_countMovedSince_36 : decode cX2_countMovedSince 36 = .ok (.iload_n 2, 1) := by decide +kernel
theorem dX2_countMovedSince_37 : decode cX2_countMovedSince 37 = .ok (.ireturn, 1) := by decide +kernel
set_option maxRecDepth 20000 in
theorem ggX2_placesAreSound_X2_isTask : GoodIn wsX2_placesAreSound wsX2_isTask := goodIn_r _ [8, 1, 9, 10, 11, 12, 13, 14, 15] (by decide +kernel) (by decide +kernel)
set_option maxRecDepth 20000 in
theorem gX2_placesAreSound_X2_isTask : GoodIn wsX2_placesAreSound (wsV RX2 41 RX2 yX2_isTask wsX2_isTask) := goodIn_app (goodIn_of _ (by decide +kernel)) ggX2_placesAreSound_X2_isTask
theorem dX2_placesAreSound_0 : decode cX2_placesAreSound 0 = .ok (.iconst 0, 1) := by decide +kernel
theorem dX2_placesAreSound_1 : decode cX2_placesAreSound 1 = .ok (.istore_n 1, 1) := by decide +kernel
theorem dX2_placesAreSound_2 : decode cX2_placesAreSound 2 = .ok (.iload_n 1, 1) := by decide +kernel
theorem dX2_placesAreSound_3 : decode cX2_placesAreSound 3 = .ok (.aload_n 0, 1) := by decide +kernel
theorem dX2_placesAreSound_4 : decode cX2_placesAreSound 4 = .ok (.getfield 34, 3) := by decide +kernel
theorem dX2_placesAreSound_7 : decode cX2_placesAreSound 7 = .ok (.if_icmp .ge 39, 3) := by decide +kernel
theorem dX2_placesAreSound_10 : decode cX2_placesAreSound 10 = .ok (.aload_n 0, 1) := by decide +kernel
theorem dX2_placesAreSound_11 : decode cX2_placesAreSound 11 = .ok (.aload_n 0, 1) := by decide +kernel
theorem dX2_placesAreSound_12 : decode cX2_placesAreSound 12 = .ok (.getfield 22, 3) := by decide +kernel
theorem dX2_placesAreSound_15 : decode cX2_placesAreSound 15 = .ok (.iload_n 1, 1) := by decide +kernel
theorem dX2_placesAreSound_16 : decode cX2_placesAreSound 16 = .ok (.iaload, 1) := by decide +kernel
theorem dX2_placesAreSound_17 : decode cX2_placesAreSound 17 = .ok (.invokevirtual 41, 3) := by decide +kernel
theorem dX2_placesAreSound_20 : decode cX2_placesAreSound 20 = .ok (.ifCond .eq 18, 3) := by decide +kernel
theorem dX2_placesAreSound_23 : decode cX2_placesAreSound 23 = .ok (.aload_n 0, 1) := by decide +kernel
theorem dX2_placesAreSound_24 : decode cX2_placesAreSound 24 = .ok (.getfield 25, 3) := by decide +kernel
theorem dX2_placesAreSound_27 : decode cX2_placesAreSound 27 = .ok (.aload_n 0, 1) := by decide +kernel
theorem dX2_placesAreSound_28 : decode cX2_placesAreSound 28 = .ok (.getfield 22, 3) := by decide +kernel
theorem dX2_placesAreSound_31 : decode cX2_placesAreSound 31 = .ok (.iload_n 1, 1) := by decide +kernel
theorem dX2_placesAreSound_32 : decode cX2_placesAreSound 32 = .ok (.iaload, 1) := by decide +kernel
theorem dX2_placesAreSound_33 : decode cX2_placesAreSound 33 = .ok (.iaload, 1) := by decide +kernel
theorem dX2_placesAreSound_34 : decode cX2_placesAreSound 34 = .ok (.iload_n 1, 1) := by decide +kernel
theorem dX2_placesAreSound_35 : decode cX2_placesAreSound 35 = .ok (.if_icmp .eq 5, 3) := by decide +kernel
theorem dX2_placesAreSound_38 : decode cX2_placesAreSound 38 = .ok (.iconst 0, 1) := by decide +kernel
theorem dX2_placesAreSound_39 : decode cX2_placesAreSound 39 = .ok (.ireturn, 1) := by decide +kernel
theorem dX2_placesAreSound_40 : decode cX2_placesAreSound 40 = .ok (.iinc 1 1, 3) := by decide +kernel
theorem dX2_placesAreSound_43 : decode cX2_placesAreSound 43 = .ok (.goto (-41), 3) := by decide +kernel
theorem dX2_placesAreSound_46 : decode cX2_placesAreSound 46 = .ok (.iconst 1, 1) := by decide +kernel
theorem dX2_placesAreSound_47 : decode cX2_placesAreSound 47 = .ok (.ireturn, 1) := by decide +kernel
set_option maxRecDepth 20000 in
theorem ggX2_tiesLeadOn_X2_hasTie : GoodIn wsX2_tiesLeadOn wsX2_hasTie := goodIn_r _ [7, 8, 9, 10, 11, 12, 13, 14, 15, 16, 17, 18] (by decide +kernel) (by decide +kernel)
set_option maxRecDepth 20000 in
theorem gX2_tiesLeadOn_X2_hasTie : GoodIn wsX2_tiesLeadOn (wsV RX2 63 RX2 yX2_hasTie wsX2_hasTie) := goodIn_app (goodIn_of _ (by decide +kernel)) ggX2_tiesLeadOn_X2_hasTie
theorem dX2_tiesLeadOn_0 : decode cX2_tiesLeadOn 0 = .ok (.iconst 0, 1) := by decide +kernel
theorem dX2_tiesLeadOn_1 : decode cX2_tiesLeadOn 1 = .ok (.istore_n 1, 1) := by decide +kernel
theorem dX2_tiesLeadOn_2 : decode cX2_tiesLeadOn 2 = .ok (.iload_n 1, 1) := by decide +kernel
theorem dX2_tiesLeadOn_3 : decode cX2_tiesLeadOn 3 = .ok (.aload_n 0, 1) := by decide +kernel
theorem dX2_tiesLeadOn_4 : decode cX2_tiesLeadOn 4 = .ok (.getfield 34, 3) := by decide +kernel
theorem dX2_tiesLeadOn_7 : decode cX2_tiesLeadOn 7 = .ok (.if_icmp .ge 51, 3) := by decide +kernel
theorem dX2_tiesLeadOn_10 : decode cX2_tiesLeadOn 10 = .ok (.iconst 0, 1) := by decide +kernel
theorem dX2_tiesLeadOn_11 : decode cX2_tiesLeadOn 11 = .ok (.istore_n 2, 1) := by decide +kernel
theorem dX2_tiesLeadOn_12 : decode cX2_tiesLeadOn 12 = .ok (.iload_n 2, 1) := by decide +kernel
theorem dX2_tiesLeadOn_13 : decode cX2_tiesLeadOn 13 = .ok (.aload_n 0, 1) := by decide +kernel
theorem dX2_tiesLeadOn_14 : decode cX2_tiesLeadOn 14 = .ok (.getfield 34, 3) := by decide +kernel
theorem dX2_tiesLeadOn_17 : decode cX2_tiesLeadOn 17 = .ok (.if_icmp .ge 35, 3) := by decide +kernel
theorem dX2_tiesLeadOn_20 : decode cX2_tiesLeadOn 20 = .ok (.aload_n 0, 1) := by decide +kernel
theorem dX2_tiesLeadOn_21 : decode cX2_tiesLeadOn 21 = .ok (.iload_n 1, 1) := by decide +kernel
theorem dX2_tiesLeadOn_22 : decode cX2_tiesLeadOn 22 = .ok (.iload_n 2, 1) := by decide +kernel
theorem dX2_tiesLeadOn_23 : decode cX2_tiesLeadOn 23 = .ok (.invokevirtual 63, 3) := by decide +kernel
theorem dX2_tiesLeadOn_26 : decode cX2_tiesLeadOn 26 = .ok (.ifCond .eq 20, 3) := by decide +kernel
theorem dX2_tiesLeadOn_29 : decode cX2_tiesLeadOn 29 = .ok (.aload_n 0, 1) := by decide +kernel
theorem dX2_tiesLeadOn_30 : decode cX2_tiesLeadOn 30 = .ok (.getfield 22, 3) := by decide +kernel
theorem dX2_tiesLeadOn_33 : decode cX2_tiesLeadOn 33 = .ok (.iload_n 1, 1) := by decide +kernel
theorem dX2_tiesLeadOn_34 : decode cX2_tiesLeadOn 34 = .ok (.iaload, 1) := by decide +kernel
theorem dX2_tiesLeadOn_35 : decode cX2_tiesLeadOn 35 = .ok (.aload_n 0, 1) := by decide +kernel
theorem dX2_tiesLeadOn_36 : decode cX2_tiesLeadOn 36 = .ok (.getfield 22, 3) := by decide +kernel
theorem dX2_tiesLeadOn_39 : decode cX2_tiesLeadOn 39 = .ok (.iload_n 2, 1) := by decide +kernel
theorem dX2_tiesLeadOn_40 : decode cX2_tiesLeadOn 40 = .ok (.iaload, 1) := by decide +kernel
theorem dX2_tiesLeadOn_41 : decode cX2_tiesLeadOn 41 = .ok (.if_icmp .lt 5, 3) := by decide +kernel
theorem dX2_tiesLeadOn_44 : decode cX2_tiesLeadOn 44 = .ok (.iconst 0, 1) := by decide +kernel
theorem dX2_tiesLeadOn_45 : decode cX2_tiesLeadOn 45 = .ok (.ireturn, 1) := by decide +kernel
theorem dX2_tiesLeadOn_46 : decode cX2_tiesLeadOn 46 = .ok (.iinc 2 1, 3) := by decide +kernel
theorem dX2_tiesLeadOn_49 : decode cX2_tiesLeadOn 49 = .ok (.goto (-37), 3) := by decide +kernel
theorem dX2_tiesLeadOn_52 : decode cX2_tiesLeadOn 52 = .ok (.iinc 1 1, 3) := by decide +kernel
theorem dX2_tiesLeadOn_55 : decode cX2_tiesLeadOn 55 = .ok (.goto (-53), 3) := by decide +kernel
theorem dX2_tiesLeadOn_58 : decode cX2_tiesLeadOn 58 = .ok (.iconst 1, 1) := by decide +kernel
theorem dX2_tiesLeadOn_59 : decode cX2_tiesLeadOn 59 = .ok (.ireturn, 1) := by decide +kernel
set_option maxRecDepth 20000 in
theorem ggX3_init_X2_init : GoodIn wsX3_init wsX2_init := goodIn_r _ [10, 11, 2, 3, 12, 13, 14, 15, 16, 17, 18, 19, 20, 21, 22, 23, 24, 25] (by decide +kernel) (by decide +kernel)
set_option maxRecDepth 20000 in
theorem gX3_init_X2_init_n11 : GoodIn wsX3_init (wsX2_init) := ggX3_init_X2_init
theorem dX3_init_0 : decode cX3_init 0 = .ok (.aload_n 0, 1) := by decide +kernel
theorem dX3_init_1 : decode cX3_init 1 = .ok (.invokespecial 3, 3) := by decide +kernel
theorem dX3_init_4 : decode cX3_init 4 = .ok (.aload_n 0, 1) := by decide +kernel
theorem dX3_init_5 : decode cX3_init 5 = .ok (.new 9, 3) := by decide +kernel
theorem dX3_init_8 : decode cX3_init 8 = .ok (.dup, 1) := by decide +kernel
theorem dX3_init_9 : decode cX3_init 9 = .ok (.invokespecial 11, 3) := by decide +kernel
theorem dX3_init_12 : decode cX3_init 12 = .ok (.putfield 12, 3) := by decide +kernel
theorem dX3_init_15 : decode cX3_init 15 = .ok (.aload_n 0, 1) := by decide +kernel
theorem dX3_init_16 : decode cX3_init 16 = .ok (.bipush 64, 2) := by decide +kernel
theorem dX3_init_18 : decode cX3_init 18 = .ok (.anewarray 9, 3) := by decide +kernel
theorem dX3_init_21 : decode cX3_init 21 = .ok (.putfield 18, 3) := by decide +kernel
theorem dX3_init_24 : decode cX3_init 24 = .ok (.return_, 1) := by decide +kernel
set_option maxRecDepth 20000 in
theorem ggX3_hold_X2_copyFrom : GoodIn wsX3_hold wsX2_copyFrom := goodIn_r _ [6, 7, 8, 9, 10, 11, 12, 13, 14, 15, 16, 17, 22, 23, 24, 25, 26, 27, 28] (by decide +kernel) (by decide +kernel)
set_option maxRecDepth 20000 in
theorem gX3_hold_X2_copyFrom : GoodIn wsX3_hold (wsV RX3 22 RX2 yX2_copyFrom wsX2_copyFrom) := goodIn_app (goodIn_of _ (by decide +kernel)) ggX3_hold_X2_copyFrom
theorem dX3_hold_0 : decode cX3_hold 0 = .ok (.aload_n 0, 1) := by decide +kernel
theorem dX3_hold_1 : decode cX3_hold 1 = .ok (.getfield 12, 3) := by decide +kernel
theorem dX3_hold_4 : decode cX3_hold 4 = .ok (.aload_n 1, 1) := by decide +kernel
theorem dX3_hold_5 : decode cX3_hold 5 = .ok (.invokevirtual 22, 3) := by decide +kernel
theorem dX3_hold_8 : decode cX3_hold 8 = .ok (.return_, 1) := by decide +kernel
set_option maxRecDepth 20000 in
theorem ggX3_keep_X2_init : GoodIn wsX3_keep wsX2_init := goodIn_r _ [13, 14, 15, 16, 17, 18, 19, 20, 21, 22, 23, 28, 29, 30, 31, 32, 33, 34] (by decide +kernel) (by decide +kernel)
set_option maxRecDepth 20000 in
theorem gX3_keep_X2_init_n11 : GoodIn wsX3_keep (wsX2_init) := ggX3_keep_X2_init
theorem dX3_keep_0 : decode cX3_keep 0 = .ok (.aload_n 0, 1) := by decide +kernel
theorem dX3_keep_1 : decode cX3_keep 1 = .ok (.getfield 18, 3) := by decide +kernel
theorem dX3_keep_4 : decode cX3_keep 4 = .ok (.aload_n 0, 1) := by decide +kernel
theorem dX3_keep_5 : decode cX3_keep 5 = .ok (.getfield 26, 3) := by decide +kernel
theorem dX3_keep_8 : decode cX3_keep 8 = .ok (.aaload, 1) := by decide +kernel
theorem dX3_keep_9 : decode cX3_keep 9 = .ok (.astore_n 1, 1) := by decide +kernel
theorem dX3_keep_10 : decode cX3_keep 10 = .ok (.aload_n 0, 1) := by decide +kernel
theorem dX3_keep_11 : decode cX3_keep 11 = .ok (.getfield 18, 3) := by decide +kernel
theorem dX3_keep_14 : decode cX3_keep 14 = .ok (.aload_n 0, 1) := by decide +kernel
theorem dX3_keep_15 : decode cX3_keep 15 = .ok (.getfield 26, 3) := by decide +kernel
theorem dX3_keep_18 : decode cX3_keep 18 = .ok (.aload_n 0, 1) := by decide +kernel
theorem dX3_keep_19 : decode cX3_keep 19 = .ok (.getfield 12, 3) := by decide +kernel
theorem dX3_keep_22 : decode cX3_keep 22 = .ok (.aastore, 1) := by decide +kernel
theorem dX3_keep_23 : decode cX3_keep 23 = .ok (.aload_n 0, 1) := by decide +kernel
theorem dX3_keep_24 : decode cX3_keep 24 = .ok (.aload_n 1, 1) := by decide +kernel
theorem dX3_keep_25 : decode cX3_keep 25 = .ok (.ifnonnull 13, 3) := by decide +kernel
theorem dX3_keep_28 : decode cX3_keep 28 = .ok (.new 9, 3) := by decide +kernel
theorem dX3_keep_31 : decode cX3_keep 31 = .ok (.dup, 1) := by decide +kernel
theorem dX3_keep_32 : decode cX3_keep 32 = .ok (.invokespecial 11, 3) := by decide +kernel
theorem dX3_keep_35 : decode cX3_keep 35 = .ok (.goto 4, 3) := by decide +kernel
theorem dX3_keep_38 : decode cX3_keep 38 = .ok (.aload_n 1, 1) := by decide +kernel
theorem dX3_keep_39 : decode cX3_keep 39 = .ok (.putfield 12, 3) := by decide +kernel
theorem dX3_keep_42 : decode cX3_keep 42 = .ok (.aload_n 0, 1) := by decide +kernel
theorem dX3_keep_43 : decode cX3_keep 43 = .ok (.aload_n 0, 1) := by decide +kernel
theorem dX3_keep_44 : decode cX3_keep 44 = .ok (.getfield 26, 3) := by decide +kernel
theorem dX3_keep_47 : decode cX3_keep 47 = .ok (.iconst 1, 1) := by decide +kernel
theorem dX3_keep_48 : decode cX3_keep 48 = .ok (.iadd, 1) := by decide +kernel
theorem dX3_keep_49 : decode cX3_keep 49 = .ok (.bipush 64, 2) := by decide +kernel
theorem dX3_keep_51 : decode cX3_keep 51 = .ok (.irem, 1) := by decide +kernel
theorem dX3_keep_52 : decode cX3_keep 52 = .ok (.putfield 26, 3) := by decide +kernel
theorem dX3_keep_55 : decode cX3_keep 55 = .ok (.aload_n 0, 1) := by decide +kernel
theorem dX3_keep_56 : decode cX3_keep 56 = .ok (.aload_n 0, 1) := by decide +kernel
theorem dX3_keep_57 : decode cX3_keep 57 = .ok (.getfield 30, 3) := by decide +kernel
theorem dX3_keep_60 : decode cX3_keep 60 = .ok (.iconst 1, 1) := by decide +kernel
theorem dX3_keep_61 : decode cX3_keep 61 = .ok (.iadd, 1) := by decide +kernel
theorem dX3_keep_62 : decode cX3_keep 62 = .ok (.bipush 64, 2) := by decide +kernel
theorem dX3_keep_64 : decode cX3_keep 64 = .ok (.invokestatic 33, 3) := by decide +kernel
theorem dX3_keep_67 : decode cX3_keep 67 = .ok (.putfield 30, 3) := by decide +kernel
theorem dX3_keep_70 : decode cX3_keep 70 = .ok (.return_, 1) := by decide +kernel
set_option maxRecDepth 20000 in
theorem ggX3_takeBack_X2_copyFrom : GoodIn wsX3_takeBack wsX2_copyFrom := goodIn_r _ [8, 9, 10, 11, 12, 13, 14, 15, 16, 17, 18, 19, 24, 25, 26, 27, 28, 29, 30] (by decide +kernel) (by decide +kernel)
set_option maxRecDepth 20000 in
theorem gX3_takeBack_X2_copyFrom : GoodIn wsX3_takeBack (wsV RX3 22 RX2 yX2_copyFrom wsX2_copyFrom) := goodIn_app (goodIn_of _ (by decide +kernel)) ggX3_takeBack_X2_copyFrom
theorem dX3_takeBack_0 : decode cX3_takeBack 0 = .ok (.aload_n 0, 1) := by decide +kernel
theorem dX3_takeBack_1 : decode cX3_takeBack 1 = .ok (.getfield 30, 3) := by decide +kernel
theorem dX3_takeBack_4 : decode cX3_takeBack 4 = .ok (.ifCond .ne 5, 3) := by decide +kernel
theorem dX3_takeBack_7 : decode cX3_takeBack 7 = .ok (.iconst 0, 1) := by decide +kernel
theorem dX3_takeBack_8 : decode cX3_takeBack 8 = .ok (.ireturn, 1) := by decide +kernel
theorem dX3_takeBack_9 : decode cX3_takeBack 9 = .ok (.aload_n 0, 1) := by decide +kernel
theorem dX3_takeBack_10 : decode cX3_takeBack 10 = .ok (.aload_n 0, 1) := by decide +kernel
theorem dX3_takeBack_11 : decode cX3_takeBack 11 = .ok (.getfield 26, 3) := by decide +kernel
theorem dX3_takeBack_14 : decode cX3_takeBack 14 = .ok (.bipush 64, 2) := by decide +kernel
theorem dX3_takeBack_16 : decode cX3_takeBack 16 = .ok (.iadd, 1) := by decide +kernel
theorem dX3_takeBack_17 : decode cX3_takeBack 17 = .ok (.iconst 1, 1) := by decide +kernel
theorem dX3_takeBack_18 : decode cX3_takeBack 18 = .ok (.isub, 1) := by decide +kernel
theorem dX3_takeBack_19 : decode cX3_takeBack 19 = .ok (.bipush 64, 2) := by decide +kernel
theorem dX3_takeBack_21 : decode cX3_takeBack 21 = .ok (.irem, 1) := by decide +kernel
theorem dX3_takeBack_22 : decode cX3_takeBack 22 = .ok (.putfield 26, 3) := by decide +kernel
theorem dX3_takeBack_25 : decode cX3_takeBack 25 = .ok (.aload_n 0, 1) := by decide +kernel
theorem dX3_takeBack_26 : decode cX3_takeBack 26 = .ok (.dup, 1) := by decide +kernel
theorem dX3_takeBack_27 : decode cX3_takeBack 27 = .ok (.getfield 30, 3) := by decide +kernel
theorem dX3_takeBack_30 : decode cX3_takeBack 30 = .ok (.iconst 1, 1) := by decide +kernel
theorem dX3_takeBack_31 : decode cX3_takeBack 31 = .ok (.isub, 1) := by decide +kernel
theorem dX3_takeBack_32 : decode cX3_takeBack 32 = .ok (.putfield 30, 3) := by decide +kernel
theorem dX3_takeBack_35 : decode cX3_takeBack 35 = .ok (.aload_n 0, 1) := by decide +kernel
theorem dX3_takeBack_36 : decode cX3_takeBack 36 = .ok (.getfield 18, 3) := by decide +kernel
theorem dX3_takeBack_39 : decode cX3_takeBack 39 = .ok (.aload_n 0, 1) := by decide +kernel
theorem dX3_takeBack_40 : decode cX3_takeBack 40 = .ok (.getfield 26, 3) := by decide +kernel
theorem dX3_takeBack_43 : decode cX3_takeBack 43 = .ok (.aaload, 1) := by decide +kernel
theorem dX3_takeBack_44 : decode cX3_takeBack 44 = .ok (.astore_n 2, 1) := by decide +kernel
theorem dX3_takeBack_45 : decode cX3_takeBack 45 = .ok (.aload_n 2, 1) := by decide +kernel
theorem dX3_takeBack_46 : decode cX3_takeBack 46 = .ok (.ifnonnull 5, 3) := by decide +kernel
theorem dX3_takeBack_49 : decode cX3_takeBack 49 = .ok (.iconst 0, 1) := by decide +kernel
theorem dX3_takeBack_50 : decode cX3_takeBack 50 = .ok (.ireturn, 1) := by decide +kernel
theorem dX3_takeBack_51 : decode cX3_takeBack 51 = .ok (.aload_n 1, 1) := by decide +kernel
theorem dX3_takeBack_52 : decode cX3_takeBack 52 = .ok (.aload_n 2, 1) := by decide +kernel
theorem dX3_takeBack_53 : decode cX3_takeBack 53 = .ok (.invokevirtual 22, 3) := by decide +kernel
theorem dX3_takeBack_56 : decode cX3_takeBack 56 = .ok (.iconst 1, 1) := by decide +kernel
theorem dX3_takeBack_57 : decode cX3_takeBack 57 = .ok (.ireturn, 1) := by decide +kernel
theorem dX3_forget_0 : decode cX3_forget 0 = .ok (.aload_n 0, 1) := by decide +kernel
theorem dX3_forget_1 : decode cX3_forget 1 = .ok (.iconst 0, 1) := by decide +kernel
theorem dX3_forget_2 : decode cX3_forget 2 = .ok (.putfield 30, 3) := by decide +kernel
theorem dX3_forget_5 : decode cX3_forget 5 = .ok (.return_, 1) := by decide +kernel
theorem dX4_init_0 : decode cX4_init 0 = .ok (.aload_n 0, 1) := by decide +kernel
theorem dX4_init_1 : decode cX4_init 1 = .ok (.invokespecial 3, 3) := by decide +kernel
theorem dX4_init_4 : decode cX4_init 4 = .ok (.aload_n 0, 1) := by decide +kernel
theorem dX4_init_5 : decode cX4_init 5 = .ok (.bipush 60, 2) := by decide +kernel
theorem dX4_init_7 : decode cX4_init 7 = .ok (.newarray .int, 2) := by decide +kernel
theorem dX4_init_9 : decode cX4_init 9 = .ok (.putfield 9, 3) := by decide +kernel
theorem dX4_init_12 : decode cX4_init 12 = .ok (.aload_n 0, 1) := by decide +kernel
theorem dX4_init_13 : decode cX4_init 13 = .ok (.bipush 60, 2) := by decide +kernel
theorem dX4_init_15 : decode cX4_init 15 = .ok (.newarray .int, 2) := by decide +kernel
theorem dX4_init_17 : decode cX4_init 17 = .ok (.putfield 15, 3) := by decide +kernel
theorem dX4_init_20 : decode cX4_init 20 = .ok (.return_, 1) := by decide +kernel
set_option maxRecDepth 20000 in
theorem ggX4_find_X4_measure : GoodIn wsX4_find wsX4_measure := goodIn_r _ [12, 1, 13, 14, 15, 2, 3, 4, 5, 16, 17, 18, 19, 20, 21, 22, 23, 24, 25, 26, 27, 28, 33, 34, 35, 36, 37, 38, 39, 40, 41, 42] (by decide +kernel) (by decide +kernel)
set_option maxRecDepth 20000 in
theorem gX4_find_X4_measure : GoodIn wsX4_find (wsV RX4 18 RX4 yX4_measure wsX4_measure) := goodIn_app (goodIn_of _ (by decide +kernel)) ggX4_find_X4_measure
set_option maxRecDepth 20000 in
theorem ggX4_find_X4_nearer : GoodIn wsX4_find wsX4_nearer := goodIn_r _ [32, 15, 1, 20, 21, 22, 23, 24, 25, 26, 27, 28, 36, 37, 38, 39, 40, 41, 42, 33, 34, 35] (by decide +kernel) (by decide +kernel)
set_option maxRecDepth 20000 in
theorem gX4_find_X4_nearer : GoodIn wsX4_find (wsV RX4 32 RX4 yX4_nearer wsX4_nearer) := goodIn_app (goodIn_of _ (by decide +kernel)) ggX4_find_X4_nearer
theorem dX4_find_0 : decode cX4_find 0 = .ok (.aload_n 0, 1) := by decide +kernel
theorem dX4_find_1 : decode cX4_find 1 = .ok (.aload_n 1, 1) := by decide +kernel
theorem dX4_find_2 : decode cX4_find 2 = .ok (.iload_n 2, 1) := by decide +kernel
theorem dX4_find_3 : decode cX4_find 3 = .ok (.iload_n 3, 1) := by decide +kernel
theorem dX4_find_4 : decode cX4_find 4 = .ok (.invokevirtual 18, 3) := by decide +kernel
theorem dX4_find_7 : decode cX4_find 7 = .ok (.iload_n 2, 1) := by decide +kernel
theorem dX4_find_8 : decode cX4_find 8 = .ok (.istore 4, 2) := by decide +kernel
theorem dX4_find_10 : decode cX4_find 10 = .ok (.aload_n 0, 1) := by decide +kernel
theorem dX4_find_11 : decode cX4_find 11 = .ok (.getfield 15, 3) := by decide +kernel
theorem dX4_find_14 : decode cX4_find 14 = .ok (.iload_n 2, 1) := by decide +kernel
theorem dX4_find_15 : decode cX4_find 15 = .ok (.iaload, 1) := by decide +kernel
theorem dX4_find_16 : decode cX4_find 16 = .ok (.bipush 59, 2) := by decide +kernel
theorem dX4_find_18 : decode cX4_find 18 = .ok (.invokestatic 22, 3) := by decide +kernel
theorem dX4_find_21 : decode cX4_find 21 = .ok (.istore 5, 2) := by decide +kernel
theorem dX4_find_23 : decode cX4_find 23 = .ok (.aload_n 0, 1) := by decide +kernel
theorem dX4_find_24 : decode cX4_find 24 = .ok (.iconst 0, 1) := by decide +kernel
theorem dX4_find_25 : decode cX4_find 25 = .ok (.putfield 28, 3) := by decide +kernel
theorem dX4_find_28 : decode cX4_find 28 = .ok (.iconst 0, 1) := by decide +kernel
theorem dX4_find_29 : decode cX4_find 29 = .ok (.istore 6, 2) := by decide +kernel
theorem dX4_find_31 : decode cX4_find 31 = .ok (.iload 6, 2) := by decide +kernel
theorem dX4_find_33 : decode cX4_find 33 = .ok (.iload 5, 2) := by decide +kernel
theorem dX4_find_35 : decode cX4_find 35 = .ok (.if_icmp .gt 45, 3) := by decide +kernel
theorem dX4_find_38 : decode cX4_find 38 = .ok (.iload 4, 2) := by decide +kernel
theorem dX4_find_40 : decode cX4_find 40 = .ok (.iconst (-1), 1) := by decide +kernel
theorem dX4_find_41 : decode cX4_find 41 = .ok (.if_icmp .eq 39, 3) := by decide +kernel
theorem dX4_find_44 : decode cX4_find 44 = .ok (.aload_n 0, 1) := by decide +kernel
theorem dX4_find_45 : decode cX4_find 45 = .ok (.getfield 9, 3) := by decide +kernel
theorem dX4_find_48 : decode cX4_find 48 = .ok (.aload_n 0, 1) := by decide +kernel
theorem dX4_find_49 : decode cX4_find 49 = .ok (.getfield 28, 3) := by decide +kernel
theorem dX4_find_52 : decode cX4_find 52 = .ok (.iload 4, 2) := by decide +kernel
theorem dX4_find_54 : decode cX4_find 54 = .ok (.iastore, 1) := by decide +kernel
theorem dX4_find_55 : decode cX4_find 55 = .ok (.aload_n 0, 1) := by decide +kernel
theorem dX4_find_56 : decode cX4_find 56 = .ok (.dup, 1) := by decide +kernel
theorem dX4_find_57 : decode cX4_find 57 = .ok (.getfield 28, 3) := by decide +kernel
theorem dX4_find_60 : decode cX4_find 60 = .ok (.iconst 1, 1) := by decide +kernel
theorem dX4_find_61 : decode cX4_find 61 = .ok (.iadd, 1) := by decide +kernel
theorem dX4_find_62 : decode cX4_find 62 = .ok (.putfield 28, 3) := by decide +kernel
theorem dX4_find_65 : decode cX4_find 65 = .ok (.aload_n 0, 1) := by decide +kernel
theorem dX4_find_66 : decode cX4_find 66 = .ok (.aload_n 1, 1) := by decide +kernel
theorem dX4_find_67 : decode cX4_find 67 = .ok (.iload 4, 2) := by decide +kernel
theorem dX4_find_69 : decode cX4_find 69 = .ok (.invokevirtual 32, 3) := by decide +kernel
theorem dX4_find_72 : decode cX4_find 72 = .ok (.istore 4, 2) := by decide +kernel
theorem dX4_find_74 : decode cX4_find 74 = .ok (.iinc 6 1, 3) := by decide +kernel
theorem dX4_find_77 : decode cX4_find 77 = .ok (.goto (-46), 3) := by decide +kernel
theorem dX4_find_80 : decode cX4_find 80 = .ok (.return_, 1) := by decide +kernel
set_option maxRecDepth 20000 in
theorem ggX4_measure_J7_fill_53178 : GoodIn wsX4_measure wsJ7_fill_53178 := goodIn_r _ [12] (by decide +kernel) (by decide +kernel)
set_option maxRecDepth 20000 in
theorem gX4_measure_J7_fill_53178 : GoodIn wsX4_measure (va_wsS RX4 36 yJ7_fill_53178 wsJ7_fill_53178) := goodIn_app (goodIn_of _ (by decide +kernel)) ggX4_measure_J7_fill_53178
set_option maxRecDepth 20000 in
theorem ggX4_measure_X2_hasTie : GoodIn wsX4_measure wsX2_hasTie := goodIn_r _ [17, 18, 19, 20, 21, 25, 26, 27, 28, 29, 30, 31] (by decide +kernel) (by decide +kernel)
set_option maxRecDepth 20000 in
theorem gX4_measure_X2_hasTie : GoodIn wsX4_measure (wsV RX4 53 RX2 yX2_hasTie wsX2_hasTie) := goodIn_app (goodIn_of _ (by decide +kernel)) ggX4_measure_X2_hasTie
theorem dX4_measure_0 : decode cX4_measure 0 = .ok (.aload_n 0, 1) := by decide +kernel
theorem dX4_measure_1 : decode cX4_measure 1 = .ok (.getfield 15, 3) := by decide +kernel
theorem dX4_measure_4 : decode cX4_measure 4 = .ok (.sipush 1000, 3) := by decide +kernel
theorem dX4_measure_7 : decode cX4_measure 7 = .ok (.invokestatic 36, 3) := by decide +kernel
theorem dX4_measure_10 : decode cX4_measure 10 = .ok (.aload_n 0, 1) := by decide +kernel
theorem dX4_measure_11 : decode cX4_measure 11 = .ok (.getfield 15, 3) := by decide +kernel
theorem dX4_measure_14 : decode cX4_measure 14 = .ok (.iload_n 3, 1) := by decide +kernel
theorem dX4_measure_15 : decode cX4_measure 15 = .ok (.iconst 0, 1) := by decide +kernel
theorem dX4_measure_16 : decode cX4_measure 16 = .ok (.iastore, 1) := by decide +kernel
theorem dX4_measure_17 : decode cX4_measure 17 = .ok (.aload_n 1, 1) := by decide +kernel
theorem dX4_measure_18 : decode cX4_measure 18 = .ok (.getfield 42, 3) := by decide +kernel
theorem dX4_measure_21 : decode cX4_measure 21 = .ok (.iload_n 3, 1) := by decide +kernel
theorem dX4_measure_22 : decode cX4_measure 22 = .ok (.iaload, 1) := by decide +kernel
theorem dX4_measure_23 : decode cX4_measure 23 = .ok (.iconst 1, 1) := by decide +kernel
theorem dX4_measure_24 : decode cX4_measure 24 = .ok (.isub, 1) := by decide +kernel
theorem dX4_measure_25 : decode cX4_measure 25 = .ok (.istore 4, 2) := by decide +kernel
theorem dX4_measure_27 : decode cX4_measure 27 = .ok (.iload 4, 2) := by decide +kernel
theorem dX4_measure_29 : decode cX4_measure 29 = .ok (.aload_n 1, 1) := by decide +kernel
theorem dX4_measure_30 : decode cX4_measure 30 = .ok (.getfield 42, 3) := by decide +kernel
theorem dX4_measure_33 : decode cX4_measure 33 = .ok (.iload_n 2, 1) := by decide +kernel
theorem dX4_measure_34 : decode cX4_measure 34 = .ok (.iaload, 1) := by decide +kernel
theorem dX4_measure_35 : decode cX4_measure 35 = .ok (.if_icmp .lt 73, 3) := by decide +kernel
theorem dX4_measure_38 : decode cX4_measure 38 = .ok (.aload_n 1, 1) := by decide +kernel
theorem dX4_measure_39 : decode cX4_measure 39 = .ok (.getfield 47, 3) := by decide +kernel
theorem dX4_measure_42 : decode cX4_measure 42 = .ok (.iload 4, 2) := by decide +kernel
theorem dX4_measure_44 : decode cX4_measure 44 = .ok (.iaload, 1) := by decide +kernel
theorem dX4_measure_45 : decode cX4_measure 45 = .ok (.istore 5, 2) := by decide +kernel
theorem dX4_measure_47 : decode cX4_measure 47 = .ok (.iconst 0, 1) := by decide +kernel
theorem dX4_measure_48 : decode cX4_measure 48 = .ok (.istore 6, 2) := by decide +kernel
theorem dX4_measure_50 : decode cX4_measure 50 = .ok (.iload 6, 2) := by decide +kernel
theorem dX4_measure_52 : decode cX4_measure 52 = .ok (.aload_n 1, 1) := by decide +kernel
theorem dX4_measure_53 : decode cX4_measure 53 = .ok (.getfield 50, 3) := by decide +kernel
theorem dX4_measure_56 : decode cX4_measure 56 = .ok (.if_icmp .ge 46, 3) := by decide +kernel
theorem dX4_measure_59 : decode cX4_measure 59 = .ok (.aload_n 1, 1) := by decide +kernel
theorem dX4_measure_60 : decode cX4_measure 60 = .ok (.iload 5, 2) := by decide +kernel
theorem dX4_measure_62 : decode cX4_measure 62 = .ok (.iload 6, 2) := by decide +kernel
theorem dX4_measure_64 : decode cX4_measure 64 = .ok (.invokevirtual 53, 3) := by decide +kernel
theorem dX4_measure_67 : decode cX4_measure 67 = .ok (.ifCond .eq 29, 3) := by decide +kernel
theorem dX4_measure_70 : decode cX4_measure 70 = .ok (.aload_n 0, 1) := by decide +kernel
theorem dX4_measure_71 : decode cX4_measure 71 = .ok (.getfield 15, 3) := by decide +kernel
theorem dX4_measure_74 : decode cX4_measure 74 = .ok (.iload 5, 2) := by decide +kernel
theorem dX4_measure_76 : decode cX4_measure 76 = .ok (.aload_n 0, 1) := by decide +kernel
theorem dX4_measure_77 : decode cX4_measure 77 = .ok (.getfield 15, 3) := by decide +kernel
theorem dX4_measure_80 : decode cX4_measure 80 = .ok (.iload 5, 2) := by decide +kernel
theorem dX4_measure_82 : decode cX4_measure 82 = .ok (.iaload, 1) := by decide +kernel
theorem dX4_measure_83 : decode cX4_measure 83 = .ok (.aload_n 0, 1) := by decide +kernel
theorem dX4_measure_84 : decode cX4_measure 84 = .ok (.getfield 15, 3) := by decide +kernel
theorem dX4_measure_87 : decode cX4_measure 87 = .ok (.iload 6, 2) := by decide +kernel
theorem dX4_measure_89 : decode cX4_measure 89 = .ok (.iaload, 1) := by decide +kernel
theorem dX4_measure_90 : decode cX4_measure 90 = .ok (.iconst 1, 1) := by decide +kernel
theorem dX4_measure_91 : decode cX4_measure 91 = .ok (.iadd, 1) := by decide +kernel
theorem dX4_measure_92 : decode cX4_measure 92 = .ok (.invokestatic 22, 3) := by decide +kernel
theorem dX4_measure_95 : decode cX4_measure 95 = .ok (.iastore, 1) := by decide +kernel
theorem dX4_measure_96 : decode cX4_measure 96 = .ok (.iinc 6 1, 3) := by decide +kernel
theorem dX4_measure_99 : decode cX4_measure 99 = .ok (.goto (-49), 3) := by decide +kernel
theorem dX4_measure_102 : decode cX4_measure 102 = .ok (.iinc 4 (-1), 3) := by decide +kernel
theorem dX4_measure_105 : decode cX4_measure 105 = .ok (.goto (-78), 3) := by decide +kernel
theorem dX4_measure_108 : decode cX4_measure 108 = .ok (.return_, 1) := by decide +kernel
set_option maxRecDepth 20000 in
theorem ggX4_nearer_X2_hasTie : GoodIn wsX4_nearer wsX2_hasTie := goodIn_r _ [7, 8, 9, 10, 11, 12, 13, 14, 15, 16, 17, 18] (by decide +kernel) (by decide +kernel)
