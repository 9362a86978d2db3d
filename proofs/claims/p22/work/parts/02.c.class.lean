theorem dX0_init_0 : decode cX0_init 0 = .ok (.aload_n 0, 1) := by decide +kernel
theorem dX0_init_1 : decode cX0_init 1 = .ok (.invokespecial 1, 3) := by decide +kernel
theorem dX0_init_4 : decode cX0_init 4 = .ok (.aload_n 0, 1) := by decide +kernel
theorem dX0_init_5 : decode cX0_init 5 = .ok (.iconst (-1), 1) := by decide +kernel
theorem dX0_init_6 : decode cX0_init 6 = .ok (.putfield 9, 3) := by decide +kernel
theorem dX0_init_9 : decode cX0_init 9 = .ok (.aload_n 0, 1) := by decide +kernel
theorem dX0_init_10 : decode cX0_init 10 = .ok (.iconst (-1), 1) := by decide +kernel
theorem dX0_init_11 : decode cX0_init 11 = .ok (.putfield 13, 3) := by decide +kernel
theorem dX0_init_14 : decode cX0_init 14 = .ok (.return_, 1) := by decide +kernel
set_option maxRecDepth 20000 in
theorem ggX0_begin_J6_bitCount_0f7a4 : GoodIn wsX0_begin wsJ6_bitCount_0f7a4 := goodIn_r _ [12, 13, 14, 15] (by decide +kernel) (by decide +kernel)
set_option maxRecDepth 20000 in
theorem gX0_begin_J6_bitCount_0f7a4 : GoodIn wsX0_begin (va_wsS RX0 19 yJ6_bitCount_0f7a4 wsJ6_bitCount_0f7a4) := goodIn_app (goodIn_of _ (by decide +kernel)) ggX0_begin_J6_bitCount_0f7a4
theorem dX0_begin_0 : decode cX0_begin 0 = .ok (.aload_n 0, 1) := by decide +kernel
theorem dX0_begin_1 : decode cX0_begin 1 = .ok (.getfield 16, 3) := by decide +kernel
theorem dX0_begin_4 : decode cX0_begin 4 = .ok (.invokestatic 19, 3) := by decide +kernel
theorem dX0_begin_7 : decode cX0_begin 7 = .ok (.istore_n 2, 1) := by decide +kernel
theorem dX0_begin_8 : decode cX0_begin 8 = .ok (.aload_n 0, 1) := by decide +kernel
theorem dX0_begin_9 : decode cX0_begin 9 = .ok (.iload_n 1, 1) := by decide +kernel
theorem dX0_begin_10 : decode cX0_begin 10 = .ok (.putfield 25, 3) := by decide +kernel
theorem dX0_begin_13 : decode cX0_begin 13 = .ok (.aload_n 0, 1) := by decide +kernel
theorem dX0_begin_14 : decode cX0_begin 14 = .ok (.iconst 0, 1) := by decide +kernel
theorem dX0_begin_15 : decode cX0_begin 15 = .ok (.putfield 29, 3) := by decide +kernel
theorem dX0_begin_18 : decode cX0_begin 18 = .ok (.aload_n 0, 1) := by decide +kernel
theorem dX0_begin_19 : decode cX0_begin 19 = .ok (.iconst 0, 1) := by decide +kernel
theorem dX0_begin_20 : decode cX0_begin 20 = .ok (.putfield 32, 3) := by decide +kernel
theorem dX0_begin_23 : decode cX0_begin 23 = .ok (.aload_n 0, 1) := by decide +kernel
theorem dX0_begin_24 : decode cX0_begin 24 = .ok (.iconst (-1), 1) := by decide +kernel
theorem dX0_begin_25 : decode cX0_begin 25 = .ok (.putfield 9, 3) := by decide +kernel
theorem dX0_begin_28 : decode cX0_begin 28 = .ok (.aload_n 0, 1) := by decide +kernel
theorem dX0_begin_29 : decode cX0_begin 29 = .ok (.iconst (-1), 1) := by decide +kernel
theorem dX0_begin_30 : decode cX0_begin 30 = .ok (.putfield 13, 3) := by decide +kernel
theorem dX0_begin_33 : decode cX0_begin 33 = .ok (.aload_n 0, 1) := by decide +kernel
theorem dX0_begin_34 : decode cX0_begin 34 = .ok (.iconst 0, 1) := by decide +kernel
theorem dX0_begin_35 : decode cX0_begin 35 = .ok (.putfield 16, 3) := by decide +kernel
theorem dX0_begin_38 : decode cX0_begin 38 = .ok (.aload_n 0, 1) := by decide +kernel
theorem dX0_begin_39 : decode cX0_begin 39 = .ok (.iconst 0, 1) := by decide +kernel
theorem dX0_begin_40 : decode cX0_begin 40 = .ok (.putfield 35, 3) := by decide +kernel
theorem dX0_begin_43 : decode cX0_begin 43 = .ok (.aload_n 0, 1) := by decide +kernel
theorem dX0_begin_44 : decode cX0_begin 44 = .ok (.lconst 0, 1) := by decide +kernel
theorem dX0_begin_45 : decode cX0_begin 45 = .ok (.putfield 38, 3) := by decide +kernel
theorem dX0_begin_48 : decode cX0_begin 48 = .ok (.iload_n 2, 1) := by decide +kernel
theorem dX0_begin_49 : decode cX0_begin 49 = .ok (.ireturn, 1) := by decide +kernel
set_option maxRecDepth 20000 in
theorem ggX0_give_X0_isNumber : GoodIn wsX0_give wsX0_isNumber := goodIn_r _ [12] (by decide +kernel) (by decide +kernel)
set_option maxRecDepth 20000 in
theorem gX0_give_X0_isNumber : GoodIn wsX0_give (va_wsS RX0 42 yX0_isNumber wsX0_isNumber) := goodIn_app (goodIn_of _ (by decide +kernel)) ggX0_give_X0_isNumber
set_option maxRecDepth 20000 in
theorem ggX0_give_X0_has : GoodIn wsX0_give wsX0_has := goodIn_r _ [15] (by decide +kernel) (by decide +kernel)
set_option maxRecDepth 20000 in
theorem gX0_give_X0_has : GoodIn wsX0_give (va_wsS RX0 58 yX0_has wsX0_has) := goodIn_app (goodIn_of _ (by decide +kernel)) ggX0_give_X0_has
theorem dX0_give_0 : decode cX0_give 0 = .ok (.iload_n 1, 1) := by decide +kernel
theorem dX0_give_1 : decode cX0_give 1 = .ok (.invokestatic 42, 3) := by decide +kernel
theorem dX0_give_4 : decode cX0_give 4 = .ok (.ifCond .ne 13, 3) := by decide +kernel
theorem dX0_give_7 : decode cX0_give 7 = .ok (.new 46, 3) := by decide +kernel
theorem dX0_give_10 : decode cX0_give 10 = .ok (.dup, 1) := by decide +kernel
theorem dX0_give_11 : decode cX0_give 11 = .ok (.ldc 48, 2) := by decide +kernel
theorem dX0_give_13 : decode cX0_give 13 = .ok (.invokespecial 50, 3) := by decide +kernel
theorem dX0_give_16 : decode cX0_give 16 = .ok (.athrow, 1) := by decide +kernel
theorem dX0_give_17 : decode cX0_give 17 = .ok (.aload_n 0, 1) := by decide +kernel
theorem dX0_give_18 : decode cX0_give 18 = .ok (.getfield 29, 3) := by decide +kernel
theorem dX0_give_21 : decode cX0_give 21 = .ok (.ifCond .eq 13, 3) := by decide +kernel
theorem dX0_give_24 : decode cX0_give 24 = .ok (.new 53, 3) := by decide +kernel
theorem dX0_give_27 : decode cX0_give 27 = .ok (.dup, 1) := by decide +kernel
theorem dX0_give_28 : decode cX0_give 28 = .ok (.ldc 55, 2) := by decide +kernel
theorem dX0_give_30 : decode cX0_give 30 = .ok (.invokespecial 57, 3) := by decide +kernel
theorem dX0_give_33 : decode cX0_give 33 = .ok (.athrow, 1) := by decide +kernel
theorem dX0_give_34 : decode cX0_give 34 = .ok (.aload_n 0, 1) := by decide +kernel
theorem dX0_give_35 : decode cX0_give 35 = .ok (.getfield 35, 3) := by decide +kernel
theorem dX0_give_38 : decode cX0_give 38 = .ok (.iload_n 1, 1) := by decide +kernel
theorem dX0_give_39 : decode cX0_give 39 = .ok (.invokestatic 58, 3) := by decide +kernel
theorem dX0_give_42 : decode cX0_give 42 = .ok (.ifCond .eq 13, 3) := by decide +kernel
theorem dX0_give_45 : decode cX0_give 45 = .ok (.new 53, 3) := by decide +kernel
theorem dX0_give_48 : decode cX0_give 48 = .ok (.dup, 1) := by decide +kernel
theorem dX0_give_49 : decode cX0_give 49 = .ok (.ldc 62, 2) := by decide +kernel
theorem dX0_give_51 : decode cX0_give 51 = .ok (.invokespecial 57, 3) := by decide +kernel
theorem dX0_give_54 : decode cX0_give 54 = .ok (.athrow, 1) := by decide +kernel
theorem dX0_give_55 : decode cX0_give 55 = .ok (.aload_n 0, 1) := by decide +kernel
theorem dX0_give_56 : decode cX0_give 56 = .ok (.iload_n 1, 1) := by decide +kernel
theorem dX0_give_57 : decode cX0_give 57 = .ok (.putfield 9, 3) := by decide +kernel
theorem dX0_give_60 : decode cX0_give 60 = .ok (.aload_n 0, 1) := by decide +kernel
theorem dX0_give_61 : decode cX0_give 61 = .ok (.iconst 1, 1) := by decide +kernel
theorem dX0_give_62 : decode cX0_give 62 = .ok (.aload_n 0, 1) := by decide +kernel
theorem dX0_give_63 : decode cX0_give 63 = .ok (.getfield 32, 3) := by decide +kernel
theorem dX0_give_66 : decode cX0_give 66 = .ok (.isub, 1) := by decide +kernel
theorem dX0_give_67 : decode cX0_give 67 = .ok (.putfield 32, 3) := by decide +kernel
theorem dX0_give_70 : decode cX0_give 70 = .ok (.aload_n 0, 1) := by decide +kernel
theorem dX0_give_71 : decode cX0_give 71 = .ok (.iconst 1, 1) := by decide +kernel
theorem dX0_give_72 : decode cX0_give 72 = .ok (.putfield 29, 3) := by decide +kernel
theorem dX0_give_75 : decode cX0_give 75 = .ok (.aload_n 0, 1) := by decide +kernel
theorem dX0_give_76 : decode cX0_give 76 = .ok (.getfield 32, 3) := by decide +kernel
theorem dX0_give_79 : decode cX0_give 79 = .ok (.ireturn, 1) := by decide +kernel
set_option maxRecDepth 20000 in
theorem ggX0_place_X0_isNumber : GoodIn wsX0_place wsX0_isNumber := goodIn_r _ [14] (by decide +kernel) (by decide +kernel)
set_option maxRecDepth 20000 in
theorem gX0_place_X0_isNumber : GoodIn wsX0_place (va_wsS RX0 42 yX0_isNumber wsX0_isNumber) := goodIn_app (goodIn_of _ (by decide +kernel)) ggX0_place_X0_isNumber
set_option maxRecDepth 20000 in
theorem ggX0_place_X0_has : GoodIn wsX0_place wsX0_has := goodIn_r _ [17] (by decide +kernel) (by decide +kernel)
set_option maxRecDepth 20000 in
theorem gX0_place_X0_has : GoodIn wsX0_place (va_wsS RX0 58 yX0_has wsX0_has) := goodIn_app (goodIn_of _ (by decide +kernel)) ggX0_place_X0_has
set_option maxRecDepth 20000 in
theorem ggX0_place_X0_put : GoodIn wsX0_place wsX0_put := goodIn_r _ [21, 6, 22, 23, 24, 25, 13, 26, 27, 28, 29, 47, 48, 49, 50, 51, 52, 53, 54, 55, 56, 57] (by decide +kernel) (by decide +kernel)
set_option maxRecDepth 20000 in
theorem gX0_place_X0_put : GoodIn wsX0_place (wsV RX0 70 RX0 yX0_put wsX0_put) := goodIn_app (goodIn_of _ (by decide +kernel)) ggX0_place_X0_put
set_option maxRecDepth 20000 in
theorem ggX0_place_X0_wonLines : GoodIn wsX0_place wsX0_wonLines := goodIn_r _ [33, 34, 6, 35, 36, 37, 13, 38, 39, 40, 41, 42, 43, 23, 44, 45, 46, 10, 47, 48, 49, 50, 51, 52, 53, 54, 55, 56, 57] (by decide +kernel) (by decide +kernel)
set_option maxRecDepth 20000 in
theorem gX0_place_X0_wonLines : GoodIn wsX0_place (wsV RX0 74 RX0 yX0_wonLines wsX0_wonLines) := goodIn_app (goodIn_of _ (by decide +kernel)) ggX0_place_X0_wonLines
theorem dX0_place_0 : decode cX0_place 0 = .ok (.iload_n 1, 1) := by decide +kernel
theorem dX0_place_1 : decode cX0_place 1 = .ok (.invokestatic 42, 3) := by decide +kernel
theorem dX0_place_4 : decode cX0_place 4 = .ok (.ifCond .ne 13, 3) := by decide +kernel
theorem dX0_place_7 : decode cX0_place 7 = .ok (.new 46, 3) := by decide +kernel
theorem dX0_place_10 : decode cX0_place 10 = .ok (.dup, 1) := by decide +kernel
theorem dX0_place_11 : decode cX0_place 11 = .ok (.ldc 64, 2) := by decide +kernel
theorem dX0_place_13 : decode cX0_place 13 = .ok (.invokespecial 50, 3) := by decide +kernel
theorem dX0_place_16 : decode cX0_place 16 = .ok (.athrow, 1) := by decide +kernel
theorem dX0_place_17 : decode cX0_place 17 = .ok (.aload_n 0, 1) := by decide +kernel
theorem dX0_place_18 : decode cX0_place 18 = .ok (.getfield 29, 3) := by decide +kernel
theorem dX0_place_21 : decode cX0_place 21 = .ok (.iconst 1, 1) := by decide +kernel
theorem dX0_place_22 : decode cX0_place 22 = .ok (.if_icmp .eq 13, 3) := by decide +kernel
theorem dX0_place_25 : decode cX0_place 25 = .ok (.new 53, 3) := by decide +kernel
theorem dX0_place_28 : decode cX0_place 28 = .ok (.dup, 1) := by decide +kernel
theorem dX0_place_29 : decode cX0_place 29 = .ok (.ldc 66, 2) := by decide +kernel
theorem dX0_place_31 : decode cX0_place 31 = .ok (.invokespecial 57, 3) := by decide +kernel
theorem dX0_place_34 : decode cX0_place 34 = .ok (.athrow, 1) := by decide +kernel
theorem dX0_place_35 : decode cX0_place 35 = .ok (.aload_n 0, 1) := by decide +kernel
theorem dX0_place_36 : decode cX0_place 36 = .ok (.getfield 16, 3) := by decide +kernel
theorem dX0_place_39 : decode cX0_place 39 = .ok (.iload_n 1, 1) := by decide +kernel
theorem dX0_place_40 : decode cX0_place 40 = .ok (.invokestatic 58, 3) := by decide +kernel
theorem dX0_place_43 : decode cX0_place 43 = .ok (.ifCond .eq 13, 3) := by decide +kernel
theorem dX0_place_46 : decode cX0_place 46 = .ok (.new 53, 3) := by decide +kernel
theorem dX0_place_49 : decode cX0_place 49 = .ok (.dup, 1) := by decide +kernel
theorem dX0_place_50 : decode cX0_place 50 = .ok (.ldc 68, 2) := by decide +kernel
theorem dX0_place_52 : decode cX0_place 52 = .ok (.invokespecial 57, 3) := by decide +kernel
theorem dX0_place_55 : decode cX0_place 55 = .ok (.athrow, 1) := by decide +kernel
theorem dX0_place_56 : decode cX0_place 56 = .ok (.aload_n 0, 1) := by decide +kernel
theorem dX0_place_57 : decode cX0_place 57 = .ok (.aload_n 0, 1) := by decide +kernel
theorem dX0_place_58 : decode cX0_place 58 = .ok (.getfield 9, 3) := by decide +kernel
theorem dX0_place_61 : decode cX0_place 61 = .ok (.iload_n 1, 1) := by decide +kernel
theorem dX0_place_62 : decode cX0_place 62 = .ok (.invokevirtual 70, 3) := by decide +kernel
theorem dX0_place_65 : decode cX0_place 65 = .ok (.aload_n 0, 1) := by decide +kernel
theorem dX0_place_66 : decode cX0_place 66 = .ok (.iconst (-1), 1) := by decide +kernel
theorem dX0_place_67 : decode cX0_place 67 = .ok (.putfield 9, 3) := by decide +kernel
theorem dX0_place_70 : decode cX0_place 70 = .ok (.aload_n 0, 1) := by decide +kernel
theorem dX0_place_71 : decode cX0_place 71 = .ok (.invokevirtual 74, 3) := by decide +kernel
theorem dX0_place_74 : decode cX0_place 74 = .ok (.istore_n 2, 1) := by decide +kernel
theorem dX0_place_75 : decode cX0_place 75 = .ok (.iload_n 2, 1) := by decide +kernel
theorem dX0_place_76 : decode cX0_place 76 = .ok (.ifCond .le 19, 3) := by decide +kernel
theorem dX0_place_79 : decode cX0_place 79 = .ok (.aload_n 0, 1) := by decide +kernel
theorem dX0_place_80 : decode cX0_place 80 = .ok (.iconst 2, 1) := by decide +kernel
theorem dX0_place_81 : decode cX0_place 81 = .ok (.putfield 29, 3) := by decide +kernel
theorem dX0_place_84 : decode cX0_place 84 = .ok (.aload_n 0, 1) := by decide +kernel
theorem dX0_place_85 : decode cX0_place 85 = .ok (.aload_n 0, 1) := by decide +kernel
theorem dX0_place_86 : decode cX0_place 86 = .ok (.getfield 32, 3) := by decide +kernel
theorem dX0_place_89 : decode cX0_place 89 = .ok (.putfield 13, 3) := by decide +kernel
theorem dX0_place_92 : decode cX0_place 92 = .ok (.goto 30, 3) := by decide +kernel
theorem dX0_place_95 : decode cX0_place 95 = .ok (.aload_n 0, 1) := by decide +kernel
theorem dX0_place_96 : decode cX0_place 96 = .ok (.getfield 16, 3) := by decide +kernel
theorem dX0_place_99 : decode cX0_place 99 = .ok (.ldc 78, 2) := by decide +kernel
theorem dX0_place_101 : decode cX0_place 101 = .ok (.if_icmp .ne 16, 3) := by decide +kernel
theorem dX0_place_104 : decode cX0_place 104 = .ok (.aload_n 0, 1) := by decide +kernel
theorem dX0_place_105 : decode cX0_place 105 = .ok (.iconst 2, 1) := by decide +kernel
theorem dX0_place_106 : decode cX0_place 106 = .ok (.putfield 29, 3) := by decide +kernel
theorem dX0_place_109 : decode cX0_place 109 = .ok (.aload_n 0, 1) := by decide +kernel
theorem dX0_place_110 : decode cX0_place 110 = .ok (.iconst 2, 1) := by decide +kernel
theorem dX0_place_111 : decode cX0_place 111 = .ok (.putfield 13, 3) := by decide +kernel
theorem dX0_place_114 : decode cX0_place 114 = .ok (.goto 8, 3) := by decide +kernel
theorem dX0_place_117 : decode cX0_place 117 = .ok (.aload_n 0, 1) := by decide +kernel
theorem dX0_place_118 : decode cX0_place 118 = .ok (.iconst 0, 1) := by decide +kernel
theorem dX0_place_119 : decode cX0_place 119 = .ok (.putfield 29, 3) := by decide +kernel
theorem dX0_place_122 : decode cX0_place 122 = .ok (.iload_n 2, 1) := by decide +kernel
theorem dX0_place_123 : decode cX0_place 123 = .ok (.ireturn, 1) := by decide +kernel
theorem dX0_phase_0 : decode cX0_phase 0 = .ok (.aload_n 0, 1) := by decide +kernel
theorem dX0_phase_1 : decode cX0_phase 1 = .ok (.getfield 29, 3) := by decide +kernel
theorem dX0_phase_4 : decode cX0_phase 4 = .ok (.ireturn, 1) := by decide +kernel
theorem dX0_onTurn_0 : decode cX0_onTurn 0 = .ok (.aload_n 0, 1) := by decide +kernel
theorem dX0_onTurn_1 : decode cX0_onTurn 1 = .ok (.getfield 32, 3) := by decide +kernel
theorem dX0_onTurn_4 : decode cX0_onTurn 4 = .ok (.ireturn, 1) := by decide +kernel
theorem dX0_hand_0 : decode cX0_hand 0 = .ok (.aload_n 0, 1) := by decide +kernel
theorem dX0_hand_1 : decode cX0_hand 1 = .ok (.getfield 9, 3) := by decide +kernel
theorem dX0_hand_4 : decode cX0_hand 4 = .ok (.ireturn, 1) := by decide +kernel
set_option maxRecDepth 20000 in
theorem ggX0_pieceAt_X0_isNumber : GoodIn wsX0_pieceAt wsX0_isNumber := goodIn_r _ [8] (by decide +kernel) (by decide +kernel)
set_option maxRecDepth 20000 in
theorem gX0_pieceAt_X0_isNumber : GoodIn wsX0_pieceAt (va_wsS RX0 42 yX0_isNumber wsX0_isNumber) := goodIn_app (goodIn_of _ (by decide +kernel)) ggX0_pieceAt_X0_isNumber
set_option maxRecDepth 20000 in
theorem ggX0_pieceAt_X0_has : GoodIn wsX0_pieceAt wsX0_has := goodIn_r _ [11] (by decide +kernel) (by decide +kernel)
set_option maxRecDepth 20000 in
theorem gX0_pieceAt_X0_has : GoodIn wsX0_pieceAt (va_wsS RX0 58 yX0_has wsX0_has) := goodIn_app (goodIn_of _ (by decide +kernel)) ggX0_pieceAt_X0_has
set_option maxRecDepth 20000 in
theorem ggX0_pieceAt_X0_withOne : GoodIn wsX0_pieceAt wsX0_withOne := goodIn_r _ [14, 15] (by decide +kernel) (by decide +kernel)
set_option maxRecDepth 20000 in
theorem gX0_pieceAt_X0_withOne : GoodIn wsX0_pieceAt (va_wsS RX0 79 yX0_withOne wsX0_withOne) := goodIn_app (goodIn_of _ (by decide +kernel)) ggX0_pieceAt_X0_withOne
theorem dX0_pieceAt_0 : decode cX0_pieceAt 0 = .ok (.iload_n 1, 1) := by decide +kernel
theorem dX0_pieceAt_1 : decode cX0_pieceAt 1 = .ok (.invokestatic 42, 3) := by decide +kernel
theorem dX0_pieceAt_4 : decode cX0_pieceAt 4 = .ok (.ifCond .ne 13, 3) := by decide +kernel
theorem dX0_pieceAt_7 : decode cX0_pieceAt 7 = .ok (.new 46, 3) := by decide +kernel
theorem dX0_pieceAt_10 : decode cX0_pieceAt 10 = .ok (.dup, 1) := by decide +kernel
theorem dX0_pieceAt_11 : decode cX0_pieceAt 11 = .ok (.ldc 64, 2) := by decide +kernel
theorem dX0_pieceAt_13 : decode cX0_pieceAt 13 = .ok (.invokespecial 50, 3) := by decide +kernel
theorem dX0_pieceAt_16 : decode cX0_pieceAt 16 = .ok (.athrow, 1) := by decide +kernel
theorem dX0_pieceAt_17 : decode cX0_pieceAt 17 = .ok (.aload_n 0, 1) := by decide +kernel
theorem dX0_pieceAt_18 : decode cX0_pieceAt 18 = .ok (.getfield 16, 3) := by decide +kernel
theorem dX0_pieceAt_21 : decode cX0_pieceAt 21 = .ok (.iload_n 1, 1) := by decide +kernel
theorem dX0_pieceAt_22 : decode cX0_pieceAt 22 = .ok (.invokestatic 58, 3) := by decide +kernel
theorem dX0_pieceAt_25 : decode cX0_pieceAt 25 = .ok (.ifCond .ne 5, 3) := by decide +kernel
theorem dX0_pieceAt_28 : decode cX0_pieceAt 28 = .ok (.iconst (-1), 1) := by decide +kernel
theorem dX0_pieceAt_29 : decode cX0_pieceAt 29 = .ok (.ireturn, 1) := by decide +kernel
theorem dX0_pieceAt_30 : decode cX0_pieceAt 30 = .ok (.iconst 0, 1) := by decide +kernel
theorem dX0_pieceAt_31 : decode cX0_pieceAt 31 = .ok (.istore_n 2, 1) := by decide +kernel
theorem dX0_pieceAt_32 : decode cX0_pieceAt 32 = .ok (.iconst 0, 1) := by decide +kernel
theorem dX0_pieceAt_33 : decode cX0_pieceAt 33 = .ok (.istore_n 3, 1) := by decide +kernel
theorem dX0_pieceAt_34 : decode cX0_pieceAt 34 = .ok (.iload_n 3, 1) := by decide +kernel
theorem dX0_pieceAt_35 : decode cX0_pieceAt 35 = .ok (.iconst 4, 1) := by decide +kernel
theorem dX0_pieceAt_36 : decode cX0_pieceAt 36 = .ok (.if_icmp .ge 30, 3) := by decide +kernel
theorem dX0_pieceAt_39 : decode cX0_pieceAt 39 = .ok (.aload_n 0, 1) := by decide +kernel
theorem dX0_pieceAt_40 : decode cX0_pieceAt 40 = .ok (.getfield 38, 3) := by decide +kernel
theorem dX0_pieceAt_43 : decode cX0_pieceAt 43 = .ok (.iload_n 3, 1) := by decide +kernel
theorem dX0_pieceAt_44 : decode cX0_pieceAt 44 = .ok (.invokestatic 79, 3) := by decide +kernel
theorem dX0_pieceAt_47 : decode cX0_pieceAt 47 = .ok (.iload_n 1, 1) := by decide +kernel
theorem dX0_pieceAt_48 : decode cX0_pieceAt 48 = .ok (.invokestatic 58, 3) := by decide +kernel
theorem dX0_pieceAt_51 : decode cX0_pieceAt 51 = .ok (.ifCond .eq 9, 3) := by decide +kernel
theorem dX0_pieceAt_54 : decode cX0_pieceAt 54 = .ok (.iload_n 2, 1) := by decide +kernel
theorem dX0_pieceAt_55 : decode cX0_pieceAt 55 = .ok (.iconst 1, 1) := by decide +kernel
theorem dX0_pieceAt_56 : decode cX0_pieceAt 56 = .ok (.iload_n 3, 1) := by decide +kernel
theorem dX0_pieceAt_57 : decode cX0_pieceAt 57 = .ok (.ishl, 1) := by decide +kernel
theorem dX0_pieceAt_58 : decode cX0_pieceAt 58 = .ok (.ior, 1) := by decide +kernel
theorem dX0_pieceAt_59 : decode cX0_pieceAt 59 = .ok (.istore_n 2, 1) := by decide +kernel
theorem dX0_pieceAt_60 : decode cX0_pieceAt 60 = .ok (.iinc 3 1, 3) := by decide +kernel
theorem dX0_pieceAt_63 : decode cX0_pieceAt 63 = .ok (.goto (-29), 3) := by decide +kernel
theorem dX0_pieceAt_66 : decode cX0_pieceAt 66 = .ok (.iload_n 2, 1) := by decide +kernel
theorem dX0_pieceAt_67 : decode cX0_pieceAt 67 = .ok (.ireturn, 1) := by decide +kernel
set_option maxRecDepth 20000 in
theorem ggX0_placed_J6_bitCount_0f7a4 : GoodIn wsX0_placed wsJ6_bitCount_0f7a4 := goodIn_r _ [5, 6, 7, 8] (by decide +kernel) (by decide +kernel)
set_option maxRecDepth 20000 in
theorem gX0_placed_J6_bitCount_0f7a4 : GoodIn wsX0_placed (va_wsS RX0 19 yJ6_bitCount_0f7a4 wsJ6_bitCount_0f7a4) := goodIn_app (goodIn_of _ (by decide +kernel)) ggX0_placed_J6_bitCount_0f7a4
theorem dX0_placed_0 : decode cX0_placed 0 = .ok (.aload_n 0, 1) := by decide +kernel
theorem dX0_placed_1 : decode cX0_placed 1 = .ok (.getfield 16, 3) := by decide +kernel
theorem dX0_placed_4 : decode cX0_placed 4 = .ok (.invokestatic 19, 3) := by decide +kernel
theorem dX0_placed_7 : decode cX0_placed 7 = .ok (.ireturn, 1) := by decide +kernel
theorem dX0_winner_0 : decode cX0_winner 0 = .ok (.aload_n 0, 1) := by decide +kernel
theorem dX0_winner_1 : decode cX0_winner 1 = .ok (.getfield 13, 3) := by decide +kernel
theorem dX0_winner_4 : decode cX0_winner 4 = .ok (.ireturn, 1) := by decide +kernel
theorem dX0_lines_0 : decode cX0_lines 0 = .ok (.aload_n 0, 1) := by decide +kernel
theorem dX0_lines_1 : decode cX0_lines 1 = .ok (.getfield 25, 3) := by decide +kernel
theorem dX0_lines_4 : decode cX0_lines 4 = .ok (.ifCond .eq 10, 3) := by decide +kernel
theorem dX0_lines_7 : decode cX0_lines 7 = .ok (.getstatic 83, 3) := by decide +kernel
theorem dX0_lines_10 : decode cX0_lines 10 = .ok (.arraylength, 1) := by decide +kernel
theorem dX0_lines_11 : decode cX0_lines 11 = .ok (.goto 5, 3) := by decide +kernel
theorem dX0_lines_14 : decode cX0_lines 14 = .ok (.bipush 10, 2) := by decide +kernel
theorem dX0_lines_16 : decode cX0_lines 16 = .ok (.ireturn, 1) := by decide +kernel
set_option maxRecDepth 20000 in
theorem ggX0_onLine_X0_lines : GoodIn wsX0_onLine wsX0_lines := goodIn_r _ [9, 10, 3, 18, 19, 20, 21, 22, 23, 24, 25, 26, 27, 28] (by decide +kernel) (by decide +kernel)
set_option maxRecDepth 20000 in
theorem gX0_onLine_X0_lines : GoodIn wsX0_onLine (wsV RX0 87 RX0 yX0_lines wsX0_lines) := goodIn_app (goodIn_of _ (by decide +kernel)) ggX0_onLine_X0_lines
set_option maxRecDepth 20000 in
theorem ggX0_onLine_J6_bitCount_0f7a4 : GoodIn wsX0_onLine wsJ6_bitCount_0f7a4 := goodIn_r _ [14, 15, 16, 17] (by decide +kernel) (by decide +kernel)
set_option maxRecDepth 20000 in
theorem gX0_onLine_J6_bitCount_0f7a4 : GoodIn wsX0_onLine (va_wsS RX0 19 yJ6_bitCount_0f7a4 wsJ6_bitCount_0f7a4) := goodIn_app (goodIn_of _ (by decide +kernel)) ggX0_onLine_J6_bitCount_0f7a4
theorem dX0_onLine_0 : decode cX0_onLine 0 = .ok (.iload_n 1, 1) := by decide +kernel
theorem dX0_onLine_1 : decode cX0_onLine 1 = .ok (.ifCond .lt 11, 3) := by decide +kernel
theorem dX0_onLine_4 : decode cX0_onLine 4 = .ok (.iload_n 1, 1) := by decide +kernel
theorem dX0_onLine_5 : decode cX0_onLine 5 = .ok (.aload_n 0, 1) := by decide +kernel
theorem dX0_onLine_6 : decode cX0_onLine 6 = .ok (.invokevirtual 87, 3) := by decide +kernel
theorem dX0_onLine_9 : decode cX0_onLine 9 = .ok (.if_icmp .lt 13, 3) := by decide +kernel
theorem dX0_onLine_12 : decode cX0_onLine 12 = .ok (.new 46, 3) := by decide +kernel
theorem dX0_onLine_15 : decode cX0_onLine 15 = .ok (.dup, 1) := by decide +kernel
theorem dX0_onLine_16 : decode cX0_onLine 16 = .ok (.ldc 90, 2) := by decide +kernel
theorem dX0_onLine_18 : decode cX0_onLine 18 = .ok (.invokespecial 50, 3) := by decide +kernel
theorem dX0_onLine_21 : decode cX0_onLine 21 = .ok (.athrow, 1) := by decide +kernel
theorem dX0_onLine_22 : decode cX0_onLine 22 = .ok (.getstatic 83, 3) := by decide +kernel
theorem dX0_onLine_25 : decode cX0_onLine 25 = .ok (.iload_n 1, 1) := by decide +kernel
theorem dX0_onLine_26 : decode cX0_onLine 26 = .ok (.iaload, 1) := by decide +kernel
theorem dX0_onLine_27 : decode cX0_onLine 27 = .ok (.aload_n 0, 1) := by decide +kernel
theorem dX0_onLine_28 : decode cX0_onLine 28 = .ok (.getfield 16, 3) := by decide +kernel
theorem dX0_onLine_31 : decode cX0_onLine 31 = .ok (.iand, 1) := by decide +kernel
theorem dX0_onLine_32 : decode cX0_onLine 32 = .ok (.invokestatic 19, 3) := by decide +kernel
theorem dX0_onLine_35 : decode cX0_onLine 35 = .ok (.ireturn, 1) := by decide +kernel
set_option maxRecDepth 20000 in
theorem ggX0_shared_X0_lines : GoodIn wsX0_shared wsX0_lines := goodIn_r _ [8, 9, 3, 20, 21, 22, 23, 24, 25, 26, 27, 28, 29, 30] (by decide +kernel) (by decide +kernel)
set_option maxRecDepth 20000 in
theorem gX0_shared_X0_lines : GoodIn wsX0_shared (wsV RX0 87 RX0 yX0_lines wsX0_lines) := goodIn_app (goodIn_of _ (by decide +kernel)) ggX0_shared_X0_lines
set_option maxRecDepth 20000 in
theorem ggX0_shared_X0_inCommon : GoodIn wsX0_shared wsX0_inCommon := goodIn_r _ [13, 14, 15, 16, 17, 7, 18, 19, 20, 21, 22, 23, 24, 25, 26, 27, 28, 29, 30] (by decide +kernel) (by decide +kernel)
set_option maxRecDepth 20000 in
theorem gX0_shared_X0_inCommon : GoodIn wsX0_shared (wsV RX0 92 RX0 yX0_inCommon wsX0_inCommon) := goodIn_app (goodIn_of _ (by decide +kernel)) ggX0_shared_X0_inCommon
theorem dX0_shared_0 : decode cX0_shared 0 = .ok (.iload_n 1, 1) := by decide +kernel
theorem dX0_shared_1 : decode cX0_shared 1 = .ok (.ifCond .lt 11, 3) := by decide +kernel
theorem dX0_shared_4 : decode cX0_shared 4 = .ok (.iload_n 1, 1) := by decide +kernel
theorem dX0_shared_5 : decode cX0_shared 5 = .ok (.aload_n 0, 1) := by decide +kernel
theorem dX0_shared_6 : decode cX0_shared 6 = .ok (.invokevirtual 87, 3) := by decide +kernel
theorem dX0_shared_9 : decode cX0_shared 9 = .ok (.if_icmp .lt 13, 3) := by decide +kernel
theorem dX0_shared_12 : decode cX0_shared 12 = .ok (.new 46, 3) := by decide +kernel
theorem dX0_shared_15 : decode cX0_shared 15 = .ok (.dup, 1) := by decide +kernel
theorem dX0_shared_16 : decode cX0_shared 16 = .ok (.ldc 90, 2) := by decide +kernel
theorem dX0_shared_18 : decode cX0_shared 18 = .ok (.invokespecial 50, 3) := by decide +kernel
theorem dX0_shared_21 : decode cX0_shared 21 = .ok (.athrow, 1) := by decide +kernel
theorem dX0_shared_22 : decode cX0_shared 22 = .ok (.aload_n 0, 1) := by decide +kernel
theorem dX0_shared_23 : decode cX0_shared 23 = .ok (.getstatic 83, 3) := by decide +kernel
theorem dX0_shared_26 : decode cX0_shared 26 = .ok (.iload_n 1, 1) := by decide +kernel
theorem dX0_shared_27 : decode cX0_shared 27 = .ok (.iaload, 1) := by decide +kernel
theorem dX0_shared_28 : decode cX0_shared 28 = .ok (.invokevirtual 92, 3) := by decide +kernel
theorem dX0_shared_31 : decode cX0_shared 31 = .ok (.ireturn, 1) := by decide +kernel
set_option maxRecDepth 20000 in
theorem ggX0_winning_X0_isNumber : GoodIn wsX0_winning wsX0_isNumber := goodIn_r _ [10] (by decide +kernel) (by decide +kernel)
set_option maxRecDepth 20000 in
theorem gX0_winning_X0_isNumber : GoodIn wsX0_winning (va_wsS RX0 42 yX0_isNumber wsX0_isNumber) := goodIn_app (goodIn_of _ (by decide +kernel)) ggX0_winning_X0_isNumber
set_option maxRecDepth 20000 in
theorem ggX0_winning_X0_has : GoodIn wsX0_winning wsX0_has := goodIn_r _ [13] (by decide +kernel) (by decide +kernel)
set_option maxRecDepth 20000 in
theorem gX0_winning_X0_has : GoodIn wsX0_winning (va_wsS RX0 58 yX0_has wsX0_has) := goodIn_app (goodIn_of _ (by decide +kernel)) ggX0_winning_X0_has
set_option maxRecDepth 20000 in
theorem ggX0_winning_X0_winningSquares : GoodIn wsX0_winning wsX0_winningSquares := goodIn_r _ [17, 18, 19, 20, 21, 9, 22, 23, 24, 25, 26, 27, 28, 29, 30, 31, 32, 33, 34, 35, 36, 37, 38, 39, 40, 41, 42, 43, 44, 45, 46, 47, 48, 49, 50, 51] (by decide +kernel) (by decide +kernel)
set_option maxRecDepth 20000 in
theorem gX0_winning_X0_winningSquares : GoodIn wsX0_winning (wsV RX0 97 RX0 yX0_winningSquares wsX0_winningSquares) := goodIn_app (goodIn_of _ (by decide +kernel)) ggX0_winning_X0_winningSquares
theorem dX0_winning_0 : decode cX0_winning 0 = .ok (.iload_n 1, 1) := by decide +kernel
theorem dX0_winning_1 : decode cX0_winning 1 = .ok (.invokestatic 42, 3) := by decide +kernel
theorem dX0_winning_4 : decode cX0_winning 4 = .ok (.ifCond .ne 13, 3) := by decide +kernel
theorem dX0_winning_7 : decode cX0_winning 7 = .ok (.new 46, 3) := by decide +kernel
theorem dX0_winning_10 : decode cX0_winning 10 = .ok (.dup, 1) := by decide +kernel
theorem dX0_winning_11 : decode cX0_winning 11 = .ok (.ldc 48, 2) := by decide +kernel
theorem dX0_winning_13 : decode cX0_winning 13 = .ok (.invokespecial 50, 3) := by decide +kernel
theorem dX0_winning_16 : decode cX0_winning 16 = .ok (.athrow, 1) := by decide +kernel
theorem dX0_winning_17 : decode cX0_winning 17 = .ok (.aload_n 0, 1) := by decide +kernel
theorem dX0_winning_18 : decode cX0_winning 18 = .ok (.getfield 29, 3) := by decide +kernel
theorem dX0_winning_21 : decode cX0_winning 21 = .ok (.iconst 2, 1) := by decide +kernel
theorem dX0_winning_22 : decode cX0_winning 22 = .ok (.if_icmp .ne 13, 3) := by decide +kernel
theorem dX0_winning_25 : decode cX0_winning 25 = .ok (.new 53, 3) := by decide +kernel
theorem dX0_winning_28 : decode cX0_winning 28 = .ok (.dup, 1) := by decide +kernel
theorem dX0_winning_29 : decode cX0_winning 29 = .ok (.ldc 95, 2) := by decide +kernel
theorem dX0_winning_31 : decode cX0_winning 31 = .ok (.invokespecial 57, 3) := by decide +kernel
theorem dX0_winning_34 : decode cX0_winning 34 = .ok (.athrow, 1) := by decide +kernel
theorem dX0_winning_35 : decode cX0_winning 35 = .ok (.aload_n 0, 1) := by decide +kernel
theorem dX0_winning_36 : decode cX0_winning 36 = .ok (.getfield 35, 3) := by decide +kernel
theorem dX0_winning_39 : decode cX0_winning 39 = .ok (.iload_n 1, 1) := by decide +kernel
theorem dX0_winning_40 : decode cX0_winning 40 = .ok (.invokestatic 58, 3) := by decide +kernel
theorem dX0_winning_43 : decode cX0_winning 43 = .ok (.ifCond .eq 13, 3) := by decide +kernel
theorem dX0_winning_46 : decode cX0_winning 46 = .ok (.new 53, 3) := by decide +kernel
theorem dX0_winning_49 : decode cX0_winning 49 = .ok (.dup, 1) := by decide +kernel
theorem dX0_winning_50 : decode cX0_winning 50 = .ok (.ldc 62, 2) := by decide +kernel
theorem dX0_winning_52 : decode cX0_winning 52 = .ok (.invokespecial 57, 3) := by decide +kernel
theorem dX0_winning_55 : decode cX0_winning 55 = .ok (.athrow, 1) := by decide +kernel
theorem dX0_winning_56 : decode cX0_winning 56 = .ok (.aload_n 0, 1) := by decide +kernel
theorem dX0_winning_57 : decode cX0_winning 57 = .ok (.iload_n 1, 1) := by decide +kernel
theorem dX0_winning_58 : decode cX0_winning 58 = .ok (.invokevirtual 97, 3) := by decide +kernel
theorem dX0_winning_61 : decode cX0_winning 61 = .ok (.ireturn, 1) := by decide +kernel
set_option maxRecDepth 20000 in
theorem ggX0_safe_X0_safePieces : GoodIn wsX0_safe wsX0_safePieces := goodIn_r _ [8, 9, 10, 11, 12, 7, 13, 14, 15, 16, 17, 18, 19, 20, 21, 22, 23, 24, 25, 26, 27, 28, 29, 30, 31, 32, 33, 34, 35, 36, 37, 38, 39, 40, 41, 42, 43, 44, 45, 46, 47, 48, 49, 50] (by decide +kernel) (by decide +kernel)
set_option maxRecDepth 20000 in
theorem gX0_safe_X0_safePieces : GoodIn wsX0_safe (wsV RX0 100 RX0 yX0_safePieces wsX0_safePieces) := goodIn_app (goodIn_of _ (by decide +kernel)) ggX0_safe_X0_safePieces
theorem dX0_safe_0 : decode cX0_safe 0 = .ok (.aload_n 0, 1) := by decide +kernel
theorem dX0_safe_1 : decode cX0_safe 1 = .ok (.getfield 29, 3) := by decide +kernel
theorem dX0_safe_4 : decode cX0_safe 4 = .ok (.ifCond .eq 13, 3) := by decide +kernel
theorem dX0_safe_7 : decode cX0_safe 7 = .ok (.new 53, 3) := by decide +kernel
theorem dX0_safe_10 : decode cX0_safe 10 = .ok (.dup, 1) := by decide +kernel
theorem dX0_safe_11 : decode cX0_safe 11 = .ok (.ldc 55, 2) := by decide +kernel
theorem dX0_safe_13 : decode cX0_safe 13 = .ok (.invokespecial 57, 3) := by decide +kernel
theorem dX0_safe_16 : decode cX0_safe 16 = .ok (.athrow, 1) := by decide +kernel
theorem dX0_safe_17 : decode cX0_safe 17 = .ok (.aload_n 0, 1) := by decide +kernel
theorem dX0_safe_18 : decode cX0_safe 18 = .ok (.invokevirtual 100, 3) := by decide +kernel
theorem dX0_safe_21 : decode cX0_safe 21 = .ok (.ireturn, 1) := by decide +kernel
set_option maxRecDepth 20000 in
theorem ggX0_worth_X0_canLookAhead : GoodIn wsX0_worth wsX0_canLookAhead := goodIn_r _ [11, 12, 5, 13, 14, 15, 16, 17, 18, 19, 98, 99, 100, 101, 102, 103, 104, 105, 106, 107, 108] (by decide +kernel) (by decide +kernel)
set_option maxRecDepth 20000 in
theorem gX0_worth_X0_canLookAhead : GoodIn wsX0_worth (wsV RX0 108 RX0 yX0_canLookAhead wsX0_canLookAhead) := goodIn_app (goodIn_of _ (by decide +kernel)) ggX0_worth_X0_canLookAhead
set_option maxRecDepth 20000 in
theorem ggX0_worth_X0_worthToGive : GoodIn wsX0_worth wsX0_worthToGive := goodIn_r _ [23, 24, 25, 26, 10, 27, 28, 29, 30, 31, 32, 33, 34, 35, 36, 37, 38, 39, 40, 41, 42, 43, 44, 45, 46, 12, 47, 48, 49, 50, 51, 52, 53, 54, 55, 56, 57, 58, 59, 60, 61, 62, 63, 64, 65, 66, 67, 68, 69, 70, 71, 72, 73, 74, 75, 76, 77, 78, 79, 80, 81, 82, 83, 84, 85, 86, 87, 88, 89, 98, 99, 100, 101, 102, 103, 104, 105, 106, 107, 108] (by decide +kernel) (by decide +kernel)
set_option maxRecDepth 20000 in
theorem gX0_worth_X0_worthToGive : GoodIn wsX0_worth (wsV RX0 113 RX0 yX0_worthToGive wsX0_worthToGive) := goodIn_app (goodIn_of _ (by decide +kernel)) ggX0_worth_X0_worthToGive
set_option maxRecDepth 20000 in
theorem ggX0_worth_X0_worthToPlace : GoodIn wsX0_worth wsX0_worthToPlace := goodIn_r _ [93, 94, 95, 96, 10, 97, 37, 12, 59, 60, 61, 38, 39, 40, 41, 42, 43, 44, 45, 46, 47, 48, 49, 50, 51, 52, 53, 54, 55, 66, 67, 68, 89, 56, 57, 58, 70, 71, 72, 73, 32, 74, 75, 76, 77, 78, 79, 24, 25, 26, 83, 84, 85, 86, 87, 88, 65, 28, 29, 30, 31, 33, 34, 35, 36, 27, 62, 63, 64, 69, 80, 81, 82, 98, 99, 100, 101, 102, 103, 104, 105, 106, 107, 108] (by decide +kernel) (by decide +kernel)
set_option maxRecDepth 20000 in
theorem gX0_worth_X0_worthToPlace : GoodIn wsX0_worth (wsV RX0 116 RX0 yX0_worthToPlace wsX0_worthToPlace) := goodIn_app (goodIn_of _ (by decide +kernel)) ggX0_worth_X0_worthToPlace
theorem dX0_worth_0 : decode cX0_worth 0 = .ok (.iload_n 1, 1) := by decide +kernel
theorem dX0_worth_1 : decode cX0_worth 1 = .ok (.iconst 1, 1) := by decide +kernel
theorem dX0_worth_2 : decode cX0_worth 2 = .ok (.if_icmp .lt 8, 3) := by decide +kernel
theorem dX0_worth_5 : decode cX0_worth 5 = .ok (.iload_n 1, 1) := by decide +kernel
theorem dX0_worth_6 : decode cX0_worth 6 = .ok (.iconst 4, 1) := by decide +kernel
theorem dX0_worth_7 : decode cX0_worth 7 = .ok (.if_icmp .le 13, 3) := by decide +kernel
theorem dX0_worth_10 : decode cX0_worth 10 = .ok (.new 103, 3) := by decide +kernel
theorem dX0_worth_13 : decode cX0_worth 13 = .ok (.dup, 1) := by decide +kernel
theorem dX0_worth_14 : decode cX0_worth 14 = .ok (.ldc 105, 2) := by decide +kernel
theorem dX0_worth_16 : decode cX0_worth 16 = .ok (.invokespecial 107, 3) := by decide +kernel
theorem dX0_worth_19 : decode cX0_worth 19 = .ok (.athrow, 1) := by decide +kernel
theorem dX0_worth_20 : decode cX0_worth 20 = .ok (.aload_n 0, 1) := by decide +kernel
theorem dX0_worth_21 : decode cX0_worth 21 = .ok (.iload_n 1, 1) := by decide +kernel
theorem dX0_worth_22 : decode cX0_worth 22 = .ok (.invokevirtual 108, 3) := by decide +kernel
theorem dX0_worth_25 : decode cX0_worth 25 = .ok (.ifCond .ne 13, 3) := by decide +kernel
theorem dX0_worth_28 : decode cX0_worth 28 = .ok (.new 53, 3) := by decide +kernel
theorem dX0_worth_31 : decode cX0_worth 31 = .ok (.dup, 1) := by decide +kernel
theorem dX0_worth_32 : decode cX0_worth 32 = .ok (.ldc 111, 2) := by decide +kernel
theorem dX0_worth_34 : decode cX0_worth 34 = .ok (.invokespecial 57, 3) := by decide +kernel
theorem dX0_worth_37 : decode cX0_worth 37 = .ok (.athrow, 1) := by decide +kernel
theorem dX0_worth_38 : decode cX0_worth 38 = .ok (.aload_n 0, 1) := by decide +kernel
theorem dX0_worth_39 : decode cX0_worth 39 = .ok (.getfield 29, 3) := by decide +kernel
theorem dX0_worth_42 : decode cX0_worth 42 = .ok (.ifCond .ne 11, 3) := by decide +kernel
theorem dX0_worth_45 : decode cX0_worth 45 = .ok (.aload_n 0, 1) := by decide +kernel
theorem dX0_worth_46 : decode cX0_worth 46 = .ok (.iload_n 1, 1) := by decide +kernel
theorem dX0_worth_47 : decode cX0_worth 47 = .ok (.invokevirtual 113, 3) := by decide +kernel
theorem dX0_worth_50 : decode cX0_worth 50 = .ok (.goto 12, 3) := by decide +kernel
theorem dX0_worth_53 : decode cX0_worth 53 = .ok (.aload_n 0, 1) := by decide +kernel
theorem dX0_worth_54 : decode cX0_worth 54 = .ok (.aload_n 0, 1) := by decide +kernel
theorem dX0_worth_55 : decode cX0_worth 55 = .ok (.getfield 9, 3) := by decide +kernel
theorem dX0_worth_58 : decode cX0_worth 58 = .ok (.iload_n 1, 1) := by decide +kernel
theorem dX0_worth_59 : decode cX0_worth 59 = .ok (.invokevirtual 116, 3) := by decide +kernel
theorem dX0_worth_62 : decode cX0_worth 62 = .ok (.ireturn, 1) := by decide +kernel
set_option maxRecDepth 20000 in
theorem ggX0_best_X0_canLookAhead : GoodIn wsX0_best wsX0_canLookAhead := goodIn_r _ [10, 11, 5, 12, 13, 14, 15, 16, 17, 18, 110, 111, 112, 113, 114, 115, 116, 117, 118, 119, 120] (by decide +kernel) (by decide +kernel)
set_option maxRecDepth 20000 in
theorem gX0_best_X0_canLookAhead : GoodIn wsX0_best (wsV RX0 108 RX0 yX0_canLookAhead wsX0_canLookAhead) := goodIn_app (goodIn_of _ (by decide +kernel)) ggX0_best_X0_canLookAhead
set_option maxRecDepth 20000 in
theorem ggX0_best_X0_bestPiece : GoodIn wsX0_best wsX0_bestPiece := goodIn_r _ [22, 23, 24, 25, 26, 9, 27, 28, 29, 30, 31, 32, 33, 34, 35, 36, 37, 38, 39, 40, 41, 42, 43, 44, 45, 46, 47, 48, 49, 11, 50, 51, 52, 53, 54, 55, 56, 57, 58, 59, 60, 61, 62, 63, 64, 65, 66, 67, 68, 69, 70, 71, 72, 73, 74, 75, 76, 77, 78, 79, 80, 81, 82, 83, 84, 85, 86, 87, 88, 89, 90, 91, 92, 93, 94, 95, 96, 97, 98, 99, 100, 110, 111, 112, 113, 114, 115, 116, 117, 118, 119, 120] (by decide +kernel) (by decide +kernel)
set_option maxRecDepth 20000 in
theorem gX0_best_X0_bestPiece : GoodIn wsX0_best (wsV RX0 120 RX0 yX0_bestPiece wsX0_bestPiece) := goodIn_app (goodIn_of _ (by decide +kernel)) ggX0_best_X0_bestPiece
set_option maxRecDepth 20000 in
theorem ggX0_best_X0_bestSquare : GoodIn wsX0_best wsX0_bestSquare := goodIn_r _ [104, 105, 11, 93, 94, 95, 9, 96, 97, 98, 99, 100, 40, 62, 63, 64, 41, 42, 43, 44, 45, 46, 47, 48, 49, 50, 51, 52, 53, 54, 55, 56, 57, 58, 69, 70, 71, 92, 59, 60, 61, 73, 74, 75, 76, 23, 77, 78, 79, 80, 81, 82, 28, 29, 30, 86, 87, 88, 89, 90, 91, 68, 32, 33, 34, 35, 36, 37, 38, 39, 31, 65, 66, 67, 72, 83, 84, 85, 106, 107, 108, 109, 24, 25, 26, 27, 110, 111, 112, 113, 114, 115, 116, 117, 118, 119, 120] (by decide +kernel) (by decide +kernel)
set_option maxRecDepth 20000 in
theorem gX0_best_X0_bestSquare : GoodIn wsX0_best (wsV RX0 123 RX0 yX0_bestSquare wsX0_bestSquare) := goodIn_app (goodIn_of _ (by decide +kernel)) ggX0_best_X0_bestSquare
theorem dX0_best_0 : decode cX0_best 0 = .ok (.iload_n 1, 1) := by decide +kernel
theorem dX0_best_1 : decode cX0_best 1 = .ok (.iconst 1, 1) := by decide +kernel
theorem dX0_best_2 : decode cX0_best 2 = .ok (.if_icmp .lt 8, 3) := by decide +kernel
theorem dX0_best_5 : decode cX0_best 5 = .ok (.iload_n 1, 1) := by decide +kernel
theorem dX0_best_6 : decode cX0_best 6 = .ok (.iconst 4, 1) := by decide +kernel
theorem dX0_best_7 : decode cX0_best 7 = .ok (.if_icmp .le 13, 3) := by decide +kernel
theorem dX0_best_10 : decode cX0_best 10 = .ok (.new 103, 3) := by decide +kernel
theorem dX0_best_13 : decode cX0_best 13 = .ok (.dup, 1) := by decide +kernel
theorem dX0_best_14 : decode cX0_best 14 = .ok (.ldc 105, 2) := by decide +kernel
theorem dX0_best_16 : decode cX0_best 16 = .ok (.invokespecial 107, 3) := by decide +kernel
theorem dX0_best_19 : decode cX0_best 19 = .ok (.athrow, 1) := by decide +kernel
theorem dX0_best_20 : decode cX0_best 20 = .ok (.aload_n 0, 1) := by decide +kernel
theorem dX0_best_21 : decode cX0_best 21 = .ok (.iload_n 1, 1) := by decide +kernel
theorem dX0_best_22 : decode cX0_best 22 = .ok (.invokevirtual 108, 3) := by decide +kernel
theorem dX0_best_25 : decode cX0_best 25 = .ok (.ifCond .ne 13, 3) := by decide +kernel
theorem dX0_best_28 : decode cX0_best 28 = .ok (.new 53, 3) := by decide +kernel
theorem dX0_best_31 : decode cX0_best 31 = .ok (.dup, 1) := by decide +kernel
theorem dX0_best_32 : decode cX0_best 32 = .ok (.ldc 111, 2) := by decide +kernel
theorem dX0_best_34 : decode cX0_best 34 = .ok (.invokespecial 57, 3) := by decide +kernel
theorem dX0_best_37 : decode cX0_best 37 = .ok (.athrow, 1) := by decide +kernel
theorem dX0_best_38 : decode cX0_best 38 = .ok (.aload_n 0, 1) := by decide +kernel
theorem dX0_best_39 : decode cX0_best 39 = .ok (.getfield 29, 3) := by decide +kernel
theorem dX0_best_42 : decode cX0_best 42 = .ok (.ifCond .ne 11, 3) := by decide +kernel
theorem dX0_best_45 : decode cX0_best 45 = .ok (.aload_n 0, 1) := by decide +kernel
theorem dX0_best_46 : decode cX0_best 46 = .ok (.iload_n 1, 1) := by decide +kernel
theorem dX0_best_47 : decode cX0_best 47 = .ok (.invokevirtual 120, 3) := by decide +kernel
theorem dX0_best_50 : decode cX0_best 50 = .ok (.goto 8, 3) := by decide +kernel
theorem dX0_best_53 : decode cX0_best 53 = .ok (.aload_n 0, 1) := by decide +kernel
theorem dX0_best_54 : decode cX0_best 54 = .ok (.iload_n 1, 1) := by decide +kernel
theorem dX0_best_55 : decode cX0_best 55 = .ok (.invokevirtual 123, 3) := by decide +kernel
theorem dX0_best_58 : decode cX0_best 58 = .ok (.ireturn, 1) := by decide +kernel
set_option maxRecDepth 20000 in
theorem ggX0_keep_J6_bitCount_0f7a4 : GoodIn wsX0_keep wsJ6_bitCount_0f7a4 := goodIn_r _ [9, 10, 11, 12] (by decide +kernel) (by decide +kernel)
set_option maxRecDepth 20000 in
theorem gX0_keep_J6_bitCount_0f7a4 : GoodIn wsX0_keep (va_wsS RX0 19 yJ6_bitCount_0f7a4 wsJ6_bitCount_0f7a4) := goodIn_app (goodIn_of _ (by decide +kernel)) ggX0_keep_J6_bitCount_0f7a4
theorem dX0_keep_0 : decode cX0_keep 0 = .ok (.aload_n 0, 1) := by decide +kernel
theorem dX0_keep_1 : decode cX0_keep 1 = .ok (.iconst 1, 1) := by decide +kernel
theorem dX0_keep_2 : decode cX0_keep 2 = .ok (.putfield 126, 3) := by decide +kernel
theorem dX0_keep_5 : decode cX0_keep 5 = .ok (.aload_n 0, 1) := by decide +kernel
theorem dX0_keep_6 : decode cX0_keep 6 = .ok (.aload_n 0, 1) := by decide +kernel
theorem dX0_keep_7 : decode cX0_keep 7 = .ok (.getfield 16, 3) := by decide +kernel
theorem dX0_keep_10 : decode cX0_keep 10 = .ok (.putfield 129, 3) := by decide +kernel
theorem dX0_keep_13 : decode cX0_keep 13 = .ok (.aload_n 0, 1) := by decide +kernel
theorem dX0_keep_14 : decode cX0_keep 14 = .ok (.aload_n 0, 1) := by decide +kernel
theorem dX0_keep_15 : decode cX0_keep 15 = .ok (.getfield 38, 3) := by decide +kernel
theorem dX0_keep_18 : decode cX0_keep 18 = .ok (.putfield 132, 3) := by decide +kernel
theorem dX0_keep_21 : decode cX0_keep 21 = .ok (.aload_n 0, 1) := by decide +kernel
theorem dX0_keep_22 : decode cX0_keep 22 = .ok (.getfield 16, 3) := by decide +kernel
theorem dX0_keep_25 : decode cX0_keep 25 = .ok (.invokestatic 19, 3) := by decide +kernel
theorem dX0_keep_28 : decode cX0_keep 28 = .ok (.ireturn, 1) := by decide +kernel
set_option maxRecDepth 20000 in
theorem ggX0_isAlike_X0_waysOfMarks : GoodIn wsX0_isAlike wsX0_waysOfMarks := goodIn_r _ [10, 11, 12, 13, 14, 9, 15, 16, 17, 18, 19, 20, 21, 22, 23, 24, 25, 26, 27, 28, 29, 30, 31, 32, 33, 34, 35, 36, 37, 38, 39, 40] (by decide +kernel) (by decide +kernel)
set_option maxRecDepth 20000 in
theorem gX0_isAlike_X0_waysOfMarks : GoodIn wsX0_isAlike (wsV RX0 137 RX0 yX0_waysOfMarks wsX0_waysOfMarks) := goodIn_app (goodIn_of _ (by decide +kernel)) ggX0_isAlike_X0_waysOfMarks
theorem dX0_isAlike_0 : decode cX0_isAlike 0 = .ok (.aload_n 0, 1) := by decide +kernel
theorem dX0_isAlike_1 : decode cX0_isAlike 1 = .ok (.getfield 126, 3) := by decide +kernel
theorem dX0_isAlike_4 : decode cX0_isAlike 4 = .ok (.ifCond .ne 13, 3) := by decide +kernel
theorem dX0_isAlike_7 : decode cX0_isAlike 7 = .ok (.new 53, 3) := by decide +kernel
theorem dX0_isAlike_10 : decode cX0_isAlike 10 = .ok (.dup, 1) := by decide +kernel
theorem dX0_isAlike_11 : decode cX0_isAlike 11 = .ok (.ldc 135, 2) := by decide +kernel
theorem dX0_isAlike_13 : decode cX0_isAlike 13 = .ok (.invokespecial 57, 3) := by decide +kernel
theorem dX0_isAlike_16 : decode cX0_isAlike 16 = .ok (.athrow, 1) := by decide +kernel
theorem dX0_isAlike_17 : decode cX0_isAlike 17 = .ok (.iconst 0, 1) := by decide +kernel
theorem dX0_isAlike_18 : decode cX0_isAlike 18 = .ok (.istore_n 1, 1) := by decide +kernel
theorem dX0_isAlike_19 : decode cX0_isAlike 19 = .ok (.iload_n 1, 1) := by decide +kernel
theorem dX0_isAlike_20 : decode cX0_isAlike 20 = .ok (.bipush 8, 2) := by decide +kernel
theorem dX0_isAlike_22 : decode cX0_isAlike 22 = .ok (.if_icmp .ge 27, 3) := by decide +kernel
theorem dX0_isAlike_25 : decode cX0_isAlike 25 = .ok (.aload_n 0, 1) := by decide +kernel
theorem dX0_isAlike_26 : decode cX0_isAlike 26 = .ok (.iload_n 1, 1) := by decide +kernel
theorem dX0_isAlike_27 : decode cX0_isAlike 27 = .ok (.aload_n 0, 1) := by decide +kernel
theorem dX0_isAlike_28 : decode cX0_isAlike 28 = .ok (.getfield 129, 3) := by decide +kernel
theorem dX0_isAlike_31 : decode cX0_isAlike 31 = .ok (.aload_n 0, 1) := by decide +kernel
theorem dX0_isAlike_32 : decode cX0_isAlike 32 = .ok (.getfield 132, 3) := by decide +kernel
theorem dX0_isAlike_35 : decode cX0_isAlike 35 = .ok (.invokevirtual 137, 3) := by decide +kernel
theorem dX0_isAlike_38 : decode cX0_isAlike 38 = .ok (.ifCond .le 5, 3) := by decide +kernel
theorem dX0_isAlike_41 : decode cX0_isAlike 41 = .ok (.iconst 1, 1) := by decide +kernel
theorem dX0_isAlike_42 : decode cX0_isAlike 42 = .ok (.ireturn, 1) := by decide +kernel
theorem dX0_isAlike_43 : decode cX0_isAlike 43 = .ok (.iinc 1 1, 3) := by decide +kernel
theorem dX0_isAlike_46 : decode cX0_isAlike 46 = .ok (.goto (-27), 3) := by decide +kernel
theorem dX0_isAlike_49 : decode cX0_isAlike 49 = .ok (.iconst 0, 1) := by decide +kernel
theorem dX0_isAlike_50 : decode cX0_isAlike 50 = .ok (.ireturn, 1) := by decide +kernel
set_option maxRecDepth 20000 in
theorem ggX0_symmetries_X0_waysOfMarks : GoodIn wsX0_symmetries wsX0_waysOfMarks := goodIn_r _ [7, 1, 2, 8, 9, 6, 10, 11, 12, 13, 14, 15, 16, 17, 18, 19, 20, 21, 22, 23, 24, 25, 26, 27, 28, 29, 30, 31, 32, 33, 34, 35] (by decide +kernel) (by decide +kernel)
set_option maxRecDepth 20000 in
theorem gX0_symmetries_X0_waysOfMarks : GoodIn wsX0_symmetries (wsV RX0 137 RX0 yX0_waysOfMarks wsX0_waysOfMarks) := goodIn_app (goodIn_of _ (by decide +kernel)) ggX0_symmetries_X0_waysOfMarks
theorem dX0_symmetries_0 : decode cX0_symmetries 0 = .ok (.iconst 0, 1) := by decide +kernel
theorem dX0_symmetries_1 : decode cX0_symmetries 1 = .ok (.istore_n 1, 1) := by decide +kernel
theorem dX0_symmetries_2 : decode cX0_symmetries 2 = .ok (.iconst 0, 1) := by decide +kernel
theorem dX0_symmetries_3 : decode cX0_symmetries 3 = .ok (.istore_n 2, 1) := by decide +kernel
theorem dX0_symmetries_4 : decode cX0_symmetries 4 = .ok (.iload_n 2, 1) := by decide +kernel
theorem dX0_symmetries_5 : decode cX0_symmetries 5 = .ok (.bipush 8, 2) := by decide +kernel
theorem dX0_symmetries_7 : decode cX0_symmetries 7 = .ok (.if_icmp .ge 25, 3) := by decide +kernel
theorem dX0_symmetries_10 : decode cX0_symmetries 10 = .ok (.iload_n 1, 1) := by decide +kernel
theorem dX0_symmetries_11 : decode cX0_symmetries 11 = .ok (.aload_n 0, 1) := by decide +kernel
theorem dX0_symmetries_12 : decode cX0_symmetries 12 = .ok (.iload_n 2, 1) := by decide +kernel
theorem dX0_symmetries_13 : decode cX0_symmetries 13 = .ok (.aload_n 0, 1) := by decide +kernel
theorem dX0_symmetries_14 : decode cX0_symmetries 14 = .ok (.getfield 16, 3) := by decide +kernel
theorem dX0_symmetries_17 : decode cX0_symmetries 17 = .ok (.aload_n 0, 1) := by decide +kernel
theorem dX0_symmetries_18 : decode cX0_symmetries 18 = .ok (.getfield 38, 3) := by decide +kernel
theorem dX0_symmetries_21 : decode cX0_symmetries 21 = .ok (.invokevirtual 137, 3) := by decide +kernel
theorem dX0_symmetries_24 : decode cX0_symmetries 24 = .ok (.iadd, 1) := by decide +kernel
theorem dX0_symmetries_25 : decode cX0_symmetries 25 = .ok (.istore_n 1, 1) := by decide +kernel
theorem dX0_symmetries_26 : decode cX0_symmetries 26 = .ok (.iinc 2 1, 3) := by decide +kernel
theorem dX0_symmetries_29 : decode cX0_symmetries 29 = .ok (.goto (-25), 3) := by decide +kernel
theorem dX0_symmetries_32 : decode cX0_symmetries 32 = .ok (.iload_n 1, 1) := by decide +kernel
theorem dX0_symmetries_33 : decode cX0_symmetries 33 = .ok (.ireturn, 1) := by decide +kernel
theorem dX0_isNumber_0 : decode cX0_isNumber 0 = .ok (.iload_n 0, 1) := by decide +kernel
theorem dX0_isNumber_1 : decode cX0_isNumber 1 = .ok (.ifCond .lt 13, 3) := by decide +kernel
theorem dX0_isNumber_4 : decode cX0_isNumber 4 = .ok (.iload_n 0, 1) := by decide +kernel
theorem dX0_isNumber_5 : decode cX0_isNumber 5 = .ok (.bipush 16, 2) := by decide +kernel
theorem dX0_isNumber_7 : decode cX0_isNumber 7 = .ok (.if_icmp .ge 7, 3) := by decide +kernel
theorem dX0_isNumber_10 : decode cX0_isNumber 10 = .ok (.iconst 1, 1) := by decide +kernel
theorem dX0_isNumber_11 : decode cX0_isNumber 11 = .ok (.goto 4, 3) := by decide +kernel
theorem dX0_isNumber_14 : decode cX0_isNumber 14 = .ok (.iconst 0, 1) := by decide +kernel
theorem dX0_isNumber_15 : decode cX0_isNumber 15 = .ok (.ireturn, 1) := by decide +kernel
theorem dX0_has_0 : decode cX0_has 0 = .ok (.iload_n 0, 1) := by decide +kernel
theorem dX0_has_1 : decode cX0_has 1 = .ok (.iconst 1, 1) := by decide +kernel
theorem dX0_has_2 : decode cX0_has 2 = .ok (.iload_n 1, 1) := by decide +kernel
theorem dX0_has_3 : decode cX0_has 3 = .ok (.ishl, 1) := by decide +kernel
theorem dX0_has_4 : decode cX0_has 4 = .ok (.iand, 1) := by decide +kernel
theorem dX0_has_5 : decode cX0_has 5 = .ok (.ifCond .eq 7, 3) := by decide +kernel
theorem dX0_has_8 : decode cX0_has 8 = .ok (.iconst 1, 1) := by decide +kernel
theorem dX0_has_9 : decode cX0_has 9 = .ok (.goto 4, 3) := by decide +kernel
theorem dX0_has_12 : decode cX0_has 12 = .ok (.iconst 0, 1) := by decide +kernel
theorem dX0_has_13 : decode cX0_has 13 = .ok (.ireturn, 1) := by decide +kernel
theorem dX0_withOne_0 : decode cX0_withOne 0 = .ok (.lload_n 0, 1) := by decide +kernel
theorem dX0_withOne_1 : decode cX0_withOne 1 = .ok (.bipush 16, 2) := by decide +kernel
theorem dX0_withOne_3 : decode cX0_withOne 3 = .ok (.iload_n 2, 1) := by decide +kernel
theorem dX0_withOne_4 : decode cX0_withOne 4 = .ok (.imul, 1) := by decide +kernel
theorem dX0_withOne_5 : decode cX0_withOne 5 = .ok (.lushr, 1) := by decide +kernel
theorem dX0_withOne_6 : decode cX0_withOne 6 = .ok (.l2i, 1) := by decide +kernel
theorem dX0_withOne_7 : decode cX0_withOne 7 = .ok (.ldc 78, 2) := by decide +kernel
theorem dX0_withOne_9 : decode cX0_withOne 9 = .ok (.iand, 1) := by decide +kernel
theorem dX0_withOne_10 : decode cX0_withOne 10 = .ok (.ireturn, 1) := by decide +kernel
theorem dX0_ownDigits_0 : decode cX0_ownDigits 0 = .ok (.iload_n 0, 1) := by decide +kernel
theorem dX0_ownDigits_1 : decode cX0_ownDigits 1 = .ok (.iload_n 0, 1) := by decide +kernel
theorem dX0_ownDigits_2 : decode cX0_ownDigits 2 = .ok (.iconst (-1), 1) := by decide +kernel
theorem dX0_ownDigits_3 : decode cX0_ownDigits 3 = .ok (.ixor, 1) := by decide +kernel
theorem dX0_ownDigits_4 : decode cX0_ownDigits 4 = .ok (.bipush 15, 2) := by decide +kernel
theorem dX0_ownDigits_6 : decode cX0_ownDigits 6 = .ok (.iand, 1) := by decide +kernel
theorem dX0_ownDigits_7 : decode cX0_ownDigits 7 = .ok (.iconst 4, 1) := by decide +kernel
theorem dX0_ownDigits_8 : decode cX0_ownDigits 8 = .ok (.ishl, 1) := by decide +kernel
theorem dX0_ownDigits_9 : decode cX0_ownDigits 9 = .ok (.ior, 1) := by decide +kernel
theorem dX0_ownDigits_10 : decode cX0_ownDigits 10 = .ok (.ireturn, 1) := by decide +kernel
theorem dX0_atFirstSquare_0 : decode cX0_atFirstSquare 0 = .ok (.iload_n 0, 1) := by decide +kernel
theorem dX0_atFirstSquare_1 : decode cX0_atFirstSquare 1 = .ok (.i2l, 1) := by decide +kernel
theorem dX0_atFirstSquare_2 : decode cX0_atFirstSquare 2 = .ok (.lconst 1, 1) := by decide +kernel
theorem dX0_atFirstSquare_3 : decode cX0_atFirstSquare 3 = .ok (.land, 1) := by decide +kernel
theorem dX0_atFirstSquare_4 : decode cX0_atFirstSquare 4 = .ok (.iload_n 0, 1) := by decide +kernel
theorem dX0_atFirstSquare_5 : decode cX0_atFirstSquare 5 = .ok (.i2l, 1) := by decide +kernel
theorem dX0_atFirstSquare_6 : decode cX0_atFirstSquare 6 = .ok (.ldc2_w 141, 3) := by decide +kernel
theorem dX0_atFirstSquare_9 : decode cX0_atFirstSquare 9 = .ok (.land, 1) := by decide +kernel
theorem dX0_atFirstSquare_10 : decode cX0_atFirstSquare 10 = .ok (.bipush 15, 2) := by decide +kernel
theorem dX0_atFirstSquare_12 : decode cX0_atFirstSquare 12 = .ok (.lshl, 1) := by decide +kernel
theorem dX0_atFirstSquare_13 : decode cX0_atFirstSquare 13 = .ok (.lor, 1) := by decide +kernel
theorem dX0_atFirstSquare_14 : decode cX0_atFirstSquare 14 = .ok (.iload_n 0, 1) := by decide +kernel
theorem dX0_atFirstSquare_15 : decode cX0_atFirstSquare 15 = .ok (.i2l, 1) := by decide +kernel
theorem dX0_atFirstSquare_16 : decode cX0_atFirstSquare 16 = .ok (.ldc2_w 143, 3) := by decide +kernel
theorem dX0_atFirstSquare_19 : decode cX0_atFirstSquare 19 = .ok (.land, 1) := by decide +kernel
theorem dX0_atFirstSquare_20 : decode cX0_atFirstSquare 20 = .ok (.bipush 30, 2) := by decide +kernel
theorem dX0_atFirstSquare_22 : decode cX0_atFirstSquare 22 = .ok (.lshl, 1) := by decide +kernel
theorem dX0_atFirstSquare_23 : decode cX0_atFirstSquare 23 = .ok (.lor, 1) := by decide +kernel
theorem dX0_atFirstSquare_24 : decode cX0_atFirstSquare 24 = .ok (.iload_n 0, 1) := by decide +kernel
theorem dX0_atFirstSquare_25 : decode cX0_atFirstSquare 25 = .ok (.i2l, 1) := by decide +kernel
theorem dX0_atFirstSquare_26 : decode cX0_atFirstSquare 26 = .ok (.ldc2_w 145, 3) := by decide +kernel
theorem dX0_atFirstSquare_29 : decode cX0_atFirstSquare 29 = .ok (.land, 1) := by decide +kernel
theorem dX0_atFirstSquare_30 : decode cX0_atFirstSquare 30 = .ok (.bipush 45, 2) := by decide +kernel
theorem dX0_atFirstSquare_32 : decode cX0_atFirstSquare 32 = .ok (.lshl, 1) := by decide +kernel
theorem dX0_atFirstSquare_33 : decode cX0_atFirstSquare 33 = .ok (.lor, 1) := by decide +kernel
theorem dX0_atFirstSquare_34 : decode cX0_atFirstSquare 34 = .ok (.lreturn, 1) := by decide +kernel
set_option maxRecDepth 20000 in
theorem ggX0_put_X0_atFirstSquare : GoodIn wsX0_put wsX0_atFirstSquare := goodIn_r _ [7, 8, 9, 10] (by decide +kernel) (by decide +kernel)
set_option maxRecDepth 20000 in
theorem gX0_put_X0_atFirstSquare : GoodIn wsX0_put (va_wsS RX0 147 yX0_atFirstSquare wsX0_atFirstSquare) := goodIn_app (goodIn_of _ (by decide +kernel)) ggX0_put_X0_atFirstSquare
theorem dX0_put_0 : decode cX0_put 0 = .ok (.aload_n 0, 1) := by decide +kernel
theorem dX0_put_1 : decode cX0_put 1 = .ok (.dup, 1) := by decide +kernel
theorem dX0_put_2 : decode cX0_put 2 = .ok (.getfield 16, 3) := by decide +kernel
theorem dX0_put_5 : decode cX0_put 5 = .ok (.iconst 1, 1) := by decide +kernel
theorem dX0_put_6 : decode cX0_put 6 = .ok (.iload_n 2, 1) := by decide +kernel
theorem dX0_put_7 : decode cX0_put 7 = .ok (.ishl, 1) := by decide +kernel
theorem dX0_put_8 : decode cX0_put 8 = .ok (.ior, 1) := by decide +kernel
theorem dX0_put_9 : decode cX0_put 9 = .ok (.putfield 16, 3) := by decide +kernel
theorem dX0_put_12 : decode cX0_put 12 = .ok (.aload_n 0, 1) := by decide +kernel
theorem dX0_put_13 : decode cX0_put 13 = .ok (.dup, 1) := by decide +kernel
theorem dX0_put_14 : decode cX0_put 14 = .ok (.getfield 35, 3) := by decide +kernel
theorem dX0_put_17 : decode cX0_put 17 = .ok (.iconst 1, 1) := by decide +kernel
theorem dX0_put_18 : decode cX0_put 18 = .ok (.iload_n 1, 1) := by decide +kernel
theorem dX0_put_19 : decode cX0_put 19 = .ok (.ishl, 1) := by decide +kernel
theorem dX0_put_20 : decode cX0_put 20 = .ok (.ior, 1) := by decide +kernel
theorem dX0_put_21 : decode cX0_put 21 = .ok (.putfield 35, 3) := by decide +kernel
theorem dX0_put_24 : decode cX0_put 24 = .ok (.aload_n 0, 1) := by decide +kernel
theorem dX0_put_25 : decode cX0_put 25 = .ok (.dup, 1) := by decide +kernel
theorem dX0_put_26 : decode cX0_put 26 = .ok (.getfield 38, 3) := by decide +kernel
theorem dX0_put_29 : decode cX0_put 29 = .ok (.iload_n 1, 1) := by decide +kernel
theorem dX0_put_30 : decode cX0_put 30 = .ok (.invokestatic 147, 3) := by decide +kernel
theorem dX0_put_33 : decode cX0_put 33 = .ok (.iload_n 2, 1) := by decide +kernel
theorem dX0_put_34 : decode cX0_put 34 = .ok (.lshl, 1) := by decide +kernel
theorem dX0_put_35 : decode cX0_put 35 = .ok (.lor, 1) := by decide +kernel
theorem dX0_put_36 : decode cX0_put 36 = .ok (.putfield 38, 3) := by decide +kernel
theorem dX0_put_39 : decode cX0_put 39 = .ok (.return_, 1) := by decide +kernel
theorem dX0_lift_0 : decode cX0_lift 0 = .ok (.aload_n 0, 1) := by decide +kernel
theorem dX0_lift_1 : decode cX0_lift 1 = .ok (.dup, 1) := by decide +kernel
theorem dX0_lift_2 : decode cX0_lift 2 = .ok (.getfield 16, 3) := by decide +kernel
theorem dX0_lift_5 : decode cX0_lift 5 = .ok (.iconst 1, 1) := by decide +kernel
theorem dX0_lift_6 : decode cX0_lift 6 = .ok (.iload_n 2, 1) := by decide +kernel
theorem dX0_lift_7 : decode cX0_lift 7 = .ok (.ishl, 1) := by decide +kernel
theorem dX0_lift_8 : decode cX0_lift 8 = .ok (.iconst (-1), 1) := by decide +kernel
theorem dX0_lift_9 : decode cX0_lift 9 = .ok (.ixor, 1) := by decide +kernel
theorem dX0_lift_10 : decode cX0_lift 10 = .ok (.iand, 1) := by decide +kernel
theorem dX0_lift_11 : decode cX0_lift 11 = .ok (.putfield 16, 3) := by decide +kernel
theorem dX0_lift_14 : decode cX0_lift 14 = .ok (.aload_n 0, 1) := by decide +kernel
theorem dX0_lift_15 : decode cX0_lift 15 = .ok (.dup, 1) := by decide +kernel
theorem dX0_lift_16 : decode cX0_lift 16 = .ok (.getfield 35, 3) := by decide +kernel
theorem dX0_lift_19 : decode cX0_lift 19 = .ok (.iconst 1, 1) := by decide +kernel
theorem dX0_lift_20 : decode cX0_lift 20 = .ok (.iload_n 1, 1) := by decide +kernel
theorem dX0_lift_21 : decode cX0_lift 21 = .ok (.ishl, 1) := by decide +kernel
theorem dX0_lift_22 : decode cX0_lift 22 = .ok (.iconst (-1), 1) := by decide +kernel
theorem dX0_lift_23 : decode cX0_lift 23 = .ok (.ixor, 1) := by decide +kernel
theorem dX0_lift_24 : decode cX0_lift 24 = .ok (.iand, 1) := by decide +kernel
theorem dX0_lift_25 : decode cX0_lift 25 = .ok (.putfield 35, 3) := by decide +kernel
theorem dX0_lift_28 : decode cX0_lift 28 = .ok (.aload_n 0, 1) := by decide +kernel
theorem dX0_lift_29 : decode cX0_lift 29 = .ok (.dup, 1) := by decide +kernel
theorem dX0_lift_30 : decode cX0_lift 30 = .ok (.getfield 38, 3) := by decide +kernel
theorem dX0_lift_33 : decode cX0_lift 33 = .ok (.ldc2_w 151, 3) := by decide +kernel
theorem dX0_lift_36 : decode cX0_lift 36 = .ok (.iload_n 2, 1) := by decide +kernel
theorem dX0_lift_37 : decode cX0_lift 37 = .ok (.lshl, 1) := by decide +kernel
theorem dX0_lift_38 : decode cX0_lift 38 = .ok (.ldc2_w 153, 3) := by decide +kernel
theorem dX0_lift_41 : decode cX0_lift 41 = .ok (.lxor, 1) := by decide +kernel
theorem dX0_lift_42 : decode cX0_lift 42 = .ok (.land, 1) := by decide +kernel
theorem dX0_lift_43 : decode cX0_lift 43 = .ok (.putfield 38, 3) := by decide +kernel
theorem dX0_lift_46 : decode cX0_lift 46 = .ok (.return_, 1) := by decide +kernel
set_option maxRecDepth 20000 in
theorem ggX0_inCommon_X0_withOne : GoodIn wsX0_inCommon wsX0_withOne := goodIn_r _ [6, 7] (by decide +kernel) (by decide +kernel)
set_option maxRecDepth 20000 in
theorem gX0_inCommon_X0_withOne : GoodIn wsX0_inCommon (va_wsS RX0 79 yX0_withOne wsX0_withOne) := goodIn_app (goodIn_of _ (by decide +kernel)) ggX0_inCommon_X0_withOne
theorem dX0_inCommon_0 : decode cX0_inCommon 0 = .ok (.iload_n 1, 1) := by decide +kernel
theorem dX0_inCommon_1 : decode cX0_inCommon 1 = .ok (.aload_n 0, 1) := by decide +kernel
theorem dX0_inCommon_2 : decode cX0_inCommon 2 = .ok (.getfield 16, 3) := by decide +kernel
theorem dX0_inCommon_5 : decode cX0_inCommon 5 = .ok (.iand, 1) := by decide +kernel
theorem dX0_inCommon_6 : decode cX0_inCommon 6 = .ok (.istore_n 2, 1) := by decide +kernel
theorem dX0_inCommon_7 : decode cX0_inCommon 7 = .ok (.iconst 0, 1) := by decide +kernel
theorem dX0_inCommon_8 : decode cX0_inCommon 8 = .ok (.istore_n 3, 1) := by decide +kernel
theorem dX0_inCommon_9 : decode cX0_inCommon 9 = .ok (.iconst 0, 1) := by decide +kernel
theorem dX0_inCommon_10 : decode cX0_inCommon 10 = .ok (.istore 4, 2) := by decide +kernel
theorem dX0_inCommon_12 : decode cX0_inCommon 12 = .ok (.iload 4, 2) := by decide +kernel
theorem dX0_inCommon_14 : decode cX0_inCommon 14 = .ok (.iconst 4, 1) := by decide +kernel
theorem dX0_inCommon_15 : decode cX0_inCommon 15 = .ok (.if_icmp .ge 49, 3) := by decide +kernel
theorem dX0_inCommon_18 : decode cX0_inCommon 18 = .ok (.aload_n 0, 1) := by decide +kernel
theorem dX0_inCommon_19 : decode cX0_inCommon 19 = .ok (.getfield 38, 3) := by decide +kernel
theorem dX0_inCommon_22 : decode cX0_inCommon 22 = .ok (.iload 4, 2) := by decide +kernel
theorem dX0_inCommon_24 : decode cX0_inCommon 24 = .ok (.invokestatic 79, 3) := by decide +kernel
theorem dX0_inCommon_27 : decode cX0_inCommon 27 = .ok (.iload_n 2, 1) := by decide +kernel
theorem dX0_inCommon_28 : decode cX0_inCommon 28 = .ok (.iand, 1) := by decide +kernel
theorem dX0_inCommon_29 : decode cX0_inCommon 29 = .ok (.istore 5, 2) := by decide +kernel
theorem dX0_inCommon_31 : decode cX0_inCommon 31 = .ok (.iload 5, 2) := by decide +kernel
theorem dX0_inCommon_33 : decode cX0_inCommon 33 = .ok (.iload_n 2, 1) := by decide +kernel
theorem dX0_inCommon_34 : decode cX0_inCommon 34 = .ok (.if_icmp .ne 10, 3) := by decide +kernel
theorem dX0_inCommon_37 : decode cX0_inCommon 37 = .ok (.iload_n 3, 1) := by decide +kernel
theorem dX0_inCommon_38 : decode cX0_inCommon 38 = .ok (.iconst 1, 1) := by decide +kernel
theorem dX0_inCommon_39 : decode cX0_inCommon 39 = .ok (.iload 4, 2) := by decide +kernel
theorem dX0_inCommon_41 : decode cX0_inCommon 41 = .ok (.ishl, 1) := by decide +kernel
theorem dX0_inCommon_42 : decode cX0_inCommon 42 = .ok (.ior, 1) := by decide +kernel
theorem dX0_inCommon_43 : decode cX0_inCommon 43 = .ok (.istore_n 3, 1) := by decide +kernel
theorem dX0_inCommon_44 : decode cX0_inCommon 44 = .ok (.iload 5, 2) := by decide +kernel
theorem dX0_inCommon_46 : decode cX0_inCommon 46 = .ok (.ifCond .ne 12, 3) := by decide +kernel
theorem dX0_inCommon_49 : decode cX0_inCommon 49 = .ok (.iload_n 3, 1) := by decide +kernel
theorem dX0_inCommon_50 : decode cX0_inCommon 50 = .ok (.iconst 1, 1) := by decide +kernel
theorem dX0_inCommon_51 : decode cX0_inCommon 51 = .ok (.iload 4, 2) := by decide +kernel
theorem dX0_inCommon_53 : decode cX0_inCommon 53 = .ok (.iconst 4, 1) := by decide +kernel
theorem dX0_inCommon_54 : decode cX0_inCommon 54 = .ok (.iadd, 1) := by decide +kernel
theorem dX0_inCommon_55 : decode cX0_inCommon 55 = .ok (.ishl, 1) := by decide +kernel
theorem dX0_inCommon_56 : decode cX0_inCommon 56 = .ok (.ior, 1) := by decide +kernel
theorem dX0_inCommon_57 : decode cX0_inCommon 57 = .ok (.istore_n 3, 1) := by decide +kernel
theorem dX0_inCommon_58 : decode cX0_inCommon 58 = .ok (.iinc 4 1, 3) := by decide +kernel
theorem dX0_inCommon_61 : decode cX0_inCommon 61 = .ok (.goto (-49), 3) := by decide +kernel
theorem dX0_inCommon_64 : decode cX0_inCommon 64 = .ok (.iload_n 3, 1) := by decide +kernel
theorem dX0_inCommon_65 : decode cX0_inCommon 65 = .ok (.ireturn, 1) := by decide +kernel
set_option maxRecDepth 20000 in
theorem ggX0_wonLines_X0_lines : GoodIn wsX0_wonLines wsX0_lines := goodIn_r _ [7, 8, 1, 18, 19, 20, 21, 22, 23, 24, 25, 26, 27, 28] (by decide +kernel) (by decide +kernel)
set_option maxRecDepth 20000 in
theorem gX0_wonLines_X0_lines : GoodIn wsX0_wonLines (wsV RX0 87 RX0 yX0_lines wsX0_lines) := goodIn_app (goodIn_of _ (by decide +kernel)) ggX0_wonLines_X0_lines
set_option maxRecDepth 20000 in
theorem ggX0_wonLines_X0_inCommon : GoodIn wsX0_wonLines wsX0_inCommon := goodIn_r _ [12, 2, 13, 14, 15, 6, 16, 17, 18, 19, 20, 21, 22, 23, 24, 25, 26, 27, 28] (by decide +kernel) (by decide +kernel)
set_option maxRecDepth 20000 in
theorem gX0_wonLines_X0_inCommon : GoodIn wsX0_wonLines (wsV RX0 92 RX0 yX0_inCommon wsX0_inCommon) := goodIn_app (goodIn_of _ (by decide +kernel)) ggX0_wonLines_X0_inCommon
theorem dX0_wonLines_0 : decode cX0_wonLines 0 = .ok (.iconst 0, 1) := by decide +kernel
theorem dX0_wonLines_1 : decode cX0_wonLines 1 = .ok (.istore_n 1, 1) := by decide +kernel
theorem dX0_wonLines_2 : decode cX0_wonLines 2 = .ok (.iconst 0, 1) := by decide +kernel
theorem dX0_wonLines_3 : decode cX0_wonLines 3 = .ok (.istore_n 2, 1) := by decide +kernel
theorem dX0_wonLines_4 : decode cX0_wonLines 4 = .ok (.iload_n 2, 1) := by decide +kernel
theorem dX0_wonLines_5 : decode cX0_wonLines 5 = .ok (.aload_n 0, 1) := by decide +kernel
theorem dX0_wonLines_6 : decode cX0_wonLines 6 = .ok (.invokevirtual 87, 3) := by decide +kernel
theorem dX0_wonLines_9 : decode cX0_wonLines 9 = .ok (.if_icmp .ge 37, 3) := by decide +kernel
theorem dX0_wonLines_12 : decode cX0_wonLines 12 = .ok (.getstatic 83, 3) := by decide +kernel
theorem dX0_wonLines_15 : decode cX0_wonLines 15 = .ok (.iload_n 2, 1) := by decide +kernel
theorem dX0_wonLines_16 : decode cX0_wonLines 16 = .ok (.iaload, 1) := by decide +kernel
theorem dX0_wonLines_17 : decode cX0_wonLines 17 = .ok (.istore_n 3, 1) := by decide +kernel
theorem dX0_wonLines_18 : decode cX0_wonLines 18 = .ok (.iload_n 3, 1) := by decide +kernel
theorem dX0_wonLines_19 : decode cX0_wonLines 19 = .ok (.aload_n 0, 1) := by decide +kernel
theorem dX0_wonLines_20 : decode cX0_wonLines 20 = .ok (.getfield 16, 3) := by decide +kernel
theorem dX0_wonLines_23 : decode cX0_wonLines 23 = .ok (.iconst (-1), 1) := by decide +kernel
theorem dX0_wonLines_24 : decode cX0_wonLines 24 = .ok (.ixor, 1) := by decide +kernel
theorem dX0_wonLines_25 : decode cX0_wonLines 25 = .ok (.iand, 1) := by decide +kernel
theorem dX0_wonLines_26 : decode cX0_wonLines 26 = .ok (.ifCond .ne 14, 3) := by decide +kernel
theorem dX0_wonLines_29 : decode cX0_wonLines 29 = .ok (.aload_n 0, 1) := by decide +kernel
theorem dX0_wonLines_30 : decode cX0_wonLines 30 = .ok (.iload_n 3, 1) := by decide +kernel
theorem dX0_wonLines_31 : decode cX0_wonLines 31 = .ok (.invokevirtual 92, 3) := by decide +kernel
theorem dX0_wonLines_34 : decode cX0_wonLines 34 = .ok (.ifCond .eq 6, 3) := by decide +kernel
theorem dX0_wonLines_37 : decode cX0_wonLines 37 = .ok (.iinc 1 1, 3) := by decide +kernel
theorem dX0_wonLines_40 : decode cX0_wonLines 40 = .ok (.iinc 2 1, 3) := by decide +kernel
theorem dX0_wonLines_43 : decode cX0_wonLines 43 = .ok (.goto (-39), 3) := by decide +kernel
theorem dX0_wonLines_46 : decode cX0_wonLines 46 = .ok (.iload_n 1, 1) := by decide +kernel
theorem dX0_wonLines_47 : decode cX0_wonLines 47 = .ok (.ireturn, 1) := by decide +kernel
theorem dX0_lacksOne_0 : decode cX0_lacksOne 0 = .ok (.iload_n 1, 1) := by decide +kernel
theorem dX0_lacksOne_1 : decode cX0_lacksOne 1 = .ok (.aload_n 0, 1) := by decide +kernel
theorem dX0_lacksOne_2 : decode cX0_lacksOne 2 = .ok (.getfield 16, 3) := by decide +kernel
theorem dX0_lacksOne_5 : decode cX0_lacksOne 5 = .ok (.iconst (-1), 1) := by decide +kernel
theorem dX0_lacksOne_6 : decode cX0_lacksOne 6 = .ok (.ixor, 1) := by decide +kernel
theorem dX0_lacksOne_7 : decode cX0_lacksOne 7 = .ok (.iand, 1) := by decide +kernel
theorem dX0_lacksOne_8 : decode cX0_lacksOne 8 = .ok (.istore_n 2, 1) := by decide +kernel
theorem dX0_lacksOne_9 : decode cX0_lacksOne 9 = .ok (.iload_n 2, 1) := by decide +kernel
theorem dX0_lacksOne_10 : decode cX0_lacksOne 10 = .ok (.ifCond .eq 15, 3) := by decide +kernel
theorem dX0_lacksOne_13 : decode cX0_lacksOne 13 = .ok (.iload_n 2, 1) := by decide +kernel
theorem dX0_lacksOne_14 : decode cX0_lacksOne 14 = .ok (.iload_n 2, 1) := by decide +kernel
theorem dX0_lacksOne_15 : decode cX0_lacksOne 15 = .ok (.iconst 1, 1) := by decide +kernel
theorem dX0_lacksOne_16 : decode cX0_lacksOne 16 = .ok (.isub, 1) := by decide +kernel
theorem dX0_lacksOne_17 : decode cX0_lacksOne 17 = .ok (.iand, 1) := by decide +kernel
theorem dX0_lacksOne_18 : decode cX0_lacksOne 18 = .ok (.ifCond .ne 7, 3) := by decide +kernel
theorem dX0_lacksOne_21 : decode cX0_lacksOne 21 = .ok (.iconst 1, 1) := by decide +kernel
theorem dX0_lacksOne_22 : decode cX0_lacksOne 22 = .ok (.goto 4, 3) := by decide +kernel
theorem dX0_lacksOne_25 : decode cX0_lacksOne 25 = .ok (.iconst 0, 1) := by decide +kernel
theorem dX0_lacksOne_26 : decode cX0_lacksOne 26 = .ok (.ireturn, 1) := by decide +kernel
set_option maxRecDepth 20000 in
theorem ggX0_winningSquares_X0_ownDigits : GoodIn wsX0_winningSquares wsX0_ownDigits := goodIn_r _ [6] (by decide +kernel) (by decide +kernel)
set_option maxRecDepth 20000 in
theorem gX0_winningSquares_X0_ownDigits : GoodIn wsX0_winningSquares (va_wsS RX0 155 yX0_ownDigits wsX0_ownDigits) := goodIn_app (goodIn_of _ (by decide +kernel)) ggX0_winningSquares_X0_ownDigits
set_option maxRecDepth 20000 in
theorem ggX0_winningSquares_X0_lines : GoodIn wsX0_winningSquares wsX0_lines := goodIn_r _ [10, 11, 1, 25, 26, 27, 28, 29, 30, 31, 32, 33, 34, 35] (by decide +kernel) (by decide +kernel)
set_option maxRecDepth 20000 in
theorem gX0_winningSquares_X0_lines : GoodIn wsX0_winningSquares (wsV RX0 87 RX0 yX0_lines wsX0_lines) := goodIn_app (goodIn_of _ (by decide +kernel)) ggX0_winningSquares_X0_lines
set_option maxRecDepth 20000 in
theorem ggX0_winningSquares_X0_lacksOne : GoodIn wsX0_winningSquares wsX0_lacksOne := goodIn_r _ [15, 2, 25, 26, 27, 28, 29, 30, 31, 32, 33, 34, 35] (by decide +kernel) (by decide +kernel)
set_option maxRecDepth 20000 in
theorem gX0_winningSquares_X0_lacksOne : GoodIn wsX0_winningSquares (wsV RX0 158 RX0 yX0_lacksOne wsX0_lacksOne) := goodIn_app (goodIn_of _ (by decide +kernel)) ggX0_winningSquares_X0_lacksOne
set_option maxRecDepth 20000 in
theorem ggX0_winningSquares_X0_inCommon : GoodIn wsX0_winningSquares wsX0_inCommon := goodIn_r _ [19, 2, 20, 21, 22, 5, 23, 24, 25, 26, 27, 28, 29, 30, 31, 32, 33, 34, 35] (by decide +kernel) (by decide +kernel)
set_option maxRecDepth 20000 in
theorem gX0_winningSquares_X0_inCommon : GoodIn wsX0_winningSquares (wsV RX0 92 RX0 yX0_inCommon wsX0_inCommon) := goodIn_app (goodIn_of _ (by decide +kernel)) ggX0_winningSquares_X0_inCommon
theorem dX0_winningSquares_0 : decode cX0_winningSquares 0 = .ok (.iload_n 1, 1) := by decide +kernel
theorem dX0_winningSquares_1 : decode cX0_winningSquares 1 = .ok (.invokestatic 155, 3) := by decide +kernel
theorem dX0_winningSquares_4 : decode cX0_winningSquares 4 = .ok (.istore_n 2, 1) := by decide +kernel
theorem dX0_winningSquares_5 : decode cX0_winningSquares 5 = .ok (.iconst 0, 1) := by decide +kernel
theorem dX0_winningSquares_6 : decode cX0_winningSquares 6 = .ok (.istore_n 3, 1) := by decide +kernel
theorem dX0_winningSquares_7 : decode cX0_winningSquares 7 = .ok (.iconst 0, 1) := by decide +kernel
theorem dX0_winningSquares_8 : decode cX0_winningSquares 8 = .ok (.istore 4, 2) := by decide +kernel
theorem dX0_winningSquares_10 : decode cX0_winningSquares 10 = .ok (.iload 4, 2) := by decide +kernel
theorem dX0_winningSquares_12 : decode cX0_winningSquares 12 = .ok (.aload_n 0, 1) := by decide +kernel
theorem dX0_winningSquares_13 : decode cX0_winningSquares 13 = .ok (.invokevirtual 87, 3) := by decide +kernel
theorem dX0_winningSquares_16 : decode cX0_winningSquares 16 = .ok (.if_icmp .ge 49, 3) := by decide +kernel
theorem dX0_winningSquares_19 : decode cX0_winningSquares 19 = .ok (.getstatic 83, 3) := by decide +kernel
theorem dX0_winningSquares_22 : decode cX0_winningSquares 22 = .ok (.iload 4, 2) := by decide +kernel
theorem dX0_winningSquares_24 : decode cX0_winningSquares 24 = .ok (.iaload, 1) := by decide +kernel
theorem dX0_winningSquares_25 : decode cX0_winningSquares 25 = .ok (.istore 5, 2) := by decide +kernel
theorem dX0_winningSquares_27 : decode cX0_winningSquares 27 = .ok (.aload_n 0, 1) := by decide +kernel
theorem dX0_winningSquares_28 : decode cX0_winningSquares 28 = .ok (.iload 5, 2) := by decide +kernel
theorem dX0_winningSquares_30 : decode cX0_winningSquares 30 = .ok (.invokevirtual 158, 3) := by decide +kernel
theorem dX0_winningSquares_33 : decode cX0_winningSquares 33 = .ok (.ifCond .eq 26, 3) := by decide +kernel
theorem dX0_winningSquares_36 : decode cX0_winningSquares 36 = .ok (.aload_n 0, 1) := by decide +kernel
theorem dX0_winningSquares_37 : decode cX0_winningSquares 37 = .ok (.iload 5, 2) := by decide +kernel
theorem dX0_winningSquares_39 : decode cX0_winningSquares 39 = .ok (.invokevirtual 92, 3) := by decide +kernel
theorem dX0_winningSquares_42 : decode cX0_winningSquares 42 = .ok (.iload_n 2, 1) := by decide +kernel
theorem dX0_winningSquares_43 : decode cX0_winningSquares 43 = .ok (.iand, 1) := by decide +kernel
theorem dX0_winningSquares_44 : decode cX0_winningSquares 44 = .ok (.ifCond .eq 15, 3) := by decide +kernel
theorem dX0_winningSquares_47 : decode cX0_winningSquares 47 = .ok (.iload_n 3, 1) := by decide +kernel
theorem dX0_winningSquares_48 : decode cX0_winningSquares 48 = .ok (.iload 5, 2) := by decide +kernel
theorem dX0_winningSquares_50 : decode cX0_winningSquares 50 = .ok (.aload_n 0, 1) := by decide +kernel
theorem dX0_winningSquares_51 : decode cX0_winningSquares 51 = .ok (.getfield 16, 3) := by decide +kernel
theorem dX0_winningSquares_54 : decode cX0_winningSquares 54 = .ok (.iconst (-1), 1) := by decide +kernel
theorem dX0_winningSquares_55 : decode cX0_winningSquares 55 = .ok (.ixor, 1) := by decide +kernel
theorem dX0_winningSquares_56 : decode cX0_winningSquares 56 = .ok (.iand, 1) := by decide +kernel
theorem dX0_winningSquares_57 : decode cX0_winningSquares 57 = .ok (.ior, 1) := by decide +kernel
theorem dX0_winningSquares_58 : decode cX0_winningSquares 58 = .ok (.istore_n 3, 1) := by decide +kernel
theorem dX0_winningSquares_59 : decode cX0_winningSquares 59 = .ok (.iinc 4 1, 3) := by decide +kernel
theorem dX0_winningSquares_62 : decode cX0_winningSquares 62 = .ok (.goto (-52), 3) := by decide +kernel
theorem dX0_winningSquares_65 : decode cX0_winningSquares 65 = .ok (.iload_n 3, 1) := by decide +kernel
theorem dX0_winningSquares_66 : decode cX0_winningSquares 66 = .ok (.ireturn, 1) := by decide +kernel
set_option maxRecDepth 20000 in
theorem ggX0_winningDigits_X0_lines : GoodIn wsX0_winningDigits wsX0_lines := goodIn_r _ [6, 7, 1, 22, 23, 24, 25, 26, 27, 28, 29, 30, 31, 32] (by decide +kernel) (by decide +kernel)
set_option maxRecDepth 20000 in
theorem gX0_winningDigits_X0_lines : GoodIn wsX0_winningDigits (wsV RX0 87 RX0 yX0_lines wsX0_lines) := goodIn_app (goodIn_of _ (by decide +kernel)) ggX0_winningDigits_X0_lines
set_option maxRecDepth 20000 in
theorem ggX0_winningDigits_X0_lacksOne : GoodIn wsX0_winningDigits wsX0_lacksOne := goodIn_r _ [11, 12, 22, 23, 24, 25, 26, 27, 28, 29, 30, 31, 32] (by decide +kernel) (by decide +kernel)
set_option maxRecDepth 20000 in
theorem gX0_winningDigits_X0_lacksOne : GoodIn wsX0_winningDigits (wsV RX0 158 RX0 yX0_lacksOne wsX0_lacksOne) := goodIn_app (goodIn_of _ (by decide +kernel)) ggX0_winningDigits_X0_lacksOne
set_option maxRecDepth 20000 in
theorem ggX0_winningDigits_X0_inCommon : GoodIn wsX0_winningDigits wsX0_inCommon := goodIn_r _ [16, 12, 17, 18, 19, 5, 20, 21, 22, 23, 24, 25, 26, 27, 28, 29, 30, 31, 32] (by decide +kernel) (by decide +kernel)
set_option maxRecDepth 20000 in
theorem gX0_winningDigits_X0_inCommon : GoodIn wsX0_winningDigits (wsV RX0 92 RX0 yX0_inCommon wsX0_inCommon) := goodIn_app (goodIn_of _ (by decide +kernel)) ggX0_winningDigits_X0_inCommon
theorem dX0_winningDigits_0 : decode cX0_winningDigits 0 = .ok (.iconst 0, 1) := by decide +kernel
theorem dX0_winningDigits_1 : decode cX0_winningDigits 1 = .ok (.istore_n 1, 1) := by decide +kernel
theorem dX0_winningDigits_2 : decode cX0_winningDigits 2 = .ok (.iconst 0, 1) := by decide +kernel
theorem dX0_winningDigits_3 : decode cX0_winningDigits 3 = .ok (.istore_n 2, 1) := by decide +kernel
theorem dX0_winningDigits_4 : decode cX0_winningDigits 4 = .ok (.iload_n 2, 1) := by decide +kernel
theorem dX0_winningDigits_5 : decode cX0_winningDigits 5 = .ok (.aload_n 0, 1) := by decide +kernel
theorem dX0_winningDigits_6 : decode cX0_winningDigits 6 = .ok (.invokevirtual 87, 3) := by decide +kernel
theorem dX0_winningDigits_9 : decode cX0_winningDigits 9 = .ok (.if_icmp .ge 31, 3) := by decide +kernel
theorem dX0_winningDigits_12 : decode cX0_winningDigits 12 = .ok (.getstatic 83, 3) := by decide +kernel
theorem dX0_winningDigits_15 : decode cX0_winningDigits 15 = .ok (.iload_n 2, 1) := by decide +kernel
theorem dX0_winningDigits_16 : decode cX0_winningDigits 16 = .ok (.iaload, 1) := by decide +kernel
theorem dX0_winningDigits_17 : decode cX0_winningDigits 17 = .ok (.istore_n 3, 1) := by decide +kernel
theorem dX0_winningDigits_18 : decode cX0_winningDigits 18 = .ok (.aload_n 0, 1) := by decide +kernel
theorem dX0_winningDigits_19 : decode cX0_winningDigits 19 = .ok (.iload_n 3, 1) := by decide +kernel
theorem dX0_winningDigits_20 : decode cX0_winningDigits 20 = .ok (.invokevirtual 158, 3) := by decide +kernel
theorem dX0_winningDigits_23 : decode cX0_winningDigits 23 = .ok (.ifCond .eq 11, 3) := by decide +kernel
theorem dX0_winningDigits_26 : decode cX0_winningDigits 26 = .ok (.iload_n 1, 1) := by decide +kernel
theorem dX0_winningDigits_27 : decode cX0_winningDigits 27 = .ok (.aload_n 0, 1) := by decide +kernel
theorem dX0_winningDigits_28 : decode cX0_winningDigits 28 = .ok (.iload_n 3, 1) := by decide +kernel
theorem dX0_winningDigits_29 : decode cX0_winningDigits 29 = .ok (.invokevirtual 92, 3) := by decide +kernel
theorem dX0_winningDigits_32 : decode cX0_winningDigits 32 = .ok (.ior, 1) := by decide +kernel
theorem dX0_winningDigits_33 : decode cX0_winningDigits 33 = .ok (.istore_n 1, 1) := by decide +kernel
theorem dX0_winningDigits_34 : decode cX0_winningDigits 34 = .ok (.iinc 2 1, 3) := by decide +kernel
theorem dX0_winningDigits_37 : decode cX0_winningDigits 37 = .ok (.goto (-33), 3) := by decide +kernel
theorem dX0_winningDigits_40 : decode cX0_winningDigits 40 = .ok (.iload_n 1, 1) := by decide +kernel
theorem dX0_winningDigits_41 : decode cX0_winningDigits 41 = .ok (.ireturn, 1) := by decide +kernel
set_option maxRecDepth 20000 in
theorem ggX0_safePieces_X0_winningDigits : GoodIn wsX0_safePieces wsX0_winningDigits := goodIn_r _ [6, 7, 8, 9, 10, 5, 11, 12, 13, 14, 15, 16, 17, 18, 19, 20, 21, 22, 23, 24, 25, 26, 33, 34, 35, 36, 37, 38, 39, 40, 41, 42, 43] (by decide +kernel) (by decide +kernel)
set_option maxRecDepth 20000 in
theorem gX0_safePieces_X0_winningDigits : GoodIn wsX0_safePieces (wsV RX0 161 RX0 yX0_winningDigits wsX0_winningDigits) := goodIn_app (goodIn_of _ (by decide +kernel)) ggX0_safePieces_X0_winningDigits
set_option maxRecDepth 20000 in
theorem ggX0_safePieces_X0_has : GoodIn wsX0_safePieces wsX0_has := goodIn_r _ [29] (by decide +kernel) (by decide +kernel)
set_option maxRecDepth 20000 in
theorem gX0_safePieces_X0_has : GoodIn wsX0_safePieces (va_wsS RX0 58 yX0_has wsX0_has) := goodIn_app (goodIn_of _ (by decide +kernel)) ggX0_safePieces_X0_has
set_option maxRecDepth 20000 in
theorem ggX0_safePieces_X0_ownDigits : GoodIn wsX0_safePieces wsX0_ownDigits := goodIn_r _ [32] (by decide +kernel) (by decide +kernel)
set_option maxRecDepth 20000 in
theorem gX0_safePieces_X0_ownDigits : GoodIn wsX0_safePieces (va_wsS RX0 155 yX0_ownDigits wsX0_ownDigits) := goodIn_app (goodIn_of _ (by decide +kernel)) ggX0_safePieces_X0_ownDigits
theorem dX0_safePieces_0 : decode cX0_safePieces 0 = .ok (.aload_n 0, 1) := by decide +kernel
theorem dX0_safePieces_1 : decode cX0_safePieces 1 = .ok (.invokevirtual 161, 3) := by decide +kernel
theorem dX0_safePieces_4 : decode cX0_safePieces 4 = .ok (.istore_n 1, 1) := by decide +kernel
theorem dX0_safePieces_5 : decode cX0_safePieces 5 = .ok (.iconst 0, 1) := by decide +kernel
theorem dX0_safePieces_6 : decode cX0_safePieces 6 = .ok (.istore_n 2, 1) := by decide +kernel
theorem dX0_safePieces_7 : decode cX0_safePieces 7 = .ok (.iconst 0, 1) := by decide +kernel
theorem dX0_safePieces_8 : decode cX0_safePieces 8 = .ok (.istore_n 3, 1) := by decide +kernel
theorem dX0_safePieces_9 : decode cX0_safePieces 9 = .ok (.iload_n 3, 1) := by decide +kernel
theorem dX0_safePieces_10 : decode cX0_safePieces 10 = .ok (.bipush 16, 2) := by decide +kernel
theorem dX0_safePieces_12 : decode cX0_safePieces 12 = .ok (.if_icmp .ge 35, 3) := by decide +kernel
theorem dX0_safePieces_15 : decode cX0_safePieces 15 = .ok (.aload_n 0, 1) := by decide +kernel
theorem dX0_safePieces_16 : decode cX0_safePieces 16 = .ok (.getfield 35, 3) := by decide +kernel
theorem dX0_safePieces_19 : decode cX0_safePieces 19 = .ok (.iload_n 3, 1) := by decide +kernel
theorem dX0_safePieces_20 : decode cX0_safePieces 20 = .ok (.invokestatic 58, 3) := by decide +kernel
theorem dX0_safePieces_23 : decode cX0_safePieces 23 = .ok (.ifCond .ne 18, 3) := by decide +kernel
theorem dX0_safePieces_26 : decode cX0_safePieces 26 = .ok (.iload_n 3, 1) := by decide +kernel
theorem dX0_safePieces_27 : decode cX0_safePieces 27 = .ok (.invokestatic 155, 3) := by decide +kernel
theorem dX0_safePieces_30 : decode cX0_safePieces 30 = .ok (.iload_n 1, 1) := by decide +kernel
theorem dX0_safePieces_31 : decode cX0_safePieces 31 = .ok (.iand, 1) := by decide +kernel
theorem dX0_safePieces_32 : decode cX0_safePieces 32 = .ok (.ifCond .ne 9, 3) := by decide +kernel
theorem dX0_safePieces_35 : decode cX0_safePieces 35 = .ok (.iload_n 2, 1) := by decide +kernel
theorem dX0_safePieces_36 : decode cX0_safePieces 36 = .ok (.iconst 1, 1) := by decide +kernel
theorem dX0_safePieces_37 : decode cX0_safePieces 37 = .ok (.iload_n 3, 1) := by decide +kernel
theorem dX0_safePieces_38 : decode cX0_safePieces 38 = .ok (.ishl, 1) := by decide +kernel
theorem dX0_safePieces_39 : decode cX0_safePieces 39 = .ok (.ior, 1) := by decide +kernel
theorem dX0_safePieces_40 : decode cX0_safePieces 40 = .ok (.istore_n 2, 1) := by decide +kernel
theorem dX0_safePieces_41 : decode cX0_safePieces 41 = .ok (.iinc 3 1, 3) := by decide +kernel
theorem dX0_safePieces_44 : decode cX0_safePieces 44 = .ok (.goto (-35), 3) := by decide +kernel
theorem dX0_safePieces_47 : decode cX0_safePieces 47 = .ok (.iload_n 2, 1) := by decide +kernel
theorem dX0_safePieces_48 : decode cX0_safePieces 48 = .ok (.ireturn, 1) := by decide +kernel
set_option maxRecDepth 20000 in
theorem ggX0_canLookAhead_J6_bitCount_0f7a4 : GoodIn wsX0_canLookAhead wsJ6_bitCount_0f7a4 := goodIn_r _ [6, 7, 8, 9] (by decide +kernel) (by decide +kernel)
set_option maxRecDepth 20000 in
theorem gX0_canLookAhead_J6_bitCount_0f7a4 : GoodIn wsX0_canLookAhead (va_wsS RX0 19 yJ6_bitCount_0f7a4 wsJ6_bitCount_0f7a4) := goodIn_app (goodIn_of _ (by decide +kernel)) ggX0_canLookAhead_J6_bitCount_0f7a4
theorem dX0_canLookAhead_0 : decode cX0_canLookAhead 0 = .ok (.bipush 16, 2) := by decide +kernel
theorem dX0_canLookAhead_2 : decode cX0_canLookAhead 2 = .ok (.aload_n 0, 1) := by decide +kernel
theorem dX0_canLookAhead_3 : decode cX0_canLookAhead 3 = .ok (.getfield 16, 3) := by decide +kernel
theorem dX0_canLookAhead_6 : decode cX0_canLookAhead 6 = .ok (.invokestatic 19, 3) := by decide +kernel
theorem dX0_canLookAhead_9 : decode cX0_canLookAhead 9 = .ok (.isub, 1) := by decide +kernel
theorem dX0_canLookAhead_10 : decode cX0_canLookAhead 10 = .ok (.istore_n 2, 1) := by decide +kernel
theorem dX0_canLookAhead_11 : decode cX0_canLookAhead 11 = .ok (.iload_n 1, 1) := by decide +kernel
theorem dX0_canLookAhead_12 : decode cX0_canLookAhead 12 = .ok (.iconst 3, 1) := by decide +kernel
theorem dX0_canLookAhead_13 : decode cX0_canLookAhead 13 = .ok (.if_icmp .ne 11, 3) := by decide +kernel
theorem dX0_canLookAhead_16 : decode cX0_canLookAhead 16 = .ok (.iload_n 2, 1) := by decide +kernel
theorem dX0_canLookAhead_17 : decode cX0_canLookAhead 17 = .ok (.bipush 8, 2) := by decide +kernel
theorem dX0_canLookAhead_19 : decode cX0_canLookAhead 19 = .ok (.if_icmp .le 5, 3) := by decide +kernel
theorem dX0_canLookAhead_22 : decode cX0_canLookAhead 22 = .ok (.iconst 0, 1) := by decide +kernel
theorem dX0_canLookAhead_23 : decode cX0_canLookAhead 23 = .ok (.ireturn, 1) := by decide +kernel
theorem dX0_canLookAhead_24 : decode cX0_canLookAhead 24 = .ok (.iload_n 1, 1) := by decide +kernel
theorem dX0_canLookAhead_25 : decode cX0_canLookAhead 25 = .ok (.iconst 4, 1) := by decide +kernel
theorem dX0_canLookAhead_26 : decode cX0_canLookAhead 26 = .ok (.if_icmp .ne 11, 3) := by decide +kernel
theorem dX0_canLookAhead_29 : decode cX0_canLookAhead 29 = .ok (.iload_n 2, 1) := by decide +kernel
theorem dX0_canLookAhead_30 : decode cX0_canLookAhead 30 = .ok (.bipush 6, 2) := by decide +kernel
theorem dX0_canLookAhead_32 : decode cX0_canLookAhead 32 = .ok (.if_icmp .le 5, 3) := by decide +kernel
theorem dX0_canLookAhead_35 : decode cX0_canLookAhead 35 = .ok (.iconst 0, 1) := by decide +kernel
theorem dX0_canLookAhead_36 : decode cX0_canLookAhead 36 = .ok (.ireturn, 1) := by decide +kernel
theorem dX0_canLookAhead_37 : decode cX0_canLookAhead 37 = .ok (.aload_n 0, 1) := by decide +kernel
theorem dX0_canLookAhead_38 : decode cX0_canLookAhead 38 = .ok (.getfield 29, 3) := by decide +kernel
theorem dX0_canLookAhead_41 : decode cX0_canLookAhead 41 = .ok (.iconst 2, 1) := by decide +kernel
theorem dX0_canLookAhead_42 : decode cX0_canLookAhead 42 = .ok (.if_icmp .eq 7, 3) := by decide +kernel
theorem dX0_canLookAhead_45 : decode cX0_canLookAhead 45 = .ok (.iconst 1, 1) := by decide +kernel
theorem dX0_canLookAhead_46 : decode cX0_canLookAhead 46 = .ok (.goto 4, 3) := by decide +kernel
theorem dX0_canLookAhead_49 : decode cX0_canLookAhead 49 = .ok (.iconst 0, 1) := by decide +kernel
theorem dX0_canLookAhead_50 : decode cX0_canLookAhead 50 = .ok (.ireturn, 1) := by decide +kernel
set_option maxRecDepth 20000 in
theorem ggX0_bestPiece_X0_worthToGive : GoodIn wsX0_bestPiece wsX0_worthToGive := goodIn_r _ [6, 7, 8, 9, 5, 10, 11, 12, 13, 14, 1, 15, 16, 17, 18, 19, 20, 21, 22, 23, 24, 25, 26, 27, 28, 29, 30, 31, 32, 33, 34, 35, 36, 37, 38, 39, 40, 41, 42, 43, 44, 45, 46, 47, 48, 49, 50, 51, 52, 53, 54, 55, 56, 57, 58, 59, 60, 61, 62, 63, 64, 65, 66, 67, 68, 69, 70, 71, 72, 81, 82, 83, 84, 85, 86, 87, 88, 89, 90, 91] (by decide +kernel) (by decide +kernel)
set_option maxRecDepth 20000 in
theorem gX0_bestPiece_X0_worthToGive : GoodIn wsX0_bestPiece (wsV RX0 113 RX0 yX0_worthToGive wsX0_worthToGive) := goodIn_app (goodIn_of _ (by decide +kernel)) ggX0_bestPiece_X0_worthToGive
set_option maxRecDepth 20000 in
theorem ggX0_bestPiece_X0_has : GoodIn wsX0_bestPiece wsX0_has := goodIn_r _ [41] (by decide +kernel) (by decide +kernel)
set_option maxRecDepth 20000 in
theorem gX0_bestPiece_X0_has : GoodIn wsX0_bestPiece (va_wsS RX0 58 yX0_has wsX0_has) := goodIn_app (goodIn_of _ (by decide +kernel)) ggX0_bestPiece_X0_has
set_option maxRecDepth 20000 in
theorem ggX0_bestPiece_X0_worthToPlace : GoodIn wsX0_bestPiece wsX0_worthToPlace := goodIn_r _ [76, 77, 78, 79, 5, 80, 19, 29, 42, 43, 44, 20, 21, 22, 23, 24, 25, 26, 27, 28, 30, 31, 32, 33, 34, 35, 36, 37, 38, 49, 50, 51, 72, 39, 40, 41, 53, 54, 55, 56, 1, 57, 58, 59, 60, 61, 62, 7, 8, 9, 66, 67, 68, 69, 70, 71, 48, 11, 12, 13, 14, 15, 16, 17, 18, 10, 45, 46, 47, 52, 63, 64, 65, 81, 82, 83, 84, 85, 86, 87, 88, 89, 90, 91] (by decide +kernel) (by decide +kernel)
set_option maxRecDepth 20000 in
theorem gX0_bestPiece_X0_worthToPlace : GoodIn wsX0_bestPiece (wsV RX0 116 RX0 yX0_worthToPlace wsX0_worthToPlace) := goodIn_app (goodIn_of _ (by decide +kernel)) ggX0_bestPiece_X0_worthToPlace
theorem dX0_bestPiece_0 : decode cX0_bestPiece 0 = .ok (.aload_n 0, 1) := by decide +kernel
theorem dX0_bestPiece_1 : decode cX0_bestPiece 1 = .ok (.iload_n 1, 1) := by decide +kernel
theorem dX0_bestPiece_2 : decode cX0_bestPiece 2 = .ok (.invokevirtual 113, 3) := by decide +kernel
theorem dX0_bestPiece_5 : decode cX0_bestPiece 5 = .ok (.istore_n 2, 1) := by decide +kernel
theorem dX0_bestPiece_6 : decode cX0_bestPiece 6 = .ok (.iconst 0, 1) := by decide +kernel
theorem dX0_bestPiece_7 : decode cX0_bestPiece 7 = .ok (.istore_n 3, 1) := by decide +kernel
theorem dX0_bestPiece_8 : decode cX0_bestPiece 8 = .ok (.iload_n 3, 1) := by decide +kernel
theorem dX0_bestPiece_9 : decode cX0_bestPiece 9 = .ok (.bipush 15, 2) := by decide +kernel
theorem dX0_bestPiece_11 : decode cX0_bestPiece 11 = .ok (.if_icmp .ge 31, 3) := by decide +kernel
theorem dX0_bestPiece_14 : decode cX0_bestPiece 14 = .ok (.aload_n 0, 1) := by decide +kernel
theorem dX0_bestPiece_15 : decode cX0_bestPiece 15 = .ok (.getfield 35, 3) := by decide +kernel
theorem dX0_bestPiece_18 : decode cX0_bestPiece 18 = .ok (.iload_n 3, 1) := by decide +kernel
theorem dX0_bestPiece_19 : decode cX0_bestPiece 19 = .ok (.invokestatic 58, 3) := by decide +kernel
theorem dX0_bestPiece_22 : decode cX0_bestPiece 22 = .ok (.ifCond .ne 14, 3) := by decide +kernel
theorem dX0_bestPiece_25 : decode cX0_bestPiece 25 = .ok (.aload_n 0, 1) := by decide +kernel
theorem dX0_bestPiece_26 : decode cX0_bestPiece 26 = .ok (.iload_n 3, 1) := by decide +kernel
theorem dX0_bestPiece_27 : decode cX0_bestPiece 27 = .ok (.iload_n 1, 1) := by decide +kernel
theorem dX0_bestPiece_28 : decode cX0_bestPiece 28 = .ok (.invokevirtual 116, 3) := by decide +kernel
theorem dX0_bestPiece_31 : decode cX0_bestPiece 31 = .ok (.ineg, 1) := by decide +kernel
theorem dX0_bestPiece_32 : decode cX0_bestPiece 32 = .ok (.iload_n 2, 1) := by decide +kernel
theorem dX0_bestPiece_33 : decode cX0_bestPiece 33 = .ok (.if_icmp .eq 9, 3) := by decide +kernel
theorem dX0_bestPiece_36 : decode cX0_bestPiece 36 = .ok (.iinc 3 1, 3) := by decide +kernel
theorem dX0_bestPiece_39 : decode cX0_bestPiece 39 = .ok (.goto (-31), 3) := by decide +kernel
theorem dX0_bestPiece_42 : decode cX0_bestPiece 42 = .ok (.iload_n 3, 1) := by decide +kernel
theorem dX0_bestPiece_43 : decode cX0_bestPiece 43 = .ok (.ireturn, 1) := by decide +kernel
set_option maxRecDepth 20000 in
theorem ggX0_bestSquare_X0_worthToPlace : GoodIn wsX0_bestSquare wsX0_worthToPlace := goodIn_r _ [7, 8, 9, 10, 6, 11, 12, 2, 13, 14, 15, 16, 17, 18, 19, 20, 21, 22, 23, 24, 25, 26, 27, 28, 29, 30, 31, 32, 33, 34, 35, 36, 37, 38, 39, 40, 41, 42, 43, 44, 45, 46, 47, 48, 49, 50, 51, 52, 53, 54, 55, 56, 57, 58, 59, 60, 61, 62, 63, 64, 65, 66, 67, 68, 69, 70, 71, 72, 73, 74, 75, 76, 77, 86, 87, 88, 89, 90, 91, 92, 93, 94, 95, 96] (by decide +kernel) (by decide +kernel)
set_option maxRecDepth 20000 in
theorem gX0_bestSquare_X0_worthToPlace : GoodIn wsX0_bestSquare (wsV RX0 116 RX0 yX0_worthToPlace wsX0_worthToPlace) := goodIn_app (goodIn_of _ (by decide +kernel)) ggX0_bestSquare_X0_worthToPlace
set_option maxRecDepth 20000 in
theorem ggX0_bestSquare_X0_has : GoodIn wsX0_bestSquare wsX0_has := goodIn_r _ [40] (by decide +kernel) (by decide +kernel)
set_option maxRecDepth 20000 in
theorem gX0_bestSquare_X0_has : GoodIn wsX0_bestSquare (va_wsS RX0 58 yX0_has wsX0_has) := goodIn_app (goodIn_of _ (by decide +kernel)) ggX0_bestSquare_X0_has
set_option maxRecDepth 20000 in
theorem ggX0_bestSquare_X0_worthAfterPlacing : GoodIn wsX0_bestSquare wsX0_worthAfterPlacing := goodIn_r _ [81, 1, 8, 9, 10, 6, 11, 12, 2, 13, 14, 15, 16, 17, 18, 19, 20, 21, 22, 23, 24, 25, 26, 27, 28, 29, 30, 31, 32, 33, 38, 39, 40, 41, 42, 43, 44, 45, 46, 47, 48, 49, 50, 51, 82, 83, 84, 85, 52, 53, 54, 70, 62, 63, 64, 65, 66, 67, 68, 69, 71, 72, 73, 61, 34, 35, 36, 74, 75, 76, 77, 55, 56, 57, 58, 59, 60, 37, 86, 87, 88, 89, 90, 91, 92, 93, 94, 95, 96] (by decide +kernel) (by decide +kernel)
set_option maxRecDepth 20000 in
theorem gX0_bestSquare_X0_worthAfterPlacing : GoodIn wsX0_bestSquare (wsV RX0 164 RX0 yX0_worthAfterPlacing wsX0_worthAfterPlacing) := goodIn_app (goodIn_of _ (by decide +kernel)) ggX0_bestSquare_X0_worthAfterPlacing
theorem dX0_bestSquare_0 : decode cX0_bestSquare 0 = .ok (.aload_n 0, 1) := by decide +kernel
theorem dX0_bestSquare_1 : decode cX0_bestSquare 1 = .ok (.aload_n 0, 1) := by decide +kernel
theorem dX0_bestSquare_2 : decode cX0_bestSquare 2 = .ok (.getfield 9, 3) := by decide +kernel
theorem dX0_bestSquare_5 : decode cX0_bestSquare 5 = .ok (.iload_n 1, 1) := by decide +kernel
theorem dX0_bestSquare_6 : decode cX0_bestSquare 6 = .ok (.invokevirtual 116, 3) := by decide +kernel
theorem dX0_bestSquare_9 : decode cX0_bestSquare 9 = .ok (.istore_n 2, 1) := by decide +kernel
theorem dX0_bestSquare_10 : decode cX0_bestSquare 10 = .ok (.iconst 0, 1) := by decide +kernel
theorem dX0_bestSquare_11 : decode cX0_bestSquare 11 = .ok (.istore_n 3, 1) := by decide +kernel
theorem dX0_bestSquare_12 : decode cX0_bestSquare 12 = .ok (.iload_n 3, 1) := by decide +kernel
theorem dX0_bestSquare_13 : decode cX0_bestSquare 13 = .ok (.bipush 15, 2) := by decide +kernel
theorem dX0_bestSquare_15 : decode cX0_bestSquare 15 = .ok (.if_icmp .ge 30, 3) := by decide +kernel
theorem dX0_bestSquare_18 : decode cX0_bestSquare 18 = .ok (.aload_n 0, 1) := by decide +kernel
theorem dX0_bestSquare_19 : decode cX0_bestSquare 19 = .ok (.getfield 16, 3) := by decide +kernel
theorem dX0_bestSquare_22 : decode cX0_bestSquare 22 = .ok (.iload_n 3, 1) := by decide +kernel
theorem dX0_bestSquare_23 : decode cX0_bestSquare 23 = .ok (.invokestatic 58, 3) := by decide +kernel
theorem dX0_bestSquare_26 : decode cX0_bestSquare 26 = .ok (.ifCond .ne 13, 3) := by decide +kernel
theorem dX0_bestSquare_29 : decode cX0_bestSquare 29 = .ok (.aload_n 0, 1) := by decide +kernel
theorem dX0_bestSquare_30 : decode cX0_bestSquare 30 = .ok (.iload_n 3, 1) := by decide +kernel
theorem dX0_bestSquare_31 : decode cX0_bestSquare 31 = .ok (.iload_n 1, 1) := by decide +kernel
theorem dX0_bestSquare_32 : decode cX0_bestSquare 32 = .ok (.invokevirtual 164, 3) := by decide +kernel
theorem dX0_bestSquare_35 : decode cX0_bestSquare 35 = .ok (.iload_n 2, 1) := by decide +kernel
theorem dX0_bestSquare_36 : decode cX0_bestSquare 36 = .ok (.if_icmp .eq 9, 3) := by decide +kernel
theorem dX0_bestSquare_39 : decode cX0_bestSquare 39 = .ok (.iinc 3 1, 3) := by decide +kernel
theorem dX0_bestSquare_42 : decode cX0_bestSquare 42 = .ok (.goto (-30), 3) := by decide +kernel
theorem dX0_bestSquare_45 : decode cX0_bestSquare 45 = .ok (.iload_n 3, 1) := by decide +kernel
theorem dX0_bestSquare_46 : decode cX0_bestSquare 46 = .ok (.ireturn, 1) := by decide +kernel
set_option maxRecDepth 20000 in
theorem ggX0_worthAfterPlacing_X0_winningSquares : GoodIn wsX0_worthAfterPlacing wsX0_winningSquares := goodIn_r _ [6, 7, 8, 9, 10, 5, 11, 12, 13, 14, 15, 16, 17, 18, 19, 20, 21, 22, 23, 24, 25, 26, 27, 28, 29, 78, 79, 80, 81, 82, 83, 84, 85, 86, 87, 88] (by decide +kernel) (by decide +kernel)
set_option maxRecDepth 20000 in
theorem gX0_worthAfterPlacing_X0_winningSquares : GoodIn wsX0_worthAfterPlacing (wsV RX0 97 RX0 yX0_winningSquares wsX0_winningSquares) := goodIn_app (goodIn_of _ (by decide +kernel)) ggX0_worthAfterPlacing_X0_winningSquares
set_option maxRecDepth 20000 in
theorem ggX0_worthAfterPlacing_X0_has : GoodIn wsX0_worthAfterPlacing wsX0_has := goodIn_r _ [32] (by decide +kernel) (by decide +kernel)
set_option maxRecDepth 20000 in
theorem gX0_worthAfterPlacing_X0_has : GoodIn wsX0_worthAfterPlacing (va_wsS RX0 58 yX0_has wsX0_has) := goodIn_app (goodIn_of _ (by decide +kernel)) ggX0_worthAfterPlacing_X0_has
set_option maxRecDepth 20000 in
theorem ggX0_worthAfterPlacing_X0_put : GoodIn wsX0_worthAfterPlacing wsX0_put := goodIn_r _ [36, 8, 37, 25, 38, 39, 5, 40, 41, 42, 43, 78, 79, 80, 81, 82, 83, 84, 85, 86, 87, 88] (by decide +kernel) (by decide +kernel)
set_option maxRecDepth 20000 in
theorem gX0_worthAfterPlacing_X0_put : GoodIn wsX0_worthAfterPlacing (wsV RX0 70 RX0 yX0_put wsX0_put) := goodIn_app (goodIn_of _ (by decide +kernel)) ggX0_worthAfterPlacing_X0_put
set_option maxRecDepth 20000 in
theorem ggX0_worthAfterPlacing_X0_worthToGive : GoodIn wsX0_worthAfterPlacing wsX0_worthToGive := goodIn_r _ [47, 48, 49, 50, 5, 51, 52, 53, 54, 55, 37, 56, 57, 58, 59, 7, 12, 13, 14, 15, 16, 17, 18, 19, 20, 8, 21, 22, 23, 24, 25, 26, 27, 28, 29, 30, 31, 32, 9, 10, 11, 60, 61, 62, 63, 64, 65, 66, 67, 33, 34, 35, 36, 38, 39, 40, 41, 42, 43, 68, 69, 70, 71, 72, 73, 74, 75, 76, 77, 78, 79, 80, 81, 82, 83, 84, 85, 86, 87, 88] (by decide +kernel) (by decide +kernel)
set_option maxRecDepth 20000 in
theorem gX0_worthAfterPlacing_X0_worthToGive : GoodIn wsX0_worthAfterPlacing (wsV RX0 113 RX0 yX0_worthToGive wsX0_worthToGive) := goodIn_app (goodIn_of _ (by decide +kernel)) ggX0_worthAfterPlacing_X0_worthToGive
set_option maxRecDepth 20000 in
theorem ggX0_worthAfterPlacing_X0_lift : GoodIn wsX0_worthAfterPlacing wsX0_lift := goodIn_r _ [74, 8, 37, 25, 75, 76, 78, 79, 80, 81, 82, 83, 84, 85, 86, 87, 88] (by decide +kernel) (by decide +kernel)
set_option maxRecDepth 20000 in
theorem gX0_worthAfterPlacing_X0_lift : GoodIn wsX0_worthAfterPlacing (wsV RX0 167 RX0 yX0_lift wsX0_lift) := goodIn_app (goodIn_of _ (by decide +kernel)) ggX0_worthAfterPlacing_X0_lift
theorem dX0_worthAfterPlacing_0 : decode cX0_worthAfterPlacing 0 = .ok (.aload_n 0, 1) := by decide +kernel
theorem dX0_worthAfterPlacing_1 : decode cX0_worthAfterPlacing 1 = .ok (.aload_n 0, 1) := by decide +kernel
theorem dX0_worthAfterPlacing_2 : decode cX0_worthAfterPlacing 2 = .ok (.getfield 9, 3) := by decide +kernel
theorem dX0_worthAfterPlacing_5 : decode cX0_worthAfterPlacing 5 = .ok (.invokevirtual 97, 3) := by decide +kernel
theorem dX0_worthAfterPlacing_8 : decode cX0_worthAfterPlacing 8 = .ok (.iload_n 1, 1) := by decide +kernel
theorem dX0_worthAfterPlacing_9 : decode cX0_worthAfterPlacing 9 = .ok (.invokestatic 58, 3) := by decide +kernel
theorem dX0_worthAfterPlacing_12 : decode cX0_worthAfterPlacing 12 = .ok (.ifCond .eq 5, 3) := by decide +kernel
theorem dX0_worthAfterPlacing_15 : decode cX0_worthAfterPlacing 15 = .ok (.iconst 1, 1) := by decide +kernel
theorem dX0_worthAfterPlacing_16 : decode cX0_worthAfterPlacing 16 = .ok (.ireturn, 1) := by decide +kernel
theorem dX0_worthAfterPlacing_17 : decode cX0_worthAfterPlacing 17 = .ok (.aload_n 0, 1) := by decide +kernel
theorem dX0_worthAfterPlacing_18 : decode cX0_worthAfterPlacing 18 = .ok (.aload_n 0, 1) := by decide +kernel
theorem dX0_worthAfterPlacing_19 : decode cX0_worthAfterPlacing 19 = .ok (.getfield 9, 3) := by decide +kernel
theorem dX0_worthAfterPlacing_22 : decode cX0_worthAfterPlacing 22 = .ok (.iload_n 1, 1) := by decide +kernel
theorem dX0_worthAfterPlacing_23 : decode cX0_worthAfterPlacing 23 = .ok (.invokevirtual 70, 3) := by decide +kernel
theorem dX0_worthAfterPlacing_26 : decode cX0_worthAfterPlacing 26 = .ok (.aload_n 0, 1) := by decide +kernel
theorem dX0_worthAfterPlacing_27 : decode cX0_worthAfterPlacing 27 = .ok (.iload_n 2, 1) := by decide +kernel
theorem dX0_worthAfterPlacing_28 : decode cX0_worthAfterPlacing 28 = .ok (.iconst 1, 1) := by decide +kernel
theorem dX0_worthAfterPlacing_29 : decode cX0_worthAfterPlacing 29 = .ok (.isub, 1) := by decide +kernel
theorem dX0_worthAfterPlacing_30 : decode cX0_worthAfterPlacing 30 = .ok (.invokevirtual 113, 3) := by decide +kernel
theorem dX0_worthAfterPlacing_33 : decode cX0_worthAfterPlacing 33 = .ok (.istore_n 3, 1) := by decide +kernel
theorem dX0_worthAfterPlacing_34 : decode cX0_worthAfterPlacing 34 = .ok (.aload_n 0, 1) := by decide +kernel
theorem dX0_worthAfterPlacing_35 : decode cX0_worthAfterPlacing 35 = .ok (.aload_n 0, 1) := by decide +kernel
theorem dX0_worthAfterPlacing_36 : decode cX0_worthAfterPlacing 36 = .ok (.getfield 9, 3) := by decide +kernel
theorem dX0_worthAfterPlacing_39 : decode cX0_worthAfterPlacing 39 = .ok (.iload_n 1, 1) := by decide +kernel
theorem dX0_worthAfterPlacing_40 : decode cX0_worthAfterPlacing 40 = .ok (.invokevirtual 167, 3) := by decide +kernel
theorem dX0_worthAfterPlacing_43 : decode cX0_worthAfterPlacing 43 = .ok (.iload_n 3, 1) := by decide +kernel
theorem dX0_worthAfterPlacing_44 : decode cX0_worthAfterPlacing 44 = .ok (.ireturn, 1) := by decide +kernel
set_option maxRecDepth 20000 in
theorem ggX0_worthToGive_X0_giverWins : GoodIn wsX0_worthToGive wsX0_giverWins := goodIn_r _ [5, 6, 7, 8, 4, 9, 10, 11, 12, 13, 14, 15, 16, 17, 18, 19, 20, 21, 22, 23, 24, 25, 26, 27, 28, 29, 30, 31, 32, 33, 34, 35, 36, 37, 38, 39, 40, 41, 42, 43, 44, 45, 46, 47, 48, 49, 50, 51, 52, 53, 54, 55, 56, 57, 58, 59, 60, 61, 62, 63, 64, 65, 66, 67, 68, 1, 2, 3, 69, 70, 71, 72, 73, 74, 75, 76, 77, 78, 79] (by decide +kernel) (by decide +kernel)
set_option maxRecDepth 20000 in
theorem gX0_worthToGive_X0_giverWins : GoodIn wsX0_worthToGive (wsV RX0 170 RX0 yX0_giverWins wsX0_giverWins) := goodIn_app (goodIn_of _ (by decide +kernel)) ggX0_worthToGive_X0_giverWins
set_option maxRecDepth 20000 in
theorem ggX0_worthToGive_X0_giverLoses : GoodIn wsX0_worthToGive wsX0_giverLoses := goodIn_r _ [44, 25, 34, 6, 7, 8, 4, 9, 10, 11, 12, 13, 14, 15, 16, 17, 18, 19, 20, 21, 22, 23, 24, 26, 27, 28, 29, 30, 31, 32, 33, 35, 36, 37, 38, 39, 40, 45, 46, 47, 5, 41, 42, 43, 48, 49, 50, 51, 52, 53, 54, 55, 56, 57, 58, 59, 60, 61, 62, 63, 64, 65, 66, 67, 68, 1, 2, 3, 69, 70, 71, 72, 73, 74, 75, 76, 77, 78, 79] (by decide +kernel) (by decide +kernel)
set_option maxRecDepth 20000 in
theorem gX0_worthToGive_X0_giverLoses : GoodIn wsX0_worthToGive (wsV RX0 173 RX0 yX0_giverLoses wsX0_giverLoses) := goodIn_app (goodIn_of _ (by decide +kernel)) ggX0_worthToGive_X0_giverLoses
theorem dX0_worthToGive_0 : decode cX0_worthToGive 0 = .ok (.aload_n 0, 1) := by decide +kernel
theorem dX0_worthToGive_1 : decode cX0_worthToGive 1 = .ok (.iload_n 1, 1) := by decide +kernel
theorem dX0_worthToGive_2 : decode cX0_worthToGive 2 = .ok (.invokevirtual 170, 3) := by decide +kernel
theorem dX0_worthToGive_5 : decode cX0_worthToGive 5 = .ok (.ifCond .eq 5, 3) := by decide +kernel
theorem dX0_worthToGive_8 : decode cX0_worthToGive 8 = .ok (.iconst 1, 1) := by decide +kernel
theorem dX0_worthToGive_9 : decode cX0_worthToGive 9 = .ok (.ireturn, 1) := by decide +kernel
theorem dX0_worthToGive_10 : decode cX0_worthToGive 10 = .ok (.aload_n 0, 1) := by decide +kernel
theorem dX0_worthToGive_11 : decode cX0_worthToGive 11 = .ok (.iload_n 1, 1) := by decide +kernel
theorem dX0_worthToGive_12 : decode cX0_worthToGive 12 = .ok (.invokevirtual 173, 3) := by decide +kernel
theorem dX0_worthToGive_15 : decode cX0_worthToGive 15 = .ok (.ifCond .eq 7, 3) := by decide +kernel
theorem dX0_worthToGive_18 : decode cX0_worthToGive 18 = .ok (.iconst (-1), 1) := by decide +kernel
theorem dX0_worthToGive_19 : decode cX0_worthToGive 19 = .ok (.goto 4, 3) := by decide +kernel
theorem dX0_worthToGive_22 : decode cX0_worthToGive 22 = .ok (.iconst 0, 1) := by decide +kernel
theorem dX0_worthToGive_23 : decode cX0_worthToGive 23 = .ok (.ireturn, 1) := by decide +kernel
set_option maxRecDepth 20000 in
theorem ggX0_worthToPlace_X0_winningSquares : GoodIn wsX0_worthToPlace wsX0_winningSquares := goodIn_r _ [5, 6, 7, 8, 9, 4, 10, 11, 12, 13, 14, 15, 16, 17, 18, 19, 20, 21, 22, 23, 24, 25, 26, 27, 28, 73, 74, 75, 76, 77, 78, 79, 80, 81, 82, 83] (by decide +kernel) (by decide +kernel)
set_option maxRecDepth 20000 in
theorem gX0_worthToPlace_X0_winningSquares : GoodIn wsX0_worthToPlace (wsV RX0 97 RX0 yX0_winningSquares wsX0_winningSquares) := goodIn_app (goodIn_of _ (by decide +kernel)) ggX0_worthToPlace_X0_winningSquares
set_option maxRecDepth 20000 in
theorem ggX0_worthToPlace_X0_placerWinsLater : GoodIn wsX0_worthToPlace wsX0_placerWinsLater := goodIn_r _ [32, 7, 33, 34, 4, 35, 36, 37, 38, 39, 40, 24, 41, 42, 43, 44, 45, 46, 47, 48, 49, 50, 51, 52, 53, 54, 55, 56, 28, 57, 58, 59, 60, 61, 62, 63, 64, 6, 11, 12, 13, 14, 15, 16, 17, 18, 19, 20, 21, 22, 23, 25, 26, 27, 8, 9, 10, 29, 30, 31, 65, 66, 67, 68, 69, 70, 71, 72, 73, 74, 75, 76, 77, 78, 79, 80, 81, 82, 83] (by decide +kernel) (by decide +kernel)
set_option maxRecDepth 20000 in
theorem gX0_worthToPlace_X0_placerWinsLater : GoodIn wsX0_worthToPlace (wsV RX0 176 RX0 yX0_placerWinsLater wsX0_placerWinsLater) := goodIn_app (goodIn_of _ (by decide +kernel)) ggX0_worthToPlace_X0_placerWinsLater
set_option maxRecDepth 20000 in
theorem ggX0_worthToPlace_X0_placerLoses : GoodIn wsX0_worthToPlace wsX0_placerLoses := goodIn_r _ [69, 7, 33, 34, 4, 35, 36, 37, 38, 39, 40, 24, 41, 42, 43, 44, 45, 46, 70, 71, 72, 50, 51, 52, 53, 54, 55, 56, 28, 57, 58, 59, 60, 61, 62, 63, 64, 6, 11, 12, 13, 14, 15, 16, 17, 18, 19, 20, 21, 22, 23, 25, 26, 27, 8, 9, 10, 29, 30, 31, 65, 66, 67, 68, 32, 47, 48, 49, 73, 74, 75, 76, 77, 78, 79, 80, 81, 82, 83] (by decide +kernel) (by decide +kernel)
set_option maxRecDepth 20000 in
theorem gX0_worthToPlace_X0_placerLoses : GoodIn wsX0_worthToPlace (wsV RX0 179 RX0 yX0_placerLoses wsX0_placerLoses) := goodIn_app (goodIn_of _ (by decide +kernel)) ggX0_worthToPlace_X0_placerLoses
theorem dX0_worthToPlace_0 : decode cX0_worthToPlace 0 = .ok (.aload_n 0, 1) := by decide +kernel
theorem dX0_worthToPlace_1 : decode cX0_worthToPlace 1 = .ok (.iload_n 1, 1) := by decide +kernel
theorem dX0_worthToPlace_2 : decode cX0_worthToPlace 2 = .ok (.invokevirtual 97, 3) := by decide +kernel
theorem dX0_worthToPlace_5 : decode cX0_worthToPlace 5 = .ok (.ifCond .ne 12, 3) := by decide +kernel
theorem dX0_worthToPlace_8 : decode cX0_worthToPlace 8 = .ok (.aload_n 0, 1) := by decide +kernel
theorem dX0_worthToPlace_9 : decode cX0_worthToPlace 9 = .ok (.iload_n 1, 1) := by decide +kernel
theorem dX0_worthToPlace_10 : decode cX0_worthToPlace 10 = .ok (.iload_n 2, 1) := by decide +kernel
theorem dX0_worthToPlace_11 : decode cX0_worthToPlace 11 = .ok (.invokevirtual 176, 3) := by decide +kernel
theorem dX0_worthToPlace_14 : decode cX0_worthToPlace 14 = .ok (.ifCond .eq 5, 3) := by decide +kernel
theorem dX0_worthToPlace_17 : decode cX0_worthToPlace 17 = .ok (.iconst 1, 1) := by decide +kernel
theorem dX0_worthToPlace_18 : decode cX0_worthToPlace 18 = .ok (.ireturn, 1) := by decide +kernel
theorem dX0_worthToPlace_19 : decode cX0_worthToPlace 19 = .ok (.aload_n 0, 1) := by decide +kernel
theorem dX0_worthToPlace_20 : decode cX0_worthToPlace 20 = .ok (.iload_n 1, 1) := by decide +kernel
theorem dX0_worthToPlace_21 : decode cX0_worthToPlace 21 = .ok (.iload_n 2, 1) := by decide +kernel
theorem dX0_worthToPlace_22 : decode cX0_worthToPlace 22 = .ok (.invokevirtual 179, 3) := by decide +kernel
theorem dX0_worthToPlace_25 : decode cX0_worthToPlace 25 = .ok (.ifCond .eq 7, 3) := by decide +kernel
theorem dX0_worthToPlace_28 : decode cX0_worthToPlace 28 = .ok (.iconst (-1), 1) := by decide +kernel
theorem dX0_worthToPlace_29 : decode cX0_worthToPlace 29 = .ok (.goto 4, 3) := by decide +kernel
theorem dX0_worthToPlace_32 : decode cX0_worthToPlace 32 = .ok (.iconst 0, 1) := by decide +kernel
theorem dX0_worthToPlace_33 : decode cX0_worthToPlace 33 = .ok (.ireturn, 1) := by decide +kernel
set_option maxRecDepth 20000 in
theorem ggX0_giverWins_X0_safePieces : GoodIn wsX0_giverWins wsX0_safePieces := goodIn_r _ [5, 6, 7, 8, 9, 4, 10, 11, 12, 13, 14, 15, 16, 17, 18, 19, 20, 21, 22, 23, 24, 25, 26, 27, 28, 29, 30, 31, 32, 33, 34, 35, 36, 68, 69, 70, 71, 72, 73, 74, 75, 76, 77, 78] (by decide +kernel) (by decide +kernel)
set_option maxRecDepth 20000 in
theorem gX0_giverWins_X0_safePieces : GoodIn wsX0_giverWins (wsV RX0 100 RX0 yX0_safePieces wsX0_safePieces) := goodIn_app (goodIn_of _ (by decide +kernel)) ggX0_giverWins_X0_safePieces
set_option maxRecDepth 20000 in
theorem ggX0_giverWins_X0_has : GoodIn wsX0_giverWins wsX0_has := goodIn_r _ [33] (by decide +kernel) (by decide +kernel)
set_option maxRecDepth 20000 in
theorem gX0_giverWins_X0_has : GoodIn wsX0_giverWins (va_wsS RX0 58 yX0_has wsX0_has) := goodIn_app (goodIn_of _ (by decide +kernel)) ggX0_giverWins_X0_has
set_option maxRecDepth 20000 in
theorem ggX0_giverWins_X0_placerLoses : GoodIn wsX0_giverWins wsX0_placerLoses := goodIn_r _ [44, 21, 31, 32, 4, 33, 45, 46, 47, 48, 6, 26, 49, 50, 51, 52, 53, 54, 55, 56, 57, 58, 59, 60, 61, 62, 63, 40, 30, 1, 2, 3, 5, 7, 8, 9, 10, 11, 12, 13, 14, 15, 16, 17, 18, 19, 20, 22, 23, 24, 25, 27, 28, 29, 34, 35, 36, 41, 42, 43, 0, 37, 38, 39, 64, 65, 66, 67, 68, 69, 70, 71, 72, 73, 74, 75, 76, 77, 78] (by decide +kernel) (by decide +kernel)
set_option maxRecDepth 20000 in
theorem gX0_giverWins_X0_placerLoses : GoodIn wsX0_giverWins (wsV RX0 179 RX0 yX0_placerLoses wsX0_placerLoses) := goodIn_app (goodIn_of _ (by decide +kernel)) ggX0_giverWins_X0_placerLoses
theorem dX0_giverWins_0 : decode cX0_giverWins 0 = .ok (.iload_n 1, 1) := by decide +kernel
theorem dX0_giverWins_1 : decode cX0_giverWins 1 = .ok (.iconst 2, 1) := by decide +kernel
theorem dX0_giverWins_2 : decode cX0_giverWins 2 = .ok (.if_icmp .ge 5, 3) := by decide +kernel
theorem dX0_giverWins_5 : decode cX0_giverWins 5 = .ok (.iconst 0, 1) := by decide +kernel
theorem dX0_giverWins_6 : decode cX0_giverWins 6 = .ok (.ireturn, 1) := by decide +kernel
theorem dX0_giverWins_7 : decode cX0_giverWins 7 = .ok (.aload_n 0, 1) := by decide +kernel
theorem dX0_giverWins_8 : decode cX0_giverWins 8 = .ok (.invokevirtual 100, 3) := by decide +kernel
theorem dX0_giverWins_11 : decode cX0_giverWins 11 = .ok (.istore_n 2, 1) := by decide +kernel
theorem dX0_giverWins_12 : decode cX0_giverWins 12 = .ok (.iconst 0, 1) := by decide +kernel
theorem dX0_giverWins_13 : decode cX0_giverWins 13 = .ok (.istore_n 3, 1) := by decide +kernel
theorem dX0_giverWins_14 : decode cX0_giverWins 14 = .ok (.iload_n 3, 1) := by decide +kernel
theorem dX0_giverWins_15 : decode cX0_giverWins 15 = .ok (.bipush 16, 2) := by decide +kernel
theorem dX0_giverWins_17 : decode cX0_giverWins 17 = .ok (.if_icmp .ge 28, 3) := by decide +kernel
theorem dX0_giverWins_20 : decode cX0_giverWins 20 = .ok (.iload_n 2, 1) := by decide +kernel
theorem dX0_giverWins_21 : decode cX0_giverWins 21 = .ok (.iload_n 3, 1) := by decide +kernel
theorem dX0_giverWins_22 : decode cX0_giverWins 22 = .ok (.invokestatic 58, 3) := by decide +kernel
theorem dX0_giverWins_25 : decode cX0_giverWins 25 = .ok (.ifCond .eq 14, 3) := by decide +kernel
theorem dX0_giverWins_28 : decode cX0_giverWins 28 = .ok (.aload_n 0, 1) := by decide +kernel
theorem dX0_giverWins_29 : decode cX0_giverWins 29 = .ok (.iload_n 3, 1) := by decide +kernel
theorem dX0_giverWins_30 : decode cX0_giverWins 30 = .ok (.iload_n 1, 1) := by decide +kernel
theorem dX0_giverWins_31 : decode cX0_giverWins 31 = .ok (.invokevirtual 179, 3) := by decide +kernel
theorem dX0_giverWins_34 : decode cX0_giverWins 34 = .ok (.ifCond .eq 5, 3) := by decide +kernel
theorem dX0_giverWins_37 : decode cX0_giverWins 37 = .ok (.iconst 1, 1) := by decide +kernel
theorem dX0_giverWins_38 : decode cX0_giverWins 38 = .ok (.ireturn, 1) := by decide +kernel
theorem dX0_giverWins_39 : decode cX0_giverWins 39 = .ok (.iinc 3 1, 3) := by decide +kernel
theorem dX0_giverWins_42 : decode cX0_giverWins 42 = .ok (.goto (-28), 3) := by decide +kernel
theorem dX0_giverWins_45 : decode cX0_giverWins 45 = .ok (.iconst 0, 1) := by decide +kernel
theorem dX0_giverWins_46 : decode cX0_giverWins 46 = .ok (.ireturn, 1) := by decide +kernel
set_option maxRecDepth 20000 in
theorem ggX0_giverLoses_X0_safePieces : GoodIn wsX0_giverLoses wsX0_safePieces := goodIn_r _ [7, 8, 9, 10, 11, 6, 12, 13, 14, 15, 16, 17, 18, 19, 20, 21, 22, 1, 23, 24, 25, 26, 27, 28, 29, 30, 2, 31, 32, 33, 34, 35, 36, 68, 69, 70, 71, 72, 73, 74, 75, 76, 77, 78] (by decide +kernel) (by decide +kernel)
set_option maxRecDepth 20000 in
theorem gX0_giverLoses_X0_safePieces : GoodIn wsX0_giverLoses (wsV RX0 100 RX0 yX0_safePieces wsX0_safePieces) := goodIn_app (goodIn_of _ (by decide +kernel)) ggX0_giverLoses_X0_safePieces
set_option maxRecDepth 20000 in
theorem ggX0_giverLoses_X0_has : GoodIn wsX0_giverLoses wsX0_has := goodIn_r _ [33] (by decide +kernel) (by decide +kernel)
set_option maxRecDepth 20000 in
theorem gX0_giverLoses_X0_has : GoodIn wsX0_giverLoses (va_wsS RX0 58 yX0_has wsX0_has) := goodIn_app (goodIn_of _ (by decide +kernel)) ggX0_giverLoses_X0_has
set_option maxRecDepth 20000 in
theorem ggX0_giverLoses_X0_placerWinsLater : GoodIn wsX0_giverLoses wsX0_placerWinsLater := goodIn_r _ [64, 1, 31, 32, 6, 33, 45, 46, 47, 48, 8, 27, 49, 50, 51, 52, 53, 54, 65, 66, 67, 58, 59, 60, 61, 62, 63, 0, 2, 3, 4, 5, 7, 9, 10, 11, 12, 13, 14, 15, 16, 17, 18, 19, 20, 21, 22, 23, 24, 25, 26, 28, 29, 30, 34, 35, 36, 37, 38, 39, 40, 41, 42, 43, 44, 55, 56, 57, 68, 69, 70, 71, 72, 73, 74, 75, 76, 77, 78] (by decide +kernel) (by decide +kernel)
set_option maxRecDepth 20000 in
theorem gX0_giverLoses_X0_placerWinsLater : GoodIn wsX0_giverLoses (wsV RX0 176 RX0 yX0_placerWinsLater wsX0_placerWinsLater) := goodIn_app (goodIn_of _ (by decide +kernel)) ggX0_giverLoses_X0_placerWinsLater
theorem dX0_giverLoses_0 : decode cX0_giverLoses 0 = .ok (.iload_n 1, 1) := by decide +kernel
theorem dX0_giverLoses_1 : decode cX0_giverLoses 1 = .ok (.iconst 1, 1) := by decide +kernel
theorem dX0_giverLoses_2 : decode cX0_giverLoses 2 = .ok (.if_icmp .lt 12, 3) := by decide +kernel
theorem dX0_giverLoses_5 : decode cX0_giverLoses 5 = .ok (.aload_n 0, 1) := by decide +kernel
theorem dX0_giverLoses_6 : decode cX0_giverLoses 6 = .ok (.getfield 16, 3) := by decide +kernel
theorem dX0_giverLoses_9 : decode cX0_giverLoses 9 = .ok (.ldc 78, 2) := by decide +kernel
theorem dX0_giverLoses_11 : decode cX0_giverLoses 11 = .ok (.if_icmp .ne 5, 3) := by decide +kernel
theorem dX0_giverLoses_14 : decode cX0_giverLoses 14 = .ok (.iconst 0, 1) := by decide +kernel
theorem dX0_giverLoses_15 : decode cX0_giverLoses 15 = .ok (.ireturn, 1) := by decide +kernel
theorem dX0_giverLoses_16 : decode cX0_giverLoses 16 = .ok (.aload_n 0, 1) := by decide +kernel
theorem dX0_giverLoses_17 : decode cX0_giverLoses 17 = .ok (.invokevirtual 100, 3) := by decide +kernel
theorem dX0_giverLoses_20 : decode cX0_giverLoses 20 = .ok (.istore_n 2, 1) := by decide +kernel
theorem dX0_giverLoses_21 : decode cX0_giverLoses 21 = .ok (.iconst 0, 1) := by decide +kernel
theorem dX0_giverLoses_22 : decode cX0_giverLoses 22 = .ok (.istore_n 3, 1) := by decide +kernel
theorem dX0_giverLoses_23 : decode cX0_giverLoses 23 = .ok (.iload_n 3, 1) := by decide +kernel
theorem dX0_giverLoses_24 : decode cX0_giverLoses 24 = .ok (.bipush 16, 2) := by decide +kernel
theorem dX0_giverLoses_26 : decode cX0_giverLoses 26 = .ok (.if_icmp .ge 28, 3) := by decide +kernel
theorem dX0_giverLoses_29 : decode cX0_giverLoses 29 = .ok (.iload_n 2, 1) := by decide +kernel
theorem dX0_giverLoses_30 : decode cX0_giverLoses 30 = .ok (.iload_n 3, 1) := by decide +kernel
theorem dX0_giverLoses_31 : decode cX0_giverLoses 31 = .ok (.invokestatic 58, 3) := by decide +kernel
theorem dX0_giverLoses_34 : decode cX0_giverLoses 34 = .ok (.ifCond .eq 14, 3) := by decide +kernel
theorem dX0_giverLoses_37 : decode cX0_giverLoses 37 = .ok (.aload_n 0, 1) := by decide +kernel
theorem dX0_giverLoses_38 : decode cX0_giverLoses 38 = .ok (.iload_n 3, 1) := by decide +kernel
theorem dX0_giverLoses_39 : decode cX0_giverLoses 39 = .ok (.iload_n 1, 1) := by decide +kernel
theorem dX0_giverLoses_40 : decode cX0_giverLoses 40 = .ok (.invokevirtual 176, 3) := by decide +kernel
theorem dX0_giverLoses_43 : decode cX0_giverLoses 43 = .ok (.ifCond .ne 5, 3) := by decide +kernel
theorem dX0_giverLoses_46 : decode cX0_giverLoses 46 = .ok (.iconst 0, 1) := by decide +kernel
theorem dX0_giverLoses_47 : decode cX0_giverLoses 47 = .ok (.ireturn, 1) := by decide +kernel
theorem dX0_giverLoses_48 : decode cX0_giverLoses 48 = .ok (.iinc 3 1, 3) := by decide +kernel
theorem dX0_giverLoses_51 : decode cX0_giverLoses 51 = .ok (.goto (-28), 3) := by decide +kernel
theorem dX0_giverLoses_54 : decode cX0_giverLoses 54 = .ok (.iconst 1, 1) := by decide +kernel
theorem dX0_giverLoses_55 : decode cX0_giverLoses 55 = .ok (.ireturn, 1) := by decide +kernel
set_option maxRecDepth 20000 in
theorem ggX0_placerWinsLater_X0_has : GoodIn wsX0_placerWinsLater wsX0_has := goodIn_r _ [5] (by decide +kernel) (by decide +kernel)
set_option maxRecDepth 20000 in
theorem gX0_placerWinsLater_X0_has : GoodIn wsX0_placerWinsLater (va_wsS RX0 58 yX0_has wsX0_has) := goodIn_app (goodIn_of _ (by decide +kernel)) ggX0_placerWinsLater_X0_has
set_option maxRecDepth 20000 in
theorem ggX0_placerWinsLater_X0_put : GoodIn wsX0_placerWinsLater wsX0_put := goodIn_r _ [9, 1, 10, 11, 12, 13, 4, 14, 15, 16, 17, 68, 69, 70, 71, 72, 73, 74, 75, 76, 77, 78] (by decide +kernel) (by decide +kernel)
set_option maxRecDepth 20000 in
theorem gX0_placerWinsLater_X0_put : GoodIn wsX0_placerWinsLater (wsV RX0 70 RX0 yX0_put wsX0_put) := goodIn_app (goodIn_of _ (by decide +kernel)) ggX0_placerWinsLater_X0_put
set_option maxRecDepth 20000 in
theorem ggX0_placerWinsLater_X0_giverWins : GoodIn wsX0_placerWinsLater wsX0_giverWins := goodIn_r _ [60, 29, 30, 31, 4, 32, 10, 33, 34, 35, 36, 37, 38, 39, 40, 41, 42, 43, 44, 45, 46, 1, 47, 48, 49, 50, 11, 51, 52, 53, 28, 2, 3, 5, 54, 55, 56, 61, 62, 63, 27, 57, 58, 59, 64, 6, 7, 8, 9, 12, 13, 14, 15, 16, 17, 65, 66, 67, 21, 22, 23, 24, 25, 26, 0, 18, 19, 20, 68, 69, 70, 71, 72, 73, 74, 75, 76, 77, 78] (by decide +kernel) (by decide +kernel)
set_option maxRecDepth 20000 in
theorem gX0_placerWinsLater_X0_giverWins : GoodIn wsX0_placerWinsLater (wsV RX0 170 RX0 yX0_giverWins wsX0_giverWins) := goodIn_app (goodIn_of _ (by decide +kernel)) ggX0_placerWinsLater_X0_giverWins
set_option maxRecDepth 20000 in
theorem ggX0_placerWinsLater_X0_lift : GoodIn wsX0_placerWinsLater wsX0_lift := goodIn_r _ [24, 1, 10, 11, 25, 26, 68, 69, 70, 71, 72, 73, 74, 75, 76, 77, 78] (by decide +kernel) (by decide +kernel)
set_option maxRecDepth 20000 in
theorem gX0_placerWinsLater_X0_lift : GoodIn wsX0_placerWinsLater (wsV RX0 167 RX0 yX0_lift wsX0_lift) := goodIn_app (goodIn_of _ (by decide +kernel)) ggX0_placerWinsLater_X0_lift
theorem dX0_placerWinsLater_0 : decode cX0_placerWinsLater 0 = .ok (.iload_n 2, 1) := by decide +kernel
theorem dX0_placerWinsLater_1 : decode cX0_placerWinsLater 1 = .ok (.iconst 3, 1) := by decide +kernel
theorem dX0_placerWinsLater_2 : decode cX0_placerWinsLater 2 = .ok (.if_icmp .ge 5, 3) := by decide +kernel
theorem dX0_placerWinsLater_5 : decode cX0_placerWinsLater 5 = .ok (.iconst 0, 1) := by decide +kernel
theorem dX0_placerWinsLater_6 : decode cX0_placerWinsLater 6 = .ok (.ireturn, 1) := by decide +kernel
theorem dX0_placerWinsLater_7 : decode cX0_placerWinsLater 7 = .ok (.iconst 0, 1) := by decide +kernel
theorem dX0_placerWinsLater_8 : decode cX0_placerWinsLater 8 = .ok (.istore_n 3, 1) := by decide +kernel
theorem dX0_placerWinsLater_9 : decode cX0_placerWinsLater 9 = .ok (.iload_n 3, 1) := by decide +kernel
theorem dX0_placerWinsLater_10 : decode cX0_placerWinsLater 10 = .ok (.bipush 16, 2) := by decide +kernel
theorem dX0_placerWinsLater_12 : decode cX0_placerWinsLater 12 = .ok (.if_icmp .ge 48, 3) := by decide +kernel
theorem dX0_placerWinsLater_15 : decode cX0_placerWinsLater 15 = .ok (.aload_n 0, 1) := by decide +kernel
theorem dX0_placerWinsLater_16 : decode cX0_placerWinsLater 16 = .ok (.getfield 16, 3) := by decide +kernel
theorem dX0_placerWinsLater_19 : decode cX0_placerWinsLater 19 = .ok (.iload_n 3, 1) := by decide +kernel
theorem dX0_placerWinsLater_20 : decode cX0_placerWinsLater 20 = .ok (.invokestatic 58, 3) := by decide +kernel
theorem dX0_placerWinsLater_23 : decode cX0_placerWinsLater 23 = .ok (.ifCond .ne 31, 3) := by decide +kernel
theorem dX0_placerWinsLater_26 : decode cX0_placerWinsLater 26 = .ok (.aload_n 0, 1) := by decide +kernel
theorem dX0_placerWinsLater_27 : decode cX0_placerWinsLater 27 = .ok (.iload_n 1, 1) := by decide +kernel
theorem dX0_placerWinsLater_28 : decode cX0_placerWinsLater 28 = .ok (.iload_n 3, 1) := by decide +kernel
theorem dX0_placerWinsLater_29 : decode cX0_placerWinsLater 29 = .ok (.invokevirtual 70, 3) := by decide +kernel
theorem dX0_placerWinsLater_32 : decode cX0_placerWinsLater 32 = .ok (.aload_n 0, 1) := by decide +kernel
theorem dX0_placerWinsLater_33 : decode cX0_placerWinsLater 33 = .ok (.iload_n 2, 1) := by decide +kernel
theorem dX0_placerWinsLater_34 : decode cX0_placerWinsLater 34 = .ok (.iconst 1, 1) := by decide +kernel
theorem dX0_placerWinsLater_35 : decode cX0_placerWinsLater 35 = .ok (.isub, 1) := by decide +kernel
theorem dX0_placerWinsLater_36 : decode cX0_placerWinsLater 36 = .ok (.invokevirtual 170, 3) := by decide +kernel
theorem dX0_placerWinsLater_39 : decode cX0_placerWinsLater 39 = .ok (.istore 4, 2) := by decide +kernel
theorem dX0_placerWinsLater_41 : decode cX0_placerWinsLater 41 = .ok (.aload_n 0, 1) := by decide +kernel
theorem dX0_placerWinsLater_42 : decode cX0_placerWinsLater 42 = .ok (.iload_n 1, 1) := by decide +kernel
theorem dX0_placerWinsLater_43 : decode cX0_placerWinsLater 43 = .ok (.iload_n 3, 1) := by decide +kernel
theorem dX0_placerWinsLater_44 : decode cX0_placerWinsLater 44 = .ok (.invokevirtual 167, 3) := by decide +kernel
theorem dX0_placerWinsLater_47 : decode cX0_placerWinsLater 47 = .ok (.iload 4, 2) := by decide +kernel
theorem dX0_placerWinsLater_49 : decode cX0_placerWinsLater 49 = .ok (.ifCond .eq 5, 3) := by decide +kernel
theorem dX0_placerWinsLater_52 : decode cX0_placerWinsLater 52 = .ok (.iconst 1, 1) := by decide +kernel
theorem dX0_placerWinsLater_53 : decode cX0_placerWinsLater 53 = .ok (.ireturn, 1) := by decide +kernel
theorem dX0_placerWinsLater_54 : decode cX0_placerWinsLater 54 = .ok (.iinc 3 1, 3) := by decide +kernel
theorem dX0_placerWinsLater_57 : decode cX0_placerWinsLater 57 = .ok (.goto (-48), 3) := by decide +kernel
theorem dX0_placerWinsLater_60 : decode cX0_placerWinsLater 60 = .ok (.iconst 0, 1) := by decide +kernel
theorem dX0_placerWinsLater_61 : decode cX0_placerWinsLater 61 = .ok (.ireturn, 1) := by decide +kernel
set_option maxRecDepth 20000 in
theorem ggX0_placerLoses_X0_has : GoodIn wsX0_placerLoses wsX0_has := goodIn_r _ [5] (by decide +kernel) (by decide +kernel)
set_option maxRecDepth 20000 in
theorem gX0_placerLoses_X0_has : GoodIn wsX0_placerLoses (va_wsS RX0 58 yX0_has wsX0_has) := goodIn_app (goodIn_of _ (by decide +kernel)) ggX0_placerLoses_X0_has
set_option maxRecDepth 20000 in
theorem ggX0_placerLoses_X0_put : GoodIn wsX0_placerLoses wsX0_put := goodIn_r _ [9, 1, 10, 11, 12, 13, 4, 14, 15, 16, 17, 68, 69, 70, 71, 72, 73, 74, 75, 76, 77, 78] (by decide +kernel) (by decide +kernel)
set_option maxRecDepth 20000 in
theorem gX0_placerLoses_X0_put : GoodIn wsX0_placerLoses (wsV RX0 70 RX0 yX0_put wsX0_put) := goodIn_app (goodIn_of _ (by decide +kernel)) ggX0_placerLoses_X0_put
set_option maxRecDepth 20000 in
theorem ggX0_placerLoses_X0_giverLoses : GoodIn wsX0_placerLoses wsX0_giverLoses := goodIn_r _ [27, 1, 28, 29, 30, 31, 4, 32, 10, 33, 34, 35, 36, 37, 38, 39, 40, 41, 42, 43, 44, 45, 46, 47, 48, 49, 50, 11, 51, 52, 53, 2, 3, 5, 54, 55, 56, 57, 58, 59, 60, 61, 62, 63, 0, 6, 7, 8, 9, 12, 13, 14, 15, 16, 17, 18, 19, 20, 21, 22, 23, 24, 25, 26, 64, 65, 66, 67, 68, 69, 70, 71, 72, 73, 74, 75, 76, 77, 78] (by decide +kernel) (by decide +kernel)
set_option maxRecDepth 20000 in
theorem gX0_placerLoses_X0_giverLoses : GoodIn wsX0_placerLoses (wsV RX0 173 RX0 yX0_giverLoses wsX0_giverLoses) := goodIn_app (goodIn_of _ (by decide +kernel)) ggX0_placerLoses_X0_giverLoses
set_option maxRecDepth 20000 in
theorem ggX0_placerLoses_X0_lift : GoodIn wsX0_placerLoses wsX0_lift := goodIn_r _ [24, 1, 10, 11, 25, 26, 68, 69, 70, 71, 72, 73, 74, 75, 76, 77, 78] (by decide +kernel) (by decide +kernel)
set_option maxRecDepth 20000 in
theorem gX0_placerLoses_X0_lift : GoodIn wsX0_placerLoses (wsV RX0 167 RX0 yX0_lift wsX0_lift) := goodIn_app (goodIn_of _ (by decide +kernel)) ggX0_placerLoses_X0_lift
theorem dX0_placerLoses_0 : decode cX0_placerLoses 0 = .ok (.iload_n 2, 1) := by decide +kernel
theorem dX0_placerLoses_1 : decode cX0_placerLoses 1 = .ok (.iconst 2, 1) := by decide +kernel
theorem dX0_placerLoses_2 : decode cX0_placerLoses 2 = .ok (.if_icmp .ge 5, 3) := by decide +kernel
theorem dX0_placerLoses_5 : decode cX0_placerLoses 5 = .ok (.iconst 0, 1) := by decide +kernel
theorem dX0_placerLoses_6 : decode cX0_placerLoses 6 = .ok (.ireturn, 1) := by decide +kernel
theorem dX0_placerLoses_7 : decode cX0_placerLoses 7 = .ok (.iconst 0, 1) := by decide +kernel
theorem dX0_placerLoses_8 : decode cX0_placerLoses 8 = .ok (.istore_n 3, 1) := by decide +kernel
theorem dX0_placerLoses_9 : decode cX0_placerLoses 9 = .ok (.iload_n 3, 1) := by decide +kernel
theorem dX0_placerLoses_10 : decode cX0_placerLoses 10 = .ok (.bipush 16, 2) := by decide +kernel
theorem dX0_placerLoses_12 : decode cX0_placerLoses 12 = .ok (.if_icmp .ge 48, 3) := by decide +kernel
theorem dX0_placerLoses_15 : decode cX0_placerLoses 15 = .ok (.aload_n 0, 1) := by decide +kernel
theorem dX0_placerLoses_16 : decode cX0_placerLoses 16 = .ok (.getfield 16, 3) := by decide +kernel
theorem dX0_placerLoses_19 : decode cX0_placerLoses 19 = .ok (.iload_n 3, 1) := by decide +kernel
theorem dX0_placerLoses_20 : decode cX0_placerLoses 20 = .ok (.invokestatic 58, 3) := by decide +kernel
theorem dX0_placerLoses_23 : decode cX0_placerLoses 23 = .ok (.ifCond .ne 31, 3) := by decide +kernel
theorem dX0_placerLoses_26 : decode cX0_placerLoses 26 = .ok (.aload_n 0, 1) := by decide +kernel
theorem dX0_placerLoses_27 : decode cX0_placerLoses 27 = .ok (.iload_n 1, 1) := by decide +kernel
theorem dX0_placerLoses_28 : decode cX0_placerLoses 28 = .ok (.iload_n 3, 1) := by decide +kernel
theorem dX0_placerLoses_29 : decode cX0_placerLoses 29 = .ok (.invokevirtual 70, 3) := by decide +kernel
theorem dX0_placerLoses_32 : decode cX0_placerLoses 32 = .ok (.aload_n 0, 1) := by decide +kernel
theorem dX0_placerLoses_33 : decode cX0_placerLoses 33 = .ok (.iload_n 2, 1) := by decide +kernel
theorem dX0_placerLoses_34 : decode cX0_placerLoses 34 = .ok (.iconst 1, 1) := by decide +kernel
theorem dX0_placerLoses_35 : decode cX0_placerLoses 35 = .ok (.isub, 1) := by decide +kernel
theorem dX0_placerLoses_36 : decode cX0_placerLoses 36 = .ok (.invokevirtual 173, 3) := by decide +kernel
theorem dX0_placerLoses_39 : decode cX0_placerLoses 39 = .ok (.istore 4, 2) := by decide +kernel
theorem dX0_placerLoses_41 : decode cX0_placerLoses 41 = .ok (.aload_n 0, 1) := by decide +kernel
theorem dX0_placerLoses_42 : decode cX0_placerLoses 42 = .ok (.iload_n 1, 1) := by decide +kernel
theorem dX0_placerLoses_43 : decode cX0_placerLoses 43 = .ok (.iload_n 3, 1) := by decide +kernel
theorem dX0_placerLoses_44 : decode cX0_placerLoses 44 = .ok (.invokevirtual 167, 3) := by decide +kernel
theorem dX0_placerLoses_47 : decode cX0_placerLoses 47 = .ok (.iload 4, 2) := by decide +kernel
theorem dX0_placerLoses_49 : decode cX0_placerLoses 49 = .ok (.ifCond .ne 5, 3) := by decide +kernel
theorem dX0_placerLoses_52 : decode cX0_placerLoses 52 = .ok (.iconst 0, 1) := by decide +kernel
theorem dX0_placerLoses_53 : decode cX0_placerLoses 53 = .ok (.ireturn, 1) := by decide +kernel
theorem dX0_placerLoses_54 : decode cX0_placerLoses 54 = .ok (.iinc 3 1, 3) := by decide +kernel
theorem dX0_placerLoses_57 : decode cX0_placerLoses 57 = .ok (.goto (-48), 3) := by decide +kernel
theorem dX0_placerLoses_60 : decode cX0_placerLoses 60 = .ok (.iconst 1, 1) := by decide +kernel
theorem dX0_placerLoses_61 : decode cX0_placerLoses 61 = .ok (.ireturn, 1) := by decide +kernel
theorem dX0_turnedSquare_0 : decode cX0_turnedSquare 0 = .ok (.iload_n 0, 1) := by decide +kernel
theorem dX0_turnedSquare_1 : decode cX0_turnedSquare 1 = .ok (.iconst 4, 1) := by decide +kernel
theorem dX0_turnedSquare_2 : decode cX0_turnedSquare 2 = .ok (.idiv, 1) := by decide +kernel
theorem dX0_turnedSquare_3 : decode cX0_turnedSquare 3 = .ok (.istore_n 2, 1) := by decide +kernel
theorem dX0_turnedSquare_4 : decode cX0_turnedSquare 4 = .ok (.iload_n 0, 1) := by decide +kernel
theorem dX0_turnedSquare_5 : decode cX0_turnedSquare 5 = .ok (.iconst 4, 1) := by decide +kernel
theorem dX0_turnedSquare_6 : decode cX0_turnedSquare 6 = .ok (.irem, 1) := by decide +kernel
theorem dX0_turnedSquare_7 : decode cX0_turnedSquare 7 = .ok (.istore_n 3, 1) := by decide +kernel
theorem dX0_turnedSquare_8 : decode cX0_turnedSquare 8 = .ok (.iload_n 1, 1) := by decide +kernel
theorem dX0_turnedSquare_9 : decode cX0_turnedSquare 9 = .ok (.iconst 1, 1) := by decide +kernel
theorem dX0_turnedSquare_10 : decode cX0_turnedSquare 10 = .ok (.iand, 1) := by decide +kernel
theorem dX0_turnedSquare_11 : decode cX0_turnedSquare 11 = .ok (.ifCond .eq 11, 3) := by decide +kernel
theorem dX0_turnedSquare_14 : decode cX0_turnedSquare 14 = .ok (.iload_n 2, 1) := by decide +kernel
theorem dX0_turnedSquare_15 : decode cX0_turnedSquare 15 = .ok (.istore 4, 2) := by decide +kernel
theorem dX0_turnedSquare_17 : decode cX0_turnedSquare 17 = .ok (.iload_n 3, 1) := by decide +kernel
theorem dX0_turnedSquare_18 : decode cX0_turnedSquare 18 = .ok (.istore_n 2, 1) := by decide +kernel
theorem dX0_turnedSquare_19 : decode cX0_turnedSquare 19 = .ok (.iload 4, 2) := by decide +kernel
theorem dX0_turnedSquare_21 : decode cX0_turnedSquare 21 = .ok (.istore_n 3, 1) := by decide +kernel
theorem dX0_turnedSquare_22 : decode cX0_turnedSquare 22 = .ok (.iload_n 1, 1) := by decide +kernel
theorem dX0_turnedSquare_23 : decode cX0_turnedSquare 23 = .ok (.iconst 2, 1) := by decide +kernel
theorem dX0_turnedSquare_24 : decode cX0_turnedSquare 24 = .ok (.iand, 1) := by decide +kernel
theorem dX0_turnedSquare_25 : decode cX0_turnedSquare 25 = .ok (.ifCond .eq 7, 3) := by decide +kernel
theorem dX0_turnedSquare_28 : decode cX0_turnedSquare 28 = .ok (.iconst 3, 1) := by decide +kernel
theorem dX0_turnedSquare_29 : decode cX0_turnedSquare 29 = .ok (.iload_n 2, 1) := by decide +kernel
theorem dX0_turnedSquare_30 : decode cX0_turnedSquare 30 = .ok (.isub, 1) := by decide +kernel
theorem dX0_turnedSquare_31 : decode cX0_turnedSquare 31 = .ok (.istore_n 2, 1) := by decide +kernel
theorem dX0_turnedSquare_32 : decode cX0_turnedSquare 32 = .ok (.iload_n 1, 1) := by decide +kernel
theorem dX0_turnedSquare_33 : decode cX0_turnedSquare 33 = .ok (.iconst 4, 1) := by decide +kernel
theorem dX0_turnedSquare_34 : decode cX0_turnedSquare 34 = .ok (.iand, 1) := by decide +kernel
theorem dX0_turnedSquare_35 : decode cX0_turnedSquare 35 = .ok (.ifCond .eq 7, 3) := by decide +kernel
theorem dX0_turnedSquare_38 : decode cX0_turnedSquare 38 = .ok (.iconst 3, 1) := by decide +kernel
theorem dX0_turnedSquare_39 : decode cX0_turnedSquare 39 = .ok (.iload_n 3, 1) := by decide +kernel
theorem dX0_turnedSquare_40 : decode cX0_turnedSquare 40 = .ok (.isub, 1) := by decide +kernel
theorem dX0_turnedSquare_41 : decode cX0_turnedSquare 41 = .ok (.istore_n 3, 1) := by decide +kernel
theorem dX0_turnedSquare_42 : decode cX0_turnedSquare 42 = .ok (.iconst 4, 1) := by decide +kernel
theorem dX0_turnedSquare_43 : decode cX0_turnedSquare 43 = .ok (.iload_n 2, 1) := by decide +kernel
theorem dX0_turnedSquare_44 : decode cX0_turnedSquare 44 = .ok (.imul, 1) := by decide +kernel
theorem dX0_turnedSquare_45 : decode cX0_turnedSquare 45 = .ok (.iload_n 3, 1) := by decide +kernel
theorem dX0_turnedSquare_46 : decode cX0_turnedSquare 46 = .ok (.iadd, 1) := by decide +kernel
theorem dX0_turnedSquare_47 : decode cX0_turnedSquare 47 = .ok (.ireturn, 1) := by decide +kernel
set_option maxRecDepth 20000 in
theorem ggX0_turned_X0_turnedSquare : GoodIn wsX0_turned wsX0_turnedSquare := goodIn_r _ [5] (by decide +kernel) (by decide +kernel)
set_option maxRecDepth 20000 in
theorem gX0_turned_X0_turnedSquare : GoodIn wsX0_turned (va_wsS RX0 182 yX0_turnedSquare wsX0_turnedSquare) := goodIn_app (goodIn_of _ (by decide +kernel)) ggX0_turned_X0_turnedSquare
theorem dX0_turned_0 : decode cX0_turned 0 = .ok (.lconst 0, 1) := by decide +kernel
theorem dX0_turned_1 : decode cX0_turned 1 = .ok (.lstore_n 3, 1) := by decide +kernel
theorem dX0_turned_2 : decode cX0_turned 2 = .ok (.iconst 0, 1) := by decide +kernel
theorem dX0_turned_3 : decode cX0_turned 3 = .ok (.istore 5, 2) := by decide +kernel
theorem dX0_turned_5 : decode cX0_turned 5 = .ok (.iload 5, 2) := by decide +kernel
theorem dX0_turned_7 : decode cX0_turned 7 = .ok (.bipush 16, 2) := by decide +kernel
theorem dX0_turned_9 : decode cX0_turned 9 = .ok (.if_icmp .ge 27, 3) := by decide +kernel
theorem dX0_turned_12 : decode cX0_turned 12 = .ok (.lload_n 3, 1) := by decide +kernel
theorem dX0_turned_13 : decode cX0_turned 13 = .ok (.lload_n 0, 1) := by decide +kernel
theorem dX0_turned_14 : decode cX0_turned 14 = .ok (.iload 5, 2) := by decide +kernel
theorem dX0_turned_16 : decode cX0_turned 16 = .ok (.lushr, 1) := by decide +kernel
theorem dX0_turned_17 : decode cX0_turned 17 = .ok (.ldc2_w 151, 3) := by decide +kernel
theorem dX0_turned_20 : decode cX0_turned 20 = .ok (.land, 1) := by decide +kernel
theorem dX0_turned_21 : decode cX0_turned 21 = .ok (.iload 5, 2) := by decide +kernel
theorem dX0_turned_23 : decode cX0_turned 23 = .ok (.iload_n 2, 1) := by decide +kernel
theorem dX0_turned_24 : decode cX0_turned 24 = .ok (.invokestatic 182, 3) := by decide +kernel
theorem dX0_turned_27 : decode cX0_turned 27 = .ok (.lshl, 1) := by decide +kernel
theorem dX0_turned_28 : decode cX0_turned 28 = .ok (.lor, 1) := by decide +kernel
theorem dX0_turned_29 : decode cX0_turned 29 = .ok (.lstore_n 3, 1) := by decide +kernel
theorem dX0_turned_30 : decode cX0_turned 30 = .ok (.iinc 5 1, 3) := by decide +kernel
theorem dX0_turned_33 : decode cX0_turned 33 = .ok (.goto (-28), 3) := by decide +kernel
theorem dX0_turned_36 : decode cX0_turned 36 = .ok (.lload_n 3, 1) := by decide +kernel
theorem dX0_turned_37 : decode cX0_turned 37 = .ok (.lreturn, 1) := by decide +kernel
set_option maxRecDepth 20000 in
theorem ggX0_levelled_X0_withOne : GoodIn wsX0_levelled wsX0_withOne := goodIn_r _ [4, 5] (by decide +kernel) (by decide +kernel)
set_option maxRecDepth 20000 in
theorem gX0_levelled_X0_withOne : GoodIn wsX0_levelled (va_wsS RX0 79 yX0_withOne wsX0_withOne) := goodIn_app (goodIn_of _ (by decide +kernel)) ggX0_levelled_X0_withOne
theorem dX0_levelled_0 : decode cX0_levelled 0 = .ok (.iload_n 2, 1) := by decide +kernel
theorem dX0_levelled_1 : decode cX0_levelled 1 = .ok (.iload_n 2, 1) := by decide +kernel
theorem dX0_levelled_2 : decode cX0_levelled 2 = .ok (.ineg, 1) := by decide +kernel
theorem dX0_levelled_3 : decode cX0_levelled 3 = .ok (.iand, 1) := by decide +kernel
theorem dX0_levelled_4 : decode cX0_levelled 4 = .ok (.istore_n 3, 1) := by decide +kernel
theorem dX0_levelled_5 : decode cX0_levelled 5 = .ok (.lload_n 0, 1) := by decide +kernel
theorem dX0_levelled_6 : decode cX0_levelled 6 = .ok (.lstore 4, 2) := by decide +kernel
theorem dX0_levelled_8 : decode cX0_levelled 8 = .ok (.iconst 0, 1) := by decide +kernel
theorem dX0_levelled_9 : decode cX0_levelled 9 = .ok (.istore 6, 2) := by decide +kernel
theorem dX0_levelled_11 : decode cX0_levelled 11 = .ok (.iload 6, 2) := by decide +kernel
theorem dX0_levelled_13 : decode cX0_levelled 13 = .ok (.iconst 4, 1) := by decide +kernel
theorem dX0_levelled_14 : decode cX0_levelled 14 = .ok (.if_icmp .ge 33, 3) := by decide +kernel
theorem dX0_levelled_17 : decode cX0_levelled 17 = .ok (.lload_n 0, 1) := by decide +kernel
theorem dX0_levelled_18 : decode cX0_levelled 18 = .ok (.iload 6, 2) := by decide +kernel
theorem dX0_levelled_20 : decode cX0_levelled 20 = .ok (.invokestatic 79, 3) := by decide +kernel
theorem dX0_levelled_23 : decode cX0_levelled 23 = .ok (.iload_n 3, 1) := by decide +kernel
theorem dX0_levelled_24 : decode cX0_levelled 24 = .ok (.iand, 1) := by decide +kernel
theorem dX0_levelled_25 : decode cX0_levelled 25 = .ok (.ifCond .eq 16, 3) := by decide +kernel
theorem dX0_levelled_28 : decode cX0_levelled 28 = .ok (.lload 4, 2) := by decide +kernel
theorem dX0_levelled_30 : decode cX0_levelled 30 = .ok (.iload_n 2, 1) := by decide +kernel
theorem dX0_levelled_31 : decode cX0_levelled 31 = .ok (.i2l, 1) := by decide +kernel
theorem dX0_levelled_32 : decode cX0_levelled 32 = .ok (.bipush 16, 2) := by decide +kernel
theorem dX0_levelled_34 : decode cX0_levelled 34 = .ok (.iload 6, 2) := by decide +kernel
theorem dX0_levelled_36 : decode cX0_levelled 36 = .ok (.imul, 1) := by decide +kernel
theorem dX0_levelled_37 : decode cX0_levelled 37 = .ok (.lshl, 1) := by decide +kernel
theorem dX0_levelled_38 : decode cX0_levelled 38 = .ok (.lxor, 1) := by decide +kernel
theorem dX0_levelled_39 : decode cX0_levelled 39 = .ok (.lstore 4, 2) := by decide +kernel
theorem dX0_levelled_41 : decode cX0_levelled 41 = .ok (.iinc 6 1, 3) := by decide +kernel
theorem dX0_levelled_44 : decode cX0_levelled 44 = .ok (.goto (-33), 3) := by decide +kernel
theorem dX0_levelled_47 : decode cX0_levelled 47 = .ok (.lload 4, 2) := by decide +kernel
theorem dX0_levelled_49 : decode cX0_levelled 49 = .ok (.lreturn, 1) := by decide +kernel
set_option maxRecDepth 20000 in
theorem ggX0_waysOfMarks_X0_turned : GoodIn wsX0_waysOfMarks wsX0_turned := goodIn_r _ [6, 7, 8, 9, 5, 10] (by decide +kernel) (by decide +kernel)
set_option maxRecDepth 20000 in
theorem gX0_waysOfMarks_X0_turned : GoodIn wsX0_waysOfMarks (va_wsS RX0 185 yX0_turned wsX0_turned) := goodIn_app (goodIn_of _ (by decide +kernel)) ggX0_waysOfMarks_X0_turned
set_option maxRecDepth 20000 in
theorem ggX0_waysOfMarks_X0_levelled : GoodIn wsX0_waysOfMarks wsX0_levelled := goodIn_r _ [13, 14, 15, 5, 16, 17] (by decide +kernel) (by decide +kernel)
set_option maxRecDepth 20000 in
theorem gX0_waysOfMarks_X0_levelled : GoodIn wsX0_waysOfMarks (va_wsS RX0 189 yX0_levelled wsX0_levelled) := goodIn_app (goodIn_of _ (by decide +kernel)) ggX0_waysOfMarks_X0_levelled
set_option maxRecDepth 20000 in
theorem ggX0_waysOfMarks_X0_withOne : GoodIn wsX0_waysOfMarks wsX0_withOne := goodIn_r _ [16, 17] (by decide +kernel) (by decide +kernel)
set_option maxRecDepth 20000 in
theorem gX0_waysOfMarks_X0_withOne : GoodIn wsX0_waysOfMarks (va_wsS RX0 79 yX0_withOne wsX0_withOne) := goodIn_app (goodIn_of _ (by decide +kernel)) ggX0_waysOfMarks_X0_withOne
set_option maxRecDepth 20000 in
theorem ggX0_waysOfMarks_X0_equalMarks : GoodIn wsX0_waysOfMarks wsX0_equalMarks := goodIn_r _ [20, 14, 15, 5, 16, 17] (by decide +kernel) (by decide +kernel)
set_option maxRecDepth 20000 in
theorem gX0_waysOfMarks_X0_equalMarks : GoodIn wsX0_waysOfMarks (va_wsS RX0 192 yX0_equalMarks wsX0_equalMarks) := goodIn_app (goodIn_of _ (by decide +kernel)) ggX0_waysOfMarks_X0_equalMarks
theorem dX0_waysOfMarks_0 : decode cX0_waysOfMarks 0 = .ok (.aload_n 0, 1) := by decide +kernel
theorem dX0_waysOfMarks_1 : decode cX0_waysOfMarks 1 = .ok (.getfield 16, 3) := by decide +kernel
theorem dX0_waysOfMarks_4 : decode cX0_waysOfMarks 4 = .ok (.i2l, 1) := by decide +kernel
theorem dX0_waysOfMarks_5 : decode cX0_waysOfMarks 5 = .ok (.iload_n 1, 1) := by decide +kernel
theorem dX0_waysOfMarks_6 : decode cX0_waysOfMarks 6 = .ok (.invokestatic 185, 3) := by decide +kernel
theorem dX0_waysOfMarks_9 : decode cX0_waysOfMarks 9 = .ok (.l2i, 1) := by decide +kernel
theorem dX0_waysOfMarks_10 : decode cX0_waysOfMarks 10 = .ok (.iload_n 2, 1) := by decide +kernel
theorem dX0_waysOfMarks_11 : decode cX0_waysOfMarks 11 = .ok (.if_icmp .eq 5, 3) := by decide +kernel
theorem dX0_waysOfMarks_14 : decode cX0_waysOfMarks 14 = .ok (.iconst 0, 1) := by decide +kernel
theorem dX0_waysOfMarks_15 : decode cX0_waysOfMarks 15 = .ok (.ireturn, 1) := by decide +kernel
theorem dX0_waysOfMarks_16 : decode cX0_waysOfMarks 16 = .ok (.iload_n 2, 1) := by decide +kernel
theorem dX0_waysOfMarks_17 : decode cX0_waysOfMarks 17 = .ok (.ifCond .ne 7, 3) := by decide +kernel
theorem dX0_waysOfMarks_20 : decode cX0_waysOfMarks 20 = .ok (.sipush 384, 3) := by decide +kernel
theorem dX0_waysOfMarks_23 : decode cX0_waysOfMarks 23 = .ok (.ireturn, 1) := by decide +kernel
theorem dX0_waysOfMarks_24 : decode cX0_waysOfMarks 24 = .ok (.aload_n 0, 1) := by decide +kernel
theorem dX0_waysOfMarks_25 : decode cX0_waysOfMarks 25 = .ok (.getfield 38, 3) := by decide +kernel
theorem dX0_waysOfMarks_28 : decode cX0_waysOfMarks 28 = .ok (.iload_n 1, 1) := by decide +kernel
theorem dX0_waysOfMarks_29 : decode cX0_waysOfMarks 29 = .ok (.invokestatic 185, 3) := by decide +kernel
theorem dX0_waysOfMarks_32 : decode cX0_waysOfMarks 32 = .ok (.iload_n 2, 1) := by decide +kernel
theorem dX0_waysOfMarks_33 : decode cX0_waysOfMarks 33 = .ok (.invokestatic 189, 3) := by decide +kernel
theorem dX0_waysOfMarks_36 : decode cX0_waysOfMarks 36 = .ok (.lstore 5, 2) := by decide +kernel
theorem dX0_waysOfMarks_38 : decode cX0_waysOfMarks 38 = .ok (.lload_n 3, 1) := by decide +kernel
theorem dX0_waysOfMarks_39 : decode cX0_waysOfMarks 39 = .ok (.iload_n 2, 1) := by decide +kernel
theorem dX0_waysOfMarks_40 : decode cX0_waysOfMarks 40 = .ok (.invokestatic 189, 3) := by decide +kernel
theorem dX0_waysOfMarks_43 : decode cX0_waysOfMarks 43 = .ok (.lstore 7, 2) := by decide +kernel
theorem dX0_waysOfMarks_45 : decode cX0_waysOfMarks 45 = .ok (.iconst 1, 1) := by decide +kernel
theorem dX0_waysOfMarks_46 : decode cX0_waysOfMarks 46 = .ok (.istore 9, 2) := by decide +kernel
theorem dX0_waysOfMarks_48 : decode cX0_waysOfMarks 48 = .ok (.iconst 0, 1) := by decide +kernel
theorem dX0_waysOfMarks_49 : decode cX0_waysOfMarks 49 = .ok (.istore 10, 2) := by decide +kernel
theorem dX0_waysOfMarks_51 : decode cX0_waysOfMarks 51 = .ok (.iload 10, 2) := by decide +kernel
theorem dX0_waysOfMarks_53 : decode cX0_waysOfMarks 53 = .ok (.iconst 4, 1) := by decide +kernel
theorem dX0_waysOfMarks_54 : decode cX0_waysOfMarks 54 = .ok (.if_icmp .ge 41, 3) := by decide +kernel
theorem dX0_waysOfMarks_57 : decode cX0_waysOfMarks 57 = .ok (.lload 5, 2) := by decide +kernel
theorem dX0_waysOfMarks_59 : decode cX0_waysOfMarks 59 = .ok (.iload 10, 2) := by decide +kernel
theorem dX0_waysOfMarks_61 : decode cX0_waysOfMarks 61 = .ok (.invokestatic 79, 3) := by decide +kernel
theorem dX0_waysOfMarks_64 : decode cX0_waysOfMarks 64 = .ok (.istore 11, 2) := by decide +kernel
theorem dX0_waysOfMarks_66 : decode cX0_waysOfMarks 66 = .ok (.iload 9, 2) := by decide +kernel
theorem dX0_waysOfMarks_68 : decode cX0_waysOfMarks 68 = .ok (.lload 7, 2) := by decide +kernel
theorem dX0_waysOfMarks_70 : decode cX0_waysOfMarks 70 = .ok (.iconst 4, 1) := by decide +kernel
theorem dX0_waysOfMarks_71 : decode cX0_waysOfMarks 71 = .ok (.iload 11, 2) := by decide +kernel
theorem dX0_waysOfMarks_73 : decode cX0_waysOfMarks 73 = .ok (.invokestatic 192, 3) := by decide +kernel
theorem dX0_waysOfMarks_76 : decode cX0_waysOfMarks 76 = .ok (.lload 5, 2) := by decide +kernel
theorem dX0_waysOfMarks_78 : decode cX0_waysOfMarks 78 = .ok (.iload 10, 2) := by decide +kernel
theorem dX0_waysOfMarks_80 : decode cX0_waysOfMarks 80 = .ok (.iload 11, 2) := by decide +kernel
theorem dX0_waysOfMarks_82 : decode cX0_waysOfMarks 82 = .ok (.invokestatic 192, 3) := by decide +kernel
theorem dX0_waysOfMarks_85 : decode cX0_waysOfMarks 85 = .ok (.isub, 1) := by decide +kernel
theorem dX0_waysOfMarks_86 : decode cX0_waysOfMarks 86 = .ok (.imul, 1) := by decide +kernel
theorem dX0_waysOfMarks_87 : decode cX0_waysOfMarks 87 = .ok (.istore 9, 2) := by decide +kernel
theorem dX0_waysOfMarks_89 : decode cX0_waysOfMarks 89 = .ok (.iinc 10 1, 3) := by decide +kernel
theorem dX0_waysOfMarks_92 : decode cX0_waysOfMarks 92 = .ok (.goto (-41), 3) := by decide +kernel
theorem dX0_waysOfMarks_95 : decode cX0_waysOfMarks 95 = .ok (.iload 9, 2) := by decide +kernel
theorem dX0_waysOfMarks_97 : decode cX0_waysOfMarks 97 = .ok (.ireturn, 1) := by decide +kernel
set_option maxRecDepth 20000 in
theorem ggX0_equalMarks_X0_withOne : GoodIn wsX0_equalMarks wsX0_withOne := goodIn_r _ [4, 5] (by decide +kernel) (by decide +kernel)
set_option maxRecDepth 20000 in
theorem gX0_equalMarks_X0_withOne : GoodIn wsX0_equalMarks (va_wsS RX0 79 yX0_withOne wsX0_withOne) := goodIn_app (goodIn_of _ (by decide +kernel)) ggX0_equalMarks_X0_withOne
theorem dX0_equalMarks_0 : decode cX0_equalMarks 0 = .ok (.iconst 0, 1) := by decide +kernel
theorem dX0_equalMarks_1 : decode cX0_equalMarks 1 = .ok (.istore 4, 2) := by decide +kernel
theorem dX0_equalMarks_3 : decode cX0_equalMarks 3 = .ok (.iconst 0, 1) := by decide +kernel
theorem dX0_equalMarks_4 : decode cX0_equalMarks 4 = .ok (.istore 5, 2) := by decide +kernel
theorem dX0_equalMarks_6 : decode cX0_equalMarks 6 = .ok (.iload 5, 2) := by decide +kernel
theorem dX0_equalMarks_8 : decode cX0_equalMarks 8 = .ok (.iload_n 2, 1) := by decide +kernel
theorem dX0_equalMarks_9 : decode cX0_equalMarks 9 = .ok (.if_icmp .ge 22, 3) := by decide +kernel
theorem dX0_equalMarks_12 : decode cX0_equalMarks 12 = .ok (.lload_n 0, 1) := by decide +kernel
theorem dX0_equalMarks_13 : decode cX0_equalMarks 13 = .ok (.iload 5, 2) := by decide +kernel
theorem dX0_equalMarks_15 : decode cX0_equalMarks 15 = .ok (.invokestatic 79, 3) := by decide +kernel
theorem dX0_equalMarks_18 : decode cX0_equalMarks 18 = .ok (.iload_n 3, 1) := by decide +kernel
theorem dX0_equalMarks_19 : decode cX0_equalMarks 19 = .ok (.if_icmp .ne 6, 3) := by decide +kernel
theorem dX0_equalMarks_22 : decode cX0_equalMarks 22 = .ok (.iinc 4 1, 3) := by decide +kernel
theorem dX0_equalMarks_25 : decode cX0_equalMarks 25 = .ok (.iinc 5 1, 3) := by decide +kernel
theorem dX0_equalMarks_28 : decode cX0_equalMarks 28 = .ok (.goto (-22), 3) := by decide +kernel
theorem dX0_equalMarks_31 : decode cX0_equalMarks 31 = .ok (.iload 4, 2) := by decide +kernel
theorem dX0_equalMarks_33 : decode cX0_equalMarks 33 = .ok (.ireturn, 1) := by decide +kernel
theorem dJ6_bitCount_0f7a4_0 : decode cJ6_bitCount_0f7a4 0 = .ok (.iload_n 0, 1) := by decide +kernel
theorem dJ6_bitCount_0f7a4_1 : decode cJ6_bitCount_0f7a4 1 = .ok (.iload_n 0, 1) := by decide +kernel
theorem dJ6_bitCount_0f7a4_2 : decode cJ6_bitCount_0f7a4 2 = .ok (.iconst 1, 1) := by decide +kernel
theorem dJ6_bitCount_0f7a4_3 : decode cJ6_bitCount_0f7a4 3 = .ok (.iushr, 1) := by decide +kernel
theorem dJ6_bitCount_0f7a4_4 : decode cJ6_bitCount_0f7a4 4 = .ok (.ldc_w 265, 3) := by decide +kernel
theorem dJ6_bitCount_0f7a4_7 : decode cJ6_bitCount_0f7a4 7 = .ok (.iand, 1) := by decide +kernel
theorem dJ6_bitCount_0f7a4_8 : decode cJ6_bitCount_0f7a4 8 = .ok (.isub, 1) := by decide +kernel
theorem dJ6_bitCount_0f7a4_9 : decode cJ6_bitCount_0f7a4 9 = .ok (.istore_n 0, 1) := by decide +kernel
theorem dJ6_bitCount_0f7a4_10 : decode cJ6_bitCount_0f7a4 10 = .ok (.iload_n 0, 1) := by decide +kernel
theorem dJ6_bitCount_0f7a4_11 : decode cJ6_bitCount_0f7a4 11 = .ok (.ldc_w 266, 3) := by decide +kernel
theorem dJ6_bitCount_0f7a4_14 : decode cJ6_bitCount_0f7a4 14 = .ok (.iand, 1) := by decide +kernel
theorem dJ6_bitCount_0f7a4_15 : decode cJ6_bitCount_0f7a4 15 = .ok (.iload_n 0, 1) := by decide +kernel
theorem dJ6_bitCount_0f7a4_16 : decode cJ6_bitCount_0f7a4 16 = .ok (.iconst 2, 1) := by decide +kernel
theorem dJ6_bitCount_0f7a4_17 : decode cJ6_bitCount_0f7a4 17 = .ok (.iushr, 1) := by decide +kernel
theorem dJ6_bitCount_0f7a4_18 : decode cJ6_bitCount_0f7a4 18 = .ok (.ldc_w 266, 3) := by decide +kernel
theorem dJ6_bitCount_0f7a4_21 : decode cJ6_bitCount_0f7a4 21 = .ok (.iand, 1) := by decide +kernel
theorem dJ6_bitCount_0f7a4_22 : decode cJ6_bitCount_0f7a4 22 = .ok (.iadd, 1) := by decide +kernel
theorem dJ6_bitCount_0f7a4_23 : decode cJ6_bitCount_0f7a4 23 = .ok (.istore_n 0, 1) := by decide +kernel
theorem dJ6_bitCount_0f7a4_24 : decode cJ6_bitCount_0f7a4 24 = .ok (.iload_n 0, 1) := by decide +kernel
theorem dJ6_bitCount_0f7a4_25 : decode cJ6_bitCount_0f7a4 25 = .ok (.iload_n 0, 1) := by decide +kernel
theorem dJ6_bitCount_0f7a4_26 : decode cJ6_bitCount_0f7a4 26 = .ok (.iconst 4, 1) := by decide +kernel
theorem dJ6_bitCount_0f7a4_27 : decode cJ6_bitCount_0f7a4 27 = .ok (.iushr, 1) := by decide +kernel
theorem dJ6_bitCount_0f7a4_28 : decode cJ6_bitCount_0f7a4 28 = .ok (.iadd, 1) := by decide +kernel
theorem dJ6_bitCount_0f7a4_29 : decode cJ6_bitCount_0f7a4 29 = .ok (.ldc_w 267, 3) := by decide +kernel
theorem dJ6_bitCount_0f7a4_32 : decode cJ6_bitCount_0f7a4 32 = .ok (.iand, 1) := by decide +kernel
theorem dJ6_bitCount_0f7a4_33 : decode cJ6_bitCount_0f7a4 33 = .ok (.istore_n 0, 1) := by decide +kernel
theorem dJ6_bitCount_0f7a4_34 : decode cJ6_bitCount_0f7a4 34 = .ok (.iload_n 0, 1) := by decide +kernel
theorem dJ6_bitCount_0f7a4_35 : decode cJ6_bitCount_0f7a4 35 = .ok (.iload_n 0, 1) := by decide +kernel
theorem dJ6_bitCount_0f7a4_36 : decode cJ6_bitCount_0f7a4 36 = .ok (.bipush 8, 2) := by decide +kernel
theorem dJ6_bitCount_0f7a4_38 : decode cJ6_bitCount_0f7a4 38 = .ok (.iushr, 1) := by decide +kernel
theorem dJ6_bitCount_0f7a4_39 : decode cJ6_bitCount_0f7a4 39 = .ok (.iadd, 1) := by decide +kernel
theorem dJ6_bitCount_0f7a4_40 : decode cJ6_bitCount_0f7a4 40 = .ok (.istore_n 0, 1) := by decide +kernel
theorem dJ6_bitCount_0f7a4_41 : decode cJ6_bitCount_0f7a4 41 = .ok (.iload_n 0, 1) := by decide +kernel
theorem dJ6_bitCount_0f7a4_42 : decode cJ6_bitCount_0f7a4 42 = .ok (.iload_n 0, 1) := by decide +kernel
theorem dJ6_bitCount_0f7a4_43 : decode cJ6_bitCount_0f7a4 43 = .ok (.bipush 16, 2) := by decide +kernel
theorem dJ6_bitCount_0f7a4_45 : decode cJ6_bitCount_0f7a4 45 = .ok (.iushr, 1) := by decide +kernel
theorem dJ6_bitCount_0f7a4_46 : decode cJ6_bitCount_0f7a4 46 = .ok (.iadd, 1) := by decide +kernel
theorem dJ6_bitCount_0f7a4_47 : decode cJ6_bitCount_0f7a4 47 = .ok (.istore_n 0, 1) := by decide +kernel
theorem dJ6_bitCount_0f7a4_48 : decode cJ6_bitCount_0f7a4 48 = .ok (.iload_n 0, 1) := by decide +kernel
theorem dJ6_bitCount_0f7a4_49 : decode cJ6_bitCount_0f7a4 49 = .ok (.bipush 63, 2) := by decide +kernel
theorem dJ6_bitCount_0f7a4_51 : decode cJ6_bitCount_0f7a4 51 = .ok (.iand, 1) := by decide +kernel
theorem dJ6_bitCount_0f7a4_52 : decode cJ6_bitCount_0f7a4 52 = .ok (.ireturn, 1) := by decide +kernel
