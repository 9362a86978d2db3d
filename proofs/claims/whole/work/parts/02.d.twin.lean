theorem dX1_init_0 : decode cX1_init 0 = .ok (.aload_n 0, 1) := by decide +kernel
theorem dX1_init_1 : decode cX1_init 1 = .ok (.invokespecial 1, 3) := by decide +kernel
theorem dX1_init_4 : decode cX1_init 4 = .ok (.aload_n 0, 1) := by decide +kernel
theorem dX1_init_5 : decode cX1_init 5 = .ok (.bipush 16, 2) := by decide +kernel
theorem dX1_init_7 : decode cX1_init 7 = .ok (.newarray .int, 2) := by decide +kernel
theorem dX1_init_9 : decode cX1_init 9 = .ok (.putfield 7, 3) := by decide +kernel
theorem dX1_init_12 : decode cX1_init 12 = .ok (.aload_n 0, 1) := by decide +kernel
theorem dX1_init_13 : decode cX1_init 13 = .ok (.bipush 16, 2) := by decide +kernel
theorem dX1_init_15 : decode cX1_init 15 = .ok (.newarray .boolean, 2) := by decide +kernel
theorem dX1_init_17 : decode cX1_init 17 = .ok (.putfield 13, 3) := by decide +kernel
theorem dX1_init_20 : decode cX1_init 20 = .ok (.aload_n 0, 1) := by decide +kernel
theorem dX1_init_21 : decode cX1_init 21 = .ok (.iconst (-1), 1) := by decide +kernel
theorem dX1_init_22 : decode cX1_init 22 = .ok (.putfield 17, 3) := by decide +kernel
theorem dX1_init_25 : decode cX1_init 25 = .ok (.aload_n 0, 1) := by decide +kernel
theorem dX1_init_26 : decode cX1_init 26 = .ok (.iconst 0, 1) := by decide +kernel
theorem dX1_init_27 : decode cX1_init 27 = .ok (.putfield 21, 3) := by decide +kernel
theorem dX1_init_30 : decode cX1_init 30 = .ok (.aload_n 0, 1) := by decide +kernel
theorem dX1_init_31 : decode cX1_init 31 = .ok (.iconst (-1), 1) := by decide +kernel
theorem dX1_init_32 : decode cX1_init 32 = .ok (.putfield 24, 3) := by decide +kernel
theorem dX1_init_35 : decode cX1_init 35 = .ok (.aload_n 0, 1) := by decide +kernel
theorem dX1_init_36 : decode cX1_init 36 = .ok (.bipush 16, 2) := by decide +kernel
theorem dX1_init_38 : decode cX1_init 38 = .ok (.newarray .int, 2) := by decide +kernel
theorem dX1_init_40 : decode cX1_init 40 = .ok (.putfield 27, 3) := by decide +kernel
theorem dX1_init_43 : decode cX1_init 43 = .ok (.aload_n 0, 1) := by decide +kernel
theorem dX1_init_44 : decode cX1_init 44 = .ok (.bipush 10, 2) := by decide +kernel
theorem dX1_init_46 : decode cX1_init 46 = .ok (.newarray .int, 2) := by decide +kernel
theorem dX1_init_48 : decode cX1_init 48 = .ok (.putfield 30, 3) := by decide +kernel
theorem dX1_init_51 : decode cX1_init 51 = .ok (.aload_n 0, 1) := by decide +kernel
theorem dX1_init_52 : decode cX1_init 52 = .ok (.bipush 10, 2) := by decide +kernel
theorem dX1_init_54 : decode cX1_init 54 = .ok (.newarray .int, 2) := by decide +kernel
theorem dX1_init_56 : decode cX1_init 56 = .ok (.putfield 33, 3) := by decide +kernel
theorem dX1_init_59 : decode cX1_init 59 = .ok (.aload_n 0, 1) := by decide +kernel
theorem dX1_init_60 : decode cX1_init 60 = .ok (.bipush 10, 2) := by decide +kernel
theorem dX1_init_62 : decode cX1_init 62 = .ok (.newarray .int, 2) := by decide +kernel
theorem dX1_init_64 : decode cX1_init 64 = .ok (.putfield 36, 3) := by decide +kernel
theorem dX1_init_67 : decode cX1_init 67 = .ok (.aload_n 0, 1) := by decide +kernel
theorem dX1_init_68 : decode cX1_init 68 = .ok (.bipush 10, 2) := by decide +kernel
theorem dX1_init_70 : decode cX1_init 70 = .ok (.newarray .int, 2) := by decide +kernel
theorem dX1_init_72 : decode cX1_init 72 = .ok (.putfield 39, 3) := by decide +kernel
theorem dX1_init_75 : decode cX1_init 75 = .ok (.aload_n 0, 1) := by decide +kernel
theorem dX1_init_76 : decode cX1_init 76 = .ok (.bipush 10, 2) := by decide +kernel
theorem dX1_init_78 : decode cX1_init 78 = .ok (.newarray .int, 2) := by decide +kernel
theorem dX1_init_80 : decode cX1_init 80 = .ok (.putfield 42, 3) := by decide +kernel
theorem dX1_init_83 : decode cX1_init 83 = .ok (.aload_n 0, 1) := by decide +kernel
theorem dX1_init_84 : decode cX1_init 84 = .ok (.iconst 4, 1) := by decide +kernel
theorem dX1_init_85 : decode cX1_init 85 = .ok (.newarray .int, 2) := by decide +kernel
theorem dX1_init_87 : decode cX1_init 87 = .ok (.putfield 45, 3) := by decide +kernel
theorem dX1_init_90 : decode cX1_init 90 = .ok (.iconst 0, 1) := by decide +kernel
theorem dX1_init_91 : decode cX1_init 91 = .ok (.istore_n 1, 1) := by decide +kernel
theorem dX1_init_92 : decode cX1_init 92 = .ok (.iload_n 1, 1) := by decide +kernel
theorem dX1_init_93 : decode cX1_init 93 = .ok (.bipush 16, 2) := by decide +kernel
theorem dX1_init_95 : decode cX1_init 95 = .ok (.if_icmp .ge 16, 3) := by decide +kernel
theorem dX1_init_98 : decode cX1_init 98 = .ok (.aload_n 0, 1) := by decide +kernel
theorem dX1_init_99 : decode cX1_init 99 = .ok (.getfield 7, 3) := by decide +kernel
theorem dX1_init_102 : decode cX1_init 102 = .ok (.iload_n 1, 1) := by decide +kernel
theorem dX1_init_103 : decode cX1_init 103 = .ok (.iconst (-1), 1) := by decide +kernel
theorem dX1_init_104 : decode cX1_init 104 = .ok (.iastore, 1) := by decide +kernel
theorem dX1_init_105 : decode cX1_init 105 = .ok (.iinc 1 1, 3) := by decide +kernel
theorem dX1_init_108 : decode cX1_init 108 = .ok (.goto (-16), 3) := by decide +kernel
theorem dX1_init_111 : decode cX1_init 111 = .ok (.return_, 1) := by decide +kernel
theorem dX1_thrown_0 : decode cX1_thrown 0 = .ok (.aload_n 0, 1) := by decide +kernel
theorem dX1_thrown_1 : decode cX1_thrown 1 = .ok (.getfield 48, 3) := by decide +kernel
theorem dX1_thrown_4 : decode cX1_thrown 4 = .ok (.ireturn, 1) := by decide +kernel
theorem dX1_fails_0 : decode cX1_fails 0 = .ok (.aload_n 0, 1) := by decide +kernel
theorem dX1_fails_1 : decode cX1_fails 1 = .ok (.iload_n 1, 1) := by decide +kernel
theorem dX1_fails_2 : decode cX1_fails 2 = .ok (.putfield 48, 3) := by decide +kernel
theorem dX1_fails_5 : decode cX1_fails 5 = .ok (.iload_n 1, 1) := by decide +kernel
theorem dX1_fails_6 : decode cX1_fails 6 = .ok (.ifCond .le 7, 3) := by decide +kernel
theorem dX1_fails_9 : decode cX1_fails 9 = .ok (.iconst 1, 1) := by decide +kernel
theorem dX1_fails_10 : decode cX1_fails 10 = .ok (.goto 4, 3) := by decide +kernel
theorem dX1_fails_13 : decode cX1_fails 13 = .ok (.iconst 0, 1) := by decide +kernel
theorem dX1_fails_14 : decode cX1_fails 14 = .ok (.ireturn, 1) := by decide +kernel
theorem dX1_tells_0 : decode cX1_tells 0 = .ok (.aload_n 0, 1) := by decide +kernel
theorem dX1_tells_1 : decode cX1_tells 1 = .ok (.iconst 0, 1) := by decide +kernel
theorem dX1_tells_2 : decode cX1_tells 2 = .ok (.putfield 48, 3) := by decide +kernel
theorem dX1_tells_5 : decode cX1_tells 5 = .ok (.iload_n 1, 1) := by decide +kernel
theorem dX1_tells_6 : decode cX1_tells 6 = .ok (.ireturn, 1) := by decide +kernel
theorem dX1_isIn_0 : decode cX1_isIn 0 = .ok (.iload_n 0, 1) := by decide +kernel
theorem dX1_isIn_1 : decode cX1_isIn 1 = .ok (.ifCond .lt 12, 3) := by decide +kernel
theorem dX1_isIn_4 : decode cX1_isIn 4 = .ok (.iload_n 0, 1) := by decide +kernel
theorem dX1_isIn_5 : decode cX1_isIn 5 = .ok (.iload_n 1, 1) := by decide +kernel
theorem dX1_isIn_6 : decode cX1_isIn 6 = .ok (.if_icmp .ge 7, 3) := by decide +kernel
theorem dX1_isIn_9 : decode cX1_isIn 9 = .ok (.iconst 1, 1) := by decide +kernel
theorem dX1_isIn_10 : decode cX1_isIn 10 = .ok (.goto 4, 3) := by decide +kernel
theorem dX1_isIn_13 : decode cX1_isIn 13 = .ok (.iconst 0, 1) := by decide +kernel
theorem dX1_isIn_14 : decode cX1_isIn 14 = .ok (.ireturn, 1) := by decide +kernel
theorem dX1_many_0 : decode cX1_many 0 = .ok (.aload_n 0, 1) := by decide +kernel
theorem dX1_many_1 : decode cX1_many 1 = .ok (.getfield 51, 3) := by decide +kernel
theorem dX1_many_4 : decode cX1_many 4 = .ok (.ifCond .eq 8, 3) := by decide +kernel
theorem dX1_many_7 : decode cX1_many 7 = .ok (.bipush 19, 2) := by decide +kernel
theorem dX1_many_9 : decode cX1_many 9 = .ok (.goto 5, 3) := by decide +kernel
theorem dX1_many_12 : decode cX1_many 12 = .ok (.bipush 10, 2) := by decide +kernel
theorem dX1_many_14 : decode cX1_many 14 = .ok (.ireturn, 1) := by decide +kernel
theorem dX1_square_0 : decode cX1_square 0 = .ok (.iload_n 0, 1) := by decide +kernel
theorem dX1_square_1 : decode cX1_square 1 = .ok (.iconst 4, 1) := by decide +kernel
theorem dX1_square_2 : decode cX1_square 2 = .ok (.if_icmp .ge 9, 3) := by decide +kernel
theorem dX1_square_5 : decode cX1_square 5 = .ok (.iconst 4, 1) := by decide +kernel
theorem dX1_square_6 : decode cX1_square 6 = .ok (.iload_n 0, 1) := by decide +kernel
theorem dX1_square_7 : decode cX1_square 7 = .ok (.imul, 1) := by decide +kernel
theorem dX1_square_8 : decode cX1_square 8 = .ok (.iload_n 1, 1) := by decide +kernel
theorem dX1_square_9 : decode cX1_square 9 = .ok (.iadd, 1) := by decide +kernel
theorem dX1_square_10 : decode cX1_square 10 = .ok (.ireturn, 1) := by decide +kernel
theorem dX1_square_11 : decode cX1_square 11 = .ok (.iload_n 0, 1) := by decide +kernel
theorem dX1_square_12 : decode cX1_square 12 = .ok (.bipush 8, 2) := by decide +kernel
theorem dX1_square_14 : decode cX1_square 14 = .ok (.if_icmp .ge 11, 3) := by decide +kernel
theorem dX1_square_17 : decode cX1_square 17 = .ok (.iconst 4, 1) := by decide +kernel
theorem dX1_square_18 : decode cX1_square 18 = .ok (.iload_n 1, 1) := by decide +kernel
theorem dX1_square_19 : decode cX1_square 19 = .ok (.imul, 1) := by decide +kernel
theorem dX1_square_20 : decode cX1_square 20 = .ok (.iload_n 0, 1) := by decide +kernel
theorem dX1_square_21 : decode cX1_square 21 = .ok (.iadd, 1) := by decide +kernel
theorem dX1_square_22 : decode cX1_square 22 = .ok (.iconst 4, 1) := by decide +kernel
theorem dX1_square_23 : decode cX1_square 23 = .ok (.isub, 1) := by decide +kernel
theorem dX1_square_24 : decode cX1_square 24 = .ok (.ireturn, 1) := by decide +kernel
theorem dX1_square_25 : decode cX1_square 25 = .ok (.iload_n 0, 1) := by decide +kernel
theorem dX1_square_26 : decode cX1_square 26 = .ok (.bipush 10, 2) := by decide +kernel
theorem dX1_square_28 : decode cX1_square 28 = .ok (.if_icmp .ge 21, 3) := by decide +kernel
theorem dX1_square_31 : decode cX1_square 31 = .ok (.iload_n 0, 1) := by decide +kernel
theorem dX1_square_32 : decode cX1_square 32 = .ok (.bipush 8, 2) := by decide +kernel
theorem dX1_square_34 : decode cX1_square 34 = .ok (.if_icmp .ne 9, 3) := by decide +kernel
theorem dX1_square_37 : decode cX1_square 37 = .ok (.iconst 5, 1) := by decide +kernel
theorem dX1_square_38 : decode cX1_square 38 = .ok (.iload_n 1, 1) := by decide +kernel
theorem dX1_square_39 : decode cX1_square 39 = .ok (.imul, 1) := by decide +kernel
theorem dX1_square_40 : decode cX1_square 40 = .ok (.goto 8, 3) := by decide +kernel
theorem dX1_square_43 : decode cX1_square 43 = .ok (.iconst 3, 1) := by decide +kernel
theorem dX1_square_44 : decode cX1_square 44 = .ok (.iload_n 1, 1) := by decide +kernel
theorem dX1_square_45 : decode cX1_square 45 = .ok (.imul, 1) := by decide +kernel
theorem dX1_square_46 : decode cX1_square 46 = .ok (.iconst 3, 1) := by decide +kernel
theorem dX1_square_47 : decode cX1_square 47 = .ok (.iadd, 1) := by decide +kernel
theorem dX1_square_48 : decode cX1_square 48 = .ok (.ireturn, 1) := by decide +kernel
theorem dX1_square_49 : decode cX1_square 49 = .ok (.iload_n 0, 1) := by decide +kernel
theorem dX1_square_50 : decode cX1_square 50 = .ok (.bipush 10, 2) := by decide +kernel
theorem dX1_square_52 : decode cX1_square 52 = .ok (.isub, 1) := by decide +kernel
theorem dX1_square_53 : decode cX1_square 53 = .ok (.iconst 3, 1) := by decide +kernel
theorem dX1_square_54 : decode cX1_square 54 = .ok (.idiv, 1) := by decide +kernel
theorem dX1_square_55 : decode cX1_square 55 = .ok (.iload_n 1, 1) := by decide +kernel
theorem dX1_square_56 : decode cX1_square 56 = .ok (.iconst 2, 1) := by decide +kernel
theorem dX1_square_57 : decode cX1_square 57 = .ok (.idiv, 1) := by decide +kernel
theorem dX1_square_58 : decode cX1_square 58 = .ok (.iadd, 1) := by decide +kernel
theorem dX1_square_59 : decode cX1_square 59 = .ok (.istore_n 2, 1) := by decide +kernel
theorem dX1_square_60 : decode cX1_square 60 = .ok (.iconst 4, 1) := by decide +kernel
theorem dX1_square_61 : decode cX1_square 61 = .ok (.iload_n 2, 1) := by decide +kernel
theorem dX1_square_62 : decode cX1_square 62 = .ok (.imul, 1) := by decide +kernel
theorem dX1_square_63 : decode cX1_square 63 = .ok (.iload_n 0, 1) := by decide +kernel
theorem dX1_square_64 : decode cX1_square 64 = .ok (.bipush 10, 2) := by decide +kernel
theorem dX1_square_66 : decode cX1_square 66 = .ok (.isub, 1) := by decide +kernel
theorem dX1_square_67 : decode cX1_square 67 = .ok (.iconst 3, 1) := by decide +kernel
theorem dX1_square_68 : decode cX1_square 68 = .ok (.irem, 1) := by decide +kernel
theorem dX1_square_69 : decode cX1_square 69 = .ok (.iadd, 1) := by decide +kernel
theorem dX1_square_70 : decode cX1_square 70 = .ok (.iload_n 1, 1) := by decide +kernel
theorem dX1_square_71 : decode cX1_square 71 = .ok (.iconst 2, 1) := by decide +kernel
theorem dX1_square_72 : decode cX1_square 72 = .ok (.irem, 1) := by decide +kernel
theorem dX1_square_73 : decode cX1_square 73 = .ok (.iadd, 1) := by decide +kernel
theorem dX1_square_74 : decode cX1_square 74 = .ok (.ireturn, 1) := by decide +kernel
set_option maxRecDepth 20000 in
theorem ggX1_common_X1_square : GoodIn wsX1_common wsX1_square := goodIn_r _ [5] (by decide +kernel) (by decide +kernel)
set_option maxRecDepth 20000 in
theorem gX1_common_X1_square : GoodIn wsX1_common (va_wsS RX1 55 yX1_square wsX1_square) := goodIn_app (goodIn_of _ (by decide +kernel)) ggX1_common_X1_square
theorem dX1_common_0 : decode cX1_common 0 = .ok (.sipush 255, 3) := by decide +kernel
theorem dX1_common_3 : decode cX1_common 3 = .ok (.istore_n 2, 1) := by decide +kernel
theorem dX1_common_4 : decode cX1_common 4 = .ok (.iconst 0, 1) := by decide +kernel
theorem dX1_common_5 : decode cX1_common 5 = .ok (.istore_n 3, 1) := by decide +kernel
theorem dX1_common_6 : decode cX1_common 6 = .ok (.iload_n 3, 1) := by decide +kernel
theorem dX1_common_7 : decode cX1_common 7 = .ok (.iconst 4, 1) := by decide +kernel
theorem dX1_common_8 : decode cX1_common 8 = .ok (.if_icmp .ge 46, 3) := by decide +kernel
theorem dX1_common_11 : decode cX1_common 11 = .ok (.aload_n 0, 1) := by decide +kernel
theorem dX1_common_12 : decode cX1_common 12 = .ok (.getfield 7, 3) := by decide +kernel
theorem dX1_common_15 : decode cX1_common 15 = .ok (.iload_n 1, 1) := by decide +kernel
theorem dX1_common_16 : decode cX1_common 16 = .ok (.iload_n 3, 1) := by decide +kernel
theorem dX1_common_17 : decode cX1_common 17 = .ok (.invokestatic 55, 3) := by decide +kernel
theorem dX1_common_20 : decode cX1_common 20 = .ok (.iaload, 1) := by decide +kernel
theorem dX1_common_21 : decode cX1_common 21 = .ok (.istore 4, 2) := by decide +kernel
theorem dX1_common_23 : decode cX1_common 23 = .ok (.iload_n 2, 1) := by decide +kernel
theorem dX1_common_24 : decode cX1_common 24 = .ok (.iload 4, 2) := by decide +kernel
theorem dX1_common_26 : decode cX1_common 26 = .ok (.iconst (-1), 1) := by decide +kernel
theorem dX1_common_27 : decode cX1_common 27 = .ok (.if_icmp .ne 9, 3) := by decide +kernel
theorem dX1_common_30 : decode cX1_common 30 = .ok (.sipush 255, 3) := by decide +kernel
theorem dX1_common_33 : decode cX1_common 33 = .ok (.goto 13, 3) := by decide +kernel
theorem dX1_common_36 : decode cX1_common 36 = .ok (.iload 4, 2) := by decide +kernel
theorem dX1_common_38 : decode cX1_common 38 = .ok (.bipush 15, 2) := by decide +kernel
theorem dX1_common_40 : decode cX1_common 40 = .ok (.iload 4, 2) := by decide +kernel
theorem dX1_common_42 : decode cX1_common 42 = .ok (.isub, 1) := by decide +kernel
theorem dX1_common_43 : decode cX1_common 43 = .ok (.iconst 4, 1) := by decide +kernel
theorem dX1_common_44 : decode cX1_common 44 = .ok (.ishl, 1) := by decide +kernel
theorem dX1_common_45 : decode cX1_common 45 = .ok (.ior, 1) := by decide +kernel
theorem dX1_common_46 : decode cX1_common 46 = .ok (.iand, 1) := by decide +kernel
theorem dX1_common_47 : decode cX1_common 47 = .ok (.istore_n 2, 1) := by decide +kernel
theorem dX1_common_48 : decode cX1_common 48 = .ok (.iinc 3 1, 3) := by decide +kernel
theorem dX1_common_51 : decode cX1_common 51 = .ok (.goto (-45), 3) := by decide +kernel
theorem dX1_common_54 : decode cX1_common 54 = .ok (.iload_n 2, 1) := by decide +kernel
theorem dX1_common_55 : decode cX1_common 55 = .ok (.ireturn, 1) := by decide +kernel
set_option maxRecDepth 20000 in
theorem ggX1_full_X1_square : GoodIn wsX1_full wsX1_square := goodIn_r _ [5] (by decide +kernel) (by decide +kernel)
set_option maxRecDepth 20000 in
theorem gX1_full_X1_square : GoodIn wsX1_full (va_wsS RX1 55 yX1_square wsX1_square) := goodIn_app (goodIn_of _ (by decide +kernel)) ggX1_full_X1_square
theorem dX1_full_0 : decode cX1_full 0 = .ok (.iconst 0, 1) := by decide +kernel
theorem dX1_full_1 : decode cX1_full 1 = .ok (.istore_n 2, 1) := by decide +kernel
theorem dX1_full_2 : decode cX1_full 2 = .ok (.iconst 0, 1) := by decide +kernel
theorem dX1_full_3 : decode cX1_full 3 = .ok (.istore_n 3, 1) := by decide +kernel
theorem dX1_full_4 : decode cX1_full 4 = .ok (.iload_n 3, 1) := by decide +kernel
theorem dX1_full_5 : decode cX1_full 5 = .ok (.iconst 4, 1) := by decide +kernel
theorem dX1_full_6 : decode cX1_full 6 = .ok (.if_icmp .ge 31, 3) := by decide +kernel
theorem dX1_full_9 : decode cX1_full 9 = .ok (.iload_n 2, 1) := by decide +kernel
theorem dX1_full_10 : decode cX1_full 10 = .ok (.aload_n 0, 1) := by decide +kernel
theorem dX1_full_11 : decode cX1_full 11 = .ok (.getfield 7, 3) := by decide +kernel
theorem dX1_full_14 : decode cX1_full 14 = .ok (.iload_n 1, 1) := by decide +kernel
theorem dX1_full_15 : decode cX1_full 15 = .ok (.iload_n 3, 1) := by decide +kernel
theorem dX1_full_16 : decode cX1_full 16 = .ok (.invokestatic 55, 3) := by decide +kernel
theorem dX1_full_19 : decode cX1_full 19 = .ok (.iaload, 1) := by decide +kernel
theorem dX1_full_20 : decode cX1_full 20 = .ok (.iconst (-1), 1) := by decide +kernel
theorem dX1_full_21 : decode cX1_full 21 = .ok (.if_icmp .ne 7, 3) := by decide +kernel
theorem dX1_full_24 : decode cX1_full 24 = .ok (.iconst 0, 1) := by decide +kernel
theorem dX1_full_25 : decode cX1_full 25 = .ok (.goto 4, 3) := by decide +kernel
theorem dX1_full_28 : decode cX1_full 28 = .ok (.iconst 1, 1) := by decide +kernel
theorem dX1_full_29 : decode cX1_full 29 = .ok (.iadd, 1) := by decide +kernel
theorem dX1_full_30 : decode cX1_full 30 = .ok (.istore_n 2, 1) := by decide +kernel
theorem dX1_full_31 : decode cX1_full 31 = .ok (.iinc 3 1, 3) := by decide +kernel
theorem dX1_full_34 : decode cX1_full 34 = .ok (.goto (-30), 3) := by decide +kernel
theorem dX1_full_37 : decode cX1_full 37 = .ok (.iload_n 2, 1) := by decide +kernel
theorem dX1_full_38 : decode cX1_full 38 = .ok (.ireturn, 1) := by decide +kernel
set_option maxRecDepth 20000 in
theorem ggX1_won_X1_many : GoodIn wsX1_won wsX1_many := goodIn_r _ [5, 6, 19, 20, 21, 22, 23, 24, 25, 26, 27, 28, 29, 30, 31, 32, 33, 34, 35] (by decide +kernel) (by decide +kernel)
set_option maxRecDepth 20000 in
theorem gX1_won_X1_many : GoodIn wsX1_won (wsV RX1 59 RX1 yX1_many wsX1_many) := goodIn_app (goodIn_of _ (by decide +kernel)) ggX1_won_X1_many
set_option maxRecDepth 20000 in
theorem ggX1_won_X1_square : GoodIn wsX1_won wsX1_square := goodIn_r _ [9] (by decide +kernel) (by decide +kernel)
set_option maxRecDepth 20000 in
theorem gX1_won_X1_square : GoodIn wsX1_won (va_wsS RX1 55 yX1_square wsX1_square) := goodIn_app (goodIn_of _ (by decide +kernel)) ggX1_won_X1_square
set_option maxRecDepth 20000 in
theorem ggX1_won_X1_full : GoodIn wsX1_won wsX1_full := goodIn_r _ [13, 14, 7, 8, 4, 9, 19, 20, 21, 22, 23, 24, 25, 26, 27, 28, 29, 30, 31, 32, 33, 34, 35] (by decide +kernel) (by decide +kernel)
set_option maxRecDepth 20000 in
theorem gX1_won_X1_full : GoodIn wsX1_won (wsV RX1 63 RX1 yX1_full wsX1_full) := goodIn_app (goodIn_of _ (by decide +kernel)) ggX1_won_X1_full
set_option maxRecDepth 20000 in
theorem ggX1_won_X1_common : GoodIn wsX1_won wsX1_common := goodIn_r _ [18, 14, 7, 8, 4, 9, 19, 20, 21, 22, 23, 24, 25, 26, 27, 28, 29, 30, 31, 32, 33, 34, 35] (by decide +kernel) (by decide +kernel)
set_option maxRecDepth 20000 in
theorem gX1_won_X1_common : GoodIn wsX1_won (wsV RX1 67 RX1 yX1_common wsX1_common) := goodIn_app (goodIn_of _ (by decide +kernel)) ggX1_won_X1_common
theorem dX1_won_0 : decode cX1_won 0 = .ok (.iconst 0, 1) := by decide +kernel
theorem dX1_won_1 : decode cX1_won 1 = .ok (.istore_n 2, 1) := by decide +kernel
theorem dX1_won_2 : decode cX1_won 2 = .ok (.iconst 0, 1) := by decide +kernel
theorem dX1_won_3 : decode cX1_won 3 = .ok (.istore_n 3, 1) := by decide +kernel
theorem dX1_won_4 : decode cX1_won 4 = .ok (.iload_n 3, 1) := by decide +kernel
theorem dX1_won_5 : decode cX1_won 5 = .ok (.aload_n 0, 1) := by decide +kernel
theorem dX1_won_6 : decode cX1_won 6 = .ok (.invokevirtual 59, 3) := by decide +kernel
theorem dX1_won_9 : decode cX1_won 9 = .ok (.if_icmp .ge 79, 3) := by decide +kernel
theorem dX1_won_12 : decode cX1_won 12 = .ok (.iconst 0, 1) := by decide +kernel
theorem dX1_won_13 : decode cX1_won 13 = .ok (.istore 4, 2) := by decide +kernel
theorem dX1_won_15 : decode cX1_won 15 = .ok (.iconst 0, 1) := by decide +kernel
theorem dX1_won_16 : decode cX1_won 16 = .ok (.istore 5, 2) := by decide +kernel
theorem dX1_won_18 : decode cX1_won 18 = .ok (.iload 5, 2) := by decide +kernel
theorem dX1_won_20 : decode cX1_won 20 = .ok (.iconst 4, 1) := by decide +kernel
theorem dX1_won_21 : decode cX1_won 21 = .ok (.if_icmp .ge 31, 3) := by decide +kernel
theorem dX1_won_24 : decode cX1_won 24 = .ok (.iload 4, 2) := by decide +kernel
theorem dX1_won_26 : decode cX1_won 26 = .ok (.ifCond .ne 13, 3) := by decide +kernel
theorem dX1_won_29 : decode cX1_won 29 = .ok (.iload_n 3, 1) := by decide +kernel
theorem dX1_won_30 : decode cX1_won 30 = .ok (.iload 5, 2) := by decide +kernel
theorem dX1_won_32 : decode cX1_won 32 = .ok (.invokestatic 55, 3) := by decide +kernel
theorem dX1_won_35 : decode cX1_won 35 = .ok (.iload_n 1, 1) := by decide +kernel
theorem dX1_won_36 : decode cX1_won 36 = .ok (.if_icmp .ne 7, 3) := by decide +kernel
theorem dX1_won_39 : decode cX1_won 39 = .ok (.iconst 1, 1) := by decide +kernel
theorem dX1_won_40 : decode cX1_won 40 = .ok (.goto 4, 3) := by decide +kernel
theorem dX1_won_43 : decode cX1_won 43 = .ok (.iconst 0, 1) := by decide +kernel
theorem dX1_won_44 : decode cX1_won 44 = .ok (.istore 4, 2) := by decide +kernel
theorem dX1_won_46 : decode cX1_won 46 = .ok (.iinc 5 1, 3) := by decide +kernel
theorem dX1_won_49 : decode cX1_won 49 = .ok (.goto (-31), 3) := by decide +kernel
theorem dX1_won_52 : decode cX1_won 52 = .ok (.iload_n 2, 1) := by decide +kernel
theorem dX1_won_53 : decode cX1_won 53 = .ok (.iload 4, 2) := by decide +kernel
theorem dX1_won_55 : decode cX1_won 55 = .ok (.ifCond .eq 24, 3) := by decide +kernel
theorem dX1_won_58 : decode cX1_won 58 = .ok (.aload_n 0, 1) := by decide +kernel
theorem dX1_won_59 : decode cX1_won 59 = .ok (.iload_n 3, 1) := by decide +kernel
theorem dX1_won_60 : decode cX1_won 60 = .ok (.invokevirtual 63, 3) := by decide +kernel
theorem dX1_won_63 : decode cX1_won 63 = .ok (.iconst 4, 1) := by decide +kernel
theorem dX1_won_64 : decode cX1_won 64 = .ok (.if_icmp .ne 15, 3) := by decide +kernel
theorem dX1_won_67 : decode cX1_won 67 = .ok (.aload_n 0, 1) := by decide +kernel
theorem dX1_won_68 : decode cX1_won 68 = .ok (.iload_n 3, 1) := by decide +kernel
theorem dX1_won_69 : decode cX1_won 69 = .ok (.invokevirtual 67, 3) := by decide +kernel
theorem dX1_won_72 : decode cX1_won 72 = .ok (.ifCond .eq 7, 3) := by decide +kernel
theorem dX1_won_75 : decode cX1_won 75 = .ok (.iconst 1, 1) := by decide +kernel
theorem dX1_won_76 : decode cX1_won 76 = .ok (.goto 4, 3) := by decide +kernel
theorem dX1_won_79 : decode cX1_won 79 = .ok (.iconst 0, 1) := by decide +kernel
theorem dX1_won_80 : decode cX1_won 80 = .ok (.iadd, 1) := by decide +kernel
theorem dX1_won_81 : decode cX1_won 81 = .ok (.istore_n 2, 1) := by decide +kernel
theorem dX1_won_82 : decode cX1_won 82 = .ok (.iinc 3 1, 3) := by decide +kernel
theorem dX1_won_85 : decode cX1_won 85 = .ok (.goto (-81), 3) := by decide +kernel
theorem dX1_won_88 : decode cX1_won 88 = .ok (.iload_n 2, 1) := by decide +kernel
theorem dX1_won_89 : decode cX1_won 89 = .ok (.ireturn, 1) := by decide +kernel
theorem dX1_begin_0 : decode cX1_begin 0 = .ok (.aload_n 0, 1) := by decide +kernel
theorem dX1_begin_1 : decode cX1_begin 1 = .ok (.iconst 0, 1) := by decide +kernel
theorem dX1_begin_2 : decode cX1_begin 2 = .ok (.putfield 48, 3) := by decide +kernel
theorem dX1_begin_5 : decode cX1_begin 5 = .ok (.aload_n 0, 1) := by decide +kernel
theorem dX1_begin_6 : decode cX1_begin 6 = .ok (.getfield 70, 3) := by decide +kernel
theorem dX1_begin_9 : decode cX1_begin 9 = .ok (.istore_n 2, 1) := by decide +kernel
theorem dX1_begin_10 : decode cX1_begin 10 = .ok (.aload_n 0, 1) := by decide +kernel
theorem dX1_begin_11 : decode cX1_begin 11 = .ok (.iload_n 1, 1) := by decide +kernel
theorem dX1_begin_12 : decode cX1_begin 12 = .ok (.putfield 51, 3) := by decide +kernel
theorem dX1_begin_15 : decode cX1_begin 15 = .ok (.iconst 0, 1) := by decide +kernel
theorem dX1_begin_16 : decode cX1_begin 16 = .ok (.istore_n 3, 1) := by decide +kernel
theorem dX1_begin_17 : decode cX1_begin 17 = .ok (.iload_n 3, 1) := by decide +kernel
theorem dX1_begin_18 : decode cX1_begin 18 = .ok (.bipush 16, 2) := by decide +kernel
theorem dX1_begin_20 : decode cX1_begin 20 = .ok (.if_icmp .ge 23, 3) := by decide +kernel
theorem dX1_begin_23 : decode cX1_begin 23 = .ok (.aload_n 0, 1) := by decide +kernel
theorem dX1_begin_24 : decode cX1_begin 24 = .ok (.getfield 7, 3) := by decide +kernel
theorem dX1_begin_27 : decode cX1_begin 27 = .ok (.iload_n 3, 1) := by decide +kernel
theorem dX1_begin_28 : decode cX1_begin 28 = .ok (.iconst (-1), 1) := by decide +kernel
theorem dX1_begin_29 : decode cX1_begin 29 = .ok (.iastore, 1) := by decide +kernel
theorem dX1_begin_30 : decode cX1_begin 30 = .ok (.aload_n 0, 1) := by decide +kernel
theorem dX1_begin_31 : decode cX1_begin 31 = .ok (.getfield 13, 3) := by decide +kernel
theorem dX1_begin_34 : decode cX1_begin 34 = .ok (.iload_n 3, 1) := by decide +kernel
theorem dX1_begin_35 : decode cX1_begin 35 = .ok (.iconst 0, 1) := by decide +kernel
theorem dX1_begin_36 : decode cX1_begin 36 = .ok (.bastore, 1) := by decide +kernel
theorem dX1_begin_37 : decode cX1_begin 37 = .ok (.iinc 3 1, 3) := by decide +kernel
theorem dX1_begin_40 : decode cX1_begin 40 = .ok (.goto (-23), 3) := by decide +kernel
theorem dX1_begin_43 : decode cX1_begin 43 = .ok (.aload_n 0, 1) := by decide +kernel
theorem dX1_begin_44 : decode cX1_begin 44 = .ok (.iconst 0, 1) := by decide +kernel
theorem dX1_begin_45 : decode cX1_begin 45 = .ok (.putfield 70, 3) := by decide +kernel
theorem dX1_begin_48 : decode cX1_begin 48 = .ok (.aload_n 0, 1) := by decide +kernel
theorem dX1_begin_49 : decode cX1_begin 49 = .ok (.iconst (-1), 1) := by decide +kernel
theorem dX1_begin_50 : decode cX1_begin 50 = .ok (.putfield 17, 3) := by decide +kernel
theorem dX1_begin_53 : decode cX1_begin 53 = .ok (.aload_n 0, 1) := by decide +kernel
theorem dX1_begin_54 : decode cX1_begin 54 = .ok (.iconst 0, 1) := by decide +kernel
theorem dX1_begin_55 : decode cX1_begin 55 = .ok (.putfield 21, 3) := by decide +kernel
theorem dX1_begin_58 : decode cX1_begin 58 = .ok (.aload_n 0, 1) := by decide +kernel
theorem dX1_begin_59 : decode cX1_begin 59 = .ok (.iconst 0, 1) := by decide +kernel
theorem dX1_begin_60 : decode cX1_begin 60 = .ok (.putfield 73, 3) := by decide +kernel
theorem dX1_begin_63 : decode cX1_begin 63 = .ok (.aload_n 0, 1) := by decide +kernel
theorem dX1_begin_64 : decode cX1_begin 64 = .ok (.iconst (-1), 1) := by decide +kernel
theorem dX1_begin_65 : decode cX1_begin 65 = .ok (.putfield 24, 3) := by decide +kernel
theorem dX1_begin_68 : decode cX1_begin 68 = .ok (.iload_n 2, 1) := by decide +kernel
theorem dX1_begin_69 : decode cX1_begin 69 = .ok (.ireturn, 1) := by decide +kernel
set_option maxRecDepth 20000 in
theorem ggX1_give_X1_isIn : GoodIn wsX1_give wsX1_isIn := goodIn_r _ [8] (by decide +kernel) (by decide +kernel)
set_option maxRecDepth 20000 in
theorem gX1_give_X1_isIn : GoodIn wsX1_give (va_wsS RX1 76 yX1_isIn wsX1_isIn) := goodIn_app (goodIn_of _ (by decide +kernel)) ggX1_give_X1_isIn
set_option maxRecDepth 20000 in
theorem ggX1_give_X1_fails : GoodIn wsX1_give wsX1_fails := goodIn_r _ [12, 13, 14, 15, 16, 17, 18, 19, 20, 21, 22, 23, 24, 25, 26, 27, 28, 29, 30] (by decide +kernel) (by decide +kernel)
set_option maxRecDepth 20000 in
theorem gX1_give_X1_fails : GoodIn wsX1_give (wsV RX1 80 RX1 yX1_fails wsX1_fails) := goodIn_app (goodIn_of _ (by decide +kernel)) ggX1_give_X1_fails
theorem dX1_give_0 : decode cX1_give 0 = .ok (.aload_n 0, 1) := by decide +kernel
theorem dX1_give_1 : decode cX1_give 1 = .ok (.iload_n 1, 1) := by decide +kernel
theorem dX1_give_2 : decode cX1_give 2 = .ok (.bipush 16, 2) := by decide +kernel
theorem dX1_give_4 : decode cX1_give 4 = .ok (.invokestatic 76, 3) := by decide +kernel
theorem dX1_give_7 : decode cX1_give 7 = .ok (.ifCond .ne 7, 3) := by decide +kernel
theorem dX1_give_10 : decode cX1_give 10 = .ok (.iconst 1, 1) := by decide +kernel
theorem dX1_give_11 : decode cX1_give 11 = .ok (.goto 24, 3) := by decide +kernel
theorem dX1_give_14 : decode cX1_give 14 = .ok (.aload_n 0, 1) := by decide +kernel
theorem dX1_give_15 : decode cX1_give 15 = .ok (.getfield 21, 3) := by decide +kernel
theorem dX1_give_18 : decode cX1_give 18 = .ok (.ifCond .ne 12, 3) := by decide +kernel
theorem dX1_give_21 : decode cX1_give 21 = .ok (.aload_n 0, 1) := by decide +kernel
theorem dX1_give_22 : decode cX1_give 22 = .ok (.getfield 13, 3) := by decide +kernel
theorem dX1_give_25 : decode cX1_give 25 = .ok (.iload_n 1, 1) := by decide +kernel
theorem dX1_give_26 : decode cX1_give 26 = .ok (.baload, 1) := by decide +kernel
theorem dX1_give_27 : decode cX1_give 27 = .ok (.ifCond .eq 7, 3) := by decide +kernel
theorem dX1_give_30 : decode cX1_give 30 = .ok (.iconst 2, 1) := by decide +kernel
theorem dX1_give_31 : decode cX1_give 31 = .ok (.goto 4, 3) := by decide +kernel
theorem dX1_give_34 : decode cX1_give 34 = .ok (.iconst 0, 1) := by decide +kernel
theorem dX1_give_35 : decode cX1_give 35 = .ok (.invokevirtual 80, 3) := by decide +kernel
theorem dX1_give_38 : decode cX1_give 38 = .ok (.ifCond .eq 5, 3) := by decide +kernel
theorem dX1_give_41 : decode cX1_give 41 = .ok (.iconst 0, 1) := by decide +kernel
theorem dX1_give_42 : decode cX1_give 42 = .ok (.ireturn, 1) := by decide +kernel
theorem dX1_give_43 : decode cX1_give 43 = .ok (.aload_n 0, 1) := by decide +kernel
theorem dX1_give_44 : decode cX1_give 44 = .ok (.iload_n 1, 1) := by decide +kernel
theorem dX1_give_45 : decode cX1_give 45 = .ok (.putfield 17, 3) := by decide +kernel
theorem dX1_give_48 : decode cX1_give 48 = .ok (.aload_n 0, 1) := by decide +kernel
theorem dX1_give_49 : decode cX1_give 49 = .ok (.iconst 1, 1) := by decide +kernel
theorem dX1_give_50 : decode cX1_give 50 = .ok (.putfield 21, 3) := by decide +kernel
theorem dX1_give_53 : decode cX1_give 53 = .ok (.aload_n 0, 1) := by decide +kernel
theorem dX1_give_54 : decode cX1_give 54 = .ok (.iconst 1, 1) := by decide +kernel
theorem dX1_give_55 : decode cX1_give 55 = .ok (.aload_n 0, 1) := by decide +kernel
theorem dX1_give_56 : decode cX1_give 56 = .ok (.getfield 73, 3) := by decide +kernel
theorem dX1_give_59 : decode cX1_give 59 = .ok (.isub, 1) := by decide +kernel
theorem dX1_give_60 : decode cX1_give 60 = .ok (.putfield 73, 3) := by decide +kernel
theorem dX1_give_63 : decode cX1_give 63 = .ok (.aload_n 0, 1) := by decide +kernel
theorem dX1_give_64 : decode cX1_give 64 = .ok (.getfield 73, 3) := by decide +kernel
theorem dX1_give_67 : decode cX1_give 67 = .ok (.ireturn, 1) := by decide +kernel
theorem dX1_puts_0 : decode cX1_puts 0 = .ok (.aload_n 0, 1) := by decide +kernel
theorem dX1_puts_1 : decode cX1_puts 1 = .ok (.getfield 7, 3) := by decide +kernel
theorem dX1_puts_4 : decode cX1_puts 4 = .ok (.iload_n 1, 1) := by decide +kernel
theorem dX1_puts_5 : decode cX1_puts 5 = .ok (.iload_n 2, 1) := by decide +kernel
theorem dX1_puts_6 : decode cX1_puts 6 = .ok (.iastore, 1) := by decide +kernel
theorem dX1_puts_7 : decode cX1_puts 7 = .ok (.aload_n 0, 1) := by decide +kernel
theorem dX1_puts_8 : decode cX1_puts 8 = .ok (.getfield 13, 3) := by decide +kernel
theorem dX1_puts_11 : decode cX1_puts 11 = .ok (.iload_n 2, 1) := by decide +kernel
theorem dX1_puts_12 : decode cX1_puts 12 = .ok (.iconst 1, 1) := by decide +kernel
theorem dX1_puts_13 : decode cX1_puts 13 = .ok (.bastore, 1) := by decide +kernel
theorem dX1_puts_14 : decode cX1_puts 14 = .ok (.aload_n 0, 1) := by decide +kernel
theorem dX1_puts_15 : decode cX1_puts 15 = .ok (.dup, 1) := by decide +kernel
theorem dX1_puts_16 : decode cX1_puts 16 = .ok (.getfield 70, 3) := by decide +kernel
theorem dX1_puts_19 : decode cX1_puts 19 = .ok (.iconst 1, 1) := by decide +kernel
theorem dX1_puts_20 : decode cX1_puts 20 = .ok (.iadd, 1) := by decide +kernel
theorem dX1_puts_21 : decode cX1_puts 21 = .ok (.putfield 70, 3) := by decide +kernel
theorem dX1_puts_24 : decode cX1_puts 24 = .ok (.return_, 1) := by decide +kernel
theorem dX1_takes_0 : decode cX1_takes 0 = .ok (.aload_n 0, 1) := by decide +kernel
theorem dX1_takes_1 : decode cX1_takes 1 = .ok (.getfield 13, 3) := by decide +kernel
theorem dX1_takes_4 : decode cX1_takes 4 = .ok (.aload_n 0, 1) := by decide +kernel
theorem dX1_takes_5 : decode cX1_takes 5 = .ok (.getfield 7, 3) := by decide +kernel
theorem dX1_takes_8 : decode cX1_takes 8 = .ok (.iload_n 1, 1) := by decide +kernel
theorem dX1_takes_9 : decode cX1_takes 9 = .ok (.iaload, 1) := by decide +kernel
theorem dX1_takes_10 : decode cX1_takes 10 = .ok (.iconst 0, 1) := by decide +kernel
theorem dX1_takes_11 : decode cX1_takes 11 = .ok (.bastore, 1) := by decide +kernel
theorem dX1_takes_12 : decode cX1_takes 12 = .ok (.aload_n 0, 1) := by decide +kernel
theorem dX1_takes_13 : decode cX1_takes 13 = .ok (.getfield 7, 3) := by decide +kernel
theorem dX1_takes_16 : decode cX1_takes 16 = .ok (.iload_n 1, 1) := by decide +kernel
theorem dX1_takes_17 : decode cX1_takes 17 = .ok (.iconst (-1), 1) := by decide +kernel
theorem dX1_takes_18 : decode cX1_takes 18 = .ok (.iastore, 1) := by decide +kernel
theorem dX1_takes_19 : decode cX1_takes 19 = .ok (.aload_n 0, 1) := by decide +kernel
theorem dX1_takes_20 : decode cX1_takes 20 = .ok (.dup, 1) := by decide +kernel
theorem dX1_takes_21 : decode cX1_takes 21 = .ok (.getfield 70, 3) := by decide +kernel
theorem dX1_takes_24 : decode cX1_takes 24 = .ok (.iconst 1, 1) := by decide +kernel
theorem dX1_takes_25 : decode cX1_takes 25 = .ok (.isub, 1) := by decide +kernel
theorem dX1_takes_26 : decode cX1_takes 26 = .ok (.putfield 70, 3) := by decide +kernel
theorem dX1_takes_29 : decode cX1_takes 29 = .ok (.return_, 1) := by decide +kernel
set_option maxRecDepth 20000 in
theorem ggX1_place_X1_isIn : GoodIn wsX1_place wsX1_isIn := goodIn_r _ [10] (by decide +kernel) (by decide +kernel)
set_option maxRecDepth 20000 in
theorem gX1_place_X1_isIn : GoodIn wsX1_place (va_wsS RX1 76 yX1_isIn wsX1_isIn) := goodIn_app (goodIn_of _ (by decide +kernel)) ggX1_place_X1_isIn
set_option maxRecDepth 20000 in
theorem ggX1_place_X1_fails : GoodIn wsX1_place wsX1_fails := goodIn_r _ [14, 15, 41, 42, 43, 44, 45, 46, 47, 48, 49, 50, 51, 52, 53, 54, 55, 56, 57] (by decide +kernel) (by decide +kernel)
set_option maxRecDepth 20000 in
theorem gX1_place_X1_fails : GoodIn wsX1_place (wsV RX1 80 RX1 yX1_fails wsX1_fails) := goodIn_app (goodIn_of _ (by decide +kernel)) ggX1_place_X1_fails
set_option maxRecDepth 20000 in
theorem ggX1_place_X1_puts : GoodIn wsX1_place wsX1_puts := goodIn_r _ [19, 2, 20, 5, 41, 42, 43, 44, 45, 46, 47, 48, 49, 50, 51, 52, 53, 54, 55, 56, 57] (by decide +kernel) (by decide +kernel)
set_option maxRecDepth 20000 in
theorem gX1_place_X1_puts : GoodIn wsX1_place (wsV RX1 84 RX1 yX1_puts wsX1_puts) := goodIn_app (goodIn_of _ (by decide +kernel)) ggX1_place_X1_puts
set_option maxRecDepth 20000 in
theorem ggX1_place_X1_won : GoodIn wsX1_place wsX1_won := goodIn_r _ [24, 25, 26, 27, 9, 28, 29, 30, 31, 32, 33, 34, 35, 36, 2, 37, 38, 39, 40, 41, 42, 43, 44, 45, 46, 47, 48, 49, 50, 51, 52, 53, 54, 55, 56, 57] (by decide +kernel) (by decide +kernel)
set_option maxRecDepth 20000 in
theorem gX1_place_X1_won : GoodIn wsX1_place (wsV RX1 88 RX1 yX1_won wsX1_won) := goodIn_app (goodIn_of _ (by decide +kernel)) ggX1_place_X1_won
theorem dX1_place_0 : decode cX1_place 0 = .ok (.aload_n 0, 1) := by decide +kernel
theorem dX1_place_1 : decode cX1_place 1 = .ok (.iload_n 1, 1) := by decide +kernel
theorem dX1_place_2 : decode cX1_place 2 = .ok (.bipush 16, 2) := by decide +kernel
theorem dX1_place_4 : decode cX1_place 4 = .ok (.invokestatic 76, 3) := by decide +kernel
theorem dX1_place_7 : decode cX1_place 7 = .ok (.ifCond .ne 7, 3) := by decide +kernel
theorem dX1_place_10 : decode cX1_place 10 = .ok (.iconst 1, 1) := by decide +kernel
theorem dX1_place_11 : decode cX1_place 11 = .ok (.goto 26, 3) := by decide +kernel
theorem dX1_place_14 : decode cX1_place 14 = .ok (.aload_n 0, 1) := by decide +kernel
theorem dX1_place_15 : decode cX1_place 15 = .ok (.getfield 21, 3) := by decide +kernel
theorem dX1_place_18 : decode cX1_place 18 = .ok (.iconst 1, 1) := by decide +kernel
theorem dX1_place_19 : decode cX1_place 19 = .ok (.if_icmp .ne 13, 3) := by decide +kernel
theorem dX1_place_22 : decode cX1_place 22 = .ok (.aload_n 0, 1) := by decide +kernel
theorem dX1_place_23 : decode cX1_place 23 = .ok (.getfield 7, 3) := by decide +kernel
theorem dX1_place_26 : decode cX1_place 26 = .ok (.iload_n 1, 1) := by decide +kernel
theorem dX1_place_27 : decode cX1_place 27 = .ok (.iaload, 1) := by decide +kernel
theorem dX1_place_28 : decode cX1_place 28 = .ok (.iconst (-1), 1) := by decide +kernel
theorem dX1_place_29 : decode cX1_place 29 = .ok (.if_icmp .eq 7, 3) := by decide +kernel
theorem dX1_place_32 : decode cX1_place 32 = .ok (.iconst 2, 1) := by decide +kernel
theorem dX1_place_33 : decode cX1_place 33 = .ok (.goto 4, 3) := by decide +kernel
theorem dX1_place_36 : decode cX1_place 36 = .ok (.iconst 0, 1) := by decide +kernel
theorem dX1_place_37 : decode cX1_place 37 = .ok (.invokevirtual 80, 3) := by decide +kernel
theorem dX1_place_40 : decode cX1_place 40 = .ok (.ifCond .eq 5, 3) := by decide +kernel
theorem dX1_place_43 : decode cX1_place 43 = .ok (.iconst 0, 1) := by decide +kernel
theorem dX1_place_44 : decode cX1_place 44 = .ok (.ireturn, 1) := by decide +kernel
theorem dX1_place_45 : decode cX1_place 45 = .ok (.aload_n 0, 1) := by decide +kernel
theorem dX1_place_46 : decode cX1_place 46 = .ok (.iload_n 1, 1) := by decide +kernel
theorem dX1_place_47 : decode cX1_place 47 = .ok (.aload_n 0, 1) := by decide +kernel
theorem dX1_place_48 : decode cX1_place 48 = .ok (.getfield 17, 3) := by decide +kernel
theorem dX1_place_51 : decode cX1_place 51 = .ok (.invokevirtual 84, 3) := by decide +kernel
theorem dX1_place_54 : decode cX1_place 54 = .ok (.aload_n 0, 1) := by decide +kernel
theorem dX1_place_55 : decode cX1_place 55 = .ok (.iconst (-1), 1) := by decide +kernel
theorem dX1_place_56 : decode cX1_place 56 = .ok (.putfield 17, 3) := by decide +kernel
theorem dX1_place_59 : decode cX1_place 59 = .ok (.aload_n 0, 1) := by decide +kernel
theorem dX1_place_60 : decode cX1_place 60 = .ok (.iload_n 1, 1) := by decide +kernel
theorem dX1_place_61 : decode cX1_place 61 = .ok (.invokevirtual 88, 3) := by decide +kernel
theorem dX1_place_64 : decode cX1_place 64 = .ok (.istore_n 2, 1) := by decide +kernel
theorem dX1_place_65 : decode cX1_place 65 = .ok (.aload_n 0, 1) := by decide +kernel
theorem dX1_place_66 : decode cX1_place 66 = .ok (.iload_n 2, 1) := by decide +kernel
theorem dX1_place_67 : decode cX1_place 67 = .ok (.ifCond .le 10, 3) := by decide +kernel
theorem dX1_place_70 : decode cX1_place 70 = .ok (.aload_n 0, 1) := by decide +kernel
theorem dX1_place_71 : decode cX1_place 71 = .ok (.getfield 73, 3) := by decide +kernel
theorem dX1_place_74 : decode cX1_place 74 = .ok (.goto 17, 3) := by decide +kernel
theorem dX1_place_77 : decode cX1_place 77 = .ok (.aload_n 0, 1) := by decide +kernel
theorem dX1_place_78 : decode cX1_place 78 = .ok (.getfield 70, 3) := by decide +kernel
theorem dX1_place_81 : decode cX1_place 81 = .ok (.bipush 16, 2) := by decide +kernel
theorem dX1_place_83 : decode cX1_place 83 = .ok (.if_icmp .ne 7, 3) := by decide +kernel
theorem dX1_place_86 : decode cX1_place 86 = .ok (.iconst 2, 1) := by decide +kernel
theorem dX1_place_87 : decode cX1_place 87 = .ok (.goto 4, 3) := by decide +kernel
theorem dX1_place_90 : decode cX1_place 90 = .ok (.iconst (-1), 1) := by decide +kernel
theorem dX1_place_91 : decode cX1_place 91 = .ok (.putfield 24, 3) := by decide +kernel
theorem dX1_place_94 : decode cX1_place 94 = .ok (.aload_n 0, 1) := by decide +kernel
theorem dX1_place_95 : decode cX1_place 95 = .ok (.aload_n 0, 1) := by decide +kernel
theorem dX1_place_96 : decode cX1_place 96 = .ok (.getfield 24, 3) := by decide +kernel
theorem dX1_place_99 : decode cX1_place 99 = .ok (.iconst (-1), 1) := by decide +kernel
theorem dX1_place_100 : decode cX1_place 100 = .ok (.if_icmp .ne 7, 3) := by decide +kernel
theorem dX1_place_103 : decode cX1_place 103 = .ok (.iconst 0, 1) := by decide +kernel
theorem dX1_place_104 : decode cX1_place 104 = .ok (.goto 4, 3) := by decide +kernel
theorem dX1_place_107 : decode cX1_place 107 = .ok (.iconst 2, 1) := by decide +kernel
theorem dX1_place_108 : decode cX1_place 108 = .ok (.putfield 21, 3) := by decide +kernel
theorem dX1_place_111 : decode cX1_place 111 = .ok (.iload_n 2, 1) := by decide +kernel
theorem dX1_place_112 : decode cX1_place 112 = .ok (.ireturn, 1) := by decide +kernel
set_option maxRecDepth 20000 in
theorem ggX1_phase_X1_tells : GoodIn wsX1_phase wsX1_tells := goodIn_r _ [6, 7, 8, 9, 10, 11, 12, 13, 14, 15, 16, 17, 18, 19, 20, 21, 22, 23, 24] (by decide +kernel) (by decide +kernel)
set_option maxRecDepth 20000 in
theorem gX1_phase_X1_tells : GoodIn wsX1_phase (wsV RX1 91 RX1 yX1_tells wsX1_tells) := goodIn_app (goodIn_of _ (by decide +kernel)) ggX1_phase_X1_tells
theorem dX1_phase_0 : decode cX1_phase 0 = .ok (.aload_n 0, 1) := by decide +kernel
theorem dX1_phase_1 : decode cX1_phase 1 = .ok (.aload_n 0, 1) := by decide +kernel
theorem dX1_phase_2 : decode cX1_phase 2 = .ok (.getfield 21, 3) := by decide +kernel
theorem dX1_phase_5 : decode cX1_phase 5 = .ok (.invokevirtual 91, 3) := by decide +kernel
theorem dX1_phase_8 : decode cX1_phase 8 = .ok (.ireturn, 1) := by decide +kernel
set_option maxRecDepth 20000 in
theorem ggX1_onTurn_X1_tells : GoodIn wsX1_onTurn wsX1_tells := goodIn_r _ [6, 7, 8, 9, 10, 11, 12, 13, 14, 15, 16, 17, 18, 19, 20, 21, 22, 23, 24] (by decide +kernel) (by decide +kernel)
set_option maxRecDepth 20000 in
theorem gX1_onTurn_X1_tells : GoodIn wsX1_onTurn (wsV RX1 91 RX1 yX1_tells wsX1_tells) := goodIn_app (goodIn_of _ (by decide +kernel)) ggX1_onTurn_X1_tells
theorem dX1_onTurn_0 : decode cX1_onTurn 0 = .ok (.aload_n 0, 1) := by decide +kernel
theorem dX1_onTurn_1 : decode cX1_onTurn 1 = .ok (.aload_n 0, 1) := by decide +kernel
theorem dX1_onTurn_2 : decode cX1_onTurn 2 = .ok (.getfield 73, 3) := by decide +kernel
theorem dX1_onTurn_5 : decode cX1_onTurn 5 = .ok (.invokevirtual 91, 3) := by decide +kernel
theorem dX1_onTurn_8 : decode cX1_onTurn 8 = .ok (.ireturn, 1) := by decide +kernel
set_option maxRecDepth 20000 in
theorem ggX1_hand_X1_tells : GoodIn wsX1_hand wsX1_tells := goodIn_r _ [6, 7, 8, 9, 10, 11, 12, 13, 14, 15, 16, 17, 18, 19, 20, 21, 22, 23, 24] (by decide +kernel) (by decide +kernel)
set_option maxRecDepth 20000 in
theorem gX1_hand_X1_tells : GoodIn wsX1_hand (wsV RX1 91 RX1 yX1_tells wsX1_tells) := goodIn_app (goodIn_of _ (by decide +kernel)) ggX1_hand_X1_tells
theorem dX1_hand_0 : decode cX1_hand 0 = .ok (.aload_n 0, 1) := by decide +kernel
theorem dX1_hand_1 : decode cX1_hand 1 = .ok (.aload_n 0, 1) := by decide +kernel
theorem dX1_hand_2 : decode cX1_hand 2 = .ok (.getfield 17, 3) := by decide +kernel
theorem dX1_hand_5 : decode cX1_hand 5 = .ok (.invokevirtual 91, 3) := by decide +kernel
theorem dX1_hand_8 : decode cX1_hand 8 = .ok (.ireturn, 1) := by decide +kernel
set_option maxRecDepth 20000 in
theorem ggX1_pieceAt_X1_isIn : GoodIn wsX1_pieceAt wsX1_isIn := goodIn_r _ [5] (by decide +kernel) (by decide +kernel)
set_option maxRecDepth 20000 in
theorem gX1_pieceAt_X1_isIn : GoodIn wsX1_pieceAt (va_wsS RX1 76 yX1_isIn wsX1_isIn) := goodIn_app (goodIn_of _ (by decide +kernel)) ggX1_pieceAt_X1_isIn
set_option maxRecDepth 20000 in
theorem ggX1_pieceAt_X1_fails : GoodIn wsX1_pieceAt wsX1_fails := goodIn_r _ [9, 10, 11, 12, 13, 14, 15, 16, 17, 18, 19, 20, 21, 22, 23, 24, 25, 26, 27] (by decide +kernel) (by decide +kernel)
set_option maxRecDepth 20000 in
theorem gX1_pieceAt_X1_fails : GoodIn wsX1_pieceAt (wsV RX1 80 RX1 yX1_fails wsX1_fails) := goodIn_app (goodIn_of _ (by decide +kernel)) ggX1_pieceAt_X1_fails
theorem dX1_pieceAt_0 : decode cX1_pieceAt 0 = .ok (.aload_n 0, 1) := by decide +kernel
theorem dX1_pieceAt_1 : decode cX1_pieceAt 1 = .ok (.iload_n 1, 1) := by decide +kernel
theorem dX1_pieceAt_2 : decode cX1_pieceAt 2 = .ok (.bipush 16, 2) := by decide +kernel
theorem dX1_pieceAt_4 : decode cX1_pieceAt 4 = .ok (.invokestatic 76, 3) := by decide +kernel
theorem dX1_pieceAt_7 : decode cX1_pieceAt 7 = .ok (.ifCond .eq 7, 3) := by decide +kernel
theorem dX1_pieceAt_10 : decode cX1_pieceAt 10 = .ok (.iconst 0, 1) := by decide +kernel
theorem dX1_pieceAt_11 : decode cX1_pieceAt 11 = .ok (.goto 4, 3) := by decide +kernel
theorem dX1_pieceAt_14 : decode cX1_pieceAt 14 = .ok (.iconst 1, 1) := by decide +kernel
theorem dX1_pieceAt_15 : decode cX1_pieceAt 15 = .ok (.invokevirtual 80, 3) := by decide +kernel
theorem dX1_pieceAt_18 : decode cX1_pieceAt 18 = .ok (.ifCond .eq 7, 3) := by decide +kernel
theorem dX1_pieceAt_21 : decode cX1_pieceAt 21 = .ok (.iconst 0, 1) := by decide +kernel
theorem dX1_pieceAt_22 : decode cX1_pieceAt 22 = .ok (.goto 9, 3) := by decide +kernel
theorem dX1_pieceAt_25 : decode cX1_pieceAt 25 = .ok (.aload_n 0, 1) := by decide +kernel
theorem dX1_pieceAt_26 : decode cX1_pieceAt 26 = .ok (.getfield 7, 3) := by decide +kernel
theorem dX1_pieceAt_29 : decode cX1_pieceAt 29 = .ok (.iload_n 1, 1) := by decide +kernel
theorem dX1_pieceAt_30 : decode cX1_pieceAt 30 = .ok (.iaload, 1) := by decide +kernel
theorem dX1_pieceAt_31 : decode cX1_pieceAt 31 = .ok (.ireturn, 1) := by decide +kernel
set_option maxRecDepth 20000 in
theorem ggX1_placed_X1_tells : GoodIn wsX1_placed wsX1_tells := goodIn_r _ [6, 7, 8, 9, 10, 11, 12, 13, 14, 15, 16, 17, 18, 19, 20, 21, 22, 23, 24] (by decide +kernel) (by decide +kernel)
set_option maxRecDepth 20000 in
theorem gX1_placed_X1_tells : GoodIn wsX1_placed (wsV RX1 91 RX1 yX1_tells wsX1_tells) := goodIn_app (goodIn_of _ (by decide +kernel)) ggX1_placed_X1_tells
theorem dX1_placed_0 : decode cX1_placed 0 = .ok (.aload_n 0, 1) := by decide +kernel
theorem dX1_placed_1 : decode cX1_placed 1 = .ok (.aload_n 0, 1) := by decide +kernel
theorem dX1_placed_2 : decode cX1_placed 2 = .ok (.getfield 70, 3) := by decide +kernel
theorem dX1_placed_5 : decode cX1_placed 5 = .ok (.invokevirtual 91, 3) := by decide +kernel
theorem dX1_placed_8 : decode cX1_placed 8 = .ok (.ireturn, 1) := by decide +kernel
set_option maxRecDepth 20000 in
theorem ggX1_winner_X1_tells : GoodIn wsX1_winner wsX1_tells := goodIn_r _ [6, 7, 8, 9, 10, 11, 12, 13, 14, 15, 16, 17, 18, 19, 20, 21, 22, 23, 24] (by decide +kernel) (by decide +kernel)
set_option maxRecDepth 20000 in
theorem gX1_winner_X1_tells : GoodIn wsX1_winner (wsV RX1 91 RX1 yX1_tells wsX1_tells) := goodIn_app (goodIn_of _ (by decide +kernel)) ggX1_winner_X1_tells
theorem dX1_winner_0 : decode cX1_winner 0 = .ok (.aload_n 0, 1) := by decide +kernel
theorem dX1_winner_1 : decode cX1_winner 1 = .ok (.aload_n 0, 1) := by decide +kernel
theorem dX1_winner_2 : decode cX1_winner 2 = .ok (.getfield 24, 3) := by decide +kernel
theorem dX1_winner_5 : decode cX1_winner 5 = .ok (.invokevirtual 91, 3) := by decide +kernel
theorem dX1_winner_8 : decode cX1_winner 8 = .ok (.ireturn, 1) := by decide +kernel
set_option maxRecDepth 20000 in
theorem ggX1_lines_X1_many : GoodIn wsX1_lines wsX1_many := goodIn_r _ [5, 6, 12, 13, 14, 15, 16, 17, 18, 19, 20, 21, 22, 23, 24, 25, 26, 27, 28] (by decide +kernel) (by decide +kernel)
set_option maxRecDepth 20000 in
theorem gX1_lines_X1_many : GoodIn wsX1_lines (wsV RX1 59 RX1 yX1_many wsX1_many) := goodIn_app (goodIn_of _ (by decide +kernel)) ggX1_lines_X1_many
set_option maxRecDepth 20000 in
theorem ggX1_lines_X1_tells : GoodIn wsX1_lines wsX1_tells := goodIn_r _ [10, 11, 12, 13, 14, 15, 16, 17, 18, 19, 20, 21, 22, 23, 24, 25, 26, 27, 28] (by decide +kernel) (by decide +kernel)
set_option maxRecDepth 20000 in
theorem gX1_lines_X1_tells : GoodIn wsX1_lines (wsV RX1 91 RX1 yX1_tells wsX1_tells) := goodIn_app (goodIn_of _ (by decide +kernel)) ggX1_lines_X1_tells
theorem dX1_lines_0 : decode cX1_lines 0 = .ok (.aload_n 0, 1) := by decide +kernel
theorem dX1_lines_1 : decode cX1_lines 1 = .ok (.aload_n 0, 1) := by decide +kernel
theorem dX1_lines_2 : decode cX1_lines 2 = .ok (.invokevirtual 59, 3) := by decide +kernel
theorem dX1_lines_5 : decode cX1_lines 5 = .ok (.invokevirtual 91, 3) := by decide +kernel
theorem dX1_lines_8 : decode cX1_lines 8 = .ok (.ireturn, 1) := by decide +kernel
set_option maxRecDepth 20000 in
theorem ggX1_onLine_X1_many : GoodIn wsX1_onLine wsX1_many := goodIn_r _ [5, 6, 23, 24, 25, 26, 27, 28, 29, 30, 31, 32, 33, 34, 35, 36, 37, 38, 39] (by decide +kernel) (by decide +kernel)
set_option maxRecDepth 20000 in
theorem gX1_onLine_X1_many : GoodIn wsX1_onLine (wsV RX1 59 RX1 yX1_many wsX1_many) := goodIn_app (goodIn_of _ (by decide +kernel)) ggX1_onLine_X1_many
set_option maxRecDepth 20000 in
theorem ggX1_onLine_X1_isIn : GoodIn wsX1_onLine wsX1_isIn := goodIn_r _ [9] (by decide +kernel) (by decide +kernel)
set_option maxRecDepth 20000 in
theorem gX1_onLine_X1_isIn : GoodIn wsX1_onLine (va_wsS RX1 76 yX1_isIn wsX1_isIn) := goodIn_app (goodIn_of _ (by decide +kernel)) ggX1_onLine_X1_isIn
set_option maxRecDepth 20000 in
theorem ggX1_onLine_X1_fails : GoodIn wsX1_onLine wsX1_fails := goodIn_r _ [13, 14, 23, 24, 25, 26, 27, 28, 29, 30, 31, 32, 33, 34, 35, 36, 37, 38, 39] (by decide +kernel) (by decide +kernel)
set_option maxRecDepth 20000 in
theorem gX1_onLine_X1_fails : GoodIn wsX1_onLine (wsV RX1 80 RX1 yX1_fails wsX1_fails) := goodIn_app (goodIn_of _ (by decide +kernel)) ggX1_onLine_X1_fails
set_option maxRecDepth 20000 in
theorem ggX1_onLine_X1_full : GoodIn wsX1_onLine wsX1_full := goodIn_r _ [18, 19, 20, 21, 4, 22, 23, 24, 25, 26, 27, 28, 29, 30, 31, 32, 33, 34, 35, 36, 37, 38, 39] (by decide +kernel) (by decide +kernel)
set_option maxRecDepth 20000 in
theorem gX1_onLine_X1_full : GoodIn wsX1_onLine (wsV RX1 63 RX1 yX1_full wsX1_full) := goodIn_app (goodIn_of _ (by decide +kernel)) ggX1_onLine_X1_full
theorem dX1_onLine_0 : decode cX1_onLine 0 = .ok (.aload_n 0, 1) := by decide +kernel
theorem dX1_onLine_1 : decode cX1_onLine 1 = .ok (.iload_n 1, 1) := by decide +kernel
theorem dX1_onLine_2 : decode cX1_onLine 2 = .ok (.aload_n 0, 1) := by decide +kernel
theorem dX1_onLine_3 : decode cX1_onLine 3 = .ok (.invokevirtual 59, 3) := by decide +kernel
theorem dX1_onLine_6 : decode cX1_onLine 6 = .ok (.invokestatic 76, 3) := by decide +kernel
theorem dX1_onLine_9 : decode cX1_onLine 9 = .ok (.ifCond .eq 7, 3) := by decide +kernel
theorem dX1_onLine_12 : decode cX1_onLine 12 = .ok (.iconst 0, 1) := by decide +kernel
theorem dX1_onLine_13 : decode cX1_onLine 13 = .ok (.goto 4, 3) := by decide +kernel
theorem dX1_onLine_16 : decode cX1_onLine 16 = .ok (.iconst 1, 1) := by decide +kernel
theorem dX1_onLine_17 : decode cX1_onLine 17 = .ok (.invokevirtual 80, 3) := by decide +kernel
theorem dX1_onLine_20 : decode cX1_onLine 20 = .ok (.ifCond .eq 7, 3) := by decide +kernel
theorem dX1_onLine_23 : decode cX1_onLine 23 = .ok (.iconst 0, 1) := by decide +kernel
theorem dX1_onLine_24 : decode cX1_onLine 24 = .ok (.goto 8, 3) := by decide +kernel
theorem dX1_onLine_27 : decode cX1_onLine 27 = .ok (.aload_n 0, 1) := by decide +kernel
theorem dX1_onLine_28 : decode cX1_onLine 28 = .ok (.iload_n 1, 1) := by decide +kernel
theorem dX1_onLine_29 : decode cX1_onLine 29 = .ok (.invokevirtual 63, 3) := by decide +kernel
theorem dX1_onLine_32 : decode cX1_onLine 32 = .ok (.ireturn, 1) := by decide +kernel
set_option maxRecDepth 20000 in
theorem ggX1_shared_X1_many : GoodIn wsX1_shared wsX1_many := goodIn_r _ [5, 6, 23, 24, 25, 26, 27, 28, 29, 30, 31, 32, 33, 34, 35, 36, 37, 38, 39] (by decide +kernel) (by decide +kernel)
set_option maxRecDepth 20000 in
theorem gX1_shared_X1_many : GoodIn wsX1_shared (wsV RX1 59 RX1 yX1_many wsX1_many) := goodIn_app (goodIn_of _ (by decide +kernel)) ggX1_shared_X1_many
set_option maxRecDepth 20000 in
theorem ggX1_shared_X1_isIn : GoodIn wsX1_shared wsX1_isIn := goodIn_r _ [9] (by decide +kernel) (by decide +kernel)
set_option maxRecDepth 20000 in
theorem gX1_shared_X1_isIn : GoodIn wsX1_shared (va_wsS RX1 76 yX1_isIn wsX1_isIn) := goodIn_app (goodIn_of _ (by decide +kernel)) ggX1_shared_X1_isIn
set_option maxRecDepth 20000 in
theorem ggX1_shared_X1_fails : GoodIn wsX1_shared wsX1_fails := goodIn_r _ [13, 14, 23, 24, 25, 26, 27, 28, 29, 30, 31, 32, 33, 34, 35, 36, 37, 38, 39] (by decide +kernel) (by decide +kernel)
set_option maxRecDepth 20000 in
theorem gX1_shared_X1_fails : GoodIn wsX1_shared (wsV RX1 80 RX1 yX1_fails wsX1_fails) := goodIn_app (goodIn_of _ (by decide +kernel)) ggX1_shared_X1_fails
set_option maxRecDepth 20000 in
theorem ggX1_shared_X1_common : GoodIn wsX1_shared wsX1_common := goodIn_r _ [18, 19, 20, 21, 4, 22, 23, 24, 25, 26, 27, 28, 29, 30, 31, 32, 33, 34, 35, 36, 37, 38, 39] (by decide +kernel) (by decide +kernel)
set_option maxRecDepth 20000 in
theorem gX1_shared_X1_common : GoodIn wsX1_shared (wsV RX1 67 RX1 yX1_common wsX1_common) := goodIn_app (goodIn_of _ (by decide +kernel)) ggX1_shared_X1_common
theorem dX1_shared_0 : decode cX1_shared 0 = .ok (.aload_n 0, 1) := by decide +kernel
theorem dX1_shared_1 : decode cX1_shared 1 = .ok (.iload_n 1, 1) := by decide +kernel
theorem dX1_shared_2 : decode cX1_shared 2 = .ok (.aload_n 0, 1) := by decide +kernel
theorem dX1_shared_3 : decode cX1_shared 3 = .ok (.invokevirtual 59, 3) := by decide +kernel
theorem dX1_shared_6 : decode cX1_shared 6 = .ok (.invokestatic 76, 3) := by decide +kernel
theorem dX1_shared_9 : decode cX1_shared 9 = .ok (.ifCond .eq 7, 3) := by decide +kernel
theorem dX1_shared_12 : decode cX1_shared 12 = .ok (.iconst 0, 1) := by decide +kernel
theorem dX1_shared_13 : decode cX1_shared 13 = .ok (.goto 4, 3) := by decide +kernel
theorem dX1_shared_16 : decode cX1_shared 16 = .ok (.iconst 1, 1) := by decide +kernel
theorem dX1_shared_17 : decode cX1_shared 17 = .ok (.invokevirtual 80, 3) := by decide +kernel
theorem dX1_shared_20 : decode cX1_shared 20 = .ok (.ifCond .eq 7, 3) := by decide +kernel
theorem dX1_shared_23 : decode cX1_shared 23 = .ok (.iconst 0, 1) := by decide +kernel
theorem dX1_shared_24 : decode cX1_shared 24 = .ok (.goto 8, 3) := by decide +kernel
theorem dX1_shared_27 : decode cX1_shared 27 = .ok (.aload_n 0, 1) := by decide +kernel
theorem dX1_shared_28 : decode cX1_shared 28 = .ok (.iload_n 1, 1) := by decide +kernel
theorem dX1_shared_29 : decode cX1_shared 29 = .ok (.invokevirtual 67, 3) := by decide +kernel
theorem dX1_shared_32 : decode cX1_shared 32 = .ok (.ireturn, 1) := by decide +kernel
set_option maxRecDepth 20000 in
theorem ggX1_wins_X1_puts : GoodIn wsX1_wins wsX1_puts := goodIn_r _ [6, 1, 7, 8, 33, 34, 35, 36, 37, 38, 39, 40, 41, 42, 43, 44, 45, 46, 47, 48, 49] (by decide +kernel) (by decide +kernel)
set_option maxRecDepth 20000 in
theorem gX1_wins_X1_puts : GoodIn wsX1_wins (wsV RX1 84 RX1 yX1_puts wsX1_puts) := goodIn_app (goodIn_of _ (by decide +kernel)) ggX1_wins_X1_puts
set_option maxRecDepth 20000 in
theorem ggX1_wins_X1_won : GoodIn wsX1_wins wsX1_won := goodIn_r _ [12, 13, 14, 15, 5, 16, 17, 18, 19, 20, 21, 22, 23, 24, 1, 25, 26, 27, 28, 33, 34, 35, 36, 37, 38, 39, 40, 41, 42, 43, 44, 45, 46, 47, 48, 49] (by decide +kernel) (by decide +kernel)
set_option maxRecDepth 20000 in
theorem gX1_wins_X1_won : GoodIn wsX1_wins (wsV RX1 88 RX1 yX1_won wsX1_won) := goodIn_app (goodIn_of _ (by decide +kernel)) ggX1_wins_X1_won
set_option maxRecDepth 20000 in
theorem ggX1_wins_X1_takes : GoodIn wsX1_wins wsX1_takes := goodIn_r _ [32, 7, 1, 8, 33, 34, 35, 36, 37, 38, 39, 40, 41, 42, 43, 44, 45, 46, 47, 48, 49] (by decide +kernel) (by decide +kernel)
set_option maxRecDepth 20000 in
theorem gX1_wins_X1_takes : GoodIn wsX1_wins (wsV RX1 94 RX1 yX1_takes wsX1_takes) := goodIn_app (goodIn_of _ (by decide +kernel)) ggX1_wins_X1_takes
theorem dX1_wins_0 : decode cX1_wins 0 = .ok (.aload_n 0, 1) := by decide +kernel
theorem dX1_wins_1 : decode cX1_wins 1 = .ok (.getfield 7, 3) := by decide +kernel
theorem dX1_wins_4 : decode cX1_wins 4 = .ok (.iload_n 2, 1) := by decide +kernel
theorem dX1_wins_5 : decode cX1_wins 5 = .ok (.iaload, 1) := by decide +kernel
theorem dX1_wins_6 : decode cX1_wins 6 = .ok (.iconst (-1), 1) := by decide +kernel
theorem dX1_wins_7 : decode cX1_wins 7 = .ok (.if_icmp .eq 5, 3) := by decide +kernel
theorem dX1_wins_10 : decode cX1_wins 10 = .ok (.iconst 0, 1) := by decide +kernel
theorem dX1_wins_11 : decode cX1_wins 11 = .ok (.ireturn, 1) := by decide +kernel
theorem dX1_wins_12 : decode cX1_wins 12 = .ok (.aload_n 0, 1) := by decide +kernel
theorem dX1_wins_13 : decode cX1_wins 13 = .ok (.iload_n 2, 1) := by decide +kernel
theorem dX1_wins_14 : decode cX1_wins 14 = .ok (.iload_n 1, 1) := by decide +kernel
theorem dX1_wins_15 : decode cX1_wins 15 = .ok (.invokevirtual 84, 3) := by decide +kernel
theorem dX1_wins_18 : decode cX1_wins 18 = .ok (.aload_n 0, 1) := by decide +kernel
theorem dX1_wins_19 : decode cX1_wins 19 = .ok (.iload_n 2, 1) := by decide +kernel
theorem dX1_wins_20 : decode cX1_wins 20 = .ok (.invokevirtual 88, 3) := by decide +kernel
theorem dX1_wins_23 : decode cX1_wins 23 = .ok (.ifCond .le 7, 3) := by decide +kernel
theorem dX1_wins_26 : decode cX1_wins 26 = .ok (.iconst 1, 1) := by decide +kernel
theorem dX1_wins_27 : decode cX1_wins 27 = .ok (.goto 4, 3) := by decide +kernel
theorem dX1_wins_30 : decode cX1_wins 30 = .ok (.iconst 0, 1) := by decide +kernel
theorem dX1_wins_31 : decode cX1_wins 31 = .ok (.istore_n 3, 1) := by decide +kernel
theorem dX1_wins_32 : decode cX1_wins 32 = .ok (.aload_n 0, 1) := by decide +kernel
theorem dX1_wins_33 : decode cX1_wins 33 = .ok (.iload_n 2, 1) := by decide +kernel
theorem dX1_wins_34 : decode cX1_wins 34 = .ok (.invokevirtual 94, 3) := by decide +kernel
theorem dX1_wins_37 : decode cX1_wins 37 = .ok (.iload_n 3, 1) := by decide +kernel
theorem dX1_wins_38 : decode cX1_wins 38 = .ok (.ireturn, 1) := by decide +kernel
set_option maxRecDepth 20000 in
theorem ggX1_winners_X1_wins : GoodIn wsX1_winners wsX1_wins := goodIn_r _ [5, 6, 7, 8, 9, 4, 10, 11, 12, 13, 14, 15, 16, 17, 18, 19, 20, 21, 22, 23, 24, 25, 26, 27, 28, 29, 30, 31, 32, 33, 34, 35, 36, 37, 38, 39, 40, 41, 42, 43, 44, 45, 46, 47, 48, 49, 50, 51, 52, 53] (by decide +kernel) (by decide +kernel)
set_option maxRecDepth 20000 in
theorem gX1_winners_X1_wins : GoodIn wsX1_winners (wsV RX1 98 RX1 yX1_wins wsX1_wins) := goodIn_app (goodIn_of _ (by decide +kernel)) ggX1_winners_X1_wins
theorem dX1_winners_0 : decode cX1_winners 0 = .ok (.iconst 0, 1) := by decide +kernel
theorem dX1_winners_1 : decode cX1_winners 1 = .ok (.istore_n 2, 1) := by decide +kernel
theorem dX1_winners_2 : decode cX1_winners 2 = .ok (.iconst 0, 1) := by decide +kernel
theorem dX1_winners_3 : decode cX1_winners 3 = .ok (.istore_n 3, 1) := by decide +kernel
theorem dX1_winners_4 : decode cX1_winners 4 = .ok (.iload_n 3, 1) := by decide +kernel
theorem dX1_winners_5 : decode cX1_winners 5 = .ok (.bipush 16, 2) := by decide +kernel
theorem dX1_winners_7 : decode cX1_winners 7 = .ok (.if_icmp .ge 28, 3) := by decide +kernel
theorem dX1_winners_10 : decode cX1_winners 10 = .ok (.iload_n 2, 1) := by decide +kernel
theorem dX1_winners_11 : decode cX1_winners 11 = .ok (.aload_n 0, 1) := by decide +kernel
theorem dX1_winners_12 : decode cX1_winners 12 = .ok (.iload_n 1, 1) := by decide +kernel
theorem dX1_winners_13 : decode cX1_winners 13 = .ok (.iload_n 3, 1) := by decide +kernel
theorem dX1_winners_14 : decode cX1_winners 14 = .ok (.invokevirtual 98, 3) := by decide +kernel
theorem dX1_winners_17 : decode cX1_winners 17 = .ok (.ifCond .eq 9, 3) := by decide +kernel
theorem dX1_winners_20 : decode cX1_winners 20 = .ok (.iconst 1, 1) := by decide +kernel
theorem dX1_winners_21 : decode cX1_winners 21 = .ok (.iload_n 3, 1) := by decide +kernel
theorem dX1_winners_22 : decode cX1_winners 22 = .ok (.ishl, 1) := by decide +kernel
theorem dX1_winners_23 : decode cX1_winners 23 = .ok (.goto 4, 3) := by decide +kernel
theorem dX1_winners_26 : decode cX1_winners 26 = .ok (.iconst 0, 1) := by decide +kernel
theorem dX1_winners_27 : decode cX1_winners 27 = .ok (.ior, 1) := by decide +kernel
theorem dX1_winners_28 : decode cX1_winners 28 = .ok (.istore_n 2, 1) := by decide +kernel
theorem dX1_winners_29 : decode cX1_winners 29 = .ok (.iinc 3 1, 3) := by decide +kernel
theorem dX1_winners_32 : decode cX1_winners 32 = .ok (.goto (-28), 3) := by decide +kernel
theorem dX1_winners_35 : decode cX1_winners 35 = .ok (.iload_n 2, 1) := by decide +kernel
theorem dX1_winners_36 : decode cX1_winners 36 = .ok (.ireturn, 1) := by decide +kernel
set_option maxRecDepth 20000 in
theorem ggX1_winning_X1_isIn : GoodIn wsX1_winning wsX1_isIn := goodIn_r _ [6] (by decide +kernel) (by decide +kernel)
set_option maxRecDepth 20000 in
theorem gX1_winning_X1_isIn : GoodIn wsX1_winning (va_wsS RX1 76 yX1_isIn wsX1_isIn) := goodIn_app (goodIn_of _ (by decide +kernel)) ggX1_winning_X1_isIn
set_option maxRecDepth 20000 in
theorem ggX1_winning_X1_fails : GoodIn wsX1_winning wsX1_fails := goodIn_r _ [10, 11, 50, 51, 52, 53, 54, 55, 56, 57, 58, 59, 60, 61, 62, 63, 64, 65, 66] (by decide +kernel) (by decide +kernel)
set_option maxRecDepth 20000 in
theorem gX1_winning_X1_fails : GoodIn wsX1_winning (wsV RX1 80 RX1 yX1_fails wsX1_fails) := goodIn_app (goodIn_of _ (by decide +kernel)) ggX1_winning_X1_fails
set_option maxRecDepth 20000 in
theorem ggX1_winning_X1_winners : GoodIn wsX1_winning wsX1_winners := goodIn_r _ [15, 16, 17, 18, 5, 19, 20, 21, 22, 23, 24, 1, 25, 26, 27, 28, 29, 30, 31, 32, 33, 34, 35, 36, 37, 38, 39, 40, 41, 42, 43, 44, 45, 46, 47, 48, 49, 50, 51, 52, 53, 54, 55, 56, 57, 58, 59, 60, 61, 62, 63, 64, 65, 66] (by decide +kernel) (by decide +kernel)
set_option maxRecDepth 20000 in
theorem gX1_winning_X1_winners : GoodIn wsX1_winning (wsV RX1 101 RX1 yX1_winners wsX1_winners) := goodIn_app (goodIn_of _ (by decide +kernel)) ggX1_winning_X1_winners
theorem dX1_winning_0 : decode cX1_winning 0 = .ok (.aload_n 0, 1) := by decide +kernel
theorem dX1_winning_1 : decode cX1_winning 1 = .ok (.iload_n 1, 1) := by decide +kernel
theorem dX1_winning_2 : decode cX1_winning 2 = .ok (.bipush 16, 2) := by decide +kernel
theorem dX1_winning_4 : decode cX1_winning 4 = .ok (.invokestatic 76, 3) := by decide +kernel
theorem dX1_winning_7 : decode cX1_winning 7 = .ok (.ifCond .ne 7, 3) := by decide +kernel
theorem dX1_winning_10 : decode cX1_winning 10 = .ok (.iconst 1, 1) := by decide +kernel
theorem dX1_winning_11 : decode cX1_winning 11 = .ok (.goto 25, 3) := by decide +kernel
theorem dX1_winning_14 : decode cX1_winning 14 = .ok (.aload_n 0, 1) := by decide +kernel
theorem dX1_winning_15 : decode cX1_winning 15 = .ok (.getfield 13, 3) := by decide +kernel
theorem dX1_winning_18 : decode cX1_winning 18 = .ok (.iload_n 1, 1) := by decide +kernel
theorem dX1_winning_19 : decode cX1_winning 19 = .ok (.baload, 1) := by decide +kernel
theorem dX1_winning_20 : decode cX1_winning 20 = .ok (.ifCond .ne 11, 3) := by decide +kernel
theorem dX1_winning_23 : decode cX1_winning 23 = .ok (.aload_n 0, 1) := by decide +kernel
theorem dX1_winning_24 : decode cX1_winning 24 = .ok (.getfield 21, 3) := by decide +kernel
theorem dX1_winning_27 : decode cX1_winning 27 = .ok (.iconst 2, 1) := by decide +kernel
theorem dX1_winning_28 : decode cX1_winning 28 = .ok (.if_icmp .ne 7, 3) := by decide +kernel
theorem dX1_winning_31 : decode cX1_winning 31 = .ok (.iconst 2, 1) := by decide +kernel
theorem dX1_winning_32 : decode cX1_winning 32 = .ok (.goto 4, 3) := by decide +kernel
theorem dX1_winning_35 : decode cX1_winning 35 = .ok (.iconst 0, 1) := by decide +kernel
theorem dX1_winning_36 : decode cX1_winning 36 = .ok (.invokevirtual 80, 3) := by decide +kernel
theorem dX1_winning_39 : decode cX1_winning 39 = .ok (.ifCond .eq 7, 3) := by decide +kernel
theorem dX1_winning_42 : decode cX1_winning 42 = .ok (.iconst 0, 1) := by decide +kernel
theorem dX1_winning_43 : decode cX1_winning 43 = .ok (.goto 8, 3) := by decide +kernel
theorem dX1_winning_46 : decode cX1_winning 46 = .ok (.aload_n 0, 1) := by decide +kernel
theorem dX1_winning_47 : decode cX1_winning 47 = .ok (.iload_n 1, 1) := by decide +kernel
theorem dX1_winning_48 : decode cX1_winning 48 = .ok (.invokevirtual 101, 3) := by decide +kernel
theorem dX1_winning_51 : decode cX1_winning 51 = .ok (.ireturn, 1) := by decide +kernel
set_option maxRecDepth 20000 in
theorem ggX1_safe_X1_fails : GoodIn wsX1_safe wsX1_fails := goodIn_r _ [7, 8, 47, 48, 49, 50, 51, 52, 53, 54, 55, 56, 57, 58, 59, 60, 61, 62, 63] (by decide +kernel) (by decide +kernel)
set_option maxRecDepth 20000 in
theorem gX1_safe_X1_fails : GoodIn wsX1_safe (wsV RX1 80 RX1 yX1_fails wsX1_fails) := goodIn_app (goodIn_of _ (by decide +kernel)) ggX1_safe_X1_fails
set_option maxRecDepth 20000 in
theorem ggX1_safe_X1_winners : GoodIn wsX1_safe wsX1_winners := goodIn_r _ [12, 13, 14, 15, 6, 16, 17, 18, 19, 20, 21, 2, 22, 23, 24, 25, 26, 27, 28, 29, 30, 31, 32, 33, 34, 35, 36, 37, 38, 39, 40, 41, 42, 43, 44, 45, 46, 47, 48, 49, 50, 51, 52, 53, 54, 55, 56, 57, 58, 59, 60, 61, 62, 63] (by decide +kernel) (by decide +kernel)
set_option maxRecDepth 20000 in
theorem gX1_safe_X1_winners : GoodIn wsX1_safe (wsV RX1 101 RX1 yX1_winners wsX1_winners) := goodIn_app (goodIn_of _ (by decide +kernel)) ggX1_safe_X1_winners
theorem dX1_safe_0 : decode cX1_safe 0 = .ok (.aload_n 0, 1) := by decide +kernel
theorem dX1_safe_1 : decode cX1_safe 1 = .ok (.aload_n 0, 1) := by decide +kernel
theorem dX1_safe_2 : decode cX1_safe 2 = .ok (.getfield 21, 3) := by decide +kernel
theorem dX1_safe_5 : decode cX1_safe 5 = .ok (.ifCond .ne 7, 3) := by decide +kernel
theorem dX1_safe_8 : decode cX1_safe 8 = .ok (.iconst 0, 1) := by decide +kernel
theorem dX1_safe_9 : decode cX1_safe 9 = .ok (.goto 4, 3) := by decide +kernel
theorem dX1_safe_12 : decode cX1_safe 12 = .ok (.iconst 1, 1) := by decide +kernel
theorem dX1_safe_13 : decode cX1_safe 13 = .ok (.invokevirtual 80, 3) := by decide +kernel
theorem dX1_safe_16 : decode cX1_safe 16 = .ok (.ifCond .eq 5, 3) := by decide +kernel
theorem dX1_safe_19 : decode cX1_safe 19 = .ok (.iconst 0, 1) := by decide +kernel
theorem dX1_safe_20 : decode cX1_safe 20 = .ok (.ireturn, 1) := by decide +kernel
theorem dX1_safe_21 : decode cX1_safe 21 = .ok (.iconst 0, 1) := by decide +kernel
theorem dX1_safe_22 : decode cX1_safe 22 = .ok (.istore_n 1, 1) := by decide +kernel
theorem dX1_safe_23 : decode cX1_safe 23 = .ok (.iconst 0, 1) := by decide +kernel
theorem dX1_safe_24 : decode cX1_safe 24 = .ok (.istore_n 2, 1) := by decide +kernel
theorem dX1_safe_25 : decode cX1_safe 25 = .ok (.iload_n 2, 1) := by decide +kernel
theorem dX1_safe_26 : decode cX1_safe 26 = .ok (.bipush 16, 2) := by decide +kernel
theorem dX1_safe_28 : decode cX1_safe 28 = .ok (.if_icmp .ge 36, 3) := by decide +kernel
theorem dX1_safe_31 : decode cX1_safe 31 = .ok (.iload_n 1, 1) := by decide +kernel
theorem dX1_safe_32 : decode cX1_safe 32 = .ok (.aload_n 0, 1) := by decide +kernel
theorem dX1_safe_33 : decode cX1_safe 33 = .ok (.getfield 13, 3) := by decide +kernel
theorem dX1_safe_36 : decode cX1_safe 36 = .ok (.iload_n 2, 1) := by decide +kernel
theorem dX1_safe_37 : decode cX1_safe 37 = .ok (.baload, 1) := by decide +kernel
theorem dX1_safe_38 : decode cX1_safe 38 = .ok (.ifCond .ne 17, 3) := by decide +kernel
theorem dX1_safe_41 : decode cX1_safe 41 = .ok (.aload_n 0, 1) := by decide +kernel
theorem dX1_safe_42 : decode cX1_safe 42 = .ok (.iload_n 2, 1) := by decide +kernel
theorem dX1_safe_43 : decode cX1_safe 43 = .ok (.invokevirtual 101, 3) := by decide +kernel
theorem dX1_safe_46 : decode cX1_safe 46 = .ok (.ifCond .ne 9, 3) := by decide +kernel
theorem dX1_safe_49 : decode cX1_safe 49 = .ok (.iconst 1, 1) := by decide +kernel
theorem dX1_safe_50 : decode cX1_safe 50 = .ok (.iload_n 2, 1) := by decide +kernel
theorem dX1_safe_51 : decode cX1_safe 51 = .ok (.ishl, 1) := by decide +kernel
theorem dX1_safe_52 : decode cX1_safe 52 = .ok (.goto 4, 3) := by decide +kernel
theorem dX1_safe_55 : decode cX1_safe 55 = .ok (.iconst 0, 1) := by decide +kernel
theorem dX1_safe_56 : decode cX1_safe 56 = .ok (.ior, 1) := by decide +kernel
theorem dX1_safe_57 : decode cX1_safe 57 = .ok (.istore_n 1, 1) := by decide +kernel
theorem dX1_safe_58 : decode cX1_safe 58 = .ok (.iinc 2 1, 3) := by decide +kernel
theorem dX1_safe_61 : decode cX1_safe 61 = .ok (.goto (-36), 3) := by decide +kernel
theorem dX1_safe_64 : decode cX1_safe 64 = .ok (.iload_n 1, 1) := by decide +kernel
theorem dX1_safe_65 : decode cX1_safe 65 = .ok (.ireturn, 1) := by decide +kernel
theorem dX1_enters_0 : decode cX1_enters 0 = .ok (.aload_n 0, 1) := by decide +kernel
theorem dX1_enters_1 : decode cX1_enters 1 = .ok (.getfield 30, 3) := by decide +kernel
theorem dX1_enters_4 : decode cX1_enters 4 = .ok (.iload_n 1, 1) := by decide +kernel
theorem dX1_enters_5 : decode cX1_enters 5 = .ok (.iload_n 2, 1) := by decide +kernel
theorem dX1_enters_6 : decode cX1_enters 6 = .ok (.iastore, 1) := by decide +kernel
theorem dX1_enters_7 : decode cX1_enters 7 = .ok (.aload_n 0, 1) := by decide +kernel
theorem dX1_enters_8 : decode cX1_enters 8 = .ok (.getfield 33, 3) := by decide +kernel
theorem dX1_enters_11 : decode cX1_enters 11 = .ok (.iload_n 1, 1) := by decide +kernel
theorem dX1_enters_12 : decode cX1_enters 12 = .ok (.iload_n 3, 1) := by decide +kernel
theorem dX1_enters_13 : decode cX1_enters 13 = .ok (.iastore, 1) := by decide +kernel
theorem dX1_enters_14 : decode cX1_enters 14 = .ok (.aload_n 0, 1) := by decide +kernel
theorem dX1_enters_15 : decode cX1_enters 15 = .ok (.getfield 36, 3) := by decide +kernel
theorem dX1_enters_18 : decode cX1_enters 18 = .ok (.iload_n 1, 1) := by decide +kernel
theorem dX1_enters_19 : decode cX1_enters 19 = .ok (.iconst (-1), 1) := by decide +kernel
theorem dX1_enters_20 : decode cX1_enters 20 = .ok (.iastore, 1) := by decide +kernel
theorem dX1_enters_21 : decode cX1_enters 21 = .ok (.aload_n 0, 1) := by decide +kernel
theorem dX1_enters_22 : decode cX1_enters 22 = .ok (.getfield 39, 3) := by decide +kernel
theorem dX1_enters_25 : decode cX1_enters 25 = .ok (.iload_n 1, 1) := by decide +kernel
theorem dX1_enters_26 : decode cX1_enters 26 = .ok (.bipush (-2), 2) := by decide +kernel
theorem dX1_enters_28 : decode cX1_enters 28 = .ok (.iastore, 1) := by decide +kernel
theorem dX1_enters_29 : decode cX1_enters 29 = .ok (.aload_n 0, 1) := by decide +kernel
theorem dX1_enters_30 : decode cX1_enters 30 = .ok (.getfield 42, 3) := by decide +kernel
theorem dX1_enters_33 : decode cX1_enters 33 = .ok (.iload_n 1, 1) := by decide +kernel
theorem dX1_enters_34 : decode cX1_enters 34 = .ok (.iload 4, 2) := by decide +kernel
theorem dX1_enters_36 : decode cX1_enters 36 = .ok (.iastore, 1) := by decide +kernel
theorem dX1_enters_37 : decode cX1_enters 37 = .ok (.return_, 1) := by decide +kernel
set_option maxRecDepth 20000 in
theorem ggX1_tries_X1_puts : GoodIn wsX1_tries wsX1_puts := goodIn_r _ [12, 4, 3, 6, 37, 38, 39, 40, 41, 42, 43, 44, 45, 46, 47, 48, 49, 50, 51, 52, 53] (by decide +kernel) (by decide +kernel)
set_option maxRecDepth 20000 in
theorem gX1_tries_X1_puts : GoodIn wsX1_tries (wsV RX1 84 RX1 yX1_puts wsX1_puts) := goodIn_app (goodIn_of _ (by decide +kernel)) ggX1_tries_X1_puts
set_option maxRecDepth 20000 in
theorem ggX1_tries_X1_won : GoodIn wsX1_tries wsX1_won := goodIn_r _ [16, 17, 18, 19, 11, 20, 21, 22, 23, 24, 25, 26, 27, 28, 4, 29, 30, 31, 32, 37, 38, 39, 40, 41, 42, 43, 44, 45, 46, 47, 48, 49, 50, 51, 52, 53] (by decide +kernel) (by decide +kernel)
set_option maxRecDepth 20000 in
theorem gX1_tries_X1_won : GoodIn wsX1_tries (wsV RX1 88 RX1 yX1_won wsX1_won) := goodIn_app (goodIn_of _ (by decide +kernel)) ggX1_tries_X1_won
set_option maxRecDepth 20000 in
theorem ggX1_tries_X1_takes : GoodIn wsX1_tries wsX1_takes := goodIn_r _ [36, 3, 4, 6, 37, 38, 39, 40, 41, 42, 43, 44, 45, 46, 47, 48, 49, 50, 51, 52, 53] (by decide +kernel) (by decide +kernel)
set_option maxRecDepth 20000 in
theorem gX1_tries_X1_takes : GoodIn wsX1_tries (wsV RX1 94 RX1 yX1_takes wsX1_takes) := goodIn_app (goodIn_of _ (by decide +kernel)) ggX1_tries_X1_takes
theorem dX1_tries_0 : decode cX1_tries 0 = .ok (.aload_n 0, 1) := by decide +kernel
theorem dX1_tries_1 : decode cX1_tries 1 = .ok (.getfield 36, 3) := by decide +kernel
theorem dX1_tries_4 : decode cX1_tries 4 = .ok (.iload_n 1, 1) := by decide +kernel
theorem dX1_tries_5 : decode cX1_tries 5 = .ok (.iaload, 1) := by decide +kernel
theorem dX1_tries_6 : decode cX1_tries 6 = .ok (.istore_n 2, 1) := by decide +kernel
theorem dX1_tries_7 : decode cX1_tries 7 = .ok (.aload_n 0, 1) := by decide +kernel
theorem dX1_tries_8 : decode cX1_tries 8 = .ok (.getfield 30, 3) := by decide +kernel
theorem dX1_tries_11 : decode cX1_tries 11 = .ok (.iload_n 1, 1) := by decide +kernel
theorem dX1_tries_12 : decode cX1_tries 12 = .ok (.iaload, 1) := by decide +kernel
theorem dX1_tries_13 : decode cX1_tries 13 = .ok (.ifCond .ne 19, 3) := by decide +kernel
theorem dX1_tries_16 : decode cX1_tries 16 = .ok (.aload_n 0, 1) := by decide +kernel
theorem dX1_tries_17 : decode cX1_tries 17 = .ok (.getfield 13, 3) := by decide +kernel
theorem dX1_tries_20 : decode cX1_tries 20 = .ok (.iload_n 2, 1) := by decide +kernel
theorem dX1_tries_21 : decode cX1_tries 21 = .ok (.baload, 1) := by decide +kernel
theorem dX1_tries_22 : decode cX1_tries 22 = .ok (.ifCond .eq 8, 3) := by decide +kernel
theorem dX1_tries_25 : decode cX1_tries 25 = .ok (.bipush (-2), 2) := by decide +kernel
theorem dX1_tries_27 : decode cX1_tries 27 = .ok (.goto 4, 3) := by decide +kernel
theorem dX1_tries_30 : decode cX1_tries 30 = .ok (.iconst 2, 1) := by decide +kernel
theorem dX1_tries_31 : decode cX1_tries 31 = .ok (.ireturn, 1) := by decide +kernel
theorem dX1_tries_32 : decode cX1_tries 32 = .ok (.aload_n 0, 1) := by decide +kernel
theorem dX1_tries_33 : decode cX1_tries 33 = .ok (.getfield 7, 3) := by decide +kernel
theorem dX1_tries_36 : decode cX1_tries 36 = .ok (.iload_n 2, 1) := by decide +kernel
theorem dX1_tries_37 : decode cX1_tries 37 = .ok (.iaload, 1) := by decide +kernel
theorem dX1_tries_38 : decode cX1_tries 38 = .ok (.iconst (-1), 1) := by decide +kernel
theorem dX1_tries_39 : decode cX1_tries 39 = .ok (.if_icmp .eq 6, 3) := by decide +kernel
theorem dX1_tries_42 : decode cX1_tries 42 = .ok (.bipush (-2), 2) := by decide +kernel
theorem dX1_tries_44 : decode cX1_tries 44 = .ok (.ireturn, 1) := by decide +kernel
theorem dX1_tries_45 : decode cX1_tries 45 = .ok (.aload_n 0, 1) := by decide +kernel
theorem dX1_tries_46 : decode cX1_tries 46 = .ok (.iload_n 2, 1) := by decide +kernel
theorem dX1_tries_47 : decode cX1_tries 47 = .ok (.aload_n 0, 1) := by decide +kernel
theorem dX1_tries_48 : decode cX1_tries 48 = .ok (.getfield 42, 3) := by decide +kernel
theorem dX1_tries_51 : decode cX1_tries 51 = .ok (.iload_n 1, 1) := by decide +kernel
theorem dX1_tries_52 : decode cX1_tries 52 = .ok (.iaload, 1) := by decide +kernel
theorem dX1_tries_53 : decode cX1_tries 53 = .ok (.invokevirtual 84, 3) := by decide +kernel
theorem dX1_tries_56 : decode cX1_tries 56 = .ok (.aload_n 0, 1) := by decide +kernel
theorem dX1_tries_57 : decode cX1_tries 57 = .ok (.iload_n 2, 1) := by decide +kernel
theorem dX1_tries_58 : decode cX1_tries 58 = .ok (.invokevirtual 88, 3) := by decide +kernel
theorem dX1_tries_61 : decode cX1_tries 61 = .ok (.ifCond .le 7, 3) := by decide +kernel
theorem dX1_tries_64 : decode cX1_tries 64 = .ok (.iconst 1, 1) := by decide +kernel
theorem dX1_tries_65 : decode cX1_tries 65 = .ok (.goto 27, 3) := by decide +kernel
theorem dX1_tries_68 : decode cX1_tries 68 = .ok (.aload_n 0, 1) := by decide +kernel
theorem dX1_tries_69 : decode cX1_tries 69 = .ok (.getfield 70, 3) := by decide +kernel
theorem dX1_tries_72 : decode cX1_tries 72 = .ok (.bipush 16, 2) := by decide +kernel
theorem dX1_tries_74 : decode cX1_tries 74 = .ok (.if_icmp .eq 13, 3) := by decide +kernel
theorem dX1_tries_77 : decode cX1_tries 77 = .ok (.aload_n 0, 1) := by decide +kernel
theorem dX1_tries_78 : decode cX1_tries 78 = .ok (.getfield 33, 3) := by decide +kernel
theorem dX1_tries_81 : decode cX1_tries 81 = .ok (.iload_n 1, 1) := by decide +kernel
theorem dX1_tries_82 : decode cX1_tries 82 = .ok (.iaload, 1) := by decide +kernel
theorem dX1_tries_83 : decode cX1_tries 83 = .ok (.iconst 1, 1) := by decide +kernel
theorem dX1_tries_84 : decode cX1_tries 84 = .ok (.if_icmp .ne 7, 3) := by decide +kernel
theorem dX1_tries_87 : decode cX1_tries 87 = .ok (.iconst 0, 1) := by decide +kernel
theorem dX1_tries_88 : decode cX1_tries 88 = .ok (.goto 4, 3) := by decide +kernel
theorem dX1_tries_91 : decode cX1_tries 91 = .ok (.iconst 2, 1) := by decide +kernel
theorem dX1_tries_92 : decode cX1_tries 92 = .ok (.istore_n 3, 1) := by decide +kernel
theorem dX1_tries_93 : decode cX1_tries 93 = .ok (.iload_n 3, 1) := by decide +kernel
theorem dX1_tries_94 : decode cX1_tries 94 = .ok (.iconst 2, 1) := by decide +kernel
theorem dX1_tries_95 : decode cX1_tries 95 = .ok (.if_icmp .ge 8, 3) := by decide +kernel
theorem dX1_tries_98 : decode cX1_tries 98 = .ok (.aload_n 0, 1) := by decide +kernel
theorem dX1_tries_99 : decode cX1_tries 99 = .ok (.iload_n 2, 1) := by decide +kernel
theorem dX1_tries_100 : decode cX1_tries 100 = .ok (.invokevirtual 94, 3) := by decide +kernel
theorem dX1_tries_103 : decode cX1_tries 103 = .ok (.iload_n 3, 1) := by decide +kernel
theorem dX1_tries_104 : decode cX1_tries 104 = .ok (.ireturn, 1) := by decide +kernel
set_option maxRecDepth 20000 in
theorem ggX1_looks_X1_enters : GoodIn wsX1_looks wsX1_enters := goodIn_r _ [9, 3, 4, 1, 2, 10, 46, 47, 48, 49, 50, 51, 52, 53, 54, 55, 56, 57, 58, 59, 60, 61, 62] (by decide +kernel) (by decide +kernel)
set_option maxRecDepth 20000 in
theorem gX1_looks_X1_enters : GoodIn wsX1_looks (wsV RX1 104 RX1 yX1_enters wsX1_enters) := goodIn_app (goodIn_of _ (by decide +kernel)) ggX1_looks_X1_enters
set_option maxRecDepth 20000 in
theorem ggX1_looks_X1_takes : GoodIn wsX1_looks wsX1_takes := goodIn_r _ [14, 15, 16, 17, 46, 47, 48, 49, 50, 51, 52, 53, 54, 55, 56, 57, 58, 59, 60, 61, 62] (by decide +kernel) (by decide +kernel)
set_option maxRecDepth 20000 in
theorem gX1_looks_X1_takes : GoodIn wsX1_looks (wsV RX1 94 RX1 yX1_takes wsX1_takes) := goodIn_app (goodIn_of _ (by decide +kernel)) ggX1_looks_X1_takes
set_option maxRecDepth 20000 in
theorem ggX1_looks_X1_tries : GoodIn wsX1_looks wsX1_tries := goodIn_r _ [21, 1, 3, 15, 16, 10, 17, 4, 22, 23, 24, 8, 25, 26, 27, 28, 29, 30, 31, 32, 33, 34, 35, 36, 37, 38, 39, 40, 41, 42, 43, 44, 45, 11, 12, 13, 14, 46, 47, 48, 49, 50, 51, 52, 53, 54, 55, 56, 57, 58, 59, 60, 61, 62] (by decide +kernel) (by decide +kernel)
set_option maxRecDepth 20000 in
theorem gX1_looks_X1_tries : GoodIn wsX1_looks (wsV RX1 108 RX1 yX1_tries wsX1_tries) := goodIn_app (goodIn_of _ (by decide +kernel)) ggX1_looks_X1_tries
theorem dX1_looks_0 : decode cX1_looks 0 = .ok (.iconst 0, 1) := by decide +kernel
theorem dX1_looks_1 : decode cX1_looks 1 = .ok (.istore 4, 2) := by decide +kernel
theorem dX1_looks_3 : decode cX1_looks 3 = .ok (.aload_n 0, 1) := by decide +kernel
theorem dX1_looks_4 : decode cX1_looks 4 = .ok (.iconst 0, 1) := by decide +kernel
theorem dX1_looks_5 : decode cX1_looks 5 = .ok (.iload_n 1, 1) := by decide +kernel
theorem dX1_looks_6 : decode cX1_looks 6 = .ok (.iload_n 2, 1) := by decide +kernel
theorem dX1_looks_7 : decode cX1_looks 7 = .ok (.iload_n 3, 1) := by decide +kernel
theorem dX1_looks_8 : decode cX1_looks 8 = .ok (.invokevirtual 104, 3) := by decide +kernel
theorem dX1_looks_11 : decode cX1_looks 11 = .ok (.bipush (-2), 2) := by decide +kernel
theorem dX1_looks_13 : decode cX1_looks 13 = .ok (.istore 5, 2) := by decide +kernel
theorem dX1_looks_15 : decode cX1_looks 15 = .ok (.iload 4, 2) := by decide +kernel
theorem dX1_looks_17 : decode cX1_looks 17 = .ok (.ifCond .lt 253, 3) := by decide +kernel
theorem dX1_looks_20 : decode cX1_looks 20 = .ok (.aload_n 0, 1) := by decide +kernel
theorem dX1_looks_21 : decode cX1_looks 21 = .ok (.getfield 36, 3) := by decide +kernel
theorem dX1_looks_24 : decode cX1_looks 24 = .ok (.iload 4, 2) := by decide +kernel
theorem dX1_looks_26 : decode cX1_looks 26 = .ok (.dup2, 1) := by decide +kernel
theorem dX1_looks_27 : decode cX1_looks 27 = .ok (.iaload, 1) := by decide +kernel
theorem dX1_looks_28 : decode cX1_looks 28 = .ok (.iconst 1, 1) := by decide +kernel
theorem dX1_looks_29 : decode cX1_looks 29 = .ok (.iadd, 1) := by decide +kernel
theorem dX1_looks_30 : decode cX1_looks 30 = .ok (.iastore, 1) := by decide +kernel
theorem dX1_looks_31 : decode cX1_looks 31 = .ok (.aload_n 0, 1) := by decide +kernel
theorem dX1_looks_32 : decode cX1_looks 32 = .ok (.getfield 36, 3) := by decide +kernel
theorem dX1_looks_35 : decode cX1_looks 35 = .ok (.iload 4, 2) := by decide +kernel
theorem dX1_looks_37 : decode cX1_looks 37 = .ok (.iaload, 1) := by decide +kernel
theorem dX1_looks_38 : decode cX1_looks 38 = .ok (.bipush 16, 2) := by decide +kernel
theorem dX1_looks_40 : decode cX1_looks 40 = .ok (.if_icmp .eq 14, 3) := by decide +kernel
theorem dX1_looks_43 : decode cX1_looks 43 = .ok (.aload_n 0, 1) := by decide +kernel
theorem dX1_looks_44 : decode cX1_looks 44 = .ok (.getfield 39, 3) := by decide +kernel
theorem dX1_looks_47 : decode cX1_looks 47 = .ok (.iload 4, 2) := by decide +kernel
theorem dX1_looks_49 : decode cX1_looks 49 = .ok (.iaload, 1) := by decide +kernel
theorem dX1_looks_50 : decode cX1_looks 50 = .ok (.iconst 1, 1) := by decide +kernel
theorem dX1_looks_51 : decode cX1_looks 51 = .ok (.if_icmp .ne 96, 3) := by decide +kernel
theorem dX1_looks_54 : decode cX1_looks 54 = .ok (.aload_n 0, 1) := by decide +kernel
theorem dX1_looks_55 : decode cX1_looks 55 = .ok (.getfield 39, 3) := by decide +kernel
theorem dX1_looks_58 : decode cX1_looks 58 = .ok (.iload 4, 2) := by decide +kernel
theorem dX1_looks_60 : decode cX1_looks 60 = .ok (.iaload, 1) := by decide +kernel
theorem dX1_looks_61 : decode cX1_looks 61 = .ok (.istore 5, 2) := by decide +kernel
theorem dX1_looks_63 : decode cX1_looks 63 = .ok (.iinc 4 (-1), 3) := by decide +kernel
theorem dX1_looks_66 : decode cX1_looks 66 = .ok (.iload 4, 2) := by decide +kernel
theorem dX1_looks_68 : decode cX1_looks 68 = .ok (.ifCond .lt (-53), 3) := by decide +kernel
theorem dX1_looks_71 : decode cX1_looks 71 = .ok (.aload_n 0, 1) := by decide +kernel
theorem dX1_looks_72 : decode cX1_looks 72 = .ok (.getfield 30, 3) := by decide +kernel
theorem dX1_looks_75 : decode cX1_looks 75 = .ok (.iload 4, 2) := by decide +kernel
theorem dX1_looks_77 : decode cX1_looks 77 = .ok (.iaload, 1) := by decide +kernel
theorem dX1_looks_78 : decode cX1_looks 78 = .ok (.ifCond .ne 9, 3) := by decide +kernel
theorem dX1_looks_81 : decode cX1_looks 81 = .ok (.iload 5, 2) := by decide +kernel
theorem dX1_looks_83 : decode cX1_looks 83 = .ok (.ineg, 1) := by decide +kernel
theorem dX1_looks_84 : decode cX1_looks 84 = .ok (.goto 5, 3) := by decide +kernel
theorem dX1_looks_87 : decode cX1_looks 87 = .ok (.iload 5, 2) := by decide +kernel
theorem dX1_looks_89 : decode cX1_looks 89 = .ok (.istore 6, 2) := by decide +kernel
theorem dX1_looks_91 : decode cX1_looks 91 = .ok (.aload_n 0, 1) := by decide +kernel
theorem dX1_looks_92 : decode cX1_looks 92 = .ok (.getfield 39, 3) := by decide +kernel
theorem dX1_looks_95 : decode cX1_looks 95 = .ok (.iload 4, 2) := by decide +kernel
theorem dX1_looks_97 : decode cX1_looks 97 = .ok (.iload 6, 2) := by decide +kernel
theorem dX1_looks_99 : decode cX1_looks 99 = .ok (.aload_n 0, 1) := by decide +kernel
theorem dX1_looks_100 : decode cX1_looks 100 = .ok (.getfield 39, 3) := by decide +kernel
theorem dX1_looks_103 : decode cX1_looks 103 = .ok (.iload 4, 2) := by decide +kernel
theorem dX1_looks_105 : decode cX1_looks 105 = .ok (.iaload, 1) := by decide +kernel
theorem dX1_looks_106 : decode cX1_looks 106 = .ok (.if_icmp .le 8, 3) := by decide +kernel
theorem dX1_looks_109 : decode cX1_looks 109 = .ok (.iload 6, 2) := by decide +kernel
theorem dX1_looks_111 : decode cX1_looks 111 = .ok (.goto 10, 3) := by decide +kernel
theorem dX1_looks_114 : decode cX1_looks 114 = .ok (.aload_n 0, 1) := by decide +kernel
theorem dX1_looks_115 : decode cX1_looks 115 = .ok (.getfield 39, 3) := by decide +kernel
theorem dX1_looks_118 : decode cX1_looks 118 = .ok (.iload 4, 2) := by decide +kernel
theorem dX1_looks_120 : decode cX1_looks 120 = .ok (.iaload, 1) := by decide +kernel
theorem dX1_looks_121 : decode cX1_looks 121 = .ok (.iastore, 1) := by decide +kernel
theorem dX1_looks_122 : decode cX1_looks 122 = .ok (.aload_n 0, 1) := by decide +kernel
theorem dX1_looks_123 : decode cX1_looks 123 = .ok (.getfield 30, 3) := by decide +kernel
theorem dX1_looks_126 : decode cX1_looks 126 = .ok (.iload 4, 2) := by decide +kernel
theorem dX1_looks_128 : decode cX1_looks 128 = .ok (.iaload, 1) := by decide +kernel
theorem dX1_looks_129 : decode cX1_looks 129 = .ok (.iconst 1, 1) := by decide +kernel
theorem dX1_looks_130 : decode cX1_looks 130 = .ok (.if_icmp .ne 14, 3) := by decide +kernel
theorem dX1_looks_133 : decode cX1_looks 133 = .ok (.aload_n 0, 1) := by decide +kernel
theorem dX1_looks_134 : decode cX1_looks 134 = .ok (.aload_n 0, 1) := by decide +kernel
theorem dX1_looks_135 : decode cX1_looks 135 = .ok (.getfield 36, 3) := by decide +kernel
theorem dX1_looks_138 : decode cX1_looks 138 = .ok (.iload 4, 2) := by decide +kernel
theorem dX1_looks_140 : decode cX1_looks 140 = .ok (.iaload, 1) := by decide +kernel
theorem dX1_looks_141 : decode cX1_looks 141 = .ok (.invokevirtual 94, 3) := by decide +kernel
theorem dX1_looks_144 : decode cX1_looks 144 = .ok (.goto (-129), 3) := by decide +kernel
theorem dX1_looks_147 : decode cX1_looks 147 = .ok (.aload_n 0, 1) := by decide +kernel
theorem dX1_looks_148 : decode cX1_looks 148 = .ok (.iload 4, 2) := by decide +kernel
theorem dX1_looks_150 : decode cX1_looks 150 = .ok (.invokevirtual 108, 3) := by decide +kernel
theorem dX1_looks_153 : decode cX1_looks 153 = .ok (.istore 6, 2) := by decide +kernel
theorem dX1_looks_155 : decode cX1_looks 155 = .ok (.aload_n 0, 1) := by decide +kernel
theorem dX1_looks_156 : decode cX1_looks 156 = .ok (.getfield 39, 3) := by decide +kernel
theorem dX1_looks_159 : decode cX1_looks 159 = .ok (.iload 4, 2) := by decide +kernel
theorem dX1_looks_161 : decode cX1_looks 161 = .ok (.iload 6, 2) := by decide +kernel
theorem dX1_looks_163 : decode cX1_looks 163 = .ok (.iconst 2, 1) := by decide +kernel
theorem dX1_looks_164 : decode cX1_looks 164 = .ok (.if_icmp .ge 20, 3) := by decide +kernel
theorem dX1_looks_167 : decode cX1_looks 167 = .ok (.iload 6, 2) := by decide +kernel
theorem dX1_looks_169 : decode cX1_looks 169 = .ok (.aload_n 0, 1) := by decide +kernel
theorem dX1_looks_170 : decode cX1_looks 170 = .ok (.getfield 39, 3) := by decide +kernel
theorem dX1_looks_173 : decode cX1_looks 173 = .ok (.iload 4, 2) := by decide +kernel
theorem dX1_looks_175 : decode cX1_looks 175 = .ok (.iaload, 1) := by decide +kernel
theorem dX1_looks_176 : decode cX1_looks 176 = .ok (.if_icmp .le 8, 3) := by decide +kernel
theorem dX1_looks_179 : decode cX1_looks 179 = .ok (.iload 6, 2) := by decide +kernel
theorem dX1_looks_181 : decode cX1_looks 181 = .ok (.goto 10, 3) := by decide +kernel
theorem dX1_looks_184 : decode cX1_looks 184 = .ok (.aload_n 0, 1) := by decide +kernel
theorem dX1_looks_185 : decode cX1_looks 185 = .ok (.getfield 39, 3) := by decide +kernel
theorem dX1_looks_188 : decode cX1_looks 188 = .ok (.iload 4, 2) := by decide +kernel
theorem dX1_looks_190 : decode cX1_looks 190 = .ok (.iaload, 1) := by decide +kernel
theorem dX1_looks_191 : decode cX1_looks 191 = .ok (.iastore, 1) := by decide +kernel
theorem dX1_looks_192 : decode cX1_looks 192 = .ok (.iload 6, 2) := by decide +kernel
theorem dX1_looks_194 : decode cX1_looks 194 = .ok (.iconst 2, 1) := by decide +kernel
theorem dX1_looks_195 : decode cX1_looks 195 = .ok (.if_icmp .ne 72, 3) := by decide +kernel
theorem dX1_looks_198 : decode cX1_looks 198 = .ok (.aload_n 0, 1) := by decide +kernel
theorem dX1_looks_199 : decode cX1_looks 199 = .ok (.getfield 30, 3) := by decide +kernel
theorem dX1_looks_202 : decode cX1_looks 202 = .ok (.iload 4, 2) := by decide +kernel
theorem dX1_looks_204 : decode cX1_looks 204 = .ok (.iaload, 1) := by decide +kernel
theorem dX1_looks_205 : decode cX1_looks 205 = .ok (.ifCond .ne 7, 3) := by decide +kernel
theorem dX1_looks_208 : decode cX1_looks 208 = .ok (.iconst 1, 1) := by decide +kernel
theorem dX1_looks_209 : decode cX1_looks 209 = .ok (.goto 4, 3) := by decide +kernel
theorem dX1_looks_212 : decode cX1_looks 212 = .ok (.iconst 0, 1) := by decide +kernel
theorem dX1_looks_213 : decode cX1_looks 213 = .ok (.istore 7, 2) := by decide +kernel
theorem dX1_looks_215 : decode cX1_looks 215 = .ok (.aload_n 0, 1) := by decide +kernel
theorem dX1_looks_216 : decode cX1_looks 216 = .ok (.iload 4, 2) := by decide +kernel
theorem dX1_looks_218 : decode cX1_looks 218 = .ok (.iconst 1, 1) := by decide +kernel
theorem dX1_looks_219 : decode cX1_looks 219 = .ok (.iadd, 1) := by decide +kernel
theorem dX1_looks_220 : decode cX1_looks 220 = .ok (.iload 7, 2) := by decide +kernel
theorem dX1_looks_222 : decode cX1_looks 222 = .ok (.ifCond .eq 7, 3) := by decide +kernel
theorem dX1_looks_225 : decode cX1_looks 225 = .ok (.iconst 1, 1) := by decide +kernel
theorem dX1_looks_226 : decode cX1_looks 226 = .ok (.goto 4, 3) := by decide +kernel
theorem dX1_looks_229 : decode cX1_looks 229 = .ok (.iconst 0, 1) := by decide +kernel
theorem dX1_looks_230 : decode cX1_looks 230 = .ok (.iload 7, 2) := by decide +kernel
theorem dX1_looks_232 : decode cX1_looks 232 = .ok (.ifCond .eq 13, 3) := by decide +kernel
theorem dX1_looks_235 : decode cX1_looks 235 = .ok (.aload_n 0, 1) := by decide +kernel
theorem dX1_looks_236 : decode cX1_looks 236 = .ok (.getfield 33, 3) := by decide +kernel
theorem dX1_looks_239 : decode cX1_looks 239 = .ok (.iload 4, 2) := by decide +kernel
theorem dX1_looks_241 : decode cX1_looks 241 = .ok (.iaload, 1) := by decide +kernel
theorem dX1_looks_242 : decode cX1_looks 242 = .ok (.goto 12, 3) := by decide +kernel
theorem dX1_looks_245 : decode cX1_looks 245 = .ok (.aload_n 0, 1) := by decide +kernel
theorem dX1_looks_246 : decode cX1_looks 246 = .ok (.getfield 33, 3) := by decide +kernel
theorem dX1_looks_249 : decode cX1_looks 249 = .ok (.iload 4, 2) := by decide +kernel
theorem dX1_looks_251 : decode cX1_looks 251 = .ok (.iaload, 1) := by decide +kernel
theorem dX1_looks_252 : decode cX1_looks 252 = .ok (.iconst 1, 1) := by decide +kernel
theorem dX1_looks_253 : decode cX1_looks 253 = .ok (.isub, 1) := by decide +kernel
theorem dX1_looks_254 : decode cX1_looks 254 = .ok (.aload_n 0, 1) := by decide +kernel
theorem dX1_looks_255 : decode cX1_looks 255 = .ok (.getfield 36, 3) := by decide +kernel
theorem dX1_looks_258 : decode cX1_looks 258 = .ok (.iload 4, 2) := by decide +kernel
theorem dX1_looks_260 : decode cX1_looks 260 = .ok (.iaload, 1) := by decide +kernel
theorem dX1_looks_261 : decode cX1_looks 261 = .ok (.invokevirtual 104, 3) := by decide +kernel
theorem dX1_looks_264 : decode cX1_looks 264 = .ok (.iinc 4 1, 3) := by decide +kernel
theorem dX1_looks_267 : decode cX1_looks 267 = .ok (.goto (-252), 3) := by decide +kernel
theorem dX1_looks_270 : decode cX1_looks 270 = .ok (.iload 5, 2) := by decide +kernel
theorem dX1_looks_272 : decode cX1_looks 272 = .ok (.ireturn, 1) := by decide +kernel
set_option maxRecDepth 20000 in
theorem ggX1_cannot_X1_fails : GoodIn wsX1_cannot wsX1_fails := goodIn_r _ [7, 8, 9, 10, 11, 12, 13, 14, 15, 16, 17, 18, 19, 20, 21, 22, 23, 24, 25] (by decide +kernel) (by decide +kernel)
set_option maxRecDepth 20000 in
theorem gX1_cannot_X1_fails : GoodIn wsX1_cannot (wsV RX1 80 RX1 yX1_fails wsX1_fails) := goodIn_app (goodIn_of _ (by decide +kernel)) ggX1_cannot_X1_fails
theorem dX1_cannot_0 : decode cX1_cannot 0 = .ok (.bipush 16, 2) := by decide +kernel
theorem dX1_cannot_2 : decode cX1_cannot 2 = .ok (.aload_n 0, 1) := by decide +kernel
theorem dX1_cannot_3 : decode cX1_cannot 3 = .ok (.getfield 70, 3) := by decide +kernel
theorem dX1_cannot_6 : decode cX1_cannot 6 = .ok (.isub, 1) := by decide +kernel
theorem dX1_cannot_7 : decode cX1_cannot 7 = .ok (.istore_n 2, 1) := by decide +kernel
theorem dX1_cannot_8 : decode cX1_cannot 8 = .ok (.iload_n 1, 1) := by decide +kernel
theorem dX1_cannot_9 : decode cX1_cannot 9 = .ok (.iconst 3, 1) := by decide +kernel
theorem dX1_cannot_10 : decode cX1_cannot 10 = .ok (.if_icmp .ne 9, 3) := by decide +kernel
theorem dX1_cannot_13 : decode cX1_cannot 13 = .ok (.iload_n 2, 1) := by decide +kernel
theorem dX1_cannot_14 : decode cX1_cannot 14 = .ok (.bipush 8, 2) := by decide +kernel
theorem dX1_cannot_16 : decode cX1_cannot 16 = .ok (.if_icmp .gt 14, 3) := by decide +kernel
theorem dX1_cannot_19 : decode cX1_cannot 19 = .ok (.iload_n 1, 1) := by decide +kernel
theorem dX1_cannot_20 : decode cX1_cannot 20 = .ok (.iconst 4, 1) := by decide +kernel
theorem dX1_cannot_21 : decode cX1_cannot 21 = .ok (.if_icmp .ne 13, 3) := by decide +kernel
theorem dX1_cannot_24 : decode cX1_cannot 24 = .ok (.iload_n 2, 1) := by decide +kernel
theorem dX1_cannot_25 : decode cX1_cannot 25 = .ok (.bipush 6, 2) := by decide +kernel
theorem dX1_cannot_27 : decode cX1_cannot 27 = .ok (.if_icmp .le 7, 3) := by decide +kernel
theorem dX1_cannot_30 : decode cX1_cannot 30 = .ok (.iconst 1, 1) := by decide +kernel
theorem dX1_cannot_31 : decode cX1_cannot 31 = .ok (.goto 4, 3) := by decide +kernel
theorem dX1_cannot_34 : decode cX1_cannot 34 = .ok (.iconst 0, 1) := by decide +kernel
theorem dX1_cannot_35 : decode cX1_cannot 35 = .ok (.istore_n 3, 1) := by decide +kernel
theorem dX1_cannot_36 : decode cX1_cannot 36 = .ok (.aload_n 0, 1) := by decide +kernel
theorem dX1_cannot_37 : decode cX1_cannot 37 = .ok (.iload_n 1, 1) := by decide +kernel
theorem dX1_cannot_38 : decode cX1_cannot 38 = .ok (.iconst 1, 1) := by decide +kernel
theorem dX1_cannot_39 : decode cX1_cannot 39 = .ok (.if_icmp .lt 8, 3) := by decide +kernel
theorem dX1_cannot_42 : decode cX1_cannot 42 = .ok (.iload_n 1, 1) := by decide +kernel
theorem dX1_cannot_43 : decode cX1_cannot 43 = .ok (.iconst 4, 1) := by decide +kernel
theorem dX1_cannot_44 : decode cX1_cannot 44 = .ok (.if_icmp .le 7, 3) := by decide +kernel
theorem dX1_cannot_47 : decode cX1_cannot 47 = .ok (.iconst 1, 1) := by decide +kernel
theorem dX1_cannot_48 : decode cX1_cannot 48 = .ok (.goto 20, 3) := by decide +kernel
theorem dX1_cannot_51 : decode cX1_cannot 51 = .ok (.aload_n 0, 1) := by decide +kernel
theorem dX1_cannot_52 : decode cX1_cannot 52 = .ok (.getfield 21, 3) := by decide +kernel
theorem dX1_cannot_55 : decode cX1_cannot 55 = .ok (.iconst 2, 1) := by decide +kernel
theorem dX1_cannot_56 : decode cX1_cannot 56 = .ok (.if_icmp .eq 7, 3) := by decide +kernel
theorem dX1_cannot_59 : decode cX1_cannot 59 = .ok (.iload_n 3, 1) := by decide +kernel
theorem dX1_cannot_60 : decode cX1_cannot 60 = .ok (.ifCond .eq 7, 3) := by decide +kernel
theorem dX1_cannot_63 : decode cX1_cannot 63 = .ok (.iconst 2, 1) := by decide +kernel
theorem dX1_cannot_64 : decode cX1_cannot 64 = .ok (.goto 4, 3) := by decide +kernel
theorem dX1_cannot_67 : decode cX1_cannot 67 = .ok (.iconst 0, 1) := by decide +kernel
theorem dX1_cannot_68 : decode cX1_cannot 68 = .ok (.invokevirtual 80, 3) := by decide +kernel
theorem dX1_cannot_71 : decode cX1_cannot 71 = .ok (.ireturn, 1) := by decide +kernel
set_option maxRecDepth 20000 in
theorem ggX1_worth_X1_cannot : GoodIn wsX1_worth wsX1_cannot := goodIn_r _ [7, 8, 1, 9, 10, 11, 6, 12, 13, 61, 62, 63, 64, 65, 66, 67, 68, 69, 70, 71, 72, 73, 74, 75, 76, 77] (by decide +kernel) (by decide +kernel)
set_option maxRecDepth 20000 in
theorem gX1_worth_X1_cannot : GoodIn wsX1_worth (wsV RX1 111 RX1 yX1_cannot wsX1_cannot) := goodIn_app (goodIn_of _ (by decide +kernel)) ggX1_worth_X1_cannot
set_option maxRecDepth 20000 in
theorem ggX1_worth_X1_looks : GoodIn wsX1_worth wsX1_looks := goodIn_r _ [17, 18, 19, 20, 21, 22, 23, 24, 6, 25, 26, 27, 28, 29, 30, 31, 32, 8, 33, 34, 35, 36, 37, 38, 39, 40, 41, 42, 43, 44, 45, 46, 47, 48, 49, 50, 51, 52, 53, 54, 55, 56, 57, 58, 59, 60, 61, 62, 63, 64, 65, 66, 67, 68, 69, 70, 71, 72, 73, 74, 75, 76, 77] (by decide +kernel) (by decide +kernel)
set_option maxRecDepth 20000 in
theorem gX1_worth_X1_looks : GoodIn wsX1_worth (wsV RX1 114 RX1 yX1_looks wsX1_looks) := goodIn_app (goodIn_of _ (by decide +kernel)) ggX1_worth_X1_looks
theorem dX1_worth_0 : decode cX1_worth 0 = .ok (.aload_n 0, 1) := by decide +kernel
theorem dX1_worth_1 : decode cX1_worth 1 = .ok (.iload_n 1, 1) := by decide +kernel
theorem dX1_worth_2 : decode cX1_worth 2 = .ok (.invokevirtual 111, 3) := by decide +kernel
theorem dX1_worth_5 : decode cX1_worth 5 = .ok (.ifCond .eq 7, 3) := by decide +kernel
theorem dX1_worth_8 : decode cX1_worth 8 = .ok (.iconst 0, 1) := by decide +kernel
theorem dX1_worth_9 : decode cX1_worth 9 = .ok (.goto 16, 3) := by decide +kernel
theorem dX1_worth_12 : decode cX1_worth 12 = .ok (.aload_n 0, 1) := by decide +kernel
theorem dX1_worth_13 : decode cX1_worth 13 = .ok (.aload_n 0, 1) := by decide +kernel
theorem dX1_worth_14 : decode cX1_worth 14 = .ok (.getfield 21, 3) := by decide +kernel
theorem dX1_worth_17 : decode cX1_worth 17 = .ok (.iload_n 1, 1) := by decide +kernel
theorem dX1_worth_18 : decode cX1_worth 18 = .ok (.aload_n 0, 1) := by decide +kernel
theorem dX1_worth_19 : decode cX1_worth 19 = .ok (.getfield 17, 3) := by decide +kernel
theorem dX1_worth_22 : decode cX1_worth 22 = .ok (.invokevirtual 114, 3) := by decide +kernel
theorem dX1_worth_25 : decode cX1_worth 25 = .ok (.ireturn, 1) := by decide +kernel
set_option maxRecDepth 20000 in
theorem ggX1_behind_X1_looks : GoodIn wsX1_behind wsX1_looks := goodIn_r _ [10, 11, 12, 13, 14, 15, 16, 17, 9, 18, 19, 20, 21, 22, 23, 2, 3, 5, 24, 25, 26, 27, 28, 29, 30, 31, 32, 33, 34, 35, 36, 37, 38, 39, 40, 41, 42, 43, 44, 45, 46, 47, 48, 49, 50, 51, 52, 53, 54, 55, 56, 57, 58, 59, 60, 61, 62, 63, 64, 65, 66, 67, 68] (by decide +kernel) (by decide +kernel)
set_option maxRecDepth 20000 in
theorem gX1_behind_X1_looks : GoodIn wsX1_behind (wsV RX1 114 RX1 yX1_looks wsX1_looks) := goodIn_app (goodIn_of _ (by decide +kernel)) ggX1_behind_X1_looks
set_option maxRecDepth 20000 in
theorem ggX1_behind_X1_puts : GoodIn wsX1_behind wsX1_puts := goodIn_r _ [31, 3, 2, 5, 52, 53, 54, 55, 56, 57, 58, 59, 60, 61, 62, 63, 64, 65, 66, 67, 68] (by decide +kernel) (by decide +kernel)
set_option maxRecDepth 20000 in
theorem gX1_behind_X1_puts : GoodIn wsX1_behind (wsV RX1 84 RX1 yX1_puts wsX1_puts) := goodIn_app (goodIn_of _ (by decide +kernel)) ggX1_behind_X1_puts
set_option maxRecDepth 20000 in
theorem ggX1_behind_X1_won : GoodIn wsX1_behind wsX1_won := goodIn_r _ [35, 36, 37, 38, 9, 39, 40, 41, 42, 43, 44, 45, 46, 47, 3, 48, 49, 50, 51, 52, 53, 54, 55, 56, 57, 58, 59, 60, 61, 62, 63, 64, 65, 66, 67, 68] (by decide +kernel) (by decide +kernel)
set_option maxRecDepth 20000 in
theorem gX1_behind_X1_won : GoodIn wsX1_behind (wsV RX1 88 RX1 yX1_won wsX1_won) := goodIn_app (goodIn_of _ (by decide +kernel)) ggX1_behind_X1_won
set_option maxRecDepth 20000 in
theorem ggX1_behind_X1_takes : GoodIn wsX1_behind wsX1_takes := goodIn_r _ [23, 2, 3, 5, 52, 53, 54, 55, 56, 57, 58, 59, 60, 61, 62, 63, 64, 65, 66, 67, 68] (by decide +kernel) (by decide +kernel)
set_option maxRecDepth 20000 in
theorem gX1_behind_X1_takes : GoodIn wsX1_behind (wsV RX1 94 RX1 yX1_takes wsX1_takes) := goodIn_app (goodIn_of _ (by decide +kernel)) ggX1_behind_X1_takes
theorem dX1_behind_0 : decode cX1_behind 0 = .ok (.aload_n 0, 1) := by decide +kernel
theorem dX1_behind_1 : decode cX1_behind 1 = .ok (.getfield 21, 3) := by decide +kernel
theorem dX1_behind_4 : decode cX1_behind 4 = .ok (.ifCond .ne 26, 3) := by decide +kernel
theorem dX1_behind_7 : decode cX1_behind 7 = .ok (.aload_n 0, 1) := by decide +kernel
theorem dX1_behind_8 : decode cX1_behind 8 = .ok (.getfield 13, 3) := by decide +kernel
theorem dX1_behind_11 : decode cX1_behind 11 = .ok (.iload_n 1, 1) := by decide +kernel
theorem dX1_behind_12 : decode cX1_behind 12 = .ok (.baload, 1) := by decide +kernel
theorem dX1_behind_13 : decode cX1_behind 13 = .ok (.ifCond .eq 8, 3) := by decide +kernel
theorem dX1_behind_16 : decode cX1_behind 16 = .ok (.bipush (-2), 2) := by decide +kernel
theorem dX1_behind_18 : decode cX1_behind 18 = .ok (.goto 11, 3) := by decide +kernel
theorem dX1_behind_21 : decode cX1_behind 21 = .ok (.aload_n 0, 1) := by decide +kernel
theorem dX1_behind_22 : decode cX1_behind 22 = .ok (.iconst 1, 1) := by decide +kernel
theorem dX1_behind_23 : decode cX1_behind 23 = .ok (.iload_n 2, 1) := by decide +kernel
theorem dX1_behind_24 : decode cX1_behind 24 = .ok (.iload_n 1, 1) := by decide +kernel
theorem dX1_behind_25 : decode cX1_behind 25 = .ok (.invokevirtual 114, 3) := by decide +kernel
theorem dX1_behind_28 : decode cX1_behind 28 = .ok (.ineg, 1) := by decide +kernel
theorem dX1_behind_29 : decode cX1_behind 29 = .ok (.ireturn, 1) := by decide +kernel
theorem dX1_behind_30 : decode cX1_behind 30 = .ok (.aload_n 0, 1) := by decide +kernel
theorem dX1_behind_31 : decode cX1_behind 31 = .ok (.getfield 7, 3) := by decide +kernel
theorem dX1_behind_34 : decode cX1_behind 34 = .ok (.iload_n 1, 1) := by decide +kernel
theorem dX1_behind_35 : decode cX1_behind 35 = .ok (.iaload, 1) := by decide +kernel
theorem dX1_behind_36 : decode cX1_behind 36 = .ok (.iconst (-1), 1) := by decide +kernel
theorem dX1_behind_37 : decode cX1_behind 37 = .ok (.if_icmp .eq 6, 3) := by decide +kernel
theorem dX1_behind_40 : decode cX1_behind 40 = .ok (.bipush (-2), 2) := by decide +kernel
theorem dX1_behind_42 : decode cX1_behind 42 = .ok (.ireturn, 1) := by decide +kernel
theorem dX1_behind_43 : decode cX1_behind 43 = .ok (.aload_n 0, 1) := by decide +kernel
theorem dX1_behind_44 : decode cX1_behind 44 = .ok (.iload_n 1, 1) := by decide +kernel
theorem dX1_behind_45 : decode cX1_behind 45 = .ok (.aload_n 0, 1) := by decide +kernel
theorem dX1_behind_46 : decode cX1_behind 46 = .ok (.getfield 17, 3) := by decide +kernel
theorem dX1_behind_49 : decode cX1_behind 49 = .ok (.invokevirtual 84, 3) := by decide +kernel
theorem dX1_behind_52 : decode cX1_behind 52 = .ok (.aload_n 0, 1) := by decide +kernel
theorem dX1_behind_53 : decode cX1_behind 53 = .ok (.iload_n 1, 1) := by decide +kernel
theorem dX1_behind_54 : decode cX1_behind 54 = .ok (.invokevirtual 88, 3) := by decide +kernel
theorem dX1_behind_57 : decode cX1_behind 57 = .ok (.ifCond .le 7, 3) := by decide +kernel
theorem dX1_behind_60 : decode cX1_behind 60 = .ok (.iconst 1, 1) := by decide +kernel
theorem dX1_behind_61 : decode cX1_behind 61 = .ok (.goto 30, 3) := by decide +kernel
theorem dX1_behind_64 : decode cX1_behind 64 = .ok (.aload_n 0, 1) := by decide +kernel
theorem dX1_behind_65 : decode cX1_behind 65 = .ok (.getfield 70, 3) := by decide +kernel
theorem dX1_behind_68 : decode cX1_behind 68 = .ok (.bipush 16, 2) := by decide +kernel
theorem dX1_behind_70 : decode cX1_behind 70 = .ok (.if_icmp .eq 8, 3) := by decide +kernel
theorem dX1_behind_73 : decode cX1_behind 73 = .ok (.iload_n 2, 1) := by decide +kernel
theorem dX1_behind_74 : decode cX1_behind 74 = .ok (.iconst 1, 1) := by decide +kernel
theorem dX1_behind_75 : decode cX1_behind 75 = .ok (.if_icmp .ne 7, 3) := by decide +kernel
theorem dX1_behind_78 : decode cX1_behind 78 = .ok (.iconst 0, 1) := by decide +kernel
theorem dX1_behind_79 : decode cX1_behind 79 = .ok (.goto 12, 3) := by decide +kernel
theorem dX1_behind_82 : decode cX1_behind 82 = .ok (.aload_n 0, 1) := by decide +kernel
theorem dX1_behind_83 : decode cX1_behind 83 = .ok (.iconst 0, 1) := by decide +kernel
theorem dX1_behind_84 : decode cX1_behind 84 = .ok (.iload_n 2, 1) := by decide +kernel
theorem dX1_behind_85 : decode cX1_behind 85 = .ok (.iconst 1, 1) := by decide +kernel
theorem dX1_behind_86 : decode cX1_behind 86 = .ok (.isub, 1) := by decide +kernel
theorem dX1_behind_87 : decode cX1_behind 87 = .ok (.iconst (-1), 1) := by decide +kernel
theorem dX1_behind_88 : decode cX1_behind 88 = .ok (.invokevirtual 114, 3) := by decide +kernel
theorem dX1_behind_91 : decode cX1_behind 91 = .ok (.istore_n 3, 1) := by decide +kernel
theorem dX1_behind_92 : decode cX1_behind 92 = .ok (.aload_n 0, 1) := by decide +kernel
theorem dX1_behind_93 : decode cX1_behind 93 = .ok (.iload_n 1, 1) := by decide +kernel
theorem dX1_behind_94 : decode cX1_behind 94 = .ok (.invokevirtual 94, 3) := by decide +kernel
theorem dX1_behind_97 : decode cX1_behind 97 = .ok (.iload_n 3, 1) := by decide +kernel
theorem dX1_behind_98 : decode cX1_behind 98 = .ok (.ireturn, 1) := by decide +kernel
set_option maxRecDepth 20000 in
theorem ggX1_best_X1_cannot : GoodIn wsX1_best wsX1_cannot := goodIn_r _ [7, 8, 1, 9, 10, 11, 6, 12, 13, 65, 66, 67, 68, 69, 70, 71, 72, 73, 74, 75, 76, 77, 78, 79, 80, 81] (by decide +kernel) (by decide +kernel)
set_option maxRecDepth 20000 in
theorem gX1_best_X1_cannot : GoodIn wsX1_best (wsV RX1 111 RX1 yX1_cannot wsX1_cannot) := goodIn_app (goodIn_of _ (by decide +kernel)) ggX1_best_X1_cannot
set_option maxRecDepth 20000 in
theorem ggX1_best_X1_looks : GoodIn wsX1_best wsX1_looks := goodIn_r _ [17, 18, 19, 20, 21, 22, 23, 24, 6, 25, 26, 27, 28, 29, 30, 31, 32, 8, 33, 34, 35, 36, 37, 38, 39, 40, 41, 42, 43, 44, 45, 46, 47, 48, 49, 50, 51, 52, 53, 54, 55, 56, 57, 58, 59, 60, 65, 66, 67, 68, 69, 70, 71, 72, 73, 74, 75, 76, 77, 78, 79, 80, 81] (by decide +kernel) (by decide +kernel)
set_option maxRecDepth 20000 in
theorem gX1_best_X1_looks : GoodIn wsX1_best (wsV RX1 114 RX1 yX1_looks wsX1_looks) := goodIn_app (goodIn_of _ (by decide +kernel)) ggX1_best_X1_looks
set_option maxRecDepth 20000 in
theorem ggX1_best_X1_behind : GoodIn wsX1_best wsX1_behind := goodIn_r _ [64, 1, 31, 32, 2, 8, 14, 15, 16, 6, 17, 18, 19, 20, 21, 22, 23, 24, 25, 26, 27, 28, 29, 30, 33, 34, 35, 36, 37, 38, 39, 40, 41, 42, 43, 44, 45, 46, 47, 48, 49, 50, 51, 52, 53, 54, 55, 56, 57, 58, 59, 60, 65, 66, 67, 68, 69, 70, 71, 72, 73, 74, 75, 76, 77, 78, 79, 80, 81] (by decide +kernel) (by decide +kernel)
set_option maxRecDepth 20000 in
theorem gX1_best_X1_behind : GoodIn wsX1_best (wsV RX1 118 RX1 yX1_behind wsX1_behind) := goodIn_app (goodIn_of _ (by decide +kernel)) ggX1_best_X1_behind
theorem dX1_best_0 : decode cX1_best 0 = .ok (.aload_n 0, 1) := by decide +kernel
theorem dX1_best_1 : decode cX1_best 1 = .ok (.iload_n 1, 1) := by decide +kernel
theorem dX1_best_2 : decode cX1_best 2 = .ok (.invokevirtual 111, 3) := by decide +kernel
theorem dX1_best_5 : decode cX1_best 5 = .ok (.ifCond .eq 5, 3) := by decide +kernel
theorem dX1_best_8 : decode cX1_best 8 = .ok (.iconst 0, 1) := by decide +kernel
theorem dX1_best_9 : decode cX1_best 9 = .ok (.ireturn, 1) := by decide +kernel
theorem dX1_best_10 : decode cX1_best 10 = .ok (.aload_n 0, 1) := by decide +kernel
theorem dX1_best_11 : decode cX1_best 11 = .ok (.aload_n 0, 1) := by decide +kernel
theorem dX1_best_12 : decode cX1_best 12 = .ok (.getfield 21, 3) := by decide +kernel
theorem dX1_best_15 : decode cX1_best 15 = .ok (.iload_n 1, 1) := by decide +kernel
theorem dX1_best_16 : decode cX1_best 16 = .ok (.aload_n 0, 1) := by decide +kernel
theorem dX1_best_17 : decode cX1_best 17 = .ok (.getfield 17, 3) := by decide +kernel
theorem dX1_best_20 : decode cX1_best 20 = .ok (.invokevirtual 114, 3) := by decide +kernel
theorem dX1_best_23 : decode cX1_best 23 = .ok (.istore_n 2, 1) := by decide +kernel
theorem dX1_best_24 : decode cX1_best 24 = .ok (.iconst 0, 1) := by decide +kernel
theorem dX1_best_25 : decode cX1_best 25 = .ok (.istore_n 3, 1) := by decide +kernel
theorem dX1_best_26 : decode cX1_best 26 = .ok (.aload_n 0, 1) := by decide +kernel
theorem dX1_best_27 : decode cX1_best 27 = .ok (.iload_n 3, 1) := by decide +kernel
theorem dX1_best_28 : decode cX1_best 28 = .ok (.iload_n 1, 1) := by decide +kernel
theorem dX1_best_29 : decode cX1_best 29 = .ok (.invokevirtual 118, 3) := by decide +kernel
theorem dX1_best_32 : decode cX1_best 32 = .ok (.iload_n 2, 1) := by decide +kernel
theorem dX1_best_33 : decode cX1_best 33 = .ok (.if_icmp .eq 9, 3) := by decide +kernel
theorem dX1_best_36 : decode cX1_best 36 = .ok (.iinc 3 1, 3) := by decide +kernel
theorem dX1_best_39 : decode cX1_best 39 = .ok (.goto (-13), 3) := by decide +kernel
theorem dX1_best_42 : decode cX1_best 42 = .ok (.iload_n 3, 1) := by decide +kernel
theorem dX1_best_43 : decode cX1_best 43 = .ok (.ireturn, 1) := by decide +kernel
theorem dX1_keep_0 : decode cX1_keep 0 = .ok (.aload_n 0, 1) := by decide +kernel
theorem dX1_keep_1 : decode cX1_keep 1 = .ok (.iconst 0, 1) := by decide +kernel
theorem dX1_keep_2 : decode cX1_keep 2 = .ok (.putfield 48, 3) := by decide +kernel
theorem dX1_keep_5 : decode cX1_keep 5 = .ok (.aload_n 0, 1) := by decide +kernel
theorem dX1_keep_6 : decode cX1_keep 6 = .ok (.iconst 1, 1) := by decide +kernel
theorem dX1_keep_7 : decode cX1_keep 7 = .ok (.putfield 121, 3) := by decide +kernel
theorem dX1_keep_10 : decode cX1_keep 10 = .ok (.iconst 0, 1) := by decide +kernel
theorem dX1_keep_11 : decode cX1_keep 11 = .ok (.istore_n 1, 1) := by decide +kernel
theorem dX1_keep_12 : decode cX1_keep 12 = .ok (.iload_n 1, 1) := by decide +kernel
theorem dX1_keep_13 : decode cX1_keep 13 = .ok (.bipush 16, 2) := by decide +kernel
theorem dX1_keep_15 : decode cX1_keep 15 = .ok (.if_icmp .ge 21, 3) := by decide +kernel
theorem dX1_keep_18 : decode cX1_keep 18 = .ok (.aload_n 0, 1) := by decide +kernel
theorem dX1_keep_19 : decode cX1_keep 19 = .ok (.getfield 27, 3) := by decide +kernel
theorem dX1_keep_22 : decode cX1_keep 22 = .ok (.iload_n 1, 1) := by decide +kernel
theorem dX1_keep_23 : decode cX1_keep 23 = .ok (.aload_n 0, 1) := by decide +kernel
theorem dX1_keep_24 : decode cX1_keep 24 = .ok (.getfield 7, 3) := by decide +kernel
theorem dX1_keep_27 : decode cX1_keep 27 = .ok (.iload_n 1, 1) := by decide +kernel
theorem dX1_keep_28 : decode cX1_keep 28 = .ok (.iaload, 1) := by decide +kernel
theorem dX1_keep_29 : decode cX1_keep 29 = .ok (.iastore, 1) := by decide +kernel
theorem dX1_keep_30 : decode cX1_keep 30 = .ok (.iinc 1 1, 3) := by decide +kernel
theorem dX1_keep_33 : decode cX1_keep 33 = .ok (.goto (-21), 3) := by decide +kernel
theorem dX1_keep_36 : decode cX1_keep 36 = .ok (.aload_n 0, 1) := by decide +kernel
theorem dX1_keep_37 : decode cX1_keep 37 = .ok (.getfield 70, 3) := by decide +kernel
theorem dX1_keep_40 : decode cX1_keep 40 = .ok (.ireturn, 1) := by decide +kernel
theorem dX1_turned_0 : decode cX1_turned 0 = .ok (.iload_n 0, 1) := by decide +kernel
theorem dX1_turned_1 : decode cX1_turned 1 = .ok (.iconst 4, 1) := by decide +kernel
theorem dX1_turned_2 : decode cX1_turned 2 = .ok (.idiv, 1) := by decide +kernel
theorem dX1_turned_3 : decode cX1_turned 3 = .ok (.istore_n 2, 1) := by decide +kernel
theorem dX1_turned_4 : decode cX1_turned 4 = .ok (.iload_n 0, 1) := by decide +kernel
theorem dX1_turned_5 : decode cX1_turned 5 = .ok (.iconst 4, 1) := by decide +kernel
theorem dX1_turned_6 : decode cX1_turned 6 = .ok (.irem, 1) := by decide +kernel
theorem dX1_turned_7 : decode cX1_turned 7 = .ok (.istore_n 3, 1) := by decide +kernel
theorem dX1_turned_8 : decode cX1_turned 8 = .ok (.iload_n 1, 1) := by decide +kernel
theorem dX1_turned_9 : decode cX1_turned 9 = .ok (.iconst 2, 1) := by decide +kernel
theorem dX1_turned_10 : decode cX1_turned 10 = .ok (.irem, 1) := by decide +kernel
theorem dX1_turned_11 : decode cX1_turned 11 = .ok (.ifCond .ne 7, 3) := by decide +kernel
theorem dX1_turned_14 : decode cX1_turned 14 = .ok (.iload_n 2, 1) := by decide +kernel
theorem dX1_turned_15 : decode cX1_turned 15 = .ok (.goto 6, 3) := by decide +kernel
theorem dX1_turned_18 : decode cX1_turned 18 = .ok (.iconst 3, 1) := by decide +kernel
theorem dX1_turned_19 : decode cX1_turned 19 = .ok (.iload_n 2, 1) := by decide +kernel
theorem dX1_turned_20 : decode cX1_turned 20 = .ok (.isub, 1) := by decide +kernel
theorem dX1_turned_21 : decode cX1_turned 21 = .ok (.istore 4, 2) := by decide +kernel
theorem dX1_turned_23 : decode cX1_turned 23 = .ok (.iload_n 1, 1) := by decide +kernel
theorem dX1_turned_24 : decode cX1_turned 24 = .ok (.iconst 2, 1) := by decide +kernel
theorem dX1_turned_25 : decode cX1_turned 25 = .ok (.idiv, 1) := by decide +kernel
theorem dX1_turned_26 : decode cX1_turned 26 = .ok (.iconst 2, 1) := by decide +kernel
theorem dX1_turned_27 : decode cX1_turned 27 = .ok (.irem, 1) := by decide +kernel
theorem dX1_turned_28 : decode cX1_turned 28 = .ok (.ifCond .ne 7, 3) := by decide +kernel
theorem dX1_turned_31 : decode cX1_turned 31 = .ok (.iload_n 3, 1) := by decide +kernel
theorem dX1_turned_32 : decode cX1_turned 32 = .ok (.goto 6, 3) := by decide +kernel
theorem dX1_turned_35 : decode cX1_turned 35 = .ok (.iconst 3, 1) := by decide +kernel
theorem dX1_turned_36 : decode cX1_turned 36 = .ok (.iload_n 3, 1) := by decide +kernel
theorem dX1_turned_37 : decode cX1_turned 37 = .ok (.isub, 1) := by decide +kernel
theorem dX1_turned_38 : decode cX1_turned 38 = .ok (.istore 5, 2) := by decide +kernel
theorem dX1_turned_40 : decode cX1_turned 40 = .ok (.iload_n 1, 1) := by decide +kernel
theorem dX1_turned_41 : decode cX1_turned 41 = .ok (.iconst 4, 1) := by decide +kernel
theorem dX1_turned_42 : decode cX1_turned 42 = .ok (.if_icmp .ge 13, 3) := by decide +kernel
theorem dX1_turned_45 : decode cX1_turned 45 = .ok (.iconst 4, 1) := by decide +kernel
theorem dX1_turned_46 : decode cX1_turned 46 = .ok (.iload 4, 2) := by decide +kernel
theorem dX1_turned_48 : decode cX1_turned 48 = .ok (.imul, 1) := by decide +kernel
theorem dX1_turned_49 : decode cX1_turned 49 = .ok (.iload 5, 2) := by decide +kernel
theorem dX1_turned_51 : decode cX1_turned 51 = .ok (.iadd, 1) := by decide +kernel
theorem dX1_turned_52 : decode cX1_turned 52 = .ok (.goto 10, 3) := by decide +kernel
theorem dX1_turned_55 : decode cX1_turned 55 = .ok (.iconst 4, 1) := by decide +kernel
theorem dX1_turned_56 : decode cX1_turned 56 = .ok (.iload 5, 2) := by decide +kernel
theorem dX1_turned_58 : decode cX1_turned 58 = .ok (.imul, 1) := by decide +kernel
theorem dX1_turned_59 : decode cX1_turned 59 = .ok (.iload 4, 2) := by decide +kernel
theorem dX1_turned_61 : decode cX1_turned 61 = .ok (.iadd, 1) := by decide +kernel
theorem dX1_turned_62 : decode cX1_turned 62 = .ok (.ireturn, 1) := by decide +kernel
theorem dX1_renames_0 : decode cX1_renames 0 = .ok (.iconst 0, 1) := by decide +kernel
theorem dX1_renames_1 : decode cX1_renames 1 = .ok (.istore_n 2, 1) := by decide +kernel
theorem dX1_renames_2 : decode cX1_renames 2 = .ok (.iconst 0, 1) := by decide +kernel
theorem dX1_renames_3 : decode cX1_renames 3 = .ok (.istore_n 3, 1) := by decide +kernel
theorem dX1_renames_4 : decode cX1_renames 4 = .ok (.iload_n 3, 1) := by decide +kernel
theorem dX1_renames_5 : decode cX1_renames 5 = .ok (.iconst 4, 1) := by decide +kernel
theorem dX1_renames_6 : decode cX1_renames 6 = .ok (.if_icmp .ge 33, 3) := by decide +kernel
theorem dX1_renames_9 : decode cX1_renames 9 = .ok (.aload_n 0, 1) := by decide +kernel
theorem dX1_renames_10 : decode cX1_renames 10 = .ok (.getfield 45, 3) := by decide +kernel
theorem dX1_renames_13 : decode cX1_renames 13 = .ok (.iload_n 3, 1) := by decide +kernel
theorem dX1_renames_14 : decode cX1_renames 14 = .ok (.iload_n 1, 1) := by decide +kernel
theorem dX1_renames_15 : decode cX1_renames 15 = .ok (.iconst 2, 1) := by decide +kernel
theorem dX1_renames_16 : decode cX1_renames 16 = .ok (.iload_n 3, 1) := by decide +kernel
theorem dX1_renames_17 : decode cX1_renames 17 = .ok (.imul, 1) := by decide +kernel
theorem dX1_renames_18 : decode cX1_renames 18 = .ok (.ishr, 1) := by decide +kernel
theorem dX1_renames_19 : decode cX1_renames 19 = .ok (.iconst 3, 1) := by decide +kernel
theorem dX1_renames_20 : decode cX1_renames 20 = .ok (.iand, 1) := by decide +kernel
theorem dX1_renames_21 : decode cX1_renames 21 = .ok (.iastore, 1) := by decide +kernel
theorem dX1_renames_22 : decode cX1_renames 22 = .ok (.iload_n 2, 1) := by decide +kernel
theorem dX1_renames_23 : decode cX1_renames 23 = .ok (.iconst 1, 1) := by decide +kernel
theorem dX1_renames_24 : decode cX1_renames 24 = .ok (.aload_n 0, 1) := by decide +kernel
theorem dX1_renames_25 : decode cX1_renames 25 = .ok (.getfield 45, 3) := by decide +kernel
theorem dX1_renames_28 : decode cX1_renames 28 = .ok (.iload_n 3, 1) := by decide +kernel
theorem dX1_renames_29 : decode cX1_renames 29 = .ok (.iaload, 1) := by decide +kernel
theorem dX1_renames_30 : decode cX1_renames 30 = .ok (.ishl, 1) := by decide +kernel
theorem dX1_renames_31 : decode cX1_renames 31 = .ok (.ior, 1) := by decide +kernel
theorem dX1_renames_32 : decode cX1_renames 32 = .ok (.istore_n 2, 1) := by decide +kernel
theorem dX1_renames_33 : decode cX1_renames 33 = .ok (.iinc 3 1, 3) := by decide +kernel
theorem dX1_renames_36 : decode cX1_renames 36 = .ok (.goto (-32), 3) := by decide +kernel
theorem dX1_renames_39 : decode cX1_renames 39 = .ok (.iload_n 2, 1) := by decide +kernel
theorem dX1_renames_40 : decode cX1_renames 40 = .ok (.bipush 15, 2) := by decide +kernel
theorem dX1_renames_42 : decode cX1_renames 42 = .ok (.if_icmp .ne 7, 3) := by decide +kernel
theorem dX1_renames_45 : decode cX1_renames 45 = .ok (.iconst 1, 1) := by decide +kernel
theorem dX1_renames_46 : decode cX1_renames 46 = .ok (.goto 4, 3) := by decide +kernel
theorem dX1_renames_49 : decode cX1_renames 49 = .ok (.iconst 0, 1) := by decide +kernel
theorem dX1_renames_50 : decode cX1_renames 50 = .ok (.ireturn, 1) := by decide +kernel
theorem dX1_renamed_0 : decode cX1_renamed 0 = .ok (.iconst 0, 1) := by decide +kernel
theorem dX1_renamed_1 : decode cX1_renamed 1 = .ok (.istore_n 3, 1) := by decide +kernel
theorem dX1_renamed_2 : decode cX1_renamed 2 = .ok (.iconst 0, 1) := by decide +kernel
theorem dX1_renamed_3 : decode cX1_renamed 3 = .ok (.istore 4, 2) := by decide +kernel
theorem dX1_renamed_5 : decode cX1_renamed 5 = .ok (.iload 4, 2) := by decide +kernel
theorem dX1_renamed_7 : decode cX1_renamed 7 = .ok (.iconst 4, 1) := by decide +kernel
theorem dX1_renamed_8 : decode cX1_renamed 8 = .ok (.if_icmp .ge 26, 3) := by decide +kernel
theorem dX1_renamed_11 : decode cX1_renamed 11 = .ok (.iload_n 3, 1) := by decide +kernel
theorem dX1_renamed_12 : decode cX1_renamed 12 = .ok (.iload_n 1, 1) := by decide +kernel
theorem dX1_renamed_13 : decode cX1_renamed 13 = .ok (.iload 4, 2) := by decide +kernel
theorem dX1_renamed_15 : decode cX1_renamed 15 = .ok (.ishr, 1) := by decide +kernel
theorem dX1_renamed_16 : decode cX1_renamed 16 = .ok (.iconst 1, 1) := by decide +kernel
theorem dX1_renamed_17 : decode cX1_renamed 17 = .ok (.iand, 1) := by decide +kernel
theorem dX1_renamed_18 : decode cX1_renamed 18 = .ok (.aload_n 0, 1) := by decide +kernel
theorem dX1_renamed_19 : decode cX1_renamed 19 = .ok (.getfield 45, 3) := by decide +kernel
theorem dX1_renamed_22 : decode cX1_renamed 22 = .ok (.iload 4, 2) := by decide +kernel
theorem dX1_renamed_24 : decode cX1_renamed 24 = .ok (.iaload, 1) := by decide +kernel
theorem dX1_renamed_25 : decode cX1_renamed 25 = .ok (.ishl, 1) := by decide +kernel
theorem dX1_renamed_26 : decode cX1_renamed 26 = .ok (.ior, 1) := by decide +kernel
theorem dX1_renamed_27 : decode cX1_renamed 27 = .ok (.istore_n 3, 1) := by decide +kernel
theorem dX1_renamed_28 : decode cX1_renamed 28 = .ok (.iinc 4 1, 3) := by decide +kernel
theorem dX1_renamed_31 : decode cX1_renamed 31 = .ok (.goto (-26), 3) := by decide +kernel
theorem dX1_renamed_34 : decode cX1_renamed 34 = .ok (.iload_n 3, 1) := by decide +kernel
theorem dX1_renamed_35 : decode cX1_renamed 35 = .ok (.iload_n 2, 1) := by decide +kernel
theorem dX1_renamed_36 : decode cX1_renamed 36 = .ok (.ixor, 1) := by decide +kernel
theorem dX1_renamed_37 : decode cX1_renamed 37 = .ok (.ireturn, 1) := by decide +kernel
set_option maxRecDepth 20000 in
theorem ggX1_ways_X1_renames : GoodIn wsX1_ways wsX1_renames := goodIn_r _ [6, 7, 15, 16, 17, 18, 19, 20, 21, 22, 23, 24, 25, 26, 27, 28, 29, 30, 31] (by decide +kernel) (by decide +kernel)
set_option maxRecDepth 20000 in
theorem gX1_ways_X1_renames : GoodIn wsX1_ways (wsV RX1 124 RX1 yX1_renames wsX1_renames) := goodIn_app (goodIn_of _ (by decide +kernel)) ggX1_ways_X1_renames
set_option maxRecDepth 20000 in
theorem ggX1_ways_X1_turned : GoodIn wsX1_ways wsX1_turned := goodIn_r _ [10] (by decide +kernel) (by decide +kernel)
set_option maxRecDepth 20000 in
theorem gX1_ways_X1_turned : GoodIn wsX1_ways (va_wsS RX1 127 yX1_turned wsX1_turned) := goodIn_app (goodIn_of _ (by decide +kernel)) ggX1_ways_X1_turned
set_option maxRecDepth 20000 in
theorem ggX1_ways_X1_renamed : GoodIn wsX1_ways wsX1_renamed := goodIn_r _ [14, 7, 15, 16, 17, 18, 19, 20, 21, 22, 23, 24, 25, 26, 27, 28, 29, 30, 31] (by decide +kernel) (by decide +kernel)
set_option maxRecDepth 20000 in
theorem gX1_ways_X1_renamed : GoodIn wsX1_ways (wsV RX1 130 RX1 yX1_renamed wsX1_renamed) := goodIn_app (goodIn_of _ (by decide +kernel)) ggX1_ways_X1_renamed
theorem dX1_ways_0 : decode cX1_ways 0 = .ok (.iconst 0, 1) := by decide +kernel
theorem dX1_ways_1 : decode cX1_ways 1 = .ok (.istore_n 2, 1) := by decide +kernel
theorem dX1_ways_2 : decode cX1_ways 2 = .ok (.iconst 0, 1) := by decide +kernel
theorem dX1_ways_3 : decode cX1_ways 3 = .ok (.istore_n 3, 1) := by decide +kernel
theorem dX1_ways_4 : decode cX1_ways 4 = .ok (.iload_n 3, 1) := by decide +kernel
theorem dX1_ways_5 : decode cX1_ways 5 = .ok (.sipush 256, 3) := by decide +kernel
theorem dX1_ways_8 : decode cX1_ways 8 = .ok (.if_icmp .ge 144, 3) := by decide +kernel
theorem dX1_ways_11 : decode cX1_ways 11 = .ok (.aload_n 0, 1) := by decide +kernel
theorem dX1_ways_12 : decode cX1_ways 12 = .ok (.iload_n 3, 1) := by decide +kernel
theorem dX1_ways_13 : decode cX1_ways 13 = .ok (.invokevirtual 124, 3) := by decide +kernel
theorem dX1_ways_16 : decode cX1_ways 16 = .ok (.ifCond .eq 130, 3) := by decide +kernel
theorem dX1_ways_19 : decode cX1_ways 19 = .ok (.iconst 0, 1) := by decide +kernel
theorem dX1_ways_20 : decode cX1_ways 20 = .ok (.istore 4, 2) := by decide +kernel
theorem dX1_ways_22 : decode cX1_ways 22 = .ok (.iload 4, 2) := by decide +kernel
theorem dX1_ways_24 : decode cX1_ways 24 = .ok (.sipush 128, 3) := by decide +kernel
theorem dX1_ways_27 : decode cX1_ways 27 = .ok (.if_icmp .ge 119, 3) := by decide +kernel
theorem dX1_ways_30 : decode cX1_ways 30 = .ok (.iconst 1, 1) := by decide +kernel
theorem dX1_ways_31 : decode cX1_ways 31 = .ok (.istore 5, 2) := by decide +kernel
theorem dX1_ways_33 : decode cX1_ways 33 = .ok (.iconst 0, 1) := by decide +kernel
theorem dX1_ways_34 : decode cX1_ways 34 = .ok (.istore 6, 2) := by decide +kernel
theorem dX1_ways_36 : decode cX1_ways 36 = .ok (.iload 6, 2) := by decide +kernel
theorem dX1_ways_38 : decode cX1_ways 38 = .ok (.bipush 16, 2) := by decide +kernel
theorem dX1_ways_40 : decode cX1_ways 40 = .ok (.if_icmp .ge 87, 3) := by decide +kernel
theorem dX1_ways_43 : decode cX1_ways 43 = .ok (.iload 5, 2) := by decide +kernel
theorem dX1_ways_45 : decode cX1_ways 45 = .ok (.ifCond .eq 82, 3) := by decide +kernel
theorem dX1_ways_48 : decode cX1_ways 48 = .ok (.aload_n 1, 1) := by decide +kernel
theorem dX1_ways_49 : decode cX1_ways 49 = .ok (.iload 6, 2) := by decide +kernel
theorem dX1_ways_51 : decode cX1_ways 51 = .ok (.iload 4, 2) := by decide +kernel
theorem dX1_ways_53 : decode cX1_ways 53 = .ok (.bipush 16, 2) := by decide +kernel
theorem dX1_ways_55 : decode cX1_ways 55 = .ok (.idiv, 1) := by decide +kernel
theorem dX1_ways_56 : decode cX1_ways 56 = .ok (.invokestatic 127, 3) := by decide +kernel
theorem dX1_ways_59 : decode cX1_ways 59 = .ok (.iaload, 1) := by decide +kernel
theorem dX1_ways_60 : decode cX1_ways 60 = .ok (.istore 7, 2) := by decide +kernel
theorem dX1_ways_62 : decode cX1_ways 62 = .ok (.aload_n 0, 1) := by decide +kernel
theorem dX1_ways_63 : decode cX1_ways 63 = .ok (.getfield 7, 3) := by decide +kernel
theorem dX1_ways_66 : decode cX1_ways 66 = .ok (.iload 6, 2) := by decide +kernel
theorem dX1_ways_68 : decode cX1_ways 68 = .ok (.iaload, 1) := by decide +kernel
theorem dX1_ways_69 : decode cX1_ways 69 = .ok (.iconst (-1), 1) := by decide +kernel
theorem dX1_ways_70 : decode cX1_ways 70 = .ok (.if_icmp .ne 17, 3) := by decide +kernel
theorem dX1_ways_73 : decode cX1_ways 73 = .ok (.iload 7, 2) := by decide +kernel
theorem dX1_ways_75 : decode cX1_ways 75 = .ok (.iconst (-1), 1) := by decide +kernel
theorem dX1_ways_76 : decode cX1_ways 76 = .ok (.if_icmp .ne 7, 3) := by decide +kernel
theorem dX1_ways_79 : decode cX1_ways 79 = .ok (.iconst 1, 1) := by decide +kernel
theorem dX1_ways_80 : decode cX1_ways 80 = .ok (.goto 39, 3) := by decide +kernel
theorem dX1_ways_83 : decode cX1_ways 83 = .ok (.iconst 0, 1) := by decide +kernel
theorem dX1_ways_84 : decode cX1_ways 84 = .ok (.goto 35, 3) := by decide +kernel
theorem dX1_ways_87 : decode cX1_ways 87 = .ok (.iload 7, 2) := by decide +kernel
theorem dX1_ways_89 : decode cX1_ways 89 = .ok (.iconst (-1), 1) := by decide +kernel
theorem dX1_ways_90 : decode cX1_ways 90 = .ok (.if_icmp .eq 28, 3) := by decide +kernel
theorem dX1_ways_93 : decode cX1_ways 93 = .ok (.iload 7, 2) := by decide +kernel
theorem dX1_ways_95 : decode cX1_ways 95 = .ok (.aload_n 0, 1) := by decide +kernel
theorem dX1_ways_96 : decode cX1_ways 96 = .ok (.aload_n 0, 1) := by decide +kernel
theorem dX1_ways_97 : decode cX1_ways 97 = .ok (.getfield 7, 3) := by decide +kernel
theorem dX1_ways_100 : decode cX1_ways 100 = .ok (.iload 6, 2) := by decide +kernel
theorem dX1_ways_102 : decode cX1_ways 102 = .ok (.iaload, 1) := by decide +kernel
theorem dX1_ways_103 : decode cX1_ways 103 = .ok (.iload 4, 2) := by decide +kernel
theorem dX1_ways_105 : decode cX1_ways 105 = .ok (.bipush 16, 2) := by decide +kernel
theorem dX1_ways_107 : decode cX1_ways 107 = .ok (.irem, 1) := by decide +kernel
theorem dX1_ways_108 : decode cX1_ways 108 = .ok (.invokevirtual 130, 3) := by decide +kernel
theorem dX1_ways_111 : decode cX1_ways 111 = .ok (.if_icmp .ne 7, 3) := by decide +kernel
theorem dX1_ways_114 : decode cX1_ways 114 = .ok (.iconst 1, 1) := by decide +kernel
theorem dX1_ways_115 : decode cX1_ways 115 = .ok (.goto 4, 3) := by decide +kernel
theorem dX1_ways_118 : decode cX1_ways 118 = .ok (.iconst 0, 1) := by decide +kernel
theorem dX1_ways_119 : decode cX1_ways 119 = .ok (.istore 5, 2) := by decide +kernel
theorem dX1_ways_121 : decode cX1_ways 121 = .ok (.iinc 6 1, 3) := by decide +kernel
theorem dX1_ways_124 : decode cX1_ways 124 = .ok (.goto (-88), 3) := by decide +kernel
theorem dX1_ways_127 : decode cX1_ways 127 = .ok (.iload_n 2, 1) := by decide +kernel
theorem dX1_ways_128 : decode cX1_ways 128 = .ok (.iload 5, 2) := by decide +kernel
theorem dX1_ways_130 : decode cX1_ways 130 = .ok (.ifCond .eq 7, 3) := by decide +kernel
theorem dX1_ways_133 : decode cX1_ways 133 = .ok (.iconst 1, 1) := by decide +kernel
theorem dX1_ways_134 : decode cX1_ways 134 = .ok (.goto 4, 3) := by decide +kernel
theorem dX1_ways_137 : decode cX1_ways 137 = .ok (.iconst 0, 1) := by decide +kernel
theorem dX1_ways_138 : decode cX1_ways 138 = .ok (.iadd, 1) := by decide +kernel
theorem dX1_ways_139 : decode cX1_ways 139 = .ok (.istore_n 2, 1) := by decide +kernel
theorem dX1_ways_140 : decode cX1_ways 140 = .ok (.iinc 4 1, 3) := by decide +kernel
theorem dX1_ways_143 : decode cX1_ways 143 = .ok (.goto (-121), 3) := by decide +kernel
theorem dX1_ways_146 : decode cX1_ways 146 = .ok (.iinc 3 1, 3) := by decide +kernel
theorem dX1_ways_149 : decode cX1_ways 149 = .ok (.goto (-145), 3) := by decide +kernel
theorem dX1_ways_152 : decode cX1_ways 152 = .ok (.iload_n 2, 1) := by decide +kernel
theorem dX1_ways_153 : decode cX1_ways 153 = .ok (.ireturn, 1) := by decide +kernel
set_option maxRecDepth 20000 in
theorem ggX1_isAlike_X1_fails : GoodIn wsX1_isAlike wsX1_fails := goodIn_r _ [7, 8, 26, 27, 28, 29, 30, 31, 32, 33, 34, 35, 36, 37, 38, 39, 40, 41, 42] (by decide +kernel) (by decide +kernel)
set_option maxRecDepth 20000 in
theorem gX1_isAlike_X1_fails : GoodIn wsX1_isAlike (wsV RX1 80 RX1 yX1_fails wsX1_fails) := goodIn_app (goodIn_of _ (by decide +kernel)) ggX1_isAlike_X1_fails
set_option maxRecDepth 20000 in
theorem ggX1_isAlike_X1_ways : GoodIn wsX1_isAlike wsX1_ways := goodIn_r _ [12, 13, 14, 15, 16, 6, 17, 18, 19, 20, 21, 22, 23, 24, 25, 26, 27, 28, 29, 30, 31, 32, 33, 34, 35, 36, 37, 38, 39, 40, 41, 42] (by decide +kernel) (by decide +kernel)
set_option maxRecDepth 20000 in
theorem gX1_isAlike_X1_ways : GoodIn wsX1_isAlike (wsV RX1 133 RX1 yX1_ways wsX1_ways) := goodIn_app (goodIn_of _ (by decide +kernel)) ggX1_isAlike_X1_ways
theorem dX1_isAlike_0 : decode cX1_isAlike 0 = .ok (.aload_n 0, 1) := by decide +kernel
theorem dX1_isAlike_1 : decode cX1_isAlike 1 = .ok (.aload_n 0, 1) := by decide +kernel
theorem dX1_isAlike_2 : decode cX1_isAlike 2 = .ok (.getfield 121, 3) := by decide +kernel
theorem dX1_isAlike_5 : decode cX1_isAlike 5 = .ok (.ifCond .eq 7, 3) := by decide +kernel
theorem dX1_isAlike_8 : decode cX1_isAlike 8 = .ok (.iconst 0, 1) := by decide +kernel
theorem dX1_isAlike_9 : decode cX1_isAlike 9 = .ok (.goto 4, 3) := by decide +kernel
theorem dX1_isAlike_12 : decode cX1_isAlike 12 = .ok (.iconst 1, 1) := by decide +kernel
theorem dX1_isAlike_13 : decode cX1_isAlike 13 = .ok (.invokevirtual 80, 3) := by decide +kernel
theorem dX1_isAlike_16 : decode cX1_isAlike 16 = .ok (.ifCond .ne 18, 3) := by decide +kernel
theorem dX1_isAlike_19 : decode cX1_isAlike 19 = .ok (.aload_n 0, 1) := by decide +kernel
theorem dX1_isAlike_20 : decode cX1_isAlike 20 = .ok (.aload_n 0, 1) := by decide +kernel
theorem dX1_isAlike_21 : decode cX1_isAlike 21 = .ok (.getfield 27, 3) := by decide +kernel
theorem dX1_isAlike_24 : decode cX1_isAlike 24 = .ok (.invokevirtual 133, 3) := by decide +kernel
theorem dX1_isAlike_27 : decode cX1_isAlike 27 = .ok (.ifCond .le 7, 3) := by decide +kernel
theorem dX1_isAlike_30 : decode cX1_isAlike 30 = .ok (.iconst 1, 1) := by decide +kernel
theorem dX1_isAlike_31 : decode cX1_isAlike 31 = .ok (.goto 4, 3) := by decide +kernel
theorem dX1_isAlike_34 : decode cX1_isAlike 34 = .ok (.iconst 0, 1) := by decide +kernel
theorem dX1_isAlike_35 : decode cX1_isAlike 35 = .ok (.ireturn, 1) := by decide +kernel
set_option maxRecDepth 20000 in
theorem ggX1_symmetries_X1_ways : GoodIn wsX1_symmetries wsX1_ways := goodIn_r _ [6, 1, 7, 8, 9, 5, 10, 11, 12, 13, 14, 15, 16, 17, 18, 24, 25, 26, 27, 28, 29, 30, 31, 32, 33, 34, 35, 36, 37, 38, 39, 40] (by decide +kernel) (by decide +kernel)
set_option maxRecDepth 20000 in
theorem gX1_symmetries_X1_ways : GoodIn wsX1_symmetries (wsV RX1 133 RX1 yX1_ways wsX1_ways) := goodIn_app (goodIn_of _ (by decide +kernel)) ggX1_symmetries_X1_ways
set_option maxRecDepth 20000 in
theorem ggX1_symmetries_X1_tells : GoodIn wsX1_symmetries wsX1_tells := goodIn_r _ [22, 23, 24, 25, 26, 27, 28, 29, 30, 31, 32, 33, 34, 35, 36, 37, 38, 39, 40] (by decide +kernel) (by decide +kernel)
set_option maxRecDepth 20000 in
theorem gX1_symmetries_X1_tells : GoodIn wsX1_symmetries (wsV RX1 91 RX1 yX1_tells wsX1_tells) := goodIn_app (goodIn_of _ (by decide +kernel)) ggX1_symmetries_X1_tells
theorem dX1_symmetries_0 : decode cX1_symmetries 0 = .ok (.aload_n 0, 1) := by decide +kernel
theorem dX1_symmetries_1 : decode cX1_symmetries 1 = .ok (.aload_n 0, 1) := by decide +kernel
theorem dX1_symmetries_2 : decode cX1_symmetries 2 = .ok (.aload_n 0, 1) := by decide +kernel
theorem dX1_symmetries_3 : decode cX1_symmetries 3 = .ok (.getfield 7, 3) := by decide +kernel
theorem dX1_symmetries_6 : decode cX1_symmetries 6 = .ok (.invokevirtual 133, 3) := by decide +kernel
theorem dX1_symmetries_9 : decode cX1_symmetries 9 = .ok (.invokevirtual 91, 3) := by decide +kernel
theorem dX1_symmetries_12 : decode cX1_symmetries 12 = .ok (.ireturn, 1) := by decide +kernel
