theorem dX6_spread_34 : decode cX6_spread 34 = .ok (.goto (-30), 3) := by decide +kernel
theorem dX6_spread_37 : decode cX6_spread 37 = .ok (.iload_n 2, 1) := by decide +kernel
theorem dX6_spread_38 : decode cX6_spread 38 = .ok (.ireturn, 1) := by decide +kernel
theorem dX6_turn_0 : decode cX6_turn 0 = .ok (.iload_n 0, 1) := by decide +kernel
theorem dX6_turn_1 : decode cX6_turn 1 = .ok (.iconst 1, 1) := by decide +kernel
theorem dX6_turn_2 : decode cX6_turn 2 = .ok (.iand, 1) := by decide +kernel
theorem dX6_turn_3 : decode cX6_turn 3 = .ok (.iconst 1, 1) := by decide +kernel
theorem dX6_turn_4 : decode cX6_turn 4 = .ok (.if_icmp .ne 9, 3) := by decide +kernel
theorem dX6_turn_7 : decode cX6_turn 7 = .ok (.iconst 1, 1) := by decide +kernel
theorem dX6_turn_8 : decode cX6_turn 8 = .ok (.iload_n 1, 1) := by decide +kernel
theorem dX6_turn_9 : decode cX6_turn 9 = .ok (.isub, 1) := by decide +kernel
theorem dX6_turn_10 : decode cX6_turn 10 = .ok (.goto 4, 3) := by decide +kernel
theorem dX6_turn_13 : decode cX6_turn 13 = .ok (.iload_n 1, 1) := by decide +kernel
theorem dX6_turn_14 : decode cX6_turn 14 = .ok (.ireturn, 1) := by decide +kernel
set_option maxRecDepth 20000 in
theorem ggX6_told_X6_isInput : GoodIn wsX6_told wsX6_isInput := goodIn_r _ [9, 2, 13, 14, 15, 16, 17, 18, 19, 20, 21, 22, 23, 24, 25, 26, 27, 28, 29, 30, 31, 32, 33, 34, 35, 36, 37, 38, 39] (by decide +kernel) (by decide +kernel)
set_option maxRecDepth 20000 in
theorem gX6_told_X6_isInput : GoodIn wsX6_told (wsV RX6 111 RX6 yX6_isInput wsX6_isInput) := goodIn_app (goodIn_of _ (by decide +kernel)) ggX6_told_X6_isInput
set_option maxRecDepth 20000 in
theorem ggX6_told_X6_turn : GoodIn wsX6_told wsX6_turn := goodIn_r _ [12] (by decide +kernel) (by decide +kernel)
set_option maxRecDepth 20000 in
theorem gX6_told_X6_turn : GoodIn wsX6_told (va_wsS RX6 131 yX6_turn wsX6_turn) := goodIn_app (goodIn_of _ (by decide +kernel)) ggX6_told_X6_turn
theorem dX6_told_0 : decode cX6_told 0 = .ok (.iconst 0, 1) := by decide +kernel
theorem dX6_told_1 : decode cX6_told 1 = .ok (.istore 4, 2) := by decide +kernel
theorem dX6_told_3 : decode cX6_told 3 = .ok (.iload 4, 2) := by decide +kernel
theorem dX6_told_5 : decode cX6_told 5 = .ok (.iload_n 1, 1) := by decide +kernel
theorem dX6_told_6 : decode cX6_told 6 = .ok (.if_icmp .gt 128, 3) := by decide +kernel
theorem dX6_told_9 : decode cX6_told 9 = .ok (.aload_n 0, 1) := by decide +kernel
theorem dX6_told_10 : decode cX6_told 10 = .ok (.getfield 63, 3) := by decide +kernel
theorem dX6_told_13 : decode cX6_told 13 = .ok (.iload 4, 2) := by decide +kernel
theorem dX6_told_15 : decode cX6_told 15 = .ok (.aload_n 0, 1) := by decide +kernel
theorem dX6_told_16 : decode cX6_told 16 = .ok (.iload 4, 2) := by decide +kernel
theorem dX6_told_18 : decode cX6_told 18 = .ok (.invokevirtual 111, 3) := by decide +kernel
theorem dX6_told_21 : decode cX6_told 21 = .ok (.ifCond .eq 7, 3) := by decide +kernel
theorem dX6_told_24 : decode cX6_told 24 = .ok (.iconst 0, 1) := by decide +kernel
theorem dX6_told_25 : decode cX6_told 25 = .ok (.goto 52, 3) := by decide +kernel
theorem dX6_told_28 : decode cX6_told 28 = .ok (.aload_n 0, 1) := by decide +kernel
theorem dX6_told_29 : decode cX6_told 29 = .ok (.getfield 7, 3) := by decide +kernel
theorem dX6_told_32 : decode cX6_told 32 = .ok (.iload 4, 2) := by decide +kernel
theorem dX6_told_34 : decode cX6_told 34 = .ok (.iaload, 1) := by decide +kernel
theorem dX6_told_35 : decode cX6_told 35 = .ok (.aload_n 0, 1) := by decide +kernel
theorem dX6_told_36 : decode cX6_told 36 = .ok (.getfield 63, 3) := by decide +kernel
theorem dX6_told_39 : decode cX6_told 39 = .ok (.aload_n 0, 1) := by decide +kernel
theorem dX6_told_40 : decode cX6_told 40 = .ok (.getfield 7, 3) := by decide +kernel
theorem dX6_told_43 : decode cX6_told 43 = .ok (.iload 4, 2) := by decide +kernel
theorem dX6_told_45 : decode cX6_told 45 = .ok (.iaload, 1) := by decide +kernel
theorem dX6_told_46 : decode cX6_told 46 = .ok (.iconst 2, 1) := by decide +kernel
theorem dX6_told_47 : decode cX6_told 47 = .ok (.idiv, 1) := by decide +kernel
theorem dX6_told_48 : decode cX6_told 48 = .ok (.iaload, 1) := by decide +kernel
theorem dX6_told_49 : decode cX6_told 49 = .ok (.invokestatic 131, 3) := by decide +kernel
theorem dX6_told_52 : decode cX6_told 52 = .ok (.aload_n 0, 1) := by decide +kernel
theorem dX6_told_53 : decode cX6_told 53 = .ok (.getfield 13, 3) := by decide +kernel
theorem dX6_told_56 : decode cX6_told 56 = .ok (.iload 4, 2) := by decide +kernel
theorem dX6_told_58 : decode cX6_told 58 = .ok (.iaload, 1) := by decide +kernel
theorem dX6_told_59 : decode cX6_told 59 = .ok (.aload_n 0, 1) := by decide +kernel
theorem dX6_told_60 : decode cX6_told 60 = .ok (.getfield 63, 3) := by decide +kernel
theorem dX6_told_63 : decode cX6_told 63 = .ok (.aload_n 0, 1) := by decide +kernel
theorem dX6_told_64 : decode cX6_told 64 = .ok (.getfield 13, 3) := by decide +kernel
theorem dX6_told_67 : decode cX6_told 67 = .ok (.iload 4, 2) := by decide +kernel
theorem dX6_told_69 : decode cX6_told 69 = .ok (.iaload, 1) := by decide +kernel
theorem dX6_told_70 : decode cX6_told 70 = .ok (.iconst 2, 1) := by decide +kernel
theorem dX6_told_71 : decode cX6_told 71 = .ok (.idiv, 1) := by decide +kernel
theorem dX6_told_72 : decode cX6_told 72 = .ok (.iaload, 1) := by decide +kernel
theorem dX6_told_73 : decode cX6_told 73 = .ok (.invokestatic 131, 3) := by decide +kernel
theorem dX6_told_76 : decode cX6_told 76 = .ok (.iand, 1) := by decide +kernel
theorem dX6_told_77 : decode cX6_told 77 = .ok (.iastore, 1) := by decide +kernel
theorem dX6_told_78 : decode cX6_told 78 = .ok (.iconst 0, 1) := by decide +kernel
theorem dX6_told_79 : decode cX6_told 79 = .ok (.istore 5, 2) := by decide +kernel
theorem dX6_told_81 : decode cX6_told 81 = .ok (.iload 5, 2) := by decide +kernel
theorem dX6_told_83 : decode cX6_told 83 = .ok (.iload_n 2, 1) := by decide +kernel
theorem dX6_told_84 : decode cX6_told 84 = .ok (.if_icmp .ge 44, 3) := by decide +kernel
theorem dX6_told_87 : decode cX6_told 87 = .ok (.aload_n 0, 1) := by decide +kernel
theorem dX6_told_88 : decode cX6_told 88 = .ok (.getfield 63, 3) := by decide +kernel
theorem dX6_told_91 : decode cX6_told 91 = .ok (.iload 4, 2) := by decide +kernel
theorem dX6_told_93 : decode cX6_told 93 = .ok (.aload_n 0, 1) := by decide +kernel
theorem dX6_told_94 : decode cX6_told 94 = .ok (.getfield 66, 3) := by decide +kernel
theorem dX6_told_97 : decode cX6_told 97 = .ok (.iload 5, 2) := by decide +kernel
theorem dX6_told_99 : decode cX6_told 99 = .ok (.iaload, 1) := by decide +kernel
theorem dX6_told_100 : decode cX6_told 100 = .ok (.iload 4, 2) := by decide +kernel
theorem dX6_told_102 : decode cX6_told 102 = .ok (.if_icmp .ne 12, 3) := by decide +kernel
theorem dX6_told_105 : decode cX6_told 105 = .ok (.iload_n 3, 1) := by decide +kernel
theorem dX6_told_106 : decode cX6_told 106 = .ok (.iload 5, 2) := by decide +kernel
theorem dX6_told_108 : decode cX6_told 108 = .ok (.ishr, 1) := by decide +kernel
theorem dX6_told_109 : decode cX6_told 109 = .ok (.iconst 1, 1) := by decide +kernel
theorem dX6_told_110 : decode cX6_told 110 = .ok (.iand, 1) := by decide +kernel
theorem dX6_told_111 : decode cX6_told 111 = .ok (.goto 10, 3) := by decide +kernel
theorem dX6_told_114 : decode cX6_told 114 = .ok (.aload_n 0, 1) := by decide +kernel
theorem dX6_told_115 : decode cX6_told 115 = .ok (.getfield 63, 3) := by decide +kernel
theorem dX6_told_118 : decode cX6_told 118 = .ok (.iload 4, 2) := by decide +kernel
theorem dX6_told_120 : decode cX6_told 120 = .ok (.iaload, 1) := by decide +kernel
theorem dX6_told_121 : decode cX6_told 121 = .ok (.iastore, 1) := by decide +kernel
theorem dX6_told_122 : decode cX6_told 122 = .ok (.iinc 5 1, 3) := by decide +kernel
theorem dX6_told_125 : decode cX6_told 125 = .ok (.goto (-44), 3) := by decide +kernel
theorem dX6_told_128 : decode cX6_told 128 = .ok (.iinc 4 1, 3) := by decide +kernel
theorem dX6_told_131 : decode cX6_told 131 = .ok (.goto (-128), 3) := by decide +kernel
theorem dX6_told_134 : decode cX6_told 134 = .ok (.aload_n 0, 1) := by decide +kernel
theorem dX6_told_135 : decode cX6_told 135 = .ok (.getfield 63, 3) := by decide +kernel
theorem dX6_told_138 : decode cX6_told 138 = .ok (.iload_n 1, 1) := by decide +kernel
theorem dX6_told_139 : decode cX6_told 139 = .ok (.iaload, 1) := by decide +kernel
theorem dX6_told_140 : decode cX6_told 140 = .ok (.ireturn, 1) := by decide +kernel
set_option maxRecDepth 20000 in
theorem ggX6_functionOf_X6_spread : GoodIn wsX6_functionOf wsX6_spread := goodIn_r _ [5, 6, 7, 22, 23, 24, 25, 26, 27, 28, 29, 30, 31, 32, 33, 34, 35, 36, 37, 38, 39, 40, 41, 42, 43, 44, 45, 46, 47, 48] (by decide +kernel) (by decide +kernel)
set_option maxRecDepth 20000 in
theorem gX6_functionOf_X6_spread : GoodIn wsX6_functionOf (wsV RX6 135 RX6 yX6_spread wsX6_spread) := goodIn_app (goodIn_of _ (by decide +kernel)) ggX6_functionOf_X6_spread
set_option maxRecDepth 20000 in
theorem ggX6_functionOf_X6_told : GoodIn wsX6_functionOf wsX6_told := goodIn_r _ [11, 12, 13, 14, 7, 15, 16, 17, 4, 18, 19, 20, 21, 22, 23, 24, 25, 26, 27, 28, 29, 30, 31, 32, 33, 34, 35, 36, 37, 38, 39, 40, 41, 42, 43, 44, 45, 46, 47, 48] (by decide +kernel) (by decide +kernel)
set_option maxRecDepth 20000 in
theorem gX6_functionOf_X6_told : GoodIn wsX6_functionOf (wsV RX6 138 RX6 yX6_told wsX6_told) := goodIn_app (goodIn_of _ (by decide +kernel)) ggX6_functionOf_X6_told
theorem dX6_functionOf_0 : decode cX6_functionOf 0 = .ok (.aload_n 0, 1) := by decide +kernel
theorem dX6_functionOf_1 : decode cX6_functionOf 1 = .ok (.iload_n 2, 1) := by decide +kernel
theorem dX6_functionOf_2 : decode cX6_functionOf 2 = .ok (.invokevirtual 135, 3) := by decide +kernel
theorem dX6_functionOf_5 : decode cX6_functionOf 5 = .ok (.istore_n 3, 1) := by decide +kernel
theorem dX6_functionOf_6 : decode cX6_functionOf 6 = .ok (.iconst 0, 1) := by decide +kernel
theorem dX6_functionOf_7 : decode cX6_functionOf 7 = .ok (.istore 4, 2) := by decide +kernel
theorem dX6_functionOf_9 : decode cX6_functionOf 9 = .ok (.iconst 0, 1) := by decide +kernel
theorem dX6_functionOf_10 : decode cX6_functionOf 10 = .ok (.istore 5, 2) := by decide +kernel
theorem dX6_functionOf_12 : decode cX6_functionOf 12 = .ok (.iload 5, 2) := by decide +kernel
theorem dX6_functionOf_14 : decode cX6_functionOf 14 = .ok (.iconst 1, 1) := by decide +kernel
theorem dX6_functionOf_15 : decode cX6_functionOf 15 = .ok (.iload_n 3, 1) := by decide +kernel
theorem dX6_functionOf_16 : decode cX6_functionOf 16 = .ok (.ishl, 1) := by decide +kernel
theorem dX6_functionOf_17 : decode cX6_functionOf 17 = .ok (.if_icmp .ge 25, 3) := by decide +kernel
theorem dX6_functionOf_20 : decode cX6_functionOf 20 = .ok (.iload 4, 2) := by decide +kernel
theorem dX6_functionOf_22 : decode cX6_functionOf 22 = .ok (.aload_n 0, 1) := by decide +kernel
theorem dX6_functionOf_23 : decode cX6_functionOf 23 = .ok (.iload_n 1, 1) := by decide +kernel
theorem dX6_functionOf_24 : decode cX6_functionOf 24 = .ok (.iload_n 3, 1) := by decide +kernel
theorem dX6_functionOf_25 : decode cX6_functionOf 25 = .ok (.iload 5, 2) := by decide +kernel
theorem dX6_functionOf_27 : decode cX6_functionOf 27 = .ok (.invokevirtual 138, 3) := by decide +kernel
theorem dX6_functionOf_30 : decode cX6_functionOf 30 = .ok (.iload 5, 2) := by decide +kernel
theorem dX6_functionOf_32 : decode cX6_functionOf 32 = .ok (.ishl, 1) := by decide +kernel
theorem dX6_functionOf_33 : decode cX6_functionOf 33 = .ok (.ior, 1) := by decide +kernel
theorem dX6_functionOf_34 : decode cX6_functionOf 34 = .ok (.istore 4, 2) := by decide +kernel
theorem dX6_functionOf_36 : decode cX6_functionOf 36 = .ok (.iinc 5 1, 3) := by decide +kernel
theorem dX6_functionOf_39 : decode cX6_functionOf 39 = .ok (.goto (-27), 3) := by decide +kernel
theorem dX6_functionOf_42 : decode cX6_functionOf 42 = .ok (.iload 4, 2) := by decide +kernel
theorem dX6_functionOf_44 : decode cX6_functionOf 44 = .ok (.ireturn, 1) := by decide +kernel
set_option maxRecDepth 20000 in
theorem ggX6_function_X6_isIn : GoodIn wsX6_function wsX6_isIn := goodIn_r _ [8] (by decide +kernel) (by decide +kernel)
set_option maxRecDepth 20000 in
theorem gX6_function_X6_isIn : GoodIn wsX6_function (va_wsS RX6 82 yX6_isIn wsX6_isIn) := goodIn_app (goodIn_of _ (by decide +kernel)) ggX6_function_X6_isIn
set_option maxRecDepth 20000 in
theorem ggX6_function_X6_cutsOf : GoodIn wsX6_function wsX6_cutsOf := goodIn_r _ [12, 13, 4, 14, 15, 16, 7, 17, 18, 37, 38, 39, 40, 41, 42, 43, 44, 45, 46, 47, 48, 49, 50, 51, 52, 53, 54, 55, 56, 57, 58, 59, 60, 61, 62, 63] (by decide +kernel) (by decide +kernel)
set_option maxRecDepth 20000 in
theorem gX6_function_X6_cutsOf : GoodIn wsX6_function (wsV RX6 124 RX6 yX6_cutsOf wsX6_cutsOf) := goodIn_app (goodIn_of _ (by decide +kernel)) ggX6_function_X6_cutsOf
set_option maxRecDepth 20000 in
theorem ggX6_function_X6_functionOf : GoodIn wsX6_function wsX6_functionOf := goodIn_r _ [22, 23, 24, 25, 7, 26, 1, 27, 28, 29, 30, 31, 32, 18, 33, 14, 15, 16, 17, 34, 35, 36, 37, 38, 39, 40, 41, 42, 43, 44, 45, 46, 47, 48, 49, 50, 51, 52, 53, 54, 55, 56, 57, 58, 59, 60, 61, 62, 63] (by decide +kernel) (by decide +kernel)
set_option maxRecDepth 20000 in
theorem gX6_function_X6_functionOf : GoodIn wsX6_function (wsV RX6 142 RX6 yX6_functionOf wsX6_functionOf) := goodIn_app (goodIn_of _ (by decide +kernel)) ggX6_function_X6_functionOf
theorem dX6_function_0 : decode cX6_function 0 = .ok (.aload_n 0, 1) := by decide +kernel
theorem dX6_function_1 : decode cX6_function 1 = .ok (.iload_n 1, 1) := by decide +kernel
theorem dX6_function_2 : decode cX6_function 2 = .ok (.aload_n 0, 1) := by decide +kernel
theorem dX6_function_3 : decode cX6_function 3 = .ok (.getfield 79, 3) := by decide +kernel
theorem dX6_function_6 : decode cX6_function 6 = .ok (.invokestatic 82, 3) := by decide +kernel
theorem dX6_function_9 : decode cX6_function 9 = .ok (.ifCond .eq 11, 3) := by decide +kernel
theorem dX6_function_12 : decode cX6_function 12 = .ok (.iload_n 2, 1) := by decide +kernel
theorem dX6_function_13 : decode cX6_function 13 = .ok (.ifCond .lt 7, 3) := by decide +kernel
theorem dX6_function_16 : decode cX6_function 16 = .ok (.iconst 0, 1) := by decide +kernel
theorem dX6_function_17 : decode cX6_function 17 = .ok (.goto 4, 3) := by decide +kernel
theorem dX6_function_20 : decode cX6_function 20 = .ok (.iconst 1, 1) := by decide +kernel
theorem dX6_function_21 : decode cX6_function 21 = .ok (.putfield 75, 3) := by decide +kernel
theorem dX6_function_24 : decode cX6_function 24 = .ok (.aload_n 0, 1) := by decide +kernel
theorem dX6_function_25 : decode cX6_function 25 = .ok (.getfield 75, 3) := by decide +kernel
theorem dX6_function_28 : decode cX6_function 28 = .ok (.ifCond .le 5, 3) := by decide +kernel
theorem dX6_function_31 : decode cX6_function 31 = .ok (.iconst 0, 1) := by decide +kernel
theorem dX6_function_32 : decode cX6_function 32 = .ok (.ireturn, 1) := by decide +kernel
theorem dX6_function_33 : decode cX6_function 33 = .ok (.iload_n 2, 1) := by decide +kernel
theorem dX6_function_34 : decode cX6_function 34 = .ok (.aload_n 0, 1) := by decide +kernel
theorem dX6_function_35 : decode cX6_function 35 = .ok (.iload_n 1, 1) := by decide +kernel
theorem dX6_function_36 : decode cX6_function 36 = .ok (.invokevirtual 124, 3) := by decide +kernel
theorem dX6_function_39 : decode cX6_function 39 = .ok (.if_icmp .ge 28, 3) := by decide +kernel
theorem dX6_function_42 : decode cX6_function 42 = .ok (.aload_n 0, 1) := by decide +kernel
theorem dX6_function_43 : decode cX6_function 43 = .ok (.iload_n 1, 1) := by decide +kernel
theorem dX6_function_44 : decode cX6_function 44 = .ok (.aload_n 0, 1) := by decide +kernel
theorem dX6_function_45 : decode cX6_function 45 = .ok (.getfield 44, 3) := by decide +kernel
theorem dX6_function_48 : decode cX6_function 48 = .ok (.sipush 5000, 3) := by decide +kernel
theorem dX6_function_51 : decode cX6_function 51 = .ok (.aload_n 0, 1) := by decide +kernel
theorem dX6_function_52 : decode cX6_function 52 = .ok (.getfield 37, 3) := by decide +kernel
theorem dX6_function_55 : decode cX6_function 55 = .ok (.iload_n 1, 1) := by decide +kernel
theorem dX6_function_56 : decode cX6_function 56 = .ok (.iaload, 1) := by decide +kernel
theorem dX6_function_57 : decode cX6_function 57 = .ok (.imul, 1) := by decide +kernel
theorem dX6_function_58 : decode cX6_function 58 = .ok (.iload_n 2, 1) := by decide +kernel
theorem dX6_function_59 : decode cX6_function 59 = .ok (.iadd, 1) := by decide +kernel
theorem dX6_function_60 : decode cX6_function 60 = .ok (.iaload, 1) := by decide +kernel
theorem dX6_function_61 : decode cX6_function 61 = .ok (.invokevirtual 142, 3) := by decide +kernel
theorem dX6_function_64 : decode cX6_function 64 = .ok (.goto 4, 3) := by decide +kernel
theorem dX6_function_67 : decode cX6_function 67 = .ok (.iconst (-1), 1) := by decide +kernel
theorem dX6_function_68 : decode cX6_function 68 = .ok (.ireturn, 1) := by decide +kernel
theorem dX6_cell_0 : decode cX6_cell 0 = .ok (.iload_n 1, 1) := by decide +kernel
theorem dX6_cell_1 : decode cX6_cell 1 = .ok (.iconst 1, 1) := by decide +kernel
theorem dX6_cell_2 : decode cX6_cell 2 = .ok (.if_icmp .lt 24, 3) := by decide +kernel
theorem dX6_cell_5 : decode cX6_cell 5 = .ok (.iload_n 1, 1) := by decide +kernel
theorem dX6_cell_6 : decode cX6_cell 6 = .ok (.iconst 3, 1) := by decide +kernel
theorem dX6_cell_7 : decode cX6_cell 7 = .ok (.if_icmp .gt 19, 3) := by decide +kernel
theorem dX6_cell_10 : decode cX6_cell 10 = .ok (.iload_n 3, 1) := by decide +kernel
theorem dX6_cell_11 : decode cX6_cell 11 = .ok (.iconst 1, 1) := by decide +kernel
theorem dX6_cell_12 : decode cX6_cell 12 = .ok (.if_icmp .lt 14, 3) := by decide +kernel
theorem dX6_cell_15 : decode cX6_cell 15 = .ok (.iload_n 3, 1) := by decide +kernel
theorem dX6_cell_16 : decode cX6_cell 16 = .ok (.sipush 1000, 3) := by decide +kernel
theorem dX6_cell_19 : decode cX6_cell 19 = .ok (.if_icmp .gt 7, 3) := by decide +kernel
theorem dX6_cell_22 : decode cX6_cell 22 = .ok (.iconst 1, 1) := by decide +kernel
theorem dX6_cell_23 : decode cX6_cell 23 = .ok (.goto 4, 3) := by decide +kernel
theorem dX6_cell_26 : decode cX6_cell 26 = .ok (.iconst 0, 1) := by decide +kernel
theorem dX6_cell_27 : decode cX6_cell 27 = .ok (.istore 4, 2) := by decide +kernel
theorem dX6_cell_29 : decode cX6_cell 29 = .ok (.iload 4, 2) := by decide +kernel
theorem dX6_cell_31 : decode cX6_cell 31 = .ok (.ifCond .eq 20, 3) := by decide +kernel
theorem dX6_cell_34 : decode cX6_cell 34 = .ok (.iload_n 2, 1) := by decide +kernel
theorem dX6_cell_35 : decode cX6_cell 35 = .ok (.ifCond .lt 16, 3) := by decide +kernel
theorem dX6_cell_38 : decode cX6_cell 38 = .ok (.iload_n 2, 1) := by decide +kernel
theorem dX6_cell_39 : decode cX6_cell 39 = .ok (.iconst 1, 1) := by decide +kernel
theorem dX6_cell_40 : decode cX6_cell 40 = .ok (.iconst 1, 1) := by decide +kernel
theorem dX6_cell_41 : decode cX6_cell 41 = .ok (.iload_n 1, 1) := by decide +kernel
theorem dX6_cell_42 : decode cX6_cell 42 = .ok (.ishl, 1) := by decide +kernel
theorem dX6_cell_43 : decode cX6_cell 43 = .ok (.ishl, 1) := by decide +kernel
theorem dX6_cell_44 : decode cX6_cell 44 = .ok (.if_icmp .ge 7, 3) := by decide +kernel
theorem dX6_cell_47 : decode cX6_cell 47 = .ok (.iconst 1, 1) := by decide +kernel
theorem dX6_cell_48 : decode cX6_cell 48 = .ok (.goto 4, 3) := by decide +kernel
theorem dX6_cell_51 : decode cX6_cell 51 = .ok (.iconst 0, 1) := by decide +kernel
theorem dX6_cell_52 : decode cX6_cell 52 = .ok (.istore 4, 2) := by decide +kernel
theorem dX6_cell_54 : decode cX6_cell 54 = .ok (.aload_n 0, 1) := by decide +kernel
theorem dX6_cell_55 : decode cX6_cell 55 = .ok (.aload_n 0, 1) := by decide +kernel
theorem dX6_cell_56 : decode cX6_cell 56 = .ok (.getfield 145, 3) := by decide +kernel
theorem dX6_cell_59 : decode cX6_cell 59 = .ok (.bipush 12, 2) := by decide +kernel
theorem dX6_cell_61 : decode cX6_cell 61 = .ok (.if_icmp .ne 7, 3) := by decide +kernel
theorem dX6_cell_64 : decode cX6_cell 64 = .ok (.iconst 1, 1) := by decide +kernel
theorem dX6_cell_65 : decode cX6_cell 65 = .ok (.goto 13, 3) := by decide +kernel
theorem dX6_cell_68 : decode cX6_cell 68 = .ok (.iload 4, 2) := by decide +kernel
theorem dX6_cell_70 : decode cX6_cell 70 = .ok (.ifCond .eq 7, 3) := by decide +kernel
theorem dX6_cell_73 : decode cX6_cell 73 = .ok (.iconst 0, 1) := by decide +kernel
theorem dX6_cell_74 : decode cX6_cell 74 = .ok (.goto 4, 3) := by decide +kernel
theorem dX6_cell_77 : decode cX6_cell 77 = .ok (.iconst 2, 1) := by decide +kernel
theorem dX6_cell_78 : decode cX6_cell 78 = .ok (.putfield 75, 3) := by decide +kernel
theorem dX6_cell_81 : decode cX6_cell 81 = .ok (.aload_n 0, 1) := by decide +kernel
theorem dX6_cell_82 : decode cX6_cell 82 = .ok (.getfield 75, 3) := by decide +kernel
theorem dX6_cell_85 : decode cX6_cell 85 = .ok (.ifCond .le 5, 3) := by decide +kernel
theorem dX6_cell_88 : decode cX6_cell 88 = .ok (.iconst 0, 1) := by decide +kernel
theorem dX6_cell_89 : decode cX6_cell 89 = .ok (.ireturn, 1) := by decide +kernel
theorem dX6_cell_90 : decode cX6_cell 90 = .ok (.aload_n 0, 1) := by decide +kernel
theorem dX6_cell_91 : decode cX6_cell 91 = .ok (.getfield 25, 3) := by decide +kernel
theorem dX6_cell_94 : decode cX6_cell 94 = .ok (.aload_n 0, 1) := by decide +kernel
theorem dX6_cell_95 : decode cX6_cell 95 = .ok (.getfield 145, 3) := by decide +kernel
theorem dX6_cell_98 : decode cX6_cell 98 = .ok (.iload_n 1, 1) := by decide +kernel
theorem dX6_cell_99 : decode cX6_cell 99 = .ok (.iastore, 1) := by decide +kernel
theorem dX6_cell_100 : decode cX6_cell 100 = .ok (.aload_n 0, 1) := by decide +kernel
theorem dX6_cell_101 : decode cX6_cell 101 = .ok (.getfield 28, 3) := by decide +kernel
theorem dX6_cell_104 : decode cX6_cell 104 = .ok (.aload_n 0, 1) := by decide +kernel
theorem dX6_cell_105 : decode cX6_cell 105 = .ok (.getfield 145, 3) := by decide +kernel
theorem dX6_cell_108 : decode cX6_cell 108 = .ok (.iload_n 2, 1) := by decide +kernel
theorem dX6_cell_109 : decode cX6_cell 109 = .ok (.iastore, 1) := by decide +kernel
theorem dX6_cell_110 : decode cX6_cell 110 = .ok (.aload_n 0, 1) := by decide +kernel
theorem dX6_cell_111 : decode cX6_cell 111 = .ok (.getfield 31, 3) := by decide +kernel
theorem dX6_cell_114 : decode cX6_cell 114 = .ok (.aload_n 0, 1) := by decide +kernel
theorem dX6_cell_115 : decode cX6_cell 115 = .ok (.getfield 145, 3) := by decide +kernel
theorem dX6_cell_118 : decode cX6_cell 118 = .ok (.iload_n 3, 1) := by decide +kernel
theorem dX6_cell_119 : decode cX6_cell 119 = .ok (.iastore, 1) := by decide +kernel
theorem dX6_cell_120 : decode cX6_cell 120 = .ok (.iconst 0, 1) := by decide +kernel
theorem dX6_cell_121 : decode cX6_cell 121 = .ok (.istore 5, 2) := by decide +kernel
theorem dX6_cell_123 : decode cX6_cell 123 = .ok (.iload 5, 2) := by decide +kernel
theorem dX6_cell_125 : decode cX6_cell 125 = .ok (.iconst 3, 1) := by decide +kernel
theorem dX6_cell_126 : decode cX6_cell 126 = .ok (.if_icmp .ge 24, 3) := by decide +kernel
theorem dX6_cell_129 : decode cX6_cell 129 = .ok (.aload_n 0, 1) := by decide +kernel
theorem dX6_cell_130 : decode cX6_cell 130 = .ok (.getfield 34, 3) := by decide +kernel
theorem dX6_cell_133 : decode cX6_cell 133 = .ok (.iconst 3, 1) := by decide +kernel
theorem dX6_cell_134 : decode cX6_cell 134 = .ok (.aload_n 0, 1) := by decide +kernel
theorem dX6_cell_135 : decode cX6_cell 135 = .ok (.getfield 145, 3) := by decide +kernel
theorem dX6_cell_138 : decode cX6_cell 138 = .ok (.imul, 1) := by decide +kernel
theorem dX6_cell_139 : decode cX6_cell 139 = .ok (.iload 5, 2) := by decide +kernel
theorem dX6_cell_141 : decode cX6_cell 141 = .ok (.iadd, 1) := by decide +kernel
theorem dX6_cell_142 : decode cX6_cell 142 = .ok (.iconst 0, 1) := by decide +kernel
theorem dX6_cell_143 : decode cX6_cell 143 = .ok (.iastore, 1) := by decide +kernel
theorem dX6_cell_144 : decode cX6_cell 144 = .ok (.iinc 5 1, 3) := by decide +kernel
theorem dX6_cell_147 : decode cX6_cell 147 = .ok (.goto (-24), 3) := by decide +kernel
theorem dX6_cell_150 : decode cX6_cell 150 = .ok (.aload_n 0, 1) := by decide +kernel
theorem dX6_cell_151 : decode cX6_cell 151 = .ok (.dup, 1) := by decide +kernel
theorem dX6_cell_152 : decode cX6_cell 152 = .ok (.getfield 145, 3) := by decide +kernel
theorem dX6_cell_155 : decode cX6_cell 155 = .ok (.iconst 1, 1) := by decide +kernel
theorem dX6_cell_156 : decode cX6_cell 156 = .ok (.iadd, 1) := by decide +kernel
theorem dX6_cell_157 : decode cX6_cell 157 = .ok (.putfield 145, 3) := by decide +kernel
theorem dX6_cell_160 : decode cX6_cell 160 = .ok (.aload_n 0, 1) := by decide +kernel
theorem dX6_cell_161 : decode cX6_cell 161 = .ok (.iconst 1, 1) := by decide +kernel
theorem dX6_cell_162 : decode cX6_cell 162 = .ok (.putfield 89, 3) := by decide +kernel
theorem dX6_cell_165 : decode cX6_cell 165 = .ok (.aload_n 0, 1) := by decide +kernel
theorem dX6_cell_166 : decode cX6_cell 166 = .ok (.getfield 145, 3) := by decide +kernel
theorem dX6_cell_169 : decode cX6_cell 169 = .ok (.iconst 1, 1) := by decide +kernel
theorem dX6_cell_170 : decode cX6_cell 170 = .ok (.isub, 1) := by decide +kernel
theorem dX6_cell_171 : decode cX6_cell 171 = .ok (.ireturn, 1) := by decide +kernel
set_option maxRecDepth 20000 in
theorem ggX6_delay_X6_isIn : GoodIn wsX6_delay wsX6_isIn := goodIn_r _ [9] (by decide +kernel) (by decide +kernel)
set_option maxRecDepth 20000 in
theorem gX6_delay_X6_isIn : GoodIn wsX6_delay (va_wsS RX6 82 yX6_isIn wsX6_isIn) := goodIn_app (goodIn_of _ (by decide +kernel)) ggX6_delay_X6_isIn
theorem dX6_delay_0 : decode cX6_delay 0 = .ok (.iload_n 1, 1) := by decide +kernel
theorem dX6_delay_1 : decode cX6_delay 1 = .ok (.aload_n 0, 1) := by decide +kernel
theorem dX6_delay_2 : decode cX6_delay 2 = .ok (.getfield 145, 3) := by decide +kernel
theorem dX6_delay_5 : decode cX6_delay 5 = .ok (.invokestatic 82, 3) := by decide +kernel
theorem dX6_delay_8 : decode cX6_delay 8 = .ok (.ifCond .eq 35, 3) := by decide +kernel
theorem dX6_delay_11 : decode cX6_delay 11 = .ok (.iload_n 2, 1) := by decide +kernel
theorem dX6_delay_12 : decode cX6_delay 12 = .ok (.iload_n 1, 1) := by decide +kernel
theorem dX6_delay_13 : decode cX6_delay 13 = .ok (.aload_n 0, 1) := by decide +kernel
theorem dX6_delay_14 : decode cX6_delay 14 = .ok (.getfield 145, 3) := by decide +kernel
theorem dX6_delay_17 : decode cX6_delay 17 = .ok (.invokestatic 82, 3) := by decide +kernel
theorem dX6_delay_20 : decode cX6_delay 20 = .ok (.ifCond .eq 12, 3) := by decide +kernel
theorem dX6_delay_23 : decode cX6_delay 23 = .ok (.aload_n 0, 1) := by decide +kernel
theorem dX6_delay_24 : decode cX6_delay 24 = .ok (.getfield 25, 3) := by decide +kernel
theorem dX6_delay_27 : decode cX6_delay 27 = .ok (.iload_n 1, 1) := by decide +kernel
theorem dX6_delay_28 : decode cX6_delay 28 = .ok (.iaload, 1) := by decide +kernel
theorem dX6_delay_29 : decode cX6_delay 29 = .ok (.goto 4, 3) := by decide +kernel
theorem dX6_delay_32 : decode cX6_delay 32 = .ok (.iconst 0, 1) := by decide +kernel
theorem dX6_delay_33 : decode cX6_delay 33 = .ok (.invokestatic 82, 3) := by decide +kernel
theorem dX6_delay_36 : decode cX6_delay 36 = .ok (.ifCond .eq 7, 3) := by decide +kernel
theorem dX6_delay_39 : decode cX6_delay 39 = .ok (.iconst 1, 1) := by decide +kernel
theorem dX6_delay_40 : decode cX6_delay 40 = .ok (.goto 4, 3) := by decide +kernel
theorem dX6_delay_43 : decode cX6_delay 43 = .ok (.iconst 0, 1) := by decide +kernel
theorem dX6_delay_44 : decode cX6_delay 44 = .ok (.istore 4, 2) := by decide +kernel
theorem dX6_delay_46 : decode cX6_delay 46 = .ok (.aload_n 0, 1) := by decide +kernel
theorem dX6_delay_47 : decode cX6_delay 47 = .ok (.iload 4, 2) := by decide +kernel
theorem dX6_delay_49 : decode cX6_delay 49 = .ok (.ifCond .ne 7, 3) := by decide +kernel
theorem dX6_delay_52 : decode cX6_delay 52 = .ok (.iconst 1, 1) := by decide +kernel
theorem dX6_delay_53 : decode cX6_delay 53 = .ok (.goto 19, 3) := by decide +kernel
theorem dX6_delay_56 : decode cX6_delay 56 = .ok (.iload_n 3, 1) := by decide +kernel
theorem dX6_delay_57 : decode cX6_delay 57 = .ok (.ifCond .lt 14, 3) := by decide +kernel
theorem dX6_delay_60 : decode cX6_delay 60 = .ok (.iload_n 3, 1) := by decide +kernel
theorem dX6_delay_61 : decode cX6_delay 61 = .ok (.sipush 1000, 3) := by decide +kernel
theorem dX6_delay_64 : decode cX6_delay 64 = .ok (.if_icmp .gt 7, 3) := by decide +kernel
theorem dX6_delay_67 : decode cX6_delay 67 = .ok (.iconst 0, 1) := by decide +kernel
theorem dX6_delay_68 : decode cX6_delay 68 = .ok (.goto 4, 3) := by decide +kernel
theorem dX6_delay_71 : decode cX6_delay 71 = .ok (.iconst 2, 1) := by decide +kernel
theorem dX6_delay_72 : decode cX6_delay 72 = .ok (.putfield 75, 3) := by decide +kernel
theorem dX6_delay_75 : decode cX6_delay 75 = .ok (.aload_n 0, 1) := by decide +kernel
theorem dX6_delay_76 : decode cX6_delay 76 = .ok (.getfield 75, 3) := by decide +kernel
theorem dX6_delay_79 : decode cX6_delay 79 = .ok (.ifCond .gt 17, 3) := by decide +kernel
theorem dX6_delay_82 : decode cX6_delay 82 = .ok (.aload_n 0, 1) := by decide +kernel
theorem dX6_delay_83 : decode cX6_delay 83 = .ok (.getfield 34, 3) := by decide +kernel
theorem dX6_delay_86 : decode cX6_delay 86 = .ok (.iconst 3, 1) := by decide +kernel
theorem dX6_delay_87 : decode cX6_delay 87 = .ok (.iload_n 1, 1) := by decide +kernel
theorem dX6_delay_88 : decode cX6_delay 88 = .ok (.imul, 1) := by decide +kernel
theorem dX6_delay_89 : decode cX6_delay 89 = .ok (.iload_n 2, 1) := by decide +kernel
theorem dX6_delay_90 : decode cX6_delay 90 = .ok (.iadd, 1) := by decide +kernel
theorem dX6_delay_91 : decode cX6_delay 91 = .ok (.iaload, 1) := by decide +kernel
theorem dX6_delay_92 : decode cX6_delay 92 = .ok (.iload_n 3, 1) := by decide +kernel
theorem dX6_delay_93 : decode cX6_delay 93 = .ok (.if_icmp .ne 5, 3) := by decide +kernel
theorem dX6_delay_96 : decode cX6_delay 96 = .ok (.iconst 0, 1) := by decide +kernel
theorem dX6_delay_97 : decode cX6_delay 97 = .ok (.ireturn, 1) := by decide +kernel
theorem dX6_delay_98 : decode cX6_delay 98 = .ok (.aload_n 0, 1) := by decide +kernel
theorem dX6_delay_99 : decode cX6_delay 99 = .ok (.getfield 34, 3) := by decide +kernel
theorem dX6_delay_102 : decode cX6_delay 102 = .ok (.iconst 3, 1) := by decide +kernel
theorem dX6_delay_103 : decode cX6_delay 103 = .ok (.iload_n 1, 1) := by decide +kernel
theorem dX6_delay_104 : decode cX6_delay 104 = .ok (.imul, 1) := by decide +kernel
theorem dX6_delay_105 : decode cX6_delay 105 = .ok (.iload_n 2, 1) := by decide +kernel
theorem dX6_delay_106 : decode cX6_delay 106 = .ok (.iadd, 1) := by decide +kernel
theorem dX6_delay_107 : decode cX6_delay 107 = .ok (.iload_n 3, 1) := by decide +kernel
theorem dX6_delay_108 : decode cX6_delay 108 = .ok (.iastore, 1) := by decide +kernel
theorem dX6_delay_109 : decode cX6_delay 109 = .ok (.aload_n 0, 1) := by decide +kernel
theorem dX6_delay_110 : decode cX6_delay 110 = .ok (.iconst 1, 1) := by decide +kernel
theorem dX6_delay_111 : decode cX6_delay 111 = .ok (.putfield 89, 3) := by decide +kernel
theorem dX6_delay_114 : decode cX6_delay 114 = .ok (.iconst 1, 1) := by decide +kernel
theorem dX6_delay_115 : decode cX6_delay 115 = .ok (.ireturn, 1) := by decide +kernel
set_option maxRecDepth 20000 in
theorem ggX6_arrives_X6_isIn : GoodIn wsX6_arrives wsX6_isIn := goodIn_r _ [8] (by decide +kernel) (by decide +kernel)
set_option maxRecDepth 20000 in
theorem gX6_arrives_X6_isIn : GoodIn wsX6_arrives (va_wsS RX6 82 yX6_isIn wsX6_isIn) := goodIn_app (goodIn_of _ (by decide +kernel)) ggX6_arrives_X6_isIn
theorem dX6_arrives_0 : decode cX6_arrives 0 = .ok (.aload_n 0, 1) := by decide +kernel
theorem dX6_arrives_1 : decode cX6_arrives 1 = .ok (.iload_n 1, 1) := by decide +kernel
theorem dX6_arrives_2 : decode cX6_arrives 2 = .ok (.aload_n 0, 1) := by decide +kernel
theorem dX6_arrives_3 : decode cX6_arrives 3 = .ok (.getfield 86, 3) := by decide +kernel
theorem dX6_arrives_6 : decode cX6_arrives 6 = .ok (.invokestatic 82, 3) := by decide +kernel
theorem dX6_arrives_9 : decode cX6_arrives 9 = .ok (.ifCond .ne 7, 3) := by decide +kernel
theorem dX6_arrives_12 : decode cX6_arrives 12 = .ok (.iconst 1, 1) := by decide +kernel
theorem dX6_arrives_13 : decode cX6_arrives 13 = .ok (.goto 19, 3) := by decide +kernel
theorem dX6_arrives_16 : decode cX6_arrives 16 = .ok (.iload_n 2, 1) := by decide +kernel
theorem dX6_arrives_17 : decode cX6_arrives 17 = .ok (.ifCond .lt 14, 3) := by decide +kernel
theorem dX6_arrives_20 : decode cX6_arrives 20 = .ok (.iload_n 2, 1) := by decide +kernel
theorem dX6_arrives_21 : decode cX6_arrives 21 = .ok (.sipush 1000, 3) := by decide +kernel
theorem dX6_arrives_24 : decode cX6_arrives 24 = .ok (.if_icmp .gt 7, 3) := by decide +kernel
theorem dX6_arrives_27 : decode cX6_arrives 27 = .ok (.iconst 0, 1) := by decide +kernel
theorem dX6_arrives_28 : decode cX6_arrives 28 = .ok (.goto 4, 3) := by decide +kernel
theorem dX6_arrives_31 : decode cX6_arrives 31 = .ok (.iconst 2, 1) := by decide +kernel
theorem dX6_arrives_32 : decode cX6_arrives 32 = .ok (.putfield 75, 3) := by decide +kernel
theorem dX6_arrives_35 : decode cX6_arrives 35 = .ok (.aload_n 0, 1) := by decide +kernel
theorem dX6_arrives_36 : decode cX6_arrives 36 = .ok (.getfield 75, 3) := by decide +kernel
theorem dX6_arrives_39 : decode cX6_arrives 39 = .ok (.ifCond .gt 13, 3) := by decide +kernel
theorem dX6_arrives_42 : decode cX6_arrives 42 = .ok (.aload_n 0, 1) := by decide +kernel
theorem dX6_arrives_43 : decode cX6_arrives 43 = .ok (.getfield 19, 3) := by decide +kernel
theorem dX6_arrives_46 : decode cX6_arrives 46 = .ok (.iload_n 1, 1) := by decide +kernel
theorem dX6_arrives_47 : decode cX6_arrives 47 = .ok (.iaload, 1) := by decide +kernel
theorem dX6_arrives_48 : decode cX6_arrives 48 = .ok (.iload_n 2, 1) := by decide +kernel
theorem dX6_arrives_49 : decode cX6_arrives 49 = .ok (.if_icmp .ne 5, 3) := by decide +kernel
theorem dX6_arrives_52 : decode cX6_arrives 52 = .ok (.iconst 0, 1) := by decide +kernel
theorem dX6_arrives_53 : decode cX6_arrives 53 = .ok (.ireturn, 1) := by decide +kernel
theorem dX6_arrives_54 : decode cX6_arrives 54 = .ok (.aload_n 0, 1) := by decide +kernel
theorem dX6_arrives_55 : decode cX6_arrives 55 = .ok (.getfield 19, 3) := by decide +kernel
theorem dX6_arrives_58 : decode cX6_arrives 58 = .ok (.iload_n 1, 1) := by decide +kernel
theorem dX6_arrives_59 : decode cX6_arrives 59 = .ok (.iload_n 2, 1) := by decide +kernel
theorem dX6_arrives_60 : decode cX6_arrives 60 = .ok (.iastore, 1) := by decide +kernel
theorem dX6_arrives_61 : decode cX6_arrives 61 = .ok (.aload_n 0, 1) := by decide +kernel
theorem dX6_arrives_62 : decode cX6_arrives 62 = .ok (.iconst 1, 1) := by decide +kernel
theorem dX6_arrives_63 : decode cX6_arrives 63 = .ok (.putfield 89, 3) := by decide +kernel
theorem dX6_arrives_66 : decode cX6_arrives 66 = .ok (.iconst 1, 1) := by decide +kernel
theorem dX6_arrives_67 : decode cX6_arrives 67 = .ok (.ireturn, 1) := by decide +kernel
theorem dX6_isBefore_0 : decode cX6_isBefore 0 = .ok (.aload_n 0, 1) := by decide +kernel
theorem dX6_isBefore_1 : decode cX6_isBefore 1 = .ok (.getfield 53, 3) := by decide +kernel
theorem dX6_isBefore_4 : decode cX6_isBefore 4 = .ok (.iload_n 1, 1) := by decide +kernel
theorem dX6_isBefore_5 : decode cX6_isBefore 5 = .ok (.iaload, 1) := by decide +kernel
theorem dX6_isBefore_6 : decode cX6_isBefore 6 = .ok (.iload_n 2, 1) := by decide +kernel
theorem dX6_isBefore_7 : decode cX6_isBefore 7 = .ok (.if_icmp .eq 19, 3) := by decide +kernel
theorem dX6_isBefore_10 : decode cX6_isBefore 10 = .ok (.iload_n 2, 1) := by decide +kernel
theorem dX6_isBefore_11 : decode cX6_isBefore 11 = .ok (.aload_n 0, 1) := by decide +kernel
theorem dX6_isBefore_12 : decode cX6_isBefore 12 = .ok (.getfield 53, 3) := by decide +kernel
theorem dX6_isBefore_15 : decode cX6_isBefore 15 = .ok (.iload_n 1, 1) := by decide +kernel
theorem dX6_isBefore_16 : decode cX6_isBefore 16 = .ok (.iaload, 1) := by decide +kernel
theorem dX6_isBefore_17 : decode cX6_isBefore 17 = .ok (.if_icmp .ge 7, 3) := by decide +kernel
theorem dX6_isBefore_20 : decode cX6_isBefore 20 = .ok (.iconst 1, 1) := by decide +kernel
theorem dX6_isBefore_21 : decode cX6_isBefore 21 = .ok (.goto 4, 3) := by decide +kernel
theorem dX6_isBefore_24 : decode cX6_isBefore 24 = .ok (.iconst 0, 1) := by decide +kernel
theorem dX6_isBefore_25 : decode cX6_isBefore 25 = .ok (.ireturn, 1) := by decide +kernel
theorem dX6_isBefore_26 : decode cX6_isBefore 26 = .ok (.iconst 0, 1) := by decide +kernel
theorem dX6_isBefore_27 : decode cX6_isBefore 27 = .ok (.istore 4, 2) := by decide +kernel
theorem dX6_isBefore_29 : decode cX6_isBefore 29 = .ok (.iload 4, 2) := by decide +kernel
theorem dX6_isBefore_31 : decode cX6_isBefore 31 = .ok (.iload_n 3, 1) := by decide +kernel
theorem dX6_isBefore_32 : decode cX6_isBefore 32 = .ok (.if_icmp .ge 57, 3) := by decide +kernel
theorem dX6_isBefore_35 : decode cX6_isBefore 35 = .ok (.aload_n 0, 1) := by decide +kernel
theorem dX6_isBefore_36 : decode cX6_isBefore 36 = .ok (.getfield 69, 3) := by decide +kernel
theorem dX6_isBefore_39 : decode cX6_isBefore 39 = .ok (.iload 4, 2) := by decide +kernel
theorem dX6_isBefore_41 : decode cX6_isBefore 41 = .ok (.iaload, 1) := by decide +kernel
theorem dX6_isBefore_42 : decode cX6_isBefore 42 = .ok (.aload_n 0, 1) := by decide +kernel
theorem dX6_isBefore_43 : decode cX6_isBefore 43 = .ok (.getfield 56, 3) := by decide +kernel
theorem dX6_isBefore_46 : decode cX6_isBefore 46 = .ok (.iconst 3, 1) := by decide +kernel
theorem dX6_isBefore_47 : decode cX6_isBefore 47 = .ok (.iload_n 1, 1) := by decide +kernel
theorem dX6_isBefore_48 : decode cX6_isBefore 48 = .ok (.imul, 1) := by decide +kernel
theorem dX6_isBefore_49 : decode cX6_isBefore 49 = .ok (.iload 4, 2) := by decide +kernel
theorem dX6_isBefore_51 : decode cX6_isBefore 51 = .ok (.iadd, 1) := by decide +kernel
theorem dX6_isBefore_52 : decode cX6_isBefore 52 = .ok (.iaload, 1) := by decide +kernel
theorem dX6_isBefore_53 : decode cX6_isBefore 53 = .ok (.if_icmp .eq 30, 3) := by decide +kernel
theorem dX6_isBefore_56 : decode cX6_isBefore 56 = .ok (.aload_n 0, 1) := by decide +kernel
theorem dX6_isBefore_57 : decode cX6_isBefore 57 = .ok (.getfield 69, 3) := by decide +kernel
theorem dX6_isBefore_60 : decode cX6_isBefore 60 = .ok (.iload 4, 2) := by decide +kernel
theorem dX6_isBefore_62 : decode cX6_isBefore 62 = .ok (.iaload, 1) := by decide +kernel
theorem dX6_isBefore_63 : decode cX6_isBefore 63 = .ok (.aload_n 0, 1) := by decide +kernel
theorem dX6_isBefore_64 : decode cX6_isBefore 64 = .ok (.getfield 56, 3) := by decide +kernel
theorem dX6_isBefore_67 : decode cX6_isBefore 67 = .ok (.iconst 3, 1) := by decide +kernel
theorem dX6_isBefore_68 : decode cX6_isBefore 68 = .ok (.iload_n 1, 1) := by decide +kernel
theorem dX6_isBefore_69 : decode cX6_isBefore 69 = .ok (.imul, 1) := by decide +kernel
theorem dX6_isBefore_70 : decode cX6_isBefore 70 = .ok (.iload 4, 2) := by decide +kernel
theorem dX6_isBefore_72 : decode cX6_isBefore 72 = .ok (.iadd, 1) := by decide +kernel
theorem dX6_isBefore_73 : decode cX6_isBefore 73 = .ok (.iaload, 1) := by decide +kernel
theorem dX6_isBefore_74 : decode cX6_isBefore 74 = .ok (.if_icmp .ge 7, 3) := by decide +kernel
theorem dX6_isBefore_77 : decode cX6_isBefore 77 = .ok (.iconst 1, 1) := by decide +kernel
theorem dX6_isBefore_78 : decode cX6_isBefore 78 = .ok (.goto 4, 3) := by decide +kernel
theorem dX6_isBefore_81 : decode cX6_isBefore 81 = .ok (.iconst 0, 1) := by decide +kernel
theorem dX6_isBefore_82 : decode cX6_isBefore 82 = .ok (.ireturn, 1) := by decide +kernel
theorem dX6_isBefore_83 : decode cX6_isBefore 83 = .ok (.iinc 4 1, 3) := by decide +kernel
theorem dX6_isBefore_86 : decode cX6_isBefore 86 = .ok (.goto (-57), 3) := by decide +kernel
theorem dX6_isBefore_89 : decode cX6_isBefore 89 = .ok (.iconst 0, 1) := by decide +kernel
theorem dX6_isBefore_90 : decode cX6_isBefore 90 = .ok (.ireturn, 1) := by decide +kernel
set_option maxRecDepth 20000 in
theorem ggX6_enter_X6_isBefore : GoodIn wsX6_enter wsX6_isBefore := goodIn_r _ [11, 5, 2, 6, 12, 13, 14, 15, 16, 17, 18, 19, 20, 21, 22, 23, 24, 25, 26, 27, 28, 29, 30, 31, 32, 33, 34, 35, 36, 37, 38] (by decide +kernel) (by decide +kernel)
set_option maxRecDepth 20000 in
theorem gX6_enter_X6_isBefore : GoodIn wsX6_enter (wsV RX6 148 RX6 yX6_isBefore wsX6_isBefore) := goodIn_app (goodIn_of _ (by decide +kernel)) ggX6_enter_X6_isBefore
theorem dX6_enter_0 : decode cX6_enter 0 = .ok (.iconst 0, 1) := by decide +kernel
theorem dX6_enter_1 : decode cX6_enter 1 = .ok (.istore 4, 2) := by decide +kernel
theorem dX6_enter_3 : decode cX6_enter 3 = .ok (.iconst 0, 1) := by decide +kernel
theorem dX6_enter_4 : decode cX6_enter 4 = .ok (.istore 5, 2) := by decide +kernel
theorem dX6_enter_6 : decode cX6_enter 6 = .ok (.iload 5, 2) := by decide +kernel
theorem dX6_enter_8 : decode cX6_enter 8 = .ok (.iload_n 3, 1) := by decide +kernel
theorem dX6_enter_9 : decode cX6_enter 9 = .ok (.if_icmp .ge 62, 3) := by decide +kernel
theorem dX6_enter_12 : decode cX6_enter 12 = .ok (.aload_n 0, 1) := by decide +kernel
theorem dX6_enter_13 : decode cX6_enter 13 = .ok (.getfield 50, 3) := by decide +kernel
theorem dX6_enter_16 : decode cX6_enter 16 = .ok (.aload_n 0, 1) := by decide +kernel
theorem dX6_enter_17 : decode cX6_enter 17 = .ok (.getfield 69, 3) := by decide +kernel
theorem dX6_enter_20 : decode cX6_enter 20 = .ok (.iload 5, 2) := by decide +kernel
theorem dX6_enter_22 : decode cX6_enter 22 = .ok (.iaload, 1) := by decide +kernel
theorem dX6_enter_23 : decode cX6_enter 23 = .ok (.iaload, 1) := by decide +kernel
theorem dX6_enter_24 : decode cX6_enter 24 = .ok (.istore 6, 2) := by decide +kernel
theorem dX6_enter_26 : decode cX6_enter 26 = .ok (.iload 6, 2) := by decide +kernel
theorem dX6_enter_28 : decode cX6_enter 28 = .ok (.iconst (-1), 1) := by decide +kernel
theorem dX6_enter_29 : decode cX6_enter 29 = .ok (.if_icmp .ne 4, 3) := by decide +kernel
theorem dX6_enter_32 : decode cX6_enter 32 = .ok (.return_, 1) := by decide +kernel
theorem dX6_enter_33 : decode cX6_enter 33 = .ok (.iload 6, 2) := by decide +kernel
theorem dX6_enter_35 : decode cX6_enter 35 = .ok (.aload_n 0, 1) := by decide +kernel
theorem dX6_enter_36 : decode cX6_enter 36 = .ok (.getfield 34, 3) := by decide +kernel
theorem dX6_enter_39 : decode cX6_enter 39 = .ok (.iconst 3, 1) := by decide +kernel
theorem dX6_enter_40 : decode cX6_enter 40 = .ok (.iload_n 2, 1) := by decide +kernel
theorem dX6_enter_41 : decode cX6_enter 41 = .ok (.imul, 1) := by decide +kernel
theorem dX6_enter_42 : decode cX6_enter 42 = .ok (.iload 5, 2) := by decide +kernel
theorem dX6_enter_44 : decode cX6_enter 44 = .ok (.iadd, 1) := by decide +kernel
theorem dX6_enter_45 : decode cX6_enter 45 = .ok (.iaload, 1) := by decide +kernel
theorem dX6_enter_46 : decode cX6_enter 46 = .ok (.iadd, 1) := by decide +kernel
theorem dX6_enter_47 : decode cX6_enter 47 = .ok (.istore 7, 2) := by decide +kernel
theorem dX6_enter_49 : decode cX6_enter 49 = .ok (.iload 7, 2) := by decide +kernel
theorem dX6_enter_51 : decode cX6_enter 51 = .ok (.iload 4, 2) := by decide +kernel
theorem dX6_enter_53 : decode cX6_enter 53 = .ok (.if_icmp .le 8, 3) := by decide +kernel
theorem dX6_enter_56 : decode cX6_enter 56 = .ok (.iload 7, 2) := by decide +kernel
theorem dX6_enter_58 : decode cX6_enter 58 = .ok (.goto 5, 3) := by decide +kernel
theorem dX6_enter_61 : decode cX6_enter 61 = .ok (.iload 4, 2) := by decide +kernel
theorem dX6_enter_63 : decode cX6_enter 63 = .ok (.istore 4, 2) := by decide +kernel
theorem dX6_enter_65 : decode cX6_enter 65 = .ok (.iinc 5 1, 3) := by decide +kernel
theorem dX6_enter_68 : decode cX6_enter 68 = .ok (.goto (-62), 3) := by decide +kernel
theorem dX6_enter_71 : decode cX6_enter 71 = .ok (.aload_n 0, 1) := by decide +kernel
theorem dX6_enter_72 : decode cX6_enter 72 = .ok (.getfield 47, 3) := by decide +kernel
theorem dX6_enter_75 : decode cX6_enter 75 = .ok (.iload_n 1, 1) := by decide +kernel
theorem dX6_enter_76 : decode cX6_enter 76 = .ok (.iaload, 1) := by decide +kernel
theorem dX6_enter_77 : decode cX6_enter 77 = .ok (.iconst (-1), 1) := by decide +kernel
theorem dX6_enter_78 : decode cX6_enter 78 = .ok (.if_icmp .eq 35, 3) := by decide +kernel
theorem dX6_enter_81 : decode cX6_enter 81 = .ok (.iload 4, 2) := by decide +kernel
theorem dX6_enter_83 : decode cX6_enter 83 = .ok (.aload_n 0, 1) := by decide +kernel
theorem dX6_enter_84 : decode cX6_enter 84 = .ok (.getfield 47, 3) := by decide +kernel
theorem dX6_enter_87 : decode cX6_enter 87 = .ok (.iload_n 1, 1) := by decide +kernel
theorem dX6_enter_88 : decode cX6_enter 88 = .ok (.iaload, 1) := by decide +kernel
theorem dX6_enter_89 : decode cX6_enter 89 = .ok (.if_icmp .lt 24, 3) := by decide +kernel
theorem dX6_enter_92 : decode cX6_enter 92 = .ok (.iload 4, 2) := by decide +kernel
theorem dX6_enter_94 : decode cX6_enter 94 = .ok (.aload_n 0, 1) := by decide +kernel
theorem dX6_enter_95 : decode cX6_enter 95 = .ok (.getfield 47, 3) := by decide +kernel
theorem dX6_enter_98 : decode cX6_enter 98 = .ok (.iload_n 1, 1) := by decide +kernel
theorem dX6_enter_99 : decode cX6_enter 99 = .ok (.iaload, 1) := by decide +kernel
theorem dX6_enter_100 : decode cX6_enter 100 = .ok (.if_icmp .ne 17, 3) := by decide +kernel
theorem dX6_enter_103 : decode cX6_enter 103 = .ok (.aload_n 0, 1) := by decide +kernel
theorem dX6_enter_104 : decode cX6_enter 104 = .ok (.iload_n 1, 1) := by decide +kernel
theorem dX6_enter_105 : decode cX6_enter 105 = .ok (.iload_n 2, 1) := by decide +kernel
theorem dX6_enter_106 : decode cX6_enter 106 = .ok (.iload_n 3, 1) := by decide +kernel
theorem dX6_enter_107 : decode cX6_enter 107 = .ok (.invokevirtual 148, 3) := by decide +kernel
theorem dX6_enter_110 : decode cX6_enter 110 = .ok (.ifCond .eq 7, 3) := by decide +kernel
theorem dX6_enter_113 : decode cX6_enter 113 = .ok (.iconst 1, 1) := by decide +kernel
theorem dX6_enter_114 : decode cX6_enter 114 = .ok (.goto 4, 3) := by decide +kernel
theorem dX6_enter_117 : decode cX6_enter 117 = .ok (.iconst 0, 1) := by decide +kernel
theorem dX6_enter_118 : decode cX6_enter 118 = .ok (.istore 5, 2) := by decide +kernel
theorem dX6_enter_120 : decode cX6_enter 120 = .ok (.iload 5, 2) := by decide +kernel
theorem dX6_enter_122 : decode cX6_enter 122 = .ok (.ifCond .eq 61, 3) := by decide +kernel
theorem dX6_enter_125 : decode cX6_enter 125 = .ok (.aload_n 0, 1) := by decide +kernel
theorem dX6_enter_126 : decode cX6_enter 126 = .ok (.getfield 47, 3) := by decide +kernel
theorem dX6_enter_129 : decode cX6_enter 129 = .ok (.iload_n 1, 1) := by decide +kernel
theorem dX6_enter_130 : decode cX6_enter 130 = .ok (.iload 4, 2) := by decide +kernel
theorem dX6_enter_132 : decode cX6_enter 132 = .ok (.iastore, 1) := by decide +kernel
theorem dX6_enter_133 : decode cX6_enter 133 = .ok (.aload_n 0, 1) := by decide +kernel
theorem dX6_enter_134 : decode cX6_enter 134 = .ok (.getfield 53, 3) := by decide +kernel
theorem dX6_enter_137 : decode cX6_enter 137 = .ok (.iload_n 1, 1) := by decide +kernel
theorem dX6_enter_138 : decode cX6_enter 138 = .ok (.iload_n 2, 1) := by decide +kernel
theorem dX6_enter_139 : decode cX6_enter 139 = .ok (.iastore, 1) := by decide +kernel
theorem dX6_enter_140 : decode cX6_enter 140 = .ok (.iconst 0, 1) := by decide +kernel
theorem dX6_enter_141 : decode cX6_enter 141 = .ok (.istore 6, 2) := by decide +kernel
theorem dX6_enter_143 : decode cX6_enter 143 = .ok (.iload 6, 2) := by decide +kernel
theorem dX6_enter_145 : decode cX6_enter 145 = .ok (.iconst 3, 1) := by decide +kernel
theorem dX6_enter_146 : decode cX6_enter 146 = .ok (.if_icmp .ge 37, 3) := by decide +kernel
theorem dX6_enter_149 : decode cX6_enter 149 = .ok (.aload_n 0, 1) := by decide +kernel
theorem dX6_enter_150 : decode cX6_enter 150 = .ok (.getfield 56, 3) := by decide +kernel
theorem dX6_enter_153 : decode cX6_enter 153 = .ok (.iconst 3, 1) := by decide +kernel
theorem dX6_enter_154 : decode cX6_enter 154 = .ok (.iload_n 1, 1) := by decide +kernel
theorem dX6_enter_155 : decode cX6_enter 155 = .ok (.imul, 1) := by decide +kernel
theorem dX6_enter_156 : decode cX6_enter 156 = .ok (.iload 6, 2) := by decide +kernel
theorem dX6_enter_158 : decode cX6_enter 158 = .ok (.iadd, 1) := by decide +kernel
theorem dX6_enter_159 : decode cX6_enter 159 = .ok (.iload 6, 2) := by decide +kernel
theorem dX6_enter_161 : decode cX6_enter 161 = .ok (.iload_n 3, 1) := by decide +kernel
theorem dX6_enter_162 : decode cX6_enter 162 = .ok (.if_icmp .ge 13, 3) := by decide +kernel
theorem dX6_enter_165 : decode cX6_enter 165 = .ok (.aload_n 0, 1) := by decide +kernel
theorem dX6_enter_166 : decode cX6_enter 166 = .ok (.getfield 69, 3) := by decide +kernel
theorem dX6_enter_169 : decode cX6_enter 169 = .ok (.iload 6, 2) := by decide +kernel
theorem dX6_enter_171 : decode cX6_enter 171 = .ok (.iaload, 1) := by decide +kernel
theorem dX6_enter_172 : decode cX6_enter 172 = .ok (.goto 4, 3) := by decide +kernel
theorem dX6_enter_175 : decode cX6_enter 175 = .ok (.iconst (-1), 1) := by decide +kernel
theorem dX6_enter_176 : decode cX6_enter 176 = .ok (.iastore, 1) := by decide +kernel
theorem dX6_enter_177 : decode cX6_enter 177 = .ok (.iinc 6 1, 3) := by decide +kernel
theorem dX6_enter_180 : decode cX6_enter 180 = .ok (.goto (-37), 3) := by decide +kernel
theorem dX6_enter_183 : decode cX6_enter 183 = .ok (.return_, 1) := by decide +kernel
set_option maxRecDepth 20000 in
theorem ggX6_comes_X6_turn : GoodIn wsX6_comes wsX6_turn := goodIn_r _ [7] (by decide +kernel) (by decide +kernel)
set_option maxRecDepth 20000 in
theorem gX6_comes_X6_turn : GoodIn wsX6_comes (va_wsS RX6 131 yX6_turn wsX6_turn) := goodIn_app (goodIn_of _ (by decide +kernel)) ggX6_comes_X6_turn
theorem dX6_comes_0 : decode cX6_comes 0 = .ok (.iconst 0, 1) := by decide +kernel
theorem dX6_comes_1 : decode cX6_comes 1 = .ok (.istore 4, 2) := by decide +kernel
theorem dX6_comes_3 : decode cX6_comes 3 = .ok (.iconst 0, 1) := by decide +kernel
theorem dX6_comes_4 : decode cX6_comes 4 = .ok (.istore 5, 2) := by decide +kernel
theorem dX6_comes_6 : decode cX6_comes 6 = .ok (.iload 5, 2) := by decide +kernel
theorem dX6_comes_8 : decode cX6_comes 8 = .ok (.iload_n 2, 1) := by decide +kernel
theorem dX6_comes_9 : decode cX6_comes 9 = .ok (.if_icmp .ge 79, 3) := by decide +kernel
theorem dX6_comes_12 : decode cX6_comes 12 = .ok (.iconst 0, 1) := by decide +kernel
theorem dX6_comes_13 : decode cX6_comes 13 = .ok (.istore 6, 2) := by decide +kernel
theorem dX6_comes_15 : decode cX6_comes 15 = .ok (.iconst 0, 1) := by decide +kernel
theorem dX6_comes_16 : decode cX6_comes 16 = .ok (.istore 7, 2) := by decide +kernel
theorem dX6_comes_18 : decode cX6_comes 18 = .ok (.iload 7, 2) := by decide +kernel
theorem dX6_comes_20 : decode cX6_comes 20 = .ok (.iload_n 2, 1) := by decide +kernel
theorem dX6_comes_21 : decode cX6_comes 21 = .ok (.if_icmp .ge 41, 3) := by decide +kernel
theorem dX6_comes_24 : decode cX6_comes 24 = .ok (.aload_n 0, 1) := by decide +kernel
theorem dX6_comes_25 : decode cX6_comes 25 = .ok (.getfield 66, 3) := by decide +kernel
theorem dX6_comes_28 : decode cX6_comes 28 = .ok (.iload 7, 2) := by decide +kernel
theorem dX6_comes_30 : decode cX6_comes 30 = .ok (.iaload, 1) := by decide +kernel
theorem dX6_comes_31 : decode cX6_comes 31 = .ok (.aload_n 0, 1) := by decide +kernel
theorem dX6_comes_32 : decode cX6_comes 32 = .ok (.getfield 69, 3) := by decide +kernel
theorem dX6_comes_35 : decode cX6_comes 35 = .ok (.iload 5, 2) := by decide +kernel
theorem dX6_comes_37 : decode cX6_comes 37 = .ok (.iaload, 1) := by decide +kernel
theorem dX6_comes_38 : decode cX6_comes 38 = .ok (.iconst 2, 1) := by decide +kernel
theorem dX6_comes_39 : decode cX6_comes 39 = .ok (.idiv, 1) := by decide +kernel
theorem dX6_comes_40 : decode cX6_comes 40 = .ok (.if_icmp .ne 12, 3) := by decide +kernel
theorem dX6_comes_43 : decode cX6_comes 43 = .ok (.iload_n 3, 1) := by decide +kernel
theorem dX6_comes_44 : decode cX6_comes 44 = .ok (.iload 7, 2) := by decide +kernel
theorem dX6_comes_46 : decode cX6_comes 46 = .ok (.ishr, 1) := by decide +kernel
theorem dX6_comes_47 : decode cX6_comes 47 = .ok (.iconst 1, 1) := by decide +kernel
theorem dX6_comes_48 : decode cX6_comes 48 = .ok (.iand, 1) := by decide +kernel
theorem dX6_comes_49 : decode cX6_comes 49 = .ok (.goto 5, 3) := by decide +kernel
theorem dX6_comes_52 : decode cX6_comes 52 = .ok (.iload 6, 2) := by decide +kernel
theorem dX6_comes_54 : decode cX6_comes 54 = .ok (.istore 6, 2) := by decide +kernel
theorem dX6_comes_56 : decode cX6_comes 56 = .ok (.iinc 7 1, 3) := by decide +kernel
theorem dX6_comes_59 : decode cX6_comes 59 = .ok (.goto (-41), 3) := by decide +kernel
theorem dX6_comes_62 : decode cX6_comes 62 = .ok (.iload 4, 2) := by decide +kernel
theorem dX6_comes_64 : decode cX6_comes 64 = .ok (.aload_n 0, 1) := by decide +kernel
theorem dX6_comes_65 : decode cX6_comes 65 = .ok (.getfield 69, 3) := by decide +kernel
theorem dX6_comes_68 : decode cX6_comes 68 = .ok (.iload 5, 2) := by decide +kernel
theorem dX6_comes_70 : decode cX6_comes 70 = .ok (.iaload, 1) := by decide +kernel
theorem dX6_comes_71 : decode cX6_comes 71 = .ok (.iload 6, 2) := by decide +kernel
theorem dX6_comes_73 : decode cX6_comes 73 = .ok (.invokestatic 131, 3) := by decide +kernel
theorem dX6_comes_76 : decode cX6_comes 76 = .ok (.iload 5, 2) := by decide +kernel
theorem dX6_comes_78 : decode cX6_comes 78 = .ok (.ishl, 1) := by decide +kernel
theorem dX6_comes_79 : decode cX6_comes 79 = .ok (.ior, 1) := by decide +kernel
theorem dX6_comes_80 : decode cX6_comes 80 = .ok (.istore 4, 2) := by decide +kernel
theorem dX6_comes_82 : decode cX6_comes 82 = .ok (.iinc 5 1, 3) := by decide +kernel
theorem dX6_comes_85 : decode cX6_comes 85 = .ok (.goto (-79), 3) := by decide +kernel
theorem dX6_comes_88 : decode cX6_comes 88 = .ok (.aload_n 0, 1) := by decide +kernel
theorem dX6_comes_89 : decode cX6_comes 89 = .ok (.getfield 28, 3) := by decide +kernel
theorem dX6_comes_92 : decode cX6_comes 92 = .ok (.iload_n 1, 1) := by decide +kernel
theorem dX6_comes_93 : decode cX6_comes 93 = .ok (.iaload, 1) := by decide +kernel
theorem dX6_comes_94 : decode cX6_comes 94 = .ok (.iload 4, 2) := by decide +kernel
theorem dX6_comes_96 : decode cX6_comes 96 = .ok (.ishr, 1) := by decide +kernel
theorem dX6_comes_97 : decode cX6_comes 97 = .ok (.iconst 1, 1) := by decide +kernel
theorem dX6_comes_98 : decode cX6_comes 98 = .ok (.iand, 1) := by decide +kernel
theorem dX6_comes_99 : decode cX6_comes 99 = .ok (.ireturn, 1) := by decide +kernel
set_option maxRecDepth 20000 in
theorem ggX6_tryCell_X6_comes : GoodIn wsX6_tryCell wsX6_comes := goodIn_r _ [5, 6, 7, 8, 9, 10, 4, 11, 25, 26, 27, 28, 29, 30, 31, 32, 33, 34, 35, 36, 37, 38, 39, 40, 41, 42, 43, 44, 45, 46, 47, 48, 49, 50, 51] (by decide +kernel) (by decide +kernel)
set_option maxRecDepth 20000 in
theorem gX6_tryCell_X6_comes : GoodIn wsX6_tryCell (wsV RX6 152 RX6 yX6_comes wsX6_comes) := goodIn_app (goodIn_of _ (by decide +kernel)) ggX6_tryCell_X6_comes
set_option maxRecDepth 20000 in
theorem ggX6_tryCell_X6_enter : GoodIn wsX6_tryCell wsX6_enter := goodIn_r _ [15, 16, 7, 17, 18, 19, 20, 21, 22, 23, 4, 24, 25, 26, 27, 28, 29, 30, 31, 32, 33, 34, 35, 36, 37, 38, 39, 40, 41, 42, 43, 44, 45, 46, 47, 48, 49, 50, 51] (by decide +kernel) (by decide +kernel)
set_option maxRecDepth 20000 in
theorem gX6_tryCell_X6_enter : GoodIn wsX6_tryCell (wsV RX6 155 RX6 yX6_enter wsX6_enter) := goodIn_app (goodIn_of _ (by decide +kernel)) ggX6_tryCell_X6_enter
theorem dX6_tryCell_0 : decode cX6_tryCell 0 = .ok (.iconst 1, 1) := by decide +kernel
theorem dX6_tryCell_1 : decode cX6_tryCell 1 = .ok (.iconst 1, 1) := by decide +kernel
theorem dX6_tryCell_2 : decode cX6_tryCell 2 = .ok (.iload_n 3, 1) := by decide +kernel
theorem dX6_tryCell_3 : decode cX6_tryCell 3 = .ok (.ishl, 1) := by decide +kernel
theorem dX6_tryCell_4 : decode cX6_tryCell 4 = .ok (.ishl, 1) := by decide +kernel
theorem dX6_tryCell_5 : decode cX6_tryCell 5 = .ok (.iconst 1, 1) := by decide +kernel
theorem dX6_tryCell_6 : decode cX6_tryCell 6 = .ok (.isub, 1) := by decide +kernel
theorem dX6_tryCell_7 : decode cX6_tryCell 7 = .ok (.istore 5, 2) := by decide +kernel
theorem dX6_tryCell_9 : decode cX6_tryCell 9 = .ok (.iconst 0, 1) := by decide +kernel
theorem dX6_tryCell_10 : decode cX6_tryCell 10 = .ok (.istore 6, 2) := by decide +kernel
theorem dX6_tryCell_12 : decode cX6_tryCell 12 = .ok (.iconst 0, 1) := by decide +kernel
theorem dX6_tryCell_13 : decode cX6_tryCell 13 = .ok (.istore 7, 2) := by decide +kernel
theorem dX6_tryCell_15 : decode cX6_tryCell 15 = .ok (.iload 7, 2) := by decide +kernel
theorem dX6_tryCell_17 : decode cX6_tryCell 17 = .ok (.iconst 1, 1) := by decide +kernel
theorem dX6_tryCell_18 : decode cX6_tryCell 18 = .ok (.iload_n 3, 1) := by decide +kernel
theorem dX6_tryCell_19 : decode cX6_tryCell 19 = .ok (.ishl, 1) := by decide +kernel
theorem dX6_tryCell_20 : decode cX6_tryCell 20 = .ok (.if_icmp .ge 25, 3) := by decide +kernel
theorem dX6_tryCell_23 : decode cX6_tryCell 23 = .ok (.iload 6, 2) := by decide +kernel
theorem dX6_tryCell_25 : decode cX6_tryCell 25 = .ok (.aload_n 0, 1) := by decide +kernel
theorem dX6_tryCell_26 : decode cX6_tryCell 26 = .ok (.iload_n 2, 1) := by decide +kernel
theorem dX6_tryCell_27 : decode cX6_tryCell 27 = .ok (.iload_n 3, 1) := by decide +kernel
theorem dX6_tryCell_28 : decode cX6_tryCell 28 = .ok (.iload 7, 2) := by decide +kernel
theorem dX6_tryCell_30 : decode cX6_tryCell 30 = .ok (.invokevirtual 152, 3) := by decide +kernel
theorem dX6_tryCell_33 : decode cX6_tryCell 33 = .ok (.iload 7, 2) := by decide +kernel
theorem dX6_tryCell_35 : decode cX6_tryCell 35 = .ok (.ishl, 1) := by decide +kernel
theorem dX6_tryCell_36 : decode cX6_tryCell 36 = .ok (.ior, 1) := by decide +kernel
theorem dX6_tryCell_37 : decode cX6_tryCell 37 = .ok (.istore 6, 2) := by decide +kernel
theorem dX6_tryCell_39 : decode cX6_tryCell 39 = .ok (.iinc 7 1, 3) := by decide +kernel
theorem dX6_tryCell_42 : decode cX6_tryCell 42 = .ok (.goto (-27), 3) := by decide +kernel
theorem dX6_tryCell_45 : decode cX6_tryCell 45 = .ok (.iload 6, 2) := by decide +kernel
theorem dX6_tryCell_47 : decode cX6_tryCell 47 = .ok (.iload 4, 2) := by decide +kernel
theorem dX6_tryCell_49 : decode cX6_tryCell 49 = .ok (.if_icmp .ne 12, 3) := by decide +kernel
theorem dX6_tryCell_52 : decode cX6_tryCell 52 = .ok (.aload_n 0, 1) := by decide +kernel
theorem dX6_tryCell_53 : decode cX6_tryCell 53 = .ok (.iconst 2, 1) := by decide +kernel
theorem dX6_tryCell_54 : decode cX6_tryCell 54 = .ok (.iload_n 1, 1) := by decide +kernel
theorem dX6_tryCell_55 : decode cX6_tryCell 55 = .ok (.imul, 1) := by decide +kernel
theorem dX6_tryCell_56 : decode cX6_tryCell 56 = .ok (.iload_n 2, 1) := by decide +kernel
theorem dX6_tryCell_57 : decode cX6_tryCell 57 = .ok (.iload_n 3, 1) := by decide +kernel
theorem dX6_tryCell_58 : decode cX6_tryCell 58 = .ok (.invokevirtual 155, 3) := by decide +kernel
theorem dX6_tryCell_61 : decode cX6_tryCell 61 = .ok (.iload 6, 2) := by decide +kernel
theorem dX6_tryCell_63 : decode cX6_tryCell 63 = .ok (.iload 4, 2) := by decide +kernel
theorem dX6_tryCell_65 : decode cX6_tryCell 65 = .ok (.iconst (-1), 1) := by decide +kernel
theorem dX6_tryCell_66 : decode cX6_tryCell 66 = .ok (.ixor, 1) := by decide +kernel
theorem dX6_tryCell_67 : decode cX6_tryCell 67 = .ok (.iload 5, 2) := by decide +kernel
theorem dX6_tryCell_69 : decode cX6_tryCell 69 = .ok (.iand, 1) := by decide +kernel
theorem dX6_tryCell_70 : decode cX6_tryCell 70 = .ok (.if_icmp .ne 14, 3) := by decide +kernel
theorem dX6_tryCell_73 : decode cX6_tryCell 73 = .ok (.aload_n 0, 1) := by decide +kernel
theorem dX6_tryCell_74 : decode cX6_tryCell 74 = .ok (.iconst 2, 1) := by decide +kernel
theorem dX6_tryCell_75 : decode cX6_tryCell 75 = .ok (.iload_n 1, 1) := by decide +kernel
theorem dX6_tryCell_76 : decode cX6_tryCell 76 = .ok (.imul, 1) := by decide +kernel
theorem dX6_tryCell_77 : decode cX6_tryCell 77 = .ok (.iconst 1, 1) := by decide +kernel
theorem dX6_tryCell_78 : decode cX6_tryCell 78 = .ok (.iadd, 1) := by decide +kernel
theorem dX6_tryCell_79 : decode cX6_tryCell 79 = .ok (.iload_n 2, 1) := by decide +kernel
theorem dX6_tryCell_80 : decode cX6_tryCell 80 = .ok (.iload_n 3, 1) := by decide +kernel
theorem dX6_tryCell_81 : decode cX6_tryCell 81 = .ok (.invokevirtual 155, 3) := by decide +kernel
theorem dX6_tryCell_84 : decode cX6_tryCell 84 = .ok (.return_, 1) := by decide +kernel
set_option maxRecDepth 20000 in
theorem ggX6_tryMoves_X6_tryCell : GoodIn wsX6_tryMoves wsX6_tryCell := goodIn_r _ [7, 8, 9, 10, 6, 11, 2, 1, 12, 13, 14, 15, 16, 17, 18, 19, 20, 21, 22, 23, 24, 25, 26, 27, 28, 29, 30, 31, 32, 33, 34, 35, 36, 37, 38, 39, 40, 41, 42, 43, 44, 45, 46, 47, 48, 49, 50, 51, 52, 53, 54, 55] (by decide +kernel) (by decide +kernel)
set_option maxRecDepth 20000 in
theorem gX6_tryMoves_X6_tryCell : GoodIn wsX6_tryMoves (wsV RX6 159 RX6 yX6_tryCell wsX6_tryCell) := goodIn_app (goodIn_of _ (by decide +kernel)) ggX6_tryMoves_X6_tryCell
theorem dX6_tryMoves_0 : decode cX6_tryMoves 0 = .ok (.iload_n 3, 1) := by decide +kernel
theorem dX6_tryMoves_1 : decode cX6_tryMoves 1 = .ok (.iconst 1, 1) := by decide +kernel
theorem dX6_tryMoves_2 : decode cX6_tryMoves 2 = .ok (.if_icmp .ne 7, 3) := by decide +kernel
theorem dX6_tryMoves_5 : decode cX6_tryMoves 5 = .ok (.iconst 2, 1) := by decide +kernel
theorem dX6_tryMoves_6 : decode cX6_tryMoves 6 = .ok (.goto 16, 3) := by decide +kernel
theorem dX6_tryMoves_9 : decode cX6_tryMoves 9 = .ok (.iload_n 3, 1) := by decide +kernel
theorem dX6_tryMoves_10 : decode cX6_tryMoves 10 = .ok (.iconst 2, 1) := by decide +kernel
theorem dX6_tryMoves_11 : decode cX6_tryMoves 11 = .ok (.if_icmp .ne 8, 3) := by decide +kernel
theorem dX6_tryMoves_14 : decode cX6_tryMoves 14 = .ok (.bipush 16, 2) := by decide +kernel
theorem dX6_tryMoves_16 : decode cX6_tryMoves 16 = .ok (.goto 6, 3) := by decide +kernel
theorem dX6_tryMoves_19 : decode cX6_tryMoves 19 = .ok (.sipush 216, 3) := by decide +kernel
theorem dX6_tryMoves_22 : decode cX6_tryMoves 22 = .ok (.istore 5, 2) := by decide +kernel
theorem dX6_tryMoves_24 : decode cX6_tryMoves 24 = .ok (.iconst 0, 1) := by decide +kernel
theorem dX6_tryMoves_25 : decode cX6_tryMoves 25 = .ok (.istore 6, 2) := by decide +kernel
theorem dX6_tryMoves_27 : decode cX6_tryMoves 27 = .ok (.iload 6, 2) := by decide +kernel
theorem dX6_tryMoves_29 : decode cX6_tryMoves 29 = .ok (.iload 5, 2) := by decide +kernel
theorem dX6_tryMoves_31 : decode cX6_tryMoves 31 = .ok (.if_icmp .ge 204, 3) := by decide +kernel
theorem dX6_tryMoves_34 : decode cX6_tryMoves 34 = .ok (.iconst 2, 1) := by decide +kernel
theorem dX6_tryMoves_35 : decode cX6_tryMoves 35 = .ok (.iload_n 3, 1) := by decide +kernel
theorem dX6_tryMoves_36 : decode cX6_tryMoves 36 = .ok (.imul, 1) := by decide +kernel
theorem dX6_tryMoves_37 : decode cX6_tryMoves 37 = .ok (.istore 7, 2) := by decide +kernel
theorem dX6_tryMoves_39 : decode cX6_tryMoves 39 = .ok (.iload 6, 2) := by decide +kernel
theorem dX6_tryMoves_41 : decode cX6_tryMoves 41 = .ok (.iload 7, 2) := by decide +kernel
theorem dX6_tryMoves_43 : decode cX6_tryMoves 43 = .ok (.irem, 1) := by decide +kernel
theorem dX6_tryMoves_44 : decode cX6_tryMoves 44 = .ok (.istore 8, 2) := by decide +kernel
theorem dX6_tryMoves_46 : decode cX6_tryMoves 46 = .ok (.iload 6, 2) := by decide +kernel
theorem dX6_tryMoves_48 : decode cX6_tryMoves 48 = .ok (.iload 7, 2) := by decide +kernel
theorem dX6_tryMoves_50 : decode cX6_tryMoves 50 = .ok (.idiv, 1) := by decide +kernel
theorem dX6_tryMoves_51 : decode cX6_tryMoves 51 = .ok (.iload 7, 2) := by decide +kernel
theorem dX6_tryMoves_53 : decode cX6_tryMoves 53 = .ok (.irem, 1) := by decide +kernel
theorem dX6_tryMoves_54 : decode cX6_tryMoves 54 = .ok (.istore 9, 2) := by decide +kernel
theorem dX6_tryMoves_56 : decode cX6_tryMoves 56 = .ok (.iload 6, 2) := by decide +kernel
theorem dX6_tryMoves_58 : decode cX6_tryMoves 58 = .ok (.iload 7, 2) := by decide +kernel
theorem dX6_tryMoves_60 : decode cX6_tryMoves 60 = .ok (.iload 7, 2) := by decide +kernel
theorem dX6_tryMoves_62 : decode cX6_tryMoves 62 = .ok (.imul, 1) := by decide +kernel
theorem dX6_tryMoves_63 : decode cX6_tryMoves 63 = .ok (.idiv, 1) := by decide +kernel
theorem dX6_tryMoves_64 : decode cX6_tryMoves 64 = .ok (.istore 10, 2) := by decide +kernel
theorem dX6_tryMoves_66 : decode cX6_tryMoves 66 = .ok (.iload_n 3, 1) := by decide +kernel
theorem dX6_tryMoves_67 : decode cX6_tryMoves 67 = .ok (.iconst 2, 1) := by decide +kernel
theorem dX6_tryMoves_68 : decode cX6_tryMoves 68 = .ok (.if_icmp .lt 14, 3) := by decide +kernel
theorem dX6_tryMoves_71 : decode cX6_tryMoves 71 = .ok (.iload 8, 2) := by decide +kernel
theorem dX6_tryMoves_73 : decode cX6_tryMoves 73 = .ok (.iconst 2, 1) := by decide +kernel
theorem dX6_tryMoves_74 : decode cX6_tryMoves 74 = .ok (.idiv, 1) := by decide +kernel
theorem dX6_tryMoves_75 : decode cX6_tryMoves 75 = .ok (.iload 9, 2) := by decide +kernel
theorem dX6_tryMoves_77 : decode cX6_tryMoves 77 = .ok (.iconst 2, 1) := by decide +kernel
theorem dX6_tryMoves_78 : decode cX6_tryMoves 78 = .ok (.idiv, 1) := by decide +kernel
theorem dX6_tryMoves_79 : decode cX6_tryMoves 79 = .ok (.if_icmp .eq 7, 3) := by decide +kernel
theorem dX6_tryMoves_82 : decode cX6_tryMoves 82 = .ok (.iconst 1, 1) := by decide +kernel
theorem dX6_tryMoves_83 : decode cX6_tryMoves 83 = .ok (.goto 4, 3) := by decide +kernel
theorem dX6_tryMoves_86 : decode cX6_tryMoves 86 = .ok (.iconst 0, 1) := by decide +kernel
theorem dX6_tryMoves_87 : decode cX6_tryMoves 87 = .ok (.istore 11, 2) := by decide +kernel
theorem dX6_tryMoves_89 : decode cX6_tryMoves 89 = .ok (.iload 11, 2) := by decide +kernel
theorem dX6_tryMoves_91 : decode cX6_tryMoves 91 = .ok (.ifCond .eq 34, 3) := by decide +kernel
theorem dX6_tryMoves_94 : decode cX6_tryMoves 94 = .ok (.iload_n 3, 1) := by decide +kernel
theorem dX6_tryMoves_95 : decode cX6_tryMoves 95 = .ok (.iconst 3, 1) := by decide +kernel
theorem dX6_tryMoves_96 : decode cX6_tryMoves 96 = .ok (.if_icmp .lt 25, 3) := by decide +kernel
theorem dX6_tryMoves_99 : decode cX6_tryMoves 99 = .ok (.iload 10, 2) := by decide +kernel
theorem dX6_tryMoves_101 : decode cX6_tryMoves 101 = .ok (.iconst 2, 1) := by decide +kernel
theorem dX6_tryMoves_102 : decode cX6_tryMoves 102 = .ok (.idiv, 1) := by decide +kernel
theorem dX6_tryMoves_103 : decode cX6_tryMoves 103 = .ok (.iload 8, 2) := by decide +kernel
theorem dX6_tryMoves_105 : decode cX6_tryMoves 105 = .ok (.iconst 2, 1) := by decide +kernel
theorem dX6_tryMoves_106 : decode cX6_tryMoves 106 = .ok (.idiv, 1) := by decide +kernel
theorem dX6_tryMoves_107 : decode cX6_tryMoves 107 = .ok (.if_icmp .eq 18, 3) := by decide +kernel
theorem dX6_tryMoves_110 : decode cX6_tryMoves 110 = .ok (.iload 10, 2) := by decide +kernel
theorem dX6_tryMoves_112 : decode cX6_tryMoves 112 = .ok (.iconst 2, 1) := by decide +kernel
theorem dX6_tryMoves_113 : decode cX6_tryMoves 113 = .ok (.idiv, 1) := by decide +kernel
theorem dX6_tryMoves_114 : decode cX6_tryMoves 114 = .ok (.iload 9, 2) := by decide +kernel
theorem dX6_tryMoves_116 : decode cX6_tryMoves 116 = .ok (.iconst 2, 1) := by decide +kernel
theorem dX6_tryMoves_117 : decode cX6_tryMoves 117 = .ok (.idiv, 1) := by decide +kernel
theorem dX6_tryMoves_118 : decode cX6_tryMoves 118 = .ok (.if_icmp .eq 7, 3) := by decide +kernel
theorem dX6_tryMoves_121 : decode cX6_tryMoves 121 = .ok (.iconst 1, 1) := by decide +kernel
theorem dX6_tryMoves_122 : decode cX6_tryMoves 122 = .ok (.goto 4, 3) := by decide +kernel
theorem dX6_tryMoves_125 : decode cX6_tryMoves 125 = .ok (.iconst 0, 1) := by decide +kernel
theorem dX6_tryMoves_126 : decode cX6_tryMoves 126 = .ok (.istore 11, 2) := by decide +kernel
theorem dX6_tryMoves_128 : decode cX6_tryMoves 128 = .ok (.iload 11, 2) := by decide +kernel
theorem dX6_tryMoves_130 : decode cX6_tryMoves 130 = .ok (.ifCond .ne 6, 3) := by decide +kernel
theorem dX6_tryMoves_133 : decode cX6_tryMoves 133 = .ok (.goto 96, 3) := by decide +kernel
theorem dX6_tryMoves_136 : decode cX6_tryMoves 136 = .ok (.aload_n 0, 1) := by decide +kernel
theorem dX6_tryMoves_137 : decode cX6_tryMoves 137 = .ok (.getfield 69, 3) := by decide +kernel
theorem dX6_tryMoves_140 : decode cX6_tryMoves 140 = .ok (.iconst 0, 1) := by decide +kernel
theorem dX6_tryMoves_141 : decode cX6_tryMoves 141 = .ok (.iconst 2, 1) := by decide +kernel
theorem dX6_tryMoves_142 : decode cX6_tryMoves 142 = .ok (.aload_n 0, 1) := by decide +kernel
theorem dX6_tryMoves_143 : decode cX6_tryMoves 143 = .ok (.getfield 66, 3) := by decide +kernel
theorem dX6_tryMoves_146 : decode cX6_tryMoves 146 = .ok (.iload 8, 2) := by decide +kernel
theorem dX6_tryMoves_148 : decode cX6_tryMoves 148 = .ok (.iconst 2, 1) := by decide +kernel
theorem dX6_tryMoves_149 : decode cX6_tryMoves 149 = .ok (.idiv, 1) := by decide +kernel
theorem dX6_tryMoves_150 : decode cX6_tryMoves 150 = .ok (.iaload, 1) := by decide +kernel
theorem dX6_tryMoves_151 : decode cX6_tryMoves 151 = .ok (.imul, 1) := by decide +kernel
theorem dX6_tryMoves_152 : decode cX6_tryMoves 152 = .ok (.iload 8, 2) := by decide +kernel
theorem dX6_tryMoves_154 : decode cX6_tryMoves 154 = .ok (.iconst 2, 1) := by decide +kernel
theorem dX6_tryMoves_155 : decode cX6_tryMoves 155 = .ok (.irem, 1) := by decide +kernel
theorem dX6_tryMoves_156 : decode cX6_tryMoves 156 = .ok (.iadd, 1) := by decide +kernel
theorem dX6_tryMoves_157 : decode cX6_tryMoves 157 = .ok (.iastore, 1) := by decide +kernel
theorem dX6_tryMoves_158 : decode cX6_tryMoves 158 = .ok (.aload_n 0, 1) := by decide +kernel
theorem dX6_tryMoves_159 : decode cX6_tryMoves 159 = .ok (.getfield 69, 3) := by decide +kernel
theorem dX6_tryMoves_162 : decode cX6_tryMoves 162 = .ok (.iconst 1, 1) := by decide +kernel
theorem dX6_tryMoves_163 : decode cX6_tryMoves 163 = .ok (.iload_n 3, 1) := by decide +kernel
theorem dX6_tryMoves_164 : decode cX6_tryMoves 164 = .ok (.iconst 1, 1) := by decide +kernel
theorem dX6_tryMoves_165 : decode cX6_tryMoves 165 = .ok (.if_icmp .le 22, 3) := by decide +kernel
theorem dX6_tryMoves_168 : decode cX6_tryMoves 168 = .ok (.iconst 2, 1) := by decide +kernel
theorem dX6_tryMoves_169 : decode cX6_tryMoves 169 = .ok (.aload_n 0, 1) := by decide +kernel
theorem dX6_tryMoves_170 : decode cX6_tryMoves 170 = .ok (.getfield 66, 3) := by decide +kernel
theorem dX6_tryMoves_173 : decode cX6_tryMoves 173 = .ok (.iload 9, 2) := by decide +kernel
theorem dX6_tryMoves_175 : decode cX6_tryMoves 175 = .ok (.iconst 2, 1) := by decide +kernel
theorem dX6_tryMoves_176 : decode cX6_tryMoves 176 = .ok (.idiv, 1) := by decide +kernel
theorem dX6_tryMoves_177 : decode cX6_tryMoves 177 = .ok (.iaload, 1) := by decide +kernel
theorem dX6_tryMoves_178 : decode cX6_tryMoves 178 = .ok (.imul, 1) := by decide +kernel
theorem dX6_tryMoves_179 : decode cX6_tryMoves 179 = .ok (.iload 9, 2) := by decide +kernel
theorem dX6_tryMoves_181 : decode cX6_tryMoves 181 = .ok (.iconst 2, 1) := by decide +kernel
theorem dX6_tryMoves_182 : decode cX6_tryMoves 182 = .ok (.irem, 1) := by decide +kernel
theorem dX6_tryMoves_183 : decode cX6_tryMoves 183 = .ok (.iadd, 1) := by decide +kernel
theorem dX6_tryMoves_184 : decode cX6_tryMoves 184 = .ok (.goto 4, 3) := by decide +kernel
theorem dX6_tryMoves_187 : decode cX6_tryMoves 187 = .ok (.iconst (-1), 1) := by decide +kernel
theorem dX6_tryMoves_188 : decode cX6_tryMoves 188 = .ok (.iastore, 1) := by decide +kernel
theorem dX6_tryMoves_189 : decode cX6_tryMoves 189 = .ok (.aload_n 0, 1) := by decide +kernel
theorem dX6_tryMoves_190 : decode cX6_tryMoves 190 = .ok (.getfield 69, 3) := by decide +kernel
theorem dX6_tryMoves_193 : decode cX6_tryMoves 193 = .ok (.iconst 2, 1) := by decide +kernel
theorem dX6_tryMoves_194 : decode cX6_tryMoves 194 = .ok (.iload_n 3, 1) := by decide +kernel
theorem dX6_tryMoves_195 : decode cX6_tryMoves 195 = .ok (.iconst 2, 1) := by decide +kernel
theorem dX6_tryMoves_196 : decode cX6_tryMoves 196 = .ok (.if_icmp .le 22, 3) := by decide +kernel
theorem dX6_tryMoves_199 : decode cX6_tryMoves 199 = .ok (.iconst 2, 1) := by decide +kernel
theorem dX6_tryMoves_200 : decode cX6_tryMoves 200 = .ok (.aload_n 0, 1) := by decide +kernel
theorem dX6_tryMoves_201 : decode cX6_tryMoves 201 = .ok (.getfield 66, 3) := by decide +kernel
theorem dX6_tryMoves_204 : decode cX6_tryMoves 204 = .ok (.iload 10, 2) := by decide +kernel
theorem dX6_tryMoves_206 : decode cX6_tryMoves 206 = .ok (.iconst 2, 1) := by decide +kernel
theorem dX6_tryMoves_207 : decode cX6_tryMoves 207 = .ok (.idiv, 1) := by decide +kernel
theorem dX6_tryMoves_208 : decode cX6_tryMoves 208 = .ok (.iaload, 1) := by decide +kernel
theorem dX6_tryMoves_209 : decode cX6_tryMoves 209 = .ok (.imul, 1) := by decide +kernel
theorem dX6_tryMoves_210 : decode cX6_tryMoves 210 = .ok (.iload 10, 2) := by decide +kernel
theorem dX6_tryMoves_212 : decode cX6_tryMoves 212 = .ok (.iconst 2, 1) := by decide +kernel
theorem dX6_tryMoves_213 : decode cX6_tryMoves 213 = .ok (.irem, 1) := by decide +kernel
theorem dX6_tryMoves_214 : decode cX6_tryMoves 214 = .ok (.iadd, 1) := by decide +kernel
theorem dX6_tryMoves_215 : decode cX6_tryMoves 215 = .ok (.goto 4, 3) := by decide +kernel
theorem dX6_tryMoves_218 : decode cX6_tryMoves 218 = .ok (.iconst (-1), 1) := by decide +kernel
theorem dX6_tryMoves_219 : decode cX6_tryMoves 219 = .ok (.iastore, 1) := by decide +kernel
theorem dX6_tryMoves_220 : decode cX6_tryMoves 220 = .ok (.aload_n 0, 1) := by decide +kernel
theorem dX6_tryMoves_221 : decode cX6_tryMoves 221 = .ok (.iload_n 1, 1) := by decide +kernel
theorem dX6_tryMoves_222 : decode cX6_tryMoves 222 = .ok (.iload_n 2, 1) := by decide +kernel
theorem dX6_tryMoves_223 : decode cX6_tryMoves 223 = .ok (.iload_n 3, 1) := by decide +kernel
theorem dX6_tryMoves_224 : decode cX6_tryMoves 224 = .ok (.iload 4, 2) := by decide +kernel
theorem dX6_tryMoves_226 : decode cX6_tryMoves 226 = .ok (.invokevirtual 159, 3) := by decide +kernel
theorem dX6_tryMoves_229 : decode cX6_tryMoves 229 = .ok (.iinc 6 1, 3) := by decide +kernel
theorem dX6_tryMoves_232 : decode cX6_tryMoves 232 = .ok (.goto (-205), 3) := by decide +kernel
theorem dX6_tryMoves_235 : decode cX6_tryMoves 235 = .ok (.return_, 1) := by decide +kernel
set_option maxRecDepth 20000 in
theorem ggX6_workAnd_X6_cutsOf : GoodIn wsX6_workAnd wsX6_cutsOf := goodIn_r _ [9, 10, 2, 11, 12, 13, 8, 14, 15, 62, 63, 64, 65, 66, 67, 68, 69, 70, 71, 72, 73, 74, 75, 76, 77, 78, 79, 80, 81, 82, 83, 84, 85, 86, 87, 88] (by decide +kernel) (by decide +kernel)
set_option maxRecDepth 20000 in
theorem gX6_workAnd_X6_cutsOf : GoodIn wsX6_workAnd (wsV RX6 124 RX6 yX6_cutsOf wsX6_cutsOf) := goodIn_app (goodIn_of _ (by decide +kernel)) ggX6_workAnd_X6_cutsOf
set_option maxRecDepth 20000 in
theorem ggX6_workAnd_X6_functionOf : GoodIn wsX6_workAnd wsX6_functionOf := goodIn_r _ [19, 20, 21, 22, 8, 23, 24, 25, 26, 27, 28, 29, 30, 15, 31, 11, 12, 13, 14, 32, 33, 34, 62, 63, 64, 65, 66, 67, 68, 69, 70, 71, 72, 73, 74, 75, 76, 77, 78, 79, 80, 81, 82, 83, 84, 85, 86, 87, 88] (by decide +kernel) (by decide +kernel)
set_option maxRecDepth 20000 in
theorem gX6_workAnd_X6_functionOf : GoodIn wsX6_workAnd (wsV RX6 142 RX6 yX6_functionOf wsX6_functionOf) := goodIn_app (goodIn_of _ (by decide +kernel)) ggX6_workAnd_X6_functionOf
set_option maxRecDepth 20000 in
theorem ggX6_workAnd_X6_spread : GoodIn wsX6_workAnd wsX6_spread := goodIn_r _ [23, 24, 25, 62, 63, 64, 65, 66, 67, 68, 69, 70, 71, 72, 73, 74, 75, 76, 77, 78, 79, 80, 81, 82, 83, 84, 85, 86, 87, 88] (by decide +kernel) (by decide +kernel)
set_option maxRecDepth 20000 in
theorem gX6_workAnd_X6_spread : GoodIn wsX6_workAnd (wsV RX6 135 RX6 yX6_spread wsX6_spread) := goodIn_app (goodIn_of _ (by decide +kernel)) ggX6_workAnd_X6_spread
set_option maxRecDepth 20000 in
theorem ggX6_workAnd_X6_tryMoves : GoodIn wsX6_workAnd wsX6_tryMoves := goodIn_r _ [38, 39, 25, 40, 41, 42, 8, 43, 44, 45, 46, 47, 48, 32, 33, 34, 49, 50, 51, 52, 53, 54, 55, 56, 57, 58, 59, 60, 61, 62, 63, 64, 65, 66, 67, 68, 69, 70, 71, 72, 73, 74, 75, 76, 77, 78, 79, 80, 81, 82, 83, 84, 85, 86, 87, 88] (by decide +kernel) (by decide +kernel)
set_option maxRecDepth 20000 in
theorem gX6_workAnd_X6_tryMoves : GoodIn wsX6_workAnd (wsV RX6 163 RX6 yX6_tryMoves wsX6_tryMoves) := goodIn_app (goodIn_of _ (by decide +kernel)) ggX6_workAnd_X6_tryMoves
theorem dX6_workAnd_0 : decode cX6_workAnd 0 = .ok (.iconst 0, 1) := by decide +kernel
theorem dX6_workAnd_1 : decode cX6_workAnd 1 = .ok (.istore_n 2, 1) := by decide +kernel
theorem dX6_workAnd_2 : decode cX6_workAnd 2 = .ok (.iload_n 2, 1) := by decide +kernel
theorem dX6_workAnd_3 : decode cX6_workAnd 3 = .ok (.aload_n 0, 1) := by decide +kernel
theorem dX6_workAnd_4 : decode cX6_workAnd 4 = .ok (.iload_n 1, 1) := by decide +kernel
theorem dX6_workAnd_5 : decode cX6_workAnd 5 = .ok (.invokevirtual 124, 3) := by decide +kernel
theorem dX6_workAnd_8 : decode cX6_workAnd 8 = .ok (.if_icmp .ge 83, 3) := by decide +kernel
theorem dX6_workAnd_11 : decode cX6_workAnd 11 = .ok (.aload_n 0, 1) := by decide +kernel
theorem dX6_workAnd_12 : decode cX6_workAnd 12 = .ok (.getfield 44, 3) := by decide +kernel
theorem dX6_workAnd_15 : decode cX6_workAnd 15 = .ok (.sipush 5000, 3) := by decide +kernel
theorem dX6_workAnd_18 : decode cX6_workAnd 18 = .ok (.aload_n 0, 1) := by decide +kernel
theorem dX6_workAnd_19 : decode cX6_workAnd 19 = .ok (.getfield 37, 3) := by decide +kernel
theorem dX6_workAnd_22 : decode cX6_workAnd 22 = .ok (.iload_n 1, 1) := by decide +kernel
theorem dX6_workAnd_23 : decode cX6_workAnd 23 = .ok (.iaload, 1) := by decide +kernel
theorem dX6_workAnd_24 : decode cX6_workAnd 24 = .ok (.imul, 1) := by decide +kernel
theorem dX6_workAnd_25 : decode cX6_workAnd 25 = .ok (.iload_n 2, 1) := by decide +kernel
theorem dX6_workAnd_26 : decode cX6_workAnd 26 = .ok (.iadd, 1) := by decide +kernel
theorem dX6_workAnd_27 : decode cX6_workAnd 27 = .ok (.iaload, 1) := by decide +kernel
theorem dX6_workAnd_28 : decode cX6_workAnd 28 = .ok (.istore_n 3, 1) := by decide +kernel
theorem dX6_workAnd_29 : decode cX6_workAnd 29 = .ok (.aload_n 0, 1) := by decide +kernel
theorem dX6_workAnd_30 : decode cX6_workAnd 30 = .ok (.iload_n 1, 1) := by decide +kernel
theorem dX6_workAnd_31 : decode cX6_workAnd 31 = .ok (.iload_n 3, 1) := by decide +kernel
theorem dX6_workAnd_32 : decode cX6_workAnd 32 = .ok (.invokevirtual 142, 3) := by decide +kernel
theorem dX6_workAnd_35 : decode cX6_workAnd 35 = .ok (.istore 4, 2) := by decide +kernel
theorem dX6_workAnd_37 : decode cX6_workAnd 37 = .ok (.aload_n 0, 1) := by decide +kernel
theorem dX6_workAnd_38 : decode cX6_workAnd 38 = .ok (.iload_n 3, 1) := by decide +kernel
theorem dX6_workAnd_39 : decode cX6_workAnd 39 = .ok (.invokevirtual 135, 3) := by decide +kernel
theorem dX6_workAnd_42 : decode cX6_workAnd 42 = .ok (.istore 5, 2) := by decide +kernel
theorem dX6_workAnd_44 : decode cX6_workAnd 44 = .ok (.iconst 0, 1) := by decide +kernel
theorem dX6_workAnd_45 : decode cX6_workAnd 45 = .ok (.istore 6, 2) := by decide +kernel
theorem dX6_workAnd_47 : decode cX6_workAnd 47 = .ok (.iload 6, 2) := by decide +kernel
theorem dX6_workAnd_49 : decode cX6_workAnd 49 = .ok (.aload_n 0, 1) := by decide +kernel
theorem dX6_workAnd_50 : decode cX6_workAnd 50 = .ok (.getfield 145, 3) := by decide +kernel
theorem dX6_workAnd_53 : decode cX6_workAnd 53 = .ok (.if_icmp .ge 32, 3) := by decide +kernel
theorem dX6_workAnd_56 : decode cX6_workAnd 56 = .ok (.aload_n 0, 1) := by decide +kernel
theorem dX6_workAnd_57 : decode cX6_workAnd 57 = .ok (.getfield 25, 3) := by decide +kernel
theorem dX6_workAnd_60 : decode cX6_workAnd 60 = .ok (.iload 6, 2) := by decide +kernel
theorem dX6_workAnd_62 : decode cX6_workAnd 62 = .ok (.iaload, 1) := by decide +kernel
theorem dX6_workAnd_63 : decode cX6_workAnd 63 = .ok (.iload 5, 2) := by decide +kernel
theorem dX6_workAnd_65 : decode cX6_workAnd 65 = .ok (.if_icmp .ne 14, 3) := by decide +kernel
theorem dX6_workAnd_68 : decode cX6_workAnd 68 = .ok (.aload_n 0, 1) := by decide +kernel
theorem dX6_workAnd_69 : decode cX6_workAnd 69 = .ok (.iload_n 1, 1) := by decide +kernel
theorem dX6_workAnd_70 : decode cX6_workAnd 70 = .ok (.iload 6, 2) := by decide +kernel
theorem dX6_workAnd_72 : decode cX6_workAnd 72 = .ok (.iload 5, 2) := by decide +kernel
theorem dX6_workAnd_74 : decode cX6_workAnd 74 = .ok (.iload 4, 2) := by decide +kernel
theorem dX6_workAnd_76 : decode cX6_workAnd 76 = .ok (.invokevirtual 163, 3) := by decide +kernel
theorem dX6_workAnd_79 : decode cX6_workAnd 79 = .ok (.iinc 6 1, 3) := by decide +kernel
theorem dX6_workAnd_82 : decode cX6_workAnd 82 = .ok (.goto (-35), 3) := by decide +kernel
theorem dX6_workAnd_85 : decode cX6_workAnd 85 = .ok (.iinc 2 1, 3) := by decide +kernel
theorem dX6_workAnd_88 : decode cX6_workAnd 88 = .ok (.goto (-86), 3) := by decide +kernel
theorem dX6_workAnd_91 : decode cX6_workAnd 91 = .ok (.return_, 1) := by decide +kernel
set_option maxRecDepth 20000 in
theorem ggX6_turnBy_X6_isInput : GoodIn wsX6_turnBy wsX6_isInput := goodIn_r _ [13, 14, 15, 16, 17, 18, 19, 20, 21, 22, 23, 24, 25, 26, 27, 28, 29, 30, 31, 32, 33, 34, 35, 36, 37, 38, 39, 40, 41] (by decide +kernel) (by decide +kernel)
set_option maxRecDepth 20000 in
theorem gX6_turnBy_X6_isInput : GoodIn wsX6_turnBy (wsV RX6 111 RX6 yX6_isInput wsX6_isInput) := goodIn_app (goodIn_of _ (by decide +kernel)) ggX6_turnBy_X6_isInput
theorem dX6_turnBy_0 : decode cX6_turnBy 0 = .ok (.iload_n 1, 1) := by decide +kernel
theorem dX6_turnBy_1 : decode cX6_turnBy 1 = .ok (.iconst 1, 1) := by decide +kernel
theorem dX6_turnBy_2 : decode cX6_turnBy 2 = .ok (.ixor, 1) := by decide +kernel
theorem dX6_turnBy_3 : decode cX6_turnBy 3 = .ok (.istore_n 2, 1) := by decide +kernel
theorem dX6_turnBy_4 : decode cX6_turnBy 4 = .ok (.aload_n 0, 1) := by decide +kernel
theorem dX6_turnBy_5 : decode cX6_turnBy 5 = .ok (.iload_n 2, 1) := by decide +kernel
theorem dX6_turnBy_6 : decode cX6_turnBy 6 = .ok (.iconst 2, 1) := by decide +kernel
theorem dX6_turnBy_7 : decode cX6_turnBy 7 = .ok (.idiv, 1) := by decide +kernel
theorem dX6_turnBy_8 : decode cX6_turnBy 8 = .ok (.invokevirtual 111, 3) := by decide +kernel
theorem dX6_turnBy_11 : decode cX6_turnBy 11 = .ok (.ifCond .eq 13, 3) := by decide +kernel
theorem dX6_turnBy_14 : decode cX6_turnBy 14 = .ok (.iload_n 2, 1) := by decide +kernel
theorem dX6_turnBy_15 : decode cX6_turnBy 15 = .ok (.iconst 1, 1) := by decide +kernel
theorem dX6_turnBy_16 : decode cX6_turnBy 16 = .ok (.iand, 1) := by decide +kernel
theorem dX6_turnBy_17 : decode cX6_turnBy 17 = .ok (.ifCond .ne 7, 3) := by decide +kernel
theorem dX6_turnBy_20 : decode cX6_turnBy 20 = .ok (.iconst 1, 1) := by decide +kernel
theorem dX6_turnBy_21 : decode cX6_turnBy 21 = .ok (.goto 4, 3) := by decide +kernel
theorem dX6_turnBy_24 : decode cX6_turnBy 24 = .ok (.iconst 0, 1) := by decide +kernel
theorem dX6_turnBy_25 : decode cX6_turnBy 25 = .ok (.istore_n 3, 1) := by decide +kernel
theorem dX6_turnBy_26 : decode cX6_turnBy 26 = .ok (.iload_n 3, 1) := by decide +kernel
theorem dX6_turnBy_27 : decode cX6_turnBy 27 = .ok (.ifCond .eq 12, 3) := by decide +kernel
theorem dX6_turnBy_30 : decode cX6_turnBy 30 = .ok (.aload_n 0, 1) := by decide +kernel
theorem dX6_turnBy_31 : decode cX6_turnBy 31 = .ok (.getfield 50, 3) := by decide +kernel
theorem dX6_turnBy_34 : decode cX6_turnBy 34 = .ok (.iload_n 2, 1) := by decide +kernel
theorem dX6_turnBy_35 : decode cX6_turnBy 35 = .ok (.iaload, 1) := by decide +kernel
theorem dX6_turnBy_36 : decode cX6_turnBy 36 = .ok (.goto 9, 3) := by decide +kernel
theorem dX6_turnBy_39 : decode cX6_turnBy 39 = .ok (.aload_n 0, 1) := by decide +kernel
theorem dX6_turnBy_40 : decode cX6_turnBy 40 = .ok (.getfield 47, 3) := by decide +kernel
theorem dX6_turnBy_43 : decode cX6_turnBy 43 = .ok (.iload_n 2, 1) := by decide +kernel
theorem dX6_turnBy_44 : decode cX6_turnBy 44 = .ok (.iaload, 1) := by decide +kernel
theorem dX6_turnBy_45 : decode cX6_turnBy 45 = .ok (.istore 4, 2) := by decide +kernel
theorem dX6_turnBy_47 : decode cX6_turnBy 47 = .ok (.iconst 0, 1) := by decide +kernel
theorem dX6_turnBy_48 : decode cX6_turnBy 48 = .ok (.istore 5, 2) := by decide +kernel
theorem dX6_turnBy_50 : decode cX6_turnBy 50 = .ok (.iload 5, 2) := by decide +kernel
theorem dX6_turnBy_52 : decode cX6_turnBy 52 = .ok (.aload_n 0, 1) := by decide +kernel
theorem dX6_turnBy_53 : decode cX6_turnBy 53 = .ok (.getfield 145, 3) := by decide +kernel
theorem dX6_turnBy_56 : decode cX6_turnBy 56 = .ok (.if_icmp .ge 131, 3) := by decide +kernel
theorem dX6_turnBy_59 : decode cX6_turnBy 59 = .ok (.aload_n 0, 1) := by decide +kernel
theorem dX6_turnBy_60 : decode cX6_turnBy 60 = .ok (.getfield 25, 3) := by decide +kernel
theorem dX6_turnBy_63 : decode cX6_turnBy 63 = .ok (.iload 5, 2) := by decide +kernel
theorem dX6_turnBy_65 : decode cX6_turnBy 65 = .ok (.iaload, 1) := by decide +kernel
theorem dX6_turnBy_66 : decode cX6_turnBy 66 = .ok (.iconst 1, 1) := by decide +kernel
theorem dX6_turnBy_67 : decode cX6_turnBy 67 = .ok (.if_icmp .ne 18, 3) := by decide +kernel
theorem dX6_turnBy_70 : decode cX6_turnBy 70 = .ok (.aload_n 0, 1) := by decide +kernel
theorem dX6_turnBy_71 : decode cX6_turnBy 71 = .ok (.getfield 28, 3) := by decide +kernel
theorem dX6_turnBy_74 : decode cX6_turnBy 74 = .ok (.iload 5, 2) := by decide +kernel
theorem dX6_turnBy_76 : decode cX6_turnBy 76 = .ok (.iaload, 1) := by decide +kernel
theorem dX6_turnBy_77 : decode cX6_turnBy 77 = .ok (.iconst 1, 1) := by decide +kernel
theorem dX6_turnBy_78 : decode cX6_turnBy 78 = .ok (.if_icmp .ne 7, 3) := by decide +kernel
theorem dX6_turnBy_81 : decode cX6_turnBy 81 = .ok (.iconst 1, 1) := by decide +kernel
theorem dX6_turnBy_82 : decode cX6_turnBy 82 = .ok (.goto 4, 3) := by decide +kernel
theorem dX6_turnBy_85 : decode cX6_turnBy 85 = .ok (.iconst 0, 1) := by decide +kernel
theorem dX6_turnBy_86 : decode cX6_turnBy 86 = .ok (.istore 6, 2) := by decide +kernel
theorem dX6_turnBy_88 : decode cX6_turnBy 88 = .ok (.iload 4, 2) := by decide +kernel
theorem dX6_turnBy_90 : decode cX6_turnBy 90 = .ok (.aload_n 0, 1) := by decide +kernel
theorem dX6_turnBy_91 : decode cX6_turnBy 91 = .ok (.getfield 34, 3) := by decide +kernel
theorem dX6_turnBy_94 : decode cX6_turnBy 94 = .ok (.iconst 3, 1) := by decide +kernel
theorem dX6_turnBy_95 : decode cX6_turnBy 95 = .ok (.iload 5, 2) := by decide +kernel
theorem dX6_turnBy_97 : decode cX6_turnBy 97 = .ok (.imul, 1) := by decide +kernel
theorem dX6_turnBy_98 : decode cX6_turnBy 98 = .ok (.iaload, 1) := by decide +kernel
theorem dX6_turnBy_99 : decode cX6_turnBy 99 = .ok (.iadd, 1) := by decide +kernel
theorem dX6_turnBy_100 : decode cX6_turnBy 100 = .ok (.istore 7, 2) := by decide +kernel
theorem dX6_turnBy_102 : decode cX6_turnBy 102 = .ok (.iload 6, 2) := by decide +kernel
theorem dX6_turnBy_104 : decode cX6_turnBy 104 = .ok (.ifCond .eq 77, 3) := by decide +kernel
theorem dX6_turnBy_107 : decode cX6_turnBy 107 = .ok (.iload 4, 2) := by decide +kernel
theorem dX6_turnBy_109 : decode cX6_turnBy 109 = .ok (.iconst (-1), 1) := by decide +kernel
theorem dX6_turnBy_110 : decode cX6_turnBy 110 = .ok (.if_icmp .eq 71, 3) := by decide +kernel
theorem dX6_turnBy_113 : decode cX6_turnBy 113 = .ok (.aload_n 0, 1) := by decide +kernel
theorem dX6_turnBy_114 : decode cX6_turnBy 114 = .ok (.getfield 50, 3) := by decide +kernel
theorem dX6_turnBy_117 : decode cX6_turnBy 117 = .ok (.iload_n 1, 1) := by decide +kernel
theorem dX6_turnBy_118 : decode cX6_turnBy 118 = .ok (.iaload, 1) := by decide +kernel
theorem dX6_turnBy_119 : decode cX6_turnBy 119 = .ok (.iconst (-1), 1) := by decide +kernel
theorem dX6_turnBy_120 : decode cX6_turnBy 120 = .ok (.if_icmp .eq 14, 3) := by decide +kernel
theorem dX6_turnBy_123 : decode cX6_turnBy 123 = .ok (.iload 7, 2) := by decide +kernel
theorem dX6_turnBy_125 : decode cX6_turnBy 125 = .ok (.aload_n 0, 1) := by decide +kernel
theorem dX6_turnBy_126 : decode cX6_turnBy 126 = .ok (.getfield 50, 3) := by decide +kernel
theorem dX6_turnBy_129 : decode cX6_turnBy 129 = .ok (.iload_n 1, 1) := by decide +kernel
theorem dX6_turnBy_130 : decode cX6_turnBy 130 = .ok (.iaload, 1) := by decide +kernel
theorem dX6_turnBy_131 : decode cX6_turnBy 131 = .ok (.if_icmp .ge 50, 3) := by decide +kernel
theorem dX6_turnBy_134 : decode cX6_turnBy 134 = .ok (.aload_n 0, 1) := by decide +kernel
theorem dX6_turnBy_135 : decode cX6_turnBy 135 = .ok (.getfield 50, 3) := by decide +kernel
theorem dX6_turnBy_138 : decode cX6_turnBy 138 = .ok (.iload_n 1, 1) := by decide +kernel
theorem dX6_turnBy_139 : decode cX6_turnBy 139 = .ok (.iload 7, 2) := by decide +kernel
theorem dX6_turnBy_141 : decode cX6_turnBy 141 = .ok (.iastore, 1) := by decide +kernel
theorem dX6_turnBy_142 : decode cX6_turnBy 142 = .ok (.aload_n 0, 1) := by decide +kernel
theorem dX6_turnBy_143 : decode cX6_turnBy 143 = .ok (.getfield 53, 3) := by decide +kernel
theorem dX6_turnBy_146 : decode cX6_turnBy 146 = .ok (.iload_n 1, 1) := by decide +kernel
theorem dX6_turnBy_147 : decode cX6_turnBy 147 = .ok (.iload 5, 2) := by decide +kernel
theorem dX6_turnBy_149 : decode cX6_turnBy 149 = .ok (.iastore, 1) := by decide +kernel
theorem dX6_turnBy_150 : decode cX6_turnBy 150 = .ok (.aload_n 0, 1) := by decide +kernel
theorem dX6_turnBy_151 : decode cX6_turnBy 151 = .ok (.getfield 56, 3) := by decide +kernel
theorem dX6_turnBy_154 : decode cX6_turnBy 154 = .ok (.iconst 3, 1) := by decide +kernel
theorem dX6_turnBy_155 : decode cX6_turnBy 155 = .ok (.iload_n 1, 1) := by decide +kernel
theorem dX6_turnBy_156 : decode cX6_turnBy 156 = .ok (.imul, 1) := by decide +kernel
theorem dX6_turnBy_157 : decode cX6_turnBy 157 = .ok (.iload_n 2, 1) := by decide +kernel
theorem dX6_turnBy_158 : decode cX6_turnBy 158 = .ok (.iastore, 1) := by decide +kernel
theorem dX6_turnBy_159 : decode cX6_turnBy 159 = .ok (.aload_n 0, 1) := by decide +kernel
theorem dX6_turnBy_160 : decode cX6_turnBy 160 = .ok (.getfield 56, 3) := by decide +kernel
theorem dX6_turnBy_163 : decode cX6_turnBy 163 = .ok (.iconst 3, 1) := by decide +kernel
theorem dX6_turnBy_164 : decode cX6_turnBy 164 = .ok (.iload_n 1, 1) := by decide +kernel
theorem dX6_turnBy_165 : decode cX6_turnBy 165 = .ok (.imul, 1) := by decide +kernel
theorem dX6_turnBy_166 : decode cX6_turnBy 166 = .ok (.iconst 1, 1) := by decide +kernel
theorem dX6_turnBy_167 : decode cX6_turnBy 167 = .ok (.iadd, 1) := by decide +kernel
theorem dX6_turnBy_168 : decode cX6_turnBy 168 = .ok (.iconst (-1), 1) := by decide +kernel
theorem dX6_turnBy_169 : decode cX6_turnBy 169 = .ok (.iastore, 1) := by decide +kernel
theorem dX6_turnBy_170 : decode cX6_turnBy 170 = .ok (.aload_n 0, 1) := by decide +kernel
theorem dX6_turnBy_171 : decode cX6_turnBy 171 = .ok (.getfield 56, 3) := by decide +kernel
theorem dX6_turnBy_174 : decode cX6_turnBy 174 = .ok (.iconst 3, 1) := by decide +kernel
theorem dX6_turnBy_175 : decode cX6_turnBy 175 = .ok (.iload_n 1, 1) := by decide +kernel
theorem dX6_turnBy_176 : decode cX6_turnBy 176 = .ok (.imul, 1) := by decide +kernel
theorem dX6_turnBy_177 : decode cX6_turnBy 177 = .ok (.iconst 2, 1) := by decide +kernel
theorem dX6_turnBy_178 : decode cX6_turnBy 178 = .ok (.iadd, 1) := by decide +kernel
theorem dX6_turnBy_179 : decode cX6_turnBy 179 = .ok (.iconst (-1), 1) := by decide +kernel
theorem dX6_turnBy_180 : decode cX6_turnBy 180 = .ok (.iastore, 1) := by decide +kernel
theorem dX6_turnBy_181 : decode cX6_turnBy 181 = .ok (.iinc 5 1, 3) := by decide +kernel
theorem dX6_turnBy_184 : decode cX6_turnBy 184 = .ok (.goto (-134), 3) := by decide +kernel
theorem dX6_turnBy_187 : decode cX6_turnBy 187 = .ok (.return_, 1) := by decide +kernel
set_option maxRecDepth 20000 in
theorem ggX6_settle_X6_isInput : GoodIn wsX6_settle wsX6_isInput := goodIn_r _ [14, 15, 74, 75, 76, 77, 78, 79, 80, 81, 82, 83, 84, 85, 86, 87, 88, 89, 90, 91, 92, 93, 94, 95, 96, 97, 98, 99, 100] (by decide +kernel) (by decide +kernel)
set_option maxRecDepth 20000 in
theorem gX6_settle_X6_isInput : GoodIn wsX6_settle (wsV RX6 111 RX6 yX6_isInput wsX6_isInput) := goodIn_app (goodIn_of _ (by decide +kernel)) ggX6_settle_X6_isInput
set_option maxRecDepth 20000 in
theorem ggX6_settle_X6_turnBy : GoodIn wsX6_settle wsX6_turnBy := goodIn_r _ [19, 3, 2, 20, 21, 22, 23, 4, 5, 10, 11, 12, 13, 14, 15, 74, 75, 76, 77, 78, 79, 80, 81, 82, 83, 84, 85, 86, 87, 88, 89, 90, 91, 92, 93, 94, 95, 96, 97, 98, 99, 100] (by decide +kernel) (by decide +kernel)
set_option maxRecDepth 20000 in
theorem gX6_settle_X6_turnBy : GoodIn wsX6_settle (wsV RX6 166 RX6 yX6_turnBy wsX6_turnBy) := goodIn_app (goodIn_of _ (by decide +kernel)) ggX6_settle_X6_turnBy
set_option maxRecDepth 20000 in
theorem ggX6_settle_X6_workAnd : GoodIn wsX6_settle wsX6_workAnd := goodIn_r _ [27, 28, 29, 20, 21, 30, 31, 32, 13, 33, 34, 10, 11, 12, 14, 15, 35, 36, 37, 38, 39, 40, 41, 42, 9, 43, 44, 45, 46, 47, 48, 49, 50, 51, 52, 53, 54, 55, 56, 57, 58, 59, 60, 61, 62, 63, 64, 65, 22, 66, 67, 68, 69, 3, 23, 2, 4, 5, 70, 71, 72, 73, 74, 75, 76, 77, 78, 79, 80, 81, 82, 83, 84, 85, 86, 87, 88, 89, 90, 91, 92, 93, 94, 95, 96, 97, 98, 99, 100] (by decide +kernel) (by decide +kernel)
set_option maxRecDepth 20000 in
theorem gX6_settle_X6_workAnd : GoodIn wsX6_settle (wsV RX6 169 RX6 yX6_workAnd wsX6_workAnd) := goodIn_app (goodIn_of _ (by decide +kernel)) ggX6_settle_X6_workAnd
theorem dX6_settle_0 : decode cX6_settle 0 = .ok (.aload_n 0, 1) := by decide +kernel
theorem dX6_settle_1 : decode cX6_settle 1 = .ok (.getfield 89, 3) := by decide +kernel
theorem dX6_settle_4 : decode cX6_settle 4 = .ok (.ifCond .ne 4, 3) := by decide +kernel
theorem dX6_settle_7 : decode cX6_settle 7 = .ok (.return_, 1) := by decide +kernel
theorem dX6_settle_8 : decode cX6_settle 8 = .ok (.aload_n 0, 1) := by decide +kernel
theorem dX6_settle_9 : decode cX6_settle 9 = .ok (.iconst 0, 1) := by decide +kernel
theorem dX6_settle_10 : decode cX6_settle 10 = .ok (.putfield 89, 3) := by decide +kernel
theorem dX6_settle_13 : decode cX6_settle 13 = .ok (.iconst 0, 1) := by decide +kernel
theorem dX6_settle_14 : decode cX6_settle 14 = .ok (.istore_n 1, 1) := by decide +kernel
theorem dX6_settle_15 : decode cX6_settle 15 = .ok (.iload_n 1, 1) := by decide +kernel
theorem dX6_settle_16 : decode cX6_settle 16 = .ok (.bipush 64, 2) := by decide +kernel
theorem dX6_settle_18 : decode cX6_settle 18 = .ok (.if_icmp .ge 54, 3) := by decide +kernel
theorem dX6_settle_21 : decode cX6_settle 21 = .ok (.aload_n 0, 1) := by decide +kernel
theorem dX6_settle_22 : decode cX6_settle 22 = .ok (.getfield 47, 3) := by decide +kernel
theorem dX6_settle_25 : decode cX6_settle 25 = .ok (.iload_n 1, 1) := by decide +kernel
theorem dX6_settle_26 : decode cX6_settle 26 = .ok (.iconst (-1), 1) := by decide +kernel
theorem dX6_settle_27 : decode cX6_settle 27 = .ok (.iastore, 1) := by decide +kernel
theorem dX6_settle_28 : decode cX6_settle 28 = .ok (.aload_n 0, 1) := by decide +kernel
theorem dX6_settle_29 : decode cX6_settle 29 = .ok (.getfield 50, 3) := by decide +kernel
theorem dX6_settle_32 : decode cX6_settle 32 = .ok (.iload_n 1, 1) := by decide +kernel
theorem dX6_settle_33 : decode cX6_settle 33 = .ok (.iconst (-1), 1) := by decide +kernel
theorem dX6_settle_34 : decode cX6_settle 34 = .ok (.iastore, 1) := by decide +kernel
theorem dX6_settle_35 : decode cX6_settle 35 = .ok (.aload_n 0, 1) := by decide +kernel
theorem dX6_settle_36 : decode cX6_settle 36 = .ok (.getfield 53, 3) := by decide +kernel
theorem dX6_settle_39 : decode cX6_settle 39 = .ok (.iload_n 1, 1) := by decide +kernel
theorem dX6_settle_40 : decode cX6_settle 40 = .ok (.iconst (-1), 1) := by decide +kernel
theorem dX6_settle_41 : decode cX6_settle 41 = .ok (.iastore, 1) := by decide +kernel
theorem dX6_settle_42 : decode cX6_settle 42 = .ok (.iconst 0, 1) := by decide +kernel
theorem dX6_settle_43 : decode cX6_settle 43 = .ok (.istore_n 2, 1) := by decide +kernel
theorem dX6_settle_44 : decode cX6_settle 44 = .ok (.iload_n 2, 1) := by decide +kernel
theorem dX6_settle_45 : decode cX6_settle 45 = .ok (.iconst 3, 1) := by decide +kernel
theorem dX6_settle_46 : decode cX6_settle 46 = .ok (.if_icmp .ge 20, 3) := by decide +kernel
theorem dX6_settle_49 : decode cX6_settle 49 = .ok (.aload_n 0, 1) := by decide +kernel
theorem dX6_settle_50 : decode cX6_settle 50 = .ok (.getfield 56, 3) := by decide +kernel
theorem dX6_settle_53 : decode cX6_settle 53 = .ok (.iconst 3, 1) := by decide +kernel
theorem dX6_settle_54 : decode cX6_settle 54 = .ok (.iload_n 1, 1) := by decide +kernel
theorem dX6_settle_55 : decode cX6_settle 55 = .ok (.imul, 1) := by decide +kernel
theorem dX6_settle_56 : decode cX6_settle 56 = .ok (.iload_n 2, 1) := by decide +kernel
theorem dX6_settle_57 : decode cX6_settle 57 = .ok (.iadd, 1) := by decide +kernel
theorem dX6_settle_58 : decode cX6_settle 58 = .ok (.iconst (-1), 1) := by decide +kernel
theorem dX6_settle_59 : decode cX6_settle 59 = .ok (.iastore, 1) := by decide +kernel
theorem dX6_settle_60 : decode cX6_settle 60 = .ok (.iinc 2 1, 3) := by decide +kernel
theorem dX6_settle_63 : decode cX6_settle 63 = .ok (.goto (-19), 3) := by decide +kernel
theorem dX6_settle_66 : decode cX6_settle 66 = .ok (.iinc 1 1, 3) := by decide +kernel
theorem dX6_settle_69 : decode cX6_settle 69 = .ok (.goto (-54), 3) := by decide +kernel
theorem dX6_settle_72 : decode cX6_settle 72 = .ok (.iconst 0, 1) := by decide +kernel
theorem dX6_settle_73 : decode cX6_settle 73 = .ok (.istore_n 1, 1) := by decide +kernel
theorem dX6_settle_74 : decode cX6_settle 74 = .ok (.iload_n 1, 1) := by decide +kernel
theorem dX6_settle_75 : decode cX6_settle 75 = .ok (.aload_n 0, 1) := by decide +kernel
theorem dX6_settle_76 : decode cX6_settle 76 = .ok (.getfield 86, 3) := by decide +kernel
theorem dX6_settle_79 : decode cX6_settle 79 = .ok (.if_icmp .ge 28, 3) := by decide +kernel
theorem dX6_settle_82 : decode cX6_settle 82 = .ok (.aload_n 0, 1) := by decide +kernel
theorem dX6_settle_83 : decode cX6_settle 83 = .ok (.getfield 50, 3) := by decide +kernel
theorem dX6_settle_86 : decode cX6_settle 86 = .ok (.iconst 2, 1) := by decide +kernel
theorem dX6_settle_87 : decode cX6_settle 87 = .ok (.aload_n 0, 1) := by decide +kernel
theorem dX6_settle_88 : decode cX6_settle 88 = .ok (.getfield 16, 3) := by decide +kernel
theorem dX6_settle_91 : decode cX6_settle 91 = .ok (.iload_n 1, 1) := by decide +kernel
theorem dX6_settle_92 : decode cX6_settle 92 = .ok (.iaload, 1) := by decide +kernel
theorem dX6_settle_93 : decode cX6_settle 93 = .ok (.imul, 1) := by decide +kernel
theorem dX6_settle_94 : decode cX6_settle 94 = .ok (.aload_n 0, 1) := by decide +kernel
theorem dX6_settle_95 : decode cX6_settle 95 = .ok (.getfield 19, 3) := by decide +kernel
theorem dX6_settle_98 : decode cX6_settle 98 = .ok (.iload_n 1, 1) := by decide +kernel
theorem dX6_settle_99 : decode cX6_settle 99 = .ok (.iaload, 1) := by decide +kernel
theorem dX6_settle_100 : decode cX6_settle 100 = .ok (.iastore, 1) := by decide +kernel
theorem dX6_settle_101 : decode cX6_settle 101 = .ok (.iinc 1 1, 3) := by decide +kernel
theorem dX6_settle_104 : decode cX6_settle 104 = .ok (.goto (-30), 3) := by decide +kernel
theorem dX6_settle_107 : decode cX6_settle 107 = .ok (.iconst 0, 1) := by decide +kernel
theorem dX6_settle_108 : decode cX6_settle 108 = .ok (.istore_n 1, 1) := by decide +kernel
theorem dX6_settle_109 : decode cX6_settle 109 = .ok (.iload_n 1, 1) := by decide +kernel
theorem dX6_settle_110 : decode cX6_settle 110 = .ok (.aload_n 0, 1) := by decide +kernel
theorem dX6_settle_111 : decode cX6_settle 111 = .ok (.getfield 79, 3) := by decide +kernel
theorem dX6_settle_114 : decode cX6_settle 114 = .ok (.if_icmp .ge 86, 3) := by decide +kernel
theorem dX6_settle_117 : decode cX6_settle 117 = .ok (.aload_n 0, 1) := by decide +kernel
theorem dX6_settle_118 : decode cX6_settle 118 = .ok (.iload_n 1, 1) := by decide +kernel
theorem dX6_settle_119 : decode cX6_settle 119 = .ok (.invokevirtual 111, 3) := by decide +kernel
theorem dX6_settle_122 : decode cX6_settle 122 = .ok (.ifCond .eq 15, 3) := by decide +kernel
theorem dX6_settle_125 : decode cX6_settle 125 = .ok (.aload_n 0, 1) := by decide +kernel
theorem dX6_settle_126 : decode cX6_settle 126 = .ok (.iconst 2, 1) := by decide +kernel
theorem dX6_settle_127 : decode cX6_settle 127 = .ok (.iload_n 1, 1) := by decide +kernel
theorem dX6_settle_128 : decode cX6_settle 128 = .ok (.imul, 1) := by decide +kernel
theorem dX6_settle_129 : decode cX6_settle 129 = .ok (.iconst 1, 1) := by decide +kernel
theorem dX6_settle_130 : decode cX6_settle 130 = .ok (.iadd, 1) := by decide +kernel
theorem dX6_settle_131 : decode cX6_settle 131 = .ok (.invokevirtual 166, 3) := by decide +kernel
theorem dX6_settle_134 : decode cX6_settle 134 = .ok (.goto 60, 3) := by decide +kernel
theorem dX6_settle_137 : decode cX6_settle 137 = .ok (.aload_n 0, 1) := by decide +kernel
theorem dX6_settle_138 : decode cX6_settle 138 = .ok (.iload_n 1, 1) := by decide +kernel
theorem dX6_settle_139 : decode cX6_settle 139 = .ok (.invokevirtual 169, 3) := by decide +kernel
theorem dX6_settle_142 : decode cX6_settle 142 = .ok (.aload_n 0, 1) := by decide +kernel
theorem dX6_settle_143 : decode cX6_settle 143 = .ok (.getfield 50, 3) := by decide +kernel
theorem dX6_settle_146 : decode cX6_settle 146 = .ok (.iconst 2, 1) := by decide +kernel
theorem dX6_settle_147 : decode cX6_settle 147 = .ok (.iload_n 1, 1) := by decide +kernel
theorem dX6_settle_148 : decode cX6_settle 148 = .ok (.imul, 1) := by decide +kernel
theorem dX6_settle_149 : decode cX6_settle 149 = .ok (.aload_n 0, 1) := by decide +kernel
theorem dX6_settle_150 : decode cX6_settle 150 = .ok (.getfield 47, 3) := by decide +kernel
theorem dX6_settle_153 : decode cX6_settle 153 = .ok (.iconst 2, 1) := by decide +kernel
theorem dX6_settle_154 : decode cX6_settle 154 = .ok (.iload_n 1, 1) := by decide +kernel
theorem dX6_settle_155 : decode cX6_settle 155 = .ok (.imul, 1) := by decide +kernel
theorem dX6_settle_156 : decode cX6_settle 156 = .ok (.iaload, 1) := by decide +kernel
theorem dX6_settle_157 : decode cX6_settle 157 = .ok (.iastore, 1) := by decide +kernel
theorem dX6_settle_158 : decode cX6_settle 158 = .ok (.aload_n 0, 1) := by decide +kernel
theorem dX6_settle_159 : decode cX6_settle 159 = .ok (.getfield 50, 3) := by decide +kernel
theorem dX6_settle_162 : decode cX6_settle 162 = .ok (.iconst 2, 1) := by decide +kernel
theorem dX6_settle_163 : decode cX6_settle 163 = .ok (.iload_n 1, 1) := by decide +kernel
theorem dX6_settle_164 : decode cX6_settle 164 = .ok (.imul, 1) := by decide +kernel
theorem dX6_settle_165 : decode cX6_settle 165 = .ok (.iconst 1, 1) := by decide +kernel
theorem dX6_settle_166 : decode cX6_settle 166 = .ok (.iadd, 1) := by decide +kernel
theorem dX6_settle_167 : decode cX6_settle 167 = .ok (.aload_n 0, 1) := by decide +kernel
theorem dX6_settle_168 : decode cX6_settle 168 = .ok (.getfield 47, 3) := by decide +kernel
theorem dX6_settle_171 : decode cX6_settle 171 = .ok (.iconst 2, 1) := by decide +kernel
theorem dX6_settle_172 : decode cX6_settle 172 = .ok (.iload_n 1, 1) := by decide +kernel
theorem dX6_settle_173 : decode cX6_settle 173 = .ok (.imul, 1) := by decide +kernel
theorem dX6_settle_174 : decode cX6_settle 174 = .ok (.iconst 1, 1) := by decide +kernel
theorem dX6_settle_175 : decode cX6_settle 175 = .ok (.iadd, 1) := by decide +kernel
theorem dX6_settle_176 : decode cX6_settle 176 = .ok (.iaload, 1) := by decide +kernel
theorem dX6_settle_177 : decode cX6_settle 177 = .ok (.iastore, 1) := by decide +kernel
theorem dX6_settle_178 : decode cX6_settle 178 = .ok (.aload_n 0, 1) := by decide +kernel
theorem dX6_settle_179 : decode cX6_settle 179 = .ok (.iconst 2, 1) := by decide +kernel
theorem dX6_settle_180 : decode cX6_settle 180 = .ok (.iload_n 1, 1) := by decide +kernel
theorem dX6_settle_181 : decode cX6_settle 181 = .ok (.imul, 1) := by decide +kernel
theorem dX6_settle_182 : decode cX6_settle 182 = .ok (.invokevirtual 166, 3) := by decide +kernel
theorem dX6_settle_185 : decode cX6_settle 185 = .ok (.aload_n 0, 1) := by decide +kernel
theorem dX6_settle_186 : decode cX6_settle 186 = .ok (.iconst 2, 1) := by decide +kernel
theorem dX6_settle_187 : decode cX6_settle 187 = .ok (.iload_n 1, 1) := by decide +kernel
theorem dX6_settle_188 : decode cX6_settle 188 = .ok (.imul, 1) := by decide +kernel
theorem dX6_settle_189 : decode cX6_settle 189 = .ok (.iconst 1, 1) := by decide +kernel
theorem dX6_settle_190 : decode cX6_settle 190 = .ok (.iadd, 1) := by decide +kernel
theorem dX6_settle_191 : decode cX6_settle 191 = .ok (.invokevirtual 166, 3) := by decide +kernel
theorem dX6_settle_194 : decode cX6_settle 194 = .ok (.iinc 1 1, 3) := by decide +kernel
theorem dX6_settle_197 : decode cX6_settle 197 = .ok (.goto (-88), 3) := by decide +kernel
theorem dX6_settle_200 : decode cX6_settle 200 = .ok (.return_, 1) := by decide +kernel
set_option maxRecDepth 20000 in
theorem ggX6_arrival_X6_isLiteral : GoodIn wsX6_arrival wsX6_isLiteral := goodIn_r _ [7, 8, 9, 10, 6, 11, 86, 87, 88, 89, 90, 91, 92, 93, 94, 95, 96, 97, 98, 99, 100, 101, 102, 103, 104, 105, 106, 107, 108, 109, 110, 111, 112] (by decide +kernel) (by decide +kernel)
set_option maxRecDepth 20000 in
theorem gX6_arrival_X6_isLiteral : GoodIn wsX6_arrival (wsV RX6 93 RX6 yX6_isLiteral wsX6_isLiteral) := goodIn_app (goodIn_of _ (by decide +kernel)) ggX6_arrival_X6_isLiteral
set_option maxRecDepth 20000 in
theorem ggX6_arrival_X6_settle : GoodIn wsX6_arrival wsX6_settle := goodIn_r _ [15, 16, 17, 2, 18, 19, 20, 21, 22, 8, 23, 24, 25, 6, 26, 27, 28, 29, 30, 31, 32, 33, 34, 35, 36, 37, 38, 39, 40, 41, 42, 43, 44, 45, 46, 47, 48, 49, 50, 51, 52, 53, 54, 55, 56, 57, 58, 59, 60, 61, 62, 63, 64, 65, 66, 67, 68, 69, 70, 71, 72, 73, 74, 75, 76, 77, 78, 79, 80, 81, 82, 83, 84, 85, 86, 87, 88, 89, 90, 91, 92, 93, 94, 95, 96, 97, 98, 99, 100, 101, 102, 103, 104, 105, 106, 107, 108, 109, 110, 111, 112] (by decide +kernel) (by decide +kernel)
set_option maxRecDepth 20000 in
theorem gX6_arrival_X6_settle : GoodIn wsX6_arrival (wsV RX6 172 RX6 yX6_settle wsX6_settle) := goodIn_app (goodIn_of _ (by decide +kernel)) ggX6_arrival_X6_settle
theorem dX6_arrival_0 : decode cX6_arrival 0 = .ok (.aload_n 0, 1) := by decide +kernel
theorem dX6_arrival_1 : decode cX6_arrival 1 = .ok (.aload_n 0, 1) := by decide +kernel
theorem dX6_arrival_2 : decode cX6_arrival 2 = .ok (.iload_n 1, 1) := by decide +kernel
theorem dX6_arrival_3 : decode cX6_arrival 3 = .ok (.invokevirtual 93, 3) := by decide +kernel
theorem dX6_arrival_6 : decode cX6_arrival 6 = .ok (.ifCond .eq 7, 3) := by decide +kernel
theorem dX6_arrival_9 : decode cX6_arrival 9 = .ok (.iconst 0, 1) := by decide +kernel
theorem dX6_arrival_10 : decode cX6_arrival 10 = .ok (.goto 4, 3) := by decide +kernel
theorem dX6_arrival_13 : decode cX6_arrival 13 = .ok (.iconst 1, 1) := by decide +kernel
theorem dX6_arrival_14 : decode cX6_arrival 14 = .ok (.putfield 75, 3) := by decide +kernel
theorem dX6_arrival_17 : decode cX6_arrival 17 = .ok (.aload_n 0, 1) := by decide +kernel
theorem dX6_arrival_18 : decode cX6_arrival 18 = .ok (.getfield 75, 3) := by decide +kernel
theorem dX6_arrival_21 : decode cX6_arrival 21 = .ok (.ifCond .le 5, 3) := by decide +kernel
theorem dX6_arrival_24 : decode cX6_arrival 24 = .ok (.iconst 0, 1) := by decide +kernel
theorem dX6_arrival_25 : decode cX6_arrival 25 = .ok (.ireturn, 1) := by decide +kernel
theorem dX6_arrival_26 : decode cX6_arrival 26 = .ok (.aload_n 0, 1) := by decide +kernel
theorem dX6_arrival_27 : decode cX6_arrival 27 = .ok (.invokevirtual 172, 3) := by decide +kernel
theorem dX6_arrival_30 : decode cX6_arrival 30 = .ok (.aload_n 0, 1) := by decide +kernel
theorem dX6_arrival_31 : decode cX6_arrival 31 = .ok (.getfield 50, 3) := by decide +kernel
theorem dX6_arrival_34 : decode cX6_arrival 34 = .ok (.iload_n 1, 1) := by decide +kernel
theorem dX6_arrival_35 : decode cX6_arrival 35 = .ok (.iaload, 1) := by decide +kernel
theorem dX6_arrival_36 : decode cX6_arrival 36 = .ok (.ireturn, 1) := by decide +kernel
set_option maxRecDepth 20000 in
theorem ggX6_gate_X6_isLiteral : GoodIn wsX6_gate wsX6_isLiteral := goodIn_r _ [8, 9, 10, 11, 7, 12, 86, 87, 88, 89, 90, 91, 92, 93, 94, 95, 96, 97, 98, 99, 100, 101, 102, 103, 104, 105, 106, 107, 108, 109, 110, 111, 112] (by decide +kernel) (by decide +kernel)
set_option maxRecDepth 20000 in
theorem gX6_gate_X6_isLiteral : GoodIn wsX6_gate (wsV RX6 93 RX6 yX6_isLiteral wsX6_isLiteral) := goodIn_app (goodIn_of _ (by decide +kernel)) ggX6_gate_X6_isLiteral
set_option maxRecDepth 20000 in
theorem ggX6_gate_X6_isIn : GoodIn wsX6_gate wsX6_isIn := goodIn_r _ [12] (by decide +kernel) (by decide +kernel)
set_option maxRecDepth 20000 in
theorem gX6_gate_X6_isIn : GoodIn wsX6_gate (va_wsS RX6 82 yX6_isIn wsX6_isIn) := goodIn_app (goodIn_of _ (by decide +kernel)) ggX6_gate_X6_isIn
set_option maxRecDepth 20000 in
theorem ggX6_gate_X6_settle : GoodIn wsX6_gate wsX6_settle := goodIn_r _ [16, 17, 18, 19, 2, 3, 20, 21, 22, 9, 23, 24, 25, 7, 26, 27, 28, 29, 30, 31, 32, 33, 34, 35, 36, 37, 38, 39, 40, 41, 42, 43, 44, 45, 46, 47, 48, 49, 50, 51, 52, 53, 54, 55, 56, 57, 58, 59, 60, 61, 62, 63, 64, 65, 66, 67, 68, 69, 70, 71, 72, 73, 74, 75, 76, 77, 78, 79, 80, 81, 82, 83, 84, 85, 86, 87, 88, 89, 90, 91, 92, 93, 94, 95, 96, 97, 98, 99, 100, 101, 102, 103, 104, 105, 106, 107, 108, 109, 110, 111, 112] (by decide +kernel) (by decide +kernel)
set_option maxRecDepth 20000 in
theorem gX6_gate_X6_settle : GoodIn wsX6_gate (wsV RX6 172 RX6 yX6_settle wsX6_settle) := goodIn_app (goodIn_of _ (by decide +kernel)) ggX6_gate_X6_settle
theorem dX6_gate_0 : decode cX6_gate 0 = .ok (.aload_n 0, 1) := by decide +kernel
theorem dX6_gate_1 : decode cX6_gate 1 = .ok (.aload_n 0, 1) := by decide +kernel
theorem dX6_gate_2 : decode cX6_gate 2 = .ok (.iload_n 1, 1) := by decide +kernel
theorem dX6_gate_3 : decode cX6_gate 3 = .ok (.invokevirtual 93, 3) := by decide +kernel
theorem dX6_gate_6 : decode cX6_gate 6 = .ok (.ifCond .eq 15, 3) := by decide +kernel
theorem dX6_gate_9 : decode cX6_gate 9 = .ok (.iload_n 2, 1) := by decide +kernel
theorem dX6_gate_10 : decode cX6_gate 10 = .ok (.iconst 4, 1) := by decide +kernel
theorem dX6_gate_11 : decode cX6_gate 11 = .ok (.invokestatic 82, 3) := by decide +kernel
theorem dX6_gate_14 : decode cX6_gate 14 = .ok (.ifCond .eq 7, 3) := by decide +kernel
theorem dX6_gate_17 : decode cX6_gate 17 = .ok (.iconst 0, 1) := by decide +kernel
theorem dX6_gate_18 : decode cX6_gate 18 = .ok (.goto 4, 3) := by decide +kernel
theorem dX6_gate_21 : decode cX6_gate 21 = .ok (.iconst 1, 1) := by decide +kernel
theorem dX6_gate_22 : decode cX6_gate 22 = .ok (.putfield 75, 3) := by decide +kernel
theorem dX6_gate_25 : decode cX6_gate 25 = .ok (.aload_n 0, 1) := by decide +kernel
theorem dX6_gate_26 : decode cX6_gate 26 = .ok (.getfield 75, 3) := by decide +kernel
theorem dX6_gate_29 : decode cX6_gate 29 = .ok (.ifCond .le 5, 3) := by decide +kernel
theorem dX6_gate_32 : decode cX6_gate 32 = .ok (.iconst 0, 1) := by decide +kernel
theorem dX6_gate_33 : decode cX6_gate 33 = .ok (.ireturn, 1) := by decide +kernel
theorem dX6_gate_34 : decode cX6_gate 34 = .ok (.aload_n 0, 1) := by decide +kernel
theorem dX6_gate_35 : decode cX6_gate 35 = .ok (.invokevirtual 172, 3) := by decide +kernel
theorem dX6_gate_38 : decode cX6_gate 38 = .ok (.iload_n 2, 1) := by decide +kernel
theorem dX6_gate_39 : decode cX6_gate 39 = .ok (.ifCond .ne 12, 3) := by decide +kernel
theorem dX6_gate_42 : decode cX6_gate 42 = .ok (.aload_n 0, 1) := by decide +kernel
theorem dX6_gate_43 : decode cX6_gate 43 = .ok (.getfield 53, 3) := by decide +kernel
theorem dX6_gate_46 : decode cX6_gate 46 = .ok (.iload_n 1, 1) := by decide +kernel
theorem dX6_gate_47 : decode cX6_gate 47 = .ok (.iaload, 1) := by decide +kernel
theorem dX6_gate_48 : decode cX6_gate 48 = .ok (.goto 15, 3) := by decide +kernel
theorem dX6_gate_51 : decode cX6_gate 51 = .ok (.aload_n 0, 1) := by decide +kernel
theorem dX6_gate_52 : decode cX6_gate 52 = .ok (.getfield 56, 3) := by decide +kernel
theorem dX6_gate_55 : decode cX6_gate 55 = .ok (.iconst 3, 1) := by decide +kernel
theorem dX6_gate_56 : decode cX6_gate 56 = .ok (.iload_n 1, 1) := by decide +kernel
theorem dX6_gate_57 : decode cX6_gate 57 = .ok (.imul, 1) := by decide +kernel
theorem dX6_gate_58 : decode cX6_gate 58 = .ok (.iload_n 2, 1) := by decide +kernel
theorem dX6_gate_59 : decode cX6_gate 59 = .ok (.iadd, 1) := by decide +kernel
theorem dX6_gate_60 : decode cX6_gate 60 = .ok (.iconst 1, 1) := by decide +kernel
theorem dX6_gate_61 : decode cX6_gate 61 = .ok (.isub, 1) := by decide +kernel
theorem dX6_gate_62 : decode cX6_gate 62 = .ok (.iaload, 1) := by decide +kernel
theorem dX6_gate_63 : decode cX6_gate 63 = .ok (.ireturn, 1) := by decide +kernel
set_option maxRecDepth 20000 in
theorem ggX6_want_X6_settle : GoodIn wsX6_want wsX6_settle := goodIn_r _ [12, 13, 14, 3, 5, 7, 15, 16, 17, 6, 18, 19, 20, 11, 21, 22, 23, 24, 25, 26, 27, 28, 29, 30, 31, 32, 33, 34, 35, 36, 37, 38, 39, 40, 41, 42, 43, 44, 45, 46, 47, 48, 49, 50, 51, 52, 53, 54, 55, 56, 57, 58, 59, 60, 61, 62, 63, 64, 65, 66, 67, 68, 69, 70, 71, 72, 73, 74, 75, 76, 77, 78, 79, 80, 81, 82, 83, 84, 85, 86, 87, 88, 89, 90, 91, 92, 93, 94, 95, 96, 97, 98, 99, 100, 101, 102, 103, 104, 105, 106, 107] (by decide +kernel) (by decide +kernel)
set_option maxRecDepth 20000 in
theorem gX6_want_X6_settle : GoodIn wsX6_want (wsV RX6 172 RX6 yX6_settle wsX6_settle) := goodIn_app (goodIn_of _ (by decide +kernel)) ggX6_want_X6_settle
theorem dX6_want_0 : decode cX6_want 0 = .ok (.aload_n 0, 1) := by decide +kernel
theorem dX6_want_1 : decode cX6_want 1 = .ok (.invokevirtual 172, 3) := by decide +kernel
theorem dX6_want_4 : decode cX6_want 4 = .ok (.iconst 0, 1) := by decide +kernel
theorem dX6_want_5 : decode cX6_want 5 = .ok (.istore_n 1, 1) := by decide +kernel
theorem dX6_want_6 : decode cX6_want 6 = .ok (.iload_n 1, 1) := by decide +kernel
theorem dX6_want_7 : decode cX6_want 7 = .ok (.bipush 64, 2) := by decide +kernel
theorem dX6_want_9 : decode cX6_want 9 = .ok (.if_icmp .ge 16, 3) := by decide +kernel
theorem dX6_want_12 : decode cX6_want 12 = .ok (.aload_n 0, 1) := by decide +kernel
theorem dX6_want_13 : decode cX6_want 13 = .ok (.getfield 59, 3) := by decide +kernel
theorem dX6_want_16 : decode cX6_want 16 = .ok (.iload_n 1, 1) := by decide +kernel
theorem dX6_want_17 : decode cX6_want 17 = .ok (.iconst 0, 1) := by decide +kernel
theorem dX6_want_18 : decode cX6_want 18 = .ok (.bastore, 1) := by decide +kernel
theorem dX6_want_19 : decode cX6_want 19 = .ok (.iinc 1 1, 3) := by decide +kernel
theorem dX6_want_22 : decode cX6_want 22 = .ok (.goto (-16), 3) := by decide +kernel
theorem dX6_want_25 : decode cX6_want 25 = .ok (.iconst 0, 1) := by decide +kernel
theorem dX6_want_26 : decode cX6_want 26 = .ok (.istore_n 1, 1) := by decide +kernel
theorem dX6_want_27 : decode cX6_want 27 = .ok (.iload_n 1, 1) := by decide +kernel
theorem dX6_want_28 : decode cX6_want 28 = .ok (.aload_n 0, 1) := by decide +kernel
theorem dX6_want_29 : decode cX6_want 29 = .ok (.getfield 104, 3) := by decide +kernel
theorem dX6_want_32 : decode cX6_want 32 = .ok (.if_icmp .ge 26, 3) := by decide +kernel
theorem dX6_want_35 : decode cX6_want 35 = .ok (.aload_n 0, 1) := by decide +kernel
theorem dX6_want_36 : decode cX6_want 36 = .ok (.getfield 50, 3) := by decide +kernel
theorem dX6_want_39 : decode cX6_want 39 = .ok (.aload_n 0, 1) := by decide +kernel
theorem dX6_want_40 : decode cX6_want 40 = .ok (.getfield 22, 3) := by decide +kernel
theorem dX6_want_43 : decode cX6_want 43 = .ok (.iload_n 1, 1) := by decide +kernel
theorem dX6_want_44 : decode cX6_want 44 = .ok (.iaload, 1) := by decide +kernel
theorem dX6_want_45 : decode cX6_want 45 = .ok (.iaload, 1) := by decide +kernel
theorem dX6_want_46 : decode cX6_want 46 = .ok (.iconst (-1), 1) := by decide +kernel
theorem dX6_want_47 : decode cX6_want 47 = .ok (.if_icmp .ne 5, 3) := by decide +kernel
theorem dX6_want_50 : decode cX6_want 50 = .ok (.iload_n 1, 1) := by decide +kernel
theorem dX6_want_51 : decode cX6_want 51 = .ok (.ireturn, 1) := by decide +kernel
theorem dX6_want_52 : decode cX6_want 52 = .ok (.iinc 1 1, 3) := by decide +kernel
theorem dX6_want_55 : decode cX6_want 55 = .ok (.goto (-28), 3) := by decide +kernel
theorem dX6_want_58 : decode cX6_want 58 = .ok (.iconst 0, 1) := by decide +kernel
theorem dX6_want_59 : decode cX6_want 59 = .ok (.istore_n 1, 1) := by decide +kernel
theorem dX6_want_60 : decode cX6_want 60 = .ok (.iload_n 1, 1) := by decide +kernel
theorem dX6_want_61 : decode cX6_want 61 = .ok (.aload_n 0, 1) := by decide +kernel
theorem dX6_want_62 : decode cX6_want 62 = .ok (.getfield 104, 3) := by decide +kernel
theorem dX6_want_65 : decode cX6_want 65 = .ok (.if_icmp .ge 40, 3) := by decide +kernel
theorem dX6_want_68 : decode cX6_want 68 = .ok (.aload_n 0, 1) := by decide +kernel
theorem dX6_want_69 : decode cX6_want 69 = .ok (.getfield 59, 3) := by decide +kernel
theorem dX6_want_72 : decode cX6_want 72 = .ok (.aload_n 0, 1) := by decide +kernel
theorem dX6_want_73 : decode cX6_want 73 = .ok (.getfield 22, 3) := by decide +kernel
theorem dX6_want_76 : decode cX6_want 76 = .ok (.iload_n 1, 1) := by decide +kernel
theorem dX6_want_77 : decode cX6_want 77 = .ok (.iaload, 1) := by decide +kernel
theorem dX6_want_78 : decode cX6_want 78 = .ok (.aload_n 0, 1) := by decide +kernel
theorem dX6_want_79 : decode cX6_want 79 = .ok (.getfield 53, 3) := by decide +kernel
theorem dX6_want_82 : decode cX6_want 82 = .ok (.aload_n 0, 1) := by decide +kernel
theorem dX6_want_83 : decode cX6_want 83 = .ok (.getfield 22, 3) := by decide +kernel
theorem dX6_want_86 : decode cX6_want 86 = .ok (.iload_n 1, 1) := by decide +kernel
theorem dX6_want_87 : decode cX6_want 87 = .ok (.iaload, 1) := by decide +kernel
theorem dX6_want_88 : decode cX6_want 88 = .ok (.iaload, 1) := by decide +kernel
theorem dX6_want_89 : decode cX6_want 89 = .ok (.iconst (-1), 1) := by decide +kernel
theorem dX6_want_90 : decode cX6_want 90 = .ok (.if_icmp .eq 7, 3) := by decide +kernel
theorem dX6_want_93 : decode cX6_want 93 = .ok (.iconst 1, 1) := by decide +kernel
theorem dX6_want_94 : decode cX6_want 94 = .ok (.goto 4, 3) := by decide +kernel
theorem dX6_want_97 : decode cX6_want 97 = .ok (.iconst 0, 1) := by decide +kernel
theorem dX6_want_98 : decode cX6_want 98 = .ok (.bastore, 1) := by decide +kernel
theorem dX6_want_99 : decode cX6_want 99 = .ok (.iinc 1 1, 3) := by decide +kernel
theorem dX6_want_102 : decode cX6_want 102 = .ok (.goto (-42), 3) := by decide +kernel
theorem dX6_want_105 : decode cX6_want 105 = .ok (.iconst 1, 1) := by decide +kernel
theorem dX6_want_106 : decode cX6_want 106 = .ok (.istore_n 1, 1) := by decide +kernel
theorem dX6_want_107 : decode cX6_want 107 = .ok (.iload_n 1, 1) := by decide +kernel
theorem dX6_want_108 : decode cX6_want 108 = .ok (.ifCond .eq 97, 3) := by decide +kernel
theorem dX6_want_111 : decode cX6_want 111 = .ok (.iconst 0, 1) := by decide +kernel
theorem dX6_want_112 : decode cX6_want 112 = .ok (.istore_n 1, 1) := by decide +kernel
theorem dX6_want_113 : decode cX6_want 113 = .ok (.iconst 0, 1) := by decide +kernel
theorem dX6_want_114 : decode cX6_want 114 = .ok (.istore_n 2, 1) := by decide +kernel
theorem dX6_want_115 : decode cX6_want 115 = .ok (.iload_n 2, 1) := by decide +kernel
theorem dX6_want_116 : decode cX6_want 116 = .ok (.iconst 2, 1) := by decide +kernel
theorem dX6_want_117 : decode cX6_want 117 = .ok (.aload_n 0, 1) := by decide +kernel
theorem dX6_want_118 : decode cX6_want 118 = .ok (.getfield 79, 3) := by decide +kernel
theorem dX6_want_121 : decode cX6_want 121 = .ok (.imul, 1) := by decide +kernel
theorem dX6_want_122 : decode cX6_want 122 = .ok (.if_icmp .ge 80, 3) := by decide +kernel
theorem dX6_want_125 : decode cX6_want 125 = .ok (.iconst 0, 1) := by decide +kernel
theorem dX6_want_126 : decode cX6_want 126 = .ok (.istore_n 3, 1) := by decide +kernel
theorem dX6_want_127 : decode cX6_want 127 = .ok (.iload_n 3, 1) := by decide +kernel
theorem dX6_want_128 : decode cX6_want 128 = .ok (.iconst 3, 1) := by decide +kernel
theorem dX6_want_129 : decode cX6_want 129 = .ok (.if_icmp .ge 67, 3) := by decide +kernel
theorem dX6_want_132 : decode cX6_want 132 = .ok (.aload_n 0, 1) := by decide +kernel
theorem dX6_want_133 : decode cX6_want 133 = .ok (.getfield 59, 3) := by decide +kernel
theorem dX6_want_136 : decode cX6_want 136 = .ok (.iload_n 2, 1) := by decide +kernel
theorem dX6_want_137 : decode cX6_want 137 = .ok (.baload, 1) := by decide +kernel
theorem dX6_want_138 : decode cX6_want 138 = .ok (.ifCond .eq 58, 3) := by decide +kernel
theorem dX6_want_141 : decode cX6_want 141 = .ok (.aload_n 0, 1) := by decide +kernel
theorem dX6_want_142 : decode cX6_want 142 = .ok (.getfield 56, 3) := by decide +kernel
theorem dX6_want_145 : decode cX6_want 145 = .ok (.iconst 3, 1) := by decide +kernel
theorem dX6_want_146 : decode cX6_want 146 = .ok (.iload_n 2, 1) := by decide +kernel
theorem dX6_want_147 : decode cX6_want 147 = .ok (.imul, 1) := by decide +kernel
theorem dX6_want_148 : decode cX6_want 148 = .ok (.iload_n 3, 1) := by decide +kernel
theorem dX6_want_149 : decode cX6_want 149 = .ok (.iadd, 1) := by decide +kernel
theorem dX6_want_150 : decode cX6_want 150 = .ok (.iaload, 1) := by decide +kernel
theorem dX6_want_151 : decode cX6_want 151 = .ok (.istore 4, 2) := by decide +kernel
theorem dX6_want_153 : decode cX6_want 153 = .ok (.iload 4, 2) := by decide +kernel
theorem dX6_want_155 : decode cX6_want 155 = .ok (.iconst (-1), 1) := by decide +kernel
theorem dX6_want_156 : decode cX6_want 156 = .ok (.if_icmp .eq 34, 3) := by decide +kernel
theorem dX6_want_159 : decode cX6_want 159 = .ok (.aload_n 0, 1) := by decide +kernel
theorem dX6_want_160 : decode cX6_want 160 = .ok (.getfield 53, 3) := by decide +kernel
theorem dX6_want_163 : decode cX6_want 163 = .ok (.iload 4, 2) := by decide +kernel
theorem dX6_want_165 : decode cX6_want 165 = .ok (.iaload, 1) := by decide +kernel
theorem dX6_want_166 : decode cX6_want 166 = .ok (.iconst (-1), 1) := by decide +kernel
theorem dX6_want_167 : decode cX6_want 167 = .ok (.if_icmp .eq 23, 3) := by decide +kernel
theorem dX6_want_170 : decode cX6_want 170 = .ok (.aload_n 0, 1) := by decide +kernel
theorem dX6_want_171 : decode cX6_want 171 = .ok (.getfield 59, 3) := by decide +kernel
theorem dX6_want_174 : decode cX6_want 174 = .ok (.iload 4, 2) := by decide +kernel
theorem dX6_want_176 : decode cX6_want 176 = .ok (.baload, 1) := by decide +kernel
theorem dX6_want_177 : decode cX6_want 177 = .ok (.ifCond .ne 13, 3) := by decide +kernel
theorem dX6_want_180 : decode cX6_want 180 = .ok (.aload_n 0, 1) := by decide +kernel
theorem dX6_want_181 : decode cX6_want 181 = .ok (.getfield 59, 3) := by decide +kernel
theorem dX6_want_184 : decode cX6_want 184 = .ok (.iload 4, 2) := by decide +kernel
theorem dX6_want_186 : decode cX6_want 186 = .ok (.iconst 1, 1) := by decide +kernel
theorem dX6_want_187 : decode cX6_want 187 = .ok (.bastore, 1) := by decide +kernel
theorem dX6_want_188 : decode cX6_want 188 = .ok (.iconst 1, 1) := by decide +kernel
theorem dX6_want_189 : decode cX6_want 189 = .ok (.istore_n 1, 1) := by decide +kernel
theorem dX6_want_190 : decode cX6_want 190 = .ok (.iinc 3 1, 3) := by decide +kernel
theorem dX6_want_193 : decode cX6_want 193 = .ok (.goto (-66), 3) := by decide +kernel
theorem dX6_want_196 : decode cX6_want 196 = .ok (.iinc 2 1, 3) := by decide +kernel
theorem dX6_want_199 : decode cX6_want 199 = .ok (.goto (-84), 3) := by decide +kernel
theorem dX6_want_202 : decode cX6_want 202 = .ok (.goto (-95), 3) := by decide +kernel
theorem dX6_want_205 : decode cX6_want 205 = .ok (.iconst (-1), 1) := by decide +kernel
theorem dX6_want_206 : decode cX6_want 206 = .ok (.ireturn, 1) := by decide +kernel
theorem dX6_isWanted_0 : decode cX6_isWanted 0 = .ok (.iload_n 2, 1) := by decide +kernel
theorem dX6_isWanted_1 : decode cX6_isWanted 1 = .ok (.iconst (-1), 1) := by decide +kernel
theorem dX6_isWanted_2 : decode cX6_isWanted 2 = .ok (.if_icmp .ne 16, 3) := by decide +kernel
theorem dX6_isWanted_5 : decode cX6_isWanted 5 = .ok (.aload_n 0, 1) := by decide +kernel
theorem dX6_isWanted_6 : decode cX6_isWanted 6 = .ok (.getfield 59, 3) := by decide +kernel
theorem dX6_isWanted_9 : decode cX6_isWanted 9 = .ok (.iload_n 1, 1) := by decide +kernel
theorem dX6_isWanted_10 : decode cX6_isWanted 10 = .ok (.baload, 1) := by decide +kernel
theorem dX6_isWanted_11 : decode cX6_isWanted 11 = .ok (.ifCond .eq 7, 3) := by decide +kernel
theorem dX6_isWanted_14 : decode cX6_isWanted 14 = .ok (.iconst 1, 1) := by decide +kernel
theorem dX6_isWanted_15 : decode cX6_isWanted 15 = .ok (.goto 4, 3) := by decide +kernel
theorem dX6_isWanted_18 : decode cX6_isWanted 18 = .ok (.iconst 0, 1) := by decide +kernel
theorem dX6_isWanted_19 : decode cX6_isWanted 19 = .ok (.ireturn, 1) := by decide +kernel
set_option maxRecDepth 20000 in
theorem ggX6_run_X6_want : GoodIn wsX6_run wsX6_want := goodIn_r _ [7, 8, 9, 10, 11, 12, 2, 13, 14, 15, 16, 6, 17, 18, 19, 20, 21, 22, 23, 24, 25, 26, 27, 28, 29, 30, 31, 32, 33, 34, 35, 36, 37, 38, 39, 40, 41, 42, 43, 44, 45, 46, 47, 48, 49, 50, 51, 52, 53, 54, 55, 56, 57, 58, 59, 60, 61, 62, 63, 64, 65, 66, 67, 68, 69, 70, 71, 72, 73, 74, 75, 76, 77, 78, 79, 80, 81, 82, 83, 84, 85, 90, 91, 92, 93, 94, 95, 96, 97, 98, 99, 100, 101, 102, 103, 104, 105, 106, 107, 108, 109, 110, 111, 112, 113, 114, 115, 116] (by decide +kernel) (by decide +kernel)
set_option maxRecDepth 20000 in
theorem gX6_run_X6_want : GoodIn wsX6_run (wsV RX6 175 RX6 yX6_want wsX6_want) := goodIn_app (goodIn_of _ (by decide +kernel)) ggX6_run_X6_want
set_option maxRecDepth 20000 in
theorem ggX6_run_X6_isWanted : GoodIn wsX6_run wsX6_isWanted := goodIn_r _ [89, 8, 90, 91, 92, 93, 94, 95, 96, 97, 98, 99, 100, 101, 102, 103, 104, 105, 106, 107, 108, 109, 110, 111, 112, 113, 114, 115, 116] (by decide +kernel) (by decide +kernel)
set_option maxRecDepth 20000 in
theorem gX6_run_X6_isWanted : GoodIn wsX6_run (wsV RX6 179 RX6 yX6_isWanted wsX6_isWanted) := goodIn_app (goodIn_of _ (by decide +kernel)) ggX6_run_X6_isWanted
theorem dX6_run_0 : decode cX6_run 0 = .ok (.aload_n 0, 1) := by decide +kernel
theorem dX6_run_1 : decode cX6_run 1 = .ok (.iconst 0, 1) := by decide +kernel
theorem dX6_run_2 : decode cX6_run 2 = .ok (.putfield 75, 3) := by decide +kernel
theorem dX6_run_5 : decode cX6_run 5 = .ok (.aload_n 0, 1) := by decide +kernel
theorem dX6_run_6 : decode cX6_run 6 = .ok (.invokevirtual 175, 3) := by decide +kernel
theorem dX6_run_9 : decode cX6_run 9 = .ok (.istore_n 1, 1) := by decide +kernel
theorem dX6_run_10 : decode cX6_run 10 = .ok (.iconst 0, 1) := by decide +kernel
theorem dX6_run_11 : decode cX6_run 11 = .ok (.istore_n 2, 1) := by decide +kernel
theorem dX6_run_12 : decode cX6_run 12 = .ok (.iconst 0, 1) := by decide +kernel
theorem dX6_run_13 : decode cX6_run 13 = .ok (.istore_n 3, 1) := by decide +kernel
theorem dX6_run_14 : decode cX6_run 14 = .ok (.iload_n 3, 1) := by decide +kernel
theorem dX6_run_15 : decode cX6_run 15 = .ok (.iconst 2, 1) := by decide +kernel
theorem dX6_run_16 : decode cX6_run 16 = .ok (.aload_n 0, 1) := by decide +kernel
theorem dX6_run_17 : decode cX6_run 17 = .ok (.getfield 79, 3) := by decide +kernel
theorem dX6_run_20 : decode cX6_run 20 = .ok (.imul, 1) := by decide +kernel
theorem dX6_run_21 : decode cX6_run 21 = .ok (.if_icmp .ge 26, 3) := by decide +kernel
theorem dX6_run_24 : decode cX6_run 24 = .ok (.aload_n 0, 1) := by decide +kernel
theorem dX6_run_25 : decode cX6_run 25 = .ok (.iload_n 3, 1) := by decide +kernel
theorem dX6_run_26 : decode cX6_run 26 = .ok (.iload_n 1, 1) := by decide +kernel
theorem dX6_run_27 : decode cX6_run 27 = .ok (.invokevirtual 179, 3) := by decide +kernel
theorem dX6_run_30 : decode cX6_run 30 = .ok (.ifCond .eq 9, 3) := by decide +kernel
theorem dX6_run_33 : decode cX6_run 33 = .ok (.iload_n 2, 1) := by decide +kernel
theorem dX6_run_34 : decode cX6_run 34 = .ok (.iconst 1, 1) := by decide +kernel
theorem dX6_run_35 : decode cX6_run 35 = .ok (.iadd, 1) := by decide +kernel
theorem dX6_run_36 : decode cX6_run 36 = .ok (.goto 4, 3) := by decide +kernel
theorem dX6_run_39 : decode cX6_run 39 = .ok (.iload_n 2, 1) := by decide +kernel
theorem dX6_run_40 : decode cX6_run 40 = .ok (.istore_n 2, 1) := by decide +kernel
theorem dX6_run_41 : decode cX6_run 41 = .ok (.iinc 3 1, 3) := by decide +kernel
theorem dX6_run_44 : decode cX6_run 44 = .ok (.goto (-30), 3) := by decide +kernel
theorem dX6_run_47 : decode cX6_run 47 = .ok (.iload_n 1, 1) := by decide +kernel
theorem dX6_run_48 : decode cX6_run 48 = .ok (.iconst (-1), 1) := by decide +kernel
theorem dX6_run_49 : decode cX6_run 49 = .ok (.if_icmp .ne 7, 3) := by decide +kernel
theorem dX6_run_52 : decode cX6_run 52 = .ok (.iload_n 2, 1) := by decide +kernel
theorem dX6_run_53 : decode cX6_run 53 = .ok (.goto 6, 3) := by decide +kernel
theorem dX6_run_56 : decode cX6_run 56 = .ok (.iconst (-1), 1) := by decide +kernel
theorem dX6_run_57 : decode cX6_run 57 = .ok (.iload_n 1, 1) := by decide +kernel
theorem dX6_run_58 : decode cX6_run 58 = .ok (.isub, 1) := by decide +kernel
theorem dX6_run_59 : decode cX6_run 59 = .ok (.ireturn, 1) := by decide +kernel
set_option maxRecDepth 20000 in
theorem ggX6_wanted_X6_want : GoodIn wsX6_wanted wsX6_want := goodIn_r _ [7, 8, 9, 10, 11, 12, 2, 13, 14, 15, 16, 6, 17, 18, 19, 20, 21, 22, 23, 24, 25, 26, 27, 28, 29, 30, 31, 32, 33, 34, 35, 36, 37, 38, 39, 40, 41, 42, 43, 44, 45, 46, 47, 48, 49, 50, 51, 52, 53, 54, 55, 56, 57, 58, 59, 60, 61, 62, 63, 64, 65, 66, 67, 68, 69, 70, 71, 72, 73, 74, 75, 76, 77, 78, 79, 80, 81, 82, 83, 84, 85, 90, 91, 92, 93, 94, 95, 96, 97, 98, 99, 100, 101, 102, 103, 104, 105, 106, 107, 108, 109, 110, 111, 112, 113, 114, 115, 116] (by decide +kernel) (by decide +kernel)
set_option maxRecDepth 20000 in
theorem gX6_wanted_X6_want : GoodIn wsX6_wanted (wsV RX6 175 RX6 yX6_want wsX6_want) := goodIn_app (goodIn_of _ (by decide +kernel)) ggX6_wanted_X6_want
set_option maxRecDepth 20000 in
theorem ggX6_wanted_X6_isWanted : GoodIn wsX6_wanted wsX6_isWanted := goodIn_r _ [89, 8, 90, 91, 92, 93, 94, 95, 96, 97, 98, 99, 100, 101, 102, 103, 104, 105, 106, 107, 108, 109, 110, 111, 112, 113, 114, 115, 116] (by decide +kernel) (by decide +kernel)
set_option maxRecDepth 20000 in
theorem gX6_wanted_X6_isWanted : GoodIn wsX6_wanted (wsV RX6 179 RX6 yX6_isWanted wsX6_isWanted) := goodIn_app (goodIn_of _ (by decide +kernel)) ggX6_wanted_X6_isWanted
theorem dX6_wanted_0 : decode cX6_wanted 0 = .ok (.aload_n 0, 1) := by decide +kernel
theorem dX6_wanted_1 : decode cX6_wanted 1 = .ok (.iload_n 1, 1) := by decide +kernel
theorem dX6_wanted_2 : decode cX6_wanted 2 = .ok (.ifCond .ge 7, 3) := by decide +kernel
theorem dX6_wanted_5 : decode cX6_wanted 5 = .ok (.iconst 1, 1) := by decide +kernel
theorem dX6_wanted_6 : decode cX6_wanted 6 = .ok (.goto 4, 3) := by decide +kernel
theorem dX6_wanted_9 : decode cX6_wanted 9 = .ok (.iconst 0, 1) := by decide +kernel
theorem dX6_wanted_10 : decode cX6_wanted 10 = .ok (.putfield 75, 3) := by decide +kernel
theorem dX6_wanted_13 : decode cX6_wanted 13 = .ok (.aload_n 0, 1) := by decide +kernel
theorem dX6_wanted_14 : decode cX6_wanted 14 = .ok (.getfield 75, 3) := by decide +kernel
theorem dX6_wanted_17 : decode cX6_wanted 17 = .ok (.ifCond .le 5, 3) := by decide +kernel
theorem dX6_wanted_20 : decode cX6_wanted 20 = .ok (.iconst 0, 1) := by decide +kernel
theorem dX6_wanted_21 : decode cX6_wanted 21 = .ok (.ireturn, 1) := by decide +kernel
theorem dX6_wanted_22 : decode cX6_wanted 22 = .ok (.aload_n 0, 1) := by decide +kernel
theorem dX6_wanted_23 : decode cX6_wanted 23 = .ok (.invokevirtual 175, 3) := by decide +kernel
theorem dX6_wanted_26 : decode cX6_wanted 26 = .ok (.istore_n 2, 1) := by decide +kernel
theorem dX6_wanted_27 : decode cX6_wanted 27 = .ok (.iload_n 1, 1) := by decide +kernel
theorem dX6_wanted_28 : decode cX6_wanted 28 = .ok (.istore_n 3, 1) := by decide +kernel
theorem dX6_wanted_29 : decode cX6_wanted 29 = .ok (.iconst 0, 1) := by decide +kernel
theorem dX6_wanted_30 : decode cX6_wanted 30 = .ok (.istore 4, 2) := by decide +kernel
theorem dX6_wanted_32 : decode cX6_wanted 32 = .ok (.iload 4, 2) := by decide +kernel
theorem dX6_wanted_34 : decode cX6_wanted 34 = .ok (.iconst 2, 1) := by decide +kernel
theorem dX6_wanted_35 : decode cX6_wanted 35 = .ok (.aload_n 0, 1) := by decide +kernel
theorem dX6_wanted_36 : decode cX6_wanted 36 = .ok (.getfield 79, 3) := by decide +kernel
theorem dX6_wanted_39 : decode cX6_wanted 39 = .ok (.imul, 1) := by decide +kernel
theorem dX6_wanted_40 : decode cX6_wanted 40 = .ok (.if_icmp .ge 29, 3) := by decide +kernel
theorem dX6_wanted_43 : decode cX6_wanted 43 = .ok (.aload_n 0, 1) := by decide +kernel
theorem dX6_wanted_44 : decode cX6_wanted 44 = .ok (.iload 4, 2) := by decide +kernel
theorem dX6_wanted_46 : decode cX6_wanted 46 = .ok (.iload_n 2, 1) := by decide +kernel
theorem dX6_wanted_47 : decode cX6_wanted 47 = .ok (.invokevirtual 179, 3) := by decide +kernel
theorem dX6_wanted_50 : decode cX6_wanted 50 = .ok (.ifCond .eq 13, 3) := by decide +kernel
theorem dX6_wanted_53 : decode cX6_wanted 53 = .ok (.iload_n 3, 1) := by decide +kernel
theorem dX6_wanted_54 : decode cX6_wanted 54 = .ok (.ifCond .ne 6, 3) := by decide +kernel
theorem dX6_wanted_57 : decode cX6_wanted 57 = .ok (.iload 4, 2) := by decide +kernel
theorem dX6_wanted_59 : decode cX6_wanted 59 = .ok (.ireturn, 1) := by decide +kernel
theorem dX6_wanted_60 : decode cX6_wanted 60 = .ok (.iinc 3 (-1), 3) := by decide +kernel
theorem dX6_wanted_63 : decode cX6_wanted 63 = .ok (.iinc 4 1, 3) := by decide +kernel
theorem dX6_wanted_66 : decode cX6_wanted 66 = .ok (.goto (-34), 3) := by decide +kernel
theorem dX6_wanted_69 : decode cX6_wanted 69 = .ok (.iconst (-1), 1) := by decide +kernel
theorem dX6_wanted_70 : decode cX6_wanted 70 = .ok (.ireturn, 1) := by decide +kernel
set_option maxRecDepth 20000 in
theorem ggX6_area_X6_want : GoodIn wsX6_area wsX6_want := goodIn_r _ [9, 10, 11, 12, 13, 4, 2, 14, 15, 16, 17, 8, 18, 19, 20, 21, 22, 23, 24, 25, 26, 27, 28, 29, 30, 31, 32, 33, 34, 35, 36, 37, 38, 39, 40, 41, 42, 43, 44, 45, 46, 47, 48, 49, 50, 51, 52, 53, 54, 55, 56, 57, 58, 59, 60, 61, 62, 63, 64, 65, 66, 67, 68, 69, 70, 71, 72, 73, 74, 75, 76, 77, 78, 79, 80, 81, 82, 83, 84, 85, 86, 91, 92, 93, 94, 95, 96, 97, 98, 99, 100, 101, 102, 103, 104, 105, 106, 107, 108, 109, 110, 111, 112, 113, 114, 115, 116, 117] (by decide +kernel) (by decide +kernel)
set_option maxRecDepth 20000 in
theorem gX6_area_X6_want : GoodIn wsX6_area (wsV RX6 175 RX6 yX6_want wsX6_want) := goodIn_app (goodIn_of _ (by decide +kernel)) ggX6_area_X6_want
set_option maxRecDepth 20000 in
theorem ggX6_area_X6_isWanted : GoodIn wsX6_area wsX6_isWanted := goodIn_r _ [90, 10, 91, 92, 93, 94, 95, 96, 97, 98, 99, 100, 101, 102, 103, 104, 105, 106, 107, 108, 109, 110, 111, 112, 113, 114, 115, 116, 117] (by decide +kernel) (by decide +kernel)
set_option maxRecDepth 20000 in
theorem gX6_area_X6_isWanted : GoodIn wsX6_area (wsV RX6 179 RX6 yX6_isWanted wsX6_isWanted) := goodIn_app (goodIn_of _ (by decide +kernel)) ggX6_area_X6_isWanted
theorem dX6_area_0 : decode cX6_area 0 = .ok (.aload_n 0, 1) := by decide +kernel
theorem dX6_area_1 : decode cX6_area 1 = .ok (.iconst 0, 1) := by decide +kernel
theorem dX6_area_2 : decode cX6_area 2 = .ok (.putfield 75, 3) := by decide +kernel
theorem dX6_area_5 : decode cX6_area 5 = .ok (.aload_n 0, 1) := by decide +kernel
theorem dX6_area_6 : decode cX6_area 6 = .ok (.invokevirtual 175, 3) := by decide +kernel
theorem dX6_area_9 : decode cX6_area 9 = .ok (.istore_n 1, 1) := by decide +kernel
theorem dX6_area_10 : decode cX6_area 10 = .ok (.iconst 0, 1) := by decide +kernel
theorem dX6_area_11 : decode cX6_area 11 = .ok (.istore_n 2, 1) := by decide +kernel
theorem dX6_area_12 : decode cX6_area 12 = .ok (.iconst 0, 1) := by decide +kernel
theorem dX6_area_13 : decode cX6_area 13 = .ok (.istore_n 3, 1) := by decide +kernel
theorem dX6_area_14 : decode cX6_area 14 = .ok (.iload_n 3, 1) := by decide +kernel
theorem dX6_area_15 : decode cX6_area 15 = .ok (.iconst 2, 1) := by decide +kernel
theorem dX6_area_16 : decode cX6_area 16 = .ok (.aload_n 0, 1) := by decide +kernel
theorem dX6_area_17 : decode cX6_area 17 = .ok (.getfield 79, 3) := by decide +kernel
theorem dX6_area_20 : decode cX6_area 20 = .ok (.imul, 1) := by decide +kernel
theorem dX6_area_21 : decode cX6_area 21 = .ok (.if_icmp .ge 36, 3) := by decide +kernel
theorem dX6_area_24 : decode cX6_area 24 = .ok (.aload_n 0, 1) := by decide +kernel
theorem dX6_area_25 : decode cX6_area 25 = .ok (.iload_n 3, 1) := by decide +kernel
theorem dX6_area_26 : decode cX6_area 26 = .ok (.iload_n 1, 1) := by decide +kernel
theorem dX6_area_27 : decode cX6_area 27 = .ok (.invokevirtual 179, 3) := by decide +kernel
theorem dX6_area_30 : decode cX6_area 30 = .ok (.ifCond .eq 19, 3) := by decide +kernel
theorem dX6_area_33 : decode cX6_area 33 = .ok (.iload_n 2, 1) := by decide +kernel
theorem dX6_area_34 : decode cX6_area 34 = .ok (.aload_n 0, 1) := by decide +kernel
theorem dX6_area_35 : decode cX6_area 35 = .ok (.getfield 31, 3) := by decide +kernel
theorem dX6_area_38 : decode cX6_area 38 = .ok (.aload_n 0, 1) := by decide +kernel
theorem dX6_area_39 : decode cX6_area 39 = .ok (.getfield 53, 3) := by decide +kernel
theorem dX6_area_42 : decode cX6_area 42 = .ok (.iload_n 3, 1) := by decide +kernel
theorem dX6_area_43 : decode cX6_area 43 = .ok (.iaload, 1) := by decide +kernel
theorem dX6_area_44 : decode cX6_area 44 = .ok (.iaload, 1) := by decide +kernel
theorem dX6_area_45 : decode cX6_area 45 = .ok (.iadd, 1) := by decide +kernel
theorem dX6_area_46 : decode cX6_area 46 = .ok (.goto 4, 3) := by decide +kernel
theorem dX6_area_49 : decode cX6_area 49 = .ok (.iload_n 2, 1) := by decide +kernel
theorem dX6_area_50 : decode cX6_area 50 = .ok (.istore_n 2, 1) := by decide +kernel
theorem dX6_area_51 : decode cX6_area 51 = .ok (.iinc 3 1, 3) := by decide +kernel
theorem dX6_area_54 : decode cX6_area 54 = .ok (.goto (-40), 3) := by decide +kernel
theorem dX6_area_57 : decode cX6_area 57 = .ok (.iload_n 2, 1) := by decide +kernel
theorem dX6_area_58 : decode cX6_area 58 = .ok (.ireturn, 1) := by decide +kernel
set_option maxRecDepth 20000 in
theorem ggX6_worst_X6_settle : GoodIn wsX6_worst wsX6_settle := goodIn_r _ [9, 10, 11, 3, 12, 13, 14, 15, 16, 17, 18, 19, 20, 8, 21, 22, 23, 24, 25, 26, 27, 28, 29, 30, 31, 32, 33, 34, 35, 36, 37, 38, 39, 40, 41, 42, 43, 44, 45, 46, 47, 48, 49, 50, 51, 52, 53, 54, 55, 56, 57, 58, 59, 60, 61, 62, 63, 64, 65, 66, 67, 68, 69, 70, 71, 72, 73, 74, 75, 76, 77, 78, 79, 80, 81, 82, 83, 84, 85, 86, 87, 88, 89, 90, 91, 92, 93, 94, 95, 96, 97, 98, 99, 100, 101, 102, 103, 104, 105, 106, 107] (by decide +kernel) (by decide +kernel)
set_option maxRecDepth 20000 in
theorem gX6_worst_X6_settle : GoodIn wsX6_worst (wsV RX6 172 RX6 yX6_settle wsX6_settle) := goodIn_app (goodIn_of _ (by decide +kernel)) ggX6_worst_X6_settle
theorem dX6_worst_0 : decode cX6_worst 0 = .ok (.aload_n 0, 1) := by decide +kernel
theorem dX6_worst_1 : decode cX6_worst 1 = .ok (.iconst 0, 1) := by decide +kernel
theorem dX6_worst_2 : decode cX6_worst 2 = .ok (.putfield 75, 3) := by decide +kernel
theorem dX6_worst_5 : decode cX6_worst 5 = .ok (.aload_n 0, 1) := by decide +kernel
theorem dX6_worst_6 : decode cX6_worst 6 = .ok (.invokevirtual 172, 3) := by decide +kernel
theorem dX6_worst_9 : decode cX6_worst 9 = .ok (.iconst 0, 1) := by decide +kernel
theorem dX6_worst_10 : decode cX6_worst 10 = .ok (.istore_n 1, 1) := by decide +kernel
theorem dX6_worst_11 : decode cX6_worst 11 = .ok (.iconst 0, 1) := by decide +kernel
theorem dX6_worst_12 : decode cX6_worst 12 = .ok (.istore_n 2, 1) := by decide +kernel
theorem dX6_worst_13 : decode cX6_worst 13 = .ok (.iload_n 2, 1) := by decide +kernel
theorem dX6_worst_14 : decode cX6_worst 14 = .ok (.aload_n 0, 1) := by decide +kernel
theorem dX6_worst_15 : decode cX6_worst 15 = .ok (.getfield 104, 3) := by decide +kernel
theorem dX6_worst_18 : decode cX6_worst 18 = .ok (.if_icmp .ge 39, 3) := by decide +kernel
theorem dX6_worst_21 : decode cX6_worst 21 = .ok (.aload_n 0, 1) := by decide +kernel
theorem dX6_worst_22 : decode cX6_worst 22 = .ok (.getfield 50, 3) := by decide +kernel
theorem dX6_worst_25 : decode cX6_worst 25 = .ok (.aload_n 0, 1) := by decide +kernel
theorem dX6_worst_26 : decode cX6_worst 26 = .ok (.getfield 22, 3) := by decide +kernel
theorem dX6_worst_29 : decode cX6_worst 29 = .ok (.iload_n 2, 1) := by decide +kernel
theorem dX6_worst_30 : decode cX6_worst 30 = .ok (.iaload, 1) := by decide +kernel
theorem dX6_worst_31 : decode cX6_worst 31 = .ok (.iaload, 1) := by decide +kernel
theorem dX6_worst_32 : decode cX6_worst 32 = .ok (.istore_n 3, 1) := by decide +kernel
theorem dX6_worst_33 : decode cX6_worst 33 = .ok (.iload_n 3, 1) := by decide +kernel
theorem dX6_worst_34 : decode cX6_worst 34 = .ok (.iconst (-1), 1) := by decide +kernel
theorem dX6_worst_35 : decode cX6_worst 35 = .ok (.if_icmp .ne 5, 3) := by decide +kernel
theorem dX6_worst_38 : decode cX6_worst 38 = .ok (.iconst (-1), 1) := by decide +kernel
theorem dX6_worst_39 : decode cX6_worst 39 = .ok (.ireturn, 1) := by decide +kernel
theorem dX6_worst_40 : decode cX6_worst 40 = .ok (.iload_n 3, 1) := by decide +kernel
theorem dX6_worst_41 : decode cX6_worst 41 = .ok (.iload_n 1, 1) := by decide +kernel
theorem dX6_worst_42 : decode cX6_worst 42 = .ok (.if_icmp .le 7, 3) := by decide +kernel
theorem dX6_worst_45 : decode cX6_worst 45 = .ok (.iload_n 3, 1) := by decide +kernel
theorem dX6_worst_46 : decode cX6_worst 46 = .ok (.goto 4, 3) := by decide +kernel
theorem dX6_worst_49 : decode cX6_worst 49 = .ok (.iload_n 1, 1) := by decide +kernel
theorem dX6_worst_50 : decode cX6_worst 50 = .ok (.istore_n 1, 1) := by decide +kernel
theorem dX6_worst_51 : decode cX6_worst 51 = .ok (.iinc 2 1, 3) := by decide +kernel
theorem dX6_worst_54 : decode cX6_worst 54 = .ok (.goto (-41), 3) := by decide +kernel
theorem dX6_worst_57 : decode cX6_worst 57 = .ok (.iload_n 1, 1) := by decide +kernel
theorem dX6_worst_58 : decode cX6_worst 58 = .ok (.ireturn, 1) := by decide +kernel
theorem dX6_setInputs_0 : decode cX6_setInputs 0 = .ok (.iconst 0, 1) := by decide +kernel
theorem dX6_setInputs_1 : decode cX6_setInputs 1 = .ok (.istore_n 2, 1) := by decide +kernel
theorem dX6_setInputs_2 : decode cX6_setInputs 2 = .ok (.iload_n 2, 1) := by decide +kernel
theorem dX6_setInputs_3 : decode cX6_setInputs 3 = .ok (.aload_n 0, 1) := by decide +kernel
theorem dX6_setInputs_4 : decode cX6_setInputs 4 = .ok (.getfield 86, 3) := by decide +kernel
theorem dX6_setInputs_7 : decode cX6_setInputs 7 = .ok (.if_icmp .ge 25, 3) := by decide +kernel
theorem dX6_setInputs_10 : decode cX6_setInputs 10 = .ok (.aload_n 0, 1) := by decide +kernel
theorem dX6_setInputs_11 : decode cX6_setInputs 11 = .ok (.getfield 63, 3) := by decide +kernel
theorem dX6_setInputs_14 : decode cX6_setInputs 14 = .ok (.aload_n 0, 1) := by decide +kernel
theorem dX6_setInputs_15 : decode cX6_setInputs 15 = .ok (.getfield 16, 3) := by decide +kernel
theorem dX6_setInputs_18 : decode cX6_setInputs 18 = .ok (.iload_n 2, 1) := by decide +kernel
theorem dX6_setInputs_19 : decode cX6_setInputs 19 = .ok (.iaload, 1) := by decide +kernel
theorem dX6_setInputs_20 : decode cX6_setInputs 20 = .ok (.iload_n 1, 1) := by decide +kernel
theorem dX6_setInputs_21 : decode cX6_setInputs 21 = .ok (.iload_n 2, 1) := by decide +kernel
theorem dX6_setInputs_22 : decode cX6_setInputs 22 = .ok (.ishr, 1) := by decide +kernel
theorem dX6_setInputs_23 : decode cX6_setInputs 23 = .ok (.iconst 1, 1) := by decide +kernel
theorem dX6_setInputs_24 : decode cX6_setInputs 24 = .ok (.iand, 1) := by decide +kernel
theorem dX6_setInputs_25 : decode cX6_setInputs 25 = .ok (.iastore, 1) := by decide +kernel
theorem dX6_setInputs_26 : decode cX6_setInputs 26 = .ok (.iinc 2 1, 3) := by decide +kernel
theorem dX6_setInputs_29 : decode cX6_setInputs 29 = .ok (.goto (-27), 3) := by decide +kernel
theorem dX6_setInputs_32 : decode cX6_setInputs 32 = .ok (.return_, 1) := by decide +kernel
set_option maxRecDepth 20000 in
theorem ggX6_value_X6_isLiteral : GoodIn wsX6_value wsX6_isLiteral := goodIn_r _ [10, 2, 11, 12, 9, 13, 27, 28, 29, 30, 31, 32, 33, 34, 35, 36, 37, 38, 39, 40, 41, 42, 43, 44, 45, 46, 47, 48, 49, 50, 51, 52, 53] (by decide +kernel) (by decide +kernel)
set_option maxRecDepth 20000 in
theorem gX6_value_X6_isLiteral : GoodIn wsX6_value (wsV RX6 93 RX6 yX6_isLiteral wsX6_isLiteral) := goodIn_app (goodIn_of _ (by decide +kernel)) ggX6_value_X6_isLiteral
set_option maxRecDepth 20000 in
theorem ggX6_value_X6_setInputs : GoodIn wsX6_value wsX6_setInputs := goodIn_r _ [17, 18, 3, 19, 27, 28, 29, 30, 31, 32, 33, 34, 35, 36, 37, 38, 39, 40, 41, 42, 43, 44, 45, 46, 47, 48, 49, 50, 51, 52, 53] (by decide +kernel) (by decide +kernel)
set_option maxRecDepth 20000 in
theorem gX6_value_X6_setInputs : GoodIn wsX6_value (wsV RX6 182 RX6 yX6_setInputs wsX6_setInputs) := goodIn_app (goodIn_of _ (by decide +kernel)) ggX6_value_X6_setInputs
set_option maxRecDepth 20000 in
theorem ggX6_value_X6_isInput : GoodIn wsX6_value wsX6_isInput := goodIn_r _ [23, 4, 27, 28, 29, 30, 31, 32, 33, 34, 35, 36, 37, 38, 39, 40, 41, 42, 43, 44, 45, 46, 47, 48, 49, 50, 51, 52, 53] (by decide +kernel) (by decide +kernel)
set_option maxRecDepth 20000 in
theorem gX6_value_X6_isInput : GoodIn wsX6_value (wsV RX6 111 RX6 yX6_isInput wsX6_isInput) := goodIn_app (goodIn_of _ (by decide +kernel)) ggX6_value_X6_isInput
set_option maxRecDepth 20000 in
theorem ggX6_value_X6_turn : GoodIn wsX6_value wsX6_turn := goodIn_r _ [26] (by decide +kernel) (by decide +kernel)
set_option maxRecDepth 20000 in
theorem gX6_value_X6_turn : GoodIn wsX6_value (va_wsS RX6 131 yX6_turn wsX6_turn) := goodIn_app (goodIn_of _ (by decide +kernel)) ggX6_value_X6_turn
theorem dX6_value_0 : decode cX6_value 0 = .ok (.aload_n 0, 1) := by decide +kernel
theorem dX6_value_1 : decode cX6_value 1 = .ok (.aload_n 0, 1) := by decide +kernel
theorem dX6_value_2 : decode cX6_value 2 = .ok (.iload_n 1, 1) := by decide +kernel
theorem dX6_value_3 : decode cX6_value 3 = .ok (.invokevirtual 93, 3) := by decide +kernel
theorem dX6_value_6 : decode cX6_value 6 = .ok (.ifCond .eq 7, 3) := by decide +kernel
theorem dX6_value_9 : decode cX6_value 9 = .ok (.iconst 0, 1) := by decide +kernel
theorem dX6_value_10 : decode cX6_value 10 = .ok (.goto 4, 3) := by decide +kernel
