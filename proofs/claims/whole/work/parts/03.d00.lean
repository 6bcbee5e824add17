theorem dX0_init_0 : decode cX0_init 0 = .ok (.aload_n 0, 1) := by decide +kernel
theorem dX0_init_1 : decode cX0_init 1 = .ok (.invokespecial 1, 3) := by decide +kernel
theorem dX0_init_4 : decode cX0_init 4 = .ok (.aload_n 0, 1) := by decide +kernel
theorem dX0_init_5 : decode cX0_init 5 = .ok (.bipush 33, 2) := by decide +kernel
theorem dX0_init_7 : decode cX0_init 7 = .ok (.newarray .int, 2) := by decide +kernel
theorem dX0_init_9 : decode cX0_init 9 = .ok (.putfield 9, 3) := by decide +kernel
theorem dX0_init_12 : decode cX0_init 12 = .ok (.aload_n 0, 1) := by decide +kernel
theorem dX0_init_13 : decode cX0_init 13 = .ok (.bipush 32, 2) := by decide +kernel
theorem dX0_init_15 : decode cX0_init 15 = .ok (.newarray .int, 2) := by decide +kernel
theorem dX0_init_17 : decode cX0_init 17 = .ok (.putfield 15, 3) := by decide +kernel
theorem dX0_init_20 : decode cX0_init 20 = .ok (.aload_n 0, 1) := by decide +kernel
theorem dX0_init_21 : decode cX0_init 21 = .ok (.sipush 128, 3) := by decide +kernel
theorem dX0_init_24 : decode cX0_init 24 = .ok (.newarray .int, 2) := by decide +kernel
theorem dX0_init_26 : decode cX0_init 26 = .ok (.putfield 18, 3) := by decide +kernel
theorem dX0_init_29 : decode cX0_init 29 = .ok (.aload_n 0, 1) := by decide +kernel
theorem dX0_init_30 : decode cX0_init 30 = .ok (.sipush 128, 3) := by decide +kernel
theorem dX0_init_33 : decode cX0_init 33 = .ok (.newarray .int, 2) := by decide +kernel
theorem dX0_init_35 : decode cX0_init 35 = .ok (.putfield 21, 3) := by decide +kernel
theorem dX0_init_38 : decode cX0_init 38 = .ok (.aload_n 0, 1) := by decide +kernel
theorem dX0_init_39 : decode cX0_init 39 = .ok (.aload_n 1, 1) := by decide +kernel
theorem dX0_init_40 : decode cX0_init 40 = .ok (.putfield 24, 3) := by decide +kernel
theorem dX0_init_43 : decode cX0_init 43 = .ok (.return_, 1) := by decide +kernel
theorem dX0_size_0 : decode cX0_size 0 = .ok (.aload_n 0, 1) := by decide +kernel
theorem dX0_size_1 : decode cX0_size 1 = .ok (.getfield 9, 3) := by decide +kernel
theorem dX0_size_4 : decode cX0_size 4 = .ok (.iload_n 1, 1) := by decide +kernel
theorem dX0_size_5 : decode cX0_size 5 = .ok (.iconst 1, 1) := by decide +kernel
theorem dX0_size_6 : decode cX0_size 6 = .ok (.iadd, 1) := by decide +kernel
theorem dX0_size_7 : decode cX0_size 7 = .ok (.iaload, 1) := by decide +kernel
theorem dX0_size_8 : decode cX0_size 8 = .ok (.aload_n 0, 1) := by decide +kernel
theorem dX0_size_9 : decode cX0_size 9 = .ok (.getfield 9, 3) := by decide +kernel
theorem dX0_size_12 : decode cX0_size 12 = .ok (.iload_n 1, 1) := by decide +kernel
theorem dX0_size_13 : decode cX0_size 13 = .ok (.iaload, 1) := by decide +kernel
theorem dX0_size_14 : decode cX0_size 14 = .ok (.isub, 1) := by decide +kernel
theorem dX0_size_15 : decode cX0_size 15 = .ok (.ireturn, 1) := by decide +kernel
theorem dX0_leavesAt_0 : decode cX0_leavesAt 0 = .ok (.aload_n 0, 1) := by decide +kernel
theorem dX0_leavesAt_1 : decode cX0_leavesAt 1 = .ok (.getfield 18, 3) := by decide +kernel
theorem dX0_leavesAt_4 : decode cX0_leavesAt 4 = .ok (.aload_n 0, 1) := by decide +kernel
theorem dX0_leavesAt_5 : decode cX0_leavesAt 5 = .ok (.getfield 9, 3) := by decide +kernel
theorem dX0_leavesAt_8 : decode cX0_leavesAt 8 = .ok (.iload_n 1, 1) := by decide +kernel
theorem dX0_leavesAt_9 : decode cX0_leavesAt 9 = .ok (.iaload, 1) := by decide +kernel
theorem dX0_leavesAt_10 : decode cX0_leavesAt 10 = .ok (.iload_n 2, 1) := by decide +kernel
theorem dX0_leavesAt_11 : decode cX0_leavesAt 11 = .ok (.iadd, 1) := by decide +kernel
theorem dX0_leavesAt_12 : decode cX0_leavesAt 12 = .ok (.iaload, 1) := by decide +kernel
theorem dX0_leavesAt_13 : decode cX0_leavesAt 13 = .ok (.ireturn, 1) := by decide +kernel
theorem dX0_functionAt_0 : decode cX0_functionAt 0 = .ok (.aload_n 0, 1) := by decide +kernel
theorem dX0_functionAt_1 : decode cX0_functionAt 1 = .ok (.getfield 21, 3) := by decide +kernel
theorem dX0_functionAt_4 : decode cX0_functionAt 4 = .ok (.aload_n 0, 1) := by decide +kernel
theorem dX0_functionAt_5 : decode cX0_functionAt 5 = .ok (.getfield 9, 3) := by decide +kernel
theorem dX0_functionAt_8 : decode cX0_functionAt 8 = .ok (.iload_n 1, 1) := by decide +kernel
theorem dX0_functionAt_9 : decode cX0_functionAt 9 = .ok (.iaload, 1) := by decide +kernel
theorem dX0_functionAt_10 : decode cX0_functionAt 10 = .ok (.iload_n 2, 1) := by decide +kernel
theorem dX0_functionAt_11 : decode cX0_functionAt 11 = .ok (.iadd, 1) := by decide +kernel
theorem dX0_functionAt_12 : decode cX0_functionAt 12 = .ok (.iaload, 1) := by decide +kernel
theorem dX0_functionAt_13 : decode cX0_functionAt 13 = .ok (.ireturn, 1) := by decide +kernel
set_option maxRecDepth 20000 in
theorem ggX0_addNode_X2_isInput : GoodIn wsX0_addNode wsX2_isInput := goodIn_r _ [11, 12, 90, 91, 92, 93, 94, 95] (by decide +kernel) (by decide +kernel)
set_option maxRecDepth 20000 in
theorem gX0_addNode_X2_isInput : GoodIn wsX0_addNode (wsV RX0 28 RX2 yX2_isInput wsX2_isInput) := goodIn_app (goodIn_of _ (by decide +kernel)) ggX0_addNode_X2_isInput
set_option maxRecDepth 20000 in
theorem ggX0_addNode_X0_findCuts : GoodIn wsX0_addNode wsX0_findCuts := goodIn_r _ [17, 18, 19, 20, 16, 21, 1, 22, 23, 24, 25, 26, 27, 28, 29, 6, 30, 31, 32, 33, 34, 35, 36, 37, 38, 39, 40, 41, 42, 43, 44, 2, 3, 4, 7, 8, 9, 10, 11, 12, 45, 46, 47, 48, 5, 49, 50, 51, 52, 53, 54, 55, 56, 57, 58, 59, 60, 61, 62, 63, 64, 65, 66, 67, 85, 86, 87, 88, 89, 90, 91, 92, 93, 94, 95] (by decide +kernel) (by decide +kernel)
set_option maxRecDepth 20000 in
theorem gX0_addNode_X0_findCuts : GoodIn wsX0_addNode (wsV RX0 38 RX0 yX0_findCuts wsX0_findCuts) := goodIn_app (goodIn_of _ (by decide +kernel)) ggX0_addNode_X0_findCuts
set_option maxRecDepth 20000 in
theorem ggX0_addNode_X0_functionOf : GoodIn wsX0_addNode wsX0_functionOf := goodIn_r _ [71, 72, 2, 3, 4, 30, 31, 32, 33, 34, 35, 36, 73, 74, 75, 76, 77, 78, 79, 80, 7, 8, 9, 10, 11, 12, 81, 82, 83, 16, 84, 85, 86, 87, 88, 89, 90, 91, 92, 93, 94, 95] (by decide +kernel) (by decide +kernel)
set_option maxRecDepth 20000 in
theorem gX0_addNode_X0_functionOf : GoodIn wsX0_addNode (wsV RX0 42 RX0 yX0_functionOf wsX0_functionOf) := goodIn_app (goodIn_of _ (by decide +kernel)) ggX0_addNode_X0_functionOf
theorem dX0_addNode_0 : decode cX0_addNode 0 = .ok (.aload_n 0, 1) := by decide +kernel
theorem dX0_addNode_1 : decode cX0_addNode 1 = .ok (.getfield 9, 3) := by decide +kernel
theorem dX0_addNode_4 : decode cX0_addNode 4 = .ok (.iload_n 1, 1) := by decide +kernel
theorem dX0_addNode_5 : decode cX0_addNode 5 = .ok (.iconst 1, 1) := by decide +kernel
theorem dX0_addNode_6 : decode cX0_addNode 6 = .ok (.iadd, 1) := by decide +kernel
theorem dX0_addNode_7 : decode cX0_addNode 7 = .ok (.aload_n 0, 1) := by decide +kernel
theorem dX0_addNode_8 : decode cX0_addNode 8 = .ok (.getfield 9, 3) := by decide +kernel
theorem dX0_addNode_11 : decode cX0_addNode 11 = .ok (.iload_n 1, 1) := by decide +kernel
theorem dX0_addNode_12 : decode cX0_addNode 12 = .ok (.iaload, 1) := by decide +kernel
theorem dX0_addNode_13 : decode cX0_addNode 13 = .ok (.iastore, 1) := by decide +kernel
theorem dX0_addNode_14 : decode cX0_addNode 14 = .ok (.aload_n 0, 1) := by decide +kernel
theorem dX0_addNode_15 : decode cX0_addNode 15 = .ok (.getfield 24, 3) := by decide +kernel
theorem dX0_addNode_18 : decode cX0_addNode 18 = .ok (.iload_n 1, 1) := by decide +kernel
theorem dX0_addNode_19 : decode cX0_addNode 19 = .ok (.invokevirtual 28, 3) := by decide +kernel
theorem dX0_addNode_22 : decode cX0_addNode 22 = .ok (.ifCond .eq 4, 3) := by decide +kernel
theorem dX0_addNode_25 : decode cX0_addNode 25 = .ok (.return_, 1) := by decide +kernel
theorem dX0_addNode_26 : decode cX0_addNode 26 = .ok (.aload_n 0, 1) := by decide +kernel
theorem dX0_addNode_27 : decode cX0_addNode 27 = .ok (.iload_n 1, 1) := by decide +kernel
theorem dX0_addNode_28 : decode cX0_addNode 28 = .ok (.aload_n 0, 1) := by decide +kernel
theorem dX0_addNode_29 : decode cX0_addNode 29 = .ok (.getfield 24, 3) := by decide +kernel
theorem dX0_addNode_32 : decode cX0_addNode 32 = .ok (.getfield 32, 3) := by decide +kernel
theorem dX0_addNode_35 : decode cX0_addNode 35 = .ok (.iload_n 1, 1) := by decide +kernel
theorem dX0_addNode_36 : decode cX0_addNode 36 = .ok (.iaload, 1) := by decide +kernel
theorem dX0_addNode_37 : decode cX0_addNode 37 = .ok (.iconst 1, 1) := by decide +kernel
theorem dX0_addNode_38 : decode cX0_addNode 38 = .ok (.ishr, 1) := by decide +kernel
theorem dX0_addNode_39 : decode cX0_addNode 39 = .ok (.aload_n 0, 1) := by decide +kernel
theorem dX0_addNode_40 : decode cX0_addNode 40 = .ok (.getfield 24, 3) := by decide +kernel
theorem dX0_addNode_43 : decode cX0_addNode 43 = .ok (.getfield 35, 3) := by decide +kernel
theorem dX0_addNode_46 : decode cX0_addNode 46 = .ok (.iload_n 1, 1) := by decide +kernel
theorem dX0_addNode_47 : decode cX0_addNode 47 = .ok (.iaload, 1) := by decide +kernel
theorem dX0_addNode_48 : decode cX0_addNode 48 = .ok (.iconst 1, 1) := by decide +kernel
theorem dX0_addNode_49 : decode cX0_addNode 49 = .ok (.ishr, 1) := by decide +kernel
theorem dX0_addNode_50 : decode cX0_addNode 50 = .ok (.invokevirtual 38, 3) := by decide +kernel
theorem dX0_addNode_53 : decode cX0_addNode 53 = .ok (.aload_n 0, 1) := by decide +kernel
theorem dX0_addNode_54 : decode cX0_addNode 54 = .ok (.getfield 9, 3) := by decide +kernel
theorem dX0_addNode_57 : decode cX0_addNode 57 = .ok (.iload_n 1, 1) := by decide +kernel
theorem dX0_addNode_58 : decode cX0_addNode 58 = .ok (.iaload, 1) := by decide +kernel
theorem dX0_addNode_59 : decode cX0_addNode 59 = .ok (.istore_n 2, 1) := by decide +kernel
theorem dX0_addNode_60 : decode cX0_addNode 60 = .ok (.iload_n 2, 1) := by decide +kernel
theorem dX0_addNode_61 : decode cX0_addNode 61 = .ok (.aload_n 0, 1) := by decide +kernel
theorem dX0_addNode_62 : decode cX0_addNode 62 = .ok (.getfield 9, 3) := by decide +kernel
theorem dX0_addNode_65 : decode cX0_addNode 65 = .ok (.iload_n 1, 1) := by decide +kernel
theorem dX0_addNode_66 : decode cX0_addNode 66 = .ok (.iconst 1, 1) := by decide +kernel
theorem dX0_addNode_67 : decode cX0_addNode 67 = .ok (.iadd, 1) := by decide +kernel
theorem dX0_addNode_68 : decode cX0_addNode 68 = .ok (.iaload, 1) := by decide +kernel
theorem dX0_addNode_69 : decode cX0_addNode 69 = .ok (.if_icmp .ge 26, 3) := by decide +kernel
theorem dX0_addNode_72 : decode cX0_addNode 72 = .ok (.aload_n 0, 1) := by decide +kernel
theorem dX0_addNode_73 : decode cX0_addNode 73 = .ok (.getfield 21, 3) := by decide +kernel
theorem dX0_addNode_76 : decode cX0_addNode 76 = .ok (.iload_n 2, 1) := by decide +kernel
theorem dX0_addNode_77 : decode cX0_addNode 77 = .ok (.aload_n 0, 1) := by decide +kernel
theorem dX0_addNode_78 : decode cX0_addNode 78 = .ok (.iload_n 1, 1) := by decide +kernel
theorem dX0_addNode_79 : decode cX0_addNode 79 = .ok (.aload_n 0, 1) := by decide +kernel
theorem dX0_addNode_80 : decode cX0_addNode 80 = .ok (.getfield 18, 3) := by decide +kernel
theorem dX0_addNode_83 : decode cX0_addNode 83 = .ok (.iload_n 2, 1) := by decide +kernel
theorem dX0_addNode_84 : decode cX0_addNode 84 = .ok (.iaload, 1) := by decide +kernel
theorem dX0_addNode_85 : decode cX0_addNode 85 = .ok (.invokevirtual 42, 3) := by decide +kernel
theorem dX0_addNode_88 : decode cX0_addNode 88 = .ok (.iastore, 1) := by decide +kernel
theorem dX0_addNode_89 : decode cX0_addNode 89 = .ok (.iinc 2 1, 3) := by decide +kernel
theorem dX0_addNode_92 : decode cX0_addNode 92 = .ok (.goto (-32), 3) := by decide +kernel
theorem dX0_addNode_95 : decode cX0_addNode 95 = .ok (.return_, 1) := by decide +kernel
set_option maxRecDepth 20000 in
theorem ggX0_findCuts_X0_size : GoodIn wsX0_findCuts wsX0_size := goodIn_r _ [5, 6, 64, 65, 66, 67, 68] (by decide +kernel) (by decide +kernel)
set_option maxRecDepth 20000 in
theorem gX0_findCuts_X0_size : GoodIn wsX0_findCuts (wsV RX0 46 RX0 yX0_size wsX0_size) := goodIn_app (goodIn_of _ (by decide +kernel)) ggX0_findCuts_X0_size
set_option maxRecDepth 20000 in
theorem ggX0_findCuts_X0_cutOrItself : GoodIn wsX0_findCuts wsX0_cutOrItself := goodIn_r _ [10, 1, 2, 3, 4, 5, 6, 11, 12, 13, 14, 15, 64, 65, 66, 67, 68] (by decide +kernel) (by decide +kernel)
set_option maxRecDepth 20000 in
theorem gX0_findCuts_X0_cutOrItself : GoodIn wsX0_findCuts (wsV RX0 50 RX0 yX0_cutOrItself wsX0_cutOrItself) := goodIn_app (goodIn_of _ (by decide +kernel)) ggX0_findCuts_X0_cutOrItself
set_option maxRecDepth 20000 in
theorem ggX0_findCuts_J6_bitCount_0f7a4 : GoodIn wsX0_findCuts wsJ6_bitCount_0f7a4 := goodIn_r _ [19, 20, 21, 22] (by decide +kernel) (by decide +kernel)
set_option maxRecDepth 20000 in
theorem gX0_findCuts_J6_bitCount_0f7a4 : GoodIn wsX0_findCuts (va_wsS RX0 53 yJ6_bitCount_0f7a4 wsJ6_bitCount_0f7a4) := goodIn_app (goodIn_of _ (by decide +kernel)) ggX0_findCuts_J6_bitCount_0f7a4
set_option maxRecDepth 20000 in
theorem ggX0_findCuts_X0_isSmallest : GoodIn wsX0_findCuts wsX0_isSmallest := goodIn_r _ [26, 27, 28, 29, 4, 30, 31, 32, 33, 34, 35, 36, 37, 38, 39, 64, 65, 66, 67, 68, 69, 70, 71, 72, 73, 74] (by decide +kernel) (by decide +kernel)
set_option maxRecDepth 20000 in
theorem gX0_findCuts_X0_isSmallest : GoodIn wsX0_findCuts (wsV RX0 58 RX0 yX0_isSmallest wsX0_isSmallest) := goodIn_app (goodIn_of _ (by decide +kernel)) ggX0_findCuts_X0_isSmallest
set_option maxRecDepth 20000 in
theorem ggX0_findCuts_X0_insertCut : GoodIn wsX0_findCuts wsX0_insertCut := goodIn_r _ [43, 6, 15, 44, 45, 46, 47, 48, 49, 50, 51, 52, 53, 54, 55, 56, 57, 58, 59, 60, 61, 62, 63, 64, 65, 66, 67, 68] (by decide +kernel) (by decide +kernel)
set_option maxRecDepth 20000 in
theorem gX0_findCuts_X0_insertCut : GoodIn wsX0_findCuts (wsV RX0 62 RX0 yX0_insertCut wsX0_insertCut) := goodIn_app (goodIn_of _ (by decide +kernel)) ggX0_findCuts_X0_insertCut
theorem dX0_findCuts_0 : decode cX0_findCuts 0 = .ok (.iconst 0, 1) := by decide +kernel
theorem dX0_findCuts_1 : decode cX0_findCuts 1 = .ok (.istore 4, 2) := by decide +kernel
theorem dX0_findCuts_3 : decode cX0_findCuts 3 = .ok (.iload 4, 2) := by decide +kernel
theorem dX0_findCuts_5 : decode cX0_findCuts 5 = .ok (.aload_n 0, 1) := by decide +kernel
theorem dX0_findCuts_6 : decode cX0_findCuts 6 = .ok (.iload_n 2, 1) := by decide +kernel
theorem dX0_findCuts_7 : decode cX0_findCuts 7 = .ok (.invokevirtual 46, 3) := by decide +kernel
theorem dX0_findCuts_10 : decode cX0_findCuts 10 = .ok (.if_icmp .gt 71, 3) := by decide +kernel
theorem dX0_findCuts_13 : decode cX0_findCuts 13 = .ok (.iconst 0, 1) := by decide +kernel
theorem dX0_findCuts_14 : decode cX0_findCuts 14 = .ok (.istore 5, 2) := by decide +kernel
theorem dX0_findCuts_16 : decode cX0_findCuts 16 = .ok (.iload 5, 2) := by decide +kernel
theorem dX0_findCuts_18 : decode cX0_findCuts 18 = .ok (.aload_n 0, 1) := by decide +kernel
theorem dX0_findCuts_19 : decode cX0_findCuts 19 = .ok (.iload_n 3, 1) := by decide +kernel
theorem dX0_findCuts_20 : decode cX0_findCuts 20 = .ok (.invokevirtual 46, 3) := by decide +kernel
theorem dX0_findCuts_23 : decode cX0_findCuts 23 = .ok (.if_icmp .gt 52, 3) := by decide +kernel
theorem dX0_findCuts_26 : decode cX0_findCuts 26 = .ok (.aload_n 0, 1) := by decide +kernel
theorem dX0_findCuts_27 : decode cX0_findCuts 27 = .ok (.iload_n 2, 1) := by decide +kernel
theorem dX0_findCuts_28 : decode cX0_findCuts 28 = .ok (.iload 4, 2) := by decide +kernel
theorem dX0_findCuts_30 : decode cX0_findCuts 30 = .ok (.invokevirtual 50, 3) := by decide +kernel
theorem dX0_findCuts_33 : decode cX0_findCuts 33 = .ok (.aload_n 0, 1) := by decide +kernel
theorem dX0_findCuts_34 : decode cX0_findCuts 34 = .ok (.iload_n 3, 1) := by decide +kernel
theorem dX0_findCuts_35 : decode cX0_findCuts 35 = .ok (.iload 5, 2) := by decide +kernel
theorem dX0_findCuts_37 : decode cX0_findCuts 37 = .ok (.invokevirtual 50, 3) := by decide +kernel
theorem dX0_findCuts_40 : decode cX0_findCuts 40 = .ok (.ior, 1) := by decide +kernel
theorem dX0_findCuts_41 : decode cX0_findCuts 41 = .ok (.istore 6, 2) := by decide +kernel
theorem dX0_findCuts_43 : decode cX0_findCuts 43 = .ok (.iload 6, 2) := by decide +kernel
theorem dX0_findCuts_45 : decode cX0_findCuts 45 = .ok (.invokestatic 53, 3) := by decide +kernel
theorem dX0_findCuts_48 : decode cX0_findCuts 48 = .ok (.iconst 3, 1) := by decide +kernel
theorem dX0_findCuts_49 : decode cX0_findCuts 49 = .ok (.if_icmp .gt 20, 3) := by decide +kernel
theorem dX0_findCuts_52 : decode cX0_findCuts 52 = .ok (.aload_n 0, 1) := by decide +kernel
theorem dX0_findCuts_53 : decode cX0_findCuts 53 = .ok (.iload_n 1, 1) := by decide +kernel
theorem dX0_findCuts_54 : decode cX0_findCuts 54 = .ok (.iload 6, 2) := by decide +kernel
theorem dX0_findCuts_56 : decode cX0_findCuts 56 = .ok (.invokevirtual 58, 3) := by decide +kernel
theorem dX0_findCuts_59 : decode cX0_findCuts 59 = .ok (.ifCond .eq 10, 3) := by decide +kernel
theorem dX0_findCuts_62 : decode cX0_findCuts 62 = .ok (.aload_n 0, 1) := by decide +kernel
theorem dX0_findCuts_63 : decode cX0_findCuts 63 = .ok (.iload_n 1, 1) := by decide +kernel
theorem dX0_findCuts_64 : decode cX0_findCuts 64 = .ok (.iload 6, 2) := by decide +kernel
theorem dX0_findCuts_66 : decode cX0_findCuts 66 = .ok (.invokevirtual 62, 3) := by decide +kernel
theorem dX0_findCuts_69 : decode cX0_findCuts 69 = .ok (.iinc 5 1, 3) := by decide +kernel
theorem dX0_findCuts_72 : decode cX0_findCuts 72 = .ok (.goto (-56), 3) := by decide +kernel
theorem dX0_findCuts_75 : decode cX0_findCuts 75 = .ok (.iinc 4 1, 3) := by decide +kernel
theorem dX0_findCuts_78 : decode cX0_findCuts 78 = .ok (.goto (-75), 3) := by decide +kernel
theorem dX0_findCuts_81 : decode cX0_findCuts 81 = .ok (.return_, 1) := by decide +kernel
set_option maxRecDepth 20000 in
theorem ggX0_cutOrItself_X0_size : GoodIn wsX0_cutOrItself wsX0_size := goodIn_r _ [5, 6, 12, 13, 14, 15, 16] (by decide +kernel) (by decide +kernel)
set_option maxRecDepth 20000 in
theorem gX0_cutOrItself_X0_size : GoodIn wsX0_cutOrItself (wsV RX0 46 RX0 yX0_size wsX0_size) := goodIn_app (goodIn_of _ (by decide +kernel)) ggX0_cutOrItself_X0_size
set_option maxRecDepth 20000 in
theorem ggX0_cutOrItself_X0_leavesAt : GoodIn wsX0_cutOrItself wsX0_leavesAt := goodIn_r _ [10, 11, 6, 12, 13, 14, 15, 16] (by decide +kernel) (by decide +kernel)
set_option maxRecDepth 20000 in
theorem gX0_cutOrItself_X0_leavesAt : GoodIn wsX0_cutOrItself (wsV RX0 66 RX0 yX0_leavesAt wsX0_leavesAt) := goodIn_app (goodIn_of _ (by decide +kernel)) ggX0_cutOrItself_X0_leavesAt
theorem dX0_cutOrItself_0 : decode cX0_cutOrItself 0 = .ok (.iload_n 2, 1) := by decide +kernel
theorem dX0_cutOrItself_1 : decode cX0_cutOrItself 1 = .ok (.aload_n 0, 1) := by decide +kernel
theorem dX0_cutOrItself_2 : decode cX0_cutOrItself 2 = .ok (.iload_n 1, 1) := by decide +kernel
theorem dX0_cutOrItself_3 : decode cX0_cutOrItself 3 = .ok (.invokevirtual 46, 3) := by decide +kernel
theorem dX0_cutOrItself_6 : decode cX0_cutOrItself 6 = .ok (.if_icmp .ge 12, 3) := by decide +kernel
theorem dX0_cutOrItself_9 : decode cX0_cutOrItself 9 = .ok (.aload_n 0, 1) := by decide +kernel
theorem dX0_cutOrItself_10 : decode cX0_cutOrItself 10 = .ok (.iload_n 1, 1) := by decide +kernel
theorem dX0_cutOrItself_11 : decode cX0_cutOrItself 11 = .ok (.iload_n 2, 1) := by decide +kernel
theorem dX0_cutOrItself_12 : decode cX0_cutOrItself 12 = .ok (.invokevirtual 66, 3) := by decide +kernel
theorem dX0_cutOrItself_15 : decode cX0_cutOrItself 15 = .ok (.goto 6, 3) := by decide +kernel
theorem dX0_cutOrItself_18 : decode cX0_cutOrItself 18 = .ok (.iconst 1, 1) := by decide +kernel
theorem dX0_cutOrItself_19 : decode cX0_cutOrItself 19 = .ok (.iload_n 1, 1) := by decide +kernel
theorem dX0_cutOrItself_20 : decode cX0_cutOrItself 20 = .ok (.ishl, 1) := by decide +kernel
theorem dX0_cutOrItself_21 : decode cX0_cutOrItself 21 = .ok (.ireturn, 1) := by decide +kernel
set_option maxRecDepth 20000 in
theorem ggX0_isSmallest_X0_isMet : GoodIn wsX0_isSmallest wsX0_isMet := goodIn_r _ [5, 6, 7, 8, 9, 10, 11, 12, 13, 14, 15, 16, 17, 18, 19, 20, 21, 22, 23, 24, 25] (by decide +kernel) (by decide +kernel)
set_option maxRecDepth 20000 in
theorem gX0_isSmallest_X0_isMet : GoodIn wsX0_isSmallest (wsV RX0 69 RX0 yX0_isMet wsX0_isMet) := goodIn_app (goodIn_of _ (by decide +kernel)) ggX0_isSmallest_X0_isMet
theorem dX0_isSmallest_0 : decode cX0_isSmallest 0 = .ok (.iconst 0, 1) := by decide +kernel
theorem dX0_isSmallest_1 : decode cX0_isSmallest 1 = .ok (.istore_n 3, 1) := by decide +kernel
theorem dX0_isSmallest_2 : decode cX0_isSmallest 2 = .ok (.iload_n 3, 1) := by decide +kernel
theorem dX0_isSmallest_3 : decode cX0_isSmallest 3 = .ok (.iload_n 1, 1) := by decide +kernel
theorem dX0_isSmallest_4 : decode cX0_isSmallest 4 = .ok (.if_icmp .ge 33, 3) := by decide +kernel
theorem dX0_isSmallest_7 : decode cX0_isSmallest 7 = .ok (.iload_n 2, 1) := by decide +kernel
theorem dX0_isSmallest_8 : decode cX0_isSmallest 8 = .ok (.iload_n 3, 1) := by decide +kernel
theorem dX0_isSmallest_9 : decode cX0_isSmallest 9 = .ok (.iushr, 1) := by decide +kernel
theorem dX0_isSmallest_10 : decode cX0_isSmallest 10 = .ok (.iconst 1, 1) := by decide +kernel
theorem dX0_isSmallest_11 : decode cX0_isSmallest 11 = .ok (.iand, 1) := by decide +kernel
theorem dX0_isSmallest_12 : decode cX0_isSmallest 12 = .ok (.iconst 1, 1) := by decide +kernel
theorem dX0_isSmallest_13 : decode cX0_isSmallest 13 = .ok (.if_icmp .ne 18, 3) := by decide +kernel
theorem dX0_isSmallest_16 : decode cX0_isSmallest 16 = .ok (.aload_n 0, 1) := by decide +kernel
theorem dX0_isSmallest_17 : decode cX0_isSmallest 17 = .ok (.iload_n 1, 1) := by decide +kernel
theorem dX0_isSmallest_18 : decode cX0_isSmallest 18 = .ok (.iload_n 2, 1) := by decide +kernel
theorem dX0_isSmallest_19 : decode cX0_isSmallest 19 = .ok (.iconst 1, 1) := by decide +kernel
theorem dX0_isSmallest_20 : decode cX0_isSmallest 20 = .ok (.iload_n 3, 1) := by decide +kernel
theorem dX0_isSmallest_21 : decode cX0_isSmallest 21 = .ok (.ishl, 1) := by decide +kernel
theorem dX0_isSmallest_22 : decode cX0_isSmallest 22 = .ok (.ixor, 1) := by decide +kernel
theorem dX0_isSmallest_23 : decode cX0_isSmallest 23 = .ok (.invokevirtual 69, 3) := by decide +kernel
theorem dX0_isSmallest_26 : decode cX0_isSmallest 26 = .ok (.ifCond .eq 5, 3) := by decide +kernel
theorem dX0_isSmallest_29 : decode cX0_isSmallest 29 = .ok (.iconst 0, 1) := by decide +kernel
theorem dX0_isSmallest_30 : decode cX0_isSmallest 30 = .ok (.ireturn, 1) := by decide +kernel
theorem dX0_isSmallest_31 : decode cX0_isSmallest 31 = .ok (.iinc 3 1, 3) := by decide +kernel
theorem dX0_isSmallest_34 : decode cX0_isSmallest 34 = .ok (.goto (-32), 3) := by decide +kernel
theorem dX0_isSmallest_37 : decode cX0_isSmallest 37 = .ok (.iconst 1, 1) := by decide +kernel
theorem dX0_isSmallest_38 : decode cX0_isSmallest 38 = .ok (.ireturn, 1) := by decide +kernel
set_option maxRecDepth 20000 in
theorem ggX0_isMet_X2_isInput : GoodIn wsX0_isMet wsX2_isInput := goodIn_r _ [8, 9, 15, 16, 17, 18, 19, 20] (by decide +kernel) (by decide +kernel)
set_option maxRecDepth 20000 in
theorem gX0_isMet_X2_isInput : GoodIn wsX0_isMet (wsV RX0 28 RX2 yX2_isInput wsX2_isInput) := goodIn_app (goodIn_of _ (by decide +kernel)) ggX0_isMet_X2_isInput
theorem dX0_isMet_0 : decode cX0_isMet 0 = .ok (.iconst 1, 1) := by decide +kernel
theorem dX0_isMet_1 : decode cX0_isMet 1 = .ok (.iload_n 1, 1) := by decide +kernel
theorem dX0_isMet_2 : decode cX0_isMet 2 = .ok (.ishl, 1) := by decide +kernel
theorem dX0_isMet_3 : decode cX0_isMet 3 = .ok (.istore_n 3, 1) := by decide +kernel
theorem dX0_isMet_4 : decode cX0_isMet 4 = .ok (.iload_n 1, 1) := by decide +kernel
theorem dX0_isMet_5 : decode cX0_isMet 5 = .ok (.istore 4, 2) := by decide +kernel
theorem dX0_isMet_7 : decode cX0_isMet 7 = .ok (.iload 4, 2) := by decide +kernel
theorem dX0_isMet_9 : decode cX0_isMet 9 = .ok (.ifCond .lt 69, 3) := by decide +kernel
theorem dX0_isMet_12 : decode cX0_isMet 12 = .ok (.iload_n 3, 1) := by decide +kernel
theorem dX0_isMet_13 : decode cX0_isMet 13 = .ok (.iload_n 2, 1) := by decide +kernel
theorem dX0_isMet_14 : decode cX0_isMet 14 = .ok (.iconst (-1), 1) := by decide +kernel
theorem dX0_isMet_15 : decode cX0_isMet 15 = .ok (.ixor, 1) := by decide +kernel
theorem dX0_isMet_16 : decode cX0_isMet 16 = .ok (.iand, 1) := by decide +kernel
theorem dX0_isMet_17 : decode cX0_isMet 17 = .ok (.iload 4, 2) := by decide +kernel
theorem dX0_isMet_19 : decode cX0_isMet 19 = .ok (.iushr, 1) := by decide +kernel
theorem dX0_isMet_20 : decode cX0_isMet 20 = .ok (.iconst 1, 1) := by decide +kernel
theorem dX0_isMet_21 : decode cX0_isMet 21 = .ok (.iand, 1) := by decide +kernel
theorem dX0_isMet_22 : decode cX0_isMet 22 = .ok (.iconst 1, 1) := by decide +kernel
theorem dX0_isMet_23 : decode cX0_isMet 23 = .ok (.if_icmp .ne 49, 3) := by decide +kernel
theorem dX0_isMet_26 : decode cX0_isMet 26 = .ok (.aload_n 0, 1) := by decide +kernel
theorem dX0_isMet_27 : decode cX0_isMet 27 = .ok (.getfield 24, 3) := by decide +kernel
theorem dX0_isMet_30 : decode cX0_isMet 30 = .ok (.iload 4, 2) := by decide +kernel
theorem dX0_isMet_32 : decode cX0_isMet 32 = .ok (.invokevirtual 28, 3) := by decide +kernel
theorem dX0_isMet_35 : decode cX0_isMet 35 = .ok (.ifCond .eq 5, 3) := by decide +kernel
theorem dX0_isMet_38 : decode cX0_isMet 38 = .ok (.iconst 0, 1) := by decide +kernel
theorem dX0_isMet_39 : decode cX0_isMet 39 = .ok (.ireturn, 1) := by decide +kernel
theorem dX0_isMet_40 : decode cX0_isMet 40 = .ok (.iload_n 3, 1) := by decide +kernel
theorem dX0_isMet_41 : decode cX0_isMet 41 = .ok (.iconst 1, 1) := by decide +kernel
theorem dX0_isMet_42 : decode cX0_isMet 42 = .ok (.aload_n 0, 1) := by decide +kernel
theorem dX0_isMet_43 : decode cX0_isMet 43 = .ok (.getfield 24, 3) := by decide +kernel
theorem dX0_isMet_46 : decode cX0_isMet 46 = .ok (.getfield 32, 3) := by decide +kernel
theorem dX0_isMet_49 : decode cX0_isMet 49 = .ok (.iload 4, 2) := by decide +kernel
theorem dX0_isMet_51 : decode cX0_isMet 51 = .ok (.iaload, 1) := by decide +kernel
theorem dX0_isMet_52 : decode cX0_isMet 52 = .ok (.iconst 1, 1) := by decide +kernel
theorem dX0_isMet_53 : decode cX0_isMet 53 = .ok (.ishr, 1) := by decide +kernel
theorem dX0_isMet_54 : decode cX0_isMet 54 = .ok (.ishl, 1) := by decide +kernel
theorem dX0_isMet_55 : decode cX0_isMet 55 = .ok (.iconst 1, 1) := by decide +kernel
theorem dX0_isMet_56 : decode cX0_isMet 56 = .ok (.aload_n 0, 1) := by decide +kernel
theorem dX0_isMet_57 : decode cX0_isMet 57 = .ok (.getfield 24, 3) := by decide +kernel
theorem dX0_isMet_60 : decode cX0_isMet 60 = .ok (.getfield 35, 3) := by decide +kernel
theorem dX0_isMet_63 : decode cX0_isMet 63 = .ok (.iload 4, 2) := by decide +kernel
theorem dX0_isMet_65 : decode cX0_isMet 65 = .ok (.iaload, 1) := by decide +kernel
theorem dX0_isMet_66 : decode cX0_isMet 66 = .ok (.iconst 1, 1) := by decide +kernel
theorem dX0_isMet_67 : decode cX0_isMet 67 = .ok (.ishr, 1) := by decide +kernel
theorem dX0_isMet_68 : decode cX0_isMet 68 = .ok (.ishl, 1) := by decide +kernel
theorem dX0_isMet_69 : decode cX0_isMet 69 = .ok (.ior, 1) := by decide +kernel
theorem dX0_isMet_70 : decode cX0_isMet 70 = .ok (.ior, 1) := by decide +kernel
theorem dX0_isMet_71 : decode cX0_isMet 71 = .ok (.istore_n 3, 1) := by decide +kernel
theorem dX0_isMet_72 : decode cX0_isMet 72 = .ok (.iinc 4 (-1), 3) := by decide +kernel
theorem dX0_isMet_75 : decode cX0_isMet 75 = .ok (.goto (-68), 3) := by decide +kernel
theorem dX0_isMet_78 : decode cX0_isMet 78 = .ok (.iconst 1, 1) := by decide +kernel
theorem dX0_isMet_79 : decode cX0_isMet 79 = .ok (.ireturn, 1) := by decide +kernel
set_option maxRecDepth 20000 in
theorem ggX0_insertCut_J7_copyOf_59c91 : GoodIn wsX0_insertCut wsJ7_copyOf_59c91 := goodIn_r _ [7, 8, 9, 10, 11, 12, 13, 14, 15, 16, 17, 18, 19, 20, 21, 22] (by decide +kernel) (by decide +kernel)
set_option maxRecDepth 20000 in
theorem gX0_insertCut_J7_copyOf_59c91 : GoodIn wsX0_insertCut (va_wsS RX0 72 yJ7_copyOf_59c91 wsJ7_copyOf_59c91) := goodIn_app (goodIn_of _ (by decide +kernel)) ggX0_insertCut_J7_copyOf_59c91
theorem dX0_insertCut_0 : decode cX0_insertCut 0 = .ok (.aload_n 0, 1) := by decide +kernel
theorem dX0_insertCut_1 : decode cX0_insertCut 1 = .ok (.getfield 9, 3) := by decide +kernel
theorem dX0_insertCut_4 : decode cX0_insertCut 4 = .ok (.iload_n 1, 1) := by decide +kernel
theorem dX0_insertCut_5 : decode cX0_insertCut 5 = .ok (.iconst 1, 1) := by decide +kernel
theorem dX0_insertCut_6 : decode cX0_insertCut 6 = .ok (.iadd, 1) := by decide +kernel
theorem dX0_insertCut_7 : decode cX0_insertCut 7 = .ok (.iaload, 1) := by decide +kernel
theorem dX0_insertCut_8 : decode cX0_insertCut 8 = .ok (.istore_n 3, 1) := by decide +kernel
theorem dX0_insertCut_9 : decode cX0_insertCut 9 = .ok (.iload_n 3, 1) := by decide +kernel
theorem dX0_insertCut_10 : decode cX0_insertCut 10 = .ok (.aload_n 0, 1) := by decide +kernel
theorem dX0_insertCut_11 : decode cX0_insertCut 11 = .ok (.getfield 18, 3) := by decide +kernel
theorem dX0_insertCut_14 : decode cX0_insertCut 14 = .ok (.arraylength, 1) := by decide +kernel
theorem dX0_insertCut_15 : decode cX0_insertCut 15 = .ok (.if_icmp .lt 31, 3) := by decide +kernel
theorem dX0_insertCut_18 : decode cX0_insertCut 18 = .ok (.aload_n 0, 1) := by decide +kernel
theorem dX0_insertCut_19 : decode cX0_insertCut 19 = .ok (.aload_n 0, 1) := by decide +kernel
theorem dX0_insertCut_20 : decode cX0_insertCut 20 = .ok (.getfield 18, 3) := by decide +kernel
theorem dX0_insertCut_23 : decode cX0_insertCut 23 = .ok (.iconst 2, 1) := by decide +kernel
theorem dX0_insertCut_24 : decode cX0_insertCut 24 = .ok (.iload_n 3, 1) := by decide +kernel
theorem dX0_insertCut_25 : decode cX0_insertCut 25 = .ok (.imul, 1) := by decide +kernel
theorem dX0_insertCut_26 : decode cX0_insertCut 26 = .ok (.invokestatic 72, 3) := by decide +kernel
theorem dX0_insertCut_29 : decode cX0_insertCut 29 = .ok (.putfield 18, 3) := by decide +kernel
theorem dX0_insertCut_32 : decode cX0_insertCut 32 = .ok (.aload_n 0, 1) := by decide +kernel
theorem dX0_insertCut_33 : decode cX0_insertCut 33 = .ok (.aload_n 0, 1) := by decide +kernel
theorem dX0_insertCut_34 : decode cX0_insertCut 34 = .ok (.getfield 21, 3) := by decide +kernel
theorem dX0_insertCut_37 : decode cX0_insertCut 37 = .ok (.iconst 2, 1) := by decide +kernel
theorem dX0_insertCut_38 : decode cX0_insertCut 38 = .ok (.iload_n 3, 1) := by decide +kernel
theorem dX0_insertCut_39 : decode cX0_insertCut 39 = .ok (.imul, 1) := by decide +kernel
theorem dX0_insertCut_40 : decode cX0_insertCut 40 = .ok (.invokestatic 72, 3) := by decide +kernel
theorem dX0_insertCut_43 : decode cX0_insertCut 43 = .ok (.putfield 21, 3) := by decide +kernel
theorem dX0_insertCut_46 : decode cX0_insertCut 46 = .ok (.iload_n 3, 1) := by decide +kernel
theorem dX0_insertCut_47 : decode cX0_insertCut 47 = .ok (.istore 4, 2) := by decide +kernel
theorem dX0_insertCut_49 : decode cX0_insertCut 49 = .ok (.iload 4, 2) := by decide +kernel
theorem dX0_insertCut_51 : decode cX0_insertCut 51 = .ok (.aload_n 0, 1) := by decide +kernel
theorem dX0_insertCut_52 : decode cX0_insertCut 52 = .ok (.getfield 9, 3) := by decide +kernel
theorem dX0_insertCut_55 : decode cX0_insertCut 55 = .ok (.iload_n 1, 1) := by decide +kernel
theorem dX0_insertCut_56 : decode cX0_insertCut 56 = .ok (.iaload, 1) := by decide +kernel
theorem dX0_insertCut_57 : decode cX0_insertCut 57 = .ok (.if_icmp .le 38, 3) := by decide +kernel
theorem dX0_insertCut_60 : decode cX0_insertCut 60 = .ok (.aload_n 0, 1) := by decide +kernel
theorem dX0_insertCut_61 : decode cX0_insertCut 61 = .ok (.getfield 18, 3) := by decide +kernel
theorem dX0_insertCut_64 : decode cX0_insertCut 64 = .ok (.iload 4, 2) := by decide +kernel
theorem dX0_insertCut_66 : decode cX0_insertCut 66 = .ok (.iconst 1, 1) := by decide +kernel
theorem dX0_insertCut_67 : decode cX0_insertCut 67 = .ok (.isub, 1) := by decide +kernel
theorem dX0_insertCut_68 : decode cX0_insertCut 68 = .ok (.iaload, 1) := by decide +kernel
theorem dX0_insertCut_69 : decode cX0_insertCut 69 = .ok (.iload_n 2, 1) := by decide +kernel
theorem dX0_insertCut_70 : decode cX0_insertCut 70 = .ok (.if_icmp .le 25, 3) := by decide +kernel
theorem dX0_insertCut_73 : decode cX0_insertCut 73 = .ok (.aload_n 0, 1) := by decide +kernel
theorem dX0_insertCut_74 : decode cX0_insertCut 74 = .ok (.getfield 18, 3) := by decide +kernel
theorem dX0_insertCut_77 : decode cX0_insertCut 77 = .ok (.iload 4, 2) := by decide +kernel
theorem dX0_insertCut_79 : decode cX0_insertCut 79 = .ok (.aload_n 0, 1) := by decide +kernel
theorem dX0_insertCut_80 : decode cX0_insertCut 80 = .ok (.getfield 18, 3) := by decide +kernel
theorem dX0_insertCut_83 : decode cX0_insertCut 83 = .ok (.iload 4, 2) := by decide +kernel
theorem dX0_insertCut_85 : decode cX0_insertCut 85 = .ok (.iconst 1, 1) := by decide +kernel
theorem dX0_insertCut_86 : decode cX0_insertCut 86 = .ok (.isub, 1) := by decide +kernel
theorem dX0_insertCut_87 : decode cX0_insertCut 87 = .ok (.iaload, 1) := by decide +kernel
theorem dX0_insertCut_88 : decode cX0_insertCut 88 = .ok (.iastore, 1) := by decide +kernel
theorem dX0_insertCut_89 : decode cX0_insertCut 89 = .ok (.iinc 4 (-1), 3) := by decide +kernel
theorem dX0_insertCut_92 : decode cX0_insertCut 92 = .ok (.goto (-43), 3) := by decide +kernel
theorem dX0_insertCut_95 : decode cX0_insertCut 95 = .ok (.aload_n 0, 1) := by decide +kernel
theorem dX0_insertCut_96 : decode cX0_insertCut 96 = .ok (.getfield 18, 3) := by decide +kernel
theorem dX0_insertCut_99 : decode cX0_insertCut 99 = .ok (.iload 4, 2) := by decide +kernel
theorem dX0_insertCut_101 : decode cX0_insertCut 101 = .ok (.iload_n 2, 1) := by decide +kernel
theorem dX0_insertCut_102 : decode cX0_insertCut 102 = .ok (.iastore, 1) := by decide +kernel
theorem dX0_insertCut_103 : decode cX0_insertCut 103 = .ok (.aload_n 0, 1) := by decide +kernel
theorem dX0_insertCut_104 : decode cX0_insertCut 104 = .ok (.getfield 9, 3) := by decide +kernel
theorem dX0_insertCut_107 : decode cX0_insertCut 107 = .ok (.iload_n 1, 1) := by decide +kernel
theorem dX0_insertCut_108 : decode cX0_insertCut 108 = .ok (.iconst 1, 1) := by decide +kernel
theorem dX0_insertCut_109 : decode cX0_insertCut 109 = .ok (.iadd, 1) := by decide +kernel
theorem dX0_insertCut_110 : decode cX0_insertCut 110 = .ok (.iload_n 3, 1) := by decide +kernel
theorem dX0_insertCut_111 : decode cX0_insertCut 111 = .ok (.iconst 1, 1) := by decide +kernel
theorem dX0_insertCut_112 : decode cX0_insertCut 112 = .ok (.iadd, 1) := by decide +kernel
theorem dX0_insertCut_113 : decode cX0_insertCut 113 = .ok (.iastore, 1) := by decide +kernel
theorem dX0_insertCut_114 : decode cX0_insertCut 114 = .ok (.return_, 1) := by decide +kernel
set_option maxRecDepth 20000 in
theorem ggX0_functionOf_J6_bitCount_0f7a4 : GoodIn wsX0_functionOf wsJ6_bitCount_0f7a4 := goodIn_r _ [8, 9, 10, 11] (by decide +kernel) (by decide +kernel)
set_option maxRecDepth 20000 in
theorem gX0_functionOf_J6_bitCount_0f7a4 : GoodIn wsX0_functionOf (va_wsS RX0 53 yJ6_bitCount_0f7a4 wsJ6_bitCount_0f7a4) := goodIn_app (goodIn_of _ (by decide +kernel)) ggX0_functionOf_J6_bitCount_0f7a4
set_option maxRecDepth 20000 in
theorem ggX0_functionOf_X4_full : GoodIn wsX0_functionOf wsX4_full := goodIn_r _ [15] (by decide +kernel) (by decide +kernel)
set_option maxRecDepth 20000 in
theorem gX0_functionOf_X4_full : GoodIn wsX0_functionOf (va_wsS RX0 78 yX4_full wsX4_full) := goodIn_app (goodIn_of _ (by decide +kernel)) ggX0_functionOf_X4_full
set_option maxRecDepth 20000 in
theorem ggX0_functionOf_X4_variable : GoodIn wsX0_functionOf wsX4_variable := goodIn_r _ [18, 19] (by decide +kernel) (by decide +kernel)
set_option maxRecDepth 20000 in
theorem gX0_functionOf_X4_variable : GoodIn wsX0_functionOf (va_wsS RX0 83 yX4_variable wsX4_variable) := goodIn_app (goodIn_of _ (by decide +kernel)) ggX0_functionOf_X4_variable
set_option maxRecDepth 20000 in
theorem ggX0_functionOf_X2_isInput : GoodIn wsX0_functionOf wsX2_isInput := goodIn_r _ [24, 25, 36, 37, 38, 39, 40, 41] (by decide +kernel) (by decide +kernel)
set_option maxRecDepth 20000 in
theorem gX0_functionOf_X2_isInput : GoodIn wsX0_functionOf (wsV RX0 28 RX2 yX2_isInput wsX2_isInput) := goodIn_app (goodIn_of _ (by decide +kernel)) ggX0_functionOf_X2_isInput
set_option maxRecDepth 20000 in
theorem ggX0_functionOf_X0_literalTable : GoodIn wsX0_functionOf wsX0_literalTable := goodIn_r _ [30, 1, 31, 32, 33, 34, 35] (by decide +kernel) (by decide +kernel)
set_option maxRecDepth 20000 in
theorem gX0_functionOf_X0_literalTable : GoodIn wsX0_functionOf (wsV RX0 86 RX0 yX0_literalTable wsX0_literalTable) := goodIn_app (goodIn_of _ (by decide +kernel)) ggX0_functionOf_X0_literalTable
theorem dX0_functionOf_0 : decode cX0_functionOf 0 = .ok (.iload_n 2, 1) := by decide +kernel
theorem dX0_functionOf_1 : decode cX0_functionOf 1 = .ok (.invokestatic 53, 3) := by decide +kernel
theorem dX0_functionOf_4 : decode cX0_functionOf 4 = .ok (.invokestatic 78, 3) := by decide +kernel
theorem dX0_functionOf_7 : decode cX0_functionOf 7 = .ok (.istore_n 3, 1) := by decide +kernel
theorem dX0_functionOf_8 : decode cX0_functionOf 8 = .ok (.iconst 0, 1) := by decide +kernel
theorem dX0_functionOf_9 : decode cX0_functionOf 9 = .ok (.istore 4, 2) := by decide +kernel
theorem dX0_functionOf_11 : decode cX0_functionOf 11 = .ok (.iconst 0, 1) := by decide +kernel
theorem dX0_functionOf_12 : decode cX0_functionOf 12 = .ok (.istore 5, 2) := by decide +kernel
theorem dX0_functionOf_14 : decode cX0_functionOf 14 = .ok (.iload 5, 2) := by decide +kernel
theorem dX0_functionOf_16 : decode cX0_functionOf 16 = .ok (.iload_n 1, 1) := by decide +kernel
theorem dX0_functionOf_17 : decode cX0_functionOf 17 = .ok (.if_icmp .gt 99, 3) := by decide +kernel
theorem dX0_functionOf_20 : decode cX0_functionOf 20 = .ok (.iload_n 2, 1) := by decide +kernel
theorem dX0_functionOf_21 : decode cX0_functionOf 21 = .ok (.iload 5, 2) := by decide +kernel
theorem dX0_functionOf_23 : decode cX0_functionOf 23 = .ok (.iushr, 1) := by decide +kernel
theorem dX0_functionOf_24 : decode cX0_functionOf 24 = .ok (.iconst 1, 1) := by decide +kernel
theorem dX0_functionOf_25 : decode cX0_functionOf 25 = .ok (.iand, 1) := by decide +kernel
theorem dX0_functionOf_26 : decode cX0_functionOf 26 = .ok (.iconst 1, 1) := by decide +kernel
theorem dX0_functionOf_27 : decode cX0_functionOf 27 = .ok (.if_icmp .ne 22, 3) := by decide +kernel
theorem dX0_functionOf_30 : decode cX0_functionOf 30 = .ok (.aload_n 0, 1) := by decide +kernel
theorem dX0_functionOf_31 : decode cX0_functionOf 31 = .ok (.getfield 15, 3) := by decide +kernel
theorem dX0_functionOf_34 : decode cX0_functionOf 34 = .ok (.iload 5, 2) := by decide +kernel
theorem dX0_functionOf_36 : decode cX0_functionOf 36 = .ok (.iload 4, 2) := by decide +kernel
theorem dX0_functionOf_38 : decode cX0_functionOf 38 = .ok (.iload_n 3, 1) := by decide +kernel
theorem dX0_functionOf_39 : decode cX0_functionOf 39 = .ok (.invokestatic 83, 3) := by decide +kernel
theorem dX0_functionOf_42 : decode cX0_functionOf 42 = .ok (.iastore, 1) := by decide +kernel
theorem dX0_functionOf_43 : decode cX0_functionOf 43 = .ok (.iinc 4 1, 3) := by decide +kernel
theorem dX0_functionOf_46 : decode cX0_functionOf 46 = .ok (.goto 64, 3) := by decide +kernel
theorem dX0_functionOf_49 : decode cX0_functionOf 49 = .ok (.aload_n 0, 1) := by decide +kernel
theorem dX0_functionOf_50 : decode cX0_functionOf 50 = .ok (.getfield 24, 3) := by decide +kernel
theorem dX0_functionOf_53 : decode cX0_functionOf 53 = .ok (.iload 5, 2) := by decide +kernel
theorem dX0_functionOf_55 : decode cX0_functionOf 55 = .ok (.invokevirtual 28, 3) := by decide +kernel
theorem dX0_functionOf_58 : decode cX0_functionOf 58 = .ok (.ifCond .eq 14, 3) := by decide +kernel
theorem dX0_functionOf_61 : decode cX0_functionOf 61 = .ok (.aload_n 0, 1) := by decide +kernel
theorem dX0_functionOf_62 : decode cX0_functionOf 62 = .ok (.getfield 15, 3) := by decide +kernel
theorem dX0_functionOf_65 : decode cX0_functionOf 65 = .ok (.iload 5, 2) := by decide +kernel
theorem dX0_functionOf_67 : decode cX0_functionOf 67 = .ok (.iconst 0, 1) := by decide +kernel
theorem dX0_functionOf_68 : decode cX0_functionOf 68 = .ok (.iastore, 1) := by decide +kernel
theorem dX0_functionOf_69 : decode cX0_functionOf 69 = .ok (.goto 41, 3) := by decide +kernel
theorem dX0_functionOf_72 : decode cX0_functionOf 72 = .ok (.aload_n 0, 1) := by decide +kernel
theorem dX0_functionOf_73 : decode cX0_functionOf 73 = .ok (.getfield 15, 3) := by decide +kernel
theorem dX0_functionOf_76 : decode cX0_functionOf 76 = .ok (.iload 5, 2) := by decide +kernel
theorem dX0_functionOf_78 : decode cX0_functionOf 78 = .ok (.aload_n 0, 1) := by decide +kernel
theorem dX0_functionOf_79 : decode cX0_functionOf 79 = .ok (.aload_n 0, 1) := by decide +kernel
theorem dX0_functionOf_80 : decode cX0_functionOf 80 = .ok (.getfield 24, 3) := by decide +kernel
theorem dX0_functionOf_83 : decode cX0_functionOf 83 = .ok (.getfield 32, 3) := by decide +kernel
theorem dX0_functionOf_86 : decode cX0_functionOf 86 = .ok (.iload 5, 2) := by decide +kernel
theorem dX0_functionOf_88 : decode cX0_functionOf 88 = .ok (.iaload, 1) := by decide +kernel
theorem dX0_functionOf_89 : decode cX0_functionOf 89 = .ok (.iload_n 3, 1) := by decide +kernel
theorem dX0_functionOf_90 : decode cX0_functionOf 90 = .ok (.invokevirtual 86, 3) := by decide +kernel
theorem dX0_functionOf_93 : decode cX0_functionOf 93 = .ok (.aload_n 0, 1) := by decide +kernel
theorem dX0_functionOf_94 : decode cX0_functionOf 94 = .ok (.aload_n 0, 1) := by decide +kernel
theorem dX0_functionOf_95 : decode cX0_functionOf 95 = .ok (.getfield 24, 3) := by decide +kernel
theorem dX0_functionOf_98 : decode cX0_functionOf 98 = .ok (.getfield 35, 3) := by decide +kernel
theorem dX0_functionOf_101 : decode cX0_functionOf 101 = .ok (.iload 5, 2) := by decide +kernel
theorem dX0_functionOf_103 : decode cX0_functionOf 103 = .ok (.iaload, 1) := by decide +kernel
theorem dX0_functionOf_104 : decode cX0_functionOf 104 = .ok (.iload_n 3, 1) := by decide +kernel
theorem dX0_functionOf_105 : decode cX0_functionOf 105 = .ok (.invokevirtual 86, 3) := by decide +kernel
theorem dX0_functionOf_108 : decode cX0_functionOf 108 = .ok (.iand, 1) := by decide +kernel
theorem dX0_functionOf_109 : decode cX0_functionOf 109 = .ok (.iastore, 1) := by decide +kernel
theorem dX0_functionOf_110 : decode cX0_functionOf 110 = .ok (.iinc 5 1, 3) := by decide +kernel
theorem dX0_functionOf_113 : decode cX0_functionOf 113 = .ok (.goto (-99), 3) := by decide +kernel
theorem dX0_functionOf_116 : decode cX0_functionOf 116 = .ok (.aload_n 0, 1) := by decide +kernel
theorem dX0_functionOf_117 : decode cX0_functionOf 117 = .ok (.getfield 15, 3) := by decide +kernel
theorem dX0_functionOf_120 : decode cX0_functionOf 120 = .ok (.iload_n 1, 1) := by decide +kernel
theorem dX0_functionOf_121 : decode cX0_functionOf 121 = .ok (.iaload, 1) := by decide +kernel
theorem dX0_functionOf_122 : decode cX0_functionOf 122 = .ok (.ireturn, 1) := by decide +kernel
theorem dX0_literalTable_0 : decode cX0_literalTable 0 = .ok (.iload_n 1, 1) := by decide +kernel
theorem dX0_literalTable_1 : decode cX0_literalTable 1 = .ok (.iconst 1, 1) := by decide +kernel
theorem dX0_literalTable_2 : decode cX0_literalTable 2 = .ok (.iand, 1) := by decide +kernel
theorem dX0_literalTable_3 : decode cX0_literalTable 3 = .ok (.ifCond .ne 14, 3) := by decide +kernel
theorem dX0_literalTable_6 : decode cX0_literalTable 6 = .ok (.aload_n 0, 1) := by decide +kernel
theorem dX0_literalTable_7 : decode cX0_literalTable 7 = .ok (.getfield 15, 3) := by decide +kernel
theorem dX0_literalTable_10 : decode cX0_literalTable 10 = .ok (.iload_n 1, 1) := by decide +kernel
theorem dX0_literalTable_11 : decode cX0_literalTable 11 = .ok (.iconst 1, 1) := by decide +kernel
theorem dX0_literalTable_12 : decode cX0_literalTable 12 = .ok (.ishr, 1) := by decide +kernel
theorem dX0_literalTable_13 : decode cX0_literalTable 13 = .ok (.iaload, 1) := by decide +kernel
theorem dX0_literalTable_14 : decode cX0_literalTable 14 = .ok (.goto 13, 3) := by decide +kernel
theorem dX0_literalTable_17 : decode cX0_literalTable 17 = .ok (.aload_n 0, 1) := by decide +kernel
theorem dX0_literalTable_18 : decode cX0_literalTable 18 = .ok (.getfield 15, 3) := by decide +kernel
theorem dX0_literalTable_21 : decode cX0_literalTable 21 = .ok (.iload_n 1, 1) := by decide +kernel
theorem dX0_literalTable_22 : decode cX0_literalTable 22 = .ok (.iconst 1, 1) := by decide +kernel
theorem dX0_literalTable_23 : decode cX0_literalTable 23 = .ok (.ishr, 1) := by decide +kernel
theorem dX0_literalTable_24 : decode cX0_literalTable 24 = .ok (.iaload, 1) := by decide +kernel
theorem dX0_literalTable_25 : decode cX0_literalTable 25 = .ok (.iload_n 2, 1) := by decide +kernel
theorem dX0_literalTable_26 : decode cX0_literalTable 26 = .ok (.ixor, 1) := by decide +kernel
theorem dX0_literalTable_27 : decode cX0_literalTable 27 = .ok (.ireturn, 1) := by decide +kernel
theorem dX1_init_0 : decode cX1_init 0 = .ok (.aload_n 0, 1) := by decide +kernel
theorem dX1_init_1 : decode cX1_init 1 = .ok (.invokespecial 3, 3) := by decide +kernel
theorem dX1_init_4 : decode cX1_init 4 = .ok (.aload_n 0, 1) := by decide +kernel
theorem dX1_init_5 : decode cX1_init 5 = .ok (.bipush 64, 2) := by decide +kernel
theorem dX1_init_7 : decode cX1_init 7 = .ok (.newarray .long, 2) := by decide +kernel
theorem dX1_init_9 : decode cX1_init 9 = .ok (.putfield 11, 3) := by decide +kernel
theorem dX1_init_12 : decode cX1_init 12 = .ok (.aload_n 0, 1) := by decide +kernel
theorem dX1_init_13 : decode cX1_init 13 = .ok (.iconst 3, 1) := by decide +kernel
theorem dX1_init_14 : decode cX1_init 14 = .ok (.newarray .int, 2) := by decide +kernel
theorem dX1_init_16 : decode cX1_init 16 = .ok (.putfield 19, 3) := by decide +kernel
theorem dX1_init_19 : decode cX1_init 19 = .ok (.aload_n 0, 1) := by decide +kernel
theorem dX1_init_20 : decode cX1_init 20 = .ok (.aload_n 1, 1) := by decide +kernel
theorem dX1_init_21 : decode cX1_init 21 = .ok (.putfield 23, 3) := by decide +kernel
theorem dX1_init_24 : decode cX1_init 24 = .ok (.aload_n 0, 1) := by decide +kernel
theorem dX1_init_25 : decode cX1_init 25 = .ok (.aload_n 2, 1) := by decide +kernel
theorem dX1_init_26 : decode cX1_init 26 = .ok (.putfield 27, 3) := by decide +kernel
theorem dX1_init_29 : decode cX1_init 29 = .ok (.aload_n 0, 1) := by decide +kernel
theorem dX1_init_30 : decode cX1_init 30 = .ok (.aload_n 3, 1) := by decide +kernel
theorem dX1_init_31 : decode cX1_init 31 = .ok (.putfield 31, 3) := by decide +kernel
theorem dX1_init_34 : decode cX1_init 34 = .ok (.return_, 1) := by decide +kernel
theorem dX1_forget_0 : decode cX1_forget 0 = .ok (.aload_n 0, 1) := by decide +kernel
theorem dX1_forget_1 : decode cX1_forget 1 = .ok (.iconst 0, 1) := by decide +kernel
theorem dX1_forget_2 : decode cX1_forget 2 = .ok (.putfield 35, 3) := by decide +kernel
theorem dX1_forget_5 : decode cX1_forget 5 = .ok (.return_, 1) := by decide +kernel
set_option maxRecDepth 20000 in
theorem ggX1_settle_X1_settleNode : GoodIn wsX1_settle wsX1_settleNode := goodIn_r _ [8, 9, 10, 2, 11, 12, 13, 14, 15, 16, 17, 18, 19, 20, 21, 22, 23, 24, 25, 26, 27, 28, 29, 30, 31, 32, 33, 34, 35, 36, 37, 38, 7, 39, 40, 41, 42, 43, 44, 45, 46, 47, 48, 49, 50, 51, 52, 53, 54, 55, 56, 57, 58, 59, 60, 61, 62, 63, 64, 65, 66, 67, 68, 69, 70, 71, 72, 73, 74, 75, 76, 77, 78, 79, 80, 81, 82, 83, 84, 85, 86, 87, 88, 89, 90, 91, 92, 93, 94, 95, 96, 97, 98, 99, 100, 101, 102, 103, 104, 105, 106, 107, 108, 109, 110, 111, 112, 113, 114, 115, 116, 117, 118, 119, 120, 121, 122, 123, 124, 125, 126, 127, 128, 129, 130, 131, 132, 133, 134, 135, 136, 137] (by decide +kernel) (by decide +kernel)
set_option maxRecDepth 20000 in
theorem gX1_settle_X1_settleNode : GoodIn wsX1_settle (wsV RX1 42 RX1 yX1_settleNode wsX1_settleNode) := goodIn_app (goodIn_of _ (by decide +kernel)) ggX1_settle_X1_settleNode
theorem dX1_settle_0 : decode cX1_settle 0 = .ok (.aload_n 0, 1) := by decide +kernel
theorem dX1_settle_1 : decode cX1_settle 1 = .ok (.getfield 35, 3) := by decide +kernel
theorem dX1_settle_4 : decode cX1_settle 4 = .ok (.istore_n 1, 1) := by decide +kernel
theorem dX1_settle_5 : decode cX1_settle 5 = .ok (.iload_n 1, 1) := by decide +kernel
theorem dX1_settle_6 : decode cX1_settle 6 = .ok (.aload_n 0, 1) := by decide +kernel
theorem dX1_settle_7 : decode cX1_settle 7 = .ok (.getfield 23, 3) := by decide +kernel
theorem dX1_settle_10 : decode cX1_settle 10 = .ok (.getfield 39, 3) := by decide +kernel
theorem dX1_settle_13 : decode cX1_settle 13 = .ok (.if_icmp .ge 14, 3) := by decide +kernel
theorem dX1_settle_16 : decode cX1_settle 16 = .ok (.aload_n 0, 1) := by decide +kernel
theorem dX1_settle_17 : decode cX1_settle 17 = .ok (.iload_n 1, 1) := by decide +kernel
theorem dX1_settle_18 : decode cX1_settle 18 = .ok (.invokevirtual 42, 3) := by decide +kernel
theorem dX1_settle_21 : decode cX1_settle 21 = .ok (.iinc 1 1, 3) := by decide +kernel
theorem dX1_settle_24 : decode cX1_settle 24 = .ok (.goto (-19), 3) := by decide +kernel
theorem dX1_settle_27 : decode cX1_settle 27 = .ok (.aload_n 0, 1) := by decide +kernel
theorem dX1_settle_28 : decode cX1_settle 28 = .ok (.aload_n 0, 1) := by decide +kernel
theorem dX1_settle_29 : decode cX1_settle 29 = .ok (.getfield 23, 3) := by decide +kernel
theorem dX1_settle_32 : decode cX1_settle 32 = .ok (.getfield 39, 3) := by decide +kernel
theorem dX1_settle_35 : decode cX1_settle 35 = .ok (.putfield 35, 3) := by decide +kernel
theorem dX1_settle_38 : decode cX1_settle 38 = .ok (.return_, 1) := by decide +kernel
theorem dX1_isThere_0 : decode cX1_isThere 0 = .ok (.aload_n 0, 1) := by decide +kernel
theorem dX1_isThere_1 : decode cX1_isThere 1 = .ok (.getfield 11, 3) := by decide +kernel
theorem dX1_isThere_4 : decode cX1_isThere 4 = .ok (.iload_n 1, 1) := by decide +kernel
theorem dX1_isThere_5 : decode cX1_isThere 5 = .ok (.laload, 1) := by decide +kernel
theorem dX1_isThere_6 : decode cX1_isThere 6 = .ok (.ldc2_w 46, 3) := by decide +kernel
theorem dX1_isThere_9 : decode cX1_isThere 9 = .ok (.lcmp, 1) := by decide +kernel
theorem dX1_isThere_10 : decode cX1_isThere 10 = .ok (.ifCond .eq 7, 3) := by decide +kernel
theorem dX1_isThere_13 : decode cX1_isThere 13 = .ok (.iconst 1, 1) := by decide +kernel
theorem dX1_isThere_14 : decode cX1_isThere 14 = .ok (.goto 4, 3) := by decide +kernel
theorem dX1_isThere_17 : decode cX1_isThere 17 = .ok (.iconst 0, 1) := by decide +kernel
theorem dX1_isThere_18 : decode cX1_isThere 18 = .ok (.ireturn, 1) := by decide +kernel
set_option maxRecDepth 20000 in
theorem ggX1_hasGate_X1_isThere : GoodIn wsX1_hasGate wsX1_isThere := goodIn_r _ [6, 7, 8, 19, 20, 21, 22, 23, 24] (by decide +kernel) (by decide +kernel)
set_option maxRecDepth 20000 in
theorem gX1_hasGate_X1_isThere : GoodIn wsX1_hasGate (wsV RX1 48 RX1 yX1_isThere wsX1_isThere) := goodIn_app (goodIn_of _ (by decide +kernel)) ggX1_hasGate_X1_isThere
set_option maxRecDepth 20000 in
theorem ggX1_hasGate_X2_isPlainInput : GoodIn wsX1_hasGate wsX2_isPlainInput := goodIn_r _ [13, 14, 15, 16, 12, 17, 18, 25, 26, 27, 28, 29, 30] (by decide +kernel) (by decide +kernel)
set_option maxRecDepth 20000 in
theorem gX1_hasGate_X2_isPlainInput : GoodIn wsX1_hasGate (wsV RX1 52 RX2 yX2_isPlainInput wsX2_isPlainInput) := goodIn_app (goodIn_of _ (by decide +kernel)) ggX1_hasGate_X2_isPlainInput
theorem dX1_hasGate_0 : decode cX1_hasGate 0 = .ok (.aload_n 0, 1) := by decide +kernel
theorem dX1_hasGate_1 : decode cX1_hasGate 1 = .ok (.iload_n 1, 1) := by decide +kernel
theorem dX1_hasGate_2 : decode cX1_hasGate 2 = .ok (.invokevirtual 48, 3) := by decide +kernel
theorem dX1_hasGate_5 : decode cX1_hasGate 5 = .ok (.ifCond .eq 18, 3) := by decide +kernel
theorem dX1_hasGate_8 : decode cX1_hasGate 8 = .ok (.aload_n 0, 1) := by decide +kernel
theorem dX1_hasGate_9 : decode cX1_hasGate 9 = .ok (.getfield 23, 3) := by decide +kernel
theorem dX1_hasGate_12 : decode cX1_hasGate 12 = .ok (.iload_n 1, 1) := by decide +kernel
theorem dX1_hasGate_13 : decode cX1_hasGate 13 = .ok (.invokevirtual 52, 3) := by decide +kernel
theorem dX1_hasGate_16 : decode cX1_hasGate 16 = .ok (.ifCond .ne 7, 3) := by decide +kernel
theorem dX1_hasGate_19 : decode cX1_hasGate 19 = .ok (.iconst 1, 1) := by decide +kernel
theorem dX1_hasGate_20 : decode cX1_hasGate 20 = .ok (.goto 4, 3) := by decide +kernel
theorem dX1_hasGate_23 : decode cX1_hasGate 23 = .ok (.iconst 0, 1) := by decide +kernel
theorem dX1_hasGate_24 : decode cX1_hasGate 24 = .ok (.ireturn, 1) := by decide +kernel
theorem dX1_timeOf_0 : decode cX1_timeOf 0 = .ok (.aload_n 0, 1) := by decide +kernel
theorem dX1_timeOf_1 : decode cX1_timeOf 1 = .ok (.getfield 11, 3) := by decide +kernel
theorem dX1_timeOf_4 : decode cX1_timeOf 4 = .ok (.iload_n 1, 1) := by decide +kernel
theorem dX1_timeOf_5 : decode cX1_timeOf 5 = .ok (.laload, 1) := by decide +kernel
theorem dX1_timeOf_6 : decode cX1_timeOf 6 = .ok (.ldc2_w 46, 3) := by decide +kernel
theorem dX1_timeOf_9 : decode cX1_timeOf 9 = .ok (.lcmp, 1) := by decide +kernel
theorem dX1_timeOf_10 : decode cX1_timeOf 10 = .ok (.ifCond .eq 16, 3) := by decide +kernel
theorem dX1_timeOf_13 : decode cX1_timeOf 13 = .ok (.aload_n 0, 1) := by decide +kernel
theorem dX1_timeOf_14 : decode cX1_timeOf 14 = .ok (.getfield 11, 3) := by decide +kernel
theorem dX1_timeOf_17 : decode cX1_timeOf 17 = .ok (.iload_n 1, 1) := by decide +kernel
theorem dX1_timeOf_18 : decode cX1_timeOf 18 = .ok (.laload, 1) := by decide +kernel
theorem dX1_timeOf_19 : decode cX1_timeOf 19 = .ok (.bipush 23, 2) := by decide +kernel
theorem dX1_timeOf_21 : decode cX1_timeOf 21 = .ok (.lshr, 1) := by decide +kernel
theorem dX1_timeOf_22 : decode cX1_timeOf 22 = .ok (.l2i, 1) := by decide +kernel
theorem dX1_timeOf_23 : decode cX1_timeOf 23 = .ok (.goto 4, 3) := by decide +kernel
theorem dX1_timeOf_26 : decode cX1_timeOf 26 = .ok (.iconst (-1), 1) := by decide +kernel
theorem dX1_timeOf_27 : decode cX1_timeOf 27 = .ok (.ireturn, 1) := by decide +kernel
theorem dX1_cellOf_0 : decode cX1_cellOf 0 = .ok (.aload_n 0, 1) := by decide +kernel
theorem dX1_cellOf_1 : decode cX1_cellOf 1 = .ok (.getfield 11, 3) := by decide +kernel
theorem dX1_cellOf_4 : decode cX1_cellOf 4 = .ok (.iload_n 1, 1) := by decide +kernel
theorem dX1_cellOf_5 : decode cX1_cellOf 5 = .ok (.laload, 1) := by decide +kernel
theorem dX1_cellOf_6 : decode cX1_cellOf 6 = .ok (.bipush 18, 2) := by decide +kernel
theorem dX1_cellOf_8 : decode cX1_cellOf 8 = .ok (.lshr, 1) := by decide +kernel
theorem dX1_cellOf_9 : decode cX1_cellOf 9 = .ok (.l2i, 1) := by decide +kernel
theorem dX1_cellOf_10 : decode cX1_cellOf 10 = .ok (.bipush 15, 2) := by decide +kernel
theorem dX1_cellOf_12 : decode cX1_cellOf 12 = .ok (.iand, 1) := by decide +kernel
theorem dX1_cellOf_13 : decode cX1_cellOf 13 = .ok (.ireturn, 1) := by decide +kernel
set_option maxRecDepth 20000 in
theorem ggX1_pinLiteral_X1_pinShift : GoodIn wsX1_pinLiteral wsX1_pinShift := goodIn_r _ [5] (by decide +kernel) (by decide +kernel)
set_option maxRecDepth 20000 in
theorem gX1_pinLiteral_X1_pinShift : GoodIn wsX1_pinLiteral (va_wsS RX1 55 yX1_pinShift wsX1_pinShift) := goodIn_app (goodIn_of _ (by decide +kernel)) ggX1_pinLiteral_X1_pinShift
theorem dX1_pinLiteral_0 : decode cX1_pinLiteral 0 = .ok (.aload_n 0, 1) := by decide +kernel
theorem dX1_pinLiteral_1 : decode cX1_pinLiteral 1 = .ok (.getfield 11, 3) := by decide +kernel
theorem dX1_pinLiteral_4 : decode cX1_pinLiteral 4 = .ok (.iload_n 1, 1) := by decide +kernel
theorem dX1_pinLiteral_5 : decode cX1_pinLiteral 5 = .ok (.laload, 1) := by decide +kernel
theorem dX1_pinLiteral_6 : decode cX1_pinLiteral 6 = .ok (.iload_n 2, 1) := by decide +kernel
theorem dX1_pinLiteral_7 : decode cX1_pinLiteral 7 = .ok (.invokestatic 55, 3) := by decide +kernel
theorem dX1_pinLiteral_10 : decode cX1_pinLiteral 10 = .ok (.lshr, 1) := by decide +kernel
theorem dX1_pinLiteral_11 : decode cX1_pinLiteral 11 = .ok (.l2i, 1) := by decide +kernel
theorem dX1_pinLiteral_12 : decode cX1_pinLiteral 12 = .ok (.bipush 63, 2) := by decide +kernel
theorem dX1_pinLiteral_14 : decode cX1_pinLiteral 14 = .ok (.iand, 1) := by decide +kernel
theorem dX1_pinLiteral_15 : decode cX1_pinLiteral 15 = .ok (.ireturn, 1) := by decide +kernel
set_option maxRecDepth 20000 in
theorem ggX1_wantedFor_X1_baseLiteral : GoodIn wsX1_wantedFor wsX1_baseLiteral := goodIn_r _ [7, 8, 9, 10, 11, 6, 12, 1, 13, 14, 15, 16, 17, 18, 19, 20, 21, 22, 23, 24, 25, 26, 27, 46, 47, 48, 49, 50, 51, 52, 53, 54, 55, 56, 57] (by decide +kernel) (by decide +kernel)
set_option maxRecDepth 20000 in
theorem gX1_wantedFor_X1_baseLiteral : GoodIn wsX1_wantedFor (wsV RX1 59 RX1 yX1_baseLiteral wsX1_baseLiteral) := goodIn_app (goodIn_of _ (by decide +kernel)) ggX1_wantedFor_X1_baseLiteral
set_option maxRecDepth 20000 in
theorem ggX1_wantedFor_X1_withPins : GoodIn wsX1_wantedFor wsX1_withPins := goodIn_r _ [31, 32, 33, 34, 9, 10, 11, 6, 12, 1, 13, 14, 15, 16, 8, 17, 18, 19, 20, 21, 22, 23, 24, 25, 26, 27, 35, 36, 37, 38, 39, 40, 41, 42, 43, 44, 45, 46, 47, 48, 49, 50, 51, 58, 59, 60, 61, 62, 63, 52, 53, 54, 55, 56, 57] (by decide +kernel) (by decide +kernel)
set_option maxRecDepth 20000 in
theorem gX1_wantedFor_X1_withPins : GoodIn wsX1_wantedFor (wsV RX1 62 RX1 yX1_withPins wsX1_withPins) := goodIn_app (goodIn_of _ (by decide +kernel)) ggX1_wantedFor_X1_withPins
theorem dX1_wantedFor_0 : decode cX1_wantedFor 0 = .ok (.lload_n 1, 1) := by decide +kernel
theorem dX1_wantedFor_1 : decode cX1_wantedFor 1 = .ok (.lstore_n 3, 1) := by decide +kernel
theorem dX1_wantedFor_2 : decode cX1_wantedFor 2 = .ok (.aload_n 0, 1) := by decide +kernel
theorem dX1_wantedFor_3 : decode cX1_wantedFor 3 = .ok (.getfield 23, 3) := by decide +kernel
theorem dX1_wantedFor_6 : decode cX1_wantedFor 6 = .ok (.getfield 39, 3) := by decide +kernel
theorem dX1_wantedFor_9 : decode cX1_wantedFor 9 = .ok (.iconst 1, 1) := by decide +kernel
theorem dX1_wantedFor_10 : decode cX1_wantedFor 10 = .ok (.isub, 1) := by decide +kernel
theorem dX1_wantedFor_11 : decode cX1_wantedFor 11 = .ok (.istore 5, 2) := by decide +kernel
theorem dX1_wantedFor_13 : decode cX1_wantedFor 13 = .ok (.iload 5, 2) := by decide +kernel
theorem dX1_wantedFor_15 : decode cX1_wantedFor 15 = .ok (.ifCond .lt 35, 3) := by decide +kernel
theorem dX1_wantedFor_18 : decode cX1_wantedFor 18 = .ok (.aload_n 0, 1) := by decide +kernel
theorem dX1_wantedFor_19 : decode cX1_wantedFor 19 = .ok (.iload 5, 2) := by decide +kernel
theorem dX1_wantedFor_21 : decode cX1_wantedFor 21 = .ok (.invokevirtual 59, 3) := by decide +kernel
theorem dX1_wantedFor_24 : decode cX1_wantedFor 24 = .ok (.istore 6, 2) := by decide +kernel
theorem dX1_wantedFor_26 : decode cX1_wantedFor 26 = .ok (.aload_n 0, 1) := by decide +kernel
theorem dX1_wantedFor_27 : decode cX1_wantedFor 27 = .ok (.lload_n 3, 1) := by decide +kernel
theorem dX1_wantedFor_28 : decode cX1_wantedFor 28 = .ok (.iload 6, 2) := by decide +kernel
theorem dX1_wantedFor_30 : decode cX1_wantedFor 30 = .ok (.iconst 1, 1) := by decide +kernel
theorem dX1_wantedFor_31 : decode cX1_wantedFor 31 = .ok (.ixor, 1) := by decide +kernel
theorem dX1_wantedFor_32 : decode cX1_wantedFor 32 = .ok (.invokevirtual 62, 3) := by decide +kernel
theorem dX1_wantedFor_35 : decode cX1_wantedFor 35 = .ok (.lstore_n 3, 1) := by decide +kernel
theorem dX1_wantedFor_36 : decode cX1_wantedFor 36 = .ok (.aload_n 0, 1) := by decide +kernel
theorem dX1_wantedFor_37 : decode cX1_wantedFor 37 = .ok (.lload_n 3, 1) := by decide +kernel
theorem dX1_wantedFor_38 : decode cX1_wantedFor 38 = .ok (.iload 6, 2) := by decide +kernel
theorem dX1_wantedFor_40 : decode cX1_wantedFor 40 = .ok (.invokevirtual 62, 3) := by decide +kernel
theorem dX1_wantedFor_43 : decode cX1_wantedFor 43 = .ok (.lstore_n 3, 1) := by decide +kernel
theorem dX1_wantedFor_44 : decode cX1_wantedFor 44 = .ok (.iinc 5 (-1), 3) := by decide +kernel
theorem dX1_wantedFor_47 : decode cX1_wantedFor 47 = .ok (.goto (-34), 3) := by decide +kernel
theorem dX1_wantedFor_50 : decode cX1_wantedFor 50 = .ok (.lload_n 3, 1) := by decide +kernel
theorem dX1_wantedFor_51 : decode cX1_wantedFor 51 = .ok (.lreturn, 1) := by decide +kernel
set_option maxRecDepth 20000 in
theorem ggX1_evaluate_X1_baseLiteral : GoodIn wsX1_evaluate wsX1_baseLiteral := goodIn_r _ [5, 6, 7, 8, 9, 4, 10, 11, 12, 13, 14, 15, 16, 17, 18, 19, 20, 21, 22, 23, 24, 25, 26, 49, 50, 51, 52, 53, 54, 55, 56, 57, 58, 59, 60] (by decide +kernel) (by decide +kernel)
set_option maxRecDepth 20000 in
theorem gX1_evaluate_X1_baseLiteral : GoodIn wsX1_evaluate (wsV RX1 59 RX1 yX1_baseLiteral wsX1_baseLiteral) := goodIn_app (goodIn_of _ (by decide +kernel)) ggX1_evaluate_X1_baseLiteral
set_option maxRecDepth 20000 in
theorem ggX1_evaluate_X1_gateValue : GoodIn wsX1_evaluate wsX1_gateValue := goodIn_r _ [30, 11, 31, 32, 33, 17, 18, 19, 20, 21, 22, 23, 24, 25, 26, 34, 35, 36, 37, 12, 13, 14, 4, 15, 6, 16, 38, 39, 40, 41, 42, 43, 44, 45, 46, 47, 48, 49, 50, 51, 52, 53, 54, 61, 62, 63, 64, 65, 66, 55, 56, 57, 58, 59, 60] (by decide +kernel) (by decide +kernel)
set_option maxRecDepth 20000 in
theorem gX1_evaluate_X1_gateValue : GoodIn wsX1_evaluate (wsV RX1 66 RX1 yX1_gateValue wsX1_gateValue) := goodIn_app (goodIn_of _ (by decide +kernel)) ggX1_evaluate_X1_gateValue
theorem dX1_evaluate_0 : decode cX1_evaluate 0 = .ok (.lconst 0, 1) := by decide +kernel
theorem dX1_evaluate_1 : decode cX1_evaluate 1 = .ok (.lstore_n 3, 1) := by decide +kernel
theorem dX1_evaluate_2 : decode cX1_evaluate 2 = .ok (.iconst 0, 1) := by decide +kernel
theorem dX1_evaluate_3 : decode cX1_evaluate 3 = .ok (.istore 5, 2) := by decide +kernel
theorem dX1_evaluate_5 : decode cX1_evaluate 5 = .ok (.iload 5, 2) := by decide +kernel
theorem dX1_evaluate_7 : decode cX1_evaluate 7 = .ok (.iload_n 1, 1) := by decide +kernel
theorem dX1_evaluate_8 : decode cX1_evaluate 8 = .ok (.iconst 1, 1) := by decide +kernel
theorem dX1_evaluate_9 : decode cX1_evaluate 9 = .ok (.ishr, 1) := by decide +kernel
theorem dX1_evaluate_10 : decode cX1_evaluate 10 = .ok (.if_icmp .gt 51, 3) := by decide +kernel
theorem dX1_evaluate_13 : decode cX1_evaluate 13 = .ok (.aload_n 0, 1) := by decide +kernel
theorem dX1_evaluate_14 : decode cX1_evaluate 14 = .ok (.iload 5, 2) := by decide +kernel
theorem dX1_evaluate_16 : decode cX1_evaluate 16 = .ok (.invokevirtual 59, 3) := by decide +kernel
theorem dX1_evaluate_19 : decode cX1_evaluate 19 = .ok (.istore 6, 2) := by decide +kernel
theorem dX1_evaluate_21 : decode cX1_evaluate 21 = .ok (.lload_n 3, 1) := by decide +kernel
theorem dX1_evaluate_22 : decode cX1_evaluate 22 = .ok (.aload_n 0, 1) := by decide +kernel
theorem dX1_evaluate_23 : decode cX1_evaluate 23 = .ok (.lload_n 3, 1) := by decide +kernel
theorem dX1_evaluate_24 : decode cX1_evaluate 24 = .ok (.iload 6, 2) := by decide +kernel
theorem dX1_evaluate_26 : decode cX1_evaluate 26 = .ok (.iload_n 2, 1) := by decide +kernel
theorem dX1_evaluate_27 : decode cX1_evaluate 27 = .ok (.invokevirtual 66, 3) := by decide +kernel
theorem dX1_evaluate_30 : decode cX1_evaluate 30 = .ok (.i2l, 1) := by decide +kernel
theorem dX1_evaluate_31 : decode cX1_evaluate 31 = .ok (.iload 6, 2) := by decide +kernel
theorem dX1_evaluate_33 : decode cX1_evaluate 33 = .ok (.lshl, 1) := by decide +kernel
theorem dX1_evaluate_34 : decode cX1_evaluate 34 = .ok (.lor, 1) := by decide +kernel
theorem dX1_evaluate_35 : decode cX1_evaluate 35 = .ok (.lstore_n 3, 1) := by decide +kernel
theorem dX1_evaluate_36 : decode cX1_evaluate 36 = .ok (.lload_n 3, 1) := by decide +kernel
theorem dX1_evaluate_37 : decode cX1_evaluate 37 = .ok (.aload_n 0, 1) := by decide +kernel
theorem dX1_evaluate_38 : decode cX1_evaluate 38 = .ok (.lload_n 3, 1) := by decide +kernel
theorem dX1_evaluate_39 : decode cX1_evaluate 39 = .ok (.iload 6, 2) := by decide +kernel
theorem dX1_evaluate_41 : decode cX1_evaluate 41 = .ok (.iconst 1, 1) := by decide +kernel
theorem dX1_evaluate_42 : decode cX1_evaluate 42 = .ok (.ixor, 1) := by decide +kernel
theorem dX1_evaluate_43 : decode cX1_evaluate 43 = .ok (.iload_n 2, 1) := by decide +kernel
theorem dX1_evaluate_44 : decode cX1_evaluate 44 = .ok (.invokevirtual 66, 3) := by decide +kernel
theorem dX1_evaluate_47 : decode cX1_evaluate 47 = .ok (.i2l, 1) := by decide +kernel
theorem dX1_evaluate_48 : decode cX1_evaluate 48 = .ok (.iload 6, 2) := by decide +kernel
theorem dX1_evaluate_50 : decode cX1_evaluate 50 = .ok (.iconst 1, 1) := by decide +kernel
theorem dX1_evaluate_51 : decode cX1_evaluate 51 = .ok (.ixor, 1) := by decide +kernel
theorem dX1_evaluate_52 : decode cX1_evaluate 52 = .ok (.lshl, 1) := by decide +kernel
theorem dX1_evaluate_53 : decode cX1_evaluate 53 = .ok (.lor, 1) := by decide +kernel
theorem dX1_evaluate_54 : decode cX1_evaluate 54 = .ok (.lstore_n 3, 1) := by decide +kernel
theorem dX1_evaluate_55 : decode cX1_evaluate 55 = .ok (.iinc 5 1, 3) := by decide +kernel
theorem dX1_evaluate_58 : decode cX1_evaluate 58 = .ok (.goto (-53), 3) := by decide +kernel
theorem dX1_evaluate_61 : decode cX1_evaluate 61 = .ok (.lload_n 3, 1) := by decide +kernel
theorem dX1_evaluate_62 : decode cX1_evaluate 62 = .ok (.iload_n 1, 1) := by decide +kernel
theorem dX1_evaluate_63 : decode cX1_evaluate 63 = .ok (.lushr, 1) := by decide +kernel
theorem dX1_evaluate_64 : decode cX1_evaluate 64 = .ok (.lconst 1, 1) := by decide +kernel
theorem dX1_evaluate_65 : decode cX1_evaluate 65 = .ok (.land, 1) := by decide +kernel
theorem dX1_evaluate_66 : decode cX1_evaluate 66 = .ok (.l2i, 1) := by decide +kernel
theorem dX1_evaluate_67 : decode cX1_evaluate 67 = .ok (.ireturn, 1) := by decide +kernel
theorem dX1_pinShift_0 : decode cX1_pinShift 0 = .ok (.iconst 2, 1) := by decide +kernel
theorem dX1_pinShift_1 : decode cX1_pinShift 1 = .ok (.iload_n 0, 1) := by decide +kernel
theorem dX1_pinShift_2 : decode cX1_pinShift 2 = .ok (.isub, 1) := by decide +kernel
theorem dX1_pinShift_3 : decode cX1_pinShift 3 = .ok (.bipush 6, 2) := by decide +kernel
theorem dX1_pinShift_5 : decode cX1_pinShift 5 = .ok (.imul, 1) := by decide +kernel
theorem dX1_pinShift_6 : decode cX1_pinShift 6 = .ok (.ireturn, 1) := by decide +kernel
set_option maxRecDepth 20000 in
theorem ggX1_baseLiteral_X1_hasGate : GoodIn wsX1_baseLiteral wsX1_hasGate := goodIn_r _ [6, 7, 8, 9, 10, 5, 11, 1, 12, 13, 14, 15, 16, 17, 18, 19, 20, 21, 22, 23, 24, 25, 26, 27, 28, 29, 30, 31, 32, 33, 34] (by decide +kernel) (by decide +kernel)
set_option maxRecDepth 20000 in
theorem gX1_baseLiteral_X1_hasGate : GoodIn wsX1_baseLiteral (wsV RX1 70 RX1 yX1_hasGate wsX1_hasGate) := goodIn_app (goodIn_of _ (by decide +kernel)) ggX1_baseLiteral_X1_hasGate
theorem dX1_baseLiteral_0 : decode cX1_baseLiteral 0 = .ok (.iconst 2, 1) := by decide +kernel
theorem dX1_baseLiteral_1 : decode cX1_baseLiteral 1 = .ok (.iload_n 1, 1) := by decide +kernel
theorem dX1_baseLiteral_2 : decode cX1_baseLiteral 2 = .ok (.imul, 1) := by decide +kernel
theorem dX1_baseLiteral_3 : decode cX1_baseLiteral 3 = .ok (.istore_n 2, 1) := by decide +kernel
theorem dX1_baseLiteral_4 : decode cX1_baseLiteral 4 = .ok (.aload_n 0, 1) := by decide +kernel
theorem dX1_baseLiteral_5 : decode cX1_baseLiteral 5 = .ok (.iload_n 2, 1) := by decide +kernel
theorem dX1_baseLiteral_6 : decode cX1_baseLiteral 6 = .ok (.invokevirtual 70, 3) := by decide +kernel
theorem dX1_baseLiteral_9 : decode cX1_baseLiteral 9 = .ok (.ifCond .eq 23, 3) := by decide +kernel
theorem dX1_baseLiteral_12 : decode cX1_baseLiteral 12 = .ok (.aload_n 0, 1) := by decide +kernel
theorem dX1_baseLiteral_13 : decode cX1_baseLiteral 13 = .ok (.getfield 11, 3) := by decide +kernel
theorem dX1_baseLiteral_16 : decode cX1_baseLiteral 16 = .ok (.iload_n 2, 1) := by decide +kernel
theorem dX1_baseLiteral_17 : decode cX1_baseLiteral 17 = .ok (.laload, 1) := by decide +kernel
theorem dX1_baseLiteral_18 : decode cX1_baseLiteral 18 = .ok (.bipush 22, 2) := by decide +kernel
theorem dX1_baseLiteral_20 : decode cX1_baseLiteral 20 = .ok (.lshr, 1) := by decide +kernel
theorem dX1_baseLiteral_21 : decode cX1_baseLiteral 21 = .ok (.lconst 1, 1) := by decide +kernel
theorem dX1_baseLiteral_22 : decode cX1_baseLiteral 22 = .ok (.land, 1) := by decide +kernel
theorem dX1_baseLiteral_23 : decode cX1_baseLiteral 23 = .ok (.lconst 1, 1) := by decide +kernel
theorem dX1_baseLiteral_24 : decode cX1_baseLiteral 24 = .ok (.lcmp, 1) := by decide +kernel
theorem dX1_baseLiteral_25 : decode cX1_baseLiteral 25 = .ok (.ifCond .ne 7, 3) := by decide +kernel
theorem dX1_baseLiteral_28 : decode cX1_baseLiteral 28 = .ok (.iconst 1, 1) := by decide +kernel
theorem dX1_baseLiteral_29 : decode cX1_baseLiteral 29 = .ok (.goto 4, 3) := by decide +kernel
theorem dX1_baseLiteral_32 : decode cX1_baseLiteral 32 = .ok (.iconst 0, 1) := by decide +kernel
theorem dX1_baseLiteral_33 : decode cX1_baseLiteral 33 = .ok (.istore_n 3, 1) := by decide +kernel
theorem dX1_baseLiteral_34 : decode cX1_baseLiteral 34 = .ok (.iload_n 3, 1) := by decide +kernel
theorem dX1_baseLiteral_35 : decode cX1_baseLiteral 35 = .ok (.ifCond .eq 9, 3) := by decide +kernel
theorem dX1_baseLiteral_38 : decode cX1_baseLiteral 38 = .ok (.iload_n 2, 1) := by decide +kernel
theorem dX1_baseLiteral_39 : decode cX1_baseLiteral 39 = .ok (.iconst 1, 1) := by decide +kernel
theorem dX1_baseLiteral_40 : decode cX1_baseLiteral 40 = .ok (.iadd, 1) := by decide +kernel
theorem dX1_baseLiteral_41 : decode cX1_baseLiteral 41 = .ok (.goto 4, 3) := by decide +kernel
theorem dX1_baseLiteral_44 : decode cX1_baseLiteral 44 = .ok (.iload_n 2, 1) := by decide +kernel
theorem dX1_baseLiteral_45 : decode cX1_baseLiteral 45 = .ok (.ireturn, 1) := by decide +kernel
set_option maxRecDepth 20000 in
theorem ggX1_withPins_X1_hasGate : GoodIn wsX1_withPins wsX1_hasGate := goodIn_r _ [8, 9, 10, 11, 12, 7, 13, 14, 15, 16, 17, 18, 19, 20, 21, 22, 23, 24, 25, 37, 38, 39, 40, 41, 42, 49, 50, 51, 52, 53, 54] (by decide +kernel) (by decide +kernel)
set_option maxRecDepth 20000 in
theorem gX1_withPins_X1_hasGate : GoodIn wsX1_withPins (wsV RX1 70 RX1 yX1_hasGate wsX1_hasGate) := goodIn_app (goodIn_of _ (by decide +kernel)) ggX1_withPins_X1_hasGate
set_option maxRecDepth 20000 in
theorem ggX1_withPins_X1_cellOf : GoodIn wsX1_withPins wsX1_cellOf := goodIn_r _ [29, 14, 37, 38, 39, 40, 41, 42] (by decide +kernel) (by decide +kernel)
set_option maxRecDepth 20000 in
theorem gX1_withPins_X1_cellOf : GoodIn wsX1_withPins (wsV RX1 78 RX1 yX1_cellOf wsX1_cellOf) := goodIn_app (goodIn_of _ (by decide +kernel)) ggX1_withPins_X1_cellOf
set_option maxRecDepth 20000 in
theorem ggX1_withPins_X1_pinLiteral : GoodIn wsX1_withPins wsX1_pinLiteral := goodIn_r _ [33, 14, 34, 35, 7, 36, 37, 38, 39, 40, 41, 42] (by decide +kernel) (by decide +kernel)
set_option maxRecDepth 20000 in
theorem gX1_withPins_X1_pinLiteral : GoodIn wsX1_withPins (wsV RX1 81 RX1 yX1_pinLiteral wsX1_pinLiteral) := goodIn_app (goodIn_of _ (by decide +kernel)) ggX1_withPins_X1_pinLiteral
theorem dX1_withPins_0 : decode cX1_withPins 0 = .ok (.lload_n 1, 1) := by decide +kernel
theorem dX1_withPins_1 : decode cX1_withPins 1 = .ok (.iload_n 3, 1) := by decide +kernel
theorem dX1_withPins_2 : decode cX1_withPins 2 = .ok (.lushr, 1) := by decide +kernel
theorem dX1_withPins_3 : decode cX1_withPins 3 = .ok (.lconst 1, 1) := by decide +kernel
theorem dX1_withPins_4 : decode cX1_withPins 4 = .ok (.land, 1) := by decide +kernel
theorem dX1_withPins_5 : decode cX1_withPins 5 = .ok (.lconst 0, 1) := by decide +kernel
theorem dX1_withPins_6 : decode cX1_withPins 6 = .ok (.lcmp, 1) := by decide +kernel
theorem dX1_withPins_7 : decode cX1_withPins 7 = .ok (.ifCond .ne 5, 3) := by decide +kernel
theorem dX1_withPins_10 : decode cX1_withPins 10 = .ok (.lload_n 1, 1) := by decide +kernel
theorem dX1_withPins_11 : decode cX1_withPins 11 = .ok (.lreturn, 1) := by decide +kernel
theorem dX1_withPins_12 : decode cX1_withPins 12 = .ok (.aload_n 0, 1) := by decide +kernel
theorem dX1_withPins_13 : decode cX1_withPins 13 = .ok (.iload_n 3, 1) := by decide +kernel
theorem dX1_withPins_14 : decode cX1_withPins 14 = .ok (.invokevirtual 70, 3) := by decide +kernel
theorem dX1_withPins_17 : decode cX1_withPins 17 = .ok (.ifCond .ne 13, 3) := by decide +kernel
theorem dX1_withPins_20 : decode cX1_withPins 20 = .ok (.lload_n 1, 1) := by decide +kernel
theorem dX1_withPins_21 : decode cX1_withPins 21 = .ok (.lconst 1, 1) := by decide +kernel
theorem dX1_withPins_22 : decode cX1_withPins 22 = .ok (.iload_n 3, 1) := by decide +kernel
theorem dX1_withPins_23 : decode cX1_withPins 23 = .ok (.lshl, 1) := by decide +kernel
theorem dX1_withPins_24 : decode cX1_withPins 24 = .ok (.ldc2_w 73, 3) := by decide +kernel
theorem dX1_withPins_27 : decode cX1_withPins 27 = .ok (.lxor, 1) := by decide +kernel
theorem dX1_withPins_28 : decode cX1_withPins 28 = .ok (.land, 1) := by decide +kernel
theorem dX1_withPins_29 : decode cX1_withPins 29 = .ok (.lreturn, 1) := by decide +kernel
theorem dX1_withPins_30 : decode cX1_withPins 30 = .ok (.lload_n 1, 1) := by decide +kernel
theorem dX1_withPins_31 : decode cX1_withPins 31 = .ok (.lstore 4, 2) := by decide +kernel
theorem dX1_withPins_33 : decode cX1_withPins 33 = .ok (.iconst 0, 1) := by decide +kernel
theorem dX1_withPins_34 : decode cX1_withPins 34 = .ok (.istore 6, 2) := by decide +kernel
theorem dX1_withPins_36 : decode cX1_withPins 36 = .ok (.iload 6, 2) := by decide +kernel
theorem dX1_withPins_38 : decode cX1_withPins 38 = .ok (.aload_n 0, 1) := by decide +kernel
theorem dX1_withPins_39 : decode cX1_withPins 39 = .ok (.getfield 31, 3) := by decide +kernel
theorem dX1_withPins_42 : decode cX1_withPins 42 = .ok (.getfield 75, 3) := by decide +kernel
theorem dX1_withPins_45 : decode cX1_withPins 45 = .ok (.aload_n 0, 1) := by decide +kernel
theorem dX1_withPins_46 : decode cX1_withPins 46 = .ok (.iload_n 3, 1) := by decide +kernel
theorem dX1_withPins_47 : decode cX1_withPins 47 = .ok (.invokevirtual 78, 3) := by decide +kernel
theorem dX1_withPins_50 : decode cX1_withPins 50 = .ok (.iaload, 1) := by decide +kernel
theorem dX1_withPins_51 : decode cX1_withPins 51 = .ok (.if_icmp .ge 23, 3) := by decide +kernel
theorem dX1_withPins_54 : decode cX1_withPins 54 = .ok (.lload 4, 2) := by decide +kernel
theorem dX1_withPins_56 : decode cX1_withPins 56 = .ok (.lconst 1, 1) := by decide +kernel
theorem dX1_withPins_57 : decode cX1_withPins 57 = .ok (.aload_n 0, 1) := by decide +kernel
theorem dX1_withPins_58 : decode cX1_withPins 58 = .ok (.iload_n 3, 1) := by decide +kernel
theorem dX1_withPins_59 : decode cX1_withPins 59 = .ok (.iload 6, 2) := by decide +kernel
theorem dX1_withPins_61 : decode cX1_withPins 61 = .ok (.invokevirtual 81, 3) := by decide +kernel
theorem dX1_withPins_64 : decode cX1_withPins 64 = .ok (.lshl, 1) := by decide +kernel
theorem dX1_withPins_65 : decode cX1_withPins 65 = .ok (.lor, 1) := by decide +kernel
theorem dX1_withPins_66 : decode cX1_withPins 66 = .ok (.lstore 4, 2) := by decide +kernel
theorem dX1_withPins_68 : decode cX1_withPins 68 = .ok (.iinc 6 1, 3) := by decide +kernel
theorem dX1_withPins_71 : decode cX1_withPins 71 = .ok (.goto (-35), 3) := by decide +kernel
theorem dX1_withPins_74 : decode cX1_withPins 74 = .ok (.lload 4, 2) := by decide +kernel
theorem dX1_withPins_76 : decode cX1_withPins 76 = .ok (.lreturn, 1) := by decide +kernel
set_option maxRecDepth 20000 in
theorem ggX1_gateValue_X2_isPlainInput : GoodIn wsX1_gateValue wsX2_isPlainInput := goodIn_r _ [9, 10, 11, 12, 8, 13, 14, 49, 50, 51, 52, 53, 54] (by decide +kernel) (by decide +kernel)
set_option maxRecDepth 20000 in
theorem gX1_gateValue_X2_isPlainInput : GoodIn wsX1_gateValue (wsV RX1 52 RX2 yX2_isPlainInput wsX2_isPlainInput) := goodIn_app (goodIn_of _ (by decide +kernel)) ggX1_gateValue_X2_isPlainInput
set_option maxRecDepth 20000 in
theorem ggX1_gateValue_X2_inputValue : GoodIn wsX1_gateValue wsX2_inputValue := goodIn_r _ [18, 14, 49, 50, 51, 52, 53, 54] (by decide +kernel) (by decide +kernel)
set_option maxRecDepth 20000 in
theorem gX1_gateValue_X2_inputValue : GoodIn wsX1_gateValue (wsV RX1 85 RX2 yX2_inputValue wsX2_inputValue) := goodIn_app (goodIn_of _ (by decide +kernel)) ggX1_gateValue_X2_inputValue
set_option maxRecDepth 20000 in
theorem ggX1_gateValue_X1_isThere : GoodIn wsX1_gateValue wsX1_isThere := goodIn_r _ [23, 24, 25, 37, 38, 39, 40, 41, 42] (by decide +kernel) (by decide +kernel)
set_option maxRecDepth 20000 in
theorem gX1_gateValue_X1_isThere : GoodIn wsX1_gateValue (wsV RX1 48 RX1 yX1_isThere wsX1_isThere) := goodIn_app (goodIn_of _ (by decide +kernel)) ggX1_gateValue_X1_isThere
set_option maxRecDepth 20000 in
theorem ggX1_gateValue_X1_cellOf : GoodIn wsX1_gateValue wsX1_cellOf := goodIn_r _ [29, 24, 37, 38, 39, 40, 41, 42] (by decide +kernel) (by decide +kernel)
set_option maxRecDepth 20000 in
theorem gX1_gateValue_X1_cellOf : GoodIn wsX1_gateValue (wsV RX1 78 RX1 yX1_cellOf wsX1_cellOf) := goodIn_app (goodIn_of _ (by decide +kernel)) ggX1_gateValue_X1_cellOf
set_option maxRecDepth 20000 in
theorem ggX1_gateValue_X1_pinLiteral : GoodIn wsX1_gateValue wsX1_pinLiteral := goodIn_r _ [33, 24, 34, 35, 22, 36, 37, 38, 39, 40, 41, 42] (by decide +kernel) (by decide +kernel)
set_option maxRecDepth 20000 in
theorem gX1_gateValue_X1_pinLiteral : GoodIn wsX1_gateValue (wsV RX1 81 RX1 yX1_pinLiteral wsX1_pinLiteral) := goodIn_app (goodIn_of _ (by decide +kernel)) ggX1_gateValue_X1_pinLiteral
theorem dX1_gateValue_0 : decode cX1_gateValue 0 = .ok (.aload_n 0, 1) := by decide +kernel
theorem dX1_gateValue_1 : decode cX1_gateValue 1 = .ok (.getfield 23, 3) := by decide +kernel
theorem dX1_gateValue_4 : decode cX1_gateValue 4 = .ok (.iload_n 3, 1) := by decide +kernel
theorem dX1_gateValue_5 : decode cX1_gateValue 5 = .ok (.invokevirtual 52, 3) := by decide +kernel
theorem dX1_gateValue_8 : decode cX1_gateValue 8 = .ok (.ifCond .eq 16, 3) := by decide +kernel
theorem dX1_gateValue_11 : decode cX1_gateValue 11 = .ok (.aload_n 0, 1) := by decide +kernel
theorem dX1_gateValue_12 : decode cX1_gateValue 12 = .ok (.getfield 23, 3) := by decide +kernel
theorem dX1_gateValue_15 : decode cX1_gateValue 15 = .ok (.iload_n 3, 1) := by decide +kernel
theorem dX1_gateValue_16 : decode cX1_gateValue 16 = .ok (.iconst 1, 1) := by decide +kernel
theorem dX1_gateValue_17 : decode cX1_gateValue 17 = .ok (.ishr, 1) := by decide +kernel
theorem dX1_gateValue_18 : decode cX1_gateValue 18 = .ok (.iload 4, 2) := by decide +kernel
theorem dX1_gateValue_20 : decode cX1_gateValue 20 = .ok (.invokevirtual 85, 3) := by decide +kernel
theorem dX1_gateValue_23 : decode cX1_gateValue 23 = .ok (.ireturn, 1) := by decide +kernel
theorem dX1_gateValue_24 : decode cX1_gateValue 24 = .ok (.aload_n 0, 1) := by decide +kernel
theorem dX1_gateValue_25 : decode cX1_gateValue 25 = .ok (.iload_n 3, 1) := by decide +kernel
theorem dX1_gateValue_26 : decode cX1_gateValue 26 = .ok (.invokevirtual 48, 3) := by decide +kernel
theorem dX1_gateValue_29 : decode cX1_gateValue 29 = .ok (.ifCond .ne 5, 3) := by decide +kernel
theorem dX1_gateValue_32 : decode cX1_gateValue 32 = .ok (.iconst 0, 1) := by decide +kernel
theorem dX1_gateValue_33 : decode cX1_gateValue 33 = .ok (.ireturn, 1) := by decide +kernel
theorem dX1_gateValue_34 : decode cX1_gateValue 34 = .ok (.aload_n 0, 1) := by decide +kernel
theorem dX1_gateValue_35 : decode cX1_gateValue 35 = .ok (.iload_n 3, 1) := by decide +kernel
theorem dX1_gateValue_36 : decode cX1_gateValue 36 = .ok (.invokevirtual 78, 3) := by decide +kernel
theorem dX1_gateValue_39 : decode cX1_gateValue 39 = .ok (.istore 5, 2) := by decide +kernel
theorem dX1_gateValue_41 : decode cX1_gateValue 41 = .ok (.iconst 0, 1) := by decide +kernel
theorem dX1_gateValue_42 : decode cX1_gateValue 42 = .ok (.istore 6, 2) := by decide +kernel
theorem dX1_gateValue_44 : decode cX1_gateValue 44 = .ok (.iconst 0, 1) := by decide +kernel
theorem dX1_gateValue_45 : decode cX1_gateValue 45 = .ok (.istore 7, 2) := by decide +kernel
theorem dX1_gateValue_47 : decode cX1_gateValue 47 = .ok (.iload 7, 2) := by decide +kernel
theorem dX1_gateValue_49 : decode cX1_gateValue 49 = .ok (.aload_n 0, 1) := by decide +kernel
theorem dX1_gateValue_50 : decode cX1_gateValue 50 = .ok (.getfield 31, 3) := by decide +kernel
theorem dX1_gateValue_53 : decode cX1_gateValue 53 = .ok (.getfield 75, 3) := by decide +kernel
theorem dX1_gateValue_56 : decode cX1_gateValue 56 = .ok (.iload 5, 2) := by decide +kernel
theorem dX1_gateValue_58 : decode cX1_gateValue 58 = .ok (.iaload, 1) := by decide +kernel
theorem dX1_gateValue_59 : decode cX1_gateValue 59 = .ok (.if_icmp .ge 29, 3) := by decide +kernel
theorem dX1_gateValue_62 : decode cX1_gateValue 62 = .ok (.iload 6, 2) := by decide +kernel
theorem dX1_gateValue_64 : decode cX1_gateValue 64 = .ok (.lload_n 1, 1) := by decide +kernel
theorem dX1_gateValue_65 : decode cX1_gateValue 65 = .ok (.aload_n 0, 1) := by decide +kernel
theorem dX1_gateValue_66 : decode cX1_gateValue 66 = .ok (.iload_n 3, 1) := by decide +kernel
theorem dX1_gateValue_67 : decode cX1_gateValue 67 = .ok (.iload 7, 2) := by decide +kernel
theorem dX1_gateValue_69 : decode cX1_gateValue 69 = .ok (.invokevirtual 81, 3) := by decide +kernel
theorem dX1_gateValue_72 : decode cX1_gateValue 72 = .ok (.lushr, 1) := by decide +kernel
theorem dX1_gateValue_73 : decode cX1_gateValue 73 = .ok (.lconst 1, 1) := by decide +kernel
theorem dX1_gateValue_74 : decode cX1_gateValue 74 = .ok (.land, 1) := by decide +kernel
theorem dX1_gateValue_75 : decode cX1_gateValue 75 = .ok (.l2i, 1) := by decide +kernel
theorem dX1_gateValue_76 : decode cX1_gateValue 76 = .ok (.iload 7, 2) := by decide +kernel
theorem dX1_gateValue_78 : decode cX1_gateValue 78 = .ok (.ishl, 1) := by decide +kernel
theorem dX1_gateValue_79 : decode cX1_gateValue 79 = .ok (.ior, 1) := by decide +kernel
theorem dX1_gateValue_80 : decode cX1_gateValue 80 = .ok (.istore 6, 2) := by decide +kernel
theorem dX1_gateValue_82 : decode cX1_gateValue 82 = .ok (.iinc 7 1, 3) := by decide +kernel
theorem dX1_gateValue_85 : decode cX1_gateValue 85 = .ok (.goto (-38), 3) := by decide +kernel
theorem dX1_gateValue_88 : decode cX1_gateValue 88 = .ok (.aload_n 0, 1) := by decide +kernel
theorem dX1_gateValue_89 : decode cX1_gateValue 89 = .ok (.getfield 31, 3) := by decide +kernel
theorem dX1_gateValue_92 : decode cX1_gateValue 92 = .ok (.getfield 88, 3) := by decide +kernel
theorem dX1_gateValue_95 : decode cX1_gateValue 95 = .ok (.iload 5, 2) := by decide +kernel
theorem dX1_gateValue_97 : decode cX1_gateValue 97 = .ok (.iaload, 1) := by decide +kernel
theorem dX1_gateValue_98 : decode cX1_gateValue 98 = .ok (.iload 6, 2) := by decide +kernel
theorem dX1_gateValue_100 : decode cX1_gateValue 100 = .ok (.ishr, 1) := by decide +kernel
theorem dX1_gateValue_101 : decode cX1_gateValue 101 = .ok (.iconst 1, 1) := by decide +kernel
theorem dX1_gateValue_102 : decode cX1_gateValue 102 = .ok (.iand, 1) := by decide +kernel
theorem dX1_gateValue_103 : decode cX1_gateValue 103 = .ok (.ireturn, 1) := by decide +kernel
set_option maxRecDepth 20000 in
theorem ggX1_settleNode_X2_isInput : GoodIn wsX1_settleNode wsX2_isInput := goodIn_r _ [11, 12, 115, 116, 117, 118, 119, 120] (by decide +kernel) (by decide +kernel)
set_option maxRecDepth 20000 in
theorem gX1_settleNode_X2_isInput : GoodIn wsX1_settleNode (wsV RX1 91 RX2 yX2_isInput wsX2_isInput) := goodIn_app (goodIn_of _ (by decide +kernel)) ggX1_settleNode_X2_isInput
set_option maxRecDepth 20000 in
theorem ggX1_settleNode_X0_size : GoodIn wsX1_settleNode wsX0_size := goodIn_r _ [17, 18, 121, 122, 123, 124, 125] (by decide +kernel) (by decide +kernel)
set_option maxRecDepth 20000 in
theorem gX1_settleNode_X0_size : GoodIn wsX1_settleNode (wsV RX1 100 RX0 yX0_size wsX0_size) := goodIn_app (goodIn_of _ (by decide +kernel)) ggX1_settleNode_X0_size
set_option maxRecDepth 20000 in
theorem ggX1_settleNode_X0_leavesAt : GoodIn wsX1_settleNode wsX0_leavesAt := goodIn_r _ [22, 23, 18, 121, 122, 123, 124, 125] (by decide +kernel) (by decide +kernel)
set_option maxRecDepth 20000 in
theorem gX1_settleNode_X0_leavesAt : GoodIn wsX1_settleNode (wsV RX1 105 RX0 yX0_leavesAt wsX0_leavesAt) := goodIn_app (goodIn_of _ (by decide +kernel)) ggX1_settleNode_X0_leavesAt
set_option maxRecDepth 20000 in
theorem ggX1_settleNode_X0_functionAt : GoodIn wsX1_settleNode wsX0_functionAt := goodIn_r _ [27, 28, 18, 121, 122, 123, 124, 125] (by decide +kernel) (by decide +kernel)
set_option maxRecDepth 20000 in
theorem gX1_settleNode_X0_functionAt : GoodIn wsX1_settleNode (wsV RX1 108 RX0 yX0_functionAt wsX0_functionAt) := goodIn_app (goodIn_of _ (by decide +kernel)) ggX1_settleNode_X0_functionAt
set_option maxRecDepth 20000 in
theorem ggX1_settleNode_X1_fitCut : GoodIn wsX1_settleNode wsX1_fitCut := goodIn_r _ [33, 34, 35, 36, 37, 38, 39, 40, 41, 42, 43, 44, 32, 45, 46, 47, 48, 49, 50, 51, 52, 53, 54, 55, 56, 57, 58, 59, 60, 61, 62, 63, 64, 65, 66, 67, 68, 69, 70, 71, 72, 73, 74, 75, 76, 77, 78, 79, 80, 81, 82, 83, 84, 85, 86, 1, 2, 87, 88, 89, 90, 91, 92, 93, 94, 95, 96, 97, 98, 109, 110, 111, 112, 113, 114, 126, 127, 128, 129, 130, 131] (by decide +kernel) (by decide +kernel)
set_option maxRecDepth 20000 in
theorem gX1_settleNode_X1_fitCut : GoodIn wsX1_settleNode (wsV RX1 111 RX1 yX1_fitCut wsX1_fitCut) := goodIn_app (goodIn_of _ (by decide +kernel)) ggX1_settleNode_X1_fitCut
set_option maxRecDepth 20000 in
theorem ggX1_settleNode_X1_timeOf : GoodIn wsX1_settleNode wsX1_timeOf := goodIn_r _ [86, 1, 2, 109, 110, 111, 112, 113, 114] (by decide +kernel) (by decide +kernel)
set_option maxRecDepth 20000 in
theorem gX1_settleNode_X1_timeOf : GoodIn wsX1_settleNode (wsV RX1 115 RX1 yX1_timeOf wsX1_timeOf) := goodIn_app (goodIn_of _ (by decide +kernel)) ggX1_settleNode_X1_timeOf
set_option maxRecDepth 20000 in
theorem ggX1_settleNode_X1_fitInverters : GoodIn wsX1_settleNode wsX1_fitInverters := goodIn_r _ [102, 35, 36, 103, 104, 105, 106, 57, 107, 60, 108, 92, 93, 32, 94, 87, 88, 89, 90, 91, 95, 96, 97, 98, 1, 109, 110, 111, 112, 113, 114, 126, 127, 128, 129, 130, 131] (by decide +kernel) (by decide +kernel)
set_option maxRecDepth 20000 in
theorem gX1_settleNode_X1_fitInverters : GoodIn wsX1_settleNode (wsV RX1 118 RX1 yX1_fitInverters wsX1_fitInverters) := goodIn_app (goodIn_of _ (by decide +kernel)) ggX1_settleNode_X1_fitInverters
theorem dX1_settleNode_0 : decode cX1_settleNode 0 = .ok (.iconst 2, 1) := by decide +kernel
theorem dX1_settleNode_1 : decode cX1_settleNode 1 = .ok (.iload_n 1, 1) := by decide +kernel
theorem dX1_settleNode_2 : decode cX1_settleNode 2 = .ok (.imul, 1) := by decide +kernel
theorem dX1_settleNode_3 : decode cX1_settleNode 3 = .ok (.istore_n 2, 1) := by decide +kernel
theorem dX1_settleNode_4 : decode cX1_settleNode 4 = .ok (.aload_n 0, 1) := by decide +kernel
theorem dX1_settleNode_5 : decode cX1_settleNode 5 = .ok (.getfield 11, 3) := by decide +kernel
theorem dX1_settleNode_8 : decode cX1_settleNode 8 = .ok (.iload_n 2, 1) := by decide +kernel
theorem dX1_settleNode_9 : decode cX1_settleNode 9 = .ok (.ldc2_w 46, 3) := by decide +kernel
theorem dX1_settleNode_12 : decode cX1_settleNode 12 = .ok (.lastore, 1) := by decide +kernel
theorem dX1_settleNode_13 : decode cX1_settleNode 13 = .ok (.aload_n 0, 1) := by decide +kernel
theorem dX1_settleNode_14 : decode cX1_settleNode 14 = .ok (.getfield 11, 3) := by decide +kernel
theorem dX1_settleNode_17 : decode cX1_settleNode 17 = .ok (.iload_n 2, 1) := by decide +kernel
theorem dX1_settleNode_18 : decode cX1_settleNode 18 = .ok (.iconst 1, 1) := by decide +kernel
theorem dX1_settleNode_19 : decode cX1_settleNode 19 = .ok (.iadd, 1) := by decide +kernel
theorem dX1_settleNode_20 : decode cX1_settleNode 20 = .ok (.ldc2_w 46, 3) := by decide +kernel
theorem dX1_settleNode_23 : decode cX1_settleNode 23 = .ok (.lastore, 1) := by decide +kernel
theorem dX1_settleNode_24 : decode cX1_settleNode 24 = .ok (.aload_n 0, 1) := by decide +kernel
theorem dX1_settleNode_25 : decode cX1_settleNode 25 = .ok (.getfield 23, 3) := by decide +kernel
theorem dX1_settleNode_28 : decode cX1_settleNode 28 = .ok (.iload_n 1, 1) := by decide +kernel
theorem dX1_settleNode_29 : decode cX1_settleNode 29 = .ok (.invokevirtual 91, 3) := by decide +kernel
theorem dX1_settleNode_32 : decode cX1_settleNode 32 = .ok (.ifCond .eq 33, 3) := by decide +kernel
theorem dX1_settleNode_35 : decode cX1_settleNode 35 = .ok (.aload_n 0, 1) := by decide +kernel
theorem dX1_settleNode_36 : decode cX1_settleNode 36 = .ok (.getfield 11, 3) := by decide +kernel
theorem dX1_settleNode_39 : decode cX1_settleNode 39 = .ok (.iload_n 2, 1) := by decide +kernel
theorem dX1_settleNode_40 : decode cX1_settleNode 40 = .ok (.aload_n 0, 1) := by decide +kernel
theorem dX1_settleNode_41 : decode cX1_settleNode 41 = .ok (.getfield 23, 3) := by decide +kernel
theorem dX1_settleNode_44 : decode cX1_settleNode 44 = .ok (.getfield 94, 3) := by decide +kernel
theorem dX1_settleNode_47 : decode cX1_settleNode 47 = .ok (.aload_n 0, 1) := by decide +kernel
theorem dX1_settleNode_48 : decode cX1_settleNode 48 = .ok (.getfield 23, 3) := by decide +kernel
theorem dX1_settleNode_51 : decode cX1_settleNode 51 = .ok (.getfield 97, 3) := by decide +kernel
theorem dX1_settleNode_54 : decode cX1_settleNode 54 = .ok (.iload_n 1, 1) := by decide +kernel
theorem dX1_settleNode_55 : decode cX1_settleNode 55 = .ok (.iaload, 1) := by decide +kernel
theorem dX1_settleNode_56 : decode cX1_settleNode 56 = .ok (.iaload, 1) := by decide +kernel
theorem dX1_settleNode_57 : decode cX1_settleNode 57 = .ok (.i2l, 1) := by decide +kernel
theorem dX1_settleNode_58 : decode cX1_settleNode 58 = .ok (.bipush 23, 2) := by decide +kernel
theorem dX1_settleNode_60 : decode cX1_settleNode 60 = .ok (.lshl, 1) := by decide +kernel
theorem dX1_settleNode_61 : decode cX1_settleNode 61 = .ok (.lastore, 1) := by decide +kernel
theorem dX1_settleNode_62 : decode cX1_settleNode 62 = .ok (.goto 46, 3) := by decide +kernel
theorem dX1_settleNode_65 : decode cX1_settleNode 65 = .ok (.iconst 0, 1) := by decide +kernel
theorem dX1_settleNode_66 : decode cX1_settleNode 66 = .ok (.istore_n 3, 1) := by decide +kernel
theorem dX1_settleNode_67 : decode cX1_settleNode 67 = .ok (.iload_n 3, 1) := by decide +kernel
theorem dX1_settleNode_68 : decode cX1_settleNode 68 = .ok (.aload_n 0, 1) := by decide +kernel
theorem dX1_settleNode_69 : decode cX1_settleNode 69 = .ok (.getfield 27, 3) := by decide +kernel
theorem dX1_settleNode_72 : decode cX1_settleNode 72 = .ok (.iload_n 1, 1) := by decide +kernel
theorem dX1_settleNode_73 : decode cX1_settleNode 73 = .ok (.invokevirtual 100, 3) := by decide +kernel
theorem dX1_settleNode_76 : decode cX1_settleNode 76 = .ok (.if_icmp .ge 32, 3) := by decide +kernel
theorem dX1_settleNode_79 : decode cX1_settleNode 79 = .ok (.aload_n 0, 1) := by decide +kernel
theorem dX1_settleNode_80 : decode cX1_settleNode 80 = .ok (.iload_n 1, 1) := by decide +kernel
theorem dX1_settleNode_81 : decode cX1_settleNode 81 = .ok (.aload_n 0, 1) := by decide +kernel
theorem dX1_settleNode_82 : decode cX1_settleNode 82 = .ok (.getfield 27, 3) := by decide +kernel
theorem dX1_settleNode_85 : decode cX1_settleNode 85 = .ok (.iload_n 1, 1) := by decide +kernel
theorem dX1_settleNode_86 : decode cX1_settleNode 86 = .ok (.iload_n 3, 1) := by decide +kernel
theorem dX1_settleNode_87 : decode cX1_settleNode 87 = .ok (.invokevirtual 105, 3) := by decide +kernel
theorem dX1_settleNode_90 : decode cX1_settleNode 90 = .ok (.aload_n 0, 1) := by decide +kernel
theorem dX1_settleNode_91 : decode cX1_settleNode 91 = .ok (.getfield 27, 3) := by decide +kernel
theorem dX1_settleNode_94 : decode cX1_settleNode 94 = .ok (.iload_n 1, 1) := by decide +kernel
theorem dX1_settleNode_95 : decode cX1_settleNode 95 = .ok (.iload_n 3, 1) := by decide +kernel
theorem dX1_settleNode_96 : decode cX1_settleNode 96 = .ok (.invokevirtual 108, 3) := by decide +kernel
theorem dX1_settleNode_99 : decode cX1_settleNode 99 = .ok (.invokevirtual 111, 3) := by decide +kernel
theorem dX1_settleNode_102 : decode cX1_settleNode 102 = .ok (.iinc 3 1, 3) := by decide +kernel
theorem dX1_settleNode_105 : decode cX1_settleNode 105 = .ok (.goto (-38), 3) := by decide +kernel
theorem dX1_settleNode_108 : decode cX1_settleNode 108 = .ok (.aload_n 0, 1) := by decide +kernel
theorem dX1_settleNode_109 : decode cX1_settleNode 109 = .ok (.iload_n 2, 1) := by decide +kernel
theorem dX1_settleNode_110 : decode cX1_settleNode 110 = .ok (.invokevirtual 115, 3) := by decide +kernel
theorem dX1_settleNode_113 : decode cX1_settleNode 113 = .ok (.istore_n 3, 1) := by decide +kernel
theorem dX1_settleNode_114 : decode cX1_settleNode 114 = .ok (.aload_n 0, 1) := by decide +kernel
theorem dX1_settleNode_115 : decode cX1_settleNode 115 = .ok (.iload_n 2, 1) := by decide +kernel
theorem dX1_settleNode_116 : decode cX1_settleNode 116 = .ok (.iconst 1, 1) := by decide +kernel
theorem dX1_settleNode_117 : decode cX1_settleNode 117 = .ok (.iadd, 1) := by decide +kernel
theorem dX1_settleNode_118 : decode cX1_settleNode 118 = .ok (.invokevirtual 115, 3) := by decide +kernel
theorem dX1_settleNode_121 : decode cX1_settleNode 121 = .ok (.istore 4, 2) := by decide +kernel
theorem dX1_settleNode_123 : decode cX1_settleNode 123 = .ok (.aload_n 0, 1) := by decide +kernel
theorem dX1_settleNode_124 : decode cX1_settleNode 124 = .ok (.iload_n 2, 1) := by decide +kernel
theorem dX1_settleNode_125 : decode cX1_settleNode 125 = .ok (.iload 4, 2) := by decide +kernel
theorem dX1_settleNode_127 : decode cX1_settleNode 127 = .ok (.invokevirtual 118, 3) := by decide +kernel
theorem dX1_settleNode_130 : decode cX1_settleNode 130 = .ok (.aload_n 0, 1) := by decide +kernel
theorem dX1_settleNode_131 : decode cX1_settleNode 131 = .ok (.iload_n 2, 1) := by decide +kernel
theorem dX1_settleNode_132 : decode cX1_settleNode 132 = .ok (.iconst 1, 1) := by decide +kernel
theorem dX1_settleNode_133 : decode cX1_settleNode 133 = .ok (.iadd, 1) := by decide +kernel
theorem dX1_settleNode_134 : decode cX1_settleNode 134 = .ok (.iload_n 3, 1) := by decide +kernel
theorem dX1_settleNode_135 : decode cX1_settleNode 135 = .ok (.invokevirtual 118, 3) := by decide +kernel
theorem dX1_settleNode_138 : decode cX1_settleNode 138 = .ok (.return_, 1) := by decide +kernel
set_option maxRecDepth 20000 in
theorem ggX1_fitInverters_X3_isInverter : GoodIn wsX1_fitInverters wsX3_isInverter := goodIn_r _ [8, 9, 10, 31, 32, 33, 34, 35, 36] (by decide +kernel) (by decide +kernel)
set_option maxRecDepth 20000 in
theorem gX1_fitInverters_X3_isInverter : GoodIn wsX1_fitInverters (wsV RX1 125 RX3 yX3_isInverter wsX3_isInverter) := goodIn_app (goodIn_of _ (by decide +kernel)) ggX1_fitInverters_X3_isInverter
set_option maxRecDepth 20000 in
theorem ggX1_fitInverters_X1_pinShift : GoodIn wsX1_fitInverters wsX1_pinShift := goodIn_r _ [14] (by decide +kernel) (by decide +kernel)
set_option maxRecDepth 20000 in
theorem gX1_fitInverters_X1_pinShift : GoodIn wsX1_fitInverters (va_wsS RX1 55 yX1_pinShift wsX1_pinShift) := goodIn_app (goodIn_of _ (by decide +kernel)) ggX1_fitInverters_X1_pinShift
set_option maxRecDepth 20000 in
theorem ggX1_fitInverters_X3_delayAt : GoodIn wsX1_fitInverters wsX3_delayAt := goodIn_r _ [18, 19, 31, 32, 33, 34, 35, 36] (by decide +kernel) (by decide +kernel)
set_option maxRecDepth 20000 in
theorem gX1_fitInverters_X3_delayAt : GoodIn wsX1_fitInverters (wsV RX1 128 RX3 yX3_delayAt wsX3_delayAt) := goodIn_app (goodIn_of _ (by decide +kernel)) ggX1_fitInverters_X3_delayAt
set_option maxRecDepth 20000 in
theorem ggX1_fitInverters_X1_offer : GoodIn wsX1_fitInverters wsX1_offer := goodIn_r _ [23, 24, 25, 26, 27, 28, 29, 30] (by decide +kernel) (by decide +kernel)
set_option maxRecDepth 20000 in
theorem gX1_fitInverters_X1_offer : GoodIn wsX1_fitInverters (wsV RX1 133 RX1 yX1_offer wsX1_offer) := goodIn_app (goodIn_of _ (by decide +kernel)) ggX1_fitInverters_X1_offer
theorem dX1_fitInverters_0 : decode cX1_fitInverters 0 = .ok (.iload_n 2, 1) := by decide +kernel
theorem dX1_fitInverters_1 : decode cX1_fitInverters 1 = .ok (.iconst (-1), 1) := by decide +kernel
theorem dX1_fitInverters_2 : decode cX1_fitInverters 2 = .ok (.if_icmp .ne 4, 3) := by decide +kernel
theorem dX1_fitInverters_5 : decode cX1_fitInverters 5 = .ok (.return_, 1) := by decide +kernel
theorem dX1_fitInverters_6 : decode cX1_fitInverters 6 = .ok (.iconst 0, 1) := by decide +kernel
theorem dX1_fitInverters_7 : decode cX1_fitInverters 7 = .ok (.istore_n 3, 1) := by decide +kernel
theorem dX1_fitInverters_8 : decode cX1_fitInverters 8 = .ok (.iload_n 3, 1) := by decide +kernel
theorem dX1_fitInverters_9 : decode cX1_fitInverters 9 = .ok (.aload_n 0, 1) := by decide +kernel
theorem dX1_fitInverters_10 : decode cX1_fitInverters 10 = .ok (.getfield 31, 3) := by decide +kernel
theorem dX1_fitInverters_13 : decode cX1_fitInverters 13 = .ok (.getfield 122, 3) := by decide +kernel
theorem dX1_fitInverters_16 : decode cX1_fitInverters 16 = .ok (.if_icmp .ge 54, 3) := by decide +kernel
theorem dX1_fitInverters_19 : decode cX1_fitInverters 19 = .ok (.aload_n 0, 1) := by decide +kernel
theorem dX1_fitInverters_20 : decode cX1_fitInverters 20 = .ok (.getfield 31, 3) := by decide +kernel
theorem dX1_fitInverters_23 : decode cX1_fitInverters 23 = .ok (.iload_n 3, 1) := by decide +kernel
theorem dX1_fitInverters_24 : decode cX1_fitInverters 24 = .ok (.invokevirtual 125, 3) := by decide +kernel
theorem dX1_fitInverters_27 : decode cX1_fitInverters 27 = .ok (.ifCond .eq 37, 3) := by decide +kernel
theorem dX1_fitInverters_30 : decode cX1_fitInverters 30 = .ok (.iload_n 1, 1) := by decide +kernel
theorem dX1_fitInverters_31 : decode cX1_fitInverters 31 = .ok (.iconst 1, 1) := by decide +kernel
theorem dX1_fitInverters_32 : decode cX1_fitInverters 32 = .ok (.ixor, 1) := by decide +kernel
theorem dX1_fitInverters_33 : decode cX1_fitInverters 33 = .ok (.i2l, 1) := by decide +kernel
theorem dX1_fitInverters_34 : decode cX1_fitInverters 34 = .ok (.iconst 0, 1) := by decide +kernel
theorem dX1_fitInverters_35 : decode cX1_fitInverters 35 = .ok (.invokestatic 55, 3) := by decide +kernel
theorem dX1_fitInverters_38 : decode cX1_fitInverters 38 = .ok (.lshl, 1) := by decide +kernel
theorem dX1_fitInverters_39 : decode cX1_fitInverters 39 = .ok (.lstore 4, 2) := by decide +kernel
theorem dX1_fitInverters_41 : decode cX1_fitInverters 41 = .ok (.aload_n 0, 1) := by decide +kernel
theorem dX1_fitInverters_42 : decode cX1_fitInverters 42 = .ok (.iload_n 1, 1) := by decide +kernel
theorem dX1_fitInverters_43 : decode cX1_fitInverters 43 = .ok (.iload_n 2, 1) := by decide +kernel
theorem dX1_fitInverters_44 : decode cX1_fitInverters 44 = .ok (.aload_n 0, 1) := by decide +kernel
theorem dX1_fitInverters_45 : decode cX1_fitInverters 45 = .ok (.getfield 31, 3) := by decide +kernel
theorem dX1_fitInverters_48 : decode cX1_fitInverters 48 = .ok (.iload_n 3, 1) := by decide +kernel
theorem dX1_fitInverters_49 : decode cX1_fitInverters 49 = .ok (.iconst 0, 1) := by decide +kernel
theorem dX1_fitInverters_50 : decode cX1_fitInverters 50 = .ok (.invokevirtual 128, 3) := by decide +kernel
theorem dX1_fitInverters_53 : decode cX1_fitInverters 53 = .ok (.iadd, 1) := by decide +kernel
theorem dX1_fitInverters_54 : decode cX1_fitInverters 54 = .ok (.ldc2_w 131, 3) := by decide +kernel
theorem dX1_fitInverters_57 : decode cX1_fitInverters 57 = .ok (.lload 4, 2) := by decide +kernel
theorem dX1_fitInverters_59 : decode cX1_fitInverters 59 = .ok (.lor, 1) := by decide +kernel
theorem dX1_fitInverters_60 : decode cX1_fitInverters 60 = .ok (.iload_n 3, 1) := by decide +kernel
theorem dX1_fitInverters_61 : decode cX1_fitInverters 61 = .ok (.invokevirtual 133, 3) := by decide +kernel
theorem dX1_fitInverters_64 : decode cX1_fitInverters 64 = .ok (.iinc 3 1, 3) := by decide +kernel
theorem dX1_fitInverters_67 : decode cX1_fitInverters 67 = .ok (.goto (-59), 3) := by decide +kernel
theorem dX1_fitInverters_70 : decode cX1_fitInverters 70 = .ok (.return_, 1) := by decide +kernel
set_option maxRecDepth 20000 in
theorem ggX1_fitCut_X4_full : GoodIn wsX1_fitCut wsX4_full := goodIn_r _ [8] (by decide +kernel) (by decide +kernel)
set_option maxRecDepth 20000 in
theorem gX1_fitCut_X4_full : GoodIn wsX1_fitCut (va_wsS RX1 137 yX4_full wsX4_full) := goodIn_app (goodIn_of _ (by decide +kernel)) ggX1_fitCut_X4_full
set_option maxRecDepth 20000 in
theorem ggX1_fitCut_X1_fitCell : GoodIn wsX1_fitCut wsX1_fitCell := goodIn_r _ [13, 2, 14, 15, 16, 17, 18, 19, 20, 21, 22, 23, 24, 25, 26, 27, 28, 29, 30, 31, 32, 33, 34, 35, 36, 12, 37, 4, 1, 38, 39, 40, 41, 42, 43, 44, 45, 46, 47, 48, 49, 50, 51, 52, 53, 54, 55, 56, 57, 58, 59, 60, 61, 62, 63, 64, 65, 66, 67, 68, 69, 70, 71, 72, 73, 74, 75, 76, 77, 78, 79, 80] (by decide +kernel) (by decide +kernel)
set_option maxRecDepth 20000 in
theorem gX1_fitCut_X1_fitCell : GoodIn wsX1_fitCut (wsV RX1 142 RX1 yX1_fitCell wsX1_fitCell) := goodIn_app (goodIn_of _ (by decide +kernel)) ggX1_fitCut_X1_fitCell
theorem dX1_fitCut_0 : decode cX1_fitCut 0 = .ok (.iconst 0, 1) := by decide +kernel
theorem dX1_fitCut_1 : decode cX1_fitCut 1 = .ok (.istore 4, 2) := by decide +kernel
theorem dX1_fitCut_3 : decode cX1_fitCut 3 = .ok (.iconst 0, 1) := by decide +kernel
theorem dX1_fitCut_4 : decode cX1_fitCut 4 = .ok (.istore 5, 2) := by decide +kernel
theorem dX1_fitCut_6 : decode cX1_fitCut 6 = .ok (.iload 5, 2) := by decide +kernel
theorem dX1_fitCut_8 : decode cX1_fitCut 8 = .ok (.iload_n 1, 1) := by decide +kernel
theorem dX1_fitCut_9 : decode cX1_fitCut 9 = .ok (.if_icmp .ge 31, 3) := by decide +kernel
theorem dX1_fitCut_12 : decode cX1_fitCut 12 = .ok (.iload_n 2, 1) := by decide +kernel
theorem dX1_fitCut_13 : decode cX1_fitCut 13 = .ok (.iload 5, 2) := by decide +kernel
theorem dX1_fitCut_15 : decode cX1_fitCut 15 = .ok (.iushr, 1) := by decide +kernel
theorem dX1_fitCut_16 : decode cX1_fitCut 16 = .ok (.iconst 1, 1) := by decide +kernel
theorem dX1_fitCut_17 : decode cX1_fitCut 17 = .ok (.iand, 1) := by decide +kernel
theorem dX1_fitCut_18 : decode cX1_fitCut 18 = .ok (.iconst 1, 1) := by decide +kernel
theorem dX1_fitCut_19 : decode cX1_fitCut 19 = .ok (.if_icmp .ne 15, 3) := by decide +kernel
theorem dX1_fitCut_22 : decode cX1_fitCut 22 = .ok (.aload_n 0, 1) := by decide +kernel
theorem dX1_fitCut_23 : decode cX1_fitCut 23 = .ok (.getfield 19, 3) := by decide +kernel
theorem dX1_fitCut_26 : decode cX1_fitCut 26 = .ok (.iload 4, 2) := by decide +kernel
theorem dX1_fitCut_28 : decode cX1_fitCut 28 = .ok (.iload 5, 2) := by decide +kernel
theorem dX1_fitCut_30 : decode cX1_fitCut 30 = .ok (.iastore, 1) := by decide +kernel
theorem dX1_fitCut_31 : decode cX1_fitCut 31 = .ok (.iinc 4 1, 3) := by decide +kernel
theorem dX1_fitCut_34 : decode cX1_fitCut 34 = .ok (.iinc 5 1, 3) := by decide +kernel
theorem dX1_fitCut_37 : decode cX1_fitCut 37 = .ok (.goto (-31), 3) := by decide +kernel
theorem dX1_fitCut_40 : decode cX1_fitCut 40 = .ok (.iload 4, 2) := by decide +kernel
theorem dX1_fitCut_42 : decode cX1_fitCut 42 = .ok (.invokestatic 137, 3) := by decide +kernel
theorem dX1_fitCut_45 : decode cX1_fitCut 45 = .ok (.istore 5, 2) := by decide +kernel
theorem dX1_fitCut_47 : decode cX1_fitCut 47 = .ok (.iconst 0, 1) := by decide +kernel
theorem dX1_fitCut_48 : decode cX1_fitCut 48 = .ok (.istore 6, 2) := by decide +kernel
theorem dX1_fitCut_50 : decode cX1_fitCut 50 = .ok (.iload 6, 2) := by decide +kernel
theorem dX1_fitCut_52 : decode cX1_fitCut 52 = .ok (.aload_n 0, 1) := by decide +kernel
theorem dX1_fitCut_53 : decode cX1_fitCut 53 = .ok (.getfield 31, 3) := by decide +kernel
theorem dX1_fitCut_56 : decode cX1_fitCut 56 = .ok (.getfield 122, 3) := by decide +kernel
theorem dX1_fitCut_59 : decode cX1_fitCut 59 = .ok (.if_icmp .ge 49, 3) := by decide +kernel
theorem dX1_fitCut_62 : decode cX1_fitCut 62 = .ok (.aload_n 0, 1) := by decide +kernel
theorem dX1_fitCut_63 : decode cX1_fitCut 63 = .ok (.getfield 31, 3) := by decide +kernel
theorem dX1_fitCut_66 : decode cX1_fitCut 66 = .ok (.getfield 75, 3) := by decide +kernel
theorem dX1_fitCut_69 : decode cX1_fitCut 69 = .ok (.iload 6, 2) := by decide +kernel
theorem dX1_fitCut_71 : decode cX1_fitCut 71 = .ok (.iaload, 1) := by decide +kernel
theorem dX1_fitCut_72 : decode cX1_fitCut 72 = .ok (.iload 4, 2) := by decide +kernel
theorem dX1_fitCut_74 : decode cX1_fitCut 74 = .ok (.if_icmp .ne 28, 3) := by decide +kernel
theorem dX1_fitCut_77 : decode cX1_fitCut 77 = .ok (.aload_n 0, 1) := by decide +kernel
theorem dX1_fitCut_78 : decode cX1_fitCut 78 = .ok (.iconst 2, 1) := by decide +kernel
theorem dX1_fitCut_79 : decode cX1_fitCut 79 = .ok (.iload_n 1, 1) := by decide +kernel
theorem dX1_fitCut_80 : decode cX1_fitCut 80 = .ok (.imul, 1) := by decide +kernel
theorem dX1_fitCut_81 : decode cX1_fitCut 81 = .ok (.iload 6, 2) := by decide +kernel
theorem dX1_fitCut_83 : decode cX1_fitCut 83 = .ok (.iload_n 3, 1) := by decide +kernel
theorem dX1_fitCut_84 : decode cX1_fitCut 84 = .ok (.invokevirtual 142, 3) := by decide +kernel
theorem dX1_fitCut_87 : decode cX1_fitCut 87 = .ok (.aload_n 0, 1) := by decide +kernel
theorem dX1_fitCut_88 : decode cX1_fitCut 88 = .ok (.iconst 2, 1) := by decide +kernel
theorem dX1_fitCut_89 : decode cX1_fitCut 89 = .ok (.iload_n 1, 1) := by decide +kernel
theorem dX1_fitCut_90 : decode cX1_fitCut 90 = .ok (.imul, 1) := by decide +kernel
theorem dX1_fitCut_91 : decode cX1_fitCut 91 = .ok (.iconst 1, 1) := by decide +kernel
theorem dX1_fitCut_92 : decode cX1_fitCut 92 = .ok (.iadd, 1) := by decide +kernel
theorem dX1_fitCut_93 : decode cX1_fitCut 93 = .ok (.iload 6, 2) := by decide +kernel
theorem dX1_fitCut_95 : decode cX1_fitCut 95 = .ok (.iload_n 3, 1) := by decide +kernel
theorem dX1_fitCut_96 : decode cX1_fitCut 96 = .ok (.iload 5, 2) := by decide +kernel
theorem dX1_fitCut_98 : decode cX1_fitCut 98 = .ok (.ixor, 1) := by decide +kernel
theorem dX1_fitCut_99 : decode cX1_fitCut 99 = .ok (.invokevirtual 142, 3) := by decide +kernel
theorem dX1_fitCut_102 : decode cX1_fitCut 102 = .ok (.iinc 6 1, 3) := by decide +kernel
theorem dX1_fitCut_105 : decode cX1_fitCut 105 = .ok (.goto (-55), 3) := by decide +kernel
theorem dX1_fitCut_108 : decode cX1_fitCut 108 = .ok (.return_, 1) := by decide +kernel
set_option maxRecDepth 20000 in
theorem ggX1_fitCell_J6_bitCount_0f7a4 : GoodIn wsX1_fitCell wsJ6_bitCount_0f7a4 := goodIn_r _ [6, 7, 8, 9] (by decide +kernel) (by decide +kernel)
set_option maxRecDepth 20000 in
theorem gX1_fitCell_J6_bitCount_0f7a4 : GoodIn wsX1_fitCell (va_wsS RX1 145 yJ6_bitCount_0f7a4 wsJ6_bitCount_0f7a4) := goodIn_app (goodIn_of _ (by decide +kernel)) ggX1_fitCell_J6_bitCount_0f7a4
set_option maxRecDepth 20000 in
theorem ggX1_fitCell_X3_arrangementCount : GoodIn wsX1_fitCell wsX3_arrangementCount := goodIn_r _ [14, 15, 16, 66, 67, 68, 69, 70, 71] (by decide +kernel) (by decide +kernel)
set_option maxRecDepth 20000 in
theorem gX1_fitCell_X3_arrangementCount : GoodIn wsX1_fitCell (wsV RX1 150 RX3 yX3_arrangementCount wsX3_arrangementCount) := goodIn_app (goodIn_of _ (by decide +kernel)) ggX1_fitCell_X3_arrangementCount
set_option maxRecDepth 20000 in
theorem ggX1_fitCell_X3_arrangedTruth : GoodIn wsX1_fitCell wsX3_arrangedTruth := goodIn_r _ [20, 21, 66, 67, 68, 69, 70, 71] (by decide +kernel) (by decide +kernel)
set_option maxRecDepth 20000 in
theorem gX1_fitCell_X3_arrangedTruth : GoodIn wsX1_fitCell (wsV RX1 153 RX3 yX3_arrangedTruth wsX3_arrangedTruth) := goodIn_app (goodIn_of _ (by decide +kernel)) ggX1_fitCell_X3_arrangedTruth
set_option maxRecDepth 20000 in
theorem ggX1_fitCell_X1_fitArrangement : GoodIn wsX1_fitCell wsX1_fitArrangement := goodIn_r _ [26, 1, 27, 28, 29, 30, 31, 32, 33, 34, 35, 13, 36, 37, 16, 38, 39, 40, 41, 42, 43, 44, 25, 45, 46, 47, 48, 49, 50, 51, 52, 53, 54, 55, 56, 57, 58, 59, 60, 61, 62, 63, 64, 65, 66, 67, 68, 69, 70, 71] (by decide +kernel) (by decide +kernel)
set_option maxRecDepth 20000 in
theorem gX1_fitCell_X1_fitArrangement : GoodIn wsX1_fitCell (wsV RX1 156 RX1 yX1_fitArrangement wsX1_fitArrangement) := goodIn_app (goodIn_of _ (by decide +kernel)) ggX1_fitCell_X1_fitArrangement
theorem dX1_fitCell_0 : decode cX1_fitCell 0 = .ok (.aload_n 0, 1) := by decide +kernel
theorem dX1_fitCell_1 : decode cX1_fitCell 1 = .ok (.getfield 31, 3) := by decide +kernel
theorem dX1_fitCell_4 : decode cX1_fitCell 4 = .ok (.getfield 88, 3) := by decide +kernel
theorem dX1_fitCell_7 : decode cX1_fitCell 7 = .ok (.iload_n 2, 1) := by decide +kernel
theorem dX1_fitCell_8 : decode cX1_fitCell 8 = .ok (.iaload, 1) := by decide +kernel
theorem dX1_fitCell_9 : decode cX1_fitCell 9 = .ok (.invokestatic 145, 3) := by decide +kernel
theorem dX1_fitCell_12 : decode cX1_fitCell 12 = .ok (.iload_n 3, 1) := by decide +kernel
theorem dX1_fitCell_13 : decode cX1_fitCell 13 = .ok (.invokestatic 145, 3) := by decide +kernel
theorem dX1_fitCell_16 : decode cX1_fitCell 16 = .ok (.if_icmp .eq 4, 3) := by decide +kernel
theorem dX1_fitCell_19 : decode cX1_fitCell 19 = .ok (.return_, 1) := by decide +kernel
theorem dX1_fitCell_20 : decode cX1_fitCell 20 = .ok (.iconst 0, 1) := by decide +kernel
theorem dX1_fitCell_21 : decode cX1_fitCell 21 = .ok (.istore 4, 2) := by decide +kernel
theorem dX1_fitCell_23 : decode cX1_fitCell 23 = .ok (.iload 4, 2) := by decide +kernel
theorem dX1_fitCell_25 : decode cX1_fitCell 25 = .ok (.aload_n 0, 1) := by decide +kernel
theorem dX1_fitCell_26 : decode cX1_fitCell 26 = .ok (.getfield 31, 3) := by decide +kernel
theorem dX1_fitCell_29 : decode cX1_fitCell 29 = .ok (.iload_n 2, 1) := by decide +kernel
theorem dX1_fitCell_30 : decode cX1_fitCell 30 = .ok (.invokevirtual 150, 3) := by decide +kernel
theorem dX1_fitCell_33 : decode cX1_fitCell 33 = .ok (.if_icmp .ge 31, 3) := by decide +kernel
theorem dX1_fitCell_36 : decode cX1_fitCell 36 = .ok (.aload_n 0, 1) := by decide +kernel
theorem dX1_fitCell_37 : decode cX1_fitCell 37 = .ok (.getfield 31, 3) := by decide +kernel
theorem dX1_fitCell_40 : decode cX1_fitCell 40 = .ok (.iload_n 2, 1) := by decide +kernel
theorem dX1_fitCell_41 : decode cX1_fitCell 41 = .ok (.iload 4, 2) := by decide +kernel
theorem dX1_fitCell_43 : decode cX1_fitCell 43 = .ok (.invokevirtual 153, 3) := by decide +kernel
theorem dX1_fitCell_46 : decode cX1_fitCell 46 = .ok (.iload_n 3, 1) := by decide +kernel
theorem dX1_fitCell_47 : decode cX1_fitCell 47 = .ok (.if_icmp .ne 11, 3) := by decide +kernel
theorem dX1_fitCell_50 : decode cX1_fitCell 50 = .ok (.aload_n 0, 1) := by decide +kernel
theorem dX1_fitCell_51 : decode cX1_fitCell 51 = .ok (.iload_n 1, 1) := by decide +kernel
theorem dX1_fitCell_52 : decode cX1_fitCell 52 = .ok (.iload_n 2, 1) := by decide +kernel
theorem dX1_fitCell_53 : decode cX1_fitCell 53 = .ok (.iload 4, 2) := by decide +kernel
theorem dX1_fitCell_55 : decode cX1_fitCell 55 = .ok (.invokevirtual 156, 3) := by decide +kernel
theorem dX1_fitCell_58 : decode cX1_fitCell 58 = .ok (.iinc 4 1, 3) := by decide +kernel
theorem dX1_fitCell_61 : decode cX1_fitCell 61 = .ok (.goto (-38), 3) := by decide +kernel
theorem dX1_fitCell_64 : decode cX1_fitCell 64 = .ok (.return_, 1) := by decide +kernel
set_option maxRecDepth 20000 in
theorem ggX1_fitArrangement_X3_leafAt : GoodIn wsX1_fitArrangement wsX3_leafAt := goodIn_r _ [12, 13, 14, 44, 45, 46, 47, 48, 49] (by decide +kernel) (by decide +kernel)
set_option maxRecDepth 20000 in
theorem gX1_fitArrangement_X3_leafAt : GoodIn wsX1_fitArrangement (wsV RX1 159 RX3 yX3_leafAt wsX3_leafAt) := goodIn_app (goodIn_of _ (by decide +kernel)) ggX1_fitArrangement_X3_leafAt
set_option maxRecDepth 20000 in
theorem ggX1_fitArrangement_X3_turnAt : GoodIn wsX1_fitArrangement wsX3_turnAt := goodIn_r _ [18] (by decide +kernel) (by decide +kernel)
set_option maxRecDepth 20000 in
theorem gX1_fitArrangement_X3_turnAt : GoodIn wsX1_fitArrangement (wsV RX1 163 RX3 yX3_turnAt wsX3_turnAt) := goodIn_app (goodIn_of _ (by decide +kernel)) ggX1_fitArrangement_X3_turnAt
set_option maxRecDepth 20000 in
theorem ggX1_fitArrangement_X1_timeOf : GoodIn wsX1_fitArrangement wsX1_timeOf := goodIn_r _ [23, 24, 25, 38, 39, 40, 41, 42, 43] (by decide +kernel) (by decide +kernel)
set_option maxRecDepth 20000 in
theorem gX1_fitArrangement_X1_timeOf : GoodIn wsX1_fitArrangement (wsV RX1 115 RX1 yX1_timeOf wsX1_timeOf) := goodIn_app (goodIn_of _ (by decide +kernel)) ggX1_fitArrangement_X1_timeOf
set_option maxRecDepth 20000 in
theorem ggX1_fitArrangement_X3_delayAt : GoodIn wsX1_fitArrangement wsX3_delayAt := goodIn_r _ [29, 30, 44, 45, 46, 47, 48, 49] (by decide +kernel) (by decide +kernel)
set_option maxRecDepth 20000 in
theorem gX1_fitArrangement_X3_delayAt : GoodIn wsX1_fitArrangement (wsV RX1 128 RX3 yX3_delayAt wsX3_delayAt) := goodIn_app (goodIn_of _ (by decide +kernel)) ggX1_fitArrangement_X3_delayAt
set_option maxRecDepth 20000 in
theorem ggX1_fitArrangement_X1_pinShift : GoodIn wsX1_fitArrangement wsX1_pinShift := goodIn_r _ [33] (by decide +kernel) (by decide +kernel)
set_option maxRecDepth 20000 in
theorem gX1_fitArrangement_X1_pinShift : GoodIn wsX1_fitArrangement (va_wsS RX1 55 yX1_pinShift wsX1_pinShift) := goodIn_app (goodIn_of _ (by decide +kernel)) ggX1_fitArrangement_X1_pinShift
set_option maxRecDepth 20000 in
theorem ggX1_fitArrangement_X1_offer : GoodIn wsX1_fitArrangement wsX1_offer := goodIn_r _ [37, 24, 38, 39, 40, 41, 42, 43] (by decide +kernel) (by decide +kernel)
set_option maxRecDepth 20000 in
theorem gX1_fitArrangement_X1_offer : GoodIn wsX1_fitArrangement (wsV RX1 133 RX1 yX1_offer wsX1_offer) := goodIn_app (goodIn_of _ (by decide +kernel)) ggX1_fitArrangement_X1_offer
theorem dX1_fitArrangement_0 : decode cX1_fitArrangement 0 = .ok (.iconst 0, 1) := by decide +kernel
theorem dX1_fitArrangement_1 : decode cX1_fitArrangement 1 = .ok (.istore 4, 2) := by decide +kernel
theorem dX1_fitArrangement_3 : decode cX1_fitArrangement 3 = .ok (.lconst 0, 1) := by decide +kernel
theorem dX1_fitArrangement_4 : decode cX1_fitArrangement 4 = .ok (.lstore 5, 2) := by decide +kernel
theorem dX1_fitArrangement_6 : decode cX1_fitArrangement 6 = .ok (.iconst 0, 1) := by decide +kernel
theorem dX1_fitArrangement_7 : decode cX1_fitArrangement 7 = .ok (.istore 7, 2) := by decide +kernel
theorem dX1_fitArrangement_9 : decode cX1_fitArrangement 9 = .ok (.iload 7, 2) := by decide +kernel
theorem dX1_fitArrangement_11 : decode cX1_fitArrangement 11 = .ok (.aload_n 0, 1) := by decide +kernel
theorem dX1_fitArrangement_12 : decode cX1_fitArrangement 12 = .ok (.getfield 31, 3) := by decide +kernel
theorem dX1_fitArrangement_15 : decode cX1_fitArrangement 15 = .ok (.getfield 75, 3) := by decide +kernel
theorem dX1_fitArrangement_18 : decode cX1_fitArrangement 18 = .ok (.iload_n 2, 1) := by decide +kernel
theorem dX1_fitArrangement_19 : decode cX1_fitArrangement 19 = .ok (.iaload, 1) := by decide +kernel
theorem dX1_fitArrangement_20 : decode cX1_fitArrangement 20 = .ok (.if_icmp .ge 93, 3) := by decide +kernel
theorem dX1_fitArrangement_23 : decode cX1_fitArrangement 23 = .ok (.aload_n 0, 1) := by decide +kernel
theorem dX1_fitArrangement_24 : decode cX1_fitArrangement 24 = .ok (.getfield 19, 3) := by decide +kernel
theorem dX1_fitArrangement_27 : decode cX1_fitArrangement 27 = .ok (.aload_n 0, 1) := by decide +kernel
theorem dX1_fitArrangement_28 : decode cX1_fitArrangement 28 = .ok (.getfield 31, 3) := by decide +kernel
theorem dX1_fitArrangement_31 : decode cX1_fitArrangement 31 = .ok (.iload_n 2, 1) := by decide +kernel
theorem dX1_fitArrangement_32 : decode cX1_fitArrangement 32 = .ok (.iload_n 3, 1) := by decide +kernel
theorem dX1_fitArrangement_33 : decode cX1_fitArrangement 33 = .ok (.iload 7, 2) := by decide +kernel
theorem dX1_fitArrangement_35 : decode cX1_fitArrangement 35 = .ok (.invokevirtual 159, 3) := by decide +kernel
theorem dX1_fitArrangement_38 : decode cX1_fitArrangement 38 = .ok (.iaload, 1) := by decide +kernel
theorem dX1_fitArrangement_39 : decode cX1_fitArrangement 39 = .ok (.istore 8, 2) := by decide +kernel
theorem dX1_fitArrangement_41 : decode cX1_fitArrangement 41 = .ok (.iconst 2, 1) := by decide +kernel
theorem dX1_fitArrangement_42 : decode cX1_fitArrangement 42 = .ok (.iload 8, 2) := by decide +kernel
theorem dX1_fitArrangement_44 : decode cX1_fitArrangement 44 = .ok (.imul, 1) := by decide +kernel
theorem dX1_fitArrangement_45 : decode cX1_fitArrangement 45 = .ok (.aload_n 0, 1) := by decide +kernel
theorem dX1_fitArrangement_46 : decode cX1_fitArrangement 46 = .ok (.getfield 31, 3) := by decide +kernel
theorem dX1_fitArrangement_49 : decode cX1_fitArrangement 49 = .ok (.iload_n 3, 1) := by decide +kernel
theorem dX1_fitArrangement_50 : decode cX1_fitArrangement 50 = .ok (.iload 7, 2) := by decide +kernel
theorem dX1_fitArrangement_52 : decode cX1_fitArrangement 52 = .ok (.invokevirtual 163, 3) := by decide +kernel
theorem dX1_fitArrangement_55 : decode cX1_fitArrangement 55 = .ok (.iadd, 1) := by decide +kernel
theorem dX1_fitArrangement_56 : decode cX1_fitArrangement 56 = .ok (.istore 9, 2) := by decide +kernel
theorem dX1_fitArrangement_58 : decode cX1_fitArrangement 58 = .ok (.aload_n 0, 1) := by decide +kernel
theorem dX1_fitArrangement_59 : decode cX1_fitArrangement 59 = .ok (.iload 9, 2) := by decide +kernel
theorem dX1_fitArrangement_61 : decode cX1_fitArrangement 61 = .ok (.invokevirtual 115, 3) := by decide +kernel
theorem dX1_fitArrangement_64 : decode cX1_fitArrangement 64 = .ok (.istore 10, 2) := by decide +kernel
theorem dX1_fitArrangement_66 : decode cX1_fitArrangement 66 = .ok (.iload 10, 2) := by decide +kernel
theorem dX1_fitArrangement_68 : decode cX1_fitArrangement 68 = .ok (.iconst (-1), 1) := by decide +kernel
theorem dX1_fitArrangement_69 : decode cX1_fitArrangement 69 = .ok (.if_icmp .ne 4, 3) := by decide +kernel
theorem dX1_fitArrangement_72 : decode cX1_fitArrangement 72 = .ok (.return_, 1) := by decide +kernel
theorem dX1_fitArrangement_73 : decode cX1_fitArrangement 73 = .ok (.iload 4, 2) := by decide +kernel
theorem dX1_fitArrangement_75 : decode cX1_fitArrangement 75 = .ok (.iload 10, 2) := by decide +kernel
theorem dX1_fitArrangement_77 : decode cX1_fitArrangement 77 = .ok (.aload_n 0, 1) := by decide +kernel
theorem dX1_fitArrangement_78 : decode cX1_fitArrangement 78 = .ok (.getfield 31, 3) := by decide +kernel
theorem dX1_fitArrangement_81 : decode cX1_fitArrangement 81 = .ok (.iload_n 2, 1) := by decide +kernel
theorem dX1_fitArrangement_82 : decode cX1_fitArrangement 82 = .ok (.iload 7, 2) := by decide +kernel
theorem dX1_fitArrangement_84 : decode cX1_fitArrangement 84 = .ok (.invokevirtual 128, 3) := by decide +kernel
theorem dX1_fitArrangement_87 : decode cX1_fitArrangement 87 = .ok (.iadd, 1) := by decide +kernel
theorem dX1_fitArrangement_88 : decode cX1_fitArrangement 88 = .ok (.invokestatic 166, 3) := by decide +kernel
theorem dX1_fitArrangement_91 : decode cX1_fitArrangement 91 = .ok (.istore 4, 2) := by decide +kernel
theorem dX1_fitArrangement_93 : decode cX1_fitArrangement 93 = .ok (.lload 5, 2) := by decide +kernel
theorem dX1_fitArrangement_95 : decode cX1_fitArrangement 95 = .ok (.iload 9, 2) := by decide +kernel
theorem dX1_fitArrangement_97 : decode cX1_fitArrangement 97 = .ok (.i2l, 1) := by decide +kernel
theorem dX1_fitArrangement_98 : decode cX1_fitArrangement 98 = .ok (.iload 7, 2) := by decide +kernel
theorem dX1_fitArrangement_100 : decode cX1_fitArrangement 100 = .ok (.invokestatic 55, 3) := by decide +kernel
theorem dX1_fitArrangement_103 : decode cX1_fitArrangement 103 = .ok (.lshl, 1) := by decide +kernel
theorem dX1_fitArrangement_104 : decode cX1_fitArrangement 104 = .ok (.lor, 1) := by decide +kernel
theorem dX1_fitArrangement_105 : decode cX1_fitArrangement 105 = .ok (.lstore 5, 2) := by decide +kernel
theorem dX1_fitArrangement_107 : decode cX1_fitArrangement 107 = .ok (.iinc 7 1, 3) := by decide +kernel
theorem dX1_fitArrangement_110 : decode cX1_fitArrangement 110 = .ok (.goto (-101), 3) := by decide +kernel
theorem dX1_fitArrangement_113 : decode cX1_fitArrangement 113 = .ok (.aload_n 0, 1) := by decide +kernel
theorem dX1_fitArrangement_114 : decode cX1_fitArrangement 114 = .ok (.iload_n 1, 1) := by decide +kernel
theorem dX1_fitArrangement_115 : decode cX1_fitArrangement 115 = .ok (.iload 4, 2) := by decide +kernel
theorem dX1_fitArrangement_117 : decode cX1_fitArrangement 117 = .ok (.lload 5, 2) := by decide +kernel
theorem dX1_fitArrangement_119 : decode cX1_fitArrangement 119 = .ok (.iload_n 2, 1) := by decide +kernel
theorem dX1_fitArrangement_120 : decode cX1_fitArrangement 120 = .ok (.invokevirtual 133, 3) := by decide +kernel
theorem dX1_fitArrangement_123 : decode cX1_fitArrangement 123 = .ok (.return_, 1) := by decide +kernel
theorem dX1_offer_0 : decode cX1_offer 0 = .ok (.iload_n 2, 1) := by decide +kernel
theorem dX1_offer_1 : decode cX1_offer 1 = .ok (.i2l, 1) := by decide +kernel
theorem dX1_offer_2 : decode cX1_offer 2 = .ok (.bipush 23, 2) := by decide +kernel
theorem dX1_offer_4 : decode cX1_offer 4 = .ok (.lshl, 1) := by decide +kernel
theorem dX1_offer_5 : decode cX1_offer 5 = .ok (.iload 5, 2) := by decide +kernel
theorem dX1_offer_7 : decode cX1_offer 7 = .ok (.i2l, 1) := by decide +kernel
theorem dX1_offer_8 : decode cX1_offer 8 = .ok (.bipush 18, 2) := by decide +kernel
theorem dX1_offer_10 : decode cX1_offer 10 = .ok (.lshl, 1) := by decide +kernel
theorem dX1_offer_11 : decode cX1_offer 11 = .ok (.lor, 1) := by decide +kernel
theorem dX1_offer_12 : decode cX1_offer 12 = .ok (.lload_n 3, 1) := by decide +kernel
theorem dX1_offer_13 : decode cX1_offer 13 = .ok (.lor, 1) := by decide +kernel
theorem dX1_offer_14 : decode cX1_offer 14 = .ok (.lstore 6, 2) := by decide +kernel
theorem dX1_offer_16 : decode cX1_offer 16 = .ok (.lload 6, 2) := by decide +kernel
theorem dX1_offer_18 : decode cX1_offer 18 = .ok (.aload_n 0, 1) := by decide +kernel
theorem dX1_offer_19 : decode cX1_offer 19 = .ok (.getfield 11, 3) := by decide +kernel
theorem dX1_offer_22 : decode cX1_offer 22 = .ok (.iload_n 1, 1) := by decide +kernel
theorem dX1_offer_23 : decode cX1_offer 23 = .ok (.laload, 1) := by decide +kernel
theorem dX1_offer_24 : decode cX1_offer 24 = .ok (.lcmp, 1) := by decide +kernel
theorem dX1_offer_25 : decode cX1_offer 25 = .ok (.ifCond .ge 11, 3) := by decide +kernel
theorem dX1_offer_28 : decode cX1_offer 28 = .ok (.aload_n 0, 1) := by decide +kernel
theorem dX1_offer_29 : decode cX1_offer 29 = .ok (.getfield 11, 3) := by decide +kernel
theorem dX1_offer_32 : decode cX1_offer 32 = .ok (.iload_n 1, 1) := by decide +kernel
theorem dX1_offer_33 : decode cX1_offer 33 = .ok (.lload 6, 2) := by decide +kernel
theorem dX1_offer_35 : decode cX1_offer 35 = .ok (.lastore, 1) := by decide +kernel
theorem dX1_offer_36 : decode cX1_offer 36 = .ok (.return_, 1) := by decide +kernel
theorem dX2_init_0 : decode cX2_init 0 = .ok (.aload_n 0, 1) := by decide +kernel
theorem dX2_init_1 : decode cX2_init 1 = .ok (.invokespecial 5, 3) := by decide +kernel
theorem dX2_init_4 : decode cX2_init 4 = .ok (.aload_n 0, 1) := by decide +kernel
theorem dX2_init_5 : decode cX2_init 5 = .ok (.bipush 32, 2) := by decide +kernel
theorem dX2_init_7 : decode cX2_init 7 = .ok (.newarray .int, 2) := by decide +kernel
theorem dX2_init_9 : decode cX2_init 9 = .ok (.putfield 11, 3) := by decide +kernel
theorem dX2_init_12 : decode cX2_init 12 = .ok (.aload_n 0, 1) := by decide +kernel
theorem dX2_init_13 : decode cX2_init 13 = .ok (.bipush 32, 2) := by decide +kernel
theorem dX2_init_15 : decode cX2_init 15 = .ok (.newarray .int, 2) := by decide +kernel
theorem dX2_init_17 : decode cX2_init 17 = .ok (.putfield 15, 3) := by decide +kernel
theorem dX2_init_20 : decode cX2_init 20 = .ok (.aload_n 0, 1) := by decide +kernel
theorem dX2_init_21 : decode cX2_init 21 = .ok (.bipush 32, 2) := by decide +kernel
theorem dX2_init_23 : decode cX2_init 23 = .ok (.newarray .int, 2) := by decide +kernel
theorem dX2_init_25 : decode cX2_init 25 = .ok (.putfield 18, 3) := by decide +kernel
theorem dX2_init_28 : decode cX2_init 28 = .ok (.aload_n 0, 1) := by decide +kernel
theorem dX2_init_29 : decode cX2_init 29 = .ok (.bipush 8, 2) := by decide +kernel
theorem dX2_init_31 : decode cX2_init 31 = .ok (.newarray .int, 2) := by decide +kernel
theorem dX2_init_33 : decode cX2_init 33 = .ok (.putfield 21, 3) := by decide +kernel
theorem dX2_init_36 : decode cX2_init 36 = .ok (.return_, 1) := by decide +kernel
theorem dX2_empty_0 : decode cX2_empty 0 = .ok (.aload_n 0, 1) := by decide +kernel
theorem dX2_empty_1 : decode cX2_empty 1 = .ok (.iconst 0, 1) := by decide +kernel
theorem dX2_empty_2 : decode cX2_empty 2 = .ok (.putfield 24, 3) := by decide +kernel
theorem dX2_empty_5 : decode cX2_empty 5 = .ok (.aload_n 0, 1) := by decide +kernel
theorem dX2_empty_6 : decode cX2_empty 6 = .ok (.iconst 0, 1) := by decide +kernel
theorem dX2_empty_7 : decode cX2_empty 7 = .ok (.putfield 28, 3) := by decide +kernel
theorem dX2_empty_10 : decode cX2_empty 10 = .ok (.return_, 1) := by decide +kernel
theorem dX2_addInput_0 : decode cX2_addInput 0 = .ok (.aload_n 0, 1) := by decide +kernel
theorem dX2_addInput_1 : decode cX2_addInput 1 = .ok (.getfield 11, 3) := by decide +kernel
theorem dX2_addInput_4 : decode cX2_addInput 4 = .ok (.aload_n 0, 1) := by decide +kernel
theorem dX2_addInput_5 : decode cX2_addInput 5 = .ok (.getfield 24, 3) := by decide +kernel
theorem dX2_addInput_8 : decode cX2_addInput 8 = .ok (.aload_n 0, 1) := by decide +kernel
theorem dX2_addInput_9 : decode cX2_addInput 9 = .ok (.getfield 28, 3) := by decide +kernel
theorem dX2_addInput_12 : decode cX2_addInput 12 = .ok (.iastore, 1) := by decide +kernel
theorem dX2_addInput_13 : decode cX2_addInput 13 = .ok (.aload_n 0, 1) := by decide +kernel
theorem dX2_addInput_14 : decode cX2_addInput 14 = .ok (.getfield 21, 3) := by decide +kernel
theorem dX2_addInput_17 : decode cX2_addInput 17 = .ok (.aload_n 0, 1) := by decide +kernel
theorem dX2_addInput_18 : decode cX2_addInput 18 = .ok (.getfield 28, 3) := by decide +kernel
theorem dX2_addInput_21 : decode cX2_addInput 21 = .ok (.iconst 0, 1) := by decide +kernel
theorem dX2_addInput_22 : decode cX2_addInput 22 = .ok (.iastore, 1) := by decide +kernel
theorem dX2_addInput_23 : decode cX2_addInput 23 = .ok (.aload_n 0, 1) := by decide +kernel
theorem dX2_addInput_24 : decode cX2_addInput 24 = .ok (.dup, 1) := by decide +kernel
theorem dX2_addInput_25 : decode cX2_addInput 25 = .ok (.getfield 28, 3) := by decide +kernel
theorem dX2_addInput_28 : decode cX2_addInput 28 = .ok (.iconst 1, 1) := by decide +kernel
theorem dX2_addInput_29 : decode cX2_addInput 29 = .ok (.iadd, 1) := by decide +kernel
theorem dX2_addInput_30 : decode cX2_addInput 30 = .ok (.putfield 28, 3) := by decide +kernel
theorem dX2_addInput_33 : decode cX2_addInput 33 = .ok (.aload_n 0, 1) := by decide +kernel
theorem dX2_addInput_34 : decode cX2_addInput 34 = .ok (.dup, 1) := by decide +kernel
theorem dX2_addInput_35 : decode cX2_addInput 35 = .ok (.getfield 24, 3) := by decide +kernel
theorem dX2_addInput_38 : decode cX2_addInput 38 = .ok (.iconst 1, 1) := by decide +kernel
theorem dX2_addInput_39 : decode cX2_addInput 39 = .ok (.iadd, 1) := by decide +kernel
theorem dX2_addInput_40 : decode cX2_addInput 40 = .ok (.putfield 24, 3) := by decide +kernel
theorem dX2_addInput_43 : decode cX2_addInput 43 = .ok (.aload_n 0, 1) := by decide +kernel
theorem dX2_addInput_44 : decode cX2_addInput 44 = .ok (.getfield 24, 3) := by decide +kernel
theorem dX2_addInput_47 : decode cX2_addInput 47 = .ok (.iconst 1, 1) := by decide +kernel
theorem dX2_addInput_48 : decode cX2_addInput 48 = .ok (.isub, 1) := by decide +kernel
theorem dX2_addInput_49 : decode cX2_addInput 49 = .ok (.ireturn, 1) := by decide +kernel
theorem dX2_addAnd_0 : decode cX2_addAnd 0 = .ok (.aload_n 0, 1) := by decide +kernel
theorem dX2_addAnd_1 : decode cX2_addAnd 1 = .ok (.getfield 11, 3) := by decide +kernel
theorem dX2_addAnd_4 : decode cX2_addAnd 4 = .ok (.aload_n 0, 1) := by decide +kernel
theorem dX2_addAnd_5 : decode cX2_addAnd 5 = .ok (.getfield 24, 3) := by decide +kernel
theorem dX2_addAnd_8 : decode cX2_addAnd 8 = .ok (.iconst (-1), 1) := by decide +kernel
theorem dX2_addAnd_9 : decode cX2_addAnd 9 = .ok (.iastore, 1) := by decide +kernel
theorem dX2_addAnd_10 : decode cX2_addAnd 10 = .ok (.aload_n 0, 1) := by decide +kernel
theorem dX2_addAnd_11 : decode cX2_addAnd 11 = .ok (.getfield 15, 3) := by decide +kernel
theorem dX2_addAnd_14 : decode cX2_addAnd 14 = .ok (.aload_n 0, 1) := by decide +kernel
theorem dX2_addAnd_15 : decode cX2_addAnd 15 = .ok (.getfield 24, 3) := by decide +kernel
theorem dX2_addAnd_18 : decode cX2_addAnd 18 = .ok (.iload_n 1, 1) := by decide +kernel
theorem dX2_addAnd_19 : decode cX2_addAnd 19 = .ok (.iastore, 1) := by decide +kernel
theorem dX2_addAnd_20 : decode cX2_addAnd 20 = .ok (.aload_n 0, 1) := by decide +kernel
theorem dX2_addAnd_21 : decode cX2_addAnd 21 = .ok (.getfield 18, 3) := by decide +kernel
theorem dX2_addAnd_24 : decode cX2_addAnd 24 = .ok (.aload_n 0, 1) := by decide +kernel
theorem dX2_addAnd_25 : decode cX2_addAnd 25 = .ok (.getfield 24, 3) := by decide +kernel
theorem dX2_addAnd_28 : decode cX2_addAnd 28 = .ok (.iload_n 2, 1) := by decide +kernel
theorem dX2_addAnd_29 : decode cX2_addAnd 29 = .ok (.iastore, 1) := by decide +kernel
theorem dX2_addAnd_30 : decode cX2_addAnd 30 = .ok (.aload_n 0, 1) := by decide +kernel
theorem dX2_addAnd_31 : decode cX2_addAnd 31 = .ok (.dup, 1) := by decide +kernel
theorem dX2_addAnd_32 : decode cX2_addAnd 32 = .ok (.getfield 24, 3) := by decide +kernel
theorem dX2_addAnd_35 : decode cX2_addAnd 35 = .ok (.iconst 1, 1) := by decide +kernel
theorem dX2_addAnd_36 : decode cX2_addAnd 36 = .ok (.iadd, 1) := by decide +kernel
theorem dX2_addAnd_37 : decode cX2_addAnd 37 = .ok (.putfield 24, 3) := by decide +kernel
theorem dX2_addAnd_40 : decode cX2_addAnd 40 = .ok (.aload_n 0, 1) := by decide +kernel
theorem dX2_addAnd_41 : decode cX2_addAnd 41 = .ok (.getfield 24, 3) := by decide +kernel
theorem dX2_addAnd_44 : decode cX2_addAnd 44 = .ok (.iconst 1, 1) := by decide +kernel
theorem dX2_addAnd_45 : decode cX2_addAnd 45 = .ok (.isub, 1) := by decide +kernel
theorem dX2_addAnd_46 : decode cX2_addAnd 46 = .ok (.ireturn, 1) := by decide +kernel
theorem dX2_isInput_0 : decode cX2_isInput 0 = .ok (.aload_n 0, 1) := by decide +kernel
theorem dX2_isInput_1 : decode cX2_isInput 1 = .ok (.getfield 11, 3) := by decide +kernel
theorem dX2_isInput_4 : decode cX2_isInput 4 = .ok (.iload_n 1, 1) := by decide +kernel
theorem dX2_isInput_5 : decode cX2_isInput 5 = .ok (.iaload, 1) := by decide +kernel
theorem dX2_isInput_6 : decode cX2_isInput 6 = .ok (.iconst (-1), 1) := by decide +kernel
theorem dX2_isInput_7 : decode cX2_isInput 7 = .ok (.if_icmp .eq 7, 3) := by decide +kernel
theorem dX2_isInput_10 : decode cX2_isInput 10 = .ok (.iconst 1, 1) := by decide +kernel
theorem dX2_isInput_11 : decode cX2_isInput 11 = .ok (.goto 4, 3) := by decide +kernel
theorem dX2_isInput_14 : decode cX2_isInput 14 = .ok (.iconst 0, 1) := by decide +kernel
theorem dX2_isInput_15 : decode cX2_isInput 15 = .ok (.ireturn, 1) := by decide +kernel
set_option maxRecDepth 20000 in
theorem ggX2_isPlainInput_X2_isInput : GoodIn wsX2_isPlainInput wsX2_isInput := goodIn_r _ [5, 6, 7, 8, 9, 10, 11, 12] (by decide +kernel) (by decide +kernel)
set_option maxRecDepth 20000 in
theorem gX2_isPlainInput_X2_isInput : GoodIn wsX2_isPlainInput (wsV RX2 31 RX2 yX2_isInput wsX2_isInput) := goodIn_app (goodIn_of _ (by decide +kernel)) ggX2_isPlainInput_X2_isInput
theorem dX2_isPlainInput_0 : decode cX2_isPlainInput 0 = .ok (.iload_n 1, 1) := by decide +kernel
theorem dX2_isPlainInput_1 : decode cX2_isPlainInput 1 = .ok (.iconst 1, 1) := by decide +kernel
theorem dX2_isPlainInput_2 : decode cX2_isPlainInput 2 = .ok (.iand, 1) := by decide +kernel
theorem dX2_isPlainInput_3 : decode cX2_isPlainInput 3 = .ok (.ifCond .ne 17, 3) := by decide +kernel
theorem dX2_isPlainInput_6 : decode cX2_isPlainInput 6 = .ok (.aload_n 0, 1) := by decide +kernel
theorem dX2_isPlainInput_7 : decode cX2_isPlainInput 7 = .ok (.iload_n 1, 1) := by decide +kernel
theorem dX2_isPlainInput_8 : decode cX2_isPlainInput 8 = .ok (.iconst 1, 1) := by decide +kernel
theorem dX2_isPlainInput_9 : decode cX2_isPlainInput 9 = .ok (.ishr, 1) := by decide +kernel
theorem dX2_isPlainInput_10 : decode cX2_isPlainInput 10 = .ok (.invokevirtual 31, 3) := by decide +kernel
theorem dX2_isPlainInput_13 : decode cX2_isPlainInput 13 = .ok (.ifCond .eq 7, 3) := by decide +kernel
theorem dX2_isPlainInput_16 : decode cX2_isPlainInput 16 = .ok (.iconst 1, 1) := by decide +kernel
theorem dX2_isPlainInput_17 : decode cX2_isPlainInput 17 = .ok (.goto 4, 3) := by decide +kernel
theorem dX2_isPlainInput_20 : decode cX2_isPlainInput 20 = .ok (.iconst 0, 1) := by decide +kernel
theorem dX2_isPlainInput_21 : decode cX2_isPlainInput 21 = .ok (.ireturn, 1) := by decide +kernel
theorem dX2_inputValue_0 : decode cX2_inputValue 0 = .ok (.iload_n 2, 1) := by decide +kernel
theorem dX2_inputValue_1 : decode cX2_inputValue 1 = .ok (.aload_n 0, 1) := by decide +kernel
theorem dX2_inputValue_2 : decode cX2_inputValue 2 = .ok (.getfield 11, 3) := by decide +kernel
theorem dX2_inputValue_5 : decode cX2_inputValue 5 = .ok (.iload_n 1, 1) := by decide +kernel
theorem dX2_inputValue_6 : decode cX2_inputValue 6 = .ok (.iaload, 1) := by decide +kernel
theorem dX2_inputValue_7 : decode cX2_inputValue 7 = .ok (.iushr, 1) := by decide +kernel
theorem dX2_inputValue_8 : decode cX2_inputValue 8 = .ok (.iconst 1, 1) := by decide +kernel
theorem dX2_inputValue_9 : decode cX2_inputValue 9 = .ok (.iand, 1) := by decide +kernel
theorem dX2_inputValue_10 : decode cX2_inputValue 10 = .ok (.ireturn, 1) := by decide +kernel
set_option maxRecDepth 20000 in
theorem ggX2_evaluate_X2_isInput : GoodIn wsX2_evaluate wsX2_isInput := goodIn_r _ [7, 8, 16, 17, 18, 19, 20, 21] (by decide +kernel) (by decide +kernel)
set_option maxRecDepth 20000 in
theorem gX2_evaluate_X2_isInput : GoodIn wsX2_evaluate (wsV RX2 31 RX2 yX2_isInput wsX2_isInput) := goodIn_app (goodIn_of _ (by decide +kernel)) ggX2_evaluate_X2_isInput
set_option maxRecDepth 20000 in
theorem ggX2_evaluate_X2_inputValue : GoodIn wsX2_evaluate wsX2_inputValue := goodIn_r _ [12, 8, 16, 17, 18, 19, 20, 21] (by decide +kernel) (by decide +kernel)
set_option maxRecDepth 20000 in
theorem gX2_evaluate_X2_inputValue : GoodIn wsX2_evaluate (wsV RX2 35 RX2 yX2_inputValue wsX2_inputValue) := goodIn_app (goodIn_of _ (by decide +kernel)) ggX2_evaluate_X2_inputValue
set_option maxRecDepth 20000 in
theorem ggX2_evaluate_X2_read : GoodIn wsX2_evaluate wsX2_read := goodIn_r _ [15] (by decide +kernel) (by decide +kernel)
set_option maxRecDepth 20000 in
theorem gX2_evaluate_X2_read : GoodIn wsX2_evaluate (va_wsS RX2 39 yX2_read wsX2_read) := goodIn_app (goodIn_of _ (by decide +kernel)) ggX2_evaluate_X2_read
theorem dX2_evaluate_0 : decode cX2_evaluate 0 = .ok (.iconst 0, 1) := by decide +kernel
theorem dX2_evaluate_1 : decode cX2_evaluate 1 = .ok (.istore_n 3, 1) := by decide +kernel
theorem dX2_evaluate_2 : decode cX2_evaluate 2 = .ok (.iconst 0, 1) := by decide +kernel
theorem dX2_evaluate_3 : decode cX2_evaluate 3 = .ok (.istore 4, 2) := by decide +kernel
theorem dX2_evaluate_5 : decode cX2_evaluate 5 = .ok (.iload 4, 2) := by decide +kernel
theorem dX2_evaluate_7 : decode cX2_evaluate 7 = .ok (.iload_n 1, 1) := by decide +kernel
theorem dX2_evaluate_8 : decode cX2_evaluate 8 = .ok (.iconst 1, 1) := by decide +kernel
theorem dX2_evaluate_9 : decode cX2_evaluate 9 = .ok (.ishr, 1) := by decide +kernel
theorem dX2_evaluate_10 : decode cX2_evaluate 10 = .ok (.if_icmp .gt 61, 3) := by decide +kernel
theorem dX2_evaluate_13 : decode cX2_evaluate 13 = .ok (.aload_n 0, 1) := by decide +kernel
theorem dX2_evaluate_14 : decode cX2_evaluate 14 = .ok (.iload 4, 2) := by decide +kernel
theorem dX2_evaluate_16 : decode cX2_evaluate 16 = .ok (.invokevirtual 31, 3) := by decide +kernel
theorem dX2_evaluate_19 : decode cX2_evaluate 19 = .ok (.ifCond .eq 13, 3) := by decide +kernel
theorem dX2_evaluate_22 : decode cX2_evaluate 22 = .ok (.aload_n 0, 1) := by decide +kernel
theorem dX2_evaluate_23 : decode cX2_evaluate 23 = .ok (.iload 4, 2) := by decide +kernel
theorem dX2_evaluate_25 : decode cX2_evaluate 25 = .ok (.iload_n 2, 1) := by decide +kernel
theorem dX2_evaluate_26 : decode cX2_evaluate 26 = .ok (.invokevirtual 35, 3) := by decide +kernel
theorem dX2_evaluate_29 : decode cX2_evaluate 29 = .ok (.goto 26, 3) := by decide +kernel
theorem dX2_evaluate_32 : decode cX2_evaluate 32 = .ok (.iload_n 3, 1) := by decide +kernel
theorem dX2_evaluate_33 : decode cX2_evaluate 33 = .ok (.aload_n 0, 1) := by decide +kernel
theorem dX2_evaluate_34 : decode cX2_evaluate 34 = .ok (.getfield 15, 3) := by decide +kernel
theorem dX2_evaluate_37 : decode cX2_evaluate 37 = .ok (.iload 4, 2) := by decide +kernel
theorem dX2_evaluate_39 : decode cX2_evaluate 39 = .ok (.iaload, 1) := by decide +kernel
theorem dX2_evaluate_40 : decode cX2_evaluate 40 = .ok (.invokestatic 39, 3) := by decide +kernel
theorem dX2_evaluate_43 : decode cX2_evaluate 43 = .ok (.iload_n 3, 1) := by decide +kernel
theorem dX2_evaluate_44 : decode cX2_evaluate 44 = .ok (.aload_n 0, 1) := by decide +kernel
theorem dX2_evaluate_45 : decode cX2_evaluate 45 = .ok (.getfield 18, 3) := by decide +kernel
theorem dX2_evaluate_48 : decode cX2_evaluate 48 = .ok (.iload 4, 2) := by decide +kernel
theorem dX2_evaluate_50 : decode cX2_evaluate 50 = .ok (.iaload, 1) := by decide +kernel
theorem dX2_evaluate_51 : decode cX2_evaluate 51 = .ok (.invokestatic 39, 3) := by decide +kernel
theorem dX2_evaluate_54 : decode cX2_evaluate 54 = .ok (.iand, 1) := by decide +kernel
theorem dX2_evaluate_55 : decode cX2_evaluate 55 = .ok (.istore 5, 2) := by decide +kernel
theorem dX2_evaluate_57 : decode cX2_evaluate 57 = .ok (.iload_n 3, 1) := by decide +kernel
theorem dX2_evaluate_58 : decode cX2_evaluate 58 = .ok (.iload 5, 2) := by decide +kernel
theorem dX2_evaluate_60 : decode cX2_evaluate 60 = .ok (.iload 4, 2) := by decide +kernel
theorem dX2_evaluate_62 : decode cX2_evaluate 62 = .ok (.ishl, 1) := by decide +kernel
theorem dX2_evaluate_63 : decode cX2_evaluate 63 = .ok (.ior, 1) := by decide +kernel
theorem dX2_evaluate_64 : decode cX2_evaluate 64 = .ok (.istore_n 3, 1) := by decide +kernel
theorem dX2_evaluate_65 : decode cX2_evaluate 65 = .ok (.iinc 4 1, 3) := by decide +kernel
theorem dX2_evaluate_68 : decode cX2_evaluate 68 = .ok (.goto (-63), 3) := by decide +kernel
theorem dX2_evaluate_71 : decode cX2_evaluate 71 = .ok (.iload_n 3, 1) := by decide +kernel
theorem dX2_evaluate_72 : decode cX2_evaluate 72 = .ok (.iload_n 1, 1) := by decide +kernel
theorem dX2_evaluate_73 : decode cX2_evaluate 73 = .ok (.invokestatic 39, 3) := by decide +kernel
theorem dX2_evaluate_76 : decode cX2_evaluate 76 = .ok (.ireturn, 1) := by decide +kernel
theorem dX2_read_0 : decode cX2_read 0 = .ok (.iload_n 0, 1) := by decide +kernel
theorem dX2_read_1 : decode cX2_read 1 = .ok (.iload_n 1, 1) := by decide +kernel
theorem dX2_read_2 : decode cX2_read 2 = .ok (.iconst 1, 1) := by decide +kernel
theorem dX2_read_3 : decode cX2_read 3 = .ok (.ishr, 1) := by decide +kernel
theorem dX2_read_4 : decode cX2_read 4 = .ok (.iushr, 1) := by decide +kernel
theorem dX2_read_5 : decode cX2_read 5 = .ok (.iload_n 1, 1) := by decide +kernel
theorem dX2_read_6 : decode cX2_read 6 = .ok (.ixor, 1) := by decide +kernel
theorem dX2_read_7 : decode cX2_read 7 = .ok (.iconst 1, 1) := by decide +kernel
theorem dX2_read_8 : decode cX2_read 8 = .ok (.iand, 1) := by decide +kernel
theorem dX2_read_9 : decode cX2_read 9 = .ok (.ireturn, 1) := by decide +kernel
theorem dX3_init_0 : decode cX3_init 0 = .ok (.aload_n 0, 1) := by decide +kernel
theorem dX3_init_1 : decode cX3_init 1 = .ok (.invokespecial 1, 3) := by decide +kernel
theorem dX3_init_4 : decode cX3_init 4 = .ok (.aload_n 0, 1) := by decide +kernel
theorem dX3_init_5 : decode cX3_init 5 = .ok (.bipush 12, 2) := by decide +kernel
theorem dX3_init_7 : decode cX3_init 7 = .ok (.newarray .int, 2) := by decide +kernel
theorem dX3_init_9 : decode cX3_init 9 = .ok (.putfield 9, 3) := by decide +kernel
theorem dX3_init_12 : decode cX3_init 12 = .ok (.aload_n 0, 1) := by decide +kernel
theorem dX3_init_13 : decode cX3_init 13 = .ok (.bipush 12, 2) := by decide +kernel
theorem dX3_init_15 : decode cX3_init 15 = .ok (.newarray .int, 2) := by decide +kernel
theorem dX3_init_17 : decode cX3_init 17 = .ok (.putfield 13, 3) := by decide +kernel
theorem dX3_init_20 : decode cX3_init 20 = .ok (.aload_n 0, 1) := by decide +kernel
theorem dX3_init_21 : decode cX3_init 21 = .ok (.bipush 12, 2) := by decide +kernel
theorem dX3_init_23 : decode cX3_init 23 = .ok (.newarray .int, 2) := by decide +kernel
theorem dX3_init_25 : decode cX3_init 25 = .ok (.putfield 16, 3) := by decide +kernel
theorem dX3_init_28 : decode cX3_init 28 = .ok (.aload_n 0, 1) := by decide +kernel
theorem dX3_init_29 : decode cX3_init 29 = .ok (.bipush 36, 2) := by decide +kernel
theorem dX3_init_31 : decode cX3_init 31 = .ok (.newarray .int, 2) := by decide +kernel
theorem dX3_init_33 : decode cX3_init 33 = .ok (.putfield 19, 3) := by decide +kernel
theorem dX3_init_36 : decode cX3_init 36 = .ok (.aload_n 0, 1) := by decide +kernel
theorem dX3_init_37 : decode cX3_init 37 = .ok (.sipush 576, 3) := by decide +kernel
theorem dX3_init_40 : decode cX3_init 40 = .ok (.newarray .int, 2) := by decide +kernel
theorem dX3_init_42 : decode cX3_init 42 = .ok (.putfield 22, 3) := by decide +kernel
theorem dX3_init_45 : decode cX3_init 45 = .ok (.return_, 1) := by decide +kernel
theorem dX3_empty_0 : decode cX3_empty 0 = .ok (.aload_n 0, 1) := by decide +kernel
theorem dX3_empty_1 : decode cX3_empty 1 = .ok (.iconst 0, 1) := by decide +kernel
theorem dX3_empty_2 : decode cX3_empty 2 = .ok (.putfield 25, 3) := by decide +kernel
theorem dX3_empty_5 : decode cX3_empty 5 = .ok (.return_, 1) := by decide +kernel
set_option maxRecDepth 20000 in
theorem ggX3_add_X3_setDelay : GoodIn wsX3_add wsX3_setDelay := goodIn_r _ [10, 11, 30, 31, 32, 33, 34, 35] (by decide +kernel) (by decide +kernel)
set_option maxRecDepth 20000 in
theorem gX3_add_X3_setDelay : GoodIn wsX3_add (wsV RX3 29 RX3 yX3_setDelay wsX3_setDelay) := goodIn_app (goodIn_of _ (by decide +kernel)) ggX3_add_X3_setDelay
set_option maxRecDepth 20000 in
theorem ggX3_add_X3_arrangementCount : GoodIn wsX3_add wsX3_arrangementCount := goodIn_r _ [15, 16, 2, 30, 31, 32, 33, 34, 35] (by decide +kernel) (by decide +kernel)
set_option maxRecDepth 20000 in
theorem gX3_add_X3_arrangementCount : GoodIn wsX3_add (wsV RX3 33 RX3 yX3_arrangementCount wsX3_arrangementCount) := goodIn_app (goodIn_of _ (by decide +kernel)) ggX3_add_X3_arrangementCount
set_option maxRecDepth 20000 in
theorem ggX3_add_X3_arrange : GoodIn wsX3_add wsX3_arrange := goodIn_r _ [20, 2, 3, 21, 22, 23, 9, 24, 25, 26, 27, 28, 29, 30, 31, 32, 33, 34, 35] (by decide +kernel) (by decide +kernel)
set_option maxRecDepth 20000 in
theorem gX3_add_X3_arrange : GoodIn wsX3_add (wsV RX3 37 RX3 yX3_arrange wsX3_arrange) := goodIn_app (goodIn_of _ (by decide +kernel)) ggX3_add_X3_arrange
theorem dX3_add_0 : decode cX3_add 0 = .ok (.aload_n 0, 1) := by decide +kernel
theorem dX3_add_1 : decode cX3_add 1 = .ok (.getfield 25, 3) := by decide +kernel
theorem dX3_add_4 : decode cX3_add 4 = .ok (.istore 4, 2) := by decide +kernel
theorem dX3_add_6 : decode cX3_add 6 = .ok (.aload_n 0, 1) := by decide +kernel
theorem dX3_add_7 : decode cX3_add 7 = .ok (.dup, 1) := by decide +kernel
theorem dX3_add_8 : decode cX3_add 8 = .ok (.getfield 25, 3) := by decide +kernel
theorem dX3_add_11 : decode cX3_add 11 = .ok (.iconst 1, 1) := by decide +kernel
theorem dX3_add_12 : decode cX3_add 12 = .ok (.iadd, 1) := by decide +kernel
theorem dX3_add_13 : decode cX3_add 13 = .ok (.putfield 25, 3) := by decide +kernel
theorem dX3_add_16 : decode cX3_add 16 = .ok (.aload_n 0, 1) := by decide +kernel
theorem dX3_add_17 : decode cX3_add 17 = .ok (.getfield 9, 3) := by decide +kernel
theorem dX3_add_20 : decode cX3_add 20 = .ok (.iload 4, 2) := by decide +kernel
theorem dX3_add_22 : decode cX3_add 22 = .ok (.iload_n 1, 1) := by decide +kernel
theorem dX3_add_23 : decode cX3_add 23 = .ok (.iastore, 1) := by decide +kernel
theorem dX3_add_24 : decode cX3_add 24 = .ok (.aload_n 0, 1) := by decide +kernel
theorem dX3_add_25 : decode cX3_add 25 = .ok (.getfield 13, 3) := by decide +kernel
theorem dX3_add_28 : decode cX3_add 28 = .ok (.iload 4, 2) := by decide +kernel
theorem dX3_add_30 : decode cX3_add 30 = .ok (.iload_n 2, 1) := by decide +kernel
theorem dX3_add_31 : decode cX3_add 31 = .ok (.iastore, 1) := by decide +kernel
theorem dX3_add_32 : decode cX3_add 32 = .ok (.aload_n 0, 1) := by decide +kernel
theorem dX3_add_33 : decode cX3_add 33 = .ok (.getfield 16, 3) := by decide +kernel
theorem dX3_add_36 : decode cX3_add 36 = .ok (.iload 4, 2) := by decide +kernel
theorem dX3_add_38 : decode cX3_add 38 = .ok (.iload_n 3, 1) := by decide +kernel
theorem dX3_add_39 : decode cX3_add 39 = .ok (.iastore, 1) := by decide +kernel
theorem dX3_add_40 : decode cX3_add 40 = .ok (.iconst 0, 1) := by decide +kernel
theorem dX3_add_41 : decode cX3_add 41 = .ok (.istore 5, 2) := by decide +kernel
theorem dX3_add_43 : decode cX3_add 43 = .ok (.iload 5, 2) := by decide +kernel
theorem dX3_add_45 : decode cX3_add 45 = .ok (.iconst 3, 1) := by decide +kernel
theorem dX3_add_46 : decode cX3_add 46 = .ok (.if_icmp .ge 18, 3) := by decide +kernel
theorem dX3_add_49 : decode cX3_add 49 = .ok (.aload_n 0, 1) := by decide +kernel
theorem dX3_add_50 : decode cX3_add 50 = .ok (.iload 4, 2) := by decide +kernel
theorem dX3_add_52 : decode cX3_add 52 = .ok (.iload 5, 2) := by decide +kernel
theorem dX3_add_54 : decode cX3_add 54 = .ok (.iconst 0, 1) := by decide +kernel
theorem dX3_add_55 : decode cX3_add 55 = .ok (.invokevirtual 29, 3) := by decide +kernel
theorem dX3_add_58 : decode cX3_add 58 = .ok (.iinc 5 1, 3) := by decide +kernel
theorem dX3_add_61 : decode cX3_add 61 = .ok (.goto (-18), 3) := by decide +kernel
theorem dX3_add_64 : decode cX3_add 64 = .ok (.iconst 0, 1) := by decide +kernel
theorem dX3_add_65 : decode cX3_add 65 = .ok (.istore 5, 2) := by decide +kernel
theorem dX3_add_67 : decode cX3_add 67 = .ok (.iload 5, 2) := by decide +kernel
theorem dX3_add_69 : decode cX3_add 69 = .ok (.aload_n 0, 1) := by decide +kernel
theorem dX3_add_70 : decode cX3_add 70 = .ok (.iload 4, 2) := by decide +kernel
theorem dX3_add_72 : decode cX3_add 72 = .ok (.invokevirtual 33, 3) := by decide +kernel
theorem dX3_add_75 : decode cX3_add 75 = .ok (.if_icmp .ge 30, 3) := by decide +kernel
theorem dX3_add_78 : decode cX3_add 78 = .ok (.aload_n 0, 1) := by decide +kernel
theorem dX3_add_79 : decode cX3_add 79 = .ok (.getfield 22, 3) := by decide +kernel
theorem dX3_add_82 : decode cX3_add 82 = .ok (.iload 4, 2) := by decide +kernel
theorem dX3_add_84 : decode cX3_add 84 = .ok (.bipush 48, 2) := by decide +kernel
theorem dX3_add_86 : decode cX3_add 86 = .ok (.imul, 1) := by decide +kernel
theorem dX3_add_87 : decode cX3_add 87 = .ok (.iload 5, 2) := by decide +kernel
theorem dX3_add_89 : decode cX3_add 89 = .ok (.iadd, 1) := by decide +kernel
theorem dX3_add_90 : decode cX3_add 90 = .ok (.aload_n 0, 1) := by decide +kernel
theorem dX3_add_91 : decode cX3_add 91 = .ok (.iload 4, 2) := by decide +kernel
theorem dX3_add_93 : decode cX3_add 93 = .ok (.iload 5, 2) := by decide +kernel
theorem dX3_add_95 : decode cX3_add 95 = .ok (.invokevirtual 37, 3) := by decide +kernel
theorem dX3_add_98 : decode cX3_add 98 = .ok (.iastore, 1) := by decide +kernel
theorem dX3_add_99 : decode cX3_add 99 = .ok (.iinc 5 1, 3) := by decide +kernel
theorem dX3_add_102 : decode cX3_add 102 = .ok (.goto (-35), 3) := by decide +kernel
theorem dX3_add_105 : decode cX3_add 105 = .ok (.iload 4, 2) := by decide +kernel
theorem dX3_add_107 : decode cX3_add 107 = .ok (.ireturn, 1) := by decide +kernel
theorem dX3_delayAt_0 : decode cX3_delayAt 0 = .ok (.aload_n 0, 1) := by decide +kernel
theorem dX3_delayAt_1 : decode cX3_delayAt 1 = .ok (.getfield 19, 3) := by decide +kernel
theorem dX3_delayAt_4 : decode cX3_delayAt 4 = .ok (.iload_n 1, 1) := by decide +kernel
theorem dX3_delayAt_5 : decode cX3_delayAt 5 = .ok (.iconst 3, 1) := by decide +kernel
theorem dX3_delayAt_6 : decode cX3_delayAt 6 = .ok (.imul, 1) := by decide +kernel
theorem dX3_delayAt_7 : decode cX3_delayAt 7 = .ok (.iload_n 2, 1) := by decide +kernel
theorem dX3_delayAt_8 : decode cX3_delayAt 8 = .ok (.iadd, 1) := by decide +kernel
theorem dX3_delayAt_9 : decode cX3_delayAt 9 = .ok (.iaload, 1) := by decide +kernel
theorem dX3_delayAt_10 : decode cX3_delayAt 10 = .ok (.ireturn, 1) := by decide +kernel
theorem dX3_setDelay_0 : decode cX3_setDelay 0 = .ok (.aload_n 0, 1) := by decide +kernel
theorem dX3_setDelay_1 : decode cX3_setDelay 1 = .ok (.getfield 19, 3) := by decide +kernel
theorem dX3_setDelay_4 : decode cX3_setDelay 4 = .ok (.iload_n 1, 1) := by decide +kernel
theorem dX3_setDelay_5 : decode cX3_setDelay 5 = .ok (.iconst 3, 1) := by decide +kernel
theorem dX3_setDelay_6 : decode cX3_setDelay 6 = .ok (.imul, 1) := by decide +kernel
theorem dX3_setDelay_7 : decode cX3_setDelay 7 = .ok (.iload_n 2, 1) := by decide +kernel
theorem dX3_setDelay_8 : decode cX3_setDelay 8 = .ok (.iadd, 1) := by decide +kernel
theorem dX3_setDelay_9 : decode cX3_setDelay 9 = .ok (.iload_n 3, 1) := by decide +kernel
theorem dX3_setDelay_10 : decode cX3_setDelay 10 = .ok (.iastore, 1) := by decide +kernel
theorem dX3_setDelay_11 : decode cX3_setDelay 11 = .ok (.return_, 1) := by decide +kernel
theorem dX3_isInverter_0 : decode cX3_isInverter 0 = .ok (.aload_n 0, 1) := by decide +kernel
theorem dX3_isInverter_1 : decode cX3_isInverter 1 = .ok (.getfield 9, 3) := by decide +kernel
theorem dX3_isInverter_4 : decode cX3_isInverter 4 = .ok (.iload_n 1, 1) := by decide +kernel
theorem dX3_isInverter_5 : decode cX3_isInverter 5 = .ok (.iaload, 1) := by decide +kernel
theorem dX3_isInverter_6 : decode cX3_isInverter 6 = .ok (.iconst 1, 1) := by decide +kernel
theorem dX3_isInverter_7 : decode cX3_isInverter 7 = .ok (.if_icmp .ne 17, 3) := by decide +kernel
theorem dX3_isInverter_10 : decode cX3_isInverter 10 = .ok (.aload_n 0, 1) := by decide +kernel
theorem dX3_isInverter_11 : decode cX3_isInverter 11 = .ok (.getfield 13, 3) := by decide +kernel
theorem dX3_isInverter_14 : decode cX3_isInverter 14 = .ok (.iload_n 1, 1) := by decide +kernel
theorem dX3_isInverter_15 : decode cX3_isInverter 15 = .ok (.iaload, 1) := by decide +kernel
theorem dX3_isInverter_16 : decode cX3_isInverter 16 = .ok (.iconst 1, 1) := by decide +kernel
theorem dX3_isInverter_17 : decode cX3_isInverter 17 = .ok (.if_icmp .ne 7, 3) := by decide +kernel
theorem dX3_isInverter_20 : decode cX3_isInverter 20 = .ok (.iconst 1, 1) := by decide +kernel
theorem dX3_isInverter_21 : decode cX3_isInverter 21 = .ok (.goto 4, 3) := by decide +kernel
theorem dX3_isInverter_24 : decode cX3_isInverter 24 = .ok (.iconst 0, 1) := by decide +kernel
theorem dX3_isInverter_25 : decode cX3_isInverter 25 = .ok (.ireturn, 1) := by decide +kernel
theorem dX3_arrangementCount_0 : decode cX3_arrangementCount 0 = .ok (.getstatic 41, 3) := by decide +kernel
theorem dX3_arrangementCount_3 : decode cX3_arrangementCount 3 = .ok (.aload_n 0, 1) := by decide +kernel
theorem dX3_arrangementCount_4 : decode cX3_arrangementCount 4 = .ok (.getfield 9, 3) := by decide +kernel
theorem dX3_arrangementCount_7 : decode cX3_arrangementCount 7 = .ok (.iload_n 1, 1) := by decide +kernel
