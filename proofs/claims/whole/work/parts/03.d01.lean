theorem dX3_arrangementCount_8 : decode cX3_arrangementCount 8 = .ok (.iaload, 1) := by decide +kernel
theorem dX3_arrangementCount_9 : decode cX3_arrangementCount 9 = .ok (.iaload, 1) := by decide +kernel
theorem dX3_arrangementCount_10 : decode cX3_arrangementCount 10 = .ok (.aload_n 0, 1) := by decide +kernel
theorem dX3_arrangementCount_11 : decode cX3_arrangementCount 11 = .ok (.getfield 9, 3) := by decide +kernel
theorem dX3_arrangementCount_14 : decode cX3_arrangementCount 14 = .ok (.iload_n 1, 1) := by decide +kernel
theorem dX3_arrangementCount_15 : decode cX3_arrangementCount 15 = .ok (.iaload, 1) := by decide +kernel
theorem dX3_arrangementCount_16 : decode cX3_arrangementCount 16 = .ok (.ishl, 1) := by decide +kernel
theorem dX3_arrangementCount_17 : decode cX3_arrangementCount 17 = .ok (.ireturn, 1) := by decide +kernel
theorem dX3_leafAt_0 : decode cX3_leafAt 0 = .ok (.getstatic 44, 3) := by decide +kernel
theorem dX3_leafAt_3 : decode cX3_leafAt 3 = .ok (.iload_n 2, 1) := by decide +kernel
theorem dX3_leafAt_4 : decode cX3_leafAt 4 = .ok (.aload_n 0, 1) := by decide +kernel
theorem dX3_leafAt_5 : decode cX3_leafAt 5 = .ok (.getfield 9, 3) := by decide +kernel
theorem dX3_leafAt_8 : decode cX3_leafAt 8 = .ok (.iload_n 1, 1) := by decide +kernel
theorem dX3_leafAt_9 : decode cX3_leafAt 9 = .ok (.iaload, 1) := by decide +kernel
theorem dX3_leafAt_10 : decode cX3_leafAt 10 = .ok (.ishr, 1) := by decide +kernel
theorem dX3_leafAt_11 : decode cX3_leafAt 11 = .ok (.iconst 3, 1) := by decide +kernel
theorem dX3_leafAt_12 : decode cX3_leafAt 12 = .ok (.imul, 1) := by decide +kernel
theorem dX3_leafAt_13 : decode cX3_leafAt 13 = .ok (.iload_n 3, 1) := by decide +kernel
theorem dX3_leafAt_14 : decode cX3_leafAt 14 = .ok (.iadd, 1) := by decide +kernel
theorem dX3_leafAt_15 : decode cX3_leafAt 15 = .ok (.iaload, 1) := by decide +kernel
theorem dX3_leafAt_16 : decode cX3_leafAt 16 = .ok (.ireturn, 1) := by decide +kernel
theorem dX3_turnAt_0 : decode cX3_turnAt 0 = .ok (.iload_n 1, 1) := by decide +kernel
theorem dX3_turnAt_1 : decode cX3_turnAt 1 = .ok (.iload_n 2, 1) := by decide +kernel
theorem dX3_turnAt_2 : decode cX3_turnAt 2 = .ok (.ishr, 1) := by decide +kernel
theorem dX3_turnAt_3 : decode cX3_turnAt 3 = .ok (.iconst 1, 1) := by decide +kernel
theorem dX3_turnAt_4 : decode cX3_turnAt 4 = .ok (.iand, 1) := by decide +kernel
theorem dX3_turnAt_5 : decode cX3_turnAt 5 = .ok (.ireturn, 1) := by decide +kernel
theorem dX3_arrangedTruth_0 : decode cX3_arrangedTruth 0 = .ok (.aload_n 0, 1) := by decide +kernel
theorem dX3_arrangedTruth_1 : decode cX3_arrangedTruth 1 = .ok (.getfield 22, 3) := by decide +kernel
theorem dX3_arrangedTruth_4 : decode cX3_arrangedTruth 4 = .ok (.iload_n 1, 1) := by decide +kernel
theorem dX3_arrangedTruth_5 : decode cX3_arrangedTruth 5 = .ok (.bipush 48, 2) := by decide +kernel
theorem dX3_arrangedTruth_7 : decode cX3_arrangedTruth 7 = .ok (.imul, 1) := by decide +kernel
theorem dX3_arrangedTruth_8 : decode cX3_arrangedTruth 8 = .ok (.iload_n 2, 1) := by decide +kernel
theorem dX3_arrangedTruth_9 : decode cX3_arrangedTruth 9 = .ok (.iadd, 1) := by decide +kernel
theorem dX3_arrangedTruth_10 : decode cX3_arrangedTruth 10 = .ok (.iaload, 1) := by decide +kernel
theorem dX3_arrangedTruth_11 : decode cX3_arrangedTruth 11 = .ok (.ireturn, 1) := by decide +kernel
set_option maxRecDepth 20000 in
theorem ggX3_arrange_X3_leafAt : GoodIn wsX3_arrange wsX3_leafAt := goodIn_r _ [7, 8, 1, 13, 14, 15, 16, 17, 18] (by decide +kernel) (by decide +kernel)
set_option maxRecDepth 20000 in
theorem gX3_arrange_X3_leafAt : GoodIn wsX3_arrange (wsV RX3 47 RX3 yX3_leafAt wsX3_leafAt) := goodIn_app (goodIn_of _ (by decide +kernel)) ggX3_arrange_X3_leafAt
set_option maxRecDepth 20000 in
theorem ggX3_arrange_X3_turnAt : GoodIn wsX3_arrange wsX3_turnAt := goodIn_r _ [12] (by decide +kernel) (by decide +kernel)
set_option maxRecDepth 20000 in
theorem gX3_arrange_X3_turnAt : GoodIn wsX3_arrange (wsV RX3 51 RX3 yX3_turnAt wsX3_turnAt) := goodIn_app (goodIn_of _ (by decide +kernel)) ggX3_arrange_X3_turnAt
theorem dX3_arrange_0 : decode cX3_arrange 0 = .ok (.iconst 0, 1) := by decide +kernel
theorem dX3_arrange_1 : decode cX3_arrange 1 = .ok (.istore_n 3, 1) := by decide +kernel
theorem dX3_arrange_2 : decode cX3_arrange 2 = .ok (.iconst 0, 1) := by decide +kernel
theorem dX3_arrange_3 : decode cX3_arrange 3 = .ok (.istore 4, 2) := by decide +kernel
theorem dX3_arrange_5 : decode cX3_arrange 5 = .ok (.iload 4, 2) := by decide +kernel
theorem dX3_arrange_7 : decode cX3_arrange 7 = .ok (.iconst 1, 1) := by decide +kernel
theorem dX3_arrange_8 : decode cX3_arrange 8 = .ok (.aload_n 0, 1) := by decide +kernel
theorem dX3_arrange_9 : decode cX3_arrange 9 = .ok (.getfield 9, 3) := by decide +kernel
theorem dX3_arrange_12 : decode cX3_arrange 12 = .ok (.iload_n 1, 1) := by decide +kernel
theorem dX3_arrange_13 : decode cX3_arrange 13 = .ok (.iaload, 1) := by decide +kernel
theorem dX3_arrange_14 : decode cX3_arrange 14 = .ok (.ishl, 1) := by decide +kernel
theorem dX3_arrange_15 : decode cX3_arrange 15 = .ok (.if_icmp .ge 82, 3) := by decide +kernel
theorem dX3_arrange_18 : decode cX3_arrange 18 = .ok (.iconst 0, 1) := by decide +kernel
theorem dX3_arrange_19 : decode cX3_arrange 19 = .ok (.istore 5, 2) := by decide +kernel
theorem dX3_arrange_21 : decode cX3_arrange 21 = .ok (.iconst 0, 1) := by decide +kernel
theorem dX3_arrange_22 : decode cX3_arrange 22 = .ok (.istore 6, 2) := by decide +kernel
theorem dX3_arrange_24 : decode cX3_arrange 24 = .ok (.iload 6, 2) := by decide +kernel
theorem dX3_arrange_26 : decode cX3_arrange 26 = .ok (.aload_n 0, 1) := by decide +kernel
theorem dX3_arrange_27 : decode cX3_arrange 27 = .ok (.getfield 9, 3) := by decide +kernel
theorem dX3_arrange_30 : decode cX3_arrange 30 = .ok (.iload_n 1, 1) := by decide +kernel
theorem dX3_arrange_31 : decode cX3_arrange 31 = .ok (.iaload, 1) := by decide +kernel
theorem dX3_arrange_32 : decode cX3_arrange 32 = .ok (.if_icmp .ge 42, 3) := by decide +kernel
theorem dX3_arrange_35 : decode cX3_arrange 35 = .ok (.iload 4, 2) := by decide +kernel
theorem dX3_arrange_37 : decode cX3_arrange 37 = .ok (.aload_n 0, 1) := by decide +kernel
theorem dX3_arrange_38 : decode cX3_arrange 38 = .ok (.iload_n 1, 1) := by decide +kernel
theorem dX3_arrange_39 : decode cX3_arrange 39 = .ok (.iload_n 2, 1) := by decide +kernel
theorem dX3_arrange_40 : decode cX3_arrange 40 = .ok (.iload 6, 2) := by decide +kernel
theorem dX3_arrange_42 : decode cX3_arrange 42 = .ok (.invokevirtual 47, 3) := by decide +kernel
theorem dX3_arrange_45 : decode cX3_arrange 45 = .ok (.ishr, 1) := by decide +kernel
theorem dX3_arrange_46 : decode cX3_arrange 46 = .ok (.iconst 1, 1) := by decide +kernel
theorem dX3_arrange_47 : decode cX3_arrange 47 = .ok (.iand, 1) := by decide +kernel
theorem dX3_arrange_48 : decode cX3_arrange 48 = .ok (.istore 7, 2) := by decide +kernel
theorem dX3_arrange_50 : decode cX3_arrange 50 = .ok (.iload 5, 2) := by decide +kernel
theorem dX3_arrange_52 : decode cX3_arrange 52 = .ok (.iload 7, 2) := by decide +kernel
theorem dX3_arrange_54 : decode cX3_arrange 54 = .ok (.aload_n 0, 1) := by decide +kernel
theorem dX3_arrange_55 : decode cX3_arrange 55 = .ok (.iload_n 2, 1) := by decide +kernel
theorem dX3_arrange_56 : decode cX3_arrange 56 = .ok (.iload 6, 2) := by decide +kernel
theorem dX3_arrange_58 : decode cX3_arrange 58 = .ok (.invokevirtual 51, 3) := by decide +kernel
theorem dX3_arrange_61 : decode cX3_arrange 61 = .ok (.ixor, 1) := by decide +kernel
theorem dX3_arrange_62 : decode cX3_arrange 62 = .ok (.iload 6, 2) := by decide +kernel
theorem dX3_arrange_64 : decode cX3_arrange 64 = .ok (.ishl, 1) := by decide +kernel
theorem dX3_arrange_65 : decode cX3_arrange 65 = .ok (.ior, 1) := by decide +kernel
theorem dX3_arrange_66 : decode cX3_arrange 66 = .ok (.istore 5, 2) := by decide +kernel
theorem dX3_arrange_68 : decode cX3_arrange 68 = .ok (.iinc 6 1, 3) := by decide +kernel
theorem dX3_arrange_71 : decode cX3_arrange 71 = .ok (.goto (-47), 3) := by decide +kernel
theorem dX3_arrange_74 : decode cX3_arrange 74 = .ok (.iload_n 3, 1) := by decide +kernel
theorem dX3_arrange_75 : decode cX3_arrange 75 = .ok (.aload_n 0, 1) := by decide +kernel
theorem dX3_arrange_76 : decode cX3_arrange 76 = .ok (.getfield 13, 3) := by decide +kernel
theorem dX3_arrange_79 : decode cX3_arrange 79 = .ok (.iload_n 1, 1) := by decide +kernel
theorem dX3_arrange_80 : decode cX3_arrange 80 = .ok (.iaload, 1) := by decide +kernel
theorem dX3_arrange_81 : decode cX3_arrange 81 = .ok (.iload 5, 2) := by decide +kernel
theorem dX3_arrange_83 : decode cX3_arrange 83 = .ok (.ishr, 1) := by decide +kernel
theorem dX3_arrange_84 : decode cX3_arrange 84 = .ok (.iconst 1, 1) := by decide +kernel
theorem dX3_arrange_85 : decode cX3_arrange 85 = .ok (.iand, 1) := by decide +kernel
theorem dX3_arrange_86 : decode cX3_arrange 86 = .ok (.iload 4, 2) := by decide +kernel
theorem dX3_arrange_88 : decode cX3_arrange 88 = .ok (.ishl, 1) := by decide +kernel
theorem dX3_arrange_89 : decode cX3_arrange 89 = .ok (.ior, 1) := by decide +kernel
theorem dX3_arrange_90 : decode cX3_arrange 90 = .ok (.istore_n 3, 1) := by decide +kernel
theorem dX3_arrange_91 : decode cX3_arrange 91 = .ok (.iinc 4 1, 3) := by decide +kernel
theorem dX3_arrange_94 : decode cX3_arrange 94 = .ok (.goto (-89), 3) := by decide +kernel
theorem dX3_arrange_97 : decode cX3_arrange 97 = .ok (.iload_n 3, 1) := by decide +kernel
theorem dX3_arrange_98 : decode cX3_arrange 98 = .ok (.ireturn, 1) := by decide +kernel
theorem dX4_full_0 : decode cX4_full 0 = .ok (.iconst 1, 1) := by decide +kernel
theorem dX4_full_1 : decode cX4_full 1 = .ok (.iconst 1, 1) := by decide +kernel
theorem dX4_full_2 : decode cX4_full 2 = .ok (.iload_n 0, 1) := by decide +kernel
theorem dX4_full_3 : decode cX4_full 3 = .ok (.ishl, 1) := by decide +kernel
theorem dX4_full_4 : decode cX4_full 4 = .ok (.ishl, 1) := by decide +kernel
theorem dX4_full_5 : decode cX4_full 5 = .ok (.iconst 1, 1) := by decide +kernel
theorem dX4_full_6 : decode cX4_full 6 = .ok (.isub, 1) := by decide +kernel
theorem dX4_full_7 : decode cX4_full 7 = .ok (.ireturn, 1) := by decide +kernel
theorem dX4_variable_0 : decode cX4_variable 0 = .ok (.getstatic 7, 3) := by decide +kernel
theorem dX4_variable_3 : decode cX4_variable 3 = .ok (.iload_n 0, 1) := by decide +kernel
theorem dX4_variable_4 : decode cX4_variable 4 = .ok (.iaload, 1) := by decide +kernel
theorem dX4_variable_5 : decode cX4_variable 5 = .ok (.iload_n 1, 1) := by decide +kernel
theorem dX4_variable_6 : decode cX4_variable 6 = .ok (.iand, 1) := by decide +kernel
theorem dX4_variable_7 : decode cX4_variable 7 = .ok (.ireturn, 1) := by decide +kernel
set_option maxRecDepth 20000 in
theorem ggX5_init_X2_init : GoodIn wsX5_init wsX2_init := goodIn_r _ [24, 25, 2, 3, 20, 26, 27, 28, 29, 57, 58, 59, 60, 61, 62] (by decide +kernel) (by decide +kernel)
set_option maxRecDepth 20000 in
theorem gX5_init_X2_init_n9 : GoodIn wsX5_init (wsX2_init) := ggX5_init_X2_init
set_option maxRecDepth 20000 in
theorem ggX5_init_X0_init : GoodIn wsX5_init wsX0_init := goodIn_r _ [32, 33, 2, 3, 20, 34, 35, 36, 37, 38, 69, 70, 71, 72, 73] (by decide +kernel) (by decide +kernel)
set_option maxRecDepth 20000 in
theorem gX5_init_X0_init : GoodIn wsX5_init (wsX0_init) := ggX5_init_X0_init
set_option maxRecDepth 20000 in
theorem ggX5_init_X3_init : GoodIn wsX5_init wsX3_init := goodIn_r _ [40, 41, 2, 3, 20, 42, 43, 44, 45, 46, 74, 75, 76, 77, 78, 79] (by decide +kernel) (by decide +kernel)
set_option maxRecDepth 20000 in
theorem gX5_init_X3_init_n27 : GoodIn wsX5_init (wsX3_init) := ggX5_init_X3_init
set_option maxRecDepth 20000 in
theorem ggX5_init_X1_init : GoodIn wsX5_init wsX1_init := goodIn_r _ [49, 50, 2, 3, 51, 52, 20, 53, 54, 55, 56, 80, 81, 82, 83, 84, 85] (by decide +kernel) (by decide +kernel)
set_option maxRecDepth 20000 in
theorem gX5_init_X1_init : GoodIn wsX5_init (wsX1_init) := ggX5_init_X1_init
theorem dX5_init_0 : decode cX5_init 0 = .ok (.aload_n 0, 1) := by decide +kernel
theorem dX5_init_1 : decode cX5_init 1 = .ok (.invokespecial 1, 3) := by decide +kernel
theorem dX5_init_4 : decode cX5_init 4 = .ok (.aload_n 0, 1) := by decide +kernel
theorem dX5_init_5 : decode cX5_init 5 = .ok (.new 7, 3) := by decide +kernel
theorem dX5_init_8 : decode cX5_init 8 = .ok (.dup, 1) := by decide +kernel
theorem dX5_init_9 : decode cX5_init 9 = .ok (.invokespecial 9, 3) := by decide +kernel
theorem dX5_init_12 : decode cX5_init 12 = .ok (.putfield 10, 3) := by decide +kernel
theorem dX5_init_15 : decode cX5_init 15 = .ok (.aload_n 0, 1) := by decide +kernel
theorem dX5_init_16 : decode cX5_init 16 = .ok (.new 16, 3) := by decide +kernel
theorem dX5_init_19 : decode cX5_init 19 = .ok (.dup, 1) := by decide +kernel
theorem dX5_init_20 : decode cX5_init 20 = .ok (.aload_n 0, 1) := by decide +kernel
theorem dX5_init_21 : decode cX5_init 21 = .ok (.getfield 10, 3) := by decide +kernel
theorem dX5_init_24 : decode cX5_init 24 = .ok (.invokespecial 18, 3) := by decide +kernel
theorem dX5_init_27 : decode cX5_init 27 = .ok (.putfield 21, 3) := by decide +kernel
theorem dX5_init_30 : decode cX5_init 30 = .ok (.aload_n 0, 1) := by decide +kernel
theorem dX5_init_31 : decode cX5_init 31 = .ok (.new 25, 3) := by decide +kernel
theorem dX5_init_34 : decode cX5_init 34 = .ok (.dup, 1) := by decide +kernel
theorem dX5_init_35 : decode cX5_init 35 = .ok (.invokespecial 27, 3) := by decide +kernel
theorem dX5_init_38 : decode cX5_init 38 = .ok (.putfield 28, 3) := by decide +kernel
theorem dX5_init_41 : decode cX5_init 41 = .ok (.aload_n 0, 1) := by decide +kernel
theorem dX5_init_42 : decode cX5_init 42 = .ok (.new 32, 3) := by decide +kernel
theorem dX5_init_45 : decode cX5_init 45 = .ok (.dup, 1) := by decide +kernel
theorem dX5_init_46 : decode cX5_init 46 = .ok (.aload_n 0, 1) := by decide +kernel
theorem dX5_init_47 : decode cX5_init 47 = .ok (.getfield 10, 3) := by decide +kernel
theorem dX5_init_50 : decode cX5_init 50 = .ok (.aload_n 0, 1) := by decide +kernel
theorem dX5_init_51 : decode cX5_init 51 = .ok (.getfield 21, 3) := by decide +kernel
theorem dX5_init_54 : decode cX5_init 54 = .ok (.aload_n 0, 1) := by decide +kernel
theorem dX5_init_55 : decode cX5_init 55 = .ok (.getfield 28, 3) := by decide +kernel
theorem dX5_init_58 : decode cX5_init 58 = .ok (.invokespecial 34, 3) := by decide +kernel
theorem dX5_init_61 : decode cX5_init 61 = .ok (.putfield 37, 3) := by decide +kernel
theorem dX5_init_64 : decode cX5_init 64 = .ok (.aload_n 0, 1) := by decide +kernel
theorem dX5_init_65 : decode cX5_init 65 = .ok (.bipush 6, 2) := by decide +kernel
theorem dX5_init_67 : decode cX5_init 67 = .ok (.newarray .int, 2) := by decide +kernel
theorem dX5_init_69 : decode cX5_init 69 = .ok (.putfield 41, 3) := by decide +kernel
theorem dX5_init_72 : decode cX5_init 72 = .ok (.aload_n 0, 1) := by decide +kernel
theorem dX5_init_73 : decode cX5_init 73 = .ok (.iconst 0, 1) := by decide +kernel
theorem dX5_init_74 : decode cX5_init 74 = .ok (.putfield 45, 3) := by decide +kernel
theorem dX5_init_77 : decode cX5_init 77 = .ok (.return_, 1) := by decide +kernel
set_option maxRecDepth 20000 in
theorem ggX5_input_X2_addInput : GoodIn wsX5_input wsX2_addInput := goodIn_r _ [10, 11, 12, 13, 14, 107, 108, 109, 110, 111, 112] (by decide +kernel) (by decide +kernel)
set_option maxRecDepth 20000 in
theorem gX5_input_X2_addInput : GoodIn wsX5_input (wsV RX5 55 RX2 yX2_addInput wsX2_addInput) := goodIn_app (goodIn_of _ (by decide +kernel)) ggX5_input_X2_addInput
set_option maxRecDepth 20000 in
theorem ggX5_input_X0_addNode : GoodIn wsX5_input wsX0_addNode := goodIn_r _ [19, 20, 21, 22, 23, 24, 25, 26, 27, 28, 9, 29, 11, 30, 31, 32, 18, 33, 34, 35, 36, 37, 38, 39, 40, 41, 42, 43, 44, 45, 46, 47, 48, 49, 50, 51, 52, 53, 54, 55, 56, 57, 58, 59, 60, 61, 62, 63, 64, 65, 66, 67, 68, 69, 70, 71, 72, 73, 74, 75, 76, 77, 78, 79, 80, 81, 82, 83, 84, 85, 86, 87, 88, 89, 90, 91, 92, 93, 94, 95, 96, 97, 98, 99, 100, 113, 114, 115, 116, 117, 107, 108, 109, 110, 111, 112] (by decide +kernel) (by decide +kernel)
set_option maxRecDepth 20000 in
theorem gX5_input_X0_addNode : GoodIn wsX5_input (wsV RX5 59 RX0 yX0_addNode wsX0_addNode) := goodIn_app (goodIn_of _ (by decide +kernel)) ggX5_input_X0_addNode
theorem dX5_input_0 : decode cX5_input 0 = .ok (.aload_n 0, 1) := by decide +kernel
theorem dX5_input_1 : decode cX5_input 1 = .ok (.getfield 10, 3) := by decide +kernel
theorem dX5_input_4 : decode cX5_input 4 = .ok (.getfield 49, 3) := by decide +kernel
theorem dX5_input_7 : decode cX5_input 7 = .ok (.bipush 8, 2) := by decide +kernel
theorem dX5_input_9 : decode cX5_input 9 = .ok (.if_icmp .lt 11, 3) := by decide +kernel
theorem dX5_input_12 : decode cX5_input 12 = .ok (.new 52, 3) := by decide +kernel
theorem dX5_input_15 : decode cX5_input 15 = .ok (.dup, 1) := by decide +kernel
theorem dX5_input_16 : decode cX5_input 16 = .ok (.invokespecial 54, 3) := by decide +kernel
theorem dX5_input_19 : decode cX5_input 19 = .ok (.athrow, 1) := by decide +kernel
theorem dX5_input_20 : decode cX5_input 20 = .ok (.aload_n 0, 1) := by decide +kernel
theorem dX5_input_21 : decode cX5_input 21 = .ok (.getfield 10, 3) := by decide +kernel
theorem dX5_input_24 : decode cX5_input 24 = .ok (.invokevirtual 55, 3) := by decide +kernel
theorem dX5_input_27 : decode cX5_input 27 = .ok (.istore_n 1, 1) := by decide +kernel
theorem dX5_input_28 : decode cX5_input 28 = .ok (.aload_n 0, 1) := by decide +kernel
theorem dX5_input_29 : decode cX5_input 29 = .ok (.getfield 21, 3) := by decide +kernel
theorem dX5_input_32 : decode cX5_input 32 = .ok (.iload_n 1, 1) := by decide +kernel
theorem dX5_input_33 : decode cX5_input 33 = .ok (.invokevirtual 59, 3) := by decide +kernel
theorem dX5_input_36 : decode cX5_input 36 = .ok (.iconst 2, 1) := by decide +kernel
theorem dX5_input_37 : decode cX5_input 37 = .ok (.iload_n 1, 1) := by decide +kernel
theorem dX5_input_38 : decode cX5_input 38 = .ok (.imul, 1) := by decide +kernel
theorem dX5_input_39 : decode cX5_input 39 = .ok (.ireturn, 1) := by decide +kernel
set_option maxRecDepth 20000 in
theorem ggX5_and_X5_requireLiteral : GoodIn wsX5_and wsX5_requireLiteral := goodIn_ca (goodIn_r _ [11, 3, 4, 12, 13, 10, 14, 15, 16, 112, 113, 114, 115, 116, 117, 118, 119, 120, 121, 122, 123] (by decide +kernel) (by decide +kernel)) (goodIn_sub (fun _ h => List.mem_cons_of_mem _ (List.mem_append_right _ h)) (by decide +kernel))
set_option maxRecDepth 20000 in
theorem gX5_and_X5_requireLiteral : GoodIn wsX5_and (wsV RX5 63 RX5 yX5_requireLiteral wsX5_requireLiteral) := goodIn_app (goodIn_of _ (by decide +kernel)) ggX5_and_X5_requireLiteral
set_option maxRecDepth 20000 in
theorem ggX5_and_X2_addAnd : GoodIn wsX5_and wsX2_addAnd := goodIn_r _ [21, 22, 23, 24, 25, 118, 119, 120, 121, 122, 123] (by decide +kernel) (by decide +kernel)
set_option maxRecDepth 20000 in
theorem gX5_and_X2_addAnd : GoodIn wsX5_and (wsV RX5 69 RX2 yX2_addAnd wsX2_addAnd) := goodIn_app (goodIn_of _ (by decide +kernel)) ggX5_and_X2_addAnd
set_option maxRecDepth 20000 in
theorem ggX5_and_X0_addNode : GoodIn wsX5_and wsX0_addNode := goodIn_r _ [30, 31, 32, 33, 34, 35, 36, 37, 38, 39, 20, 40, 22, 41, 42, 43, 29, 44, 45, 46, 47, 48, 49, 50, 51, 52, 53, 54, 55, 56, 57, 58, 59, 60, 61, 62, 63, 64, 65, 66, 67, 68, 69, 70, 71, 72, 73, 74, 75, 76, 77, 78, 79, 80, 81, 82, 83, 84, 85, 86, 87, 88, 89, 90, 91, 92, 93, 94, 95, 96, 97, 98, 99, 100, 101, 102, 103, 104, 105, 106, 107, 108, 109, 110, 111, 124, 125, 126, 127, 128, 118, 119, 120, 121, 122, 123] (by decide +kernel) (by decide +kernel)
set_option maxRecDepth 20000 in
theorem gX5_and_X0_addNode : GoodIn wsX5_and (wsV RX5 59 RX0 yX0_addNode wsX0_addNode) := goodIn_app (goodIn_of _ (by decide +kernel)) ggX5_and_X0_addNode
theorem dX5_and_0 : decode cX5_and 0 = .ok (.aload_n 0, 1) := by decide +kernel
theorem dX5_and_1 : decode cX5_and 1 = .ok (.iload_n 1, 1) := by decide +kernel
theorem dX5_and_2 : decode cX5_and 2 = .ok (.invokevirtual 63, 3) := by decide +kernel
theorem dX5_and_5 : decode cX5_and 5 = .ok (.aload_n 0, 1) := by decide +kernel
theorem dX5_and_6 : decode cX5_and 6 = .ok (.iload_n 2, 1) := by decide +kernel
theorem dX5_and_7 : decode cX5_and 7 = .ok (.invokevirtual 63, 3) := by decide +kernel
theorem dX5_and_10 : decode cX5_and 10 = .ok (.aload_n 0, 1) := by decide +kernel
theorem dX5_and_11 : decode cX5_and 11 = .ok (.getfield 10, 3) := by decide +kernel
theorem dX5_and_14 : decode cX5_and 14 = .ok (.getfield 66, 3) := by decide +kernel
theorem dX5_and_17 : decode cX5_and 17 = .ok (.aload_n 0, 1) := by decide +kernel
theorem dX5_and_18 : decode cX5_and 18 = .ok (.getfield 10, 3) := by decide +kernel
theorem dX5_and_21 : decode cX5_and 21 = .ok (.getfield 49, 3) := by decide +kernel
theorem dX5_and_24 : decode cX5_and 24 = .ok (.isub, 1) := by decide +kernel
theorem dX5_and_25 : decode cX5_and 25 = .ok (.bipush 24, 2) := by decide +kernel
theorem dX5_and_27 : decode cX5_and 27 = .ok (.if_icmp .lt 11, 3) := by decide +kernel
theorem dX5_and_30 : decode cX5_and 30 = .ok (.new 52, 3) := by decide +kernel
theorem dX5_and_33 : decode cX5_and 33 = .ok (.dup, 1) := by decide +kernel
theorem dX5_and_34 : decode cX5_and 34 = .ok (.invokespecial 54, 3) := by decide +kernel
theorem dX5_and_37 : decode cX5_and 37 = .ok (.athrow, 1) := by decide +kernel
theorem dX5_and_38 : decode cX5_and 38 = .ok (.aload_n 0, 1) := by decide +kernel
theorem dX5_and_39 : decode cX5_and 39 = .ok (.getfield 10, 3) := by decide +kernel
theorem dX5_and_42 : decode cX5_and 42 = .ok (.iload_n 1, 1) := by decide +kernel
theorem dX5_and_43 : decode cX5_and 43 = .ok (.iload_n 2, 1) := by decide +kernel
theorem dX5_and_44 : decode cX5_and 44 = .ok (.invokevirtual 69, 3) := by decide +kernel
theorem dX5_and_47 : decode cX5_and 47 = .ok (.istore_n 3, 1) := by decide +kernel
theorem dX5_and_48 : decode cX5_and 48 = .ok (.aload_n 0, 1) := by decide +kernel
theorem dX5_and_49 : decode cX5_and 49 = .ok (.getfield 21, 3) := by decide +kernel
theorem dX5_and_52 : decode cX5_and 52 = .ok (.iload_n 3, 1) := by decide +kernel
theorem dX5_and_53 : decode cX5_and 53 = .ok (.invokevirtual 59, 3) := by decide +kernel
theorem dX5_and_56 : decode cX5_and 56 = .ok (.iconst 2, 1) := by decide +kernel
theorem dX5_and_57 : decode cX5_and 57 = .ok (.iload_n 3, 1) := by decide +kernel
theorem dX5_and_58 : decode cX5_and 58 = .ok (.imul, 1) := by decide +kernel
theorem dX5_and_59 : decode cX5_and 59 = .ok (.ireturn, 1) := by decide +kernel
set_option maxRecDepth 20000 in
theorem ggX5_output_X5_requireLiteral : GoodIn wsX5_output wsX5_requireLiteral := goodIn_ca (goodIn_r _ [9, 10, 11, 12, 13, 8, 14, 15, 16, 17, 18, 19, 20, 21, 22, 23, 24, 25, 26, 27, 28] (by decide +kernel) (by decide +kernel)) (goodIn_sub (fun _ h => List.mem_cons_of_mem _ (List.mem_append_right _ h)) (by decide +kernel))
set_option maxRecDepth 20000 in
theorem gX5_output_X5_requireLiteral : GoodIn wsX5_output (wsV RX5 63 RX5 yX5_requireLiteral wsX5_requireLiteral) := goodIn_app (goodIn_of _ (by decide +kernel)) ggX5_output_X5_requireLiteral
theorem dX5_output_0 : decode cX5_output 0 = .ok (.aload_n 0, 1) := by decide +kernel
theorem dX5_output_1 : decode cX5_output 1 = .ok (.iload_n 1, 1) := by decide +kernel
theorem dX5_output_2 : decode cX5_output 2 = .ok (.invokevirtual 63, 3) := by decide +kernel
theorem dX5_output_5 : decode cX5_output 5 = .ok (.aload_n 0, 1) := by decide +kernel
theorem dX5_output_6 : decode cX5_output 6 = .ok (.getfield 45, 3) := by decide +kernel
theorem dX5_output_9 : decode cX5_output 9 = .ok (.bipush 6, 2) := by decide +kernel
theorem dX5_output_11 : decode cX5_output 11 = .ok (.if_icmp .lt 11, 3) := by decide +kernel
theorem dX5_output_14 : decode cX5_output 14 = .ok (.new 52, 3) := by decide +kernel
theorem dX5_output_17 : decode cX5_output 17 = .ok (.dup, 1) := by decide +kernel
theorem dX5_output_18 : decode cX5_output 18 = .ok (.invokespecial 54, 3) := by decide +kernel
theorem dX5_output_21 : decode cX5_output 21 = .ok (.athrow, 1) := by decide +kernel
theorem dX5_output_22 : decode cX5_output 22 = .ok (.aload_n 0, 1) := by decide +kernel
theorem dX5_output_23 : decode cX5_output 23 = .ok (.getfield 41, 3) := by decide +kernel
theorem dX5_output_26 : decode cX5_output 26 = .ok (.aload_n 0, 1) := by decide +kernel
theorem dX5_output_27 : decode cX5_output 27 = .ok (.getfield 45, 3) := by decide +kernel
theorem dX5_output_30 : decode cX5_output 30 = .ok (.iload_n 1, 1) := by decide +kernel
theorem dX5_output_31 : decode cX5_output 31 = .ok (.iastore, 1) := by decide +kernel
theorem dX5_output_32 : decode cX5_output 32 = .ok (.aload_n 0, 1) := by decide +kernel
theorem dX5_output_33 : decode cX5_output 33 = .ok (.dup, 1) := by decide +kernel
theorem dX5_output_34 : decode cX5_output 34 = .ok (.getfield 45, 3) := by decide +kernel
theorem dX5_output_37 : decode cX5_output 37 = .ok (.iconst 1, 1) := by decide +kernel
theorem dX5_output_38 : decode cX5_output 38 = .ok (.iadd, 1) := by decide +kernel
theorem dX5_output_39 : decode cX5_output 39 = .ok (.putfield 45, 3) := by decide +kernel
theorem dX5_output_42 : decode cX5_output 42 = .ok (.aload_n 0, 1) := by decide +kernel
theorem dX5_output_43 : decode cX5_output 43 = .ok (.getfield 45, 3) := by decide +kernel
theorem dX5_output_46 : decode cX5_output 46 = .ok (.iconst 1, 1) := by decide +kernel
theorem dX5_output_47 : decode cX5_output 47 = .ok (.isub, 1) := by decide +kernel
theorem dX5_output_48 : decode cX5_output 48 = .ok (.ireturn, 1) := by decide +kernel
set_option maxRecDepth 20000 in
theorem ggX5_cell_X5_requireRange : GoodIn wsX5_cell wsX5_requireRange := goodIn_ca (goodIn_r _ [9, 10, 11] (by decide +kernel) (by decide +kernel)) (goodIn_sub (fun _ h => List.mem_cons_of_mem _ (List.mem_append_right _ h)) (by decide +kernel))
set_option maxRecDepth 20000 in
theorem gX5_cell_X5_requireRange : GoodIn wsX5_cell (va_wsS RX5 76 yX5_requireRange wsX5_requireRange) := goodIn_app (goodIn_of _ (by decide +kernel)) ggX5_cell_X5_requireRange
set_option maxRecDepth 20000 in
theorem ggX5_cell_X4_full : GoodIn wsX5_cell wsX4_full := goodIn_r _ [15] (by decide +kernel) (by decide +kernel)
set_option maxRecDepth 20000 in
theorem gX5_cell_X4_full : GoodIn wsX5_cell (va_wsS RX5 80 yX4_full wsX4_full) := goodIn_app (goodIn_of _ (by decide +kernel)) ggX5_cell_X4_full
set_option maxRecDepth 20000 in
theorem ggX5_cell_X1_forget : GoodIn wsX5_cell wsX1_forget := goodIn_r _ [20, 21, 67, 68, 69, 70, 71, 72] (by decide +kernel) (by decide +kernel)
set_option maxRecDepth 20000 in
theorem gX5_cell_X1_forget : GoodIn wsX5_cell (wsV RX5 86 RX1 yX1_forget wsX1_forget) := goodIn_app (goodIn_of _ (by decide +kernel)) ggX5_cell_X1_forget
set_option maxRecDepth 20000 in
theorem ggX5_cell_X3_add : GoodIn wsX5_cell wsX3_add := goodIn_r _ [26, 27, 28, 29, 30, 31, 32, 33, 34, 25, 35, 36, 37, 38, 39, 40, 41, 42, 43, 44, 45, 46, 47, 48, 49, 50, 51, 52, 53, 54, 61, 62, 63, 64, 65, 66] (by decide +kernel) (by decide +kernel)
set_option maxRecDepth 20000 in
theorem gX5_cell_X3_add : GoodIn wsX5_cell (wsV RX5 89 RX3 yX3_add wsX3_add) := goodIn_app (goodIn_of _ (by decide +kernel)) ggX5_cell_X3_add
theorem dX5_cell_0 : decode cX5_cell 0 = .ok (.aload_n 0, 1) := by decide +kernel
theorem dX5_cell_1 : decode cX5_cell 1 = .ok (.getfield 28, 3) := by decide +kernel
theorem dX5_cell_4 : decode cX5_cell 4 = .ok (.getfield 73, 3) := by decide +kernel
theorem dX5_cell_7 : decode cX5_cell 7 = .ok (.bipush 12, 2) := by decide +kernel
theorem dX5_cell_9 : decode cX5_cell 9 = .ok (.if_icmp .lt 11, 3) := by decide +kernel
theorem dX5_cell_12 : decode cX5_cell 12 = .ok (.new 52, 3) := by decide +kernel
theorem dX5_cell_15 : decode cX5_cell 15 = .ok (.dup, 1) := by decide +kernel
theorem dX5_cell_16 : decode cX5_cell 16 = .ok (.invokespecial 54, 3) := by decide +kernel
theorem dX5_cell_19 : decode cX5_cell 19 = .ok (.athrow, 1) := by decide +kernel
theorem dX5_cell_20 : decode cX5_cell 20 = .ok (.iload_n 1, 1) := by decide +kernel
theorem dX5_cell_21 : decode cX5_cell 21 = .ok (.iconst 1, 1) := by decide +kernel
theorem dX5_cell_22 : decode cX5_cell 22 = .ok (.iconst 3, 1) := by decide +kernel
theorem dX5_cell_23 : decode cX5_cell 23 = .ok (.invokestatic 76, 3) := by decide +kernel
theorem dX5_cell_26 : decode cX5_cell 26 = .ok (.iload_n 2, 1) := by decide +kernel
theorem dX5_cell_27 : decode cX5_cell 27 = .ok (.iconst 0, 1) := by decide +kernel
theorem dX5_cell_28 : decode cX5_cell 28 = .ok (.iload_n 1, 1) := by decide +kernel
theorem dX5_cell_29 : decode cX5_cell 29 = .ok (.invokestatic 80, 3) := by decide +kernel
theorem dX5_cell_32 : decode cX5_cell 32 = .ok (.invokestatic 76, 3) := by decide +kernel
theorem dX5_cell_35 : decode cX5_cell 35 = .ok (.iload_n 3, 1) := by decide +kernel
theorem dX5_cell_36 : decode cX5_cell 36 = .ok (.iconst 1, 1) := by decide +kernel
theorem dX5_cell_37 : decode cX5_cell 37 = .ok (.sipush 1000, 3) := by decide +kernel
theorem dX5_cell_40 : decode cX5_cell 40 = .ok (.invokestatic 76, 3) := by decide +kernel
theorem dX5_cell_43 : decode cX5_cell 43 = .ok (.aload_n 0, 1) := by decide +kernel
theorem dX5_cell_44 : decode cX5_cell 44 = .ok (.getfield 37, 3) := by decide +kernel
theorem dX5_cell_47 : decode cX5_cell 47 = .ok (.invokevirtual 86, 3) := by decide +kernel
theorem dX5_cell_50 : decode cX5_cell 50 = .ok (.aload_n 0, 1) := by decide +kernel
theorem dX5_cell_51 : decode cX5_cell 51 = .ok (.getfield 28, 3) := by decide +kernel
theorem dX5_cell_54 : decode cX5_cell 54 = .ok (.iload_n 1, 1) := by decide +kernel
theorem dX5_cell_55 : decode cX5_cell 55 = .ok (.iload_n 2, 1) := by decide +kernel
theorem dX5_cell_56 : decode cX5_cell 56 = .ok (.iload_n 3, 1) := by decide +kernel
theorem dX5_cell_57 : decode cX5_cell 57 = .ok (.invokevirtual 89, 3) := by decide +kernel
theorem dX5_cell_60 : decode cX5_cell 60 = .ok (.ireturn, 1) := by decide +kernel
set_option maxRecDepth 20000 in
theorem ggX5_delay_X5_requireIndex : GoodIn wsX5_delay wsX5_requireIndex := goodIn_ca (goodIn_r _ [8, 9, 10] (by decide +kernel) (by decide +kernel)) (goodIn_sub (fun _ h => List.mem_cons_of_mem _ (List.mem_append_left _ (List.mem_append_right _ h))) (by decide +kernel))
set_option maxRecDepth 20000 in
theorem gX5_delay_X5_requireIndex : GoodIn wsX5_delay (va_wsS RX5 93 yX5_requireIndex wsX5_requireIndex) := goodIn_app (goodIn_of _ (by decide +kernel)) ggX5_delay_X5_requireIndex
set_option maxRecDepth 20000 in
theorem ggX5_delay_X5_requireRange : GoodIn wsX5_delay wsX5_requireRange := goodIn_ca (goodIn_r _ [13, 14, 15] (by decide +kernel) (by decide +kernel)) (goodIn_sub (fun _ h => List.mem_cons_of_mem _ (List.mem_append_right _ h)) (by decide +kernel))
set_option maxRecDepth 20000 in
theorem gX5_delay_X5_requireRange : GoodIn wsX5_delay (va_wsS RX5 76 yX5_requireRange wsX5_requireRange) := goodIn_app (goodIn_of _ (by decide +kernel)) ggX5_delay_X5_requireRange
set_option maxRecDepth 20000 in
theorem ggX5_delay_X3_delayAt : GoodIn wsX5_delay wsX3_delayAt := goodIn_r _ [20, 21, 38, 39, 40, 41, 42, 43] (by decide +kernel) (by decide +kernel)
set_option maxRecDepth 20000 in
theorem gX5_delay_X3_delayAt : GoodIn wsX5_delay (wsV RX5 100 RX3 yX3_delayAt wsX3_delayAt) := goodIn_app (goodIn_of _ (by decide +kernel)) ggX5_delay_X3_delayAt
set_option maxRecDepth 20000 in
theorem ggX5_delay_X3_setDelay : GoodIn wsX5_delay wsX3_setDelay := goodIn_r _ [25, 21, 38, 39, 40, 41, 42, 43] (by decide +kernel) (by decide +kernel)
set_option maxRecDepth 20000 in
theorem gX5_delay_X3_setDelay : GoodIn wsX5_delay (wsV RX5 103 RX3 yX3_setDelay wsX3_setDelay) := goodIn_app (goodIn_of _ (by decide +kernel)) ggX5_delay_X3_setDelay
set_option maxRecDepth 20000 in
theorem ggX5_delay_X1_forget : GoodIn wsX5_delay wsX1_forget := goodIn_r _ [30, 31, 44, 45, 46, 47, 48, 49] (by decide +kernel) (by decide +kernel)
set_option maxRecDepth 20000 in
theorem gX5_delay_X1_forget : GoodIn wsX5_delay (wsV RX5 86 RX1 yX1_forget wsX1_forget) := goodIn_app (goodIn_of _ (by decide +kernel)) ggX5_delay_X1_forget
theorem dX5_delay_0 : decode cX5_delay 0 = .ok (.iload_n 1, 1) := by decide +kernel
theorem dX5_delay_1 : decode cX5_delay 1 = .ok (.aload_n 0, 1) := by decide +kernel
theorem dX5_delay_2 : decode cX5_delay 2 = .ok (.getfield 28, 3) := by decide +kernel
theorem dX5_delay_5 : decode cX5_delay 5 = .ok (.getfield 73, 3) := by decide +kernel
theorem dX5_delay_8 : decode cX5_delay 8 = .ok (.invokestatic 93, 3) := by decide +kernel
theorem dX5_delay_11 : decode cX5_delay 11 = .ok (.iload_n 2, 1) := by decide +kernel
theorem dX5_delay_12 : decode cX5_delay 12 = .ok (.aload_n 0, 1) := by decide +kernel
theorem dX5_delay_13 : decode cX5_delay 13 = .ok (.getfield 28, 3) := by decide +kernel
theorem dX5_delay_16 : decode cX5_delay 16 = .ok (.getfield 97, 3) := by decide +kernel
theorem dX5_delay_19 : decode cX5_delay 19 = .ok (.iload_n 1, 1) := by decide +kernel
theorem dX5_delay_20 : decode cX5_delay 20 = .ok (.iaload, 1) := by decide +kernel
theorem dX5_delay_21 : decode cX5_delay 21 = .ok (.invokestatic 93, 3) := by decide +kernel
theorem dX5_delay_24 : decode cX5_delay 24 = .ok (.iload_n 3, 1) := by decide +kernel
theorem dX5_delay_25 : decode cX5_delay 25 = .ok (.iconst 0, 1) := by decide +kernel
theorem dX5_delay_26 : decode cX5_delay 26 = .ok (.sipush 1000, 3) := by decide +kernel
theorem dX5_delay_29 : decode cX5_delay 29 = .ok (.invokestatic 76, 3) := by decide +kernel
theorem dX5_delay_32 : decode cX5_delay 32 = .ok (.aload_n 0, 1) := by decide +kernel
theorem dX5_delay_33 : decode cX5_delay 33 = .ok (.getfield 28, 3) := by decide +kernel
theorem dX5_delay_36 : decode cX5_delay 36 = .ok (.iload_n 1, 1) := by decide +kernel
theorem dX5_delay_37 : decode cX5_delay 37 = .ok (.iload_n 2, 1) := by decide +kernel
theorem dX5_delay_38 : decode cX5_delay 38 = .ok (.invokevirtual 100, 3) := by decide +kernel
theorem dX5_delay_41 : decode cX5_delay 41 = .ok (.iload_n 3, 1) := by decide +kernel
theorem dX5_delay_42 : decode cX5_delay 42 = .ok (.if_icmp .ne 5, 3) := by decide +kernel
theorem dX5_delay_45 : decode cX5_delay 45 = .ok (.iconst 0, 1) := by decide +kernel
theorem dX5_delay_46 : decode cX5_delay 46 = .ok (.ireturn, 1) := by decide +kernel
theorem dX5_delay_47 : decode cX5_delay 47 = .ok (.aload_n 0, 1) := by decide +kernel
theorem dX5_delay_48 : decode cX5_delay 48 = .ok (.getfield 28, 3) := by decide +kernel
theorem dX5_delay_51 : decode cX5_delay 51 = .ok (.iload_n 1, 1) := by decide +kernel
theorem dX5_delay_52 : decode cX5_delay 52 = .ok (.iload_n 2, 1) := by decide +kernel
theorem dX5_delay_53 : decode cX5_delay 53 = .ok (.iload_n 3, 1) := by decide +kernel
theorem dX5_delay_54 : decode cX5_delay 54 = .ok (.invokevirtual 103, 3) := by decide +kernel
theorem dX5_delay_57 : decode cX5_delay 57 = .ok (.aload_n 0, 1) := by decide +kernel
theorem dX5_delay_58 : decode cX5_delay 58 = .ok (.getfield 37, 3) := by decide +kernel
theorem dX5_delay_61 : decode cX5_delay 61 = .ok (.invokevirtual 86, 3) := by decide +kernel
theorem dX5_delay_64 : decode cX5_delay 64 = .ok (.iconst 1, 1) := by decide +kernel
theorem dX5_delay_65 : decode cX5_delay 65 = .ok (.ireturn, 1) := by decide +kernel
set_option maxRecDepth 20000 in
theorem ggX5_arrives_X5_requireIndex : GoodIn wsX5_arrives wsX5_requireIndex := goodIn_ca (goodIn_r _ [8, 9, 10] (by decide +kernel) (by decide +kernel)) (goodIn_sub (fun _ h => List.mem_cons_of_mem _ (List.mem_append_left _ (List.mem_append_right _ h))) (by decide +kernel))
set_option maxRecDepth 20000 in
theorem gX5_arrives_X5_requireIndex : GoodIn wsX5_arrives (va_wsS RX5 93 yX5_requireIndex wsX5_requireIndex) := goodIn_app (goodIn_of _ (by decide +kernel)) ggX5_arrives_X5_requireIndex
set_option maxRecDepth 20000 in
theorem ggX5_arrives_X5_requireRange : GoodIn wsX5_arrives wsX5_requireRange := goodIn_ca (goodIn_r _ [13, 14, 15] (by decide +kernel) (by decide +kernel)) (goodIn_sub (fun _ h => List.mem_cons_of_mem _ (List.mem_append_right _ h)) (by decide +kernel))
set_option maxRecDepth 20000 in
theorem gX5_arrives_X5_requireRange : GoodIn wsX5_arrives (va_wsS RX5 76 yX5_requireRange wsX5_requireRange) := goodIn_app (goodIn_of _ (by decide +kernel)) ggX5_arrives_X5_requireRange
set_option maxRecDepth 20000 in
theorem ggX5_arrives_X1_forget : GoodIn wsX5_arrives wsX1_forget := goodIn_r _ [20, 21, 34, 35, 36, 37, 38, 39] (by decide +kernel) (by decide +kernel)
set_option maxRecDepth 20000 in
theorem gX5_arrives_X1_forget : GoodIn wsX5_arrives (wsV RX5 86 RX1 yX1_forget wsX1_forget) := goodIn_app (goodIn_of _ (by decide +kernel)) ggX5_arrives_X1_forget
theorem dX5_arrives_0 : decode cX5_arrives 0 = .ok (.iload_n 1, 1) := by decide +kernel
theorem dX5_arrives_1 : decode cX5_arrives 1 = .ok (.aload_n 0, 1) := by decide +kernel
theorem dX5_arrives_2 : decode cX5_arrives 2 = .ok (.getfield 10, 3) := by decide +kernel
theorem dX5_arrives_5 : decode cX5_arrives 5 = .ok (.getfield 49, 3) := by decide +kernel
theorem dX5_arrives_8 : decode cX5_arrives 8 = .ok (.invokestatic 93, 3) := by decide +kernel
theorem dX5_arrives_11 : decode cX5_arrives 11 = .ok (.iload_n 2, 1) := by decide +kernel
theorem dX5_arrives_12 : decode cX5_arrives 12 = .ok (.iconst 0, 1) := by decide +kernel
theorem dX5_arrives_13 : decode cX5_arrives 13 = .ok (.sipush 1000, 3) := by decide +kernel
theorem dX5_arrives_16 : decode cX5_arrives 16 = .ok (.invokestatic 76, 3) := by decide +kernel
theorem dX5_arrives_19 : decode cX5_arrives 19 = .ok (.aload_n 0, 1) := by decide +kernel
theorem dX5_arrives_20 : decode cX5_arrives 20 = .ok (.getfield 10, 3) := by decide +kernel
theorem dX5_arrives_23 : decode cX5_arrives 23 = .ok (.getfield 106, 3) := by decide +kernel
theorem dX5_arrives_26 : decode cX5_arrives 26 = .ok (.iload_n 1, 1) := by decide +kernel
theorem dX5_arrives_27 : decode cX5_arrives 27 = .ok (.iaload, 1) := by decide +kernel
theorem dX5_arrives_28 : decode cX5_arrives 28 = .ok (.iload_n 2, 1) := by decide +kernel
theorem dX5_arrives_29 : decode cX5_arrives 29 = .ok (.if_icmp .ne 5, 3) := by decide +kernel
theorem dX5_arrives_32 : decode cX5_arrives 32 = .ok (.iconst 0, 1) := by decide +kernel
theorem dX5_arrives_33 : decode cX5_arrives 33 = .ok (.ireturn, 1) := by decide +kernel
theorem dX5_arrives_34 : decode cX5_arrives 34 = .ok (.aload_n 0, 1) := by decide +kernel
theorem dX5_arrives_35 : decode cX5_arrives 35 = .ok (.getfield 10, 3) := by decide +kernel
theorem dX5_arrives_38 : decode cX5_arrives 38 = .ok (.getfield 106, 3) := by decide +kernel
theorem dX5_arrives_41 : decode cX5_arrives 41 = .ok (.iload_n 1, 1) := by decide +kernel
theorem dX5_arrives_42 : decode cX5_arrives 42 = .ok (.iload_n 2, 1) := by decide +kernel
theorem dX5_arrives_43 : decode cX5_arrives 43 = .ok (.iastore, 1) := by decide +kernel
theorem dX5_arrives_44 : decode cX5_arrives 44 = .ok (.aload_n 0, 1) := by decide +kernel
theorem dX5_arrives_45 : decode cX5_arrives 45 = .ok (.getfield 37, 3) := by decide +kernel
theorem dX5_arrives_48 : decode cX5_arrives 48 = .ok (.invokevirtual 86, 3) := by decide +kernel
theorem dX5_arrives_51 : decode cX5_arrives 51 = .ok (.iconst 1, 1) := by decide +kernel
theorem dX5_arrives_52 : decode cX5_arrives 52 = .ok (.ireturn, 1) := by decide +kernel
set_option maxRecDepth 20000 in
theorem ggX5_cuts_X5_requireIndex : GoodIn wsX5_cuts wsX5_requireIndex := goodIn_ca (goodIn_r _ [7, 8, 9] (by decide +kernel) (by decide +kernel)) (goodIn_sub (fun _ h => List.mem_cons_of_mem _ (List.mem_append_right _ h)) (by decide +kernel))
set_option maxRecDepth 20000 in
theorem gX5_cuts_X5_requireIndex : GoodIn wsX5_cuts (va_wsS RX5 93 yX5_requireIndex wsX5_requireIndex) := goodIn_app (goodIn_of _ (by decide +kernel)) ggX5_cuts_X5_requireIndex
set_option maxRecDepth 20000 in
theorem ggX5_cuts_X0_size : GoodIn wsX5_cuts wsX0_size := goodIn_r _ [14, 15, 28, 29, 30, 31, 32] (by decide +kernel) (by decide +kernel)
set_option maxRecDepth 20000 in
theorem gX5_cuts_X0_size : GoodIn wsX5_cuts (wsV RX5 109 RX0 yX0_size wsX0_size) := goodIn_app (goodIn_of _ (by decide +kernel)) ggX5_cuts_X0_size
theorem dX5_cuts_0 : decode cX5_cuts 0 = .ok (.iload_n 1, 1) := by decide +kernel
theorem dX5_cuts_1 : decode cX5_cuts 1 = .ok (.aload_n 0, 1) := by decide +kernel
theorem dX5_cuts_2 : decode cX5_cuts 2 = .ok (.getfield 10, 3) := by decide +kernel
theorem dX5_cuts_5 : decode cX5_cuts 5 = .ok (.getfield 66, 3) := by decide +kernel
theorem dX5_cuts_8 : decode cX5_cuts 8 = .ok (.invokestatic 93, 3) := by decide +kernel
theorem dX5_cuts_11 : decode cX5_cuts 11 = .ok (.aload_n 0, 1) := by decide +kernel
theorem dX5_cuts_12 : decode cX5_cuts 12 = .ok (.getfield 21, 3) := by decide +kernel
theorem dX5_cuts_15 : decode cX5_cuts 15 = .ok (.iload_n 1, 1) := by decide +kernel
theorem dX5_cuts_16 : decode cX5_cuts 16 = .ok (.invokevirtual 109, 3) := by decide +kernel
theorem dX5_cuts_19 : decode cX5_cuts 19 = .ok (.ireturn, 1) := by decide +kernel
set_option maxRecDepth 20000 in
theorem ggX5_cut_X5_requireCutIndex : GoodIn wsX5_cut wsX5_requireCutIndex := goodIn_ca (goodIn_r _ [7, 8, 9, 10, 11, 12, 13, 6, 14, 26, 27, 28, 29, 30, 31, 32, 33, 34, 35, 36, 37] (by decide +kernel) (by decide +kernel)) (goodIn_sub (fun _ h => List.mem_cons_of_mem _ (List.mem_append_right _ h)) (by decide +kernel))
set_option maxRecDepth 20000 in
theorem gX5_cut_X5_requireCutIndex : GoodIn wsX5_cut (wsV RX5 112 RX5 yX5_requireCutIndex wsX5_requireCutIndex) := goodIn_app (goodIn_of _ (by decide +kernel)) ggX5_cut_X5_requireCutIndex
set_option maxRecDepth 20000 in
theorem ggX5_cut_X0_size : GoodIn wsX5_cut wsX0_size := goodIn_r _ [19, 20, 38, 39, 40, 41, 42] (by decide +kernel) (by decide +kernel)
set_option maxRecDepth 20000 in
theorem gX5_cut_X0_size : GoodIn wsX5_cut (wsV RX5 109 RX0 yX0_size wsX0_size) := goodIn_app (goodIn_of _ (by decide +kernel)) ggX5_cut_X0_size
set_option maxRecDepth 20000 in
theorem ggX5_cut_X0_leavesAt : GoodIn wsX5_cut wsX0_leavesAt := goodIn_r _ [24, 25, 20, 38, 39, 40, 41, 42] (by decide +kernel) (by decide +kernel)
set_option maxRecDepth 20000 in
theorem gX5_cut_X0_leavesAt : GoodIn wsX5_cut (wsV RX5 115 RX0 yX0_leavesAt wsX0_leavesAt) := goodIn_app (goodIn_of _ (by decide +kernel)) ggX5_cut_X0_leavesAt
theorem dX5_cut_0 : decode cX5_cut 0 = .ok (.aload_n 0, 1) := by decide +kernel
theorem dX5_cut_1 : decode cX5_cut 1 = .ok (.iload_n 1, 1) := by decide +kernel
theorem dX5_cut_2 : decode cX5_cut 2 = .ok (.iload_n 2, 1) := by decide +kernel
theorem dX5_cut_3 : decode cX5_cut 3 = .ok (.invokevirtual 112, 3) := by decide +kernel
theorem dX5_cut_6 : decode cX5_cut 6 = .ok (.iload_n 2, 1) := by decide +kernel
theorem dX5_cut_7 : decode cX5_cut 7 = .ok (.aload_n 0, 1) := by decide +kernel
theorem dX5_cut_8 : decode cX5_cut 8 = .ok (.getfield 21, 3) := by decide +kernel
theorem dX5_cut_11 : decode cX5_cut 11 = .ok (.iload_n 1, 1) := by decide +kernel
theorem dX5_cut_12 : decode cX5_cut 12 = .ok (.invokevirtual 109, 3) := by decide +kernel
theorem dX5_cut_15 : decode cX5_cut 15 = .ok (.if_icmp .ge 16, 3) := by decide +kernel
theorem dX5_cut_18 : decode cX5_cut 18 = .ok (.aload_n 0, 1) := by decide +kernel
theorem dX5_cut_19 : decode cX5_cut 19 = .ok (.getfield 21, 3) := by decide +kernel
theorem dX5_cut_22 : decode cX5_cut 22 = .ok (.iload_n 1, 1) := by decide +kernel
theorem dX5_cut_23 : decode cX5_cut 23 = .ok (.iload_n 2, 1) := by decide +kernel
theorem dX5_cut_24 : decode cX5_cut 24 = .ok (.invokevirtual 115, 3) := by decide +kernel
theorem dX5_cut_27 : decode cX5_cut 27 = .ok (.i2l, 1) := by decide +kernel
theorem dX5_cut_28 : decode cX5_cut 28 = .ok (.goto 6, 3) := by decide +kernel
theorem dX5_cut_31 : decode cX5_cut 31 = .ok (.ldc2_w 118, 3) := by decide +kernel
theorem dX5_cut_34 : decode cX5_cut 34 = .ok (.lreturn, 1) := by decide +kernel
set_option maxRecDepth 20000 in
theorem ggX5_function_X5_requireCutIndex : GoodIn wsX5_function wsX5_requireCutIndex := goodIn_ca (goodIn_r _ [6, 7, 8, 9, 10, 11, 12, 5, 13, 25, 26, 27, 28, 29, 30, 31, 32, 33, 34, 35, 36] (by decide +kernel) (by decide +kernel)) (goodIn_sub (fun _ h => List.mem_cons_of_mem _ (List.mem_append_right _ h)) (by decide +kernel))
set_option maxRecDepth 20000 in
theorem gX5_function_X5_requireCutIndex : GoodIn wsX5_function (wsV RX5 112 RX5 yX5_requireCutIndex wsX5_requireCutIndex) := goodIn_app (goodIn_of _ (by decide +kernel)) ggX5_function_X5_requireCutIndex
set_option maxRecDepth 20000 in
theorem ggX5_function_X0_size : GoodIn wsX5_function wsX0_size := goodIn_r _ [18, 19, 37, 38, 39, 40, 41] (by decide +kernel) (by decide +kernel)
set_option maxRecDepth 20000 in
theorem gX5_function_X0_size : GoodIn wsX5_function (wsV RX5 109 RX0 yX0_size wsX0_size) := goodIn_app (goodIn_of _ (by decide +kernel)) ggX5_function_X0_size
set_option maxRecDepth 20000 in
theorem ggX5_function_X0_functionAt : GoodIn wsX5_function wsX0_functionAt := goodIn_r _ [23, 24, 19, 37, 38, 39, 40, 41] (by decide +kernel) (by decide +kernel)
set_option maxRecDepth 20000 in
theorem gX5_function_X0_functionAt : GoodIn wsX5_function (wsV RX5 120 RX0 yX0_functionAt wsX0_functionAt) := goodIn_app (goodIn_of _ (by decide +kernel)) ggX5_function_X0_functionAt
theorem dX5_function_0 : decode cX5_function 0 = .ok (.aload_n 0, 1) := by decide +kernel
theorem dX5_function_1 : decode cX5_function 1 = .ok (.iload_n 1, 1) := by decide +kernel
theorem dX5_function_2 : decode cX5_function 2 = .ok (.iload_n 2, 1) := by decide +kernel
theorem dX5_function_3 : decode cX5_function 3 = .ok (.invokevirtual 112, 3) := by decide +kernel
theorem dX5_function_6 : decode cX5_function 6 = .ok (.iload_n 2, 1) := by decide +kernel
theorem dX5_function_7 : decode cX5_function 7 = .ok (.aload_n 0, 1) := by decide +kernel
theorem dX5_function_8 : decode cX5_function 8 = .ok (.getfield 21, 3) := by decide +kernel
theorem dX5_function_11 : decode cX5_function 11 = .ok (.iload_n 1, 1) := by decide +kernel
theorem dX5_function_12 : decode cX5_function 12 = .ok (.invokevirtual 109, 3) := by decide +kernel
theorem dX5_function_15 : decode cX5_function 15 = .ok (.if_icmp .ge 15, 3) := by decide +kernel
theorem dX5_function_18 : decode cX5_function 18 = .ok (.aload_n 0, 1) := by decide +kernel
theorem dX5_function_19 : decode cX5_function 19 = .ok (.getfield 21, 3) := by decide +kernel
theorem dX5_function_22 : decode cX5_function 22 = .ok (.iload_n 1, 1) := by decide +kernel
theorem dX5_function_23 : decode cX5_function 23 = .ok (.iload_n 2, 1) := by decide +kernel
theorem dX5_function_24 : decode cX5_function 24 = .ok (.invokevirtual 120, 3) := by decide +kernel
theorem dX5_function_27 : decode cX5_function 27 = .ok (.goto 4, 3) := by decide +kernel
theorem dX5_function_30 : decode cX5_function 30 = .ok (.iconst (-1), 1) := by decide +kernel
theorem dX5_function_31 : decode cX5_function 31 = .ok (.ireturn, 1) := by decide +kernel
set_option maxRecDepth 20000 in
theorem ggX5_arrival_X5_requireLiteral : GoodIn wsX5_arrival wsX5_requireLiteral := goodIn_ca (goodIn_r _ [6, 7, 8, 9, 10, 5, 11, 12, 13, 133, 134, 135, 136, 137, 138, 139, 140, 141, 142, 143, 144] (by decide +kernel) (by decide +kernel)) (goodIn_sub (fun _ h => List.mem_cons_of_mem _ (List.mem_append_right _ h)) (by decide +kernel))
set_option maxRecDepth 20000 in
theorem gX5_arrival_X5_requireLiteral : GoodIn wsX5_arrival (wsV RX5 63 RX5 yX5_requireLiteral wsX5_requireLiteral) := goodIn_app (goodIn_of _ (by decide +kernel)) ggX5_arrival_X5_requireLiteral
set_option maxRecDepth 20000 in
theorem ggX5_arrival_X1_settle : GoodIn wsX5_arrival wsX1_settle := goodIn_r _ [18, 19, 20, 21, 22, 23, 24, 17, 25, 26, 27, 28, 29, 30, 31, 32, 33, 34, 35, 36, 37, 38, 39, 40, 41, 42, 43, 44, 45, 46, 47, 48, 49, 50, 51, 52, 53, 54, 55, 56, 57, 58, 59, 60, 61, 62, 63, 64, 65, 66, 67, 68, 69, 70, 71, 72, 73, 74, 75, 76, 77, 78, 79, 80, 81, 82, 83, 84, 85, 86, 87, 88, 89, 90, 91, 92, 93, 94, 95, 96, 97, 98, 99, 100, 101, 102, 103, 104, 105, 106, 107, 108, 109, 110, 111, 112, 113, 114, 115, 116, 117, 118, 119, 120, 121, 122, 123, 124, 125, 126, 127, 128, 129, 130, 131, 145, 146, 147, 148, 149, 150, 139, 140, 141, 142, 143, 144, 151, 152, 153, 154, 155, 156, 157, 158, 159, 160, 161] (by decide +kernel) (by decide +kernel)
set_option maxRecDepth 20000 in
theorem gX5_arrival_X1_settle : GoodIn wsX5_arrival (wsV RX5 123 RX1 yX1_settle wsX1_settle) := goodIn_app (goodIn_of _ (by decide +kernel)) ggX5_arrival_X1_settle
set_option maxRecDepth 20000 in
theorem ggX5_arrival_X1_timeOf : GoodIn wsX5_arrival wsX1_timeOf := goodIn_r _ [109, 26, 27, 145, 146, 147, 148, 149, 150] (by decide +kernel) (by decide +kernel)
set_option maxRecDepth 20000 in
theorem gX5_arrival_X1_timeOf : GoodIn wsX5_arrival (wsV RX5 126 RX1 yX1_timeOf wsX1_timeOf) := goodIn_app (goodIn_of _ (by decide +kernel)) ggX5_arrival_X1_timeOf
theorem dX5_arrival_0 : decode cX5_arrival 0 = .ok (.aload_n 0, 1) := by decide +kernel
theorem dX5_arrival_1 : decode cX5_arrival 1 = .ok (.iload_n 1, 1) := by decide +kernel
theorem dX5_arrival_2 : decode cX5_arrival 2 = .ok (.invokevirtual 63, 3) := by decide +kernel
theorem dX5_arrival_5 : decode cX5_arrival 5 = .ok (.aload_n 0, 1) := by decide +kernel
theorem dX5_arrival_6 : decode cX5_arrival 6 = .ok (.getfield 37, 3) := by decide +kernel
theorem dX5_arrival_9 : decode cX5_arrival 9 = .ok (.invokevirtual 123, 3) := by decide +kernel
theorem dX5_arrival_12 : decode cX5_arrival 12 = .ok (.aload_n 0, 1) := by decide +kernel
theorem dX5_arrival_13 : decode cX5_arrival 13 = .ok (.getfield 37, 3) := by decide +kernel
theorem dX5_arrival_16 : decode cX5_arrival 16 = .ok (.iload_n 1, 1) := by decide +kernel
theorem dX5_arrival_17 : decode cX5_arrival 17 = .ok (.invokevirtual 126, 3) := by decide +kernel
theorem dX5_arrival_20 : decode cX5_arrival 20 = .ok (.ireturn, 1) := by decide +kernel
set_option maxRecDepth 20000 in
theorem ggX5_gate_X5_requireLiteral : GoodIn wsX5_gate wsX5_requireLiteral := goodIn_ca (goodIn_r _ [8, 9, 10, 11, 12, 7, 13, 14, 15, 155, 156, 157, 158, 159, 160, 167, 168, 169, 170, 171, 172] (by decide +kernel) (by decide +kernel)) (goodIn_sub (fun _ h => List.mem_cons_of_mem _ (List.mem_append_right _ h)) (by decide +kernel))
set_option maxRecDepth 20000 in
theorem gX5_gate_X5_requireLiteral : GoodIn wsX5_gate (wsV RX5 63 RX5 yX5_requireLiteral wsX5_requireLiteral) := goodIn_app (goodIn_of _ (by decide +kernel)) ggX5_gate_X5_requireLiteral
set_option maxRecDepth 20000 in
theorem ggX5_gate_X5_requireIndex : GoodIn wsX5_gate wsX5_requireIndex := goodIn_ca (goodIn_r _ [13, 14, 15] (by decide +kernel) (by decide +kernel)) (goodIn_sub (fun _ h => List.mem_cons_of_mem _ (List.mem_append_right _ h)) (by decide +kernel))
set_option maxRecDepth 20000 in
theorem gX5_gate_X5_requireIndex : GoodIn wsX5_gate (va_wsS RX5 93 yX5_requireIndex wsX5_requireIndex) := goodIn_app (goodIn_of _ (by decide +kernel)) ggX5_gate_X5_requireIndex
set_option maxRecDepth 20000 in
theorem ggX5_gate_X1_settle : GoodIn wsX5_gate wsX1_settle := goodIn_r _ [20, 21, 22, 23, 24, 25, 26, 19, 27, 28, 29, 30, 31, 32, 33, 34, 35, 36, 37, 38, 39, 40, 41, 42, 43, 44, 45, 46, 47, 48, 49, 50, 51, 52, 53, 54, 55, 56, 57, 58, 59, 60, 61, 62, 63, 64, 65, 66, 67, 68, 69, 70, 71, 72, 73, 74, 75, 76, 77, 78, 79, 80, 81, 82, 83, 84, 85, 86, 87, 88, 89, 90, 91, 92, 93, 94, 95, 96, 97, 98, 99, 100, 101, 102, 103, 104, 105, 106, 107, 108, 109, 110, 111, 112, 113, 114, 115, 116, 117, 118, 119, 120, 121, 122, 123, 124, 125, 126, 127, 128, 129, 130, 131, 132, 133, 173, 174, 175, 176, 177, 178, 167, 168, 169, 170, 171, 172, 179, 180, 181, 182, 183, 161, 162, 163, 164, 165, 166] (by decide +kernel) (by decide +kernel)
set_option maxRecDepth 20000 in
theorem gX5_gate_X1_settle : GoodIn wsX5_gate (wsV RX5 123 RX1 yX1_settle wsX1_settle) := goodIn_app (goodIn_of _ (by decide +kernel)) ggX5_gate_X1_settle
set_option maxRecDepth 20000 in
theorem ggX5_gate_X1_hasGate : GoodIn wsX5_gate wsX1_hasGate := goodIn_r _ [137, 22, 138, 139, 140, 19, 141, 28, 29, 142, 143, 144, 36, 145, 146, 34, 35, 37, 38, 173, 174, 175, 176, 177, 178, 167, 168, 169, 170, 171, 172] (by decide +kernel) (by decide +kernel)
set_option maxRecDepth 20000 in
theorem gX5_gate_X1_hasGate : GoodIn wsX5_gate (wsV RX5 129 RX1 yX1_hasGate wsX1_hasGate) := goodIn_app (goodIn_of _ (by decide +kernel)) ggX5_gate_X1_hasGate
set_option maxRecDepth 20000 in
theorem ggX5_gate_X1_cellOf : GoodIn wsX5_gate wsX1_cellOf := goodIn_r _ [150, 28, 173, 174, 175, 176, 177, 178] (by decide +kernel) (by decide +kernel)
set_option maxRecDepth 20000 in
theorem gX5_gate_X1_cellOf : GoodIn wsX5_gate (wsV RX5 133 RX1 yX1_cellOf wsX1_cellOf) := goodIn_app (goodIn_of _ (by decide +kernel)) ggX5_gate_X1_cellOf
set_option maxRecDepth 20000 in
theorem ggX5_gate_X1_pinLiteral : GoodIn wsX5_gate wsX1_pinLiteral := goodIn_r _ [154, 28, 117, 118, 19, 119, 173, 174, 175, 176, 177, 178] (by decide +kernel) (by decide +kernel)
set_option maxRecDepth 20000 in
theorem gX5_gate_X1_pinLiteral : GoodIn wsX5_gate (wsV RX5 136 RX1 yX1_pinLiteral wsX1_pinLiteral) := goodIn_app (goodIn_of _ (by decide +kernel)) ggX5_gate_X1_pinLiteral
theorem dX5_gate_0 : decode cX5_gate 0 = .ok (.aload_n 0, 1) := by decide +kernel
theorem dX5_gate_1 : decode cX5_gate 1 = .ok (.iload_n 1, 1) := by decide +kernel
theorem dX5_gate_2 : decode cX5_gate 2 = .ok (.invokevirtual 63, 3) := by decide +kernel
theorem dX5_gate_5 : decode cX5_gate 5 = .ok (.iload_n 2, 1) := by decide +kernel
theorem dX5_gate_6 : decode cX5_gate 6 = .ok (.iconst 4, 1) := by decide +kernel
theorem dX5_gate_7 : decode cX5_gate 7 = .ok (.invokestatic 93, 3) := by decide +kernel
theorem dX5_gate_10 : decode cX5_gate 10 = .ok (.aload_n 0, 1) := by decide +kernel
theorem dX5_gate_11 : decode cX5_gate 11 = .ok (.getfield 37, 3) := by decide +kernel
theorem dX5_gate_14 : decode cX5_gate 14 = .ok (.invokevirtual 123, 3) := by decide +kernel
theorem dX5_gate_17 : decode cX5_gate 17 = .ok (.aload_n 0, 1) := by decide +kernel
theorem dX5_gate_18 : decode cX5_gate 18 = .ok (.getfield 37, 3) := by decide +kernel
theorem dX5_gate_21 : decode cX5_gate 21 = .ok (.iload_n 1, 1) := by decide +kernel
theorem dX5_gate_22 : decode cX5_gate 22 = .ok (.invokevirtual 129, 3) := by decide +kernel
theorem dX5_gate_25 : decode cX5_gate 25 = .ok (.ifCond .ne 5, 3) := by decide +kernel
theorem dX5_gate_28 : decode cX5_gate 28 = .ok (.iconst (-1), 1) := by decide +kernel
theorem dX5_gate_29 : decode cX5_gate 29 = .ok (.ireturn, 1) := by decide +kernel
theorem dX5_gate_30 : decode cX5_gate 30 = .ok (.aload_n 0, 1) := by decide +kernel
theorem dX5_gate_31 : decode cX5_gate 31 = .ok (.getfield 37, 3) := by decide +kernel
theorem dX5_gate_34 : decode cX5_gate 34 = .ok (.iload_n 1, 1) := by decide +kernel
theorem dX5_gate_35 : decode cX5_gate 35 = .ok (.invokevirtual 133, 3) := by decide +kernel
theorem dX5_gate_38 : decode cX5_gate 38 = .ok (.istore_n 3, 1) := by decide +kernel
theorem dX5_gate_39 : decode cX5_gate 39 = .ok (.iload_n 2, 1) := by decide +kernel
theorem dX5_gate_40 : decode cX5_gate 40 = .ok (.ifCond .ne 5, 3) := by decide +kernel
theorem dX5_gate_43 : decode cX5_gate 43 = .ok (.iload_n 3, 1) := by decide +kernel
theorem dX5_gate_44 : decode cX5_gate 44 = .ok (.ireturn, 1) := by decide +kernel
theorem dX5_gate_45 : decode cX5_gate 45 = .ok (.iload_n 2, 1) := by decide +kernel
theorem dX5_gate_46 : decode cX5_gate 46 = .ok (.aload_n 0, 1) := by decide +kernel
theorem dX5_gate_47 : decode cX5_gate 47 = .ok (.getfield 28, 3) := by decide +kernel
theorem dX5_gate_50 : decode cX5_gate 50 = .ok (.getfield 97, 3) := by decide +kernel
theorem dX5_gate_53 : decode cX5_gate 53 = .ok (.iload_n 3, 1) := by decide +kernel
theorem dX5_gate_54 : decode cX5_gate 54 = .ok (.iaload, 1) := by decide +kernel
theorem dX5_gate_55 : decode cX5_gate 55 = .ok (.if_icmp .gt 17, 3) := by decide +kernel
theorem dX5_gate_58 : decode cX5_gate 58 = .ok (.aload_n 0, 1) := by decide +kernel
theorem dX5_gate_59 : decode cX5_gate 59 = .ok (.getfield 37, 3) := by decide +kernel
theorem dX5_gate_62 : decode cX5_gate 62 = .ok (.iload_n 1, 1) := by decide +kernel
theorem dX5_gate_63 : decode cX5_gate 63 = .ok (.iload_n 2, 1) := by decide +kernel
theorem dX5_gate_64 : decode cX5_gate 64 = .ok (.iconst 1, 1) := by decide +kernel
theorem dX5_gate_65 : decode cX5_gate 65 = .ok (.isub, 1) := by decide +kernel
theorem dX5_gate_66 : decode cX5_gate 66 = .ok (.invokevirtual 136, 3) := by decide +kernel
theorem dX5_gate_69 : decode cX5_gate 69 = .ok (.goto 4, 3) := by decide +kernel
theorem dX5_gate_72 : decode cX5_gate 72 = .ok (.iconst (-1), 1) := by decide +kernel
theorem dX5_gate_73 : decode cX5_gate 73 = .ok (.ireturn, 1) := by decide +kernel
set_option maxRecDepth 20000 in
theorem ggX5_run_X1_settle : GoodIn wsX5_run wsX1_settle := goodIn_r _ [6, 7, 8, 9, 10, 11, 12, 5, 13, 14, 15, 16, 17, 18, 19, 20, 21, 22, 23, 24, 25, 26, 27, 28, 29, 30, 31, 32, 33, 34, 35, 36, 37, 38, 39, 40, 41, 42, 43, 44, 45, 46, 47, 48, 49, 50, 51, 52, 53, 54, 55, 56, 57, 58, 59, 60, 61, 62, 63, 64, 65, 66, 67, 68, 69, 70, 71, 72, 73, 74, 75, 76, 77, 78, 79, 80, 81, 82, 83, 84, 85, 86, 87, 88, 89, 90, 91, 92, 93, 94, 95, 96, 97, 98, 99, 100, 101, 102, 103, 104, 105, 106, 107, 108, 109, 110, 111, 112, 113, 114, 115, 116, 117, 118, 119, 179, 180, 181, 182, 183, 184, 185, 186, 187, 188, 189, 190, 191, 192, 193, 194, 195, 196, 197, 198, 199, 200, 201] (by decide +kernel) (by decide +kernel)
set_option maxRecDepth 20000 in
theorem gX5_run_X1_settle : GoodIn wsX5_run (wsV RX5 123 RX1 yX1_settle wsX1_settle) := goodIn_app (goodIn_of _ (by decide +kernel)) ggX5_run_X1_settle
set_option maxRecDepth 20000 in
theorem ggX5_run_X5_firstOutputNotArriving : GoodIn wsX5_run wsX5_firstOutputNotArriving := goodIn_r _ [124, 125, 1, 126, 127, 128, 129, 5, 130, 14, 15, 173, 174, 175, 176, 177, 178, 179, 180, 181, 182, 183, 184] (by decide +kernel) (by decide +kernel)
set_option maxRecDepth 20000 in
theorem gX5_run_X5_firstOutputNotArriving : GoodIn wsX5_run (wsV RX5 139 RX5 yX5_firstOutputNotArriving wsX5_firstOutputNotArriving) := goodIn_app (goodIn_of _ (by decide +kernel)) ggX5_run_X5_firstOutputNotArriving
set_option maxRecDepth 20000 in
theorem ggX5_run_X5_wantedLiterals : GoodIn wsX5_run wsX5_wantedLiterals := goodIn_r _ [134, 125, 126, 1, 120, 121, 122, 123, 124, 127, 128, 129, 5, 130, 14, 15, 135, 136, 137, 138, 8, 9, 139, 140, 141, 142, 143, 144, 145, 146, 147, 148, 149, 150, 22, 151, 152, 20, 21, 23, 24, 153, 154, 155, 156, 157, 46, 48, 158, 159, 160, 161, 162, 163, 164, 165, 103, 104, 105, 173, 174, 175, 176, 177, 178, 179, 180, 181, 182, 183, 184, 185, 186, 187, 188, 189, 190, 196, 197, 198, 199, 200, 201] (by decide +kernel) (by decide +kernel)
set_option maxRecDepth 20000 in
theorem gX5_run_X5_wantedLiterals : GoodIn wsX5_run (wsV RX5 142 RX5 yX5_wantedLiterals wsX5_wantedLiterals) := goodIn_app (goodIn_of _ (by decide +kernel)) ggX5_run_X5_wantedLiterals
set_option maxRecDepth 20000 in
theorem ggX5_run_J13_bitCount_95d88 : GoodIn wsX5_run wsJ13_bitCount_95d88 := goodIn_r _ [169, 170, 171, 172] (by decide +kernel) (by decide +kernel)
set_option maxRecDepth 20000 in
theorem gX5_run_J13_bitCount_95d88 : GoodIn wsX5_run (va_wsS RX5 146 yJ13_bitCount_95d88 wsJ13_bitCount_95d88) := goodIn_app (goodIn_of _ (by decide +kernel)) ggX5_run_J13_bitCount_95d88
theorem dX5_run_0 : decode cX5_run 0 = .ok (.aload_n 0, 1) := by decide +kernel
theorem dX5_run_1 : decode cX5_run 1 = .ok (.getfield 37, 3) := by decide +kernel
theorem dX5_run_4 : decode cX5_run 4 = .ok (.invokevirtual 123, 3) := by decide +kernel
theorem dX5_run_7 : decode cX5_run 7 = .ok (.aload_n 0, 1) := by decide +kernel
theorem dX5_run_8 : decode cX5_run 8 = .ok (.invokevirtual 139, 3) := by decide +kernel
theorem dX5_run_11 : decode cX5_run 11 = .ok (.istore_n 1, 1) := by decide +kernel
theorem dX5_run_12 : decode cX5_run 12 = .ok (.iload_n 1, 1) := by decide +kernel
theorem dX5_run_13 : decode cX5_run 13 = .ok (.iconst (-1), 1) := by decide +kernel
theorem dX5_run_14 : decode cX5_run 14 = .ok (.if_icmp .ne 13, 3) := by decide +kernel
theorem dX5_run_17 : decode cX5_run 17 = .ok (.aload_n 0, 1) := by decide +kernel
theorem dX5_run_18 : decode cX5_run 18 = .ok (.invokevirtual 142, 3) := by decide +kernel
theorem dX5_run_21 : decode cX5_run 21 = .ok (.invokestatic 146, 3) := by decide +kernel
theorem dX5_run_24 : decode cX5_run 24 = .ok (.goto 6, 3) := by decide +kernel
theorem dX5_run_27 : decode cX5_run 27 = .ok (.iconst (-1), 1) := by decide +kernel
theorem dX5_run_28 : decode cX5_run 28 = .ok (.iload_n 1, 1) := by decide +kernel
theorem dX5_run_29 : decode cX5_run 29 = .ok (.isub, 1) := by decide +kernel
theorem dX5_run_30 : decode cX5_run 30 = .ok (.ireturn, 1) := by decide +kernel
set_option maxRecDepth 20000 in
theorem ggX5_wanted_X1_settle : GoodIn wsX5_wanted wsX1_settle := goodIn_r _ [10, 11, 12, 13, 14, 15, 16, 9, 17, 18, 19, 20, 21, 22, 23, 24, 25, 26, 27, 28, 29, 30, 31, 32, 33, 34, 35, 36, 37, 38, 39, 40, 41, 42, 43, 44, 45, 46, 47, 48, 49, 50, 51, 52, 53, 54, 55, 56, 57, 58, 59, 60, 61, 62, 63, 64, 65, 66, 67, 68, 69, 70, 71, 72, 73, 74, 75, 76, 77, 78, 79, 80, 81, 82, 83, 84, 85, 86, 87, 88, 89, 90, 91, 92, 93, 94, 95, 96, 97, 98, 99, 100, 101, 102, 103, 104, 105, 106, 107, 108, 109, 110, 111, 112, 113, 114, 115, 116, 117, 118, 119, 120, 121, 122, 123, 182, 183, 184, 185, 186, 187, 176, 177, 178, 179, 180, 181, 188, 189, 190, 191, 192, 193, 194, 195, 196, 197, 198] (by decide +kernel) (by decide +kernel)
set_option maxRecDepth 20000 in
theorem gX5_wanted_X1_settle : GoodIn wsX5_wanted (wsV RX5 123 RX1 yX1_settle wsX1_settle) := goodIn_app (goodIn_of _ (by decide +kernel)) ggX5_wanted_X1_settle
set_option maxRecDepth 20000 in
theorem ggX5_wanted_X5_wantedLiterals : GoodIn wsX5_wanted wsX5_wantedLiterals := goodIn_r _ [128, 129, 130, 3, 131, 132, 133, 127, 134, 135, 136, 137, 9, 138, 18, 19, 139, 140, 141, 142, 12, 13, 143, 144, 145, 146, 147, 148, 149, 150, 151, 152, 153, 154, 26, 155, 156, 24, 25, 27, 28, 157, 158, 159, 160, 161, 50, 52, 162, 163, 164, 165, 166, 167, 168, 169, 107, 108, 109, 170, 171, 172, 173, 174, 175, 182, 183, 184, 185, 186, 187, 176, 177, 178, 179, 180, 181, 193, 194, 195, 196, 197, 198] (by decide +kernel) (by decide +kernel)
set_option maxRecDepth 20000 in
theorem gX5_wanted_X5_wantedLiterals : GoodIn wsX5_wanted (wsV RX5 142 RX5 yX5_wantedLiterals wsX5_wantedLiterals) := goodIn_app (goodIn_of _ (by decide +kernel)) ggX5_wanted_X5_wantedLiterals
theorem dX5_wanted_0 : decode cX5_wanted 0 = .ok (.iload_n 1, 1) := by decide +kernel
theorem dX5_wanted_1 : decode cX5_wanted 1 = .ok (.ifCond .ge 11, 3) := by decide +kernel
theorem dX5_wanted_4 : decode cX5_wanted 4 = .ok (.new 152, 3) := by decide +kernel
theorem dX5_wanted_7 : decode cX5_wanted 7 = .ok (.dup, 1) := by decide +kernel
theorem dX5_wanted_8 : decode cX5_wanted 8 = .ok (.invokespecial 154, 3) := by decide +kernel
theorem dX5_wanted_11 : decode cX5_wanted 11 = .ok (.athrow, 1) := by decide +kernel
theorem dX5_wanted_12 : decode cX5_wanted 12 = .ok (.aload_n 0, 1) := by decide +kernel
theorem dX5_wanted_13 : decode cX5_wanted 13 = .ok (.getfield 37, 3) := by decide +kernel
theorem dX5_wanted_16 : decode cX5_wanted 16 = .ok (.invokevirtual 123, 3) := by decide +kernel
theorem dX5_wanted_19 : decode cX5_wanted 19 = .ok (.aload_n 0, 1) := by decide +kernel
theorem dX5_wanted_20 : decode cX5_wanted 20 = .ok (.invokevirtual 142, 3) := by decide +kernel
theorem dX5_wanted_23 : decode cX5_wanted 23 = .ok (.lstore_n 2, 1) := by decide +kernel
theorem dX5_wanted_24 : decode cX5_wanted 24 = .ok (.iconst 0, 1) := by decide +kernel
theorem dX5_wanted_25 : decode cX5_wanted 25 = .ok (.istore 4, 2) := by decide +kernel
theorem dX5_wanted_27 : decode cX5_wanted 27 = .ok (.iconst 0, 1) := by decide +kernel
theorem dX5_wanted_28 : decode cX5_wanted 28 = .ok (.istore 5, 2) := by decide +kernel
theorem dX5_wanted_30 : decode cX5_wanted 30 = .ok (.iload 5, 2) := by decide +kernel
theorem dX5_wanted_32 : decode cX5_wanted 32 = .ok (.iconst 2, 1) := by decide +kernel
theorem dX5_wanted_33 : decode cX5_wanted 33 = .ok (.aload_n 0, 1) := by decide +kernel
theorem dX5_wanted_34 : decode cX5_wanted 34 = .ok (.getfield 10, 3) := by decide +kernel
theorem dX5_wanted_37 : decode cX5_wanted 37 = .ok (.getfield 66, 3) := by decide +kernel
theorem dX5_wanted_40 : decode cX5_wanted 40 = .ok (.imul, 1) := by decide +kernel
theorem dX5_wanted_41 : decode cX5_wanted 41 = .ok (.if_icmp .ge 32, 3) := by decide +kernel
theorem dX5_wanted_44 : decode cX5_wanted 44 = .ok (.lload_n 2, 1) := by decide +kernel
theorem dX5_wanted_45 : decode cX5_wanted 45 = .ok (.iload 5, 2) := by decide +kernel
theorem dX5_wanted_47 : decode cX5_wanted 47 = .ok (.lushr, 1) := by decide +kernel
theorem dX5_wanted_48 : decode cX5_wanted 48 = .ok (.lconst 1, 1) := by decide +kernel
theorem dX5_wanted_49 : decode cX5_wanted 49 = .ok (.land, 1) := by decide +kernel
theorem dX5_wanted_50 : decode cX5_wanted 50 = .ok (.lconst 1, 1) := by decide +kernel
theorem dX5_wanted_51 : decode cX5_wanted 51 = .ok (.lcmp, 1) := by decide +kernel
theorem dX5_wanted_52 : decode cX5_wanted 52 = .ok (.ifCond .ne 15, 3) := by decide +kernel
theorem dX5_wanted_55 : decode cX5_wanted 55 = .ok (.iload 4, 2) := by decide +kernel
theorem dX5_wanted_57 : decode cX5_wanted 57 = .ok (.iload_n 1, 1) := by decide +kernel
theorem dX5_wanted_58 : decode cX5_wanted 58 = .ok (.if_icmp .ne 6, 3) := by decide +kernel
theorem dX5_wanted_61 : decode cX5_wanted 61 = .ok (.iload 5, 2) := by decide +kernel
theorem dX5_wanted_63 : decode cX5_wanted 63 = .ok (.ireturn, 1) := by decide +kernel
theorem dX5_wanted_64 : decode cX5_wanted 64 = .ok (.iinc 4 1, 3) := by decide +kernel
theorem dX5_wanted_67 : decode cX5_wanted 67 = .ok (.iinc 5 1, 3) := by decide +kernel
theorem dX5_wanted_70 : decode cX5_wanted 70 = .ok (.goto (-40), 3) := by decide +kernel
theorem dX5_wanted_73 : decode cX5_wanted 73 = .ok (.iconst (-1), 1) := by decide +kernel
theorem dX5_wanted_74 : decode cX5_wanted 74 = .ok (.ireturn, 1) := by decide +kernel
set_option maxRecDepth 20000 in
theorem ggX5_area_X1_settle : GoodIn wsX5_area wsX1_settle := goodIn_r _ [10, 11, 12, 13, 14, 15, 16, 9, 17, 18, 19, 20, 21, 22, 23, 24, 25, 26, 27, 28, 29, 30, 31, 32, 33, 34, 35, 36, 37, 38, 39, 40, 41, 42, 43, 44, 45, 46, 47, 48, 49, 50, 51, 52, 53, 54, 55, 56, 57, 58, 59, 60, 61, 62, 63, 64, 65, 66, 67, 68, 69, 70, 71, 72, 73, 74, 75, 76, 77, 78, 79, 80, 81, 82, 83, 84, 85, 86, 87, 88, 89, 90, 91, 92, 93, 94, 95, 96, 97, 98, 99, 100, 101, 102, 103, 104, 105, 106, 107, 108, 109, 110, 111, 112, 113, 114, 115, 116, 117, 118, 119, 120, 121, 122, 123, 189, 190, 191, 192, 193, 194, 177, 178, 179, 180, 181, 182, 195, 196, 197, 198, 199, 183, 184, 185, 186, 187, 188] (by decide +kernel) (by decide +kernel)
set_option maxRecDepth 20000 in
theorem gX5_area_X1_settle : GoodIn wsX5_area (wsV RX5 123 RX1 yX1_settle wsX1_settle) := goodIn_app (goodIn_of _ (by decide +kernel)) ggX5_area_X1_settle
set_option maxRecDepth 20000 in
theorem ggX5_area_X5_wantedLiterals : GoodIn wsX5_area wsX5_wantedLiterals := goodIn_r _ [128, 129, 130, 1, 131, 132, 133, 127, 134, 135, 136, 137, 9, 138, 18, 19, 139, 140, 141, 142, 12, 13, 143, 144, 145, 146, 147, 148, 149, 150, 151, 152, 153, 154, 26, 155, 156, 24, 25, 27, 28, 157, 158, 159, 160, 161, 50, 52, 162, 163, 164, 165, 166, 167, 168, 169, 107, 108, 109, 171, 172, 173, 174, 175, 176, 189, 190, 191, 192, 193, 194, 177, 178, 179, 180, 181, 182, 183, 184, 185, 186, 187, 188] (by decide +kernel) (by decide +kernel)
set_option maxRecDepth 20000 in
theorem gX5_area_X5_wantedLiterals : GoodIn wsX5_area (wsV RX5 142 RX5 yX5_wantedLiterals wsX5_wantedLiterals) := goodIn_app (goodIn_of _ (by decide +kernel)) ggX5_area_X5_wantedLiterals
set_option maxRecDepth 20000 in
theorem ggX5_area_X1_cellOf : GoodIn wsX5_area wsX1_cellOf := goodIn_r _ [165, 18, 189, 190, 191, 192, 193, 194] (by decide +kernel) (by decide +kernel)
set_option maxRecDepth 20000 in
theorem gX5_area_X1_cellOf : GoodIn wsX5_area (wsV RX5 133 RX1 yX1_cellOf wsX1_cellOf) := goodIn_app (goodIn_of _ (by decide +kernel)) ggX5_area_X1_cellOf
theorem dX5_area_0 : decode cX5_area 0 = .ok (.aload_n 0, 1) := by decide +kernel
theorem dX5_area_1 : decode cX5_area 1 = .ok (.getfield 37, 3) := by decide +kernel
theorem dX5_area_4 : decode cX5_area 4 = .ok (.invokevirtual 123, 3) := by decide +kernel
theorem dX5_area_7 : decode cX5_area 7 = .ok (.aload_n 0, 1) := by decide +kernel
theorem dX5_area_8 : decode cX5_area 8 = .ok (.invokevirtual 142, 3) := by decide +kernel
theorem dX5_area_11 : decode cX5_area 11 = .ok (.lstore_n 1, 1) := by decide +kernel
theorem dX5_area_12 : decode cX5_area 12 = .ok (.iconst 0, 1) := by decide +kernel
theorem dX5_area_13 : decode cX5_area 13 = .ok (.istore_n 3, 1) := by decide +kernel
theorem dX5_area_14 : decode cX5_area 14 = .ok (.iconst 0, 1) := by decide +kernel
theorem dX5_area_15 : decode cX5_area 15 = .ok (.istore 4, 2) := by decide +kernel
theorem dX5_area_17 : decode cX5_area 17 = .ok (.iload 4, 2) := by decide +kernel
theorem dX5_area_19 : decode cX5_area 19 = .ok (.iconst 2, 1) := by decide +kernel
theorem dX5_area_20 : decode cX5_area 20 = .ok (.aload_n 0, 1) := by decide +kernel
theorem dX5_area_21 : decode cX5_area 21 = .ok (.getfield 10, 3) := by decide +kernel
theorem dX5_area_24 : decode cX5_area 24 = .ok (.getfield 66, 3) := by decide +kernel
theorem dX5_area_27 : decode cX5_area 27 = .ok (.imul, 1) := by decide +kernel
theorem dX5_area_28 : decode cX5_area 28 = .ok (.if_icmp .ge 40, 3) := by decide +kernel
theorem dX5_area_31 : decode cX5_area 31 = .ok (.lload_n 1, 1) := by decide +kernel
theorem dX5_area_32 : decode cX5_area 32 = .ok (.iload 4, 2) := by decide +kernel
theorem dX5_area_34 : decode cX5_area 34 = .ok (.lushr, 1) := by decide +kernel
theorem dX5_area_35 : decode cX5_area 35 = .ok (.lconst 1, 1) := by decide +kernel
theorem dX5_area_36 : decode cX5_area 36 = .ok (.land, 1) := by decide +kernel
theorem dX5_area_37 : decode cX5_area 37 = .ok (.lconst 1, 1) := by decide +kernel
theorem dX5_area_38 : decode cX5_area 38 = .ok (.lcmp, 1) := by decide +kernel
theorem dX5_area_39 : decode cX5_area 39 = .ok (.ifCond .ne 23, 3) := by decide +kernel
theorem dX5_area_42 : decode cX5_area 42 = .ok (.iload_n 3, 1) := by decide +kernel
theorem dX5_area_43 : decode cX5_area 43 = .ok (.aload_n 0, 1) := by decide +kernel
theorem dX5_area_44 : decode cX5_area 44 = .ok (.getfield 28, 3) := by decide +kernel
theorem dX5_area_47 : decode cX5_area 47 = .ok (.getfield 155, 3) := by decide +kernel
theorem dX5_area_50 : decode cX5_area 50 = .ok (.aload_n 0, 1) := by decide +kernel
theorem dX5_area_51 : decode cX5_area 51 = .ok (.getfield 37, 3) := by decide +kernel
theorem dX5_area_54 : decode cX5_area 54 = .ok (.iload 4, 2) := by decide +kernel
theorem dX5_area_56 : decode cX5_area 56 = .ok (.invokevirtual 133, 3) := by decide +kernel
theorem dX5_area_59 : decode cX5_area 59 = .ok (.iaload, 1) := by decide +kernel
theorem dX5_area_60 : decode cX5_area 60 = .ok (.iadd, 1) := by decide +kernel
theorem dX5_area_61 : decode cX5_area 61 = .ok (.istore_n 3, 1) := by decide +kernel
theorem dX5_area_62 : decode cX5_area 62 = .ok (.iinc 4 1, 3) := by decide +kernel
theorem dX5_area_65 : decode cX5_area 65 = .ok (.goto (-48), 3) := by decide +kernel
theorem dX5_area_68 : decode cX5_area 68 = .ok (.iload_n 3, 1) := by decide +kernel
theorem dX5_area_69 : decode cX5_area 69 = .ok (.ireturn, 1) := by decide +kernel
set_option maxRecDepth 20000 in
theorem ggX5_worst_X1_settle : GoodIn wsX5_worst wsX1_settle := goodIn_r _ [12, 13, 14, 15, 16, 17, 18, 11, 19, 20, 21, 22, 23, 24, 25, 26, 27, 28, 29, 30, 31, 32, 33, 34, 35, 36, 37, 38, 39, 40, 41, 42, 43, 44, 45, 46, 47, 48, 49, 50, 51, 52, 53, 54, 55, 56, 57, 58, 59, 60, 61, 62, 63, 64, 65, 66, 67, 68, 69, 70, 71, 72, 73, 74, 75, 76, 77, 78, 79, 80, 81, 82, 83, 84, 85, 86, 87, 5, 6, 7, 88, 89, 90, 91, 92, 93, 94, 95, 96, 97, 98, 99, 100, 101, 102, 103, 104, 105, 106, 107, 108, 109, 110, 111, 112, 113, 114, 115, 116, 117, 118, 119, 120, 121, 122, 139, 140, 141, 142, 143, 144, 145, 146, 147, 148, 149, 150, 151, 152, 153, 154, 155, 156, 157, 158, 159, 160, 161] (by decide +kernel) (by decide +kernel)
set_option maxRecDepth 20000 in
theorem gX5_worst_X1_settle : GoodIn wsX5_worst (wsV RX5 123 RX1 yX1_settle wsX1_settle) := goodIn_app (goodIn_of _ (by decide +kernel)) ggX5_worst_X1_settle
set_option maxRecDepth 20000 in
theorem ggX5_worst_X5_firstOutputNotArriving : GoodIn wsX5_worst wsX5_firstOutputNotArriving := goodIn_r _ [127, 2, 1, 3, 128, 129, 130, 11, 131, 20, 21, 133, 134, 135, 136, 137, 138, 139, 140, 141, 142, 143, 144] (by decide +kernel) (by decide +kernel)
set_option maxRecDepth 20000 in
theorem gX5_worst_X5_firstOutputNotArriving : GoodIn wsX5_worst (wsV RX5 139 RX5 yX5_firstOutputNotArriving wsX5_firstOutputNotArriving) := goodIn_app (goodIn_of _ (by decide +kernel)) ggX5_worst_X5_firstOutputNotArriving
set_option maxRecDepth 20000 in
theorem ggX5_worst_X1_timeOf : GoodIn wsX5_worst wsX1_timeOf := goodIn_r _ [100, 20, 21, 139, 140, 141, 142, 143, 144] (by decide +kernel) (by decide +kernel)
set_option maxRecDepth 20000 in
theorem gX5_worst_X1_timeOf : GoodIn wsX5_worst (wsV RX5 126 RX1 yX1_timeOf wsX1_timeOf) := goodIn_app (goodIn_of _ (by decide +kernel)) ggX5_worst_X1_timeOf
theorem dX5_worst_0 : decode cX5_worst 0 = .ok (.aload_n 0, 1) := by decide +kernel
theorem dX5_worst_1 : decode cX5_worst 1 = .ok (.getfield 37, 3) := by decide +kernel
theorem dX5_worst_4 : decode cX5_worst 4 = .ok (.invokevirtual 123, 3) := by decide +kernel
theorem dX5_worst_7 : decode cX5_worst 7 = .ok (.aload_n 0, 1) := by decide +kernel
theorem dX5_worst_8 : decode cX5_worst 8 = .ok (.invokevirtual 139, 3) := by decide +kernel
theorem dX5_worst_11 : decode cX5_worst 11 = .ok (.iconst (-1), 1) := by decide +kernel
theorem dX5_worst_12 : decode cX5_worst 12 = .ok (.if_icmp .eq 5, 3) := by decide +kernel
theorem dX5_worst_15 : decode cX5_worst 15 = .ok (.iconst (-1), 1) := by decide +kernel
theorem dX5_worst_16 : decode cX5_worst 16 = .ok (.ireturn, 1) := by decide +kernel
theorem dX5_worst_17 : decode cX5_worst 17 = .ok (.iconst 0, 1) := by decide +kernel
theorem dX5_worst_18 : decode cX5_worst 18 = .ok (.istore_n 1, 1) := by decide +kernel
theorem dX5_worst_19 : decode cX5_worst 19 = .ok (.iconst 0, 1) := by decide +kernel
theorem dX5_worst_20 : decode cX5_worst 20 = .ok (.istore_n 2, 1) := by decide +kernel
theorem dX5_worst_21 : decode cX5_worst 21 = .ok (.iload_n 2, 1) := by decide +kernel
theorem dX5_worst_22 : decode cX5_worst 22 = .ok (.aload_n 0, 1) := by decide +kernel
theorem dX5_worst_23 : decode cX5_worst 23 = .ok (.getfield 45, 3) := by decide +kernel
theorem dX5_worst_26 : decode cX5_worst 26 = .ok (.if_icmp .ge 27, 3) := by decide +kernel
theorem dX5_worst_29 : decode cX5_worst 29 = .ok (.iload_n 1, 1) := by decide +kernel
theorem dX5_worst_30 : decode cX5_worst 30 = .ok (.aload_n 0, 1) := by decide +kernel
theorem dX5_worst_31 : decode cX5_worst 31 = .ok (.getfield 37, 3) := by decide +kernel
theorem dX5_worst_34 : decode cX5_worst 34 = .ok (.aload_n 0, 1) := by decide +kernel
theorem dX5_worst_35 : decode cX5_worst 35 = .ok (.getfield 41, 3) := by decide +kernel
theorem dX5_worst_38 : decode cX5_worst 38 = .ok (.iload_n 2, 1) := by decide +kernel
theorem dX5_worst_39 : decode cX5_worst 39 = .ok (.iaload, 1) := by decide +kernel
theorem dX5_worst_40 : decode cX5_worst 40 = .ok (.invokevirtual 126, 3) := by decide +kernel
theorem dX5_worst_43 : decode cX5_worst 43 = .ok (.invokestatic 158, 3) := by decide +kernel
theorem dX5_worst_46 : decode cX5_worst 46 = .ok (.istore_n 1, 1) := by decide +kernel
theorem dX5_worst_47 : decode cX5_worst 47 = .ok (.iinc 2 1, 3) := by decide +kernel
theorem dX5_worst_50 : decode cX5_worst 50 = .ok (.goto (-29), 3) := by decide +kernel
theorem dX5_worst_53 : decode cX5_worst 53 = .ok (.iload_n 1, 1) := by decide +kernel
theorem dX5_worst_54 : decode cX5_worst 54 = .ok (.ireturn, 1) := by decide +kernel
set_option maxRecDepth 20000 in
theorem ggX5_value_X5_requireLiteral : GoodIn wsX5_value wsX5_requireLiteral := goodIn_ca (goodIn_r _ [6, 1, 7, 8, 9, 5, 10, 11, 12, 32, 33, 34, 35, 36, 37, 38, 39, 40, 41, 42, 43] (by decide +kernel) (by decide +kernel)) (goodIn_sub (fun _ h => List.mem_cons_of_mem _ (List.mem_append_right _ h)) (by decide +kernel))
set_option maxRecDepth 20000 in
theorem gX5_value_X5_requireLiteral : GoodIn wsX5_value (wsV RX5 63 RX5 yX5_requireLiteral wsX5_requireLiteral) := goodIn_app (goodIn_of _ (by decide +kernel)) ggX5_value_X5_requireLiteral
set_option maxRecDepth 20000 in
theorem ggX5_value_X2_evaluate : GoodIn wsX5_value wsX2_evaluate := goodIn_r _ [17, 18, 19, 20, 21, 22, 16, 23, 24, 25, 26, 27, 28, 29, 30, 31, 38, 39, 40, 41, 42, 43] (by decide +kernel) (by decide +kernel)
set_option maxRecDepth 20000 in
theorem gX5_value_X2_evaluate : GoodIn wsX5_value (wsV RX5 163 RX2 yX2_evaluate wsX2_evaluate) := goodIn_app (goodIn_of _ (by decide +kernel)) ggX5_value_X2_evaluate
theorem dX5_value_0 : decode cX5_value 0 = .ok (.aload_n 0, 1) := by decide +kernel
theorem dX5_value_1 : decode cX5_value 1 = .ok (.iload_n 1, 1) := by decide +kernel
theorem dX5_value_2 : decode cX5_value 2 = .ok (.invokevirtual 63, 3) := by decide +kernel
theorem dX5_value_5 : decode cX5_value 5 = .ok (.aload_n 0, 1) := by decide +kernel
theorem dX5_value_6 : decode cX5_value 6 = .ok (.getfield 10, 3) := by decide +kernel
theorem dX5_value_9 : decode cX5_value 9 = .ok (.iload_n 1, 1) := by decide +kernel
theorem dX5_value_10 : decode cX5_value 10 = .ok (.iload_n 2, 1) := by decide +kernel
theorem dX5_value_11 : decode cX5_value 11 = .ok (.invokevirtual 163, 3) := by decide +kernel
theorem dX5_value_14 : decode cX5_value 14 = .ok (.ireturn, 1) := by decide +kernel
set_option maxRecDepth 20000 in
theorem ggX5_mapped_X5_requireLiteral : GoodIn wsX5_mapped wsX5_requireLiteral := goodIn_ca (goodIn_r _ [6, 7, 8, 9, 10, 5, 11, 12, 13, 170, 171, 172, 173, 174, 175, 176, 177, 178, 179, 180, 181] (by decide +kernel) (by decide +kernel)) (goodIn_sub (fun _ h => List.mem_cons_of_mem _ (List.mem_append_right _ h)) (by decide +kernel))
set_option maxRecDepth 20000 in
theorem gX5_mapped_X5_requireLiteral : GoodIn wsX5_mapped (wsV RX5 63 RX5 yX5_requireLiteral wsX5_requireLiteral) := goodIn_app (goodIn_of _ (by decide +kernel)) ggX5_mapped_X5_requireLiteral
set_option maxRecDepth 20000 in
theorem ggX5_mapped_X1_settle : GoodIn wsX5_mapped wsX1_settle := goodIn_r _ [18, 19, 20, 21, 22, 23, 24, 17, 25, 26, 27, 28, 29, 30, 31, 32, 33, 34, 35, 36, 37, 38, 39, 40, 41, 42, 43, 44, 45, 46, 47, 48, 49, 50, 51, 52, 53, 54, 55, 56, 57, 58, 59, 60, 61, 62, 63, 64, 65, 66, 67, 68, 69, 70, 71, 72, 73, 74, 75, 76, 77, 78, 79, 80, 81, 82, 83, 84, 85, 86, 87, 88, 89, 90, 91, 92, 93, 94, 95, 96, 97, 98, 99, 100, 101, 102, 103, 104, 105, 106, 107, 108, 109, 110, 111, 112, 113, 114, 115, 116, 117, 118, 119, 120, 121, 122, 123, 124, 125, 126, 127, 128, 129, 130, 131, 182, 183, 184, 185, 186, 187, 176, 177, 178, 179, 180, 181, 188, 189, 190, 191, 192, 193, 194, 195, 196, 197, 198] (by decide +kernel) (by decide +kernel)
set_option maxRecDepth 20000 in
theorem gX5_mapped_X1_settle : GoodIn wsX5_mapped (wsV RX5 123 RX1 yX1_settle wsX1_settle) := goodIn_app (goodIn_of _ (by decide +kernel)) ggX5_mapped_X1_settle
set_option maxRecDepth 20000 in
theorem ggX5_mapped_X1_isThere : GoodIn wsX5_mapped wsX1_isThere := goodIn_r _ [135, 26, 27, 182, 183, 184, 185, 186, 187] (by decide +kernel) (by decide +kernel)
set_option maxRecDepth 20000 in
theorem gX5_mapped_X1_isThere : GoodIn wsX5_mapped (wsV RX5 166 RX1 yX1_isThere wsX1_isThere) := goodIn_app (goodIn_of _ (by decide +kernel)) ggX5_mapped_X1_isThere
set_option maxRecDepth 20000 in
theorem ggX5_mapped_X1_evaluate : GoodIn wsX5_mapped wsX1_evaluate := goodIn_r _ [139, 140, 141, 142, 17, 143, 26, 144, 145, 146, 147, 20, 148, 133, 134, 135, 27, 149, 150, 151, 34, 152, 153, 32, 33, 35, 36, 154, 155, 156, 157, 58, 60, 69, 158, 159, 160, 161, 162, 163, 164, 165, 166, 167, 168, 169, 115, 116, 117, 182, 183, 184, 185, 186, 187, 176, 177, 178, 179, 180, 181, 193, 194, 195, 196, 197, 198] (by decide +kernel) (by decide +kernel)
set_option maxRecDepth 20000 in
theorem gX5_mapped_X1_evaluate : GoodIn wsX5_mapped (wsV RX5 169 RX1 yX1_evaluate wsX1_evaluate) := goodIn_app (goodIn_of _ (by decide +kernel)) ggX5_mapped_X1_evaluate
theorem dX5_mapped_0 : decode cX5_mapped 0 = .ok (.aload_n 0, 1) := by decide +kernel
theorem dX5_mapped_1 : decode cX5_mapped 1 = .ok (.iload_n 1, 1) := by decide +kernel
theorem dX5_mapped_2 : decode cX5_mapped 2 = .ok (.invokevirtual 63, 3) := by decide +kernel
theorem dX5_mapped_5 : decode cX5_mapped 5 = .ok (.aload_n 0, 1) := by decide +kernel
theorem dX5_mapped_6 : decode cX5_mapped 6 = .ok (.getfield 37, 3) := by decide +kernel
theorem dX5_mapped_9 : decode cX5_mapped 9 = .ok (.invokevirtual 123, 3) := by decide +kernel
theorem dX5_mapped_12 : decode cX5_mapped 12 = .ok (.aload_n 0, 1) := by decide +kernel
theorem dX5_mapped_13 : decode cX5_mapped 13 = .ok (.getfield 37, 3) := by decide +kernel
theorem dX5_mapped_16 : decode cX5_mapped 16 = .ok (.iload_n 1, 1) := by decide +kernel
theorem dX5_mapped_17 : decode cX5_mapped 17 = .ok (.invokevirtual 166, 3) := by decide +kernel
theorem dX5_mapped_20 : decode cX5_mapped 20 = .ok (.ifCond .eq 15, 3) := by decide +kernel
theorem dX5_mapped_23 : decode cX5_mapped 23 = .ok (.aload_n 0, 1) := by decide +kernel
theorem dX5_mapped_24 : decode cX5_mapped 24 = .ok (.getfield 37, 3) := by decide +kernel
theorem dX5_mapped_27 : decode cX5_mapped 27 = .ok (.iload_n 1, 1) := by decide +kernel
theorem dX5_mapped_28 : decode cX5_mapped 28 = .ok (.iload_n 2, 1) := by decide +kernel
theorem dX5_mapped_29 : decode cX5_mapped 29 = .ok (.invokevirtual 169, 3) := by decide +kernel
theorem dX5_mapped_32 : decode cX5_mapped 32 = .ok (.goto 4, 3) := by decide +kernel
theorem dX5_mapped_35 : decode cX5_mapped 35 = .ok (.iconst (-1), 1) := by decide +kernel
theorem dX5_mapped_36 : decode cX5_mapped 36 = .ok (.ireturn, 1) := by decide +kernel
theorem dX5_count_0 : decode cX5_count 0 = .ok (.iload_n 1, 1) := by decide +kernel
theorem dX5_count_1 : decode cX5_count 1 = .ok (.tableswitch 60 0 3 #[31, 39, 47, 52], 31) := by decide +kernel
theorem dX5_count_32 : decode cX5_count 32 = .ok (.aload_n 0, 1) := by decide +kernel
theorem dX5_count_33 : decode cX5_count 33 = .ok (.getfield 10, 3) := by decide +kernel
theorem dX5_count_36 : decode cX5_count 36 = .ok (.getfield 66, 3) := by decide +kernel
theorem dX5_count_39 : decode cX5_count 39 = .ok (.ireturn, 1) := by decide +kernel
theorem dX5_count_40 : decode cX5_count 40 = .ok (.aload_n 0, 1) := by decide +kernel
theorem dX5_count_41 : decode cX5_count 41 = .ok (.getfield 10, 3) := by decide +kernel
theorem dX5_count_44 : decode cX5_count 44 = .ok (.getfield 49, 3) := by decide +kernel
theorem dX5_count_47 : decode cX5_count 47 = .ok (.ireturn, 1) := by decide +kernel
theorem dX5_count_48 : decode cX5_count 48 = .ok (.aload_n 0, 1) := by decide +kernel
theorem dX5_count_49 : decode cX5_count 49 = .ok (.getfield 45, 3) := by decide +kernel
theorem dX5_count_52 : decode cX5_count 52 = .ok (.ireturn, 1) := by decide +kernel
theorem dX5_count_53 : decode cX5_count 53 = .ok (.aload_n 0, 1) := by decide +kernel
theorem dX5_count_54 : decode cX5_count 54 = .ok (.getfield 28, 3) := by decide +kernel
theorem dX5_count_57 : decode cX5_count 57 = .ok (.getfield 73, 3) := by decide +kernel
theorem dX5_count_60 : decode cX5_count 60 = .ok (.ireturn, 1) := by decide +kernel
theorem dX5_count_61 : decode cX5_count 61 = .ok (.new 152, 3) := by decide +kernel
theorem dX5_count_64 : decode cX5_count 64 = .ok (.dup, 1) := by decide +kernel
theorem dX5_count_65 : decode cX5_count 65 = .ok (.invokespecial 154, 3) := by decide +kernel
theorem dX5_count_68 : decode cX5_count 68 = .ok (.athrow, 1) := by decide +kernel
set_option maxRecDepth 20000 in
theorem ggX5_clear_X2_empty : GoodIn wsX5_clear wsX2_empty := goodIn_r _ [9, 10, 11, 30, 31, 32, 33, 34, 35] (by decide +kernel) (by decide +kernel)
set_option maxRecDepth 20000 in
theorem gX5_clear_X2_empty : GoodIn wsX5_clear (wsV RX5 170 RX2 yX2_empty wsX2_empty) := goodIn_app (goodIn_of _ (by decide +kernel)) ggX5_clear_X2_empty
set_option maxRecDepth 20000 in
theorem ggX5_clear_X3_empty : GoodIn wsX5_clear wsX3_empty := goodIn_r _ [16, 17, 36, 37, 38, 39, 40, 41] (by decide +kernel) (by decide +kernel)
set_option maxRecDepth 20000 in
theorem gX5_clear_X3_empty : GoodIn wsX5_clear (wsV RX5 173 RX3 yX3_empty wsX3_empty) := goodIn_app (goodIn_of _ (by decide +kernel)) ggX5_clear_X3_empty
set_option maxRecDepth 20000 in
theorem ggX5_clear_X1_forget : GoodIn wsX5_clear wsX1_forget := goodIn_r _ [22, 23, 42, 43, 44, 45, 46, 47] (by decide +kernel) (by decide +kernel)
set_option maxRecDepth 20000 in
theorem gX5_clear_X1_forget : GoodIn wsX5_clear (wsV RX5 86 RX1 yX1_forget wsX1_forget) := goodIn_app (goodIn_of _ (by decide +kernel)) ggX5_clear_X1_forget
theorem dX5_clear_0 : decode cX5_clear 0 = .ok (.aload_n 0, 1) := by decide +kernel
theorem dX5_clear_1 : decode cX5_clear 1 = .ok (.getfield 10, 3) := by decide +kernel
theorem dX5_clear_4 : decode cX5_clear 4 = .ok (.invokevirtual 170, 3) := by decide +kernel
theorem dX5_clear_7 : decode cX5_clear 7 = .ok (.aload_n 0, 1) := by decide +kernel
theorem dX5_clear_8 : decode cX5_clear 8 = .ok (.getfield 28, 3) := by decide +kernel
theorem dX5_clear_11 : decode cX5_clear 11 = .ok (.invokevirtual 173, 3) := by decide +kernel
theorem dX5_clear_14 : decode cX5_clear 14 = .ok (.aload_n 0, 1) := by decide +kernel
theorem dX5_clear_15 : decode cX5_clear 15 = .ok (.getfield 37, 3) := by decide +kernel
theorem dX5_clear_18 : decode cX5_clear 18 = .ok (.invokevirtual 86, 3) := by decide +kernel
theorem dX5_clear_21 : decode cX5_clear 21 = .ok (.aload_n 0, 1) := by decide +kernel
theorem dX5_clear_22 : decode cX5_clear 22 = .ok (.iconst 0, 1) := by decide +kernel
theorem dX5_clear_23 : decode cX5_clear 23 = .ok (.putfield 45, 3) := by decide +kernel
theorem dX5_clear_26 : decode cX5_clear 26 = .ok (.return_, 1) := by decide +kernel
set_option maxRecDepth 20000 in
theorem ggX5_firstOutputNotArriving_X1_isThere : GoodIn wsX5_firstOutputNotArriving wsX1_isThere := goodIn_r _ [8, 9, 10, 17, 18, 19, 20, 21, 22] (by decide +kernel) (by decide +kernel)
set_option maxRecDepth 20000 in
theorem gX5_firstOutputNotArriving_X1_isThere : GoodIn wsX5_firstOutputNotArriving (wsV RX5 166 RX1 yX1_isThere wsX1_isThere) := goodIn_app (goodIn_of _ (by decide +kernel)) ggX5_firstOutputNotArriving_X1_isThere
theorem dX5_firstOutputNotArriving_0 : decode cX5_firstOutputNotArriving 0 = .ok (.iconst 0, 1) := by decide +kernel
theorem dX5_firstOutputNotArriving_1 : decode cX5_firstOutputNotArriving 1 = .ok (.istore_n 1, 1) := by decide +kernel
theorem dX5_firstOutputNotArriving_2 : decode cX5_firstOutputNotArriving 2 = .ok (.iload_n 1, 1) := by decide +kernel
theorem dX5_firstOutputNotArriving_3 : decode cX5_firstOutputNotArriving 3 = .ok (.aload_n 0, 1) := by decide +kernel
theorem dX5_firstOutputNotArriving_4 : decode cX5_firstOutputNotArriving 4 = .ok (.getfield 45, 3) := by decide +kernel
theorem dX5_firstOutputNotArriving_7 : decode cX5_firstOutputNotArriving 7 = .ok (.if_icmp .ge 27, 3) := by decide +kernel
theorem dX5_firstOutputNotArriving_10 : decode cX5_firstOutputNotArriving 10 = .ok (.aload_n 0, 1) := by decide +kernel
theorem dX5_firstOutputNotArriving_11 : decode cX5_firstOutputNotArriving 11 = .ok (.getfield 37, 3) := by decide +kernel
theorem dX5_firstOutputNotArriving_14 : decode cX5_firstOutputNotArriving 14 = .ok (.aload_n 0, 1) := by decide +kernel
theorem dX5_firstOutputNotArriving_15 : decode cX5_firstOutputNotArriving 15 = .ok (.getfield 41, 3) := by decide +kernel
theorem dX5_firstOutputNotArriving_18 : decode cX5_firstOutputNotArriving 18 = .ok (.iload_n 1, 1) := by decide +kernel
theorem dX5_firstOutputNotArriving_19 : decode cX5_firstOutputNotArriving 19 = .ok (.iaload, 1) := by decide +kernel
theorem dX5_firstOutputNotArriving_20 : decode cX5_firstOutputNotArriving 20 = .ok (.invokevirtual 166, 3) := by decide +kernel
theorem dX5_firstOutputNotArriving_23 : decode cX5_firstOutputNotArriving 23 = .ok (.ifCond .ne 5, 3) := by decide +kernel
theorem dX5_firstOutputNotArriving_26 : decode cX5_firstOutputNotArriving 26 = .ok (.iload_n 1, 1) := by decide +kernel
theorem dX5_firstOutputNotArriving_27 : decode cX5_firstOutputNotArriving 27 = .ok (.ireturn, 1) := by decide +kernel
theorem dX5_firstOutputNotArriving_28 : decode cX5_firstOutputNotArriving 28 = .ok (.iinc 1 1, 3) := by decide +kernel
theorem dX5_firstOutputNotArriving_31 : decode cX5_firstOutputNotArriving 31 = .ok (.goto (-29), 3) := by decide +kernel
theorem dX5_firstOutputNotArriving_34 : decode cX5_firstOutputNotArriving 34 = .ok (.iconst (-1), 1) := by decide +kernel
theorem dX5_firstOutputNotArriving_35 : decode cX5_firstOutputNotArriving 35 = .ok (.ireturn, 1) := by decide +kernel
set_option maxRecDepth 20000 in
theorem ggX5_wantedLiterals_X5_firstOutputNotArriving : GoodIn wsX5_wantedLiterals wsX5_firstOutputNotArriving := goodIn_r _ [8, 1, 3, 2, 9, 10, 11, 12, 13, 14, 15, 59, 60, 61, 62, 63, 64, 65, 66, 67, 68, 69, 70] (by decide +kernel) (by decide +kernel)
set_option maxRecDepth 20000 in
theorem gX5_wantedLiterals_X5_firstOutputNotArriving : GoodIn wsX5_wantedLiterals (wsV RX5 139 RX5 yX5_firstOutputNotArriving wsX5_firstOutputNotArriving) := goodIn_app (goodIn_of _ (by decide +kernel)) ggX5_wantedLiterals_X5_firstOutputNotArriving
set_option maxRecDepth 20000 in
theorem ggX5_wantedLiterals_X1_wantedFor : GoodIn wsX5_wantedLiterals wsX1_wantedFor := goodIn_r _ [19, 20, 21, 22, 23, 24, 12, 25, 14, 26, 27, 28, 29, 30, 10, 11, 13, 15, 31, 32, 33, 34, 35, 36, 37, 38, 39, 40, 41, 42, 43, 44, 45, 46, 47, 48, 49, 50, 51, 52, 53, 54, 55, 56, 57, 58, 65, 66, 67, 68, 69, 70, 71, 72, 73, 74, 75, 76, 77, 78, 79, 80, 81, 82] (by decide +kernel) (by decide +kernel)
set_option maxRecDepth 20000 in
theorem gX5_wantedLiterals_X1_wantedFor : GoodIn wsX5_wantedLiterals (wsV RX5 174 RX1 yX1_wantedFor wsX1_wantedFor) := goodIn_app (goodIn_of _ (by decide +kernel)) ggX5_wantedLiterals_X1_wantedFor
theorem dX5_wantedLiterals_0 : decode cX5_wantedLiterals 0 = .ok (.aload_n 0, 1) := by decide +kernel
theorem dX5_wantedLiterals_1 : decode cX5_wantedLiterals 1 = .ok (.invokevirtual 139, 3) := by decide +kernel
theorem dX5_wantedLiterals_4 : decode cX5_wantedLiterals 4 = .ok (.iconst (-1), 1) := by decide +kernel
theorem dX5_wantedLiterals_5 : decode cX5_wantedLiterals 5 = .ok (.if_icmp .eq 5, 3) := by decide +kernel
theorem dX5_wantedLiterals_8 : decode cX5_wantedLiterals 8 = .ok (.lconst 0, 1) := by decide +kernel
theorem dX5_wantedLiterals_9 : decode cX5_wantedLiterals 9 = .ok (.lreturn, 1) := by decide +kernel
theorem dX5_wantedLiterals_10 : decode cX5_wantedLiterals 10 = .ok (.lconst 0, 1) := by decide +kernel
theorem dX5_wantedLiterals_11 : decode cX5_wantedLiterals 11 = .ok (.lstore_n 1, 1) := by decide +kernel
theorem dX5_wantedLiterals_12 : decode cX5_wantedLiterals 12 = .ok (.iconst 0, 1) := by decide +kernel
theorem dX5_wantedLiterals_13 : decode cX5_wantedLiterals 13 = .ok (.istore_n 3, 1) := by decide +kernel
theorem dX5_wantedLiterals_14 : decode cX5_wantedLiterals 14 = .ok (.iload_n 3, 1) := by decide +kernel
theorem dX5_wantedLiterals_15 : decode cX5_wantedLiterals 15 = .ok (.aload_n 0, 1) := by decide +kernel
theorem dX5_wantedLiterals_16 : decode cX5_wantedLiterals 16 = .ok (.getfield 45, 3) := by decide +kernel
theorem dX5_wantedLiterals_19 : decode cX5_wantedLiterals 19 = .ok (.if_icmp .ge 20, 3) := by decide +kernel
theorem dX5_wantedLiterals_22 : decode cX5_wantedLiterals 22 = .ok (.lload_n 1, 1) := by decide +kernel
theorem dX5_wantedLiterals_23 : decode cX5_wantedLiterals 23 = .ok (.lconst 1, 1) := by decide +kernel
theorem dX5_wantedLiterals_24 : decode cX5_wantedLiterals 24 = .ok (.aload_n 0, 1) := by decide +kernel
theorem dX5_wantedLiterals_25 : decode cX5_wantedLiterals 25 = .ok (.getfield 41, 3) := by decide +kernel
theorem dX5_wantedLiterals_28 : decode cX5_wantedLiterals 28 = .ok (.iload_n 3, 1) := by decide +kernel
theorem dX5_wantedLiterals_29 : decode cX5_wantedLiterals 29 = .ok (.iaload, 1) := by decide +kernel
theorem dX5_wantedLiterals_30 : decode cX5_wantedLiterals 30 = .ok (.lshl, 1) := by decide +kernel
theorem dX5_wantedLiterals_31 : decode cX5_wantedLiterals 31 = .ok (.lor, 1) := by decide +kernel
theorem dX5_wantedLiterals_32 : decode cX5_wantedLiterals 32 = .ok (.lstore_n 1, 1) := by decide +kernel
theorem dX5_wantedLiterals_33 : decode cX5_wantedLiterals 33 = .ok (.iinc 3 1, 3) := by decide +kernel
theorem dX5_wantedLiterals_36 : decode cX5_wantedLiterals 36 = .ok (.goto (-22), 3) := by decide +kernel
theorem dX5_wantedLiterals_39 : decode cX5_wantedLiterals 39 = .ok (.aload_n 0, 1) := by decide +kernel
theorem dX5_wantedLiterals_40 : decode cX5_wantedLiterals 40 = .ok (.getfield 37, 3) := by decide +kernel
theorem dX5_wantedLiterals_43 : decode cX5_wantedLiterals 43 = .ok (.lload_n 1, 1) := by decide +kernel
theorem dX5_wantedLiterals_44 : decode cX5_wantedLiterals 44 = .ok (.invokevirtual 174, 3) := by decide +kernel
theorem dX5_wantedLiterals_47 : decode cX5_wantedLiterals 47 = .ok (.lreturn, 1) := by decide +kernel
set_option maxRecDepth 20000 in
theorem ggX5_requireLiteral_X5_requireIndex : GoodIn wsX5_requireLiteral wsX5_requireIndex := goodIn_ca (goodIn_r _ [6, 7, 8] (by decide +kernel) (by decide +kernel)) (goodIn_sub (fun _ h => List.mem_cons_of_mem _ (List.mem_append_right _ h)) (by decide +kernel))
set_option maxRecDepth 20000 in
theorem gX5_requireLiteral_X5_requireIndex : GoodIn wsX5_requireLiteral (va_wsS RX5 93 yX5_requireIndex wsX5_requireIndex) := goodIn_app (goodIn_of _ (by decide +kernel)) ggX5_requireLiteral_X5_requireIndex
theorem dX5_requireLiteral_0 : decode cX5_requireLiteral 0 = .ok (.iload_n 1, 1) := by decide +kernel
theorem dX5_requireLiteral_1 : decode cX5_requireLiteral 1 = .ok (.iconst 2, 1) := by decide +kernel
theorem dX5_requireLiteral_2 : decode cX5_requireLiteral 2 = .ok (.aload_n 0, 1) := by decide +kernel
theorem dX5_requireLiteral_3 : decode cX5_requireLiteral 3 = .ok (.getfield 10, 3) := by decide +kernel
theorem dX5_requireLiteral_6 : decode cX5_requireLiteral 6 = .ok (.getfield 66, 3) := by decide +kernel
theorem dX5_requireLiteral_9 : decode cX5_requireLiteral 9 = .ok (.imul, 1) := by decide +kernel
theorem dX5_requireLiteral_10 : decode cX5_requireLiteral 10 = .ok (.invokestatic 93, 3) := by decide +kernel
theorem dX5_requireLiteral_13 : decode cX5_requireLiteral 13 = .ok (.return_, 1) := by decide +kernel
set_option maxRecDepth 20000 in
theorem ggX5_requireCutIndex_X5_requireIndex : GoodIn wsX5_requireCutIndex wsX5_requireIndex := goodIn_ca (goodIn_r _ [8, 1, 2] (by decide +kernel) (by decide +kernel)) (goodIn_sub (fun _ h => List.mem_cons_of_mem _ (List.mem_append_right _ h)) (by decide +kernel))
set_option maxRecDepth 20000 in
theorem gX5_requireCutIndex_X5_requireIndex : GoodIn wsX5_requireCutIndex (va_wsS RX5 93 yX5_requireIndex wsX5_requireIndex) := goodIn_app (goodIn_of _ (by decide +kernel)) ggX5_requireCutIndex_X5_requireIndex
theorem dX5_requireCutIndex_0 : decode cX5_requireCutIndex 0 = .ok (.iload_n 1, 1) := by decide +kernel
theorem dX5_requireCutIndex_1 : decode cX5_requireCutIndex 1 = .ok (.aload_n 0, 1) := by decide +kernel
theorem dX5_requireCutIndex_2 : decode cX5_requireCutIndex 2 = .ok (.getfield 10, 3) := by decide +kernel
theorem dX5_requireCutIndex_5 : decode cX5_requireCutIndex 5 = .ok (.getfield 66, 3) := by decide +kernel
theorem dX5_requireCutIndex_8 : decode cX5_requireCutIndex 8 = .ok (.invokestatic 93, 3) := by decide +kernel
theorem dX5_requireCutIndex_11 : decode cX5_requireCutIndex 11 = .ok (.iload_n 2, 1) := by decide +kernel
theorem dX5_requireCutIndex_12 : decode cX5_requireCutIndex 12 = .ok (.ifCond .ge 11, 3) := by decide +kernel
theorem dX5_requireCutIndex_15 : decode cX5_requireCutIndex 15 = .ok (.new 152, 3) := by decide +kernel
theorem dX5_requireCutIndex_18 : decode cX5_requireCutIndex 18 = .ok (.dup, 1) := by decide +kernel
theorem dX5_requireCutIndex_19 : decode cX5_requireCutIndex 19 = .ok (.invokespecial 154, 3) := by decide +kernel
theorem dX5_requireCutIndex_22 : decode cX5_requireCutIndex 22 = .ok (.athrow, 1) := by decide +kernel
theorem dX5_requireCutIndex_23 : decode cX5_requireCutIndex 23 = .ok (.return_, 1) := by decide +kernel
theorem dX5_requireIndex_0 : decode cX5_requireIndex 0 = .ok (.iload_n 0, 1) := by decide +kernel
theorem dX5_requireIndex_1 : decode cX5_requireIndex 1 = .ok (.ifCond .lt 8, 3) := by decide +kernel
theorem dX5_requireIndex_4 : decode cX5_requireIndex 4 = .ok (.iload_n 0, 1) := by decide +kernel
theorem dX5_requireIndex_5 : decode cX5_requireIndex 5 = .ok (.iload_n 1, 1) := by decide +kernel
theorem dX5_requireIndex_6 : decode cX5_requireIndex 6 = .ok (.if_icmp .lt 11, 3) := by decide +kernel
theorem dX5_requireIndex_9 : decode cX5_requireIndex 9 = .ok (.new 152, 3) := by decide +kernel
theorem dX5_requireIndex_12 : decode cX5_requireIndex 12 = .ok (.dup, 1) := by decide +kernel
theorem dX5_requireIndex_13 : decode cX5_requireIndex 13 = .ok (.invokespecial 154, 3) := by decide +kernel
theorem dX5_requireIndex_16 : decode cX5_requireIndex 16 = .ok (.athrow, 1) := by decide +kernel
theorem dX5_requireIndex_17 : decode cX5_requireIndex 17 = .ok (.return_, 1) := by decide +kernel
theorem dX5_requireRange_0 : decode cX5_requireRange 0 = .ok (.iload_n 0, 1) := by decide +kernel
theorem dX5_requireRange_1 : decode cX5_requireRange 1 = .ok (.iload_n 1, 1) := by decide +kernel
theorem dX5_requireRange_2 : decode cX5_requireRange 2 = .ok (.if_icmp .lt 8, 3) := by decide +kernel
theorem dX5_requireRange_5 : decode cX5_requireRange 5 = .ok (.iload_n 0, 1) := by decide +kernel
theorem dX5_requireRange_6 : decode cX5_requireRange 6 = .ok (.iload_n 2, 1) := by decide +kernel
theorem dX5_requireRange_7 : decode cX5_requireRange 7 = .ok (.if_icmp .le 11, 3) := by decide +kernel
theorem dX5_requireRange_10 : decode cX5_requireRange 10 = .ok (.new 178, 3) := by decide +kernel
theorem dX5_requireRange_13 : decode cX5_requireRange 13 = .ok (.dup, 1) := by decide +kernel
theorem dX5_requireRange_14 : decode cX5_requireRange 14 = .ok (.invokespecial 180, 3) := by decide +kernel
theorem dX5_requireRange_17 : decode cX5_requireRange 17 = .ok (.athrow, 1) := by decide +kernel
theorem dX5_requireRange_18 : decode cX5_requireRange 18 = .ok (.return_, 1) := by decide +kernel
set_option maxRecDepth 20000 in
theorem ggX6_init_X6_clear : GoodIn wsX6_init wsX6_clear := goodIn_r _ [31, 32, 33, 34, 35, 36, 37, 38, 39, 40, 41, 42, 43, 44, 45, 46, 47, 48, 49, 50, 51, 52, 53, 54, 55, 56, 57, 58, 59, 60, 61, 62, 63, 64, 65] (by decide +kernel) (by decide +kernel)
set_option maxRecDepth 20000 in
theorem gX6_init_X6_clear : GoodIn wsX6_init (wsV RX6 72 RX6 yX6_clear wsX6_clear) := goodIn_app (goodIn_of _ (by decide +kernel)) ggX6_init_X6_clear
theorem dX6_init_0 : decode cX6_init 0 = .ok (.aload_n 0, 1) := by decide +kernel
theorem dX6_init_1 : decode cX6_init 1 = .ok (.invokespecial 1, 3) := by decide +kernel
theorem dX6_init_4 : decode cX6_init 4 = .ok (.aload_n 0, 1) := by decide +kernel
theorem dX6_init_5 : decode cX6_init 5 = .ok (.bipush 32, 2) := by decide +kernel
theorem dX6_init_7 : decode cX6_init 7 = .ok (.newarray .int, 2) := by decide +kernel
theorem dX6_init_9 : decode cX6_init 9 = .ok (.putfield 7, 3) := by decide +kernel
theorem dX6_init_12 : decode cX6_init 12 = .ok (.aload_n 0, 1) := by decide +kernel
theorem dX6_init_13 : decode cX6_init 13 = .ok (.bipush 32, 2) := by decide +kernel
theorem dX6_init_15 : decode cX6_init 15 = .ok (.newarray .int, 2) := by decide +kernel
theorem dX6_init_17 : decode cX6_init 17 = .ok (.putfield 13, 3) := by decide +kernel
theorem dX6_init_20 : decode cX6_init 20 = .ok (.aload_n 0, 1) := by decide +kernel
theorem dX6_init_21 : decode cX6_init 21 = .ok (.bipush 8, 2) := by decide +kernel
theorem dX6_init_23 : decode cX6_init 23 = .ok (.newarray .int, 2) := by decide +kernel
theorem dX6_init_25 : decode cX6_init 25 = .ok (.putfield 16, 3) := by decide +kernel
theorem dX6_init_28 : decode cX6_init 28 = .ok (.aload_n 0, 1) := by decide +kernel
theorem dX6_init_29 : decode cX6_init 29 = .ok (.bipush 8, 2) := by decide +kernel
theorem dX6_init_31 : decode cX6_init 31 = .ok (.newarray .int, 2) := by decide +kernel
theorem dX6_init_33 : decode cX6_init 33 = .ok (.putfield 19, 3) := by decide +kernel
theorem dX6_init_36 : decode cX6_init 36 = .ok (.aload_n 0, 1) := by decide +kernel
theorem dX6_init_37 : decode cX6_init 37 = .ok (.bipush 6, 2) := by decide +kernel
theorem dX6_init_39 : decode cX6_init 39 = .ok (.newarray .int, 2) := by decide +kernel
theorem dX6_init_41 : decode cX6_init 41 = .ok (.putfield 22, 3) := by decide +kernel
theorem dX6_init_44 : decode cX6_init 44 = .ok (.aload_n 0, 1) := by decide +kernel
theorem dX6_init_45 : decode cX6_init 45 = .ok (.bipush 12, 2) := by decide +kernel
theorem dX6_init_47 : decode cX6_init 47 = .ok (.newarray .int, 2) := by decide +kernel
theorem dX6_init_49 : decode cX6_init 49 = .ok (.putfield 25, 3) := by decide +kernel
theorem dX6_init_52 : decode cX6_init 52 = .ok (.aload_n 0, 1) := by decide +kernel
theorem dX6_init_53 : decode cX6_init 53 = .ok (.bipush 12, 2) := by decide +kernel
theorem dX6_init_55 : decode cX6_init 55 = .ok (.newarray .int, 2) := by decide +kernel
theorem dX6_init_57 : decode cX6_init 57 = .ok (.putfield 28, 3) := by decide +kernel
theorem dX6_init_60 : decode cX6_init 60 = .ok (.aload_n 0, 1) := by decide +kernel
theorem dX6_init_61 : decode cX6_init 61 = .ok (.bipush 12, 2) := by decide +kernel
theorem dX6_init_63 : decode cX6_init 63 = .ok (.newarray .int, 2) := by decide +kernel
theorem dX6_init_65 : decode cX6_init 65 = .ok (.putfield 31, 3) := by decide +kernel
theorem dX6_init_68 : decode cX6_init 68 = .ok (.aload_n 0, 1) := by decide +kernel
theorem dX6_init_69 : decode cX6_init 69 = .ok (.bipush 36, 2) := by decide +kernel
theorem dX6_init_71 : decode cX6_init 71 = .ok (.newarray .int, 2) := by decide +kernel
theorem dX6_init_73 : decode cX6_init 73 = .ok (.putfield 34, 3) := by decide +kernel
theorem dX6_init_76 : decode cX6_init 76 = .ok (.aload_n 0, 1) := by decide +kernel
theorem dX6_init_77 : decode cX6_init 77 = .ok (.bipush 32, 2) := by decide +kernel
theorem dX6_init_79 : decode cX6_init 79 = .ok (.newarray .int, 2) := by decide +kernel
theorem dX6_init_81 : decode cX6_init 81 = .ok (.putfield 37, 3) := by decide +kernel
theorem dX6_init_84 : decode cX6_init 84 = .ok (.aload_n 0, 1) := by decide +kernel
theorem dX6_init_85 : decode cX6_init 85 = .ok (.bipush 24, 2) := by decide +kernel
theorem dX6_init_87 : decode cX6_init 87 = .ok (.newarray .int, 2) := by decide +kernel
theorem dX6_init_89 : decode cX6_init 89 = .ok (.putfield 40, 3) := by decide +kernel
theorem dX6_init_92 : decode cX6_init 92 = .ok (.aload_n 0, 1) := by decide +kernel
theorem dX6_init_93 : decode cX6_init 93 = .ok (.ldc 43, 2) := by decide +kernel
theorem dX6_init_95 : decode cX6_init 95 = .ok (.newarray .int, 2) := by decide +kernel
theorem dX6_init_97 : decode cX6_init 97 = .ok (.putfield 44, 3) := by decide +kernel
theorem dX6_init_100 : decode cX6_init 100 = .ok (.aload_n 0, 1) := by decide +kernel
theorem dX6_init_101 : decode cX6_init 101 = .ok (.bipush 64, 2) := by decide +kernel
theorem dX6_init_103 : decode cX6_init 103 = .ok (.newarray .int, 2) := by decide +kernel
theorem dX6_init_105 : decode cX6_init 105 = .ok (.putfield 47, 3) := by decide +kernel
theorem dX6_init_108 : decode cX6_init 108 = .ok (.aload_n 0, 1) := by decide +kernel
theorem dX6_init_109 : decode cX6_init 109 = .ok (.bipush 64, 2) := by decide +kernel
theorem dX6_init_111 : decode cX6_init 111 = .ok (.newarray .int, 2) := by decide +kernel
theorem dX6_init_113 : decode cX6_init 113 = .ok (.putfield 50, 3) := by decide +kernel
theorem dX6_init_116 : decode cX6_init 116 = .ok (.aload_n 0, 1) := by decide +kernel
theorem dX6_init_117 : decode cX6_init 117 = .ok (.bipush 64, 2) := by decide +kernel
theorem dX6_init_119 : decode cX6_init 119 = .ok (.newarray .int, 2) := by decide +kernel
theorem dX6_init_121 : decode cX6_init 121 = .ok (.putfield 53, 3) := by decide +kernel
theorem dX6_init_124 : decode cX6_init 124 = .ok (.aload_n 0, 1) := by decide +kernel
theorem dX6_init_125 : decode cX6_init 125 = .ok (.sipush 192, 3) := by decide +kernel
theorem dX6_init_128 : decode cX6_init 128 = .ok (.newarray .int, 2) := by decide +kernel
theorem dX6_init_130 : decode cX6_init 130 = .ok (.putfield 56, 3) := by decide +kernel
theorem dX6_init_133 : decode cX6_init 133 = .ok (.aload_n 0, 1) := by decide +kernel
theorem dX6_init_134 : decode cX6_init 134 = .ok (.bipush 64, 2) := by decide +kernel
theorem dX6_init_136 : decode cX6_init 136 = .ok (.newarray .boolean, 2) := by decide +kernel
theorem dX6_init_138 : decode cX6_init 138 = .ok (.putfield 59, 3) := by decide +kernel
theorem dX6_init_141 : decode cX6_init 141 = .ok (.aload_n 0, 1) := by decide +kernel
theorem dX6_init_142 : decode cX6_init 142 = .ok (.bipush 64, 2) := by decide +kernel
theorem dX6_init_144 : decode cX6_init 144 = .ok (.newarray .int, 2) := by decide +kernel
theorem dX6_init_146 : decode cX6_init 146 = .ok (.putfield 63, 3) := by decide +kernel
theorem dX6_init_149 : decode cX6_init 149 = .ok (.aload_n 0, 1) := by decide +kernel
theorem dX6_init_150 : decode cX6_init 150 = .ok (.iconst 3, 1) := by decide +kernel
theorem dX6_init_151 : decode cX6_init 151 = .ok (.newarray .int, 2) := by decide +kernel
theorem dX6_init_153 : decode cX6_init 153 = .ok (.putfield 66, 3) := by decide +kernel
theorem dX6_init_156 : decode cX6_init 156 = .ok (.aload_n 0, 1) := by decide +kernel
theorem dX6_init_157 : decode cX6_init 157 = .ok (.iconst 3, 1) := by decide +kernel
theorem dX6_init_158 : decode cX6_init 158 = .ok (.newarray .int, 2) := by decide +kernel
theorem dX6_init_160 : decode cX6_init 160 = .ok (.putfield 69, 3) := by decide +kernel
theorem dX6_init_163 : decode cX6_init 163 = .ok (.aload_n 0, 1) := by decide +kernel
theorem dX6_init_164 : decode cX6_init 164 = .ok (.invokevirtual 72, 3) := by decide +kernel
theorem dX6_init_167 : decode cX6_init 167 = .ok (.return_, 1) := by decide +kernel
theorem dX6_thrown_0 : decode cX6_thrown 0 = .ok (.aload_n 0, 1) := by decide +kernel
theorem dX6_thrown_1 : decode cX6_thrown 1 = .ok (.getfield 75, 3) := by decide +kernel
theorem dX6_thrown_4 : decode cX6_thrown 4 = .ok (.ireturn, 1) := by decide +kernel
theorem dX6_isIn_0 : decode cX6_isIn 0 = .ok (.iload_n 0, 1) := by decide +kernel
theorem dX6_isIn_1 : decode cX6_isIn 1 = .ok (.ifCond .lt 12, 3) := by decide +kernel
theorem dX6_isIn_4 : decode cX6_isIn 4 = .ok (.iload_n 0, 1) := by decide +kernel
theorem dX6_isIn_5 : decode cX6_isIn 5 = .ok (.iload_n 1, 1) := by decide +kernel
theorem dX6_isIn_6 : decode cX6_isIn 6 = .ok (.if_icmp .ge 7, 3) := by decide +kernel
theorem dX6_isIn_9 : decode cX6_isIn 9 = .ok (.iconst 1, 1) := by decide +kernel
theorem dX6_isIn_10 : decode cX6_isIn 10 = .ok (.goto 4, 3) := by decide +kernel
theorem dX6_isIn_13 : decode cX6_isIn 13 = .ok (.iconst 0, 1) := by decide +kernel
theorem dX6_isIn_14 : decode cX6_isIn 14 = .ok (.ireturn, 1) := by decide +kernel
set_option maxRecDepth 20000 in
theorem ggX6_isLiteral_X6_isIn : GoodIn wsX6_isLiteral wsX6_isIn := goodIn_r _ [5] (by decide +kernel) (by decide +kernel)
set_option maxRecDepth 20000 in
theorem gX6_isLiteral_X6_isIn : GoodIn wsX6_isLiteral (va_wsS RX6 82 yX6_isIn wsX6_isIn) := goodIn_app (goodIn_of _ (by decide +kernel)) ggX6_isLiteral_X6_isIn
theorem dX6_isLiteral_0 : decode cX6_isLiteral 0 = .ok (.iload_n 1, 1) := by decide +kernel
theorem dX6_isLiteral_1 : decode cX6_isLiteral 1 = .ok (.iconst 2, 1) := by decide +kernel
theorem dX6_isLiteral_2 : decode cX6_isLiteral 2 = .ok (.aload_n 0, 1) := by decide +kernel
theorem dX6_isLiteral_3 : decode cX6_isLiteral 3 = .ok (.getfield 79, 3) := by decide +kernel
theorem dX6_isLiteral_6 : decode cX6_isLiteral 6 = .ok (.imul, 1) := by decide +kernel
theorem dX6_isLiteral_7 : decode cX6_isLiteral 7 = .ok (.invokestatic 82, 3) := by decide +kernel
theorem dX6_isLiteral_10 : decode cX6_isLiteral 10 = .ok (.ireturn, 1) := by decide +kernel
theorem dX6_isInput_0 : decode cX6_isInput 0 = .ok (.aload_n 0, 1) := by decide +kernel
theorem dX6_isInput_1 : decode cX6_isInput 1 = .ok (.getfield 7, 3) := by decide +kernel
theorem dX6_isInput_4 : decode cX6_isInput 4 = .ok (.iload_n 1, 1) := by decide +kernel
theorem dX6_isInput_5 : decode cX6_isInput 5 = .ok (.iaload, 1) := by decide +kernel
theorem dX6_isInput_6 : decode cX6_isInput 6 = .ok (.iconst (-1), 1) := by decide +kernel
theorem dX6_isInput_7 : decode cX6_isInput 7 = .ok (.if_icmp .ne 7, 3) := by decide +kernel
theorem dX6_isInput_10 : decode cX6_isInput 10 = .ok (.iconst 1, 1) := by decide +kernel
theorem dX6_isInput_11 : decode cX6_isInput 11 = .ok (.goto 4, 3) := by decide +kernel
theorem dX6_isInput_14 : decode cX6_isInput 14 = .ok (.iconst 0, 1) := by decide +kernel
theorem dX6_isInput_15 : decode cX6_isInput 15 = .ok (.ireturn, 1) := by decide +kernel
theorem dX6_input_0 : decode cX6_input 0 = .ok (.aload_n 0, 1) := by decide +kernel
theorem dX6_input_1 : decode cX6_input 1 = .ok (.aload_n 0, 1) := by decide +kernel
theorem dX6_input_2 : decode cX6_input 2 = .ok (.getfield 86, 3) := by decide +kernel
theorem dX6_input_5 : decode cX6_input 5 = .ok (.bipush 8, 2) := by decide +kernel
theorem dX6_input_7 : decode cX6_input 7 = .ok (.if_icmp .ge 7, 3) := by decide +kernel
theorem dX6_input_10 : decode cX6_input 10 = .ok (.iconst 0, 1) := by decide +kernel
theorem dX6_input_11 : decode cX6_input 11 = .ok (.goto 4, 3) := by decide +kernel
theorem dX6_input_14 : decode cX6_input 14 = .ok (.iconst 1, 1) := by decide +kernel
theorem dX6_input_15 : decode cX6_input 15 = .ok (.putfield 75, 3) := by decide +kernel
theorem dX6_input_18 : decode cX6_input 18 = .ok (.aload_n 0, 1) := by decide +kernel
theorem dX6_input_19 : decode cX6_input 19 = .ok (.getfield 75, 3) := by decide +kernel
theorem dX6_input_22 : decode cX6_input 22 = .ok (.ifCond .le 5, 3) := by decide +kernel
theorem dX6_input_25 : decode cX6_input 25 = .ok (.iconst 0, 1) := by decide +kernel
theorem dX6_input_26 : decode cX6_input 26 = .ok (.ireturn, 1) := by decide +kernel
theorem dX6_input_27 : decode cX6_input 27 = .ok (.aload_n 0, 1) := by decide +kernel
theorem dX6_input_28 : decode cX6_input 28 = .ok (.getfield 7, 3) := by decide +kernel
theorem dX6_input_31 : decode cX6_input 31 = .ok (.aload_n 0, 1) := by decide +kernel
theorem dX6_input_32 : decode cX6_input 32 = .ok (.getfield 79, 3) := by decide +kernel
theorem dX6_input_35 : decode cX6_input 35 = .ok (.iconst (-1), 1) := by decide +kernel
theorem dX6_input_36 : decode cX6_input 36 = .ok (.iastore, 1) := by decide +kernel
theorem dX6_input_37 : decode cX6_input 37 = .ok (.aload_n 0, 1) := by decide +kernel
theorem dX6_input_38 : decode cX6_input 38 = .ok (.getfield 16, 3) := by decide +kernel
theorem dX6_input_41 : decode cX6_input 41 = .ok (.aload_n 0, 1) := by decide +kernel
theorem dX6_input_42 : decode cX6_input 42 = .ok (.getfield 86, 3) := by decide +kernel
theorem dX6_input_45 : decode cX6_input 45 = .ok (.aload_n 0, 1) := by decide +kernel
theorem dX6_input_46 : decode cX6_input 46 = .ok (.getfield 79, 3) := by decide +kernel
theorem dX6_input_49 : decode cX6_input 49 = .ok (.iastore, 1) := by decide +kernel
theorem dX6_input_50 : decode cX6_input 50 = .ok (.aload_n 0, 1) := by decide +kernel
theorem dX6_input_51 : decode cX6_input 51 = .ok (.getfield 19, 3) := by decide +kernel
theorem dX6_input_54 : decode cX6_input 54 = .ok (.aload_n 0, 1) := by decide +kernel
theorem dX6_input_55 : decode cX6_input 55 = .ok (.getfield 86, 3) := by decide +kernel
theorem dX6_input_58 : decode cX6_input 58 = .ok (.iconst 0, 1) := by decide +kernel
theorem dX6_input_59 : decode cX6_input 59 = .ok (.iastore, 1) := by decide +kernel
theorem dX6_input_60 : decode cX6_input 60 = .ok (.aload_n 0, 1) := by decide +kernel
theorem dX6_input_61 : decode cX6_input 61 = .ok (.dup, 1) := by decide +kernel
theorem dX6_input_62 : decode cX6_input 62 = .ok (.getfield 86, 3) := by decide +kernel
theorem dX6_input_65 : decode cX6_input 65 = .ok (.iconst 1, 1) := by decide +kernel
theorem dX6_input_66 : decode cX6_input 66 = .ok (.iadd, 1) := by decide +kernel
theorem dX6_input_67 : decode cX6_input 67 = .ok (.putfield 86, 3) := by decide +kernel
theorem dX6_input_70 : decode cX6_input 70 = .ok (.aload_n 0, 1) := by decide +kernel
theorem dX6_input_71 : decode cX6_input 71 = .ok (.dup, 1) := by decide +kernel
theorem dX6_input_72 : decode cX6_input 72 = .ok (.getfield 79, 3) := by decide +kernel
theorem dX6_input_75 : decode cX6_input 75 = .ok (.iconst 1, 1) := by decide +kernel
theorem dX6_input_76 : decode cX6_input 76 = .ok (.iadd, 1) := by decide +kernel
theorem dX6_input_77 : decode cX6_input 77 = .ok (.putfield 79, 3) := by decide +kernel
theorem dX6_input_80 : decode cX6_input 80 = .ok (.aload_n 0, 1) := by decide +kernel
theorem dX6_input_81 : decode cX6_input 81 = .ok (.iconst 1, 1) := by decide +kernel
theorem dX6_input_82 : decode cX6_input 82 = .ok (.putfield 89, 3) := by decide +kernel
theorem dX6_input_85 : decode cX6_input 85 = .ok (.iconst 2, 1) := by decide +kernel
theorem dX6_input_86 : decode cX6_input 86 = .ok (.aload_n 0, 1) := by decide +kernel
theorem dX6_input_87 : decode cX6_input 87 = .ok (.getfield 79, 3) := by decide +kernel
theorem dX6_input_90 : decode cX6_input 90 = .ok (.imul, 1) := by decide +kernel
theorem dX6_input_91 : decode cX6_input 91 = .ok (.iconst 2, 1) := by decide +kernel
theorem dX6_input_92 : decode cX6_input 92 = .ok (.isub, 1) := by decide +kernel
theorem dX6_input_93 : decode cX6_input 93 = .ok (.ireturn, 1) := by decide +kernel
set_option maxRecDepth 20000 in
theorem ggX6_and_X6_isLiteral : GoodIn wsX6_and wsX6_isLiteral := goodIn_r _ [12, 4, 13, 14, 11, 15, 42, 43, 44, 45, 46, 47, 48, 49, 50, 51, 52, 53, 54, 55, 56, 57, 58, 59, 60, 61, 62, 63, 64, 65, 66, 67, 68] (by decide +kernel) (by decide +kernel)
set_option maxRecDepth 20000 in
theorem gX6_and_X6_isLiteral : GoodIn wsX6_and (wsV RX6 93 RX6 yX6_isLiteral wsX6_isLiteral) := goodIn_app (goodIn_of _ (by decide +kernel)) ggX6_and_X6_isLiteral
set_option maxRecDepth 20000 in
theorem ggX6_and_X6_findCuts : GoodIn wsX6_and wsX6_findCuts := goodIn_r _ [19, 20, 6, 21, 22, 23, 11, 24, 25, 26, 27, 28, 29, 30, 31, 32, 33, 34, 35, 36, 37, 3, 5, 38, 39, 40, 41, 42, 43, 44, 45, 46, 47, 48, 49, 50, 51, 52, 53, 54, 55, 56, 57, 58, 59, 60, 61, 62, 63, 64, 65, 66, 67, 68] (by decide +kernel) (by decide +kernel)
set_option maxRecDepth 20000 in
theorem gX6_and_X6_findCuts : GoodIn wsX6_and (wsV RX6 100 RX6 yX6_findCuts wsX6_findCuts) := goodIn_app (goodIn_of _ (by decide +kernel)) ggX6_and_X6_findCuts
theorem dX6_and_0 : decode cX6_and 0 = .ok (.aload_n 0, 1) := by decide +kernel
theorem dX6_and_1 : decode cX6_and 1 = .ok (.iload_n 1, 1) := by decide +kernel
theorem dX6_and_2 : decode cX6_and 2 = .ok (.invokevirtual 93, 3) := by decide +kernel
theorem dX6_and_5 : decode cX6_and 5 = .ok (.ifCond .eq 15, 3) := by decide +kernel
theorem dX6_and_8 : decode cX6_and 8 = .ok (.aload_n 0, 1) := by decide +kernel
theorem dX6_and_9 : decode cX6_and 9 = .ok (.iload_n 2, 1) := by decide +kernel
theorem dX6_and_10 : decode cX6_and 10 = .ok (.invokevirtual 93, 3) := by decide +kernel
theorem dX6_and_13 : decode cX6_and 13 = .ok (.ifCond .eq 7, 3) := by decide +kernel
theorem dX6_and_16 : decode cX6_and 16 = .ok (.iconst 1, 1) := by decide +kernel
theorem dX6_and_17 : decode cX6_and 17 = .ok (.goto 4, 3) := by decide +kernel
theorem dX6_and_20 : decode cX6_and 20 = .ok (.iconst 0, 1) := by decide +kernel
theorem dX6_and_21 : decode cX6_and 21 = .ok (.istore_n 3, 1) := by decide +kernel
theorem dX6_and_22 : decode cX6_and 22 = .ok (.aload_n 0, 1) := by decide +kernel
theorem dX6_and_23 : decode cX6_and 23 = .ok (.iload_n 3, 1) := by decide +kernel
theorem dX6_and_24 : decode cX6_and 24 = .ok (.ifCond .ne 7, 3) := by decide +kernel
theorem dX6_and_27 : decode cX6_and 27 = .ok (.iconst 1, 1) := by decide +kernel
theorem dX6_and_28 : decode cX6_and 28 = .ok (.goto 17, 3) := by decide +kernel
theorem dX6_and_31 : decode cX6_and 31 = .ok (.aload_n 0, 1) := by decide +kernel
theorem dX6_and_32 : decode cX6_and 32 = .ok (.getfield 97, 3) := by decide +kernel
theorem dX6_and_35 : decode cX6_and 35 = .ok (.bipush 24, 2) := by decide +kernel
theorem dX6_and_37 : decode cX6_and 37 = .ok (.if_icmp .ne 7, 3) := by decide +kernel
theorem dX6_and_40 : decode cX6_and 40 = .ok (.iconst 2, 1) := by decide +kernel
theorem dX6_and_41 : decode cX6_and 41 = .ok (.goto 4, 3) := by decide +kernel
theorem dX6_and_44 : decode cX6_and 44 = .ok (.iconst 0, 1) := by decide +kernel
theorem dX6_and_45 : decode cX6_and 45 = .ok (.putfield 75, 3) := by decide +kernel
theorem dX6_and_48 : decode cX6_and 48 = .ok (.aload_n 0, 1) := by decide +kernel
theorem dX6_and_49 : decode cX6_and 49 = .ok (.getfield 75, 3) := by decide +kernel
theorem dX6_and_52 : decode cX6_and 52 = .ok (.ifCond .le 5, 3) := by decide +kernel
theorem dX6_and_55 : decode cX6_and 55 = .ok (.iconst 0, 1) := by decide +kernel
theorem dX6_and_56 : decode cX6_and 56 = .ok (.ireturn, 1) := by decide +kernel
theorem dX6_and_57 : decode cX6_and 57 = .ok (.aload_n 0, 1) := by decide +kernel
theorem dX6_and_58 : decode cX6_and 58 = .ok (.getfield 7, 3) := by decide +kernel
theorem dX6_and_61 : decode cX6_and 61 = .ok (.aload_n 0, 1) := by decide +kernel
theorem dX6_and_62 : decode cX6_and 62 = .ok (.getfield 79, 3) := by decide +kernel
theorem dX6_and_65 : decode cX6_and 65 = .ok (.iload_n 1, 1) := by decide +kernel
theorem dX6_and_66 : decode cX6_and 66 = .ok (.iastore, 1) := by decide +kernel
theorem dX6_and_67 : decode cX6_and 67 = .ok (.aload_n 0, 1) := by decide +kernel
theorem dX6_and_68 : decode cX6_and 68 = .ok (.getfield 13, 3) := by decide +kernel
theorem dX6_and_71 : decode cX6_and 71 = .ok (.aload_n 0, 1) := by decide +kernel
theorem dX6_and_72 : decode cX6_and 72 = .ok (.getfield 79, 3) := by decide +kernel
theorem dX6_and_75 : decode cX6_and 75 = .ok (.iload_n 2, 1) := by decide +kernel
theorem dX6_and_76 : decode cX6_and 76 = .ok (.iastore, 1) := by decide +kernel
theorem dX6_and_77 : decode cX6_and 77 = .ok (.aload_n 0, 1) := by decide +kernel
theorem dX6_and_78 : decode cX6_and 78 = .ok (.getfield 37, 3) := by decide +kernel
theorem dX6_and_81 : decode cX6_and 81 = .ok (.aload_n 0, 1) := by decide +kernel
theorem dX6_and_82 : decode cX6_and 82 = .ok (.getfield 79, 3) := by decide +kernel
theorem dX6_and_85 : decode cX6_and 85 = .ok (.aload_n 0, 1) := by decide +kernel
theorem dX6_and_86 : decode cX6_and 86 = .ok (.getfield 97, 3) := by decide +kernel
theorem dX6_and_89 : decode cX6_and 89 = .ok (.iastore, 1) := by decide +kernel
theorem dX6_and_90 : decode cX6_and 90 = .ok (.aload_n 0, 1) := by decide +kernel
theorem dX6_and_91 : decode cX6_and 91 = .ok (.dup, 1) := by decide +kernel
theorem dX6_and_92 : decode cX6_and 92 = .ok (.getfield 97, 3) := by decide +kernel
theorem dX6_and_95 : decode cX6_and 95 = .ok (.iconst 1, 1) := by decide +kernel
theorem dX6_and_96 : decode cX6_and 96 = .ok (.iadd, 1) := by decide +kernel
theorem dX6_and_97 : decode cX6_and 97 = .ok (.putfield 97, 3) := by decide +kernel
theorem dX6_and_100 : decode cX6_and 100 = .ok (.aload_n 0, 1) := by decide +kernel
theorem dX6_and_101 : decode cX6_and 101 = .ok (.dup, 1) := by decide +kernel
theorem dX6_and_102 : decode cX6_and 102 = .ok (.getfield 79, 3) := by decide +kernel
theorem dX6_and_105 : decode cX6_and 105 = .ok (.iconst 1, 1) := by decide +kernel
theorem dX6_and_106 : decode cX6_and 106 = .ok (.iadd, 1) := by decide +kernel
theorem dX6_and_107 : decode cX6_and 107 = .ok (.putfield 79, 3) := by decide +kernel
theorem dX6_and_110 : decode cX6_and 110 = .ok (.aload_n 0, 1) := by decide +kernel
theorem dX6_and_111 : decode cX6_and 111 = .ok (.aload_n 0, 1) := by decide +kernel
theorem dX6_and_112 : decode cX6_and 112 = .ok (.getfield 79, 3) := by decide +kernel
theorem dX6_and_115 : decode cX6_and 115 = .ok (.iconst 1, 1) := by decide +kernel
theorem dX6_and_116 : decode cX6_and 116 = .ok (.isub, 1) := by decide +kernel
theorem dX6_and_117 : decode cX6_and 117 = .ok (.invokevirtual 100, 3) := by decide +kernel
theorem dX6_and_120 : decode cX6_and 120 = .ok (.aload_n 0, 1) := by decide +kernel
theorem dX6_and_121 : decode cX6_and 121 = .ok (.iconst 1, 1) := by decide +kernel
theorem dX6_and_122 : decode cX6_and 122 = .ok (.putfield 89, 3) := by decide +kernel
theorem dX6_and_125 : decode cX6_and 125 = .ok (.iconst 2, 1) := by decide +kernel
theorem dX6_and_126 : decode cX6_and 126 = .ok (.aload_n 0, 1) := by decide +kernel
theorem dX6_and_127 : decode cX6_and 127 = .ok (.getfield 79, 3) := by decide +kernel
theorem dX6_and_130 : decode cX6_and 130 = .ok (.imul, 1) := by decide +kernel
theorem dX6_and_131 : decode cX6_and 131 = .ok (.iconst 2, 1) := by decide +kernel
theorem dX6_and_132 : decode cX6_and 132 = .ok (.isub, 1) := by decide +kernel
theorem dX6_and_133 : decode cX6_and 133 = .ok (.ireturn, 1) := by decide +kernel
set_option maxRecDepth 20000 in
theorem ggX6_output_X6_isLiteral : GoodIn wsX6_output wsX6_isLiteral := goodIn_r _ [8, 9, 10, 11, 7, 12, 13, 14, 15, 16, 17, 18, 19, 20, 21, 22, 23, 24, 25, 26, 27, 28, 29, 30, 31, 32, 33, 34, 35, 36, 37, 38, 39] (by decide +kernel) (by decide +kernel)
set_option maxRecDepth 20000 in
theorem gX6_output_X6_isLiteral : GoodIn wsX6_output (wsV RX6 93 RX6 yX6_isLiteral wsX6_isLiteral) := goodIn_app (goodIn_of _ (by decide +kernel)) ggX6_output_X6_isLiteral
theorem dX6_output_0 : decode cX6_output 0 = .ok (.aload_n 0, 1) := by decide +kernel
theorem dX6_output_1 : decode cX6_output 1 = .ok (.aload_n 0, 1) := by decide +kernel
theorem dX6_output_2 : decode cX6_output 2 = .ok (.iload_n 1, 1) := by decide +kernel
theorem dX6_output_3 : decode cX6_output 3 = .ok (.invokevirtual 93, 3) := by decide +kernel
theorem dX6_output_6 : decode cX6_output 6 = .ok (.ifCond .ne 7, 3) := by decide +kernel
theorem dX6_output_9 : decode cX6_output 9 = .ok (.iconst 1, 1) := by decide +kernel
theorem dX6_output_10 : decode cX6_output 10 = .ok (.goto 17, 3) := by decide +kernel
theorem dX6_output_13 : decode cX6_output 13 = .ok (.aload_n 0, 1) := by decide +kernel
theorem dX6_output_14 : decode cX6_output 14 = .ok (.getfield 104, 3) := by decide +kernel
theorem dX6_output_17 : decode cX6_output 17 = .ok (.bipush 6, 2) := by decide +kernel
theorem dX6_output_19 : decode cX6_output 19 = .ok (.if_icmp .ne 7, 3) := by decide +kernel
theorem dX6_output_22 : decode cX6_output 22 = .ok (.iconst 2, 1) := by decide +kernel
theorem dX6_output_23 : decode cX6_output 23 = .ok (.goto 4, 3) := by decide +kernel
theorem dX6_output_26 : decode cX6_output 26 = .ok (.iconst 0, 1) := by decide +kernel
theorem dX6_output_27 : decode cX6_output 27 = .ok (.putfield 75, 3) := by decide +kernel
theorem dX6_output_30 : decode cX6_output 30 = .ok (.aload_n 0, 1) := by decide +kernel
theorem dX6_output_31 : decode cX6_output 31 = .ok (.getfield 75, 3) := by decide +kernel
theorem dX6_output_34 : decode cX6_output 34 = .ok (.ifCond .le 5, 3) := by decide +kernel
theorem dX6_output_37 : decode cX6_output 37 = .ok (.iconst 0, 1) := by decide +kernel
theorem dX6_output_38 : decode cX6_output 38 = .ok (.ireturn, 1) := by decide +kernel
theorem dX6_output_39 : decode cX6_output 39 = .ok (.aload_n 0, 1) := by decide +kernel
theorem dX6_output_40 : decode cX6_output 40 = .ok (.getfield 22, 3) := by decide +kernel
theorem dX6_output_43 : decode cX6_output 43 = .ok (.aload_n 0, 1) := by decide +kernel
theorem dX6_output_44 : decode cX6_output 44 = .ok (.getfield 104, 3) := by decide +kernel
theorem dX6_output_47 : decode cX6_output 47 = .ok (.iload_n 1, 1) := by decide +kernel
theorem dX6_output_48 : decode cX6_output 48 = .ok (.iastore, 1) := by decide +kernel
theorem dX6_output_49 : decode cX6_output 49 = .ok (.aload_n 0, 1) := by decide +kernel
theorem dX6_output_50 : decode cX6_output 50 = .ok (.dup, 1) := by decide +kernel
theorem dX6_output_51 : decode cX6_output 51 = .ok (.getfield 104, 3) := by decide +kernel
theorem dX6_output_54 : decode cX6_output 54 = .ok (.iconst 1, 1) := by decide +kernel
theorem dX6_output_55 : decode cX6_output 55 = .ok (.iadd, 1) := by decide +kernel
theorem dX6_output_56 : decode cX6_output 56 = .ok (.putfield 104, 3) := by decide +kernel
theorem dX6_output_59 : decode cX6_output 59 = .ok (.aload_n 0, 1) := by decide +kernel
theorem dX6_output_60 : decode cX6_output 60 = .ok (.getfield 104, 3) := by decide +kernel
theorem dX6_output_63 : decode cX6_output 63 = .ok (.iconst 1, 1) := by decide +kernel
theorem dX6_output_64 : decode cX6_output 64 = .ok (.isub, 1) := by decide +kernel
theorem dX6_output_65 : decode cX6_output 65 = .ok (.ireturn, 1) := by decide +kernel
theorem dX6_below_0 : decode cX6_below 0 = .ok (.iconst 1, 1) := by decide +kernel
theorem dX6_below_1 : decode cX6_below 1 = .ok (.aload_n 0, 1) := by decide +kernel
theorem dX6_below_2 : decode cX6_below 2 = .ok (.getfield 7, 3) := by decide +kernel
theorem dX6_below_5 : decode cX6_below 5 = .ok (.iload_n 1, 1) := by decide +kernel
theorem dX6_below_6 : decode cX6_below 6 = .ok (.iaload, 1) := by decide +kernel
theorem dX6_below_7 : decode cX6_below 7 = .ok (.iconst 2, 1) := by decide +kernel
theorem dX6_below_8 : decode cX6_below 8 = .ok (.idiv, 1) := by decide +kernel
theorem dX6_below_9 : decode cX6_below 9 = .ok (.ishl, 1) := by decide +kernel
theorem dX6_below_10 : decode cX6_below 10 = .ok (.iconst 1, 1) := by decide +kernel
theorem dX6_below_11 : decode cX6_below 11 = .ok (.aload_n 0, 1) := by decide +kernel
theorem dX6_below_12 : decode cX6_below 12 = .ok (.getfield 13, 3) := by decide +kernel
theorem dX6_below_15 : decode cX6_below 15 = .ok (.iload_n 1, 1) := by decide +kernel
theorem dX6_below_16 : decode cX6_below 16 = .ok (.iaload, 1) := by decide +kernel
theorem dX6_below_17 : decode cX6_below 17 = .ok (.iconst 2, 1) := by decide +kernel
theorem dX6_below_18 : decode cX6_below 18 = .ok (.idiv, 1) := by decide +kernel
theorem dX6_below_19 : decode cX6_below 19 = .ok (.ishl, 1) := by decide +kernel
theorem dX6_below_20 : decode cX6_below 20 = .ok (.ior, 1) := by decide +kernel
theorem dX6_below_21 : decode cX6_below 21 = .ok (.ireturn, 1) := by decide +kernel
set_option maxRecDepth 20000 in
theorem ggX6_parts_X6_below : GoodIn wsX6_parts wsX6_below := goodIn_r _ [5, 6, 7, 12, 13, 14, 15, 16, 17, 18, 19, 20, 21, 22, 23, 24, 25, 26, 27, 28, 29, 30, 31, 32, 33, 34, 35, 36, 37, 38] (by decide +kernel) (by decide +kernel)
set_option maxRecDepth 20000 in
theorem gX6_parts_X6_below : GoodIn wsX6_parts (wsV RX6 107 RX6 yX6_below wsX6_below) := goodIn_app (goodIn_of _ (by decide +kernel)) ggX6_parts_X6_below
set_option maxRecDepth 20000 in
theorem ggX6_parts_X6_isInput : GoodIn wsX6_parts wsX6_isInput := goodIn_r _ [11, 6, 12, 13, 14, 15, 16, 17, 18, 19, 20, 21, 22, 23, 24, 25, 26, 27, 28, 29, 30, 31, 32, 33, 34, 35, 36, 37, 38] (by decide +kernel) (by decide +kernel)
set_option maxRecDepth 20000 in
theorem gX6_parts_X6_isInput : GoodIn wsX6_parts (wsV RX6 111 RX6 yX6_isInput wsX6_isInput) := goodIn_app (goodIn_of _ (by decide +kernel)) ggX6_parts_X6_isInput
theorem dX6_parts_0 : decode cX6_parts 0 = .ok (.aload_n 0, 1) := by decide +kernel
theorem dX6_parts_1 : decode cX6_parts 1 = .ok (.iload_n 1, 1) := by decide +kernel
theorem dX6_parts_2 : decode cX6_parts 2 = .ok (.invokevirtual 107, 3) := by decide +kernel
theorem dX6_parts_5 : decode cX6_parts 5 = .ok (.istore_n 3, 1) := by decide +kernel
theorem dX6_parts_6 : decode cX6_parts 6 = .ok (.iload_n 1, 1) := by decide +kernel
theorem dX6_parts_7 : decode cX6_parts 7 = .ok (.iconst 1, 1) := by decide +kernel
theorem dX6_parts_8 : decode cX6_parts 8 = .ok (.isub, 1) := by decide +kernel
theorem dX6_parts_9 : decode cX6_parts 9 = .ok (.istore 4, 2) := by decide +kernel
theorem dX6_parts_11 : decode cX6_parts 11 = .ok (.iload 4, 2) := by decide +kernel
theorem dX6_parts_13 : decode cX6_parts 13 = .ok (.ifCond .lt 48, 3) := by decide +kernel
theorem dX6_parts_16 : decode cX6_parts 16 = .ok (.iload_n 3, 1) := by decide +kernel
theorem dX6_parts_17 : decode cX6_parts 17 = .ok (.iload 4, 2) := by decide +kernel
theorem dX6_parts_19 : decode cX6_parts 19 = .ok (.iushr, 1) := by decide +kernel
theorem dX6_parts_20 : decode cX6_parts 20 = .ok (.iconst 1, 1) := by decide +kernel
theorem dX6_parts_21 : decode cX6_parts 21 = .ok (.iand, 1) := by decide +kernel
theorem dX6_parts_22 : decode cX6_parts 22 = .ok (.iconst 1, 1) := by decide +kernel
theorem dX6_parts_23 : decode cX6_parts 23 = .ok (.if_icmp .ne 32, 3) := by decide +kernel
theorem dX6_parts_26 : decode cX6_parts 26 = .ok (.iload_n 2, 1) := by decide +kernel
theorem dX6_parts_27 : decode cX6_parts 27 = .ok (.iload 4, 2) := by decide +kernel
theorem dX6_parts_29 : decode cX6_parts 29 = .ok (.iushr, 1) := by decide +kernel
theorem dX6_parts_30 : decode cX6_parts 30 = .ok (.iconst 1, 1) := by decide +kernel
theorem dX6_parts_31 : decode cX6_parts 31 = .ok (.iand, 1) := by decide +kernel
theorem dX6_parts_32 : decode cX6_parts 32 = .ok (.ifCond .ne 23, 3) := by decide +kernel
theorem dX6_parts_35 : decode cX6_parts 35 = .ok (.aload_n 0, 1) := by decide +kernel
theorem dX6_parts_36 : decode cX6_parts 36 = .ok (.iload 4, 2) := by decide +kernel
theorem dX6_parts_38 : decode cX6_parts 38 = .ok (.invokevirtual 111, 3) := by decide +kernel
theorem dX6_parts_41 : decode cX6_parts 41 = .ok (.ifCond .eq 5, 3) := by decide +kernel
theorem dX6_parts_44 : decode cX6_parts 44 = .ok (.iconst 0, 1) := by decide +kernel
theorem dX6_parts_45 : decode cX6_parts 45 = .ok (.ireturn, 1) := by decide +kernel
theorem dX6_parts_46 : decode cX6_parts 46 = .ok (.iload_n 3, 1) := by decide +kernel
theorem dX6_parts_47 : decode cX6_parts 47 = .ok (.aload_n 0, 1) := by decide +kernel
theorem dX6_parts_48 : decode cX6_parts 48 = .ok (.iload 4, 2) := by decide +kernel
theorem dX6_parts_50 : decode cX6_parts 50 = .ok (.invokevirtual 107, 3) := by decide +kernel
theorem dX6_parts_53 : decode cX6_parts 53 = .ok (.ior, 1) := by decide +kernel
theorem dX6_parts_54 : decode cX6_parts 54 = .ok (.istore_n 3, 1) := by decide +kernel
theorem dX6_parts_55 : decode cX6_parts 55 = .ok (.iinc 4 (-1), 3) := by decide +kernel
theorem dX6_parts_58 : decode cX6_parts 58 = .ok (.goto (-47), 3) := by decide +kernel
theorem dX6_parts_61 : decode cX6_parts 61 = .ok (.iconst 1, 1) := by decide +kernel
theorem dX6_parts_62 : decode cX6_parts 62 = .ok (.ireturn, 1) := by decide +kernel
set_option maxRecDepth 20000 in
theorem ggX6_isCut_X6_parts : GoodIn wsX6_isCut wsX6_parts := goodIn_r _ [5, 6, 7, 8, 4, 9, 10, 11, 12, 13, 14, 15, 16, 17, 18, 19, 20, 21, 22, 23, 24, 25, 26, 27, 28, 29, 30, 31, 32, 33, 34, 35, 36, 37, 38, 39, 40, 41, 42] (by decide +kernel) (by decide +kernel)
set_option maxRecDepth 20000 in
theorem gX6_isCut_X6_parts : GoodIn wsX6_isCut (wsV RX6 114 RX6 yX6_parts wsX6_parts) := goodIn_app (goodIn_of _ (by decide +kernel)) ggX6_isCut_X6_parts
theorem dX6_isCut_0 : decode cX6_isCut 0 = .ok (.aload_n 0, 1) := by decide +kernel
theorem dX6_isCut_1 : decode cX6_isCut 1 = .ok (.iload_n 1, 1) := by decide +kernel
theorem dX6_isCut_2 : decode cX6_isCut 2 = .ok (.iload_n 2, 1) := by decide +kernel
theorem dX6_isCut_3 : decode cX6_isCut 3 = .ok (.invokevirtual 114, 3) := by decide +kernel
theorem dX6_isCut_6 : decode cX6_isCut 6 = .ok (.ifCond .ne 5, 3) := by decide +kernel
theorem dX6_isCut_9 : decode cX6_isCut 9 = .ok (.iconst 0, 1) := by decide +kernel
theorem dX6_isCut_10 : decode cX6_isCut 10 = .ok (.ireturn, 1) := by decide +kernel
theorem dX6_isCut_11 : decode cX6_isCut 11 = .ok (.iconst 0, 1) := by decide +kernel
theorem dX6_isCut_12 : decode cX6_isCut 12 = .ok (.istore_n 3, 1) := by decide +kernel
theorem dX6_isCut_13 : decode cX6_isCut 13 = .ok (.iload_n 3, 1) := by decide +kernel
theorem dX6_isCut_14 : decode cX6_isCut 14 = .ok (.iload_n 1, 1) := by decide +kernel
theorem dX6_isCut_15 : decode cX6_isCut 15 = .ok (.if_icmp .ge 35, 3) := by decide +kernel
theorem dX6_isCut_18 : decode cX6_isCut 18 = .ok (.iload_n 2, 1) := by decide +kernel
theorem dX6_isCut_19 : decode cX6_isCut 19 = .ok (.iload_n 3, 1) := by decide +kernel
theorem dX6_isCut_20 : decode cX6_isCut 20 = .ok (.iushr, 1) := by decide +kernel
theorem dX6_isCut_21 : decode cX6_isCut 21 = .ok (.iconst 1, 1) := by decide +kernel
theorem dX6_isCut_22 : decode cX6_isCut 22 = .ok (.iand, 1) := by decide +kernel
theorem dX6_isCut_23 : decode cX6_isCut 23 = .ok (.iconst 1, 1) := by decide +kernel
theorem dX6_isCut_24 : decode cX6_isCut 24 = .ok (.if_icmp .ne 20, 3) := by decide +kernel
theorem dX6_isCut_27 : decode cX6_isCut 27 = .ok (.aload_n 0, 1) := by decide +kernel
theorem dX6_isCut_28 : decode cX6_isCut 28 = .ok (.iload_n 1, 1) := by decide +kernel
theorem dX6_isCut_29 : decode cX6_isCut 29 = .ok (.iload_n 2, 1) := by decide +kernel
theorem dX6_isCut_30 : decode cX6_isCut 30 = .ok (.iconst 1, 1) := by decide +kernel
theorem dX6_isCut_31 : decode cX6_isCut 31 = .ok (.iload_n 3, 1) := by decide +kernel
theorem dX6_isCut_32 : decode cX6_isCut 32 = .ok (.ishl, 1) := by decide +kernel
theorem dX6_isCut_33 : decode cX6_isCut 33 = .ok (.iconst (-1), 1) := by decide +kernel
theorem dX6_isCut_34 : decode cX6_isCut 34 = .ok (.ixor, 1) := by decide +kernel
theorem dX6_isCut_35 : decode cX6_isCut 35 = .ok (.iand, 1) := by decide +kernel
theorem dX6_isCut_36 : decode cX6_isCut 36 = .ok (.invokevirtual 114, 3) := by decide +kernel
theorem dX6_isCut_39 : decode cX6_isCut 39 = .ok (.ifCond .eq 5, 3) := by decide +kernel
theorem dX6_isCut_42 : decode cX6_isCut 42 = .ok (.iconst 0, 1) := by decide +kernel
theorem dX6_isCut_43 : decode cX6_isCut 43 = .ok (.ireturn, 1) := by decide +kernel
theorem dX6_isCut_44 : decode cX6_isCut 44 = .ok (.iinc 3 1, 3) := by decide +kernel
theorem dX6_isCut_47 : decode cX6_isCut 47 = .ok (.goto (-34), 3) := by decide +kernel
theorem dX6_isCut_50 : decode cX6_isCut 50 = .ok (.iconst 1, 1) := by decide +kernel
theorem dX6_isCut_51 : decode cX6_isCut 51 = .ok (.ireturn, 1) := by decide +kernel
set_option maxRecDepth 20000 in
theorem ggX6_tryCut_X6_isCut : GoodIn wsX6_tryCut wsX6_isCut := goodIn_r _ [8, 9, 10, 11, 7, 12, 13, 14, 15, 16, 17, 18, 19, 20, 21, 22, 23, 24, 25, 26, 27, 28, 29, 30, 31, 32, 33, 34, 35, 36, 37, 38, 39, 40, 41, 42, 43, 44, 45, 46, 47, 48, 49] (by decide +kernel) (by decide +kernel)
set_option maxRecDepth 20000 in
theorem gX6_tryCut_X6_isCut : GoodIn wsX6_tryCut (wsV RX6 117 RX6 yX6_isCut wsX6_isCut) := goodIn_app (goodIn_of _ (by decide +kernel)) ggX6_tryCut_X6_isCut
theorem dX6_tryCut_0 : decode cX6_tryCut 0 = .ok (.aload_n 0, 1) := by decide +kernel
theorem dX6_tryCut_1 : decode cX6_tryCut 1 = .ok (.iload_n 1, 1) := by decide +kernel
theorem dX6_tryCut_2 : decode cX6_tryCut 2 = .ok (.iload_n 2, 1) := by decide +kernel
theorem dX6_tryCut_3 : decode cX6_tryCut 3 = .ok (.invokevirtual 117, 3) := by decide +kernel
theorem dX6_tryCut_6 : decode cX6_tryCut 6 = .ok (.ifCond .eq 38, 3) := by decide +kernel
theorem dX6_tryCut_9 : decode cX6_tryCut 9 = .ok (.aload_n 0, 1) := by decide +kernel
theorem dX6_tryCut_10 : decode cX6_tryCut 10 = .ok (.getfield 37, 3) := by decide +kernel
theorem dX6_tryCut_13 : decode cX6_tryCut 13 = .ok (.iload_n 1, 1) := by decide +kernel
theorem dX6_tryCut_14 : decode cX6_tryCut 14 = .ok (.iaload, 1) := by decide +kernel
theorem dX6_tryCut_15 : decode cX6_tryCut 15 = .ok (.istore_n 3, 1) := by decide +kernel
theorem dX6_tryCut_16 : decode cX6_tryCut 16 = .ok (.aload_n 0, 1) := by decide +kernel
theorem dX6_tryCut_17 : decode cX6_tryCut 17 = .ok (.getfield 44, 3) := by decide +kernel
theorem dX6_tryCut_20 : decode cX6_tryCut 20 = .ok (.sipush 5000, 3) := by decide +kernel
theorem dX6_tryCut_23 : decode cX6_tryCut 23 = .ok (.iload_n 3, 1) := by decide +kernel
theorem dX6_tryCut_24 : decode cX6_tryCut 24 = .ok (.imul, 1) := by decide +kernel
theorem dX6_tryCut_25 : decode cX6_tryCut 25 = .ok (.aload_n 0, 1) := by decide +kernel
theorem dX6_tryCut_26 : decode cX6_tryCut 26 = .ok (.getfield 40, 3) := by decide +kernel
theorem dX6_tryCut_29 : decode cX6_tryCut 29 = .ok (.iload_n 3, 1) := by decide +kernel
theorem dX6_tryCut_30 : decode cX6_tryCut 30 = .ok (.iaload, 1) := by decide +kernel
theorem dX6_tryCut_31 : decode cX6_tryCut 31 = .ok (.iadd, 1) := by decide +kernel
theorem dX6_tryCut_32 : decode cX6_tryCut 32 = .ok (.iload_n 2, 1) := by decide +kernel
theorem dX6_tryCut_33 : decode cX6_tryCut 33 = .ok (.iastore, 1) := by decide +kernel
theorem dX6_tryCut_34 : decode cX6_tryCut 34 = .ok (.aload_n 0, 1) := by decide +kernel
theorem dX6_tryCut_35 : decode cX6_tryCut 35 = .ok (.getfield 40, 3) := by decide +kernel
theorem dX6_tryCut_38 : decode cX6_tryCut 38 = .ok (.iload_n 3, 1) := by decide +kernel
theorem dX6_tryCut_39 : decode cX6_tryCut 39 = .ok (.dup2, 1) := by decide +kernel
theorem dX6_tryCut_40 : decode cX6_tryCut 40 = .ok (.iaload, 1) := by decide +kernel
theorem dX6_tryCut_41 : decode cX6_tryCut 41 = .ok (.iconst 1, 1) := by decide +kernel
theorem dX6_tryCut_42 : decode cX6_tryCut 42 = .ok (.iadd, 1) := by decide +kernel
theorem dX6_tryCut_43 : decode cX6_tryCut 43 = .ok (.iastore, 1) := by decide +kernel
theorem dX6_tryCut_44 : decode cX6_tryCut 44 = .ok (.return_, 1) := by decide +kernel
set_option maxRecDepth 20000 in
theorem ggX6_findCuts_X6_tryCut : GoodIn wsX6_findCuts wsX6_tryCut := goodIn_r _ [7, 2, 8, 1, 9, 10, 11, 6, 12, 13, 14, 15, 16, 17, 18, 19, 20, 21, 22, 23, 24, 25, 26, 27, 28, 29, 30, 31, 32, 33, 34, 35, 36, 37, 38, 39, 40, 41, 42, 43, 44, 45, 46, 47, 48, 49, 50, 51, 52, 53] (by decide +kernel) (by decide +kernel)
set_option maxRecDepth 20000 in
theorem gX6_findCuts_X6_tryCut : GoodIn wsX6_findCuts (wsV RX6 120 RX6 yX6_tryCut wsX6_tryCut) := goodIn_app (goodIn_of _ (by decide +kernel)) ggX6_findCuts_X6_tryCut
theorem dX6_findCuts_0 : decode cX6_findCuts 0 = .ok (.aload_n 0, 1) := by decide +kernel
theorem dX6_findCuts_1 : decode cX6_findCuts 1 = .ok (.getfield 40, 3) := by decide +kernel
theorem dX6_findCuts_4 : decode cX6_findCuts 4 = .ok (.aload_n 0, 1) := by decide +kernel
theorem dX6_findCuts_5 : decode cX6_findCuts 5 = .ok (.getfield 37, 3) := by decide +kernel
theorem dX6_findCuts_8 : decode cX6_findCuts 8 = .ok (.iload_n 1, 1) := by decide +kernel
theorem dX6_findCuts_9 : decode cX6_findCuts 9 = .ok (.iaload, 1) := by decide +kernel
theorem dX6_findCuts_10 : decode cX6_findCuts 10 = .ok (.iconst 0, 1) := by decide +kernel
theorem dX6_findCuts_11 : decode cX6_findCuts 11 = .ok (.iastore, 1) := by decide +kernel
theorem dX6_findCuts_12 : decode cX6_findCuts 12 = .ok (.iconst 0, 1) := by decide +kernel
theorem dX6_findCuts_13 : decode cX6_findCuts 13 = .ok (.istore_n 2, 1) := by decide +kernel
theorem dX6_findCuts_14 : decode cX6_findCuts 14 = .ok (.iload_n 2, 1) := by decide +kernel
theorem dX6_findCuts_15 : decode cX6_findCuts 15 = .ok (.iload_n 1, 1) := by decide +kernel
theorem dX6_findCuts_16 : decode cX6_findCuts 16 = .ok (.if_icmp .ge 74, 3) := by decide +kernel
theorem dX6_findCuts_19 : decode cX6_findCuts 19 = .ok (.aload_n 0, 1) := by decide +kernel
theorem dX6_findCuts_20 : decode cX6_findCuts 20 = .ok (.iload_n 1, 1) := by decide +kernel
theorem dX6_findCuts_21 : decode cX6_findCuts 21 = .ok (.iconst 1, 1) := by decide +kernel
theorem dX6_findCuts_22 : decode cX6_findCuts 22 = .ok (.iload_n 2, 1) := by decide +kernel
theorem dX6_findCuts_23 : decode cX6_findCuts 23 = .ok (.ishl, 1) := by decide +kernel
theorem dX6_findCuts_24 : decode cX6_findCuts 24 = .ok (.invokevirtual 120, 3) := by decide +kernel
theorem dX6_findCuts_27 : decode cX6_findCuts 27 = .ok (.iconst 0, 1) := by decide +kernel
theorem dX6_findCuts_28 : decode cX6_findCuts 28 = .ok (.istore_n 3, 1) := by decide +kernel
theorem dX6_findCuts_29 : decode cX6_findCuts 29 = .ok (.iload_n 3, 1) := by decide +kernel
theorem dX6_findCuts_30 : decode cX6_findCuts 30 = .ok (.iload_n 2, 1) := by decide +kernel
theorem dX6_findCuts_31 : decode cX6_findCuts 31 = .ok (.if_icmp .ge 53, 3) := by decide +kernel
theorem dX6_findCuts_34 : decode cX6_findCuts 34 = .ok (.aload_n 0, 1) := by decide +kernel
theorem dX6_findCuts_35 : decode cX6_findCuts 35 = .ok (.iload_n 1, 1) := by decide +kernel
theorem dX6_findCuts_36 : decode cX6_findCuts 36 = .ok (.iconst 1, 1) := by decide +kernel
theorem dX6_findCuts_37 : decode cX6_findCuts 37 = .ok (.iload_n 2, 1) := by decide +kernel
theorem dX6_findCuts_38 : decode cX6_findCuts 38 = .ok (.ishl, 1) := by decide +kernel
theorem dX6_findCuts_39 : decode cX6_findCuts 39 = .ok (.iconst 1, 1) := by decide +kernel
theorem dX6_findCuts_40 : decode cX6_findCuts 40 = .ok (.iload_n 3, 1) := by decide +kernel
theorem dX6_findCuts_41 : decode cX6_findCuts 41 = .ok (.ishl, 1) := by decide +kernel
theorem dX6_findCuts_42 : decode cX6_findCuts 42 = .ok (.ior, 1) := by decide +kernel
theorem dX6_findCuts_43 : decode cX6_findCuts 43 = .ok (.invokevirtual 120, 3) := by decide +kernel
theorem dX6_findCuts_46 : decode cX6_findCuts 46 = .ok (.iconst 0, 1) := by decide +kernel
theorem dX6_findCuts_47 : decode cX6_findCuts 47 = .ok (.istore 4, 2) := by decide +kernel
theorem dX6_findCuts_49 : decode cX6_findCuts 49 = .ok (.iload 4, 2) := by decide +kernel
theorem dX6_findCuts_51 : decode cX6_findCuts 51 = .ok (.iload_n 3, 1) := by decide +kernel
theorem dX6_findCuts_52 : decode cX6_findCuts 52 = .ok (.if_icmp .ge 26, 3) := by decide +kernel
theorem dX6_findCuts_55 : decode cX6_findCuts 55 = .ok (.aload_n 0, 1) := by decide +kernel
theorem dX6_findCuts_56 : decode cX6_findCuts 56 = .ok (.iload_n 1, 1) := by decide +kernel
theorem dX6_findCuts_57 : decode cX6_findCuts 57 = .ok (.iconst 1, 1) := by decide +kernel
theorem dX6_findCuts_58 : decode cX6_findCuts 58 = .ok (.iload_n 2, 1) := by decide +kernel
theorem dX6_findCuts_59 : decode cX6_findCuts 59 = .ok (.ishl, 1) := by decide +kernel
theorem dX6_findCuts_60 : decode cX6_findCuts 60 = .ok (.iconst 1, 1) := by decide +kernel
theorem dX6_findCuts_61 : decode cX6_findCuts 61 = .ok (.iload_n 3, 1) := by decide +kernel
theorem dX6_findCuts_62 : decode cX6_findCuts 62 = .ok (.ishl, 1) := by decide +kernel
theorem dX6_findCuts_63 : decode cX6_findCuts 63 = .ok (.ior, 1) := by decide +kernel
theorem dX6_findCuts_64 : decode cX6_findCuts 64 = .ok (.iconst 1, 1) := by decide +kernel
theorem dX6_findCuts_65 : decode cX6_findCuts 65 = .ok (.iload 4, 2) := by decide +kernel
theorem dX6_findCuts_67 : decode cX6_findCuts 67 = .ok (.ishl, 1) := by decide +kernel
theorem dX6_findCuts_68 : decode cX6_findCuts 68 = .ok (.ior, 1) := by decide +kernel
theorem dX6_findCuts_69 : decode cX6_findCuts 69 = .ok (.invokevirtual 120, 3) := by decide +kernel
theorem dX6_findCuts_72 : decode cX6_findCuts 72 = .ok (.iinc 4 1, 3) := by decide +kernel
theorem dX6_findCuts_75 : decode cX6_findCuts 75 = .ok (.goto (-26), 3) := by decide +kernel
theorem dX6_findCuts_78 : decode cX6_findCuts 78 = .ok (.iinc 3 1, 3) := by decide +kernel
theorem dX6_findCuts_81 : decode cX6_findCuts 81 = .ok (.goto (-52), 3) := by decide +kernel
theorem dX6_findCuts_84 : decode cX6_findCuts 84 = .ok (.iinc 2 1, 3) := by decide +kernel
theorem dX6_findCuts_87 : decode cX6_findCuts 87 = .ok (.goto (-73), 3) := by decide +kernel
theorem dX6_findCuts_90 : decode cX6_findCuts 90 = .ok (.return_, 1) := by decide +kernel
set_option maxRecDepth 20000 in
theorem ggX6_cutsOf_X6_isInput : GoodIn wsX6_cutsOf wsX6_isInput := goodIn_r _ [7, 8, 9, 10, 11, 12, 13, 14, 15, 16, 17, 18, 19, 20, 21, 22, 23, 24, 25, 26, 27, 28, 29, 30, 31, 32, 33, 34, 35] (by decide +kernel) (by decide +kernel)
set_option maxRecDepth 20000 in
theorem gX6_cutsOf_X6_isInput : GoodIn wsX6_cutsOf (wsV RX6 111 RX6 yX6_isInput wsX6_isInput) := goodIn_app (goodIn_of _ (by decide +kernel)) ggX6_cutsOf_X6_isInput
theorem dX6_cutsOf_0 : decode cX6_cutsOf 0 = .ok (.aload_n 0, 1) := by decide +kernel
theorem dX6_cutsOf_1 : decode cX6_cutsOf 1 = .ok (.iload_n 1, 1) := by decide +kernel
theorem dX6_cutsOf_2 : decode cX6_cutsOf 2 = .ok (.invokevirtual 111, 3) := by decide +kernel
theorem dX6_cutsOf_5 : decode cX6_cutsOf 5 = .ok (.ifCond .eq 7, 3) := by decide +kernel
theorem dX6_cutsOf_8 : decode cX6_cutsOf 8 = .ok (.iconst 0, 1) := by decide +kernel
theorem dX6_cutsOf_9 : decode cX6_cutsOf 9 = .ok (.goto 14, 3) := by decide +kernel
theorem dX6_cutsOf_12 : decode cX6_cutsOf 12 = .ok (.aload_n 0, 1) := by decide +kernel
theorem dX6_cutsOf_13 : decode cX6_cutsOf 13 = .ok (.getfield 40, 3) := by decide +kernel
theorem dX6_cutsOf_16 : decode cX6_cutsOf 16 = .ok (.aload_n 0, 1) := by decide +kernel
theorem dX6_cutsOf_17 : decode cX6_cutsOf 17 = .ok (.getfield 37, 3) := by decide +kernel
theorem dX6_cutsOf_20 : decode cX6_cutsOf 20 = .ok (.iload_n 1, 1) := by decide +kernel
theorem dX6_cutsOf_21 : decode cX6_cutsOf 21 = .ok (.iaload, 1) := by decide +kernel
theorem dX6_cutsOf_22 : decode cX6_cutsOf 22 = .ok (.iaload, 1) := by decide +kernel
theorem dX6_cutsOf_23 : decode cX6_cutsOf 23 = .ok (.ireturn, 1) := by decide +kernel
set_option maxRecDepth 20000 in
theorem ggX6_cuts_X6_isIn : GoodIn wsX6_cuts wsX6_isIn := goodIn_r _ [6] (by decide +kernel) (by decide +kernel)
set_option maxRecDepth 20000 in
theorem gX6_cuts_X6_isIn : GoodIn wsX6_cuts (va_wsS RX6 82 yX6_isIn wsX6_isIn) := goodIn_app (goodIn_of _ (by decide +kernel)) ggX6_cuts_X6_isIn
set_option maxRecDepth 20000 in
theorem ggX6_cuts_X6_cutsOf : GoodIn wsX6_cuts wsX6_cutsOf := goodIn_r _ [10, 11, 12, 13, 14, 15, 5, 16, 17, 18, 19, 20, 21, 22, 23, 24, 25, 26, 27, 28, 29, 30, 31, 32, 33, 34, 35, 36, 37, 38, 39, 40, 41, 42, 43, 44] (by decide +kernel) (by decide +kernel)
set_option maxRecDepth 20000 in
theorem gX6_cuts_X6_cutsOf : GoodIn wsX6_cuts (wsV RX6 124 RX6 yX6_cutsOf wsX6_cutsOf) := goodIn_app (goodIn_of _ (by decide +kernel)) ggX6_cuts_X6_cutsOf
theorem dX6_cuts_0 : decode cX6_cuts 0 = .ok (.aload_n 0, 1) := by decide +kernel
theorem dX6_cuts_1 : decode cX6_cuts 1 = .ok (.iload_n 1, 1) := by decide +kernel
theorem dX6_cuts_2 : decode cX6_cuts 2 = .ok (.aload_n 0, 1) := by decide +kernel
theorem dX6_cuts_3 : decode cX6_cuts 3 = .ok (.getfield 79, 3) := by decide +kernel
theorem dX6_cuts_6 : decode cX6_cuts 6 = .ok (.invokestatic 82, 3) := by decide +kernel
theorem dX6_cuts_9 : decode cX6_cuts 9 = .ok (.ifCond .eq 7, 3) := by decide +kernel
theorem dX6_cuts_12 : decode cX6_cuts 12 = .ok (.iconst 0, 1) := by decide +kernel
theorem dX6_cuts_13 : decode cX6_cuts 13 = .ok (.goto 4, 3) := by decide +kernel
theorem dX6_cuts_16 : decode cX6_cuts 16 = .ok (.iconst 1, 1) := by decide +kernel
theorem dX6_cuts_17 : decode cX6_cuts 17 = .ok (.putfield 75, 3) := by decide +kernel
theorem dX6_cuts_20 : decode cX6_cuts 20 = .ok (.aload_n 0, 1) := by decide +kernel
theorem dX6_cuts_21 : decode cX6_cuts 21 = .ok (.getfield 75, 3) := by decide +kernel
theorem dX6_cuts_24 : decode cX6_cuts 24 = .ok (.ifCond .le 7, 3) := by decide +kernel
theorem dX6_cuts_27 : decode cX6_cuts 27 = .ok (.iconst 0, 1) := by decide +kernel
theorem dX6_cuts_28 : decode cX6_cuts 28 = .ok (.goto 8, 3) := by decide +kernel
theorem dX6_cuts_31 : decode cX6_cuts 31 = .ok (.aload_n 0, 1) := by decide +kernel
theorem dX6_cuts_32 : decode cX6_cuts 32 = .ok (.iload_n 1, 1) := by decide +kernel
theorem dX6_cuts_33 : decode cX6_cuts 33 = .ok (.invokevirtual 124, 3) := by decide +kernel
theorem dX6_cuts_36 : decode cX6_cuts 36 = .ok (.ireturn, 1) := by decide +kernel
set_option maxRecDepth 20000 in
theorem ggX6_cut_X6_isIn : GoodIn wsX6_cut wsX6_isIn := goodIn_r _ [10] (by decide +kernel) (by decide +kernel)
set_option maxRecDepth 20000 in
theorem gX6_cut_X6_isIn : GoodIn wsX6_cut (va_wsS RX6 82 yX6_isIn wsX6_isIn) := goodIn_app (goodIn_of _ (by decide +kernel)) ggX6_cut_X6_isIn
set_option maxRecDepth 20000 in
theorem ggX6_cut_X6_cutsOf : GoodIn wsX6_cut wsX6_cutsOf := goodIn_r _ [14, 15, 4, 16, 17, 18, 9, 19, 20, 21, 22, 23, 24, 25, 26, 27, 28, 29, 30, 31, 32, 33, 34, 35, 36, 37, 38, 39, 40, 41, 42, 43, 44, 45, 46, 47] (by decide +kernel) (by decide +kernel)
set_option maxRecDepth 20000 in
theorem gX6_cut_X6_cutsOf : GoodIn wsX6_cut (wsV RX6 124 RX6 yX6_cutsOf wsX6_cutsOf) := goodIn_app (goodIn_of _ (by decide +kernel)) ggX6_cut_X6_cutsOf
theorem dX6_cut_0 : decode cX6_cut 0 = .ok (.aload_n 0, 1) := by decide +kernel
theorem dX6_cut_1 : decode cX6_cut 1 = .ok (.iload_n 1, 1) := by decide +kernel
theorem dX6_cut_2 : decode cX6_cut 2 = .ok (.aload_n 0, 1) := by decide +kernel
theorem dX6_cut_3 : decode cX6_cut 3 = .ok (.getfield 79, 3) := by decide +kernel
theorem dX6_cut_6 : decode cX6_cut 6 = .ok (.invokestatic 82, 3) := by decide +kernel
theorem dX6_cut_9 : decode cX6_cut 9 = .ok (.ifCond .eq 11, 3) := by decide +kernel
theorem dX6_cut_12 : decode cX6_cut 12 = .ok (.iload_n 2, 1) := by decide +kernel
theorem dX6_cut_13 : decode cX6_cut 13 = .ok (.ifCond .lt 7, 3) := by decide +kernel
theorem dX6_cut_16 : decode cX6_cut 16 = .ok (.iconst 0, 1) := by decide +kernel
theorem dX6_cut_17 : decode cX6_cut 17 = .ok (.goto 4, 3) := by decide +kernel
theorem dX6_cut_20 : decode cX6_cut 20 = .ok (.iconst 1, 1) := by decide +kernel
theorem dX6_cut_21 : decode cX6_cut 21 = .ok (.putfield 75, 3) := by decide +kernel
theorem dX6_cut_24 : decode cX6_cut 24 = .ok (.aload_n 0, 1) := by decide +kernel
theorem dX6_cut_25 : decode cX6_cut 25 = .ok (.getfield 75, 3) := by decide +kernel
theorem dX6_cut_28 : decode cX6_cut 28 = .ok (.ifCond .le 5, 3) := by decide +kernel
theorem dX6_cut_31 : decode cX6_cut 31 = .ok (.lconst 0, 1) := by decide +kernel
theorem dX6_cut_32 : decode cX6_cut 32 = .ok (.lreturn, 1) := by decide +kernel
theorem dX6_cut_33 : decode cX6_cut 33 = .ok (.iload_n 2, 1) := by decide +kernel
theorem dX6_cut_34 : decode cX6_cut 34 = .ok (.aload_n 0, 1) := by decide +kernel
theorem dX6_cut_35 : decode cX6_cut 35 = .ok (.iload_n 1, 1) := by decide +kernel
theorem dX6_cut_36 : decode cX6_cut 36 = .ok (.invokevirtual 124, 3) := by decide +kernel
theorem dX6_cut_39 : decode cX6_cut 39 = .ok (.if_icmp .ge 28, 3) := by decide +kernel
theorem dX6_cut_42 : decode cX6_cut 42 = .ok (.aload_n 0, 1) := by decide +kernel
theorem dX6_cut_43 : decode cX6_cut 43 = .ok (.getfield 44, 3) := by decide +kernel
theorem dX6_cut_46 : decode cX6_cut 46 = .ok (.sipush 5000, 3) := by decide +kernel
theorem dX6_cut_49 : decode cX6_cut 49 = .ok (.aload_n 0, 1) := by decide +kernel
theorem dX6_cut_50 : decode cX6_cut 50 = .ok (.getfield 37, 3) := by decide +kernel
theorem dX6_cut_53 : decode cX6_cut 53 = .ok (.iload_n 1, 1) := by decide +kernel
theorem dX6_cut_54 : decode cX6_cut 54 = .ok (.iaload, 1) := by decide +kernel
theorem dX6_cut_55 : decode cX6_cut 55 = .ok (.imul, 1) := by decide +kernel
theorem dX6_cut_56 : decode cX6_cut 56 = .ok (.iload_n 2, 1) := by decide +kernel
theorem dX6_cut_57 : decode cX6_cut 57 = .ok (.iadd, 1) := by decide +kernel
theorem dX6_cut_58 : decode cX6_cut 58 = .ok (.iaload, 1) := by decide +kernel
theorem dX6_cut_59 : decode cX6_cut 59 = .ok (.i2l, 1) := by decide +kernel
theorem dX6_cut_60 : decode cX6_cut 60 = .ok (.ldc2_w 127, 3) := by decide +kernel
theorem dX6_cut_63 : decode cX6_cut 63 = .ok (.land, 1) := by decide +kernel
theorem dX6_cut_64 : decode cX6_cut 64 = .ok (.goto 6, 3) := by decide +kernel
theorem dX6_cut_67 : decode cX6_cut 67 = .ok (.ldc2_w 129, 3) := by decide +kernel
theorem dX6_cut_70 : decode cX6_cut 70 = .ok (.lreturn, 1) := by decide +kernel
theorem dX6_spread_0 : decode cX6_spread 0 = .ok (.iconst 0, 1) := by decide +kernel
theorem dX6_spread_1 : decode cX6_spread 1 = .ok (.istore_n 2, 1) := by decide +kernel
theorem dX6_spread_2 : decode cX6_spread 2 = .ok (.iconst 0, 1) := by decide +kernel
theorem dX6_spread_3 : decode cX6_spread 3 = .ok (.istore_n 3, 1) := by decide +kernel
theorem dX6_spread_4 : decode cX6_spread 4 = .ok (.iload_n 3, 1) := by decide +kernel
theorem dX6_spread_5 : decode cX6_spread 5 = .ok (.aload_n 0, 1) := by decide +kernel
theorem dX6_spread_6 : decode cX6_spread 6 = .ok (.getfield 79, 3) := by decide +kernel
theorem dX6_spread_9 : decode cX6_spread 9 = .ok (.if_icmp .ge 28, 3) := by decide +kernel
theorem dX6_spread_12 : decode cX6_spread 12 = .ok (.iload_n 1, 1) := by decide +kernel
theorem dX6_spread_13 : decode cX6_spread 13 = .ok (.iload_n 3, 1) := by decide +kernel
theorem dX6_spread_14 : decode cX6_spread 14 = .ok (.iushr, 1) := by decide +kernel
theorem dX6_spread_15 : decode cX6_spread 15 = .ok (.iconst 1, 1) := by decide +kernel
theorem dX6_spread_16 : decode cX6_spread 16 = .ok (.iand, 1) := by decide +kernel
theorem dX6_spread_17 : decode cX6_spread 17 = .ok (.iconst 1, 1) := by decide +kernel
theorem dX6_spread_18 : decode cX6_spread 18 = .ok (.if_icmp .ne 13, 3) := by decide +kernel
theorem dX6_spread_21 : decode cX6_spread 21 = .ok (.aload_n 0, 1) := by decide +kernel
theorem dX6_spread_22 : decode cX6_spread 22 = .ok (.getfield 66, 3) := by decide +kernel
theorem dX6_spread_25 : decode cX6_spread 25 = .ok (.iload_n 2, 1) := by decide +kernel
theorem dX6_spread_26 : decode cX6_spread 26 = .ok (.iload_n 3, 1) := by decide +kernel
theorem dX6_spread_27 : decode cX6_spread 27 = .ok (.iastore, 1) := by decide +kernel
theorem dX6_spread_28 : decode cX6_spread 28 = .ok (.iinc 2 1, 3) := by decide +kernel
theorem dX6_spread_31 : decode cX6_spread 31 = .ok (.iinc 3 1, 3) := by decide +kernel
