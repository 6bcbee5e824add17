theorem dX6_value_13 : decode cX6_value 13 = .ok (.iconst 1, 1) := by decide +kernel
theorem dX6_value_14 : decode cX6_value 14 = .ok (.putfield 75, 3) := by decide +kernel
theorem dX6_value_17 : decode cX6_value 17 = .ok (.aload_n 0, 1) := by decide +kernel
theorem dX6_value_18 : decode cX6_value 18 = .ok (.getfield 75, 3) := by decide +kernel
theorem dX6_value_21 : decode cX6_value 21 = .ok (.ifCond .le 5, 3) := by decide +kernel
theorem dX6_value_24 : decode cX6_value 24 = .ok (.iconst 0, 1) := by decide +kernel
theorem dX6_value_25 : decode cX6_value 25 = .ok (.ireturn, 1) := by decide +kernel
theorem dX6_value_26 : decode cX6_value 26 = .ok (.aload_n 0, 1) := by decide +kernel
theorem dX6_value_27 : decode cX6_value 27 = .ok (.iload_n 2, 1) := by decide +kernel
theorem dX6_value_28 : decode cX6_value 28 = .ok (.invokevirtual 182, 3) := by decide +kernel
theorem dX6_value_31 : decode cX6_value 31 = .ok (.iconst 0, 1) := by decide +kernel
theorem dX6_value_32 : decode cX6_value 32 = .ok (.istore_n 3, 1) := by decide +kernel
theorem dX6_value_33 : decode cX6_value 33 = .ok (.iload_n 3, 1) := by decide +kernel
theorem dX6_value_34 : decode cX6_value 34 = .ok (.aload_n 0, 1) := by decide +kernel
theorem dX6_value_35 : decode cX6_value 35 = .ok (.getfield 79, 3) := by decide +kernel
theorem dX6_value_38 : decode cX6_value 38 = .ok (.if_icmp .ge 68, 3) := by decide +kernel
theorem dX6_value_41 : decode cX6_value 41 = .ok (.aload_n 0, 1) := by decide +kernel
theorem dX6_value_42 : decode cX6_value 42 = .ok (.iload_n 3, 1) := by decide +kernel
theorem dX6_value_43 : decode cX6_value 43 = .ok (.invokevirtual 111, 3) := by decide +kernel
theorem dX6_value_46 : decode cX6_value 46 = .ok (.ifCond .ne 54, 3) := by decide +kernel
theorem dX6_value_49 : decode cX6_value 49 = .ok (.aload_n 0, 1) := by decide +kernel
theorem dX6_value_50 : decode cX6_value 50 = .ok (.getfield 63, 3) := by decide +kernel
theorem dX6_value_53 : decode cX6_value 53 = .ok (.iload_n 3, 1) := by decide +kernel
theorem dX6_value_54 : decode cX6_value 54 = .ok (.aload_n 0, 1) := by decide +kernel
theorem dX6_value_55 : decode cX6_value 55 = .ok (.getfield 7, 3) := by decide +kernel
theorem dX6_value_58 : decode cX6_value 58 = .ok (.iload_n 3, 1) := by decide +kernel
theorem dX6_value_59 : decode cX6_value 59 = .ok (.iaload, 1) := by decide +kernel
theorem dX6_value_60 : decode cX6_value 60 = .ok (.aload_n 0, 1) := by decide +kernel
theorem dX6_value_61 : decode cX6_value 61 = .ok (.getfield 63, 3) := by decide +kernel
theorem dX6_value_64 : decode cX6_value 64 = .ok (.aload_n 0, 1) := by decide +kernel
theorem dX6_value_65 : decode cX6_value 65 = .ok (.getfield 7, 3) := by decide +kernel
theorem dX6_value_68 : decode cX6_value 68 = .ok (.iload_n 3, 1) := by decide +kernel
theorem dX6_value_69 : decode cX6_value 69 = .ok (.iaload, 1) := by decide +kernel
theorem dX6_value_70 : decode cX6_value 70 = .ok (.iconst 2, 1) := by decide +kernel
theorem dX6_value_71 : decode cX6_value 71 = .ok (.idiv, 1) := by decide +kernel
theorem dX6_value_72 : decode cX6_value 72 = .ok (.iaload, 1) := by decide +kernel
theorem dX6_value_73 : decode cX6_value 73 = .ok (.invokestatic 131, 3) := by decide +kernel
theorem dX6_value_76 : decode cX6_value 76 = .ok (.aload_n 0, 1) := by decide +kernel
theorem dX6_value_77 : decode cX6_value 77 = .ok (.getfield 13, 3) := by decide +kernel
theorem dX6_value_80 : decode cX6_value 80 = .ok (.iload_n 3, 1) := by decide +kernel
theorem dX6_value_81 : decode cX6_value 81 = .ok (.iaload, 1) := by decide +kernel
theorem dX6_value_82 : decode cX6_value 82 = .ok (.aload_n 0, 1) := by decide +kernel
theorem dX6_value_83 : decode cX6_value 83 = .ok (.getfield 63, 3) := by decide +kernel
theorem dX6_value_86 : decode cX6_value 86 = .ok (.aload_n 0, 1) := by decide +kernel
theorem dX6_value_87 : decode cX6_value 87 = .ok (.getfield 13, 3) := by decide +kernel
theorem dX6_value_90 : decode cX6_value 90 = .ok (.iload_n 3, 1) := by decide +kernel
theorem dX6_value_91 : decode cX6_value 91 = .ok (.iaload, 1) := by decide +kernel
theorem dX6_value_92 : decode cX6_value 92 = .ok (.iconst 2, 1) := by decide +kernel
theorem dX6_value_93 : decode cX6_value 93 = .ok (.idiv, 1) := by decide +kernel
theorem dX6_value_94 : decode cX6_value 94 = .ok (.iaload, 1) := by decide +kernel
theorem dX6_value_95 : decode cX6_value 95 = .ok (.invokestatic 131, 3) := by decide +kernel
theorem dX6_value_98 : decode cX6_value 98 = .ok (.iand, 1) := by decide +kernel
theorem dX6_value_99 : decode cX6_value 99 = .ok (.iastore, 1) := by decide +kernel
theorem dX6_value_100 : decode cX6_value 100 = .ok (.iinc 3 1, 3) := by decide +kernel
theorem dX6_value_103 : decode cX6_value 103 = .ok (.goto (-70), 3) := by decide +kernel
theorem dX6_value_106 : decode cX6_value 106 = .ok (.iload_n 1, 1) := by decide +kernel
theorem dX6_value_107 : decode cX6_value 107 = .ok (.aload_n 0, 1) := by decide +kernel
theorem dX6_value_108 : decode cX6_value 108 = .ok (.getfield 63, 3) := by decide +kernel
theorem dX6_value_111 : decode cX6_value 111 = .ok (.iload_n 1, 1) := by decide +kernel
theorem dX6_value_112 : decode cX6_value 112 = .ok (.iconst 2, 1) := by decide +kernel
theorem dX6_value_113 : decode cX6_value 113 = .ok (.idiv, 1) := by decide +kernel
theorem dX6_value_114 : decode cX6_value 114 = .ok (.iaload, 1) := by decide +kernel
theorem dX6_value_115 : decode cX6_value 115 = .ok (.invokestatic 131, 3) := by decide +kernel
theorem dX6_value_118 : decode cX6_value 118 = .ok (.ireturn, 1) := by decide +kernel
theorem dX6_byGate_0 : decode cX6_byGate 0 = .ok (.iconst 0, 1) := by decide +kernel
theorem dX6_byGate_1 : decode cX6_byGate 1 = .ok (.istore_n 2, 1) := by decide +kernel
theorem dX6_byGate_2 : decode cX6_byGate 2 = .ok (.iconst 0, 1) := by decide +kernel
theorem dX6_byGate_3 : decode cX6_byGate 3 = .ok (.istore_n 3, 1) := by decide +kernel
theorem dX6_byGate_4 : decode cX6_byGate 4 = .ok (.iload_n 3, 1) := by decide +kernel
theorem dX6_byGate_5 : decode cX6_byGate 5 = .ok (.aload_n 0, 1) := by decide +kernel
theorem dX6_byGate_6 : decode cX6_byGate 6 = .ok (.getfield 25, 3) := by decide +kernel
theorem dX6_byGate_9 : decode cX6_byGate 9 = .ok (.aload_n 0, 1) := by decide +kernel
theorem dX6_byGate_10 : decode cX6_byGate 10 = .ok (.getfield 53, 3) := by decide +kernel
theorem dX6_byGate_13 : decode cX6_byGate 13 = .ok (.iload_n 1, 1) := by decide +kernel
theorem dX6_byGate_14 : decode cX6_byGate 14 = .ok (.iaload, 1) := by decide +kernel
theorem dX6_byGate_15 : decode cX6_byGate 15 = .ok (.iaload, 1) := by decide +kernel
theorem dX6_byGate_16 : decode cX6_byGate 16 = .ok (.if_icmp .ge 29, 3) := by decide +kernel
theorem dX6_byGate_19 : decode cX6_byGate 19 = .ok (.iload_n 2, 1) := by decide +kernel
theorem dX6_byGate_20 : decode cX6_byGate 20 = .ok (.aload_n 0, 1) := by decide +kernel
theorem dX6_byGate_21 : decode cX6_byGate 21 = .ok (.getfield 63, 3) := by decide +kernel
theorem dX6_byGate_24 : decode cX6_byGate 24 = .ok (.aload_n 0, 1) := by decide +kernel
theorem dX6_byGate_25 : decode cX6_byGate 25 = .ok (.getfield 56, 3) := by decide +kernel
theorem dX6_byGate_28 : decode cX6_byGate 28 = .ok (.iconst 3, 1) := by decide +kernel
theorem dX6_byGate_29 : decode cX6_byGate 29 = .ok (.iload_n 1, 1) := by decide +kernel
theorem dX6_byGate_30 : decode cX6_byGate 30 = .ok (.imul, 1) := by decide +kernel
theorem dX6_byGate_31 : decode cX6_byGate 31 = .ok (.iload_n 3, 1) := by decide +kernel
theorem dX6_byGate_32 : decode cX6_byGate 32 = .ok (.iadd, 1) := by decide +kernel
theorem dX6_byGate_33 : decode cX6_byGate 33 = .ok (.iaload, 1) := by decide +kernel
theorem dX6_byGate_34 : decode cX6_byGate 34 = .ok (.iaload, 1) := by decide +kernel
theorem dX6_byGate_35 : decode cX6_byGate 35 = .ok (.iload_n 3, 1) := by decide +kernel
theorem dX6_byGate_36 : decode cX6_byGate 36 = .ok (.ishl, 1) := by decide +kernel
theorem dX6_byGate_37 : decode cX6_byGate 37 = .ok (.ior, 1) := by decide +kernel
theorem dX6_byGate_38 : decode cX6_byGate 38 = .ok (.istore_n 2, 1) := by decide +kernel
theorem dX6_byGate_39 : decode cX6_byGate 39 = .ok (.iinc 3 1, 3) := by decide +kernel
theorem dX6_byGate_42 : decode cX6_byGate 42 = .ok (.goto (-38), 3) := by decide +kernel
theorem dX6_byGate_45 : decode cX6_byGate 45 = .ok (.aload_n 0, 1) := by decide +kernel
theorem dX6_byGate_46 : decode cX6_byGate 46 = .ok (.getfield 28, 3) := by decide +kernel
theorem dX6_byGate_49 : decode cX6_byGate 49 = .ok (.aload_n 0, 1) := by decide +kernel
theorem dX6_byGate_50 : decode cX6_byGate 50 = .ok (.getfield 53, 3) := by decide +kernel
theorem dX6_byGate_53 : decode cX6_byGate 53 = .ok (.iload_n 1, 1) := by decide +kernel
theorem dX6_byGate_54 : decode cX6_byGate 54 = .ok (.iaload, 1) := by decide +kernel
theorem dX6_byGate_55 : decode cX6_byGate 55 = .ok (.iaload, 1) := by decide +kernel
theorem dX6_byGate_56 : decode cX6_byGate 56 = .ok (.iload_n 2, 1) := by decide +kernel
theorem dX6_byGate_57 : decode cX6_byGate 57 = .ok (.ishr, 1) := by decide +kernel
theorem dX6_byGate_58 : decode cX6_byGate 58 = .ok (.iconst 1, 1) := by decide +kernel
theorem dX6_byGate_59 : decode cX6_byGate 59 = .ok (.iand, 1) := by decide +kernel
theorem dX6_byGate_60 : decode cX6_byGate 60 = .ok (.ireturn, 1) := by decide +kernel
theorem dX6_turnsOwn_0 : decode cX6_turnsOwn 0 = .ok (.aload_n 0, 1) := by decide +kernel
theorem dX6_turnsOwn_1 : decode cX6_turnsOwn 1 = .ok (.getfield 56, 3) := by decide +kernel
theorem dX6_turnsOwn_4 : decode cX6_turnsOwn 4 = .ok (.iconst 3, 1) := by decide +kernel
theorem dX6_turnsOwn_5 : decode cX6_turnsOwn 5 = .ok (.iload_n 1, 1) := by decide +kernel
theorem dX6_turnsOwn_6 : decode cX6_turnsOwn 6 = .ok (.imul, 1) := by decide +kernel
theorem dX6_turnsOwn_7 : decode cX6_turnsOwn 7 = .ok (.iaload, 1) := by decide +kernel
theorem dX6_turnsOwn_8 : decode cX6_turnsOwn 8 = .ok (.iload_n 1, 1) := by decide +kernel
theorem dX6_turnsOwn_9 : decode cX6_turnsOwn 9 = .ok (.iconst 1, 1) := by decide +kernel
theorem dX6_turnsOwn_10 : decode cX6_turnsOwn 10 = .ok (.ixor, 1) := by decide +kernel
theorem dX6_turnsOwn_11 : decode cX6_turnsOwn 11 = .ok (.if_icmp .ne 7, 3) := by decide +kernel
theorem dX6_turnsOwn_14 : decode cX6_turnsOwn 14 = .ok (.iconst 1, 1) := by decide +kernel
theorem dX6_turnsOwn_15 : decode cX6_turnsOwn 15 = .ok (.goto 4, 3) := by decide +kernel
theorem dX6_turnsOwn_18 : decode cX6_turnsOwn 18 = .ok (.iconst 0, 1) := by decide +kernel
theorem dX6_turnsOwn_19 : decode cX6_turnsOwn 19 = .ok (.ireturn, 1) := by decide +kernel
set_option maxRecDepth 20000 in
theorem ggX6_mapped_X6_isLiteral : GoodIn wsX6_mapped wsX6_isLiteral := goodIn_r _ [12, 6, 13, 14, 11, 15, 94, 95, 96, 97, 98, 99, 100, 101, 102, 103, 104, 105, 106, 107, 108, 109, 110, 111, 112, 113, 114, 115, 116, 117, 118, 119, 120] (by decide +kernel) (by decide +kernel)
set_option maxRecDepth 20000 in
theorem gX6_mapped_X6_isLiteral : GoodIn wsX6_mapped (wsV RX6 93 RX6 yX6_isLiteral wsX6_isLiteral) := goodIn_app (goodIn_of _ (by decide +kernel)) ggX6_mapped_X6_isLiteral
set_option maxRecDepth 20000 in
theorem ggX6_mapped_X6_settle : GoodIn wsX6_mapped wsX6_settle := goodIn_r _ [19, 20, 21, 2, 7, 22, 3, 5, 23, 6, 24, 25, 26, 11, 27, 28, 29, 30, 31, 32, 33, 34, 35, 36, 37, 38, 39, 40, 41, 42, 43, 44, 45, 46, 47, 48, 49, 50, 51, 52, 53, 54, 55, 56, 57, 58, 59, 60, 4, 61, 62, 63, 64, 65, 66, 67, 68, 69, 70, 71, 72, 73, 74, 75, 76, 77, 78, 79, 80, 81, 82, 83, 84, 85, 94, 95, 96, 97, 98, 99, 100, 101, 102, 103, 104, 105, 106, 107, 108, 109, 110, 111, 112, 113, 114, 115, 116, 117, 118, 119, 120] (by decide +kernel) (by decide +kernel)
set_option maxRecDepth 20000 in
theorem gX6_mapped_X6_settle : GoodIn wsX6_mapped (wsV RX6 172 RX6 yX6_settle wsX6_settle) := goodIn_app (goodIn_of _ (by decide +kernel)) ggX6_mapped_X6_settle
set_option maxRecDepth 20000 in
theorem ggX6_mapped_X6_turnsOwn : GoodIn wsX6_mapped wsX6_turnsOwn := goodIn_r _ [89, 22, 94, 95, 96, 97, 98, 99, 100, 101, 102, 103, 104, 105, 106, 107, 108, 109, 110, 111, 112, 113, 114, 115, 116, 117, 118, 119, 120] (by decide +kernel) (by decide +kernel)
set_option maxRecDepth 20000 in
theorem gX6_mapped_X6_turnsOwn : GoodIn wsX6_mapped (wsV RX6 185 RX6 yX6_turnsOwn wsX6_turnsOwn) := goodIn_app (goodIn_of _ (by decide +kernel)) ggX6_mapped_X6_turnsOwn
set_option maxRecDepth 20000 in
theorem ggX6_mapped_X6_byGate : GoodIn wsX6_mapped wsX6_byGate := goodIn_r _ [93, 34, 7, 4, 22, 35, 94, 95, 96, 97, 98, 99, 100, 101, 102, 103, 104, 105, 106, 107, 108, 109, 110, 111, 112, 113, 114, 115, 116, 117, 118, 119, 120] (by decide +kernel) (by decide +kernel)
set_option maxRecDepth 20000 in
theorem gX6_mapped_X6_byGate : GoodIn wsX6_mapped (wsV RX6 188 RX6 yX6_byGate wsX6_byGate) := goodIn_app (goodIn_of _ (by decide +kernel)) ggX6_mapped_X6_byGate
theorem dX6_mapped_0 : decode cX6_mapped 0 = .ok (.aload_n 0, 1) := by decide +kernel
theorem dX6_mapped_1 : decode cX6_mapped 1 = .ok (.aload_n 0, 1) := by decide +kernel
theorem dX6_mapped_2 : decode cX6_mapped 2 = .ok (.iload_n 1, 1) := by decide +kernel
theorem dX6_mapped_3 : decode cX6_mapped 3 = .ok (.invokevirtual 93, 3) := by decide +kernel
theorem dX6_mapped_6 : decode cX6_mapped 6 = .ok (.ifCond .eq 7, 3) := by decide +kernel
theorem dX6_mapped_9 : decode cX6_mapped 9 = .ok (.iconst 0, 1) := by decide +kernel
theorem dX6_mapped_10 : decode cX6_mapped 10 = .ok (.goto 4, 3) := by decide +kernel
theorem dX6_mapped_13 : decode cX6_mapped 13 = .ok (.iconst 1, 1) := by decide +kernel
theorem dX6_mapped_14 : decode cX6_mapped 14 = .ok (.putfield 75, 3) := by decide +kernel
theorem dX6_mapped_17 : decode cX6_mapped 17 = .ok (.aload_n 0, 1) := by decide +kernel
theorem dX6_mapped_18 : decode cX6_mapped 18 = .ok (.getfield 75, 3) := by decide +kernel
theorem dX6_mapped_21 : decode cX6_mapped 21 = .ok (.ifCond .le 5, 3) := by decide +kernel
theorem dX6_mapped_24 : decode cX6_mapped 24 = .ok (.iconst 0, 1) := by decide +kernel
theorem dX6_mapped_25 : decode cX6_mapped 25 = .ok (.ireturn, 1) := by decide +kernel
theorem dX6_mapped_26 : decode cX6_mapped 26 = .ok (.aload_n 0, 1) := by decide +kernel
theorem dX6_mapped_27 : decode cX6_mapped 27 = .ok (.invokevirtual 172, 3) := by decide +kernel
theorem dX6_mapped_30 : decode cX6_mapped 30 = .ok (.aload_n 0, 1) := by decide +kernel
theorem dX6_mapped_31 : decode cX6_mapped 31 = .ok (.getfield 50, 3) := by decide +kernel
theorem dX6_mapped_34 : decode cX6_mapped 34 = .ok (.iload_n 1, 1) := by decide +kernel
theorem dX6_mapped_35 : decode cX6_mapped 35 = .ok (.iaload, 1) := by decide +kernel
theorem dX6_mapped_36 : decode cX6_mapped 36 = .ok (.iconst (-1), 1) := by decide +kernel
theorem dX6_mapped_37 : decode cX6_mapped 37 = .ok (.if_icmp .ne 5, 3) := by decide +kernel
theorem dX6_mapped_40 : decode cX6_mapped 40 = .ok (.iconst (-1), 1) := by decide +kernel
theorem dX6_mapped_41 : decode cX6_mapped 41 = .ok (.ireturn, 1) := by decide +kernel
theorem dX6_mapped_42 : decode cX6_mapped 42 = .ok (.iconst 0, 1) := by decide +kernel
theorem dX6_mapped_43 : decode cX6_mapped 43 = .ok (.istore_n 3, 1) := by decide +kernel
theorem dX6_mapped_44 : decode cX6_mapped 44 = .ok (.iload_n 3, 1) := by decide +kernel
theorem dX6_mapped_45 : decode cX6_mapped 45 = .ok (.aload_n 0, 1) := by decide +kernel
theorem dX6_mapped_46 : decode cX6_mapped 46 = .ok (.getfield 86, 3) := by decide +kernel
theorem dX6_mapped_49 : decode cX6_mapped 49 = .ok (.if_icmp .ge 27, 3) := by decide +kernel
theorem dX6_mapped_52 : decode cX6_mapped 52 = .ok (.aload_n 0, 1) := by decide +kernel
theorem dX6_mapped_53 : decode cX6_mapped 53 = .ok (.getfield 63, 3) := by decide +kernel
theorem dX6_mapped_56 : decode cX6_mapped 56 = .ok (.iconst 2, 1) := by decide +kernel
theorem dX6_mapped_57 : decode cX6_mapped 57 = .ok (.aload_n 0, 1) := by decide +kernel
theorem dX6_mapped_58 : decode cX6_mapped 58 = .ok (.getfield 16, 3) := by decide +kernel
theorem dX6_mapped_61 : decode cX6_mapped 61 = .ok (.iload_n 3, 1) := by decide +kernel
theorem dX6_mapped_62 : decode cX6_mapped 62 = .ok (.iaload, 1) := by decide +kernel
theorem dX6_mapped_63 : decode cX6_mapped 63 = .ok (.imul, 1) := by decide +kernel
theorem dX6_mapped_64 : decode cX6_mapped 64 = .ok (.iload_n 2, 1) := by decide +kernel
theorem dX6_mapped_65 : decode cX6_mapped 65 = .ok (.iload_n 3, 1) := by decide +kernel
theorem dX6_mapped_66 : decode cX6_mapped 66 = .ok (.ishr, 1) := by decide +kernel
theorem dX6_mapped_67 : decode cX6_mapped 67 = .ok (.iconst 1, 1) := by decide +kernel
theorem dX6_mapped_68 : decode cX6_mapped 68 = .ok (.iand, 1) := by decide +kernel
theorem dX6_mapped_69 : decode cX6_mapped 69 = .ok (.iastore, 1) := by decide +kernel
theorem dX6_mapped_70 : decode cX6_mapped 70 = .ok (.iinc 3 1, 3) := by decide +kernel
theorem dX6_mapped_73 : decode cX6_mapped 73 = .ok (.goto (-29), 3) := by decide +kernel
theorem dX6_mapped_76 : decode cX6_mapped 76 = .ok (.iconst 0, 1) := by decide +kernel
theorem dX6_mapped_77 : decode cX6_mapped 77 = .ok (.istore_n 3, 1) := by decide +kernel
theorem dX6_mapped_78 : decode cX6_mapped 78 = .ok (.iload_n 3, 1) := by decide +kernel
theorem dX6_mapped_79 : decode cX6_mapped 79 = .ok (.aload_n 0, 1) := by decide +kernel
theorem dX6_mapped_80 : decode cX6_mapped 80 = .ok (.getfield 79, 3) := by decide +kernel
theorem dX6_mapped_83 : decode cX6_mapped 83 = .ok (.if_icmp .ge 78, 3) := by decide +kernel
theorem dX6_mapped_86 : decode cX6_mapped 86 = .ok (.iconst 0, 1) := by decide +kernel
theorem dX6_mapped_87 : decode cX6_mapped 87 = .ok (.istore 4, 2) := by decide +kernel
theorem dX6_mapped_89 : decode cX6_mapped 89 = .ok (.iload 4, 2) := by decide +kernel
theorem dX6_mapped_91 : decode cX6_mapped 91 = .ok (.iconst 4, 1) := by decide +kernel
theorem dX6_mapped_92 : decode cX6_mapped 92 = .ok (.if_icmp .ge 63, 3) := by decide +kernel
theorem dX6_mapped_95 : decode cX6_mapped 95 = .ok (.iconst 2, 1) := by decide +kernel
theorem dX6_mapped_96 : decode cX6_mapped 96 = .ok (.iload_n 3, 1) := by decide +kernel
theorem dX6_mapped_97 : decode cX6_mapped 97 = .ok (.imul, 1) := by decide +kernel
theorem dX6_mapped_98 : decode cX6_mapped 98 = .ok (.iload 4, 2) := by decide +kernel
theorem dX6_mapped_100 : decode cX6_mapped 100 = .ok (.iconst 1, 1) := by decide +kernel
theorem dX6_mapped_101 : decode cX6_mapped 101 = .ok (.iand, 1) := by decide +kernel
theorem dX6_mapped_102 : decode cX6_mapped 102 = .ok (.iadd, 1) := by decide +kernel
theorem dX6_mapped_103 : decode cX6_mapped 103 = .ok (.istore 5, 2) := by decide +kernel
theorem dX6_mapped_105 : decode cX6_mapped 105 = .ok (.aload_n 0, 1) := by decide +kernel
theorem dX6_mapped_106 : decode cX6_mapped 106 = .ok (.getfield 53, 3) := by decide +kernel
theorem dX6_mapped_109 : decode cX6_mapped 109 = .ok (.iload 5, 2) := by decide +kernel
theorem dX6_mapped_111 : decode cX6_mapped 111 = .ok (.iaload, 1) := by decide +kernel
theorem dX6_mapped_112 : decode cX6_mapped 112 = .ok (.iconst (-1), 1) := by decide +kernel
theorem dX6_mapped_113 : decode cX6_mapped 113 = .ok (.if_icmp .eq 36, 3) := by decide +kernel
theorem dX6_mapped_116 : decode cX6_mapped 116 = .ok (.aload_n 0, 1) := by decide +kernel
theorem dX6_mapped_117 : decode cX6_mapped 117 = .ok (.iload 5, 2) := by decide +kernel
theorem dX6_mapped_119 : decode cX6_mapped 119 = .ok (.invokevirtual 185, 3) := by decide +kernel
theorem dX6_mapped_122 : decode cX6_mapped 122 = .ok (.iload 4, 2) := by decide +kernel
theorem dX6_mapped_124 : decode cX6_mapped 124 = .ok (.iconst 1, 1) := by decide +kernel
theorem dX6_mapped_125 : decode cX6_mapped 125 = .ok (.if_icmp .le 7, 3) := by decide +kernel
theorem dX6_mapped_128 : decode cX6_mapped 128 = .ok (.iconst 1, 1) := by decide +kernel
theorem dX6_mapped_129 : decode cX6_mapped 129 = .ok (.goto 4, 3) := by decide +kernel
theorem dX6_mapped_132 : decode cX6_mapped 132 = .ok (.iconst 0, 1) := by decide +kernel
theorem dX6_mapped_133 : decode cX6_mapped 133 = .ok (.if_icmp .ne 16, 3) := by decide +kernel
theorem dX6_mapped_136 : decode cX6_mapped 136 = .ok (.aload_n 0, 1) := by decide +kernel
theorem dX6_mapped_137 : decode cX6_mapped 137 = .ok (.getfield 63, 3) := by decide +kernel
theorem dX6_mapped_140 : decode cX6_mapped 140 = .ok (.iload 5, 2) := by decide +kernel
theorem dX6_mapped_142 : decode cX6_mapped 142 = .ok (.aload_n 0, 1) := by decide +kernel
theorem dX6_mapped_143 : decode cX6_mapped 143 = .ok (.iload 5, 2) := by decide +kernel
theorem dX6_mapped_145 : decode cX6_mapped 145 = .ok (.invokevirtual 188, 3) := by decide +kernel
theorem dX6_mapped_148 : decode cX6_mapped 148 = .ok (.iastore, 1) := by decide +kernel
theorem dX6_mapped_149 : decode cX6_mapped 149 = .ok (.iinc 4 1, 3) := by decide +kernel
theorem dX6_mapped_152 : decode cX6_mapped 152 = .ok (.goto (-63), 3) := by decide +kernel
theorem dX6_mapped_155 : decode cX6_mapped 155 = .ok (.iinc 3 1, 3) := by decide +kernel
theorem dX6_mapped_158 : decode cX6_mapped 158 = .ok (.goto (-80), 3) := by decide +kernel
theorem dX6_mapped_161 : decode cX6_mapped 161 = .ok (.aload_n 0, 1) := by decide +kernel
theorem dX6_mapped_162 : decode cX6_mapped 162 = .ok (.getfield 63, 3) := by decide +kernel
theorem dX6_mapped_165 : decode cX6_mapped 165 = .ok (.iload_n 1, 1) := by decide +kernel
theorem dX6_mapped_166 : decode cX6_mapped 166 = .ok (.iaload, 1) := by decide +kernel
theorem dX6_mapped_167 : decode cX6_mapped 167 = .ok (.ireturn, 1) := by decide +kernel
set_option maxRecDepth 20000 in
theorem ggX6_count_X6_isIn : GoodIn wsX6_count wsX6_isIn := goodIn_r _ [9] (by decide +kernel) (by decide +kernel)
set_option maxRecDepth 20000 in
theorem gX6_count_X6_isIn : GoodIn wsX6_count (va_wsS RX6 82 yX6_isIn wsX6_isIn) := goodIn_app (goodIn_of _ (by decide +kernel)) ggX6_count_X6_isIn
theorem dX6_count_0 : decode cX6_count 0 = .ok (.aload_n 0, 1) := by decide +kernel
theorem dX6_count_1 : decode cX6_count 1 = .ok (.iload_n 1, 1) := by decide +kernel
theorem dX6_count_2 : decode cX6_count 2 = .ok (.iconst 4, 1) := by decide +kernel
theorem dX6_count_3 : decode cX6_count 3 = .ok (.invokestatic 82, 3) := by decide +kernel
theorem dX6_count_6 : decode cX6_count 6 = .ok (.ifCond .eq 7, 3) := by decide +kernel
theorem dX6_count_9 : decode cX6_count 9 = .ok (.iconst 0, 1) := by decide +kernel
theorem dX6_count_10 : decode cX6_count 10 = .ok (.goto 4, 3) := by decide +kernel
theorem dX6_count_13 : decode cX6_count 13 = .ok (.iconst 1, 1) := by decide +kernel
theorem dX6_count_14 : decode cX6_count 14 = .ok (.putfield 75, 3) := by decide +kernel
theorem dX6_count_17 : decode cX6_count 17 = .ok (.iload_n 1, 1) := by decide +kernel
theorem dX6_count_18 : decode cX6_count 18 = .ok (.ifCond .ne 10, 3) := by decide +kernel
theorem dX6_count_21 : decode cX6_count 21 = .ok (.aload_n 0, 1) := by decide +kernel
theorem dX6_count_22 : decode cX6_count 22 = .ok (.getfield 79, 3) := by decide +kernel
theorem dX6_count_25 : decode cX6_count 25 = .ok (.goto 40, 3) := by decide +kernel
theorem dX6_count_28 : decode cX6_count 28 = .ok (.iload_n 1, 1) := by decide +kernel
theorem dX6_count_29 : decode cX6_count 29 = .ok (.iconst 1, 1) := by decide +kernel
theorem dX6_count_30 : decode cX6_count 30 = .ok (.if_icmp .ne 10, 3) := by decide +kernel
theorem dX6_count_33 : decode cX6_count 33 = .ok (.aload_n 0, 1) := by decide +kernel
theorem dX6_count_34 : decode cX6_count 34 = .ok (.getfield 86, 3) := by decide +kernel
theorem dX6_count_37 : decode cX6_count 37 = .ok (.goto 28, 3) := by decide +kernel
theorem dX6_count_40 : decode cX6_count 40 = .ok (.iload_n 1, 1) := by decide +kernel
theorem dX6_count_41 : decode cX6_count 41 = .ok (.iconst 2, 1) := by decide +kernel
theorem dX6_count_42 : decode cX6_count 42 = .ok (.if_icmp .ne 10, 3) := by decide +kernel
theorem dX6_count_45 : decode cX6_count 45 = .ok (.aload_n 0, 1) := by decide +kernel
theorem dX6_count_46 : decode cX6_count 46 = .ok (.getfield 104, 3) := by decide +kernel
theorem dX6_count_49 : decode cX6_count 49 = .ok (.goto 16, 3) := by decide +kernel
theorem dX6_count_52 : decode cX6_count 52 = .ok (.iload_n 1, 1) := by decide +kernel
theorem dX6_count_53 : decode cX6_count 53 = .ok (.iconst 3, 1) := by decide +kernel
theorem dX6_count_54 : decode cX6_count 54 = .ok (.if_icmp .ne 10, 3) := by decide +kernel
theorem dX6_count_57 : decode cX6_count 57 = .ok (.aload_n 0, 1) := by decide +kernel
theorem dX6_count_58 : decode cX6_count 58 = .ok (.getfield 145, 3) := by decide +kernel
theorem dX6_count_61 : decode cX6_count 61 = .ok (.goto 4, 3) := by decide +kernel
theorem dX6_count_64 : decode cX6_count 64 = .ok (.iconst 0, 1) := by decide +kernel
theorem dX6_count_65 : decode cX6_count 65 = .ok (.ireturn, 1) := by decide +kernel
theorem dX6_clear_0 : decode cX6_clear 0 = .ok (.aload_n 0, 1) := by decide +kernel
theorem dX6_clear_1 : decode cX6_clear 1 = .ok (.iconst 0, 1) := by decide +kernel
theorem dX6_clear_2 : decode cX6_clear 2 = .ok (.putfield 75, 3) := by decide +kernel
theorem dX6_clear_5 : decode cX6_clear 5 = .ok (.aload_n 0, 1) := by decide +kernel
theorem dX6_clear_6 : decode cX6_clear 6 = .ok (.iconst 0, 1) := by decide +kernel
theorem dX6_clear_7 : decode cX6_clear 7 = .ok (.putfield 79, 3) := by decide +kernel
theorem dX6_clear_10 : decode cX6_clear 10 = .ok (.aload_n 0, 1) := by decide +kernel
theorem dX6_clear_11 : decode cX6_clear 11 = .ok (.iconst 0, 1) := by decide +kernel
theorem dX6_clear_12 : decode cX6_clear 12 = .ok (.putfield 86, 3) := by decide +kernel
theorem dX6_clear_15 : decode cX6_clear 15 = .ok (.aload_n 0, 1) := by decide +kernel
theorem dX6_clear_16 : decode cX6_clear 16 = .ok (.iconst 0, 1) := by decide +kernel
theorem dX6_clear_17 : decode cX6_clear 17 = .ok (.putfield 97, 3) := by decide +kernel
theorem dX6_clear_20 : decode cX6_clear 20 = .ok (.aload_n 0, 1) := by decide +kernel
theorem dX6_clear_21 : decode cX6_clear 21 = .ok (.iconst 0, 1) := by decide +kernel
theorem dX6_clear_22 : decode cX6_clear 22 = .ok (.putfield 104, 3) := by decide +kernel
theorem dX6_clear_25 : decode cX6_clear 25 = .ok (.aload_n 0, 1) := by decide +kernel
theorem dX6_clear_26 : decode cX6_clear 26 = .ok (.iconst 0, 1) := by decide +kernel
theorem dX6_clear_27 : decode cX6_clear 27 = .ok (.putfield 145, 3) := by decide +kernel
theorem dX6_clear_30 : decode cX6_clear 30 = .ok (.aload_n 0, 1) := by decide +kernel
theorem dX6_clear_31 : decode cX6_clear 31 = .ok (.iconst 1, 1) := by decide +kernel
theorem dX6_clear_32 : decode cX6_clear 32 = .ok (.putfield 89, 3) := by decide +kernel
theorem dX6_clear_35 : decode cX6_clear 35 = .ok (.return_, 1) := by decide +kernel
theorem dJ6_bitCount_0f7a4_0 : decode cJ6_bitCount_0f7a4 0 = .ok (.iload_n 0, 1) := by decide +kernel
theorem dJ6_bitCount_0f7a4_1 : decode cJ6_bitCount_0f7a4 1 = .ok (.iload_n 0, 1) := by decide +kernel
theorem dJ6_bitCount_0f7a4_2 : decode cJ6_bitCount_0f7a4 2 = .ok (.iconst 1, 1) := by decide +kernel
theorem dJ6_bitCount_0f7a4_3 : decode cJ6_bitCount_0f7a4 3 = .ok (.iushr, 1) := by decide +kernel
theorem dJ6_bitCount_0f7a4_4 : decode cJ6_bitCount_0f7a4 4 = .ok (.ldc_w 265, 3) := by decide +kernel
theorem dJ6_bitCount_0f7a4_7 : decode cJ6_bitCount_0f7a4 7 = .ok (.iand, 1) := by decide +kernel
theorem dJ6_bitCount_0f7a4_8 : decode cJ6_bitCount_0f7a4 8 = .ok (.isub, 1) := by decide +kernel
theorem dJ6_bitCount_0f7a4_9 : decode cJ6_bitCount_0f7a4 9 = .ok (.istore_n 0, 1) := by decide +kernel
theorem dJ6_bitCount_0f7a4_10 : decode cJ6_bitCount_0f7a4 10 = .ok (.iload_n 0, 1) := by decide +kernel
theorem dJ6_bitCount_0f7a4_11 : decode cJ6_bitCount_0f7a4 11 = .ok (.ldc_w 266, 3) := by decide +kernel
theorem dJ6_bitCount_0f7a4_14 : decode cJ6_bitCount_0f7a4 14 = .ok (.iand, 1) := by decide +kernel
theorem dJ6_bitCount_0f7a4_15 : decode cJ6_bitCount_0f7a4 15 = .ok (.iload_n 0, 1) := by decide +kernel
theorem dJ6_bitCount_0f7a4_16 : decode cJ6_bitCount_0f7a4 16 = .ok (.iconst 2, 1) := by decide +kernel
theorem dJ6_bitCount_0f7a4_17 : decode cJ6_bitCount_0f7a4 17 = .ok (.iushr, 1) := by decide +kernel
theorem dJ6_bitCount_0f7a4_18 : decode cJ6_bitCount_0f7a4 18 = .ok (.ldc_w 266, 3) := by decide +kernel
theorem dJ6_bitCount_0f7a4_21 : decode cJ6_bitCount_0f7a4 21 = .ok (.iand, 1) := by decide +kernel
theorem dJ6_bitCount_0f7a4_22 : decode cJ6_bitCount_0f7a4 22 = .ok (.iadd, 1) := by decide +kernel
theorem dJ6_bitCount_0f7a4_23 : decode cJ6_bitCount_0f7a4 23 = .ok (.istore_n 0, 1) := by decide +kernel
theorem dJ6_bitCount_0f7a4_24 : decode cJ6_bitCount_0f7a4 24 = .ok (.iload_n 0, 1) := by decide +kernel
theorem dJ6_bitCount_0f7a4_25 : decode cJ6_bitCount_0f7a4 25 = .ok (.iload_n 0, 1) := by decide +kernel
theorem dJ6_bitCount_0f7a4_26 : decode cJ6_bitCount_0f7a4 26 = .ok (.iconst 4, 1) := by decide +kernel
theorem dJ6_bitCount_0f7a4_27 : decode cJ6_bitCount_0f7a4 27 = .ok (.iushr, 1) := by decide +kernel
theorem dJ6_bitCount_0f7a4_28 : decode cJ6_bitCount_0f7a4 28 = .ok (.iadd, 1) := by decide +kernel
theorem dJ6_bitCount_0f7a4_29 : decode cJ6_bitCount_0f7a4 29 = .ok (.ldc_w 267, 3) := by decide +kernel
theorem dJ6_bitCount_0f7a4_32 : decode cJ6_bitCount_0f7a4 32 = .ok (.iand, 1) := by decide +kernel
theorem dJ6_bitCount_0f7a4_33 : decode cJ6_bitCount_0f7a4 33 = .ok (.istore_n 0, 1) := by decide +kernel
theorem dJ6_bitCount_0f7a4_34 : decode cJ6_bitCount_0f7a4 34 = .ok (.iload_n 0, 1) := by decide +kernel
theorem dJ6_bitCount_0f7a4_35 : decode cJ6_bitCount_0f7a4 35 = .ok (.iload_n 0, 1) := by decide +kernel
theorem dJ6_bitCount_0f7a4_36 : decode cJ6_bitCount_0f7a4 36 = .ok (.bipush 8, 2) := by decide +kernel
theorem dJ6_bitCount_0f7a4_38 : decode cJ6_bitCount_0f7a4 38 = .ok (.iushr, 1) := by decide +kernel
theorem dJ6_bitCount_0f7a4_39 : decode cJ6_bitCount_0f7a4 39 = .ok (.iadd, 1) := by decide +kernel
theorem dJ6_bitCount_0f7a4_40 : decode cJ6_bitCount_0f7a4 40 = .ok (.istore_n 0, 1) := by decide +kernel
theorem dJ6_bitCount_0f7a4_41 : decode cJ6_bitCount_0f7a4 41 = .ok (.iload_n 0, 1) := by decide +kernel
theorem dJ6_bitCount_0f7a4_42 : decode cJ6_bitCount_0f7a4 42 = .ok (.iload_n 0, 1) := by decide +kernel
theorem dJ6_bitCount_0f7a4_43 : decode cJ6_bitCount_0f7a4 43 = .ok (.bipush 16, 2) := by decide +kernel
theorem dJ6_bitCount_0f7a4_45 : decode cJ6_bitCount_0f7a4 45 = .ok (.iushr, 1) := by decide +kernel
theorem dJ6_bitCount_0f7a4_46 : decode cJ6_bitCount_0f7a4 46 = .ok (.iadd, 1) := by decide +kernel
theorem dJ6_bitCount_0f7a4_47 : decode cJ6_bitCount_0f7a4 47 = .ok (.istore_n 0, 1) := by decide +kernel
theorem dJ6_bitCount_0f7a4_48 : decode cJ6_bitCount_0f7a4 48 = .ok (.iload_n 0, 1) := by decide +kernel
theorem dJ6_bitCount_0f7a4_49 : decode cJ6_bitCount_0f7a4 49 = .ok (.bipush 63, 2) := by decide +kernel
theorem dJ6_bitCount_0f7a4_51 : decode cJ6_bitCount_0f7a4 51 = .ok (.iand, 1) := by decide +kernel
theorem dJ6_bitCount_0f7a4_52 : decode cJ6_bitCount_0f7a4 52 = .ok (.ireturn, 1) := by decide +kernel
theorem dJ13_bitCount_95d88_0 : decode cJ13_bitCount_95d88 0 = .ok (.lload_n 0, 1) := by decide +kernel
theorem dJ13_bitCount_95d88_1 : decode cJ13_bitCount_95d88 1 = .ok (.lload_n 0, 1) := by decide +kernel
theorem dJ13_bitCount_95d88_2 : decode cJ13_bitCount_95d88 2 = .ok (.iconst 1, 1) := by decide +kernel
theorem dJ13_bitCount_95d88_3 : decode cJ13_bitCount_95d88 3 = .ok (.lushr, 1) := by decide +kernel
theorem dJ13_bitCount_95d88_4 : decode cJ13_bitCount_95d88 4 = .ok (.ldc2_w 314, 3) := by decide +kernel
theorem dJ13_bitCount_95d88_7 : decode cJ13_bitCount_95d88 7 = .ok (.land, 1) := by decide +kernel
theorem dJ13_bitCount_95d88_8 : decode cJ13_bitCount_95d88 8 = .ok (.lsub, 1) := by decide +kernel
theorem dJ13_bitCount_95d88_9 : decode cJ13_bitCount_95d88 9 = .ok (.lstore_n 0, 1) := by decide +kernel
theorem dJ13_bitCount_95d88_10 : decode cJ13_bitCount_95d88 10 = .ok (.lload_n 0, 1) := by decide +kernel
theorem dJ13_bitCount_95d88_11 : decode cJ13_bitCount_95d88 11 = .ok (.ldc2_w 316, 3) := by decide +kernel
theorem dJ13_bitCount_95d88_14 : decode cJ13_bitCount_95d88 14 = .ok (.land, 1) := by decide +kernel
theorem dJ13_bitCount_95d88_15 : decode cJ13_bitCount_95d88 15 = .ok (.lload_n 0, 1) := by decide +kernel
theorem dJ13_bitCount_95d88_16 : decode cJ13_bitCount_95d88 16 = .ok (.iconst 2, 1) := by decide +kernel
theorem dJ13_bitCount_95d88_17 : decode cJ13_bitCount_95d88 17 = .ok (.lushr, 1) := by decide +kernel
theorem dJ13_bitCount_95d88_18 : decode cJ13_bitCount_95d88 18 = .ok (.ldc2_w 316, 3) := by decide +kernel
theorem dJ13_bitCount_95d88_21 : decode cJ13_bitCount_95d88 21 = .ok (.land, 1) := by decide +kernel
theorem dJ13_bitCount_95d88_22 : decode cJ13_bitCount_95d88 22 = .ok (.ladd, 1) := by decide +kernel
theorem dJ13_bitCount_95d88_23 : decode cJ13_bitCount_95d88 23 = .ok (.lstore_n 0, 1) := by decide +kernel
theorem dJ13_bitCount_95d88_24 : decode cJ13_bitCount_95d88 24 = .ok (.lload_n 0, 1) := by decide +kernel
theorem dJ13_bitCount_95d88_25 : decode cJ13_bitCount_95d88 25 = .ok (.lload_n 0, 1) := by decide +kernel
theorem dJ13_bitCount_95d88_26 : decode cJ13_bitCount_95d88 26 = .ok (.iconst 4, 1) := by decide +kernel
theorem dJ13_bitCount_95d88_27 : decode cJ13_bitCount_95d88 27 = .ok (.lushr, 1) := by decide +kernel
theorem dJ13_bitCount_95d88_28 : decode cJ13_bitCount_95d88 28 = .ok (.ladd, 1) := by decide +kernel
theorem dJ13_bitCount_95d88_29 : decode cJ13_bitCount_95d88 29 = .ok (.ldc2_w 318, 3) := by decide +kernel
theorem dJ13_bitCount_95d88_32 : decode cJ13_bitCount_95d88 32 = .ok (.land, 1) := by decide +kernel
theorem dJ13_bitCount_95d88_33 : decode cJ13_bitCount_95d88 33 = .ok (.lstore_n 0, 1) := by decide +kernel
theorem dJ13_bitCount_95d88_34 : decode cJ13_bitCount_95d88 34 = .ok (.lload_n 0, 1) := by decide +kernel
theorem dJ13_bitCount_95d88_35 : decode cJ13_bitCount_95d88 35 = .ok (.lload_n 0, 1) := by decide +kernel
theorem dJ13_bitCount_95d88_36 : decode cJ13_bitCount_95d88 36 = .ok (.bipush 8, 2) := by decide +kernel
theorem dJ13_bitCount_95d88_38 : decode cJ13_bitCount_95d88 38 = .ok (.lushr, 1) := by decide +kernel
theorem dJ13_bitCount_95d88_39 : decode cJ13_bitCount_95d88 39 = .ok (.ladd, 1) := by decide +kernel
theorem dJ13_bitCount_95d88_40 : decode cJ13_bitCount_95d88 40 = .ok (.lstore_n 0, 1) := by decide +kernel
theorem dJ13_bitCount_95d88_41 : decode cJ13_bitCount_95d88 41 = .ok (.lload_n 0, 1) := by decide +kernel
theorem dJ13_bitCount_95d88_42 : decode cJ13_bitCount_95d88 42 = .ok (.lload_n 0, 1) := by decide +kernel
theorem dJ13_bitCount_95d88_43 : decode cJ13_bitCount_95d88 43 = .ok (.bipush 16, 2) := by decide +kernel
theorem dJ13_bitCount_95d88_45 : decode cJ13_bitCount_95d88 45 = .ok (.lushr, 1) := by decide +kernel
theorem dJ13_bitCount_95d88_46 : decode cJ13_bitCount_95d88 46 = .ok (.ladd, 1) := by decide +kernel
theorem dJ13_bitCount_95d88_47 : decode cJ13_bitCount_95d88 47 = .ok (.lstore_n 0, 1) := by decide +kernel
theorem dJ13_bitCount_95d88_48 : decode cJ13_bitCount_95d88 48 = .ok (.lload_n 0, 1) := by decide +kernel
theorem dJ13_bitCount_95d88_49 : decode cJ13_bitCount_95d88 49 = .ok (.lload_n 0, 1) := by decide +kernel
theorem dJ13_bitCount_95d88_50 : decode cJ13_bitCount_95d88 50 = .ok (.bipush 32, 2) := by decide +kernel
theorem dJ13_bitCount_95d88_52 : decode cJ13_bitCount_95d88 52 = .ok (.lushr, 1) := by decide +kernel
theorem dJ13_bitCount_95d88_53 : decode cJ13_bitCount_95d88 53 = .ok (.ladd, 1) := by decide +kernel
theorem dJ13_bitCount_95d88_54 : decode cJ13_bitCount_95d88 54 = .ok (.lstore_n 0, 1) := by decide +kernel
theorem dJ13_bitCount_95d88_55 : decode cJ13_bitCount_95d88 55 = .ok (.lload_n 0, 1) := by decide +kernel
theorem dJ13_bitCount_95d88_56 : decode cJ13_bitCount_95d88 56 = .ok (.l2i, 1) := by decide +kernel
theorem dJ13_bitCount_95d88_57 : decode cJ13_bitCount_95d88 57 = .ok (.bipush 127, 2) := by decide +kernel
theorem dJ13_bitCount_95d88_59 : decode cJ13_bitCount_95d88 59 = .ok (.iand, 1) := by decide +kernel
theorem dJ13_bitCount_95d88_60 : decode cJ13_bitCount_95d88 60 = .ok (.ireturn, 1) := by decide +kernel
theorem dJ9_max_7cf53_0 : decode cJ9_max_7cf53 0 = .ok (.iload_n 0, 1) := by decide +kernel
theorem dJ9_max_7cf53_1 : decode cJ9_max_7cf53 1 = .ok (.iload_n 1, 1) := by decide +kernel
theorem dJ9_max_7cf53_2 : decode cJ9_max_7cf53 2 = .ok (.if_icmp .lt 7, 3) := by decide +kernel
theorem dJ9_max_7cf53_5 : decode cJ9_max_7cf53 5 = .ok (.iload_n 0, 1) := by decide +kernel
theorem dJ9_max_7cf53_6 : decode cJ9_max_7cf53 6 = .ok (.goto 4, 3) := by decide +kernel
theorem dJ9_max_7cf53_9 : decode cJ9_max_7cf53 9 = .ok (.iload_n 1, 1) := by decide +kernel
theorem dJ9_max_7cf53_10 : decode cJ9_max_7cf53 10 = .ok (.ireturn, 1) := by decide +kernel
theorem dJ9_min_7cf53_0 : decode cJ9_min_7cf53 0 = .ok (.iload_n 0, 1) := by decide +kernel
theorem dJ9_min_7cf53_1 : decode cJ9_min_7cf53 1 = .ok (.iload_n 1, 1) := by decide +kernel
theorem dJ9_min_7cf53_2 : decode cJ9_min_7cf53 2 = .ok (.if_icmp .gt 7, 3) := by decide +kernel
theorem dJ9_min_7cf53_5 : decode cJ9_min_7cf53 5 = .ok (.iload_n 0, 1) := by decide +kernel
theorem dJ9_min_7cf53_6 : decode cJ9_min_7cf53 6 = .ok (.goto 4, 3) := by decide +kernel
theorem dJ9_min_7cf53_9 : decode cJ9_min_7cf53 9 = .ok (.iload_n 1, 1) := by decide +kernel
theorem dJ9_min_7cf53_10 : decode cJ9_min_7cf53 10 = .ok (.ireturn, 1) := by decide +kernel
theorem dJ7_copyOf_59c91_0 : decode cJ7_copyOf_59c91 0 = .ok (.iload_n 1, 1) := by decide +kernel
theorem dJ7_copyOf_59c91_1 : decode cJ7_copyOf_59c91 1 = .ok (.aload_n 0, 1) := by decide +kernel
theorem dJ7_copyOf_59c91_2 : decode cJ7_copyOf_59c91 2 = .ok (.arraylength, 1) := by decide +kernel
theorem dJ7_copyOf_59c91_3 : decode cJ7_copyOf_59c91 3 = .ok (.if_icmp .ne 11, 3) := by decide +kernel
theorem dJ7_copyOf_59c91_6 : decode cJ7_copyOf_59c91 6 = .ok (.aload_n 0, 1) := by decide +kernel
theorem dJ7_copyOf_59c91_7 : decode cJ7_copyOf_59c91 7 = .ok (.invokevirtual 316, 3) := by decide +kernel
theorem dJ7_copyOf_59c91_10 : decode cJ7_copyOf_59c91 10 = .ok (.checkcast 317, 3) := by decide +kernel
theorem dJ7_copyOf_59c91_13 : decode cJ7_copyOf_59c91 13 = .ok (.areturn, 1) := by decide +kernel
theorem dJ7_copyOf_59c91_14 : decode cJ7_copyOf_59c91 14 = .ok (.iload_n 1, 1) := by decide +kernel
theorem dJ7_copyOf_59c91_15 : decode cJ7_copyOf_59c91 15 = .ok (.newarray .int, 2) := by decide +kernel
theorem dJ7_copyOf_59c91_17 : decode cJ7_copyOf_59c91 17 = .ok (.astore_n 2, 1) := by decide +kernel
theorem dJ7_copyOf_59c91_18 : decode cJ7_copyOf_59c91 18 = .ok (.aload_n 0, 1) := by decide +kernel
theorem dJ7_copyOf_59c91_19 : decode cJ7_copyOf_59c91 19 = .ok (.iconst 0, 1) := by decide +kernel
theorem dJ7_copyOf_59c91_20 : decode cJ7_copyOf_59c91 20 = .ok (.aload_n 2, 1) := by decide +kernel
theorem dJ7_copyOf_59c91_21 : decode cJ7_copyOf_59c91 21 = .ok (.iconst 0, 1) := by decide +kernel
theorem dJ7_copyOf_59c91_22 : decode cJ7_copyOf_59c91 22 = .ok (.aload_n 0, 1) := by decide +kernel
theorem dJ7_copyOf_59c91_23 : decode cJ7_copyOf_59c91 23 = .ok (.arraylength, 1) := by decide +kernel
theorem dJ7_copyOf_59c91_24 : decode cJ7_copyOf_59c91 24 = .ok (.iload_n 1, 1) := by decide +kernel
theorem dJ7_copyOf_59c91_25 : decode cJ7_copyOf_59c91 25 = .ok (.invokestatic 304, 3) := by decide +kernel
theorem dJ7_copyOf_59c91_28 : decode cJ7_copyOf_59c91 28 = .ok (.invokestatic 150, 3) := by decide +kernel
theorem dJ7_copyOf_59c91_31 : decode cJ7_copyOf_59c91 31 = .ok (.aload_n 2, 1) := by decide +kernel
theorem dJ7_copyOf_59c91_32 : decode cJ7_copyOf_59c91 32 = .ok (.areturn, 1) := by decide +kernel
set_option maxRecDepth 20000 in
theorem ggL_input_X5_input : GoodIn wsL_input wsX5_input := goodIn_ca (goodIn_r _ [6, 7, 8, 9, 10, 11, 12, 13, 14, 15, 16, 17, 18, 19, 20, 21, 22, 23, 24, 25, 26, 27, 28, 29, 30, 31, 32, 33, 34, 35, 36, 37, 38, 39, 40, 41, 42, 43, 44, 45, 46, 47, 48, 49, 50, 51, 52, 53, 54, 55, 56, 57, 58, 59, 60, 61, 62, 63, 64, 65, 66, 67, 68, 69, 70, 71, 72, 73, 74, 75, 76, 77, 78, 79, 80, 81, 82, 83, 84, 85, 86, 87, 88, 89, 90, 91, 92, 93, 94, 95, 96, 97, 98, 99, 100, 101, 102, 103, 104, 105, 106, 107, 108, 109, 110, 111, 112, 113, 114, 115, 116, 117, 118, 119, 120, 121, 122, 123] (by decide +kernel) (by decide +kernel)) (goodIn_sub (fun _ h => List.mem_cons_of_mem _ (List.mem_append_right _ h)) (by decide +kernel))
set_option maxRecDepth 20000 in
theorem gL_input_X5_input : GoodIn wsL_input (wsV RL 7 RX5 yX5_input wsX5_input) := goodIn_app (goodIn_of _ (by decide +kernel)) ggL_input_X5_input
theorem dL_input_0 : decode cL_input 0 = .ok (.aload_n 1, 1) := by decide +kernel
theorem dL_input_1 : decode cL_input 1 = .ok (.iconst 0, 1) := by decide +kernel
theorem dL_input_2 : decode cL_input 2 = .ok (.aload_n 0, 1) := by decide +kernel
theorem dL_input_3 : decode cL_input 3 = .ok (.invokevirtual 7, 3) := by decide +kernel
theorem dL_input_6 : decode cL_input 6 = .ok (.i2l, 1) := by decide +kernel
theorem dL_input_7 : decode cL_input 7 = .ok (.lastore, 1) := by decide +kernel
theorem dL_input_8 : decode cL_input 8 = .ok (.goto 6, 3) := by decide +kernel
theorem dL_input_11 : decode cL_input 11 = .ok (.astore_n 2, 1) := by decide +kernel
theorem dL_input_12 : decode cL_input 12 = .ok (.iconst 1, 1) := by decide +kernel
theorem dL_input_13 : decode cL_input 13 = .ok (.ireturn, 1) := by decide +kernel
theorem dL_input_14 : decode cL_input 14 = .ok (.iconst 0, 1) := by decide +kernel
theorem dL_input_15 : decode cL_input 15 = .ok (.ireturn, 1) := by decide +kernel
set_option maxRecDepth 20000 in
theorem ggL_and_X5_and : GoodIn wsL_and wsX5_and := goodIn_ca (goodIn_ca (goodIn_r _ [7, 8, 9, 10, 11, 12, 13, 14, 15, 16, 6, 17, 18, 19, 20, 21, 22, 23, 24, 25, 26, 27, 28, 29, 30, 31, 32, 33, 34, 35, 36, 37, 38, 39, 40, 41, 42, 43, 44, 45, 46, 47, 48, 49, 50, 51, 52, 53, 54, 55, 56, 57, 58, 59, 60, 61, 62, 63, 64, 65, 66, 67, 68, 69, 70, 71, 72, 73, 74, 75, 76, 77, 78, 79, 80, 81, 82, 83, 84, 85, 86, 87, 88, 89, 90, 91, 92, 93, 94, 95, 96, 97, 98, 99, 100, 101, 102, 103, 104, 105, 106, 107, 108, 109, 110, 111, 112, 113, 114, 115, 116, 117, 118, 119, 120, 121, 122, 123, 124, 125, 126, 127, 128, 129, 130, 131, 132, 133, 134] (by decide +kernel) (by decide +kernel)) (goodIn_sub (fun _ h => List.mem_cons_of_mem _ (List.mem_append_left _ (List.mem_append_right _ h))) (by decide +kernel))) (goodIn_sub (fun _ h => List.mem_cons_of_mem _ (List.mem_append_right _ h)) (by decide +kernel))
set_option maxRecDepth 20000 in
theorem gL_and_X5_and : GoodIn wsL_and (wsV RL 15 RX5 yX5_and wsX5_and) := goodIn_app (goodIn_of _ (by decide +kernel)) ggL_and_X5_and
theorem dL_and_0 : decode cL_and 0 = .ok (.aload_n 3, 1) := by decide +kernel
theorem dL_and_1 : decode cL_and 1 = .ok (.iconst 0, 1) := by decide +kernel
theorem dL_and_2 : decode cL_and 2 = .ok (.aload_n 0, 1) := by decide +kernel
theorem dL_and_3 : decode cL_and 3 = .ok (.iload_n 1, 1) := by decide +kernel
theorem dL_and_4 : decode cL_and 4 = .ok (.iload_n 2, 1) := by decide +kernel
theorem dL_and_5 : decode cL_and 5 = .ok (.invokevirtual 15, 3) := by decide +kernel
theorem dL_and_8 : decode cL_and 8 = .ok (.i2l, 1) := by decide +kernel
theorem dL_and_9 : decode cL_and 9 = .ok (.lastore, 1) := by decide +kernel
theorem dL_and_10 : decode cL_and 10 = .ok (.goto 11, 3) := by decide +kernel
theorem dL_and_13 : decode cL_and 13 = .ok (.astore 4, 2) := by decide +kernel
theorem dL_and_15 : decode cL_and 15 = .ok (.iconst 1, 1) := by decide +kernel
theorem dL_and_16 : decode cL_and 16 = .ok (.ireturn, 1) := by decide +kernel
theorem dL_and_17 : decode cL_and 17 = .ok (.astore 4, 2) := by decide +kernel
theorem dL_and_19 : decode cL_and 19 = .ok (.iconst 2, 1) := by decide +kernel
theorem dL_and_20 : decode cL_and 20 = .ok (.ireturn, 1) := by decide +kernel
theorem dL_and_21 : decode cL_and 21 = .ok (.iconst 0, 1) := by decide +kernel
theorem dL_and_22 : decode cL_and 22 = .ok (.ireturn, 1) := by decide +kernel
set_option maxRecDepth 20000 in
theorem ggL_output_X5_output : GoodIn wsL_output wsX5_output := goodIn_ca (goodIn_ca (goodIn_r _ [7, 8, 9, 10, 11, 12, 13, 14, 6, 15, 16, 17, 18, 19, 20, 21, 22, 23, 24, 25, 26, 27, 28, 29, 30, 31, 32, 33, 34] (by decide +kernel) (by decide +kernel)) (goodIn_sub (fun _ h => List.mem_cons_of_mem _ (List.mem_append_left _ (List.mem_append_right _ h))) (by decide +kernel))) (goodIn_sub (fun _ h => List.mem_cons_of_mem _ (List.mem_append_right _ h)) (by decide +kernel))
set_option maxRecDepth 20000 in
theorem gL_output_X5_output : GoodIn wsL_output (wsV RL 21 RX5 yX5_output wsX5_output) := goodIn_app (goodIn_of _ (by decide +kernel)) ggL_output_X5_output
theorem dL_output_0 : decode cL_output 0 = .ok (.aload_n 2, 1) := by decide +kernel
theorem dL_output_1 : decode cL_output 1 = .ok (.iconst 0, 1) := by decide +kernel
theorem dL_output_2 : decode cL_output 2 = .ok (.aload_n 0, 1) := by decide +kernel
theorem dL_output_3 : decode cL_output 3 = .ok (.iload_n 1, 1) := by decide +kernel
theorem dL_output_4 : decode cL_output 4 = .ok (.invokevirtual 21, 3) := by decide +kernel
theorem dL_output_7 : decode cL_output 7 = .ok (.i2l, 1) := by decide +kernel
theorem dL_output_8 : decode cL_output 8 = .ok (.lastore, 1) := by decide +kernel
theorem dL_output_9 : decode cL_output 9 = .ok (.goto 9, 3) := by decide +kernel
theorem dL_output_12 : decode cL_output 12 = .ok (.astore_n 3, 1) := by decide +kernel
theorem dL_output_13 : decode cL_output 13 = .ok (.iconst 1, 1) := by decide +kernel
theorem dL_output_14 : decode cL_output 14 = .ok (.ireturn, 1) := by decide +kernel
theorem dL_output_15 : decode cL_output 15 = .ok (.astore_n 3, 1) := by decide +kernel
theorem dL_output_16 : decode cL_output 16 = .ok (.iconst 2, 1) := by decide +kernel
theorem dL_output_17 : decode cL_output 17 = .ok (.ireturn, 1) := by decide +kernel
theorem dL_output_18 : decode cL_output 18 = .ok (.iconst 0, 1) := by decide +kernel
theorem dL_output_19 : decode cL_output 19 = .ok (.ireturn, 1) := by decide +kernel
set_option maxRecDepth 20000 in
theorem ggL_cell_X5_cell : GoodIn wsL_cell wsX5_cell := goodIn_ca (goodIn_ca (goodIn_r _ [7, 8, 9, 10, 11, 12, 13, 14, 6, 15, 16, 17, 18, 19, 20, 21, 22, 23, 24, 25, 26, 27, 28, 29, 30, 31, 32, 33, 34, 35, 36, 37, 38, 39, 40, 41, 42, 43, 44, 45, 46, 47, 48, 49, 50, 51, 52, 53, 54, 55, 56, 57, 58, 59, 60, 61, 62, 63, 64, 65, 66, 67, 68, 69, 70, 71, 72, 73, 74, 75, 76, 77, 78] (by decide +kernel) (by decide +kernel)) (goodIn_sub (fun _ h => List.mem_cons_of_mem _ (List.mem_append_left _ (List.mem_append_right _ h))) (by decide +kernel))) (goodIn_sub (fun _ h => List.mem_cons_of_mem _ (List.mem_append_right _ h)) (by decide +kernel))
set_option maxRecDepth 20000 in
theorem gL_cell_X5_cell : GoodIn wsL_cell (wsV RL 25 RX5 yX5_cell wsX5_cell) := goodIn_app (goodIn_of _ (by decide +kernel)) ggL_cell_X5_cell
theorem dL_cell_0 : decode cL_cell 0 = .ok (.aload 4, 2) := by decide +kernel
theorem dL_cell_2 : decode cL_cell 2 = .ok (.iconst 0, 1) := by decide +kernel
theorem dL_cell_3 : decode cL_cell 3 = .ok (.aload_n 0, 1) := by decide +kernel
theorem dL_cell_4 : decode cL_cell 4 = .ok (.iload_n 1, 1) := by decide +kernel
theorem dL_cell_5 : decode cL_cell 5 = .ok (.iload_n 2, 1) := by decide +kernel
theorem dL_cell_6 : decode cL_cell 6 = .ok (.iload_n 3, 1) := by decide +kernel
theorem dL_cell_7 : decode cL_cell 7 = .ok (.invokevirtual 25, 3) := by decide +kernel
theorem dL_cell_10 : decode cL_cell 10 = .ok (.i2l, 1) := by decide +kernel
theorem dL_cell_11 : decode cL_cell 11 = .ok (.lastore, 1) := by decide +kernel
theorem dL_cell_12 : decode cL_cell 12 = .ok (.goto 11, 3) := by decide +kernel
theorem dL_cell_15 : decode cL_cell 15 = .ok (.astore 5, 2) := by decide +kernel
theorem dL_cell_17 : decode cL_cell 17 = .ok (.iconst 1, 1) := by decide +kernel
theorem dL_cell_18 : decode cL_cell 18 = .ok (.ireturn, 1) := by decide +kernel
theorem dL_cell_19 : decode cL_cell 19 = .ok (.astore 5, 2) := by decide +kernel
theorem dL_cell_21 : decode cL_cell 21 = .ok (.iconst 2, 1) := by decide +kernel
theorem dL_cell_22 : decode cL_cell 22 = .ok (.ireturn, 1) := by decide +kernel
theorem dL_cell_23 : decode cL_cell 23 = .ok (.iconst 0, 1) := by decide +kernel
theorem dL_cell_24 : decode cL_cell 24 = .ok (.ireturn, 1) := by decide +kernel
set_option maxRecDepth 20000 in
theorem ggL_delay_X5_delay : GoodIn wsL_delay wsX5_delay := goodIn_ca (goodIn_ca (goodIn_r _ [7, 8, 9, 10, 11, 12, 13, 6, 14, 15, 16, 17, 18, 19, 20, 21, 22, 23, 24, 25, 26, 27, 28, 29, 30, 31, 32, 33, 34, 35, 36, 37, 38, 39, 40, 41, 42, 43, 44, 45, 46, 47, 48, 49, 50, 51, 52, 53, 54, 55] (by decide +kernel) (by decide +kernel)) (goodIn_sub (fun _ h => List.mem_cons_of_mem _ (List.mem_append_left _ (List.mem_append_right _ h))) (by decide +kernel))) (goodIn_sub (fun _ h => List.mem_cons_of_mem _ (List.mem_append_right _ h)) (by decide +kernel))
set_option maxRecDepth 20000 in
theorem gL_delay_X5_delay : GoodIn wsL_delay (wsV RL 31 RX5 yX5_delay wsX5_delay) := goodIn_app (goodIn_of _ (by decide +kernel)) ggL_delay_X5_delay
theorem dL_delay_0 : decode cL_delay 0 = .ok (.aload 4, 2) := by decide +kernel
theorem dL_delay_2 : decode cL_delay 2 = .ok (.iconst 0, 1) := by decide +kernel
theorem dL_delay_3 : decode cL_delay 3 = .ok (.aload_n 0, 1) := by decide +kernel
theorem dL_delay_4 : decode cL_delay 4 = .ok (.iload_n 1, 1) := by decide +kernel
theorem dL_delay_5 : decode cL_delay 5 = .ok (.iload_n 2, 1) := by decide +kernel
theorem dL_delay_6 : decode cL_delay 6 = .ok (.iload_n 3, 1) := by decide +kernel
theorem dL_delay_7 : decode cL_delay 7 = .ok (.invokevirtual 31, 3) := by decide +kernel
theorem dL_delay_10 : decode cL_delay 10 = .ok (.ifCond .eq 7, 3) := by decide +kernel
theorem dL_delay_13 : decode cL_delay 13 = .ok (.lconst 1, 1) := by decide +kernel
theorem dL_delay_14 : decode cL_delay 14 = .ok (.goto 4, 3) := by decide +kernel
theorem dL_delay_17 : decode cL_delay 17 = .ok (.lconst 0, 1) := by decide +kernel
theorem dL_delay_18 : decode cL_delay 18 = .ok (.lastore, 1) := by decide +kernel
theorem dL_delay_19 : decode cL_delay 19 = .ok (.goto 11, 3) := by decide +kernel
theorem dL_delay_22 : decode cL_delay 22 = .ok (.astore 5, 2) := by decide +kernel
theorem dL_delay_24 : decode cL_delay 24 = .ok (.iconst 1, 1) := by decide +kernel
theorem dL_delay_25 : decode cL_delay 25 = .ok (.ireturn, 1) := by decide +kernel
theorem dL_delay_26 : decode cL_delay 26 = .ok (.astore 5, 2) := by decide +kernel
theorem dL_delay_28 : decode cL_delay 28 = .ok (.iconst 2, 1) := by decide +kernel
theorem dL_delay_29 : decode cL_delay 29 = .ok (.ireturn, 1) := by decide +kernel
theorem dL_delay_30 : decode cL_delay 30 = .ok (.iconst 0, 1) := by decide +kernel
theorem dL_delay_31 : decode cL_delay 31 = .ok (.ireturn, 1) := by decide +kernel
set_option maxRecDepth 20000 in
theorem ggL_arrives_X5_arrives : GoodIn wsL_arrives wsX5_arrives := goodIn_ca (goodIn_ca (goodIn_r _ [7, 8, 9, 10, 11, 12, 13, 6, 14, 15, 16, 17, 18, 19, 20, 21, 22, 23, 24, 25, 26, 27, 28, 29, 30, 31, 32, 33, 34, 35, 36, 37, 38, 39, 40, 41, 42, 43, 44, 45] (by decide +kernel) (by decide +kernel)) (goodIn_sub (fun _ h => List.mem_cons_of_mem _ (List.mem_append_left _ (List.mem_append_right _ h))) (by decide +kernel))) (goodIn_sub (fun _ h => List.mem_cons_of_mem _ (List.mem_append_right _ h)) (by decide +kernel))
set_option maxRecDepth 20000 in
theorem gL_arrives_X5_arrives : GoodIn wsL_arrives (wsV RL 35 RX5 yX5_arrives wsX5_arrives) := goodIn_app (goodIn_of _ (by decide +kernel)) ggL_arrives_X5_arrives
theorem dL_arrives_0 : decode cL_arrives 0 = .ok (.aload_n 3, 1) := by decide +kernel
theorem dL_arrives_1 : decode cL_arrives 1 = .ok (.iconst 0, 1) := by decide +kernel
theorem dL_arrives_2 : decode cL_arrives 2 = .ok (.aload_n 0, 1) := by decide +kernel
theorem dL_arrives_3 : decode cL_arrives 3 = .ok (.iload_n 1, 1) := by decide +kernel
theorem dL_arrives_4 : decode cL_arrives 4 = .ok (.iload_n 2, 1) := by decide +kernel
theorem dL_arrives_5 : decode cL_arrives 5 = .ok (.invokevirtual 35, 3) := by decide +kernel
theorem dL_arrives_8 : decode cL_arrives 8 = .ok (.ifCond .eq 7, 3) := by decide +kernel
theorem dL_arrives_11 : decode cL_arrives 11 = .ok (.lconst 1, 1) := by decide +kernel
theorem dL_arrives_12 : decode cL_arrives 12 = .ok (.goto 4, 3) := by decide +kernel
theorem dL_arrives_15 : decode cL_arrives 15 = .ok (.lconst 0, 1) := by decide +kernel
theorem dL_arrives_16 : decode cL_arrives 16 = .ok (.lastore, 1) := by decide +kernel
theorem dL_arrives_17 : decode cL_arrives 17 = .ok (.goto 11, 3) := by decide +kernel
theorem dL_arrives_20 : decode cL_arrives 20 = .ok (.astore 4, 2) := by decide +kernel
theorem dL_arrives_22 : decode cL_arrives 22 = .ok (.iconst 1, 1) := by decide +kernel
theorem dL_arrives_23 : decode cL_arrives 23 = .ok (.ireturn, 1) := by decide +kernel
theorem dL_arrives_24 : decode cL_arrives 24 = .ok (.astore 4, 2) := by decide +kernel
theorem dL_arrives_26 : decode cL_arrives 26 = .ok (.iconst 2, 1) := by decide +kernel
theorem dL_arrives_27 : decode cL_arrives 27 = .ok (.ireturn, 1) := by decide +kernel
theorem dL_arrives_28 : decode cL_arrives 28 = .ok (.iconst 0, 1) := by decide +kernel
theorem dL_arrives_29 : decode cL_arrives 29 = .ok (.ireturn, 1) := by decide +kernel
set_option maxRecDepth 20000 in
theorem ggL_cuts_X5_cuts : GoodIn wsL_cuts wsX5_cuts := goodIn_ca (goodIn_r _ [6, 7, 8, 9, 10, 11, 5, 12, 13, 14, 15, 16, 17, 18, 19, 20, 21, 22, 23, 24, 25, 26, 27, 28, 29, 30, 31, 32, 33, 34, 35, 36, 37] (by decide +kernel) (by decide +kernel)) (goodIn_sub (fun _ h => List.mem_cons_of_mem _ (List.mem_append_right _ h)) (by decide +kernel))
set_option maxRecDepth 20000 in
theorem gL_cuts_X5_cuts : GoodIn wsL_cuts (wsV RL 39 RX5 yX5_cuts wsX5_cuts) := goodIn_app (goodIn_of _ (by decide +kernel)) ggL_cuts_X5_cuts
theorem dL_cuts_0 : decode cL_cuts 0 = .ok (.aload_n 2, 1) := by decide +kernel
theorem dL_cuts_1 : decode cL_cuts 1 = .ok (.iconst 0, 1) := by decide +kernel
theorem dL_cuts_2 : decode cL_cuts 2 = .ok (.aload_n 0, 1) := by decide +kernel
theorem dL_cuts_3 : decode cL_cuts 3 = .ok (.iload_n 1, 1) := by decide +kernel
theorem dL_cuts_4 : decode cL_cuts 4 = .ok (.invokevirtual 39, 3) := by decide +kernel
theorem dL_cuts_7 : decode cL_cuts 7 = .ok (.i2l, 1) := by decide +kernel
theorem dL_cuts_8 : decode cL_cuts 8 = .ok (.lastore, 1) := by decide +kernel
theorem dL_cuts_9 : decode cL_cuts 9 = .ok (.goto 6, 3) := by decide +kernel
theorem dL_cuts_12 : decode cL_cuts 12 = .ok (.astore_n 3, 1) := by decide +kernel
theorem dL_cuts_13 : decode cL_cuts 13 = .ok (.iconst 1, 1) := by decide +kernel
theorem dL_cuts_14 : decode cL_cuts 14 = .ok (.ireturn, 1) := by decide +kernel
theorem dL_cuts_15 : decode cL_cuts 15 = .ok (.iconst 0, 1) := by decide +kernel
theorem dL_cuts_16 : decode cL_cuts 16 = .ok (.ireturn, 1) := by decide +kernel
set_option maxRecDepth 20000 in
theorem ggL_cut_X5_cut : GoodIn wsL_cut wsX5_cut := goodIn_ca (goodIn_r _ [6, 7, 8, 9, 10, 11, 5, 12, 13, 14, 15, 16, 17, 18, 19, 20, 21, 22, 23, 24, 25, 26, 27, 28, 29, 30, 31, 32, 33, 34, 35, 36, 37, 38, 39, 40, 41, 42, 43, 44, 45, 46, 47] (by decide +kernel) (by decide +kernel)) (goodIn_sub (fun _ h => List.mem_cons_of_mem _ (List.mem_append_right _ h)) (by decide +kernel))
set_option maxRecDepth 20000 in
theorem gL_cut_X5_cut : GoodIn wsL_cut (wsV RL 42 RX5 yX5_cut wsX5_cut) := goodIn_app (goodIn_of _ (by decide +kernel)) ggL_cut_X5_cut
theorem dL_cut_0 : decode cL_cut 0 = .ok (.aload_n 3, 1) := by decide +kernel
theorem dL_cut_1 : decode cL_cut 1 = .ok (.iconst 0, 1) := by decide +kernel
theorem dL_cut_2 : decode cL_cut 2 = .ok (.aload_n 0, 1) := by decide +kernel
theorem dL_cut_3 : decode cL_cut 3 = .ok (.iload_n 1, 1) := by decide +kernel
theorem dL_cut_4 : decode cL_cut 4 = .ok (.iload_n 2, 1) := by decide +kernel
theorem dL_cut_5 : decode cL_cut 5 = .ok (.invokevirtual 42, 3) := by decide +kernel
theorem dL_cut_8 : decode cL_cut 8 = .ok (.lastore, 1) := by decide +kernel
theorem dL_cut_9 : decode cL_cut 9 = .ok (.goto 7, 3) := by decide +kernel
theorem dL_cut_12 : decode cL_cut 12 = .ok (.astore 4, 2) := by decide +kernel
theorem dL_cut_14 : decode cL_cut 14 = .ok (.iconst 1, 1) := by decide +kernel
theorem dL_cut_15 : decode cL_cut 15 = .ok (.ireturn, 1) := by decide +kernel
theorem dL_cut_16 : decode cL_cut 16 = .ok (.iconst 0, 1) := by decide +kernel
theorem dL_cut_17 : decode cL_cut 17 = .ok (.ireturn, 1) := by decide +kernel
set_option maxRecDepth 20000 in
theorem ggL_function_X5_function : GoodIn wsL_function wsX5_function := goodIn_ca (goodIn_r _ [6, 7, 8, 9, 10, 5, 11, 12, 13, 14, 15, 16, 17, 18, 19, 20, 21, 22, 23, 24, 25, 26, 27, 28, 29, 30, 31, 32, 33, 34, 35, 36, 37, 38, 39, 40, 41, 42, 43, 44, 45, 46] (by decide +kernel) (by decide +kernel)) (goodIn_sub (fun _ h => List.mem_cons_of_mem _ (List.mem_append_right _ h)) (by decide +kernel))
set_option maxRecDepth 20000 in
theorem gL_function_X5_function : GoodIn wsL_function (wsV RL 46 RX5 yX5_function wsX5_function) := goodIn_app (goodIn_of _ (by decide +kernel)) ggL_function_X5_function
theorem dL_function_0 : decode cL_function 0 = .ok (.aload_n 3, 1) := by decide +kernel
theorem dL_function_1 : decode cL_function 1 = .ok (.iconst 0, 1) := by decide +kernel
theorem dL_function_2 : decode cL_function 2 = .ok (.aload_n 0, 1) := by decide +kernel
theorem dL_function_3 : decode cL_function 3 = .ok (.iload_n 1, 1) := by decide +kernel
theorem dL_function_4 : decode cL_function 4 = .ok (.iload_n 2, 1) := by decide +kernel
theorem dL_function_5 : decode cL_function 5 = .ok (.invokevirtual 46, 3) := by decide +kernel
theorem dL_function_8 : decode cL_function 8 = .ok (.i2l, 1) := by decide +kernel
theorem dL_function_9 : decode cL_function 9 = .ok (.lastore, 1) := by decide +kernel
theorem dL_function_10 : decode cL_function 10 = .ok (.goto 7, 3) := by decide +kernel
theorem dL_function_13 : decode cL_function 13 = .ok (.astore 4, 2) := by decide +kernel
theorem dL_function_15 : decode cL_function 15 = .ok (.iconst 1, 1) := by decide +kernel
theorem dL_function_16 : decode cL_function 16 = .ok (.ireturn, 1) := by decide +kernel
theorem dL_function_17 : decode cL_function 17 = .ok (.iconst 0, 1) := by decide +kernel
theorem dL_function_18 : decode cL_function 18 = .ok (.ireturn, 1) := by decide +kernel
set_option maxRecDepth 20000 in
theorem ggL_arrival_X5_arrival : GoodIn wsL_arrival wsX5_arrival := goodIn_ca (goodIn_r _ [6, 7, 8, 9, 10, 5, 11, 12, 13, 14, 15, 16, 17, 18, 19, 20, 21, 22, 23, 24, 25, 26, 27, 28, 29, 30, 31, 32, 33, 34, 35, 36, 37, 38, 39, 40, 41, 42, 43, 44, 45, 46, 47, 48, 49, 50, 51, 52, 53, 54, 55, 56, 57, 58, 59, 60, 61, 62, 63, 64, 65, 66, 67, 68, 69, 70, 71, 72, 73, 74, 75, 76, 77, 78, 79, 80, 81, 82, 83, 84, 85, 86, 87, 88, 89, 90, 91, 92, 93, 94, 95, 96, 97, 98, 99, 100, 101, 102, 103, 104, 105, 106, 107, 108, 109, 110, 111, 112, 113, 114, 115, 116, 117, 118, 119, 120, 121, 122, 123, 124, 125, 126, 127, 128, 129, 130, 131, 132, 133, 134, 135, 136, 137, 138, 139, 140, 141, 142, 143, 144, 145, 146, 147, 148, 149, 150, 151, 152, 153, 154, 155, 156, 157, 158, 159, 160, 161, 162, 163, 164, 165, 166] (by decide +kernel) (by decide +kernel)) (goodIn_sub (fun _ h => List.mem_cons_of_mem _ (List.mem_append_right _ h)) (by decide +kernel))
set_option maxRecDepth 20000 in
theorem gL_arrival_X5_arrival : GoodIn wsL_arrival (wsV RL 49 RX5 yX5_arrival wsX5_arrival) := goodIn_app (goodIn_of _ (by decide +kernel)) ggL_arrival_X5_arrival
theorem dL_arrival_0 : decode cL_arrival 0 = .ok (.aload_n 2, 1) := by decide +kernel
theorem dL_arrival_1 : decode cL_arrival 1 = .ok (.iconst 0, 1) := by decide +kernel
theorem dL_arrival_2 : decode cL_arrival 2 = .ok (.aload_n 0, 1) := by decide +kernel
theorem dL_arrival_3 : decode cL_arrival 3 = .ok (.iload_n 1, 1) := by decide +kernel
theorem dL_arrival_4 : decode cL_arrival 4 = .ok (.invokevirtual 49, 3) := by decide +kernel
theorem dL_arrival_7 : decode cL_arrival 7 = .ok (.i2l, 1) := by decide +kernel
theorem dL_arrival_8 : decode cL_arrival 8 = .ok (.lastore, 1) := by decide +kernel
theorem dL_arrival_9 : decode cL_arrival 9 = .ok (.goto 6, 3) := by decide +kernel
theorem dL_arrival_12 : decode cL_arrival 12 = .ok (.astore_n 3, 1) := by decide +kernel
theorem dL_arrival_13 : decode cL_arrival 13 = .ok (.iconst 1, 1) := by decide +kernel
theorem dL_arrival_14 : decode cL_arrival 14 = .ok (.ireturn, 1) := by decide +kernel
theorem dL_arrival_15 : decode cL_arrival 15 = .ok (.iconst 0, 1) := by decide +kernel
theorem dL_arrival_16 : decode cL_arrival 16 = .ok (.ireturn, 1) := by decide +kernel
set_option maxRecDepth 20000 in
theorem ggL_gate_X5_gate : GoodIn wsL_gate wsX5_gate := goodIn_ca (goodIn_r _ [6, 7, 8, 9, 10, 11, 12, 5, 13, 14, 15, 16, 17, 18, 19, 20, 21, 22, 23, 24, 25, 26, 27, 28, 29, 30, 31, 32, 33, 34, 35, 36, 37, 38, 39, 40, 41, 42, 43, 44, 45, 46, 47, 48, 49, 50, 51, 52, 53, 54, 55, 56, 57, 58, 59, 60, 61, 62, 63, 64, 65, 66, 67, 68, 69, 70, 71, 72, 73, 74, 75, 76, 77, 78, 79, 80, 81, 82, 83, 84, 85, 86, 87, 88, 89, 90, 91, 92, 93, 94, 95, 96, 97, 98, 99, 100, 101, 102, 103, 104, 105, 106, 107, 108, 109, 110, 111, 112, 113, 114, 115, 116, 117, 118, 119, 120, 121, 122, 123, 124, 125, 126, 127, 128, 129, 130, 131, 132, 133, 134, 135, 136, 137, 138, 139, 140, 141, 142, 143, 144, 145, 146, 147, 148, 149, 150, 151, 152, 153, 154, 155, 156, 157, 158, 159, 160, 161, 162, 163, 164, 165, 166, 167, 168, 169, 170, 171, 172, 173, 174, 175, 176, 177, 178, 179, 180, 181, 182, 183, 184, 185, 186, 187, 188] (by decide +kernel) (by decide +kernel)) (goodIn_sub (fun _ h => List.mem_cons_of_mem _ (List.mem_append_right _ h)) (by decide +kernel))
set_option maxRecDepth 20000 in
theorem gL_gate_X5_gate : GoodIn wsL_gate (wsV RL 52 RX5 yX5_gate wsX5_gate) := goodIn_app (goodIn_of _ (by decide +kernel)) ggL_gate_X5_gate
theorem dL_gate_0 : decode cL_gate 0 = .ok (.aload_n 3, 1) := by decide +kernel
theorem dL_gate_1 : decode cL_gate 1 = .ok (.iconst 0, 1) := by decide +kernel
theorem dL_gate_2 : decode cL_gate 2 = .ok (.aload_n 0, 1) := by decide +kernel
theorem dL_gate_3 : decode cL_gate 3 = .ok (.iload_n 1, 1) := by decide +kernel
theorem dL_gate_4 : decode cL_gate 4 = .ok (.iload_n 2, 1) := by decide +kernel
theorem dL_gate_5 : decode cL_gate 5 = .ok (.invokevirtual 52, 3) := by decide +kernel
theorem dL_gate_8 : decode cL_gate 8 = .ok (.i2l, 1) := by decide +kernel
theorem dL_gate_9 : decode cL_gate 9 = .ok (.lastore, 1) := by decide +kernel
theorem dL_gate_10 : decode cL_gate 10 = .ok (.goto 7, 3) := by decide +kernel
theorem dL_gate_13 : decode cL_gate 13 = .ok (.astore 4, 2) := by decide +kernel
theorem dL_gate_15 : decode cL_gate 15 = .ok (.iconst 1, 1) := by decide +kernel
theorem dL_gate_16 : decode cL_gate 16 = .ok (.ireturn, 1) := by decide +kernel
theorem dL_gate_17 : decode cL_gate 17 = .ok (.iconst 0, 1) := by decide +kernel
theorem dL_gate_18 : decode cL_gate 18 = .ok (.ireturn, 1) := by decide +kernel
set_option maxRecDepth 20000 in
theorem ggL_wanted_X5_wanted : GoodIn wsL_wanted wsX5_wanted := goodIn_ca (goodIn_r _ [6, 7, 8, 9, 10, 11, 12, 13, 14, 15, 16, 17, 18, 19, 20, 21, 22, 23, 24, 25, 26, 27, 28, 29, 30, 31, 32, 33, 34, 35, 36, 37, 38, 39, 40, 41, 42, 43, 44, 45, 46, 47, 48, 49, 50, 51, 52, 53, 54, 55, 56, 57, 58, 59, 60, 61, 62, 63, 64, 65, 66, 67, 68, 69, 70, 71, 72, 73, 74, 75, 76, 77, 78, 79, 80, 81, 82, 83, 84, 85, 86, 87, 88, 89, 90, 91, 92, 93, 94, 95, 96, 97, 98, 99, 100, 101, 102, 103, 104, 105, 106, 107, 108, 109, 110, 111, 112, 113, 114, 115, 116, 117, 118, 119, 120, 121, 122, 123, 124, 125, 126, 127, 128, 129, 130, 131, 132, 5, 133, 134, 135, 136, 137, 138, 139, 140, 141, 142, 143, 144, 145, 146, 147, 148, 149, 150, 151, 152, 153, 154, 155, 156, 157, 158, 159, 160, 161, 162, 163, 164, 165, 166, 167, 168, 169, 170, 171, 172, 173, 174, 175, 176, 177, 178, 179, 180, 181, 182, 183, 184, 185, 186, 187, 188, 189, 190, 191, 192, 193, 194, 195, 196, 197, 198, 199, 200, 201, 202, 203] (by decide +kernel) (by decide +kernel)) (goodIn_sub (fun _ h => List.mem_cons_of_mem _ (List.mem_append_right _ h)) (by decide +kernel))
set_option maxRecDepth 20000 in
theorem gL_wanted_X5_wanted : GoodIn wsL_wanted (wsV RL 55 RX5 yX5_wanted wsX5_wanted) := goodIn_app (goodIn_of _ (by decide +kernel)) ggL_wanted_X5_wanted
theorem dL_wanted_0 : decode cL_wanted 0 = .ok (.aload_n 2, 1) := by decide +kernel
theorem dL_wanted_1 : decode cL_wanted 1 = .ok (.iconst 0, 1) := by decide +kernel
theorem dL_wanted_2 : decode cL_wanted 2 = .ok (.aload_n 0, 1) := by decide +kernel
theorem dL_wanted_3 : decode cL_wanted 3 = .ok (.iload_n 1, 1) := by decide +kernel
theorem dL_wanted_4 : decode cL_wanted 4 = .ok (.invokevirtual 55, 3) := by decide +kernel
theorem dL_wanted_7 : decode cL_wanted 7 = .ok (.i2l, 1) := by decide +kernel
theorem dL_wanted_8 : decode cL_wanted 8 = .ok (.lastore, 1) := by decide +kernel
theorem dL_wanted_9 : decode cL_wanted 9 = .ok (.goto 6, 3) := by decide +kernel
theorem dL_wanted_12 : decode cL_wanted 12 = .ok (.astore_n 3, 1) := by decide +kernel
theorem dL_wanted_13 : decode cL_wanted 13 = .ok (.iconst 1, 1) := by decide +kernel
theorem dL_wanted_14 : decode cL_wanted 14 = .ok (.ireturn, 1) := by decide +kernel
theorem dL_wanted_15 : decode cL_wanted 15 = .ok (.iconst 0, 1) := by decide +kernel
theorem dL_wanted_16 : decode cL_wanted 16 = .ok (.ireturn, 1) := by decide +kernel
set_option maxRecDepth 20000 in
theorem ggL_value_X5_value : GoodIn wsL_value wsX5_value := goodIn_ca (goodIn_r _ [6, 7, 8, 9, 10, 5, 11, 12, 13, 14, 15, 16, 17, 18, 19, 20, 21, 22, 23, 24, 25, 26, 27, 28, 29, 30, 31, 32, 33, 34, 35, 36, 37, 38, 39, 40, 41, 42, 43, 44, 45, 46, 47, 48] (by decide +kernel) (by decide +kernel)) (goodIn_sub (fun _ h => List.mem_cons_of_mem _ (List.mem_append_right _ h)) (by decide +kernel))
set_option maxRecDepth 20000 in
theorem gL_value_X5_value : GoodIn wsL_value (wsV RL 58 RX5 yX5_value wsX5_value) := goodIn_app (goodIn_of _ (by decide +kernel)) ggL_value_X5_value
theorem dL_value_0 : decode cL_value 0 = .ok (.aload_n 3, 1) := by decide +kernel
theorem dL_value_1 : decode cL_value 1 = .ok (.iconst 0, 1) := by decide +kernel
theorem dL_value_2 : decode cL_value 2 = .ok (.aload_n 0, 1) := by decide +kernel
theorem dL_value_3 : decode cL_value 3 = .ok (.iload_n 1, 1) := by decide +kernel
theorem dL_value_4 : decode cL_value 4 = .ok (.iload_n 2, 1) := by decide +kernel
theorem dL_value_5 : decode cL_value 5 = .ok (.invokevirtual 58, 3) := by decide +kernel
theorem dL_value_8 : decode cL_value 8 = .ok (.i2l, 1) := by decide +kernel
theorem dL_value_9 : decode cL_value 9 = .ok (.lastore, 1) := by decide +kernel
theorem dL_value_10 : decode cL_value 10 = .ok (.goto 7, 3) := by decide +kernel
theorem dL_value_13 : decode cL_value 13 = .ok (.astore 4, 2) := by decide +kernel
theorem dL_value_15 : decode cL_value 15 = .ok (.iconst 1, 1) := by decide +kernel
theorem dL_value_16 : decode cL_value 16 = .ok (.ireturn, 1) := by decide +kernel
theorem dL_value_17 : decode cL_value 17 = .ok (.iconst 0, 1) := by decide +kernel
theorem dL_value_18 : decode cL_value 18 = .ok (.ireturn, 1) := by decide +kernel
set_option maxRecDepth 20000 in
theorem ggL_mapped_X5_mapped : GoodIn wsL_mapped wsX5_mapped := goodIn_ca (goodIn_r _ [6, 7, 8, 9, 10, 5, 11, 12, 13, 14, 15, 16, 17, 18, 19, 20, 21, 22, 23, 24, 25, 26, 27, 28, 29, 30, 31, 32, 33, 34, 35, 36, 37, 38, 39, 40, 41, 42, 43, 44, 45, 46, 47, 48, 49, 50, 51, 52, 53, 54, 55, 56, 57, 58, 59, 60, 61, 62, 63, 64, 65, 66, 67, 68, 69, 70, 71, 72, 73, 74, 75, 76, 77, 78, 79, 80, 81, 82, 83, 84, 85, 86, 87, 88, 89, 90, 91, 92, 93, 94, 95, 96, 97, 98, 99, 100, 101, 102, 103, 104, 105, 106, 107, 108, 109, 110, 111, 112, 113, 114, 115, 116, 117, 118, 119, 120, 121, 122, 123, 124, 125, 126, 127, 128, 129, 130, 131, 132, 133, 134, 135, 136, 137, 138, 139, 140, 141, 142, 143, 144, 145, 146, 147, 148, 149, 150, 151, 152, 153, 154, 155, 156, 157, 158, 159, 160, 161, 162, 163, 164, 165, 166, 167, 168, 169, 170, 171, 172, 173, 174, 175, 176, 177, 178, 179, 180, 181, 182, 183, 184, 185, 186, 187, 188, 189, 190, 191, 192, 193, 194, 195, 196, 197, 198, 199, 200, 201, 202, 203] (by decide +kernel) (by decide +kernel)) (goodIn_sub (fun _ h => List.mem_cons_of_mem _ (List.mem_append_right _ h)) (by decide +kernel))
set_option maxRecDepth 20000 in
theorem gL_mapped_X5_mapped : GoodIn wsL_mapped (wsV RL 61 RX5 yX5_mapped wsX5_mapped) := goodIn_app (goodIn_of _ (by decide +kernel)) ggL_mapped_X5_mapped
theorem dL_mapped_0 : decode cL_mapped 0 = .ok (.aload_n 3, 1) := by decide +kernel
theorem dL_mapped_1 : decode cL_mapped 1 = .ok (.iconst 0, 1) := by decide +kernel
theorem dL_mapped_2 : decode cL_mapped 2 = .ok (.aload_n 0, 1) := by decide +kernel
theorem dL_mapped_3 : decode cL_mapped 3 = .ok (.iload_n 1, 1) := by decide +kernel
theorem dL_mapped_4 : decode cL_mapped 4 = .ok (.iload_n 2, 1) := by decide +kernel
theorem dL_mapped_5 : decode cL_mapped 5 = .ok (.invokevirtual 61, 3) := by decide +kernel
theorem dL_mapped_8 : decode cL_mapped 8 = .ok (.i2l, 1) := by decide +kernel
theorem dL_mapped_9 : decode cL_mapped 9 = .ok (.lastore, 1) := by decide +kernel
theorem dL_mapped_10 : decode cL_mapped 10 = .ok (.goto 7, 3) := by decide +kernel
theorem dL_mapped_13 : decode cL_mapped 13 = .ok (.astore 4, 2) := by decide +kernel
theorem dL_mapped_15 : decode cL_mapped 15 = .ok (.iconst 1, 1) := by decide +kernel
theorem dL_mapped_16 : decode cL_mapped 16 = .ok (.ireturn, 1) := by decide +kernel
theorem dL_mapped_17 : decode cL_mapped 17 = .ok (.iconst 0, 1) := by decide +kernel
theorem dL_mapped_18 : decode cL_mapped 18 = .ok (.ireturn, 1) := by decide +kernel
set_option maxRecDepth 20000 in
theorem ggL_count_X5_count : GoodIn wsL_count wsX5_count := goodIn_ca (goodIn_r _ [6, 7, 8, 9, 10, 11, 12, 13, 14, 15, 16, 17, 18, 19, 20, 21, 22, 23, 24, 25, 26, 27, 28, 29, 30, 31, 32] (by decide +kernel) (by decide +kernel)) (goodIn_sub (fun _ h => List.mem_cons_of_mem _ (List.mem_append_right _ h)) (by decide +kernel))
set_option maxRecDepth 20000 in
theorem gL_count_X5_count : GoodIn wsL_count (wsV RL 64 RX5 yX5_count wsX5_count) := goodIn_app (goodIn_of _ (by decide +kernel)) ggL_count_X5_count
theorem dL_count_0 : decode cL_count 0 = .ok (.aload_n 2, 1) := by decide +kernel
theorem dL_count_1 : decode cL_count 1 = .ok (.iconst 0, 1) := by decide +kernel
theorem dL_count_2 : decode cL_count 2 = .ok (.aload_n 0, 1) := by decide +kernel
theorem dL_count_3 : decode cL_count 3 = .ok (.iload_n 1, 1) := by decide +kernel
theorem dL_count_4 : decode cL_count 4 = .ok (.invokevirtual 64, 3) := by decide +kernel
theorem dL_count_7 : decode cL_count 7 = .ok (.i2l, 1) := by decide +kernel
theorem dL_count_8 : decode cL_count 8 = .ok (.lastore, 1) := by decide +kernel
theorem dL_count_9 : decode cL_count 9 = .ok (.goto 6, 3) := by decide +kernel
theorem dL_count_12 : decode cL_count 12 = .ok (.astore_n 3, 1) := by decide +kernel
theorem dL_count_13 : decode cL_count 13 = .ok (.iconst 1, 1) := by decide +kernel
theorem dL_count_14 : decode cL_count 14 = .ok (.ireturn, 1) := by decide +kernel
theorem dL_count_15 : decode cL_count 15 = .ok (.iconst 0, 1) := by decide +kernel
theorem dL_count_16 : decode cL_count 16 = .ok (.ireturn, 1) := by decide +kernel
set_option maxRecDepth 20000 in
theorem ggL_law_X5_init : GoodIn wsL_law wsX5_init := goodIn_r _ [9, 10, 11, 12, 13, 14, 15, 16, 17, 18, 19, 20, 21, 22, 23, 24, 25, 26, 27, 28, 29, 30, 31, 32, 33, 34, 35, 36, 37, 38, 39, 40, 41, 42, 43, 44, 45, 46, 47, 48, 49, 50, 51, 52, 53, 54, 55, 56, 57, 58, 59, 6, 60, 61, 62, 63, 64, 748, 749, 750, 751, 752, 753, 715, 716, 717, 718, 719, 720, 754, 755, 756, 757, 758, 759, 760, 761, 762, 763, 764, 765, 766, 767, 768, 769, 770] (by decide +kernel) (by decide +kernel)
set_option maxRecDepth 20000 in
theorem gL_law_X5_init : GoodIn wsL_law (wsX5_init) := ggL_law_X5_init
set_option maxRecDepth 20000 in
theorem ggL_law_X6_init : GoodIn wsL_law wsX6_init := goodIn_r _ [67, 68, 11, 12, 29, 69, 70, 71, 72, 73, 74, 75, 76, 77, 78, 79, 80, 81, 82, 83, 84, 85, 86, 87, 88, 89, 90, 91, 92, 93, 5, 94, 95, 96, 97, 98, 99, 100, 101, 721, 722, 723, 724, 725, 726, 727, 728, 729, 730, 731, 732, 733, 734, 735, 736, 737, 738, 739, 740, 741, 742, 743, 744, 745, 746, 747] (by decide +kernel) (by decide +kernel)
set_option maxRecDepth 20000 in
theorem gL_law_X6_init : GoodIn wsL_law (wsX6_init) := ggL_law_X6_init
set_option maxRecDepth 20000 in
theorem ggL_law_L_input : GoodIn wsL_law wsL_input := goodIn_ca (goodIn_r _ [105, 106, 107, 108, 109, 2, 110, 111, 112, 16, 113, 20, 114, 115, 116, 15, 117, 35, 118, 119, 38, 120, 121, 122, 19, 123, 43, 47, 124, 125, 46, 45, 126, 127, 128, 129, 130, 131, 132, 133, 134, 135, 136, 137, 138, 139, 140, 141, 142, 143, 144, 145, 146, 147, 148, 149, 150, 151, 152, 153, 154, 155, 156, 157, 158, 159, 160, 161, 162, 163, 164, 165, 166, 167, 168, 169, 170, 171, 172, 173, 174, 29, 175, 176, 177, 178, 179, 180, 181, 182, 183, 184, 185, 186, 44, 187, 188, 189, 190, 191, 192, 193, 194, 195, 196, 197, 198, 715, 716, 717, 718, 719, 720, 748, 749, 750, 751, 752, 753, 754, 755, 756, 757, 758] (by decide +kernel) (by decide +kernel)) (goodIn_sub (fun _ h => List.mem_append_left _ (List.mem_append_left _ (List.mem_append_right _ h))) (by decide +kernel))
set_option maxRecDepth 20000 in
theorem gL_law_L_input : GoodIn wsL_law (va_wsS RL 71 yL_input wsL_input) := goodIn_app (goodIn_of _ (by decide +kernel)) ggL_law_L_input
set_option maxRecDepth 20000 in
theorem ggL_law_X6_input : GoodIn wsL_law wsX6_input := goodIn_r _ [202, 97, 95, 69, 96, 71, 72, 101, 721, 722, 723, 724, 725, 726, 727, 728, 729, 730, 731, 732, 733, 734, 735, 736, 737, 738, 739, 740, 741, 742, 743, 744, 745, 746, 747] (by decide +kernel) (by decide +kernel)
set_option maxRecDepth 20000 in
theorem gL_law_X6_input : GoodIn wsL_law (wsV RL 76 RX6 yX6_input wsX6_input) := goodIn_app (goodIn_of _ (by decide +kernel)) ggL_law_X6_input
set_option maxRecDepth 20000 in
theorem ggL_law_X6_thrown : GoodIn wsL_law wsX6_thrown := goodIn_r _ [206, 95, 721, 722, 723, 724, 725, 726, 727, 728, 729, 730, 731, 732, 733, 734, 735, 736, 737, 738, 739, 740, 741, 742, 743, 744, 745, 746, 747] (by decide +kernel) (by decide +kernel)
set_option maxRecDepth 20000 in
theorem gL_law_X6_thrown : GoodIn wsL_law (wsV RL 77 RX6 yX6_thrown wsX6_thrown) := goodIn_app (goodIn_of _ (by decide +kernel)) ggL_law_X6_thrown
set_option maxRecDepth 20000 in
theorem ggL_law_L_and : GoodIn wsL_law wsL_and := goodIn_ca (goodIn_ca (goodIn_r _ [209, 210, 106, 211, 212, 213, 2, 214, 111, 112, 16, 215, 113, 20, 216, 217, 218, 219, 220, 221, 222, 223, 224, 225, 226, 227, 15, 228, 35, 118, 36, 37, 120, 121, 122, 19, 123, 43, 47, 124, 125, 46, 45, 126, 127, 128, 129, 130, 131, 132, 133, 134, 135, 136, 137, 138, 139, 140, 141, 142, 143, 144, 145, 146, 147, 148, 149, 150, 151, 152, 153, 154, 155, 156, 157, 158, 159, 160, 161, 162, 163, 164, 165, 166, 167, 168, 169, 170, 171, 172, 173, 174, 29, 175, 176, 177, 178, 179, 180, 181, 182, 183, 184, 185, 186, 44, 187, 188, 189, 190, 191, 192, 193, 194, 195, 196, 197, 198, 715, 716, 717, 718, 719, 720, 748, 749, 750, 751, 752, 753, 754, 755, 756, 757, 758] (by decide +kernel) (by decide +kernel)) (goodIn_sub (fun _ h => List.mem_append_left _ (List.mem_append_left _ (List.mem_append_right _ h))) (by decide +kernel))) (goodIn_sub (fun _ h => List.mem_append_left _ (List.mem_append_right _ h)) (by decide +kernel))
set_option maxRecDepth 20000 in
theorem gL_law_L_and : GoodIn wsL_law (va_wsS RL 80 yL_and wsL_and) := goodIn_app (goodIn_of _ (by decide +kernel)) ggL_law_L_and
set_option maxRecDepth 20000 in
theorem ggL_law_X6_and : GoodIn wsL_law wsX6_and := goodIn_r _ [232, 98, 95, 69, 96, 70, 78, 101, 233, 234, 235, 5, 236, 237, 238, 239, 240, 241, 242, 243, 79, 244, 245, 246, 247, 81, 248, 249, 250, 251, 252, 253, 254, 255, 256, 257, 258, 259, 260, 261, 262, 263, 721, 722, 723, 724, 725, 726, 727, 728, 729, 730, 731, 732, 733, 734, 735, 736, 737, 738, 739, 740, 741, 742, 743, 744, 745, 746, 747] (by decide +kernel) (by decide +kernel)
set_option maxRecDepth 20000 in
theorem gL_law_X6_and : GoodIn wsL_law (wsV RL 83 RX6 yX6_and wsX6_and) := goodIn_app (goodIn_of _ (by decide +kernel)) ggL_law_X6_and
set_option maxRecDepth 20000 in
theorem ggL_law_L_output : GoodIn wsL_law wsL_output := goodIn_ca (goodIn_ca (goodIn_r _ [266, 210, 106, 267, 268, 269, 2, 270, 111, 112, 31, 30, 216, 217, 218, 219, 16, 215, 220, 221, 222, 223, 224, 715, 716, 717, 718, 719, 720, 748, 749, 750, 751, 752, 753] (by decide +kernel) (by decide +kernel)) (goodIn_sub (fun _ h => List.mem_append_left _ (List.mem_append_left _ (List.mem_append_right _ h))) (by decide +kernel))) (goodIn_sub (fun _ h => List.mem_append_left _ (List.mem_append_right _ h)) (by decide +kernel))
set_option maxRecDepth 20000 in
theorem gL_law_L_output : GoodIn wsL_law (va_wsS RL 84 yL_output wsL_output) := goodIn_app (goodIn_of _ (by decide +kernel)) ggL_law_L_output
set_option maxRecDepth 20000 in
theorem ggL_law_X6_output : GoodIn wsL_law wsX6_output := goodIn_r _ [274, 99, 95, 73, 233, 234, 235, 5, 236, 96, 237, 238, 239, 721, 722, 723, 724, 725, 726, 727, 728, 729, 730, 731, 732, 733, 734, 735, 736, 737, 738, 739, 740, 741, 742, 743, 744, 745, 746, 747] (by decide +kernel) (by decide +kernel)
set_option maxRecDepth 20000 in
theorem gL_law_X6_output : GoodIn wsL_law (wsV RL 87 RX6 yX6_output wsX6_output) := goodIn_app (goodIn_of _ (by decide +kernel)) ggL_law_X6_output
set_option maxRecDepth 20000 in
theorem ggL_law_L_cell : GoodIn wsL_law wsL_cell := goodIn_ca (goodIn_ca (goodIn_r _ [277, 106, 278, 279, 280, 281, 2, 282, 111, 112, 24, 283, 28, 284, 285, 286, 287, 288, 289, 188, 189, 190, 290, 291, 292, 27, 293, 294, 295, 296, 297, 23, 298, 299, 51, 52, 53, 55, 300, 301, 302, 303, 54, 304, 305, 306, 307, 308, 309, 310, 311, 312, 313, 314, 315, 316, 317, 318, 319, 320, 321, 715, 716, 717, 718, 719, 720, 759, 760, 761, 762, 763, 764, 765, 766, 767, 768, 769, 770] (by decide +kernel) (by decide +kernel)) (goodIn_sub (fun _ h => List.mem_append_left _ (List.mem_append_left _ (List.mem_append_right _ h))) (by decide +kernel))) (goodIn_sub (fun _ h => List.mem_append_right _ h) (by decide +kernel))
set_option maxRecDepth 20000 in
theorem gL_law_L_cell : GoodIn wsL_law (va_wsS RL 88 yL_cell wsL_cell) := goodIn_app (goodIn_of _ (by decide +kernel)) ggL_law_L_cell
set_option maxRecDepth 20000 in
theorem ggL_law_X6_cell : GoodIn wsL_law wsX6_cell := goodIn_r _ [325, 100, 95, 74, 75, 76, 77, 101, 721, 722, 723, 724, 725, 726, 727, 728, 729, 730, 731, 732, 733, 734, 735, 736, 737, 738, 739, 740, 741, 742, 743, 744, 745, 746, 747] (by decide +kernel) (by decide +kernel)
set_option maxRecDepth 20000 in
theorem gL_law_X6_cell : GoodIn wsL_law (wsV RL 91 RX6 yX6_cell wsX6_cell) := goodIn_app (goodIn_of _ (by decide +kernel)) ggL_law_X6_cell
set_option maxRecDepth 20000 in
theorem ggL_law_L_delay : GoodIn wsL_law wsL_delay := goodIn_ca (goodIn_ca (goodIn_r _ [328, 210, 278, 329, 330, 331, 2, 332, 24, 283, 333, 28, 220, 221, 222, 223, 224, 284, 285, 286, 287, 288, 334, 335, 336, 23, 337, 54, 338, 301, 302, 303, 290, 291, 292, 27, 293, 294, 715, 716, 717, 718, 719, 720, 759, 760, 761, 762, 763, 764, 765, 766, 767, 768, 769, 770] (by decide +kernel) (by decide +kernel)) (goodIn_sub (fun _ h => List.mem_append_left _ (List.mem_append_right _ h)) (by decide +kernel))) (goodIn_sub (fun _ h => List.mem_append_right _ h) (by decide +kernel))
set_option maxRecDepth 20000 in
theorem gL_law_L_delay : GoodIn wsL_law (va_wsS RL 92 yL_delay wsL_delay) := goodIn_app (goodIn_of _ (by decide +kernel)) ggL_law_L_delay
set_option maxRecDepth 20000 in
theorem ggL_law_X6_delay : GoodIn wsL_law wsX6_delay := goodIn_r _ [342, 100, 74, 95, 77, 101, 237, 238, 5, 239, 721, 722, 723, 724, 725, 726, 727, 728, 729, 730, 731, 732, 733, 734, 735, 736, 737, 738, 739, 740, 741, 742, 743, 744, 745, 746, 747] (by decide +kernel) (by decide +kernel)
set_option maxRecDepth 20000 in
theorem gL_law_X6_delay : GoodIn wsL_law (wsV RL 94 RX6 yX6_delay wsX6_delay) := goodIn_app (goodIn_of _ (by decide +kernel)) ggL_law_X6_delay
set_option maxRecDepth 20000 in
theorem ggL_law_L_arrives : GoodIn wsL_law wsL_arrives := goodIn_ca (goodIn_ca (goodIn_r _ [345, 210, 278, 346, 347, 348, 2, 349, 16, 113, 350, 28, 220, 221, 222, 223, 224, 284, 285, 286, 287, 288, 290, 291, 292, 27, 293, 294, 715, 716, 717, 718, 719, 720, 748, 749, 750, 751, 752, 753, 765, 766, 767, 768, 769, 770] (by decide +kernel) (by decide +kernel)) (goodIn_sub (fun _ h => List.mem_append_left _ (List.mem_append_right _ h)) (by decide +kernel))) (goodIn_sub (fun _ h => List.mem_append_right _ h) (by decide +kernel))
set_option maxRecDepth 20000 in
theorem gL_law_L_arrives : GoodIn wsL_law (va_wsS RL 95 yL_arrives wsL_arrives) := goodIn_app (goodIn_of _ (by decide +kernel)) ggL_law_L_arrives
set_option maxRecDepth 20000 in
theorem ggL_law_X6_arrives : GoodIn wsL_law wsX6_arrives := goodIn_r _ [354, 97, 95, 72, 101, 237, 238, 5, 239, 721, 722, 723, 724, 725, 726, 727, 728, 729, 730, 731, 732, 733, 734, 735, 736, 737, 738, 739, 740, 741, 742, 743, 744, 745, 746, 747] (by decide +kernel) (by decide +kernel)
set_option maxRecDepth 20000 in
theorem gL_law_X6_arrives : GoodIn wsL_law (wsV RL 97 RX6 yX6_arrives wsX6_arrives) := goodIn_app (goodIn_of _ (by decide +kernel)) ggL_law_X6_arrives
set_option maxRecDepth 20000 in
theorem ggL_law_L_cuts : GoodIn wsL_law wsL_cuts := goodIn_ca (goodIn_r _ [357, 210, 358, 359, 360, 2, 361, 16, 215, 20, 220, 221, 222, 223, 224, 362, 135, 136, 19, 137, 43, 715, 716, 717, 718, 719, 720, 748, 749, 750, 751, 752, 753, 754, 755, 756, 757, 758] (by decide +kernel) (by decide +kernel)) (goodIn_sub (fun _ h => List.mem_append_left _ (List.mem_append_right _ h)) (by decide +kernel))
set_option maxRecDepth 20000 in
theorem gL_law_L_cuts : GoodIn wsL_law (va_wsS RL 98 yL_cuts wsL_cuts) := goodIn_app (goodIn_of _ (by decide +kernel)) ggL_law_L_cuts
set_option maxRecDepth 20000 in
theorem ggL_law_X6_cuts : GoodIn wsL_law wsX6_cuts := goodIn_r _ [366, 96, 95, 237, 238, 5, 239, 367, 368, 369, 370, 79, 78, 260, 261, 262, 263, 69, 721, 722, 723, 724, 725, 726, 727, 728, 729, 730, 731, 732, 733, 734, 735, 736, 737, 738, 739, 740, 741, 742, 743, 744, 745, 746, 747] (by decide +kernel) (by decide +kernel)
set_option maxRecDepth 20000 in
theorem gL_law_X6_cuts : GoodIn wsL_law (wsV RL 100 RX6 yX6_cuts wsX6_cuts) := goodIn_app (goodIn_of _ (by decide +kernel)) ggL_law_X6_cuts
set_option maxRecDepth 20000 in
theorem ggL_law_L_cut : GoodIn wsL_law wsL_cut := goodIn_ca (goodIn_r _ [373, 210, 374, 375, 376, 2, 377, 20, 378, 379, 380, 381, 382, 223, 224, 16, 215, 220, 221, 222, 362, 135, 136, 19, 137, 43, 383, 143, 144, 145, 45, 715, 716, 717, 718, 719, 720, 748, 749, 750, 751, 752, 753, 754, 755, 756, 757, 758] (by decide +kernel) (by decide +kernel)) (goodIn_sub (fun _ h => List.mem_append_left _ (List.mem_append_right _ h)) (by decide +kernel))
set_option maxRecDepth 20000 in
theorem gL_law_L_cut : GoodIn wsL_law (va_wsS RL 101 yL_cut wsL_cut) := goodIn_app (goodIn_of _ (by decide +kernel)) ggL_law_L_cut
set_option maxRecDepth 20000 in
theorem ggL_law_X6_cut : GoodIn wsL_law wsX6_cut := goodIn_r _ [387, 96, 95, 81, 78, 388, 389, 237, 238, 5, 239, 367, 368, 369, 370, 79, 260, 261, 262, 263, 69, 721, 722, 723, 724, 725, 726, 727, 728, 729, 730, 731, 732, 733, 734, 735, 736, 737, 738, 739, 740, 741, 742, 743, 744, 745, 746, 747] (by decide +kernel) (by decide +kernel)
set_option maxRecDepth 20000 in
theorem gL_law_X6_cut : GoodIn wsL_law (wsV RL 103 RX6 yX6_cut wsX6_cut) := goodIn_app (goodIn_of _ (by decide +kernel)) ggL_law_X6_cut
set_option maxRecDepth 20000 in
theorem ggL_law_L_function : GoodIn wsL_law wsL_function := goodIn_ca (goodIn_r _ [392, 210, 393, 394, 395, 2, 396, 20, 379, 380, 381, 382, 223, 224, 16, 215, 220, 221, 222, 362, 135, 136, 19, 137, 43, 397, 398, 399, 400, 46, 715, 716, 717, 718, 719, 720, 748, 749, 750, 751, 752, 753, 754, 755, 756, 757, 758] (by decide +kernel) (by decide +kernel)) (goodIn_sub (fun _ h => List.mem_append_left _ (List.mem_append_right _ h)) (by decide +kernel))
set_option maxRecDepth 20000 in
theorem gL_law_L_function : GoodIn wsL_law (va_wsS RL 104 yL_function wsL_function) := goodIn_app (goodIn_of _ (by decide +kernel)) ggL_law_L_function
set_option maxRecDepth 20000 in
theorem ggL_law_X6_function : GoodIn wsL_law wsX6_function := goodIn_r _ [404, 96, 95, 81, 78, 237, 238, 5, 239, 367, 368, 369, 370, 79, 260, 261, 262, 263, 69, 405, 406, 407, 408, 409, 410, 411, 412, 89, 413, 414, 415, 416, 88, 70, 417, 418, 419, 721, 722, 723, 724, 725, 726, 727, 728, 729, 730, 731, 732, 733, 734, 735, 736, 737, 738, 739, 740, 741, 742, 743, 744, 745, 746, 747] (by decide +kernel) (by decide +kernel)
set_option maxRecDepth 20000 in
theorem gL_law_X6_function : GoodIn wsL_law (wsV RL 106 RX6 yX6_function wsX6_function) := goodIn_app (goodIn_of _ (by decide +kernel)) ggL_law_X6_function
set_option maxRecDepth 20000 in
theorem ggL_law_L_arrival : GoodIn wsL_law wsL_arrival := goodIn_ca (goodIn_r _ [422, 210, 423, 424, 425, 2, 426, 28, 216, 217, 218, 219, 16, 215, 220, 221, 222, 223, 224, 427, 428, 429, 27, 430, 294, 62, 431, 432, 433, 434, 435, 60, 436, 437, 438, 63, 439, 127, 128, 15, 129, 35, 440, 135, 136, 19, 137, 43, 441, 143, 144, 145, 45, 442, 398, 399, 400, 46, 443, 444, 445, 446, 61, 64, 447, 448, 449, 188, 189, 190, 450, 451, 452, 453, 454, 455, 147, 148, 149, 150, 151, 152, 456, 305, 306, 23, 307, 308, 51, 457, 458, 459, 460, 55, 461, 462, 463, 464, 465, 466, 177, 467, 468, 314, 315, 316, 317, 469, 319, 320, 321, 470, 471, 472, 473, 474, 335, 336, 337, 54, 475, 476, 477, 478, 479, 480, 481, 482, 483, 484, 485, 486, 487, 488, 489, 490, 52, 491, 715, 716, 717, 718, 719, 720, 748, 749, 750, 751, 752, 753, 765, 766, 767, 768, 769, 770, 754, 755, 756, 757, 758, 759, 760, 761, 762, 763, 764] (by decide +kernel) (by decide +kernel)) (goodIn_sub (fun _ h => List.mem_append_left _ (List.mem_append_right _ h)) (by decide +kernel))
set_option maxRecDepth 20000 in
theorem gL_law_L_arrival : GoodIn wsL_law (va_wsS RL 107 yL_arrival wsL_arrival) := goodIn_app (goodIn_of _ (by decide +kernel)) ggL_law_L_arrival
set_option maxRecDepth 20000 in
theorem ggL_law_X6_arrival : GoodIn wsL_law wsX6_arrival := goodIn_r _ [495, 95, 83, 233, 234, 235, 5, 236, 96, 237, 238, 239, 496, 497, 498, 499, 101, 82, 84, 85, 97, 71, 72, 260, 261, 262, 263, 69, 500, 501, 502, 503, 100, 74, 75, 77, 504, 505, 506, 507, 81, 78, 367, 368, 369, 370, 79, 405, 406, 407, 408, 409, 410, 411, 412, 89, 413, 414, 415, 416, 88, 70, 417, 418, 419, 508, 509, 510, 511, 90, 512, 513, 514, 515, 516, 517, 518, 519, 520, 521, 522, 523, 524, 525, 526, 527, 721, 722, 723, 724, 725, 726, 727, 728, 729, 730, 731, 732, 733, 734, 735, 736, 737, 738, 739, 740, 741, 742, 743, 744, 745, 746, 747] (by decide +kernel) (by decide +kernel)
set_option maxRecDepth 20000 in
theorem gL_law_X6_arrival : GoodIn wsL_law (wsV RL 109 RX6 yX6_arrival wsX6_arrival) := goodIn_app (goodIn_of _ (by decide +kernel)) ggL_law_X6_arrival
set_option maxRecDepth 20000 in
theorem ggL_law_L_gate : GoodIn wsL_law wsL_gate := goodIn_ca (goodIn_r _ [530, 210, 531, 532, 533, 2, 534, 28, 24, 333, 216, 217, 218, 219, 16, 215, 220, 221, 222, 223, 224, 427, 428, 429, 27, 430, 294, 62, 431, 432, 433, 434, 435, 60, 436, 437, 438, 63, 439, 127, 128, 15, 129, 35, 440, 135, 136, 19, 137, 43, 441, 143, 144, 145, 45, 442, 398, 399, 400, 46, 443, 444, 445, 446, 61, 64, 447, 448, 449, 188, 189, 190, 450, 451, 452, 453, 454, 455, 147, 148, 149, 150, 151, 152, 456, 305, 306, 23, 307, 308, 51, 457, 458, 459, 460, 55, 461, 462, 463, 464, 465, 466, 177, 467, 468, 314, 315, 316, 317, 469, 319, 320, 321, 470, 471, 472, 473, 474, 335, 336, 337, 54, 475, 476, 477, 478, 479, 480, 481, 482, 483, 484, 485, 486, 487, 488, 489, 490, 52, 535, 536, 537, 538, 539, 540, 541, 542, 543, 544, 545, 546, 547, 548, 549, 550, 551, 552, 553, 554, 555, 715, 716, 717, 718, 719, 720, 759, 760, 761, 762, 763, 764, 748, 749, 750, 751, 752, 753, 765, 766, 767, 768, 769, 770, 754, 755, 756, 757, 758] (by decide +kernel) (by decide +kernel)) (goodIn_sub (fun _ h => List.mem_append_left _ (List.mem_append_right _ h)) (by decide +kernel))
set_option maxRecDepth 20000 in
theorem gL_law_L_gate : GoodIn wsL_law (va_wsS RL 110 yL_gate wsL_gate) := goodIn_app (goodIn_of _ (by decide +kernel)) ggL_law_L_gate
set_option maxRecDepth 20000 in
theorem ggL_law_X6_gate : GoodIn wsL_law wsX6_gate := goodIn_r _ [559, 95, 84, 85, 233, 234, 235, 5, 236, 96, 237, 238, 239, 496, 497, 498, 499, 101, 82, 83, 97, 71, 72, 260, 261, 262, 263, 69, 500, 501, 502, 503, 100, 74, 75, 77, 504, 505, 506, 507, 81, 78, 367, 368, 369, 370, 79, 405, 406, 407, 408, 409, 410, 411, 412, 89, 413, 414, 415, 416, 88, 70, 417, 418, 419, 508, 509, 510, 511, 90, 512, 513, 514, 515, 516, 517, 518, 519, 520, 521, 522, 523, 524, 525, 526, 527, 721, 722, 723, 724, 725, 726, 727, 728, 729, 730, 731, 732, 733, 734, 735, 736, 737, 738, 739, 740, 741, 742, 743, 744, 745, 746, 747] (by decide +kernel) (by decide +kernel)
set_option maxRecDepth 20000 in
theorem gL_law_X6_gate : GoodIn wsL_law (wsV RL 112 RX6 yX6_gate wsX6_gate) := goodIn_app (goodIn_of _ (by decide +kernel)) ggL_law_X6_gate
set_option maxRecDepth 20000 in
theorem ggL_law_X5_run : GoodIn wsL_law wsX5_run := goodIn_r _ [563, 28, 427, 428, 429, 27, 430, 294, 62, 431, 432, 433, 434, 435, 60, 436, 437, 438, 63, 439, 127, 128, 15, 129, 35, 440, 135, 136, 19, 137, 43, 441, 143, 144, 145, 45, 442, 398, 399, 400, 46, 443, 444, 445, 446, 61, 64, 447, 448, 449, 188, 189, 190, 450, 451, 452, 453, 454, 455, 147, 148, 149, 150, 151, 152, 456, 305, 306, 23, 307, 308, 51, 457, 458, 459, 460, 55, 461, 462, 463, 464, 465, 466, 177, 467, 468, 314, 315, 316, 317, 469, 319, 320, 321, 470, 471, 472, 473, 474, 335, 336, 337, 54, 475, 476, 477, 478, 479, 480, 481, 482, 483, 484, 485, 486, 487, 488, 489, 490, 52, 564, 565, 566, 2, 567, 31, 30, 568, 540, 541, 542, 569, 570, 571, 572, 573, 574, 575, 576, 577, 578, 579, 580, 581, 536, 537, 538, 539, 543, 544, 545, 546, 547, 582, 583, 584, 585, 586, 587, 549, 550, 551, 588, 553, 554, 555, 589, 590, 591, 592, 593, 594, 595, 715, 716, 717, 718, 719, 720, 765, 766, 767, 768, 769, 770, 748, 749, 750, 751, 752, 753, 754, 755, 756, 757, 758, 759, 760, 761, 762, 763, 764] (by decide +kernel) (by decide +kernel)
set_option maxRecDepth 20000 in
theorem gL_law_X5_run : GoodIn wsL_law (wsV RL 113 RX5 yX5_run wsX5_run) := goodIn_app (goodIn_of _ (by decide +kernel)) ggL_law_X5_run
set_option maxRecDepth 20000 in
theorem ggL_law_X6_run : GoodIn wsL_law wsX6_run := goodIn_r _ [599, 95, 96, 600, 601, 602, 5, 603, 87, 99, 83, 73, 84, 85, 496, 497, 498, 499, 101, 82, 97, 71, 72, 260, 261, 262, 263, 69, 500, 501, 502, 503, 100, 74, 75, 77, 504, 505, 506, 507, 81, 78, 367, 368, 369, 370, 79, 405, 406, 407, 408, 409, 410, 411, 412, 89, 413, 414, 415, 416, 88, 70, 417, 418, 419, 508, 509, 510, 511, 90, 512, 513, 514, 515, 516, 517, 518, 519, 520, 521, 522, 523, 524, 525, 526, 527, 604, 605, 606, 607, 721, 722, 723, 724, 725, 726, 727, 728, 729, 730, 731, 732, 733, 734, 735, 736, 737, 738, 739, 740, 741, 742, 743, 744, 745, 746, 747] (by decide +kernel) (by decide +kernel)
set_option maxRecDepth 20000 in
theorem gL_law_X6_run : GoodIn wsL_law (wsV RL 116 RX6 yX6_run wsX6_run) := goodIn_app (goodIn_of _ (by decide +kernel)) ggL_law_X6_run
set_option maxRecDepth 20000 in
theorem ggL_law_L_wanted : GoodIn wsL_law wsL_wanted := goodIn_ca (goodIn_r _ [610, 210, 611, 612, 613, 2, 614, 223, 224, 28, 16, 215, 427, 428, 429, 27, 430, 294, 62, 431, 432, 433, 434, 435, 60, 436, 437, 438, 63, 439, 127, 128, 15, 129, 35, 440, 135, 136, 19, 137, 43, 441, 143, 144, 145, 45, 442, 398, 399, 400, 46, 443, 444, 445, 446, 61, 64, 447, 448, 449, 188, 189, 190, 450, 451, 452, 453, 454, 455, 147, 148, 149, 150, 151, 152, 456, 305, 306, 23, 307, 308, 51, 457, 458, 459, 460, 55, 461, 462, 463, 464, 465, 466, 177, 467, 468, 314, 315, 316, 317, 469, 319, 320, 321, 470, 471, 472, 473, 474, 335, 336, 337, 54, 475, 476, 477, 478, 479, 480, 481, 482, 483, 484, 485, 486, 487, 488, 489, 490, 52, 569, 570, 571, 572, 31, 30, 564, 565, 566, 567, 568, 540, 541, 542, 573, 574, 575, 576, 577, 578, 579, 580, 581, 536, 537, 538, 539, 543, 544, 545, 546, 547, 582, 583, 584, 585, 586, 587, 549, 550, 551, 588, 553, 554, 555, 715, 716, 717, 718, 719, 720, 748, 749, 750, 751, 752, 753, 765, 766, 767, 768, 769, 770, 754, 755, 756, 757, 758, 759, 760, 761, 762, 763, 764] (by decide +kernel) (by decide +kernel)) (goodIn_sub (fun _ h => List.mem_append_left _ (List.mem_append_right _ h)) (by decide +kernel))
set_option maxRecDepth 20000 in
theorem gL_law_L_wanted : GoodIn wsL_law (va_wsS RL 117 yL_wanted wsL_wanted) := goodIn_app (goodIn_of _ (by decide +kernel)) ggL_law_L_wanted
set_option maxRecDepth 20000 in
theorem ggL_law_X6_wanted : GoodIn wsL_law wsX6_wanted := goodIn_r _ [618, 95, 96, 600, 601, 602, 5, 603, 87, 99, 83, 73, 84, 85, 496, 497, 498, 499, 101, 82, 97, 71, 72, 260, 261, 262, 263, 69, 500, 501, 502, 503, 100, 74, 75, 77, 504, 505, 506, 507, 81, 78, 367, 368, 369, 370, 79, 405, 406, 407, 408, 409, 410, 411, 412, 89, 413, 414, 415, 416, 88, 70, 417, 418, 419, 508, 509, 510, 511, 90, 512, 513, 514, 515, 516, 517, 518, 519, 520, 521, 522, 523, 524, 525, 526, 527, 604, 605, 606, 607, 721, 722, 723, 724, 725, 726, 727, 728, 729, 730, 731, 732, 733, 734, 735, 736, 737, 738, 739, 740, 741, 742, 743, 744, 745, 746, 747] (by decide +kernel) (by decide +kernel)
set_option maxRecDepth 20000 in
theorem gL_law_X6_wanted : GoodIn wsL_law (wsV RL 119 RX6 yX6_wanted wsX6_wanted) := goodIn_app (goodIn_of _ (by decide +kernel)) ggL_law_X6_wanted
set_option maxRecDepth 20000 in
theorem ggL_law_X5_area : GoodIn wsL_law wsX5_area := goodIn_r _ [622, 28, 16, 215, 24, 623, 427, 428, 429, 27, 430, 294, 62, 431, 432, 433, 434, 435, 60, 436, 437, 438, 63, 439, 127, 128, 15, 129, 35, 440, 135, 136, 19, 137, 43, 441, 143, 144, 145, 45, 442, 398, 399, 400, 46, 443, 444, 445, 446, 61, 64, 447, 448, 449, 188, 189, 190, 450, 451, 452, 453, 454, 455, 147, 148, 149, 150, 151, 152, 456, 305, 306, 23, 307, 308, 51, 457, 458, 459, 460, 55, 461, 462, 463, 464, 465, 466, 177, 467, 468, 314, 315, 316, 317, 469, 319, 320, 321, 470, 471, 472, 473, 474, 335, 336, 337, 54, 475, 476, 477, 478, 479, 480, 481, 482, 483, 484, 485, 486, 487, 488, 489, 490, 52, 569, 570, 571, 2, 572, 31, 30, 564, 565, 566, 567, 568, 540, 541, 542, 573, 574, 575, 576, 577, 578, 579, 580, 581, 536, 537, 538, 539, 543, 544, 545, 546, 547, 582, 583, 584, 585, 586, 587, 549, 550, 551, 588, 553, 554, 555, 548, 715, 716, 717, 718, 719, 720, 748, 749, 750, 751, 752, 753, 759, 760, 761, 762, 763, 764, 765, 766, 767, 768, 769, 770, 754, 755, 756, 757, 758] (by decide +kernel) (by decide +kernel)
set_option maxRecDepth 20000 in
theorem gL_law_X5_area : GoodIn wsL_law (wsV RL 120 RX5 yX5_area wsX5_area) := goodIn_app (goodIn_of _ (by decide +kernel)) ggL_law_X5_area
set_option maxRecDepth 20000 in
theorem ggL_law_X6_area : GoodIn wsL_law wsX6_area := goodIn_r _ [627, 95, 96, 76, 84, 600, 601, 602, 5, 603, 87, 99, 83, 73, 85, 496, 497, 498, 499, 101, 82, 97, 71, 72, 260, 261, 262, 263, 69, 500, 501, 502, 503, 100, 74, 75, 77, 504, 505, 506, 507, 81, 78, 367, 368, 369, 370, 79, 405, 406, 407, 408, 409, 410, 411, 412, 89, 413, 414, 415, 416, 88, 70, 417, 418, 419, 508, 509, 510, 511, 90, 512, 513, 514, 515, 516, 517, 518, 519, 520, 521, 522, 523, 524, 525, 526, 527, 604, 605, 606, 607, 721, 722, 723, 724, 725, 726, 727, 728, 729, 730, 731, 732, 733, 734, 735, 736, 737, 738, 739, 740, 741, 742, 743, 744, 745, 746, 747] (by decide +kernel) (by decide +kernel)
set_option maxRecDepth 20000 in
theorem gL_law_X6_area : GoodIn wsL_law (wsV RL 123 RX6 yX6_area wsX6_area) := goodIn_app (goodIn_of _ (by decide +kernel)) ggL_law_X6_area
set_option maxRecDepth 20000 in
theorem ggL_law_X5_worst : GoodIn wsL_law wsX5_worst := goodIn_r _ [631, 28, 31, 30, 632, 466, 177, 467, 427, 428, 429, 27, 430, 294, 62, 431, 432, 433, 434, 435, 60, 436, 437, 438, 63, 439, 127, 128, 15, 129, 35, 440, 135, 136, 19, 137, 43, 441, 143, 144, 145, 45, 442, 398, 399, 400, 46, 443, 444, 445, 446, 61, 64, 447, 448, 449, 188, 189, 190, 450, 451, 452, 453, 454, 455, 147, 148, 149, 150, 151, 152, 456, 305, 306, 23, 307, 308, 51, 457, 458, 459, 460, 55, 461, 462, 463, 464, 465, 468, 314, 315, 316, 317, 469, 319, 320, 321, 470, 471, 472, 473, 474, 335, 336, 337, 54, 475, 476, 477, 478, 479, 480, 481, 482, 483, 484, 485, 486, 487, 488, 489, 490, 52, 564, 565, 566, 2, 567, 568, 540, 541, 542, 491, 715, 716, 717, 718, 719, 720, 765, 766, 767, 768, 769, 770, 748, 749, 750, 751, 752, 753, 754, 755, 756, 757, 758, 759, 760, 761, 762, 763, 764] (by decide +kernel) (by decide +kernel)
set_option maxRecDepth 20000 in
theorem gL_law_X5_worst : GoodIn wsL_law (wsV RL 124 RX5 yX5_worst wsX5_worst) := goodIn_app (goodIn_of _ (by decide +kernel)) ggL_law_X5_worst
set_option maxRecDepth 20000 in
theorem ggL_law_X6_worst : GoodIn wsL_law wsX6_worst := goodIn_r _ [636, 95, 99, 83, 73, 496, 497, 498, 5, 499, 101, 82, 84, 85, 97, 71, 72, 96, 260, 261, 262, 263, 69, 500, 501, 502, 503, 100, 74, 75, 77, 504, 505, 506, 507, 81, 78, 367, 368, 369, 370, 79, 405, 406, 407, 408, 409, 410, 411, 412, 89, 413, 414, 415, 416, 88, 70, 417, 418, 419, 508, 509, 510, 511, 90, 512, 513, 514, 515, 516, 517, 518, 519, 520, 521, 522, 523, 524, 525, 526, 527, 721, 722, 723, 724, 725, 726, 727, 728, 729, 730, 731, 732, 733, 734, 735, 736, 737, 738, 739, 740, 741, 742, 743, 744, 745, 746, 747] (by decide +kernel) (by decide +kernel)
set_option maxRecDepth 20000 in
theorem gL_law_X6_worst : GoodIn wsL_law (wsV RL 127 RX6 yX6_worst wsX6_worst) := goodIn_app (goodIn_of _ (by decide +kernel)) ggL_law_X6_worst
set_option maxRecDepth 20000 in
theorem ggL_law_L_value : GoodIn wsL_law wsL_value := goodIn_ca (goodIn_r _ [639, 210, 640, 641, 642, 2, 643, 16, 216, 217, 218, 219, 215, 220, 221, 222, 223, 224, 644, 645, 646, 15, 647, 36, 37, 547, 127, 128, 129, 35, 648, 649, 650, 651, 652, 653, 654, 715, 716, 717, 718, 719, 720, 748, 749, 750, 751, 752, 753] (by decide +kernel) (by decide +kernel)) (goodIn_sub (fun _ h => List.mem_append_left _ (List.mem_append_right _ h)) (by decide +kernel))
set_option maxRecDepth 20000 in
theorem gL_law_L_value : GoodIn wsL_law (va_wsS RL 128 yL_value wsL_value) := goodIn_app (goodIn_of _ (by decide +kernel)) ggL_law_L_value
set_option maxRecDepth 20000 in
theorem ggL_law_X6_value : GoodIn wsL_law wsX6_value := goodIn_r _ [658, 95, 96, 88, 69, 70, 233, 234, 235, 5, 236, 237, 238, 239, 659, 660, 661, 662, 97, 71, 260, 261, 262, 263, 417, 418, 419, 721, 722, 723, 724, 725, 726, 727, 728, 729, 730, 731, 732, 733, 734, 735, 736, 737, 738, 739, 740, 741, 742, 743, 744, 745, 746, 747] (by decide +kernel) (by decide +kernel)
set_option maxRecDepth 20000 in
theorem gL_law_X6_value : GoodIn wsL_law (wsV RL 130 RX6 yX6_value wsX6_value) := goodIn_app (goodIn_of _ (by decide +kernel)) ggL_law_X6_value
set_option maxRecDepth 20000 in
theorem ggL_law_L_mapped : GoodIn wsL_law wsL_mapped := goodIn_ca (goodIn_r _ [665, 210, 666, 667, 668, 2, 669, 28, 216, 217, 218, 219, 16, 215, 220, 221, 222, 223, 224, 427, 428, 429, 27, 430, 294, 62, 431, 432, 433, 434, 435, 60, 436, 437, 438, 63, 439, 127, 128, 15, 129, 35, 440, 135, 136, 19, 137, 43, 441, 143, 144, 145, 45, 442, 398, 399, 400, 46, 443, 444, 445, 446, 61, 64, 447, 448, 449, 188, 189, 190, 450, 451, 452, 453, 454, 455, 147, 148, 149, 150, 151, 152, 456, 305, 306, 23, 307, 308, 51, 457, 458, 459, 460, 55, 461, 462, 463, 464, 465, 466, 177, 467, 468, 314, 315, 316, 317, 469, 319, 320, 321, 470, 471, 472, 473, 474, 335, 336, 337, 54, 475, 476, 477, 478, 479, 480, 481, 482, 483, 484, 485, 486, 487, 488, 489, 490, 52, 568, 540, 541, 542, 670, 671, 672, 673, 577, 578, 579, 580, 581, 536, 537, 538, 539, 543, 544, 545, 546, 547, 674, 675, 676, 677, 678, 649, 650, 651, 587, 549, 550, 551, 588, 553, 554, 555, 715, 716, 717, 718, 719, 720, 748, 749, 750, 751, 752, 753, 765, 766, 767, 768, 769, 770, 754, 755, 756, 757, 758, 759, 760, 761, 762, 763, 764] (by decide +kernel) (by decide +kernel)) (goodIn_sub (fun _ h => List.mem_append_left _ (List.mem_append_right _ h)) (by decide +kernel))
set_option maxRecDepth 20000 in
theorem gL_law_L_mapped : GoodIn wsL_law (va_wsS RL 131 yL_mapped wsL_mapped) := goodIn_app (goodIn_of _ (by decide +kernel)) ggL_law_L_mapped
set_option maxRecDepth 20000 in
theorem ggL_law_X6_mapped : GoodIn wsL_law wsX6_mapped := goodIn_r _ [682, 95, 83, 97, 88, 71, 96, 84, 233, 234, 235, 5, 236, 237, 238, 239, 496, 497, 498, 499, 101, 82, 85, 72, 260, 261, 262, 263, 69, 500, 501, 502, 503, 100, 74, 75, 77, 504, 505, 506, 507, 81, 78, 367, 368, 369, 370, 79, 405, 406, 407, 408, 409, 410, 411, 412, 89, 413, 414, 415, 416, 70, 417, 418, 419, 508, 509, 510, 511, 90, 512, 513, 514, 515, 516, 517, 518, 519, 520, 521, 522, 523, 524, 525, 526, 527, 683, 684, 685, 686, 687, 688, 689, 690, 721, 722, 723, 724, 725, 726, 727, 728, 729, 730, 731, 732, 733, 734, 735, 736, 737, 738, 739, 740, 741, 742, 743, 744, 745, 746, 747] (by decide +kernel) (by decide +kernel)
set_option maxRecDepth 20000 in
theorem gL_law_X6_mapped : GoodIn wsL_law (wsV RL 133 RX6 yX6_mapped wsX6_mapped) := goodIn_app (goodIn_of _ (by decide +kernel)) ggL_law_X6_mapped
set_option maxRecDepth 20000 in
theorem ggL_law_L_count : GoodIn wsL_law wsL_count := goodIn_ca (goodIn_r _ [693, 210, 694, 695, 696, 2, 697, 223, 224, 16, 215, 113, 31, 24, 283, 715, 716, 717, 718, 719, 720, 748, 749, 750, 751, 752, 753, 759, 760, 761, 762, 763, 764] (by decide +kernel) (by decide +kernel)) (goodIn_sub (fun _ h => List.mem_append_left _ (List.mem_append_right _ h)) (by decide +kernel))
set_option maxRecDepth 20000 in
theorem gL_law_L_count : GoodIn wsL_law (va_wsS RL 134 yL_count wsL_count) := goodIn_app (goodIn_of _ (by decide +kernel)) ggL_law_L_count
set_option maxRecDepth 20000 in
theorem ggL_law_X6_count : GoodIn wsL_law wsX6_count := goodIn_r _ [701, 95, 96, 97, 99, 100, 237, 238, 5, 239, 721, 722, 723, 724, 725, 726, 727, 728, 729, 730, 731, 732, 733, 734, 735, 736, 737, 738, 739, 740, 741, 742, 743, 744, 745, 746, 747] (by decide +kernel) (by decide +kernel)
set_option maxRecDepth 20000 in
theorem gL_law_X6_count : GoodIn wsL_law (wsV RL 136 RX6 yX6_count wsX6_count) := goodIn_app (goodIn_of _ (by decide +kernel)) ggL_law_X6_count
set_option maxRecDepth 20000 in
theorem ggL_law_X5_clear : GoodIn wsL_law wsX5_clear := goodIn_r _ [705, 16, 24, 28, 31, 706, 707, 708, 15, 709, 118, 119, 710, 711, 712, 23, 713, 299, 290, 291, 292, 27, 293, 294, 715, 716, 717, 718, 719, 720, 748, 749, 750, 751, 752, 753, 759, 760, 761, 762, 763, 764, 765, 766, 767, 768, 769, 770] (by decide +kernel) (by decide +kernel)
set_option maxRecDepth 20000 in
theorem gL_law_X5_clear : GoodIn wsL_law (wsV RL 137 RX5 yX5_clear wsX5_clear) := goodIn_app (goodIn_of _ (by decide +kernel)) ggL_law_X5_clear
set_option maxRecDepth 20000 in
theorem ggL_law_X6_clear : GoodIn wsL_law wsX6_clear := goodIn_r _ [94, 95, 96, 97, 98, 99, 100, 101, 721, 722, 723, 724, 725, 726, 727, 728, 729, 730, 731, 732, 733, 734, 735, 736, 737, 738, 739, 740, 741, 742, 743, 744, 745, 746, 747] (by decide +kernel) (by decide +kernel)
set_option maxRecDepth 20000 in
theorem gL_law_X6_clear : GoodIn wsL_law (wsV RL 140 RX6 yX6_clear wsX6_clear) := goodIn_app (goodIn_of _ (by decide +kernel)) ggL_law_X6_clear
theorem dL_law_0 : decode cL_law 0 = .ok (.new 8, 3) := by decide +kernel
theorem dL_law_3 : decode cL_law 3 = .ok (.dup, 1) := by decide +kernel
theorem dL_law_4 : decode cL_law 4 = .ok (.invokespecial 67, 3) := by decide +kernel
theorem dL_law_7 : decode cL_law 7 = .ok (.astore_n 1, 1) := by decide +kernel
theorem dL_law_8 : decode cL_law 8 = .ok (.new 68, 3) := by decide +kernel
theorem dL_law_11 : decode cL_law 11 = .ok (.dup, 1) := by decide +kernel
theorem dL_law_12 : decode cL_law 12 = .ok (.invokespecial 70, 3) := by decide +kernel
theorem dL_law_15 : decode cL_law 15 = .ok (.astore_n 2, 1) := by decide +kernel
theorem dL_law_16 : decode cL_law 16 = .ok (.iconst 1, 1) := by decide +kernel
theorem dL_law_17 : decode cL_law 17 = .ok (.newarray .long, 2) := by decide +kernel
theorem dL_law_19 : decode cL_law 19 = .ok (.astore_n 3, 1) := by decide +kernel
theorem dL_law_20 : decode cL_law 20 = .ok (.iconst 0, 1) := by decide +kernel
theorem dL_law_21 : decode cL_law 21 = .ok (.istore 4, 2) := by decide +kernel
theorem dL_law_23 : decode cL_law 23 = .ok (.iload 4, 2) := by decide +kernel
theorem dL_law_25 : decode cL_law 25 = .ok (.aload_n 0, 1) := by decide +kernel
theorem dL_law_26 : decode cL_law 26 = .ok (.arraylength, 1) := by decide +kernel
theorem dL_law_27 : decode cL_law 27 = .ok (.iconst 4, 1) := by decide +kernel
theorem dL_law_28 : decode cL_law 28 = .ok (.isub, 1) := by decide +kernel
theorem dL_law_29 : decode cL_law 29 = .ok (.if_icmp .gt 1128, 3) := by decide +kernel
theorem dL_law_32 : decode cL_law 32 = .ok (.aload_n 0, 1) := by decide +kernel
theorem dL_law_33 : decode cL_law 33 = .ok (.iload 4, 2) := by decide +kernel
theorem dL_law_35 : decode cL_law 35 = .ok (.iaload, 1) := by decide +kernel
theorem dL_law_36 : decode cL_law 36 = .ok (.bipush 31, 2) := by decide +kernel
theorem dL_law_38 : decode cL_law 38 = .ok (.iand, 1) := by decide +kernel
theorem dL_law_39 : decode cL_law 39 = .ok (.tableswitch 1112 0 18 #[89, 133, 201, 257, 337, 424, 499, 555, 622, 690, 746, 814, 827, 883, 896, 909, 977, 1045, 1101], 89) := by decide +kernel
theorem dL_law_128 : decode cL_law 128 = .ok (.aload_n 1, 1) := by decide +kernel
theorem dL_law_129 : decode cL_law 129 = .ok (.aload_n 3, 1) := by decide +kernel
theorem dL_law_130 : decode cL_law 130 = .ok (.invokestatic 71, 3) := by decide +kernel
theorem dL_law_133 : decode cL_law 133 = .ok (.istore 5, 2) := by decide +kernel
theorem dL_law_135 : decode cL_law 135 = .ok (.aload_n 2, 1) := by decide +kernel
theorem dL_law_136 : decode cL_law 136 = .ok (.invokevirtual 76, 3) := by decide +kernel
theorem dL_law_139 : decode cL_law 139 = .ok (.istore 6, 2) := by decide +kernel
theorem dL_law_141 : decode cL_law 141 = .ok (.aload_n 2, 1) := by decide +kernel
theorem dL_law_142 : decode cL_law 142 = .ok (.invokevirtual 77, 3) := by decide +kernel
theorem dL_law_145 : decode cL_law 145 = .ok (.iload 5, 2) := by decide +kernel
theorem dL_law_147 : decode cL_law 147 = .ok (.if_icmp .eq 5, 3) := by decide +kernel
theorem dL_law_150 : decode cL_law 150 = .ok (.iconst 0, 1) := by decide +kernel
theorem dL_law_151 : decode cL_law 151 = .ok (.ireturn, 1) := by decide +kernel
theorem dL_law_152 : decode cL_law 152 = .ok (.iload 5, 2) := by decide +kernel
theorem dL_law_154 : decode cL_law 154 = .ok (.ifCond .ne 15, 3) := by decide +kernel
theorem dL_law_157 : decode cL_law 157 = .ok (.aload_n 3, 1) := by decide +kernel
theorem dL_law_158 : decode cL_law 158 = .ok (.iconst 0, 1) := by decide +kernel
theorem dL_law_159 : decode cL_law 159 = .ok (.laload, 1) := by decide +kernel
theorem dL_law_160 : decode cL_law 160 = .ok (.iload 6, 2) := by decide +kernel
theorem dL_law_162 : decode cL_law 162 = .ok (.i2l, 1) := by decide +kernel
theorem dL_law_163 : decode cL_law 163 = .ok (.lcmp, 1) := by decide +kernel
theorem dL_law_164 : decode cL_law 164 = .ok (.ifCond .eq 5, 3) := by decide +kernel
theorem dL_law_167 : decode cL_law 167 = .ok (.iconst 0, 1) := by decide +kernel
theorem dL_law_168 : decode cL_law 168 = .ok (.ireturn, 1) := by decide +kernel
theorem dL_law_169 : decode cL_law 169 = .ok (.goto 982, 3) := by decide +kernel
theorem dL_law_172 : decode cL_law 172 = .ok (.aload_n 1, 1) := by decide +kernel
theorem dL_law_173 : decode cL_law 173 = .ok (.aload_n 0, 1) := by decide +kernel
theorem dL_law_174 : decode cL_law 174 = .ok (.iload 4, 2) := by decide +kernel
theorem dL_law_176 : decode cL_law 176 = .ok (.iconst 1, 1) := by decide +kernel
theorem dL_law_177 : decode cL_law 177 = .ok (.iadd, 1) := by decide +kernel
theorem dL_law_178 : decode cL_law 178 = .ok (.iaload, 1) := by decide +kernel
theorem dL_law_179 : decode cL_law 179 = .ok (.aload_n 0, 1) := by decide +kernel
theorem dL_law_180 : decode cL_law 180 = .ok (.iload 4, 2) := by decide +kernel
theorem dL_law_182 : decode cL_law 182 = .ok (.iconst 2, 1) := by decide +kernel
theorem dL_law_183 : decode cL_law 183 = .ok (.iadd, 1) := by decide +kernel
theorem dL_law_184 : decode cL_law 184 = .ok (.iaload, 1) := by decide +kernel
theorem dL_law_185 : decode cL_law 185 = .ok (.aload_n 3, 1) := by decide +kernel
theorem dL_law_186 : decode cL_law 186 = .ok (.invokestatic 80, 3) := by decide +kernel
theorem dL_law_189 : decode cL_law 189 = .ok (.istore 5, 2) := by decide +kernel
theorem dL_law_191 : decode cL_law 191 = .ok (.aload_n 2, 1) := by decide +kernel
theorem dL_law_192 : decode cL_law 192 = .ok (.aload_n 0, 1) := by decide +kernel
theorem dL_law_193 : decode cL_law 193 = .ok (.iload 4, 2) := by decide +kernel
theorem dL_law_195 : decode cL_law 195 = .ok (.iconst 1, 1) := by decide +kernel
theorem dL_law_196 : decode cL_law 196 = .ok (.iadd, 1) := by decide +kernel
theorem dL_law_197 : decode cL_law 197 = .ok (.iaload, 1) := by decide +kernel
theorem dL_law_198 : decode cL_law 198 = .ok (.aload_n 0, 1) := by decide +kernel
theorem dL_law_199 : decode cL_law 199 = .ok (.iload 4, 2) := by decide +kernel
theorem dL_law_201 : decode cL_law 201 = .ok (.iconst 2, 1) := by decide +kernel
theorem dL_law_202 : decode cL_law 202 = .ok (.iadd, 1) := by decide +kernel
theorem dL_law_203 : decode cL_law 203 = .ok (.iaload, 1) := by decide +kernel
theorem dL_law_204 : decode cL_law 204 = .ok (.invokevirtual 83, 3) := by decide +kernel
theorem dL_law_207 : decode cL_law 207 = .ok (.istore 6, 2) := by decide +kernel
theorem dL_law_209 : decode cL_law 209 = .ok (.aload_n 2, 1) := by decide +kernel
theorem dL_law_210 : decode cL_law 210 = .ok (.invokevirtual 77, 3) := by decide +kernel
theorem dL_law_213 : decode cL_law 213 = .ok (.iload 5, 2) := by decide +kernel
theorem dL_law_215 : decode cL_law 215 = .ok (.if_icmp .eq 5, 3) := by decide +kernel
theorem dL_law_218 : decode cL_law 218 = .ok (.iconst 0, 1) := by decide +kernel
theorem dL_law_219 : decode cL_law 219 = .ok (.ireturn, 1) := by decide +kernel
theorem dL_law_220 : decode cL_law 220 = .ok (.iload 5, 2) := by decide +kernel
theorem dL_law_222 : decode cL_law 222 = .ok (.ifCond .ne 15, 3) := by decide +kernel
theorem dL_law_225 : decode cL_law 225 = .ok (.aload_n 3, 1) := by decide +kernel
theorem dL_law_226 : decode cL_law 226 = .ok (.iconst 0, 1) := by decide +kernel
theorem dL_law_227 : decode cL_law 227 = .ok (.laload, 1) := by decide +kernel
theorem dL_law_228 : decode cL_law 228 = .ok (.iload 6, 2) := by decide +kernel
theorem dL_law_230 : decode cL_law 230 = .ok (.i2l, 1) := by decide +kernel
theorem dL_law_231 : decode cL_law 231 = .ok (.lcmp, 1) := by decide +kernel
theorem dL_law_232 : decode cL_law 232 = .ok (.ifCond .eq 5, 3) := by decide +kernel
theorem dL_law_235 : decode cL_law 235 = .ok (.iconst 0, 1) := by decide +kernel
theorem dL_law_236 : decode cL_law 236 = .ok (.ireturn, 1) := by decide +kernel
theorem dL_law_237 : decode cL_law 237 = .ok (.goto 914, 3) := by decide +kernel
theorem dL_law_240 : decode cL_law 240 = .ok (.aload_n 1, 1) := by decide +kernel
theorem dL_law_241 : decode cL_law 241 = .ok (.aload_n 0, 1) := by decide +kernel
theorem dL_law_242 : decode cL_law 242 = .ok (.iload 4, 2) := by decide +kernel
theorem dL_law_244 : decode cL_law 244 = .ok (.iconst 1, 1) := by decide +kernel
theorem dL_law_245 : decode cL_law 245 = .ok (.iadd, 1) := by decide +kernel
theorem dL_law_246 : decode cL_law 246 = .ok (.iaload, 1) := by decide +kernel
theorem dL_law_247 : decode cL_law 247 = .ok (.aload_n 3, 1) := by decide +kernel
theorem dL_law_248 : decode cL_law 248 = .ok (.invokestatic 84, 3) := by decide +kernel
theorem dL_law_251 : decode cL_law 251 = .ok (.istore 5, 2) := by decide +kernel
theorem dL_law_253 : decode cL_law 253 = .ok (.aload_n 2, 1) := by decide +kernel
theorem dL_law_254 : decode cL_law 254 = .ok (.aload_n 0, 1) := by decide +kernel
theorem dL_law_255 : decode cL_law 255 = .ok (.iload 4, 2) := by decide +kernel
theorem dL_law_257 : decode cL_law 257 = .ok (.iconst 1, 1) := by decide +kernel
theorem dL_law_258 : decode cL_law 258 = .ok (.iadd, 1) := by decide +kernel
theorem dL_law_259 : decode cL_law 259 = .ok (.iaload, 1) := by decide +kernel
theorem dL_law_260 : decode cL_law 260 = .ok (.invokevirtual 87, 3) := by decide +kernel
theorem dL_law_263 : decode cL_law 263 = .ok (.istore 6, 2) := by decide +kernel
theorem dL_law_265 : decode cL_law 265 = .ok (.aload_n 2, 1) := by decide +kernel
theorem dL_law_266 : decode cL_law 266 = .ok (.invokevirtual 77, 3) := by decide +kernel
theorem dL_law_269 : decode cL_law 269 = .ok (.iload 5, 2) := by decide +kernel
theorem dL_law_271 : decode cL_law 271 = .ok (.if_icmp .eq 5, 3) := by decide +kernel
theorem dL_law_274 : decode cL_law 274 = .ok (.iconst 0, 1) := by decide +kernel
theorem dL_law_275 : decode cL_law 275 = .ok (.ireturn, 1) := by decide +kernel
theorem dL_law_276 : decode cL_law 276 = .ok (.iload 5, 2) := by decide +kernel
theorem dL_law_278 : decode cL_law 278 = .ok (.ifCond .ne 15, 3) := by decide +kernel
theorem dL_law_281 : decode cL_law 281 = .ok (.aload_n 3, 1) := by decide +kernel
theorem dL_law_282 : decode cL_law 282 = .ok (.iconst 0, 1) := by decide +kernel
theorem dL_law_283 : decode cL_law 283 = .ok (.laload, 1) := by decide +kernel
theorem dL_law_284 : decode cL_law 284 = .ok (.iload 6, 2) := by decide +kernel
theorem dL_law_286 : decode cL_law 286 = .ok (.i2l, 1) := by decide +kernel
theorem dL_law_287 : decode cL_law 287 = .ok (.lcmp, 1) := by decide +kernel
theorem dL_law_288 : decode cL_law 288 = .ok (.ifCond .eq 5, 3) := by decide +kernel
theorem dL_law_291 : decode cL_law 291 = .ok (.iconst 0, 1) := by decide +kernel
theorem dL_law_292 : decode cL_law 292 = .ok (.ireturn, 1) := by decide +kernel
theorem dL_law_293 : decode cL_law 293 = .ok (.goto 858, 3) := by decide +kernel
theorem dL_law_296 : decode cL_law 296 = .ok (.aload_n 1, 1) := by decide +kernel
theorem dL_law_297 : decode cL_law 297 = .ok (.aload_n 0, 1) := by decide +kernel
theorem dL_law_298 : decode cL_law 298 = .ok (.iload 4, 2) := by decide +kernel
theorem dL_law_300 : decode cL_law 300 = .ok (.iconst 1, 1) := by decide +kernel
theorem dL_law_301 : decode cL_law 301 = .ok (.iadd, 1) := by decide +kernel
theorem dL_law_302 : decode cL_law 302 = .ok (.iaload, 1) := by decide +kernel
theorem dL_law_303 : decode cL_law 303 = .ok (.aload_n 0, 1) := by decide +kernel
theorem dL_law_304 : decode cL_law 304 = .ok (.iload 4, 2) := by decide +kernel
theorem dL_law_306 : decode cL_law 306 = .ok (.iconst 2, 1) := by decide +kernel
theorem dL_law_307 : decode cL_law 307 = .ok (.iadd, 1) := by decide +kernel
theorem dL_law_308 : decode cL_law 308 = .ok (.iaload, 1) := by decide +kernel
theorem dL_law_309 : decode cL_law 309 = .ok (.aload_n 0, 1) := by decide +kernel
theorem dL_law_310 : decode cL_law 310 = .ok (.iload 4, 2) := by decide +kernel
theorem dL_law_312 : decode cL_law 312 = .ok (.iconst 3, 1) := by decide +kernel
theorem dL_law_313 : decode cL_law 313 = .ok (.iadd, 1) := by decide +kernel
theorem dL_law_314 : decode cL_law 314 = .ok (.iaload, 1) := by decide +kernel
theorem dL_law_315 : decode cL_law 315 = .ok (.aload_n 3, 1) := by decide +kernel
theorem dL_law_316 : decode cL_law 316 = .ok (.invokestatic 88, 3) := by decide +kernel
theorem dL_law_319 : decode cL_law 319 = .ok (.istore 5, 2) := by decide +kernel
theorem dL_law_321 : decode cL_law 321 = .ok (.aload_n 2, 1) := by decide +kernel
theorem dL_law_322 : decode cL_law 322 = .ok (.aload_n 0, 1) := by decide +kernel
theorem dL_law_323 : decode cL_law 323 = .ok (.iload 4, 2) := by decide +kernel
theorem dL_law_325 : decode cL_law 325 = .ok (.iconst 1, 1) := by decide +kernel
theorem dL_law_326 : decode cL_law 326 = .ok (.iadd, 1) := by decide +kernel
theorem dL_law_327 : decode cL_law 327 = .ok (.iaload, 1) := by decide +kernel
theorem dL_law_328 : decode cL_law 328 = .ok (.aload_n 0, 1) := by decide +kernel
theorem dL_law_329 : decode cL_law 329 = .ok (.iload 4, 2) := by decide +kernel
theorem dL_law_331 : decode cL_law 331 = .ok (.iconst 2, 1) := by decide +kernel
theorem dL_law_332 : decode cL_law 332 = .ok (.iadd, 1) := by decide +kernel
theorem dL_law_333 : decode cL_law 333 = .ok (.iaload, 1) := by decide +kernel
theorem dL_law_334 : decode cL_law 334 = .ok (.aload_n 0, 1) := by decide +kernel
theorem dL_law_335 : decode cL_law 335 = .ok (.iload 4, 2) := by decide +kernel
theorem dL_law_337 : decode cL_law 337 = .ok (.iconst 3, 1) := by decide +kernel
theorem dL_law_338 : decode cL_law 338 = .ok (.iadd, 1) := by decide +kernel
theorem dL_law_339 : decode cL_law 339 = .ok (.iaload, 1) := by decide +kernel
theorem dL_law_340 : decode cL_law 340 = .ok (.invokevirtual 91, 3) := by decide +kernel
theorem dL_law_343 : decode cL_law 343 = .ok (.istore 6, 2) := by decide +kernel
theorem dL_law_345 : decode cL_law 345 = .ok (.aload_n 2, 1) := by decide +kernel
theorem dL_law_346 : decode cL_law 346 = .ok (.invokevirtual 77, 3) := by decide +kernel
theorem dL_law_349 : decode cL_law 349 = .ok (.iload 5, 2) := by decide +kernel
theorem dL_law_351 : decode cL_law 351 = .ok (.if_icmp .eq 5, 3) := by decide +kernel
theorem dL_law_354 : decode cL_law 354 = .ok (.iconst 0, 1) := by decide +kernel
theorem dL_law_355 : decode cL_law 355 = .ok (.ireturn, 1) := by decide +kernel
theorem dL_law_356 : decode cL_law 356 = .ok (.iload 5, 2) := by decide +kernel
theorem dL_law_358 : decode cL_law 358 = .ok (.ifCond .ne 15, 3) := by decide +kernel
theorem dL_law_361 : decode cL_law 361 = .ok (.aload_n 3, 1) := by decide +kernel
theorem dL_law_362 : decode cL_law 362 = .ok (.iconst 0, 1) := by decide +kernel
theorem dL_law_363 : decode cL_law 363 = .ok (.laload, 1) := by decide +kernel
theorem dL_law_364 : decode cL_law 364 = .ok (.iload 6, 2) := by decide +kernel
theorem dL_law_366 : decode cL_law 366 = .ok (.i2l, 1) := by decide +kernel
theorem dL_law_367 : decode cL_law 367 = .ok (.lcmp, 1) := by decide +kernel
theorem dL_law_368 : decode cL_law 368 = .ok (.ifCond .eq 5, 3) := by decide +kernel
theorem dL_law_371 : decode cL_law 371 = .ok (.iconst 0, 1) := by decide +kernel
theorem dL_law_372 : decode cL_law 372 = .ok (.ireturn, 1) := by decide +kernel
theorem dL_law_373 : decode cL_law 373 = .ok (.goto 778, 3) := by decide +kernel
theorem dL_law_376 : decode cL_law 376 = .ok (.aload_n 1, 1) := by decide +kernel
theorem dL_law_377 : decode cL_law 377 = .ok (.aload_n 0, 1) := by decide +kernel
theorem dL_law_378 : decode cL_law 378 = .ok (.iload 4, 2) := by decide +kernel
theorem dL_law_380 : decode cL_law 380 = .ok (.iconst 1, 1) := by decide +kernel
theorem dL_law_381 : decode cL_law 381 = .ok (.iadd, 1) := by decide +kernel
theorem dL_law_382 : decode cL_law 382 = .ok (.iaload, 1) := by decide +kernel
theorem dL_law_383 : decode cL_law 383 = .ok (.aload_n 0, 1) := by decide +kernel
theorem dL_law_384 : decode cL_law 384 = .ok (.iload 4, 2) := by decide +kernel
theorem dL_law_386 : decode cL_law 386 = .ok (.iconst 2, 1) := by decide +kernel
theorem dL_law_387 : decode cL_law 387 = .ok (.iadd, 1) := by decide +kernel
theorem dL_law_388 : decode cL_law 388 = .ok (.iaload, 1) := by decide +kernel
theorem dL_law_389 : decode cL_law 389 = .ok (.aload_n 0, 1) := by decide +kernel
theorem dL_law_390 : decode cL_law 390 = .ok (.iload 4, 2) := by decide +kernel
theorem dL_law_392 : decode cL_law 392 = .ok (.iconst 3, 1) := by decide +kernel
theorem dL_law_393 : decode cL_law 393 = .ok (.iadd, 1) := by decide +kernel
theorem dL_law_394 : decode cL_law 394 = .ok (.iaload, 1) := by decide +kernel
theorem dL_law_395 : decode cL_law 395 = .ok (.aload_n 3, 1) := by decide +kernel
theorem dL_law_396 : decode cL_law 396 = .ok (.invokestatic 92, 3) := by decide +kernel
theorem dL_law_399 : decode cL_law 399 = .ok (.istore 5, 2) := by decide +kernel
theorem dL_law_401 : decode cL_law 401 = .ok (.aload_n 2, 1) := by decide +kernel
theorem dL_law_402 : decode cL_law 402 = .ok (.aload_n 0, 1) := by decide +kernel
theorem dL_law_403 : decode cL_law 403 = .ok (.iload 4, 2) := by decide +kernel
theorem dL_law_405 : decode cL_law 405 = .ok (.iconst 1, 1) := by decide +kernel
theorem dL_law_406 : decode cL_law 406 = .ok (.iadd, 1) := by decide +kernel
theorem dL_law_407 : decode cL_law 407 = .ok (.iaload, 1) := by decide +kernel
theorem dL_law_408 : decode cL_law 408 = .ok (.aload_n 0, 1) := by decide +kernel
theorem dL_law_409 : decode cL_law 409 = .ok (.iload 4, 2) := by decide +kernel
theorem dL_law_411 : decode cL_law 411 = .ok (.iconst 2, 1) := by decide +kernel
theorem dL_law_412 : decode cL_law 412 = .ok (.iadd, 1) := by decide +kernel
theorem dL_law_413 : decode cL_law 413 = .ok (.iaload, 1) := by decide +kernel
theorem dL_law_414 : decode cL_law 414 = .ok (.aload_n 0, 1) := by decide +kernel
theorem dL_law_415 : decode cL_law 415 = .ok (.iload 4, 2) := by decide +kernel
theorem dL_law_417 : decode cL_law 417 = .ok (.iconst 3, 1) := by decide +kernel
theorem dL_law_418 : decode cL_law 418 = .ok (.iadd, 1) := by decide +kernel
theorem dL_law_419 : decode cL_law 419 = .ok (.iaload, 1) := by decide +kernel
theorem dL_law_420 : decode cL_law 420 = .ok (.invokevirtual 94, 3) := by decide +kernel
theorem dL_law_423 : decode cL_law 423 = .ok (.istore 6, 2) := by decide +kernel
theorem dL_law_425 : decode cL_law 425 = .ok (.aload_n 2, 1) := by decide +kernel
theorem dL_law_426 : decode cL_law 426 = .ok (.invokevirtual 77, 3) := by decide +kernel
theorem dL_law_429 : decode cL_law 429 = .ok (.iload 5, 2) := by decide +kernel
theorem dL_law_431 : decode cL_law 431 = .ok (.if_icmp .eq 5, 3) := by decide +kernel
theorem dL_law_434 : decode cL_law 434 = .ok (.iconst 0, 1) := by decide +kernel
theorem dL_law_435 : decode cL_law 435 = .ok (.ireturn, 1) := by decide +kernel
theorem dL_law_436 : decode cL_law 436 = .ok (.iload 5, 2) := by decide +kernel
theorem dL_law_438 : decode cL_law 438 = .ok (.ifCond .ne 22, 3) := by decide +kernel
theorem dL_law_441 : decode cL_law 441 = .ok (.aload_n 3, 1) := by decide +kernel
theorem dL_law_442 : decode cL_law 442 = .ok (.iconst 0, 1) := by decide +kernel
theorem dL_law_443 : decode cL_law 443 = .ok (.laload, 1) := by decide +kernel
theorem dL_law_444 : decode cL_law 444 = .ok (.iload 6, 2) := by decide +kernel
theorem dL_law_446 : decode cL_law 446 = .ok (.ifCond .eq 7, 3) := by decide +kernel
theorem dL_law_449 : decode cL_law 449 = .ok (.lconst 1, 1) := by decide +kernel
theorem dL_law_450 : decode cL_law 450 = .ok (.goto 4, 3) := by decide +kernel
theorem dL_law_453 : decode cL_law 453 = .ok (.lconst 0, 1) := by decide +kernel
theorem dL_law_454 : decode cL_law 454 = .ok (.lcmp, 1) := by decide +kernel
theorem dL_law_455 : decode cL_law 455 = .ok (.ifCond .eq 5, 3) := by decide +kernel
theorem dL_law_458 : decode cL_law 458 = .ok (.iconst 0, 1) := by decide +kernel
theorem dL_law_459 : decode cL_law 459 = .ok (.ireturn, 1) := by decide +kernel
theorem dL_law_460 : decode cL_law 460 = .ok (.goto 691, 3) := by decide +kernel
theorem dL_law_463 : decode cL_law 463 = .ok (.aload_n 1, 1) := by decide +kernel
theorem dL_law_464 : decode cL_law 464 = .ok (.aload_n 0, 1) := by decide +kernel
theorem dL_law_465 : decode cL_law 465 = .ok (.iload 4, 2) := by decide +kernel
theorem dL_law_467 : decode cL_law 467 = .ok (.iconst 1, 1) := by decide +kernel
theorem dL_law_468 : decode cL_law 468 = .ok (.iadd, 1) := by decide +kernel
theorem dL_law_469 : decode cL_law 469 = .ok (.iaload, 1) := by decide +kernel
theorem dL_law_470 : decode cL_law 470 = .ok (.aload_n 0, 1) := by decide +kernel
theorem dL_law_471 : decode cL_law 471 = .ok (.iload 4, 2) := by decide +kernel
theorem dL_law_473 : decode cL_law 473 = .ok (.iconst 2, 1) := by decide +kernel
theorem dL_law_474 : decode cL_law 474 = .ok (.iadd, 1) := by decide +kernel
theorem dL_law_475 : decode cL_law 475 = .ok (.iaload, 1) := by decide +kernel
theorem dL_law_476 : decode cL_law 476 = .ok (.aload_n 3, 1) := by decide +kernel
theorem dL_law_477 : decode cL_law 477 = .ok (.invokestatic 95, 3) := by decide +kernel
theorem dL_law_480 : decode cL_law 480 = .ok (.istore 5, 2) := by decide +kernel
theorem dL_law_482 : decode cL_law 482 = .ok (.aload_n 2, 1) := by decide +kernel
theorem dL_law_483 : decode cL_law 483 = .ok (.aload_n 0, 1) := by decide +kernel
theorem dL_law_484 : decode cL_law 484 = .ok (.iload 4, 2) := by decide +kernel
theorem dL_law_486 : decode cL_law 486 = .ok (.iconst 1, 1) := by decide +kernel
theorem dL_law_487 : decode cL_law 487 = .ok (.iadd, 1) := by decide +kernel
theorem dL_law_488 : decode cL_law 488 = .ok (.iaload, 1) := by decide +kernel
theorem dL_law_489 : decode cL_law 489 = .ok (.aload_n 0, 1) := by decide +kernel
theorem dL_law_490 : decode cL_law 490 = .ok (.iload 4, 2) := by decide +kernel
theorem dL_law_492 : decode cL_law 492 = .ok (.iconst 2, 1) := by decide +kernel
theorem dL_law_493 : decode cL_law 493 = .ok (.iadd, 1) := by decide +kernel
theorem dL_law_494 : decode cL_law 494 = .ok (.iaload, 1) := by decide +kernel
theorem dL_law_495 : decode cL_law 495 = .ok (.invokevirtual 97, 3) := by decide +kernel
theorem dL_law_498 : decode cL_law 498 = .ok (.istore 6, 2) := by decide +kernel
theorem dL_law_500 : decode cL_law 500 = .ok (.aload_n 2, 1) := by decide +kernel
theorem dL_law_501 : decode cL_law 501 = .ok (.invokevirtual 77, 3) := by decide +kernel
theorem dL_law_504 : decode cL_law 504 = .ok (.iload 5, 2) := by decide +kernel
theorem dL_law_506 : decode cL_law 506 = .ok (.if_icmp .eq 5, 3) := by decide +kernel
theorem dL_law_509 : decode cL_law 509 = .ok (.iconst 0, 1) := by decide +kernel
theorem dL_law_510 : decode cL_law 510 = .ok (.ireturn, 1) := by decide +kernel
theorem dL_law_511 : decode cL_law 511 = .ok (.iload 5, 2) := by decide +kernel
theorem dL_law_513 : decode cL_law 513 = .ok (.ifCond .ne 22, 3) := by decide +kernel
theorem dL_law_516 : decode cL_law 516 = .ok (.aload_n 3, 1) := by decide +kernel
theorem dL_law_517 : decode cL_law 517 = .ok (.iconst 0, 1) := by decide +kernel
theorem dL_law_518 : decode cL_law 518 = .ok (.laload, 1) := by decide +kernel
theorem dL_law_519 : decode cL_law 519 = .ok (.iload 6, 2) := by decide +kernel
theorem dL_law_521 : decode cL_law 521 = .ok (.ifCond .eq 7, 3) := by decide +kernel
theorem dL_law_524 : decode cL_law 524 = .ok (.lconst 1, 1) := by decide +kernel
theorem dL_law_525 : decode cL_law 525 = .ok (.goto 4, 3) := by decide +kernel
theorem dL_law_528 : decode cL_law 528 = .ok (.lconst 0, 1) := by decide +kernel
theorem dL_law_529 : decode cL_law 529 = .ok (.lcmp, 1) := by decide +kernel
theorem dL_law_530 : decode cL_law 530 = .ok (.ifCond .eq 5, 3) := by decide +kernel
theorem dL_law_533 : decode cL_law 533 = .ok (.iconst 0, 1) := by decide +kernel
theorem dL_law_534 : decode cL_law 534 = .ok (.ireturn, 1) := by decide +kernel
theorem dL_law_535 : decode cL_law 535 = .ok (.goto 616, 3) := by decide +kernel
theorem dL_law_538 : decode cL_law 538 = .ok (.aload_n 1, 1) := by decide +kernel
theorem dL_law_539 : decode cL_law 539 = .ok (.aload_n 0, 1) := by decide +kernel
theorem dL_law_540 : decode cL_law 540 = .ok (.iload 4, 2) := by decide +kernel
theorem dL_law_542 : decode cL_law 542 = .ok (.iconst 1, 1) := by decide +kernel
theorem dL_law_543 : decode cL_law 543 = .ok (.iadd, 1) := by decide +kernel
theorem dL_law_544 : decode cL_law 544 = .ok (.iaload, 1) := by decide +kernel
theorem dL_law_545 : decode cL_law 545 = .ok (.aload_n 3, 1) := by decide +kernel
theorem dL_law_546 : decode cL_law 546 = .ok (.invokestatic 98, 3) := by decide +kernel
theorem dL_law_549 : decode cL_law 549 = .ok (.istore 5, 2) := by decide +kernel
theorem dL_law_551 : decode cL_law 551 = .ok (.aload_n 2, 1) := by decide +kernel
theorem dL_law_552 : decode cL_law 552 = .ok (.aload_n 0, 1) := by decide +kernel
theorem dL_law_553 : decode cL_law 553 = .ok (.iload 4, 2) := by decide +kernel
theorem dL_law_555 : decode cL_law 555 = .ok (.iconst 1, 1) := by decide +kernel
theorem dL_law_556 : decode cL_law 556 = .ok (.iadd, 1) := by decide +kernel
theorem dL_law_557 : decode cL_law 557 = .ok (.iaload, 1) := by decide +kernel
theorem dL_law_558 : decode cL_law 558 = .ok (.invokevirtual 100, 3) := by decide +kernel
theorem dL_law_561 : decode cL_law 561 = .ok (.istore 6, 2) := by decide +kernel
theorem dL_law_563 : decode cL_law 563 = .ok (.aload_n 2, 1) := by decide +kernel
theorem dL_law_564 : decode cL_law 564 = .ok (.invokevirtual 77, 3) := by decide +kernel
theorem dL_law_567 : decode cL_law 567 = .ok (.iload 5, 2) := by decide +kernel
theorem dL_law_569 : decode cL_law 569 = .ok (.if_icmp .eq 5, 3) := by decide +kernel
theorem dL_law_572 : decode cL_law 572 = .ok (.iconst 0, 1) := by decide +kernel
theorem dL_law_573 : decode cL_law 573 = .ok (.ireturn, 1) := by decide +kernel
theorem dL_law_574 : decode cL_law 574 = .ok (.iload 5, 2) := by decide +kernel
theorem dL_law_576 : decode cL_law 576 = .ok (.ifCond .ne 15, 3) := by decide +kernel
theorem dL_law_579 : decode cL_law 579 = .ok (.aload_n 3, 1) := by decide +kernel
theorem dL_law_580 : decode cL_law 580 = .ok (.iconst 0, 1) := by decide +kernel
theorem dL_law_581 : decode cL_law 581 = .ok (.laload, 1) := by decide +kernel
theorem dL_law_582 : decode cL_law 582 = .ok (.iload 6, 2) := by decide +kernel
theorem dL_law_584 : decode cL_law 584 = .ok (.i2l, 1) := by decide +kernel
theorem dL_law_585 : decode cL_law 585 = .ok (.lcmp, 1) := by decide +kernel
theorem dL_law_586 : decode cL_law 586 = .ok (.ifCond .eq 5, 3) := by decide +kernel
theorem dL_law_589 : decode cL_law 589 = .ok (.iconst 0, 1) := by decide +kernel
theorem dL_law_590 : decode cL_law 590 = .ok (.ireturn, 1) := by decide +kernel
theorem dL_law_591 : decode cL_law 591 = .ok (.goto 560, 3) := by decide +kernel
theorem dL_law_594 : decode cL_law 594 = .ok (.aload_n 1, 1) := by decide +kernel
theorem dL_law_595 : decode cL_law 595 = .ok (.aload_n 0, 1) := by decide +kernel
theorem dL_law_596 : decode cL_law 596 = .ok (.iload 4, 2) := by decide +kernel
theorem dL_law_598 : decode cL_law 598 = .ok (.iconst 1, 1) := by decide +kernel
theorem dL_law_599 : decode cL_law 599 = .ok (.iadd, 1) := by decide +kernel
theorem dL_law_600 : decode cL_law 600 = .ok (.iaload, 1) := by decide +kernel
theorem dL_law_601 : decode cL_law 601 = .ok (.aload_n 0, 1) := by decide +kernel
theorem dL_law_602 : decode cL_law 602 = .ok (.iload 4, 2) := by decide +kernel
theorem dL_law_604 : decode cL_law 604 = .ok (.iconst 2, 1) := by decide +kernel
theorem dL_law_605 : decode cL_law 605 = .ok (.iadd, 1) := by decide +kernel
theorem dL_law_606 : decode cL_law 606 = .ok (.iaload, 1) := by decide +kernel
theorem dL_law_607 : decode cL_law 607 = .ok (.aload_n 3, 1) := by decide +kernel
theorem dL_law_608 : decode cL_law 608 = .ok (.invokestatic 101, 3) := by decide +kernel
theorem dL_law_611 : decode cL_law 611 = .ok (.istore 5, 2) := by decide +kernel
theorem dL_law_613 : decode cL_law 613 = .ok (.aload_n 2, 1) := by decide +kernel
theorem dL_law_614 : decode cL_law 614 = .ok (.aload_n 0, 1) := by decide +kernel
theorem dL_law_615 : decode cL_law 615 = .ok (.iload 4, 2) := by decide +kernel
theorem dL_law_617 : decode cL_law 617 = .ok (.iconst 1, 1) := by decide +kernel
theorem dL_law_618 : decode cL_law 618 = .ok (.iadd, 1) := by decide +kernel
theorem dL_law_619 : decode cL_law 619 = .ok (.iaload, 1) := by decide +kernel
theorem dL_law_620 : decode cL_law 620 = .ok (.aload_n 0, 1) := by decide +kernel
theorem dL_law_621 : decode cL_law 621 = .ok (.iload 4, 2) := by decide +kernel
theorem dL_law_623 : decode cL_law 623 = .ok (.iconst 2, 1) := by decide +kernel
theorem dL_law_624 : decode cL_law 624 = .ok (.iadd, 1) := by decide +kernel
theorem dL_law_625 : decode cL_law 625 = .ok (.iaload, 1) := by decide +kernel
theorem dL_law_626 : decode cL_law 626 = .ok (.invokevirtual 103, 3) := by decide +kernel
theorem dL_law_629 : decode cL_law 629 = .ok (.lstore 6, 2) := by decide +kernel
theorem dL_law_631 : decode cL_law 631 = .ok (.aload_n 2, 1) := by decide +kernel
theorem dL_law_632 : decode cL_law 632 = .ok (.invokevirtual 77, 3) := by decide +kernel
theorem dL_law_635 : decode cL_law 635 = .ok (.iload 5, 2) := by decide +kernel
theorem dL_law_637 : decode cL_law 637 = .ok (.if_icmp .eq 5, 3) := by decide +kernel
theorem dL_law_640 : decode cL_law 640 = .ok (.iconst 0, 1) := by decide +kernel
theorem dL_law_641 : decode cL_law 641 = .ok (.ireturn, 1) := by decide +kernel
theorem dL_law_642 : decode cL_law 642 = .ok (.iload 5, 2) := by decide +kernel
theorem dL_law_644 : decode cL_law 644 = .ok (.ifCond .ne 14, 3) := by decide +kernel
theorem dL_law_647 : decode cL_law 647 = .ok (.aload_n 3, 1) := by decide +kernel
theorem dL_law_648 : decode cL_law 648 = .ok (.iconst 0, 1) := by decide +kernel
theorem dL_law_649 : decode cL_law 649 = .ok (.laload, 1) := by decide +kernel
theorem dL_law_650 : decode cL_law 650 = .ok (.lload 6, 2) := by decide +kernel
theorem dL_law_652 : decode cL_law 652 = .ok (.lcmp, 1) := by decide +kernel
theorem dL_law_653 : decode cL_law 653 = .ok (.ifCond .eq 5, 3) := by decide +kernel
theorem dL_law_656 : decode cL_law 656 = .ok (.iconst 0, 1) := by decide +kernel
theorem dL_law_657 : decode cL_law 657 = .ok (.ireturn, 1) := by decide +kernel
theorem dL_law_658 : decode cL_law 658 = .ok (.goto 493, 3) := by decide +kernel
theorem dL_law_661 : decode cL_law 661 = .ok (.aload_n 1, 1) := by decide +kernel
theorem dL_law_662 : decode cL_law 662 = .ok (.aload_n 0, 1) := by decide +kernel
theorem dL_law_663 : decode cL_law 663 = .ok (.iload 4, 2) := by decide +kernel
theorem dL_law_665 : decode cL_law 665 = .ok (.iconst 1, 1) := by decide +kernel
theorem dL_law_666 : decode cL_law 666 = .ok (.iadd, 1) := by decide +kernel
theorem dL_law_667 : decode cL_law 667 = .ok (.iaload, 1) := by decide +kernel
theorem dL_law_668 : decode cL_law 668 = .ok (.aload_n 0, 1) := by decide +kernel
theorem dL_law_669 : decode cL_law 669 = .ok (.iload 4, 2) := by decide +kernel
theorem dL_law_671 : decode cL_law 671 = .ok (.iconst 2, 1) := by decide +kernel
theorem dL_law_672 : decode cL_law 672 = .ok (.iadd, 1) := by decide +kernel
theorem dL_law_673 : decode cL_law 673 = .ok (.iaload, 1) := by decide +kernel
theorem dL_law_674 : decode cL_law 674 = .ok (.aload_n 3, 1) := by decide +kernel
theorem dL_law_675 : decode cL_law 675 = .ok (.invokestatic 104, 3) := by decide +kernel
theorem dL_law_678 : decode cL_law 678 = .ok (.istore 5, 2) := by decide +kernel
theorem dL_law_680 : decode cL_law 680 = .ok (.aload_n 2, 1) := by decide +kernel
theorem dL_law_681 : decode cL_law 681 = .ok (.aload_n 0, 1) := by decide +kernel
theorem dL_law_682 : decode cL_law 682 = .ok (.iload 4, 2) := by decide +kernel
theorem dL_law_684 : decode cL_law 684 = .ok (.iconst 1, 1) := by decide +kernel
theorem dL_law_685 : decode cL_law 685 = .ok (.iadd, 1) := by decide +kernel
theorem dL_law_686 : decode cL_law 686 = .ok (.iaload, 1) := by decide +kernel
theorem dL_law_687 : decode cL_law 687 = .ok (.aload_n 0, 1) := by decide +kernel
theorem dL_law_688 : decode cL_law 688 = .ok (.iload 4, 2) := by decide +kernel
theorem dL_law_690 : decode cL_law 690 = .ok (.iconst 2, 1) := by decide +kernel
theorem dL_law_691 : decode cL_law 691 = .ok (.iadd, 1) := by decide +kernel
theorem dL_law_692 : decode cL_law 692 = .ok (.iaload, 1) := by decide +kernel
theorem dL_law_693 : decode cL_law 693 = .ok (.invokevirtual 106, 3) := by decide +kernel
theorem dL_law_696 : decode cL_law 696 = .ok (.istore 6, 2) := by decide +kernel
theorem dL_law_698 : decode cL_law 698 = .ok (.aload_n 2, 1) := by decide +kernel
theorem dL_law_699 : decode cL_law 699 = .ok (.invokevirtual 77, 3) := by decide +kernel
theorem dL_law_702 : decode cL_law 702 = .ok (.iload 5, 2) := by decide +kernel
theorem dL_law_704 : decode cL_law 704 = .ok (.if_icmp .eq 5, 3) := by decide +kernel
theorem dL_law_707 : decode cL_law 707 = .ok (.iconst 0, 1) := by decide +kernel
theorem dL_law_708 : decode cL_law 708 = .ok (.ireturn, 1) := by decide +kernel
theorem dL_law_709 : decode cL_law 709 = .ok (.iload 5, 2) := by decide +kernel
theorem dL_law_711 : decode cL_law 711 = .ok (.ifCond .ne 15, 3) := by decide +kernel
theorem dL_law_714 : decode cL_law 714 = .ok (.aload_n 3, 1) := by decide +kernel
theorem dL_law_715 : decode cL_law 715 = .ok (.iconst 0, 1) := by decide +kernel
theorem dL_law_716 : decode cL_law 716 = .ok (.laload, 1) := by decide +kernel
theorem dL_law_717 : decode cL_law 717 = .ok (.iload 6, 2) := by decide +kernel
theorem dL_law_719 : decode cL_law 719 = .ok (.i2l, 1) := by decide +kernel
theorem dL_law_720 : decode cL_law 720 = .ok (.lcmp, 1) := by decide +kernel
theorem dL_law_721 : decode cL_law 721 = .ok (.ifCond .eq 5, 3) := by decide +kernel
theorem dL_law_724 : decode cL_law 724 = .ok (.iconst 0, 1) := by decide +kernel
theorem dL_law_725 : decode cL_law 725 = .ok (.ireturn, 1) := by decide +kernel
theorem dL_law_726 : decode cL_law 726 = .ok (.goto 425, 3) := by decide +kernel
theorem dL_law_729 : decode cL_law 729 = .ok (.aload_n 1, 1) := by decide +kernel
theorem dL_law_730 : decode cL_law 730 = .ok (.aload_n 0, 1) := by decide +kernel
theorem dL_law_731 : decode cL_law 731 = .ok (.iload 4, 2) := by decide +kernel
theorem dL_law_733 : decode cL_law 733 = .ok (.iconst 1, 1) := by decide +kernel
theorem dL_law_734 : decode cL_law 734 = .ok (.iadd, 1) := by decide +kernel
theorem dL_law_735 : decode cL_law 735 = .ok (.iaload, 1) := by decide +kernel
theorem dL_law_736 : decode cL_law 736 = .ok (.aload_n 3, 1) := by decide +kernel
theorem dL_law_737 : decode cL_law 737 = .ok (.invokestatic 107, 3) := by decide +kernel
theorem dL_law_740 : decode cL_law 740 = .ok (.istore 5, 2) := by decide +kernel
theorem dL_law_742 : decode cL_law 742 = .ok (.aload_n 2, 1) := by decide +kernel
theorem dL_law_743 : decode cL_law 743 = .ok (.aload_n 0, 1) := by decide +kernel
theorem dL_law_744 : decode cL_law 744 = .ok (.iload 4, 2) := by decide +kernel
theorem dL_law_746 : decode cL_law 746 = .ok (.iconst 1, 1) := by decide +kernel
theorem dL_law_747 : decode cL_law 747 = .ok (.iadd, 1) := by decide +kernel
theorem dL_law_748 : decode cL_law 748 = .ok (.iaload, 1) := by decide +kernel
theorem dL_law_749 : decode cL_law 749 = .ok (.invokevirtual 109, 3) := by decide +kernel
theorem dL_law_752 : decode cL_law 752 = .ok (.istore 6, 2) := by decide +kernel
theorem dL_law_754 : decode cL_law 754 = .ok (.aload_n 2, 1) := by decide +kernel
theorem dL_law_755 : decode cL_law 755 = .ok (.invokevirtual 77, 3) := by decide +kernel
theorem dL_law_758 : decode cL_law 758 = .ok (.iload 5, 2) := by decide +kernel
theorem dL_law_760 : decode cL_law 760 = .ok (.if_icmp .eq 5, 3) := by decide +kernel
theorem dL_law_763 : decode cL_law 763 = .ok (.iconst 0, 1) := by decide +kernel
theorem dL_law_764 : decode cL_law 764 = .ok (.ireturn, 1) := by decide +kernel
theorem dL_law_765 : decode cL_law 765 = .ok (.iload 5, 2) := by decide +kernel
theorem dL_law_767 : decode cL_law 767 = .ok (.ifCond .ne 15, 3) := by decide +kernel
theorem dL_law_770 : decode cL_law 770 = .ok (.aload_n 3, 1) := by decide +kernel
theorem dL_law_771 : decode cL_law 771 = .ok (.iconst 0, 1) := by decide +kernel
theorem dL_law_772 : decode cL_law 772 = .ok (.laload, 1) := by decide +kernel
theorem dL_law_773 : decode cL_law 773 = .ok (.iload 6, 2) := by decide +kernel
theorem dL_law_775 : decode cL_law 775 = .ok (.i2l, 1) := by decide +kernel
theorem dL_law_776 : decode cL_law 776 = .ok (.lcmp, 1) := by decide +kernel
theorem dL_law_777 : decode cL_law 777 = .ok (.ifCond .eq 5, 3) := by decide +kernel
theorem dL_law_780 : decode cL_law 780 = .ok (.iconst 0, 1) := by decide +kernel
theorem dL_law_781 : decode cL_law 781 = .ok (.ireturn, 1) := by decide +kernel
theorem dL_law_782 : decode cL_law 782 = .ok (.goto 369, 3) := by decide +kernel
theorem dL_law_785 : decode cL_law 785 = .ok (.aload_n 1, 1) := by decide +kernel
theorem dL_law_786 : decode cL_law 786 = .ok (.aload_n 0, 1) := by decide +kernel
theorem dL_law_787 : decode cL_law 787 = .ok (.iload 4, 2) := by decide +kernel
theorem dL_law_789 : decode cL_law 789 = .ok (.iconst 1, 1) := by decide +kernel
theorem dL_law_790 : decode cL_law 790 = .ok (.iadd, 1) := by decide +kernel
theorem dL_law_791 : decode cL_law 791 = .ok (.iaload, 1) := by decide +kernel
theorem dL_law_792 : decode cL_law 792 = .ok (.aload_n 0, 1) := by decide +kernel
theorem dL_law_793 : decode cL_law 793 = .ok (.iload 4, 2) := by decide +kernel
theorem dL_law_795 : decode cL_law 795 = .ok (.iconst 2, 1) := by decide +kernel
theorem dL_law_796 : decode cL_law 796 = .ok (.iadd, 1) := by decide +kernel
theorem dL_law_797 : decode cL_law 797 = .ok (.iaload, 1) := by decide +kernel
theorem dL_law_798 : decode cL_law 798 = .ok (.aload_n 3, 1) := by decide +kernel
theorem dL_law_799 : decode cL_law 799 = .ok (.invokestatic 110, 3) := by decide +kernel
theorem dL_law_802 : decode cL_law 802 = .ok (.istore 5, 2) := by decide +kernel
theorem dL_law_804 : decode cL_law 804 = .ok (.aload_n 2, 1) := by decide +kernel
theorem dL_law_805 : decode cL_law 805 = .ok (.aload_n 0, 1) := by decide +kernel
theorem dL_law_806 : decode cL_law 806 = .ok (.iload 4, 2) := by decide +kernel
theorem dL_law_808 : decode cL_law 808 = .ok (.iconst 1, 1) := by decide +kernel
theorem dL_law_809 : decode cL_law 809 = .ok (.iadd, 1) := by decide +kernel
theorem dL_law_810 : decode cL_law 810 = .ok (.iaload, 1) := by decide +kernel
theorem dL_law_811 : decode cL_law 811 = .ok (.aload_n 0, 1) := by decide +kernel
theorem dL_law_812 : decode cL_law 812 = .ok (.iload 4, 2) := by decide +kernel
theorem dL_law_814 : decode cL_law 814 = .ok (.iconst 2, 1) := by decide +kernel
theorem dL_law_815 : decode cL_law 815 = .ok (.iadd, 1) := by decide +kernel
theorem dL_law_816 : decode cL_law 816 = .ok (.iaload, 1) := by decide +kernel
theorem dL_law_817 : decode cL_law 817 = .ok (.invokevirtual 112, 3) := by decide +kernel
theorem dL_law_820 : decode cL_law 820 = .ok (.istore 6, 2) := by decide +kernel
theorem dL_law_822 : decode cL_law 822 = .ok (.aload_n 2, 1) := by decide +kernel
theorem dL_law_823 : decode cL_law 823 = .ok (.invokevirtual 77, 3) := by decide +kernel
theorem dL_law_826 : decode cL_law 826 = .ok (.iload 5, 2) := by decide +kernel
theorem dL_law_828 : decode cL_law 828 = .ok (.if_icmp .eq 5, 3) := by decide +kernel
theorem dL_law_831 : decode cL_law 831 = .ok (.iconst 0, 1) := by decide +kernel
theorem dL_law_832 : decode cL_law 832 = .ok (.ireturn, 1) := by decide +kernel
theorem dL_law_833 : decode cL_law 833 = .ok (.iload 5, 2) := by decide +kernel
theorem dL_law_835 : decode cL_law 835 = .ok (.ifCond .ne 15, 3) := by decide +kernel
theorem dL_law_838 : decode cL_law 838 = .ok (.aload_n 3, 1) := by decide +kernel
theorem dL_law_839 : decode cL_law 839 = .ok (.iconst 0, 1) := by decide +kernel
theorem dL_law_840 : decode cL_law 840 = .ok (.laload, 1) := by decide +kernel
theorem dL_law_841 : decode cL_law 841 = .ok (.iload 6, 2) := by decide +kernel
theorem dL_law_843 : decode cL_law 843 = .ok (.i2l, 1) := by decide +kernel
theorem dL_law_844 : decode cL_law 844 = .ok (.lcmp, 1) := by decide +kernel
theorem dL_law_845 : decode cL_law 845 = .ok (.ifCond .eq 5, 3) := by decide +kernel
theorem dL_law_848 : decode cL_law 848 = .ok (.iconst 0, 1) := by decide +kernel
theorem dL_law_849 : decode cL_law 849 = .ok (.ireturn, 1) := by decide +kernel
theorem dL_law_850 : decode cL_law 850 = .ok (.goto 301, 3) := by decide +kernel
theorem dL_law_853 : decode cL_law 853 = .ok (.aload_n 1, 1) := by decide +kernel
theorem dL_law_854 : decode cL_law 854 = .ok (.invokevirtual 113, 3) := by decide +kernel
theorem dL_law_857 : decode cL_law 857 = .ok (.aload_n 2, 1) := by decide +kernel
theorem dL_law_858 : decode cL_law 858 = .ok (.invokevirtual 116, 3) := by decide +kernel
theorem dL_law_861 : decode cL_law 861 = .ok (.if_icmp .eq 290, 3) := by decide +kernel
theorem dL_law_864 : decode cL_law 864 = .ok (.iconst 0, 1) := by decide +kernel
theorem dL_law_865 : decode cL_law 865 = .ok (.ireturn, 1) := by decide +kernel
theorem dL_law_866 : decode cL_law 866 = .ok (.aload_n 1, 1) := by decide +kernel
theorem dL_law_867 : decode cL_law 867 = .ok (.aload_n 0, 1) := by decide +kernel
theorem dL_law_868 : decode cL_law 868 = .ok (.iload 4, 2) := by decide +kernel
theorem dL_law_870 : decode cL_law 870 = .ok (.iconst 1, 1) := by decide +kernel
theorem dL_law_871 : decode cL_law 871 = .ok (.iadd, 1) := by decide +kernel
theorem dL_law_872 : decode cL_law 872 = .ok (.iaload, 1) := by decide +kernel
theorem dL_law_873 : decode cL_law 873 = .ok (.aload_n 3, 1) := by decide +kernel
theorem dL_law_874 : decode cL_law 874 = .ok (.invokestatic 117, 3) := by decide +kernel
theorem dL_law_877 : decode cL_law 877 = .ok (.istore 5, 2) := by decide +kernel
theorem dL_law_879 : decode cL_law 879 = .ok (.aload_n 2, 1) := by decide +kernel
theorem dL_law_880 : decode cL_law 880 = .ok (.aload_n 0, 1) := by decide +kernel
theorem dL_law_881 : decode cL_law 881 = .ok (.iload 4, 2) := by decide +kernel
theorem dL_law_883 : decode cL_law 883 = .ok (.iconst 1, 1) := by decide +kernel
theorem dL_law_884 : decode cL_law 884 = .ok (.iadd, 1) := by decide +kernel
theorem dL_law_885 : decode cL_law 885 = .ok (.iaload, 1) := by decide +kernel
theorem dL_law_886 : decode cL_law 886 = .ok (.invokevirtual 119, 3) := by decide +kernel
theorem dL_law_889 : decode cL_law 889 = .ok (.istore 6, 2) := by decide +kernel
theorem dL_law_891 : decode cL_law 891 = .ok (.aload_n 2, 1) := by decide +kernel
theorem dL_law_892 : decode cL_law 892 = .ok (.invokevirtual 77, 3) := by decide +kernel
theorem dL_law_895 : decode cL_law 895 = .ok (.iload 5, 2) := by decide +kernel
theorem dL_law_897 : decode cL_law 897 = .ok (.if_icmp .eq 5, 3) := by decide +kernel
theorem dL_law_900 : decode cL_law 900 = .ok (.iconst 0, 1) := by decide +kernel
theorem dL_law_901 : decode cL_law 901 = .ok (.ireturn, 1) := by decide +kernel
theorem dL_law_902 : decode cL_law 902 = .ok (.iload 5, 2) := by decide +kernel
theorem dL_law_904 : decode cL_law 904 = .ok (.ifCond .ne 15, 3) := by decide +kernel
theorem dL_law_907 : decode cL_law 907 = .ok (.aload_n 3, 1) := by decide +kernel
theorem dL_law_908 : decode cL_law 908 = .ok (.iconst 0, 1) := by decide +kernel
theorem dL_law_909 : decode cL_law 909 = .ok (.laload, 1) := by decide +kernel
theorem dL_law_910 : decode cL_law 910 = .ok (.iload 6, 2) := by decide +kernel
theorem dL_law_912 : decode cL_law 912 = .ok (.i2l, 1) := by decide +kernel
theorem dL_law_913 : decode cL_law 913 = .ok (.lcmp, 1) := by decide +kernel
theorem dL_law_914 : decode cL_law 914 = .ok (.ifCond .eq 5, 3) := by decide +kernel
theorem dL_law_917 : decode cL_law 917 = .ok (.iconst 0, 1) := by decide +kernel
theorem dL_law_918 : decode cL_law 918 = .ok (.ireturn, 1) := by decide +kernel
theorem dL_law_919 : decode cL_law 919 = .ok (.goto 232, 3) := by decide +kernel
theorem dL_law_922 : decode cL_law 922 = .ok (.aload_n 1, 1) := by decide +kernel
theorem dL_law_923 : decode cL_law 923 = .ok (.invokevirtual 120, 3) := by decide +kernel
theorem dL_law_926 : decode cL_law 926 = .ok (.aload_n 2, 1) := by decide +kernel
theorem dL_law_927 : decode cL_law 927 = .ok (.invokevirtual 123, 3) := by decide +kernel
theorem dL_law_930 : decode cL_law 930 = .ok (.if_icmp .eq 221, 3) := by decide +kernel
theorem dL_law_933 : decode cL_law 933 = .ok (.iconst 0, 1) := by decide +kernel
theorem dL_law_934 : decode cL_law 934 = .ok (.ireturn, 1) := by decide +kernel
theorem dL_law_935 : decode cL_law 935 = .ok (.aload_n 1, 1) := by decide +kernel
theorem dL_law_936 : decode cL_law 936 = .ok (.invokevirtual 124, 3) := by decide +kernel
theorem dL_law_939 : decode cL_law 939 = .ok (.aload_n 2, 1) := by decide +kernel
theorem dL_law_940 : decode cL_law 940 = .ok (.invokevirtual 127, 3) := by decide +kernel
theorem dL_law_943 : decode cL_law 943 = .ok (.if_icmp .eq 208, 3) := by decide +kernel
theorem dL_law_946 : decode cL_law 946 = .ok (.iconst 0, 1) := by decide +kernel
theorem dL_law_947 : decode cL_law 947 = .ok (.ireturn, 1) := by decide +kernel
theorem dL_law_948 : decode cL_law 948 = .ok (.aload_n 1, 1) := by decide +kernel
theorem dL_law_949 : decode cL_law 949 = .ok (.aload_n 0, 1) := by decide +kernel
theorem dL_law_950 : decode cL_law 950 = .ok (.iload 4, 2) := by decide +kernel
theorem dL_law_952 : decode cL_law 952 = .ok (.iconst 1, 1) := by decide +kernel
theorem dL_law_953 : decode cL_law 953 = .ok (.iadd, 1) := by decide +kernel
theorem dL_law_954 : decode cL_law 954 = .ok (.iaload, 1) := by decide +kernel
theorem dL_law_955 : decode cL_law 955 = .ok (.aload_n 0, 1) := by decide +kernel
theorem dL_law_956 : decode cL_law 956 = .ok (.iload 4, 2) := by decide +kernel
theorem dL_law_958 : decode cL_law 958 = .ok (.iconst 2, 1) := by decide +kernel
theorem dL_law_959 : decode cL_law 959 = .ok (.iadd, 1) := by decide +kernel
theorem dL_law_960 : decode cL_law 960 = .ok (.iaload, 1) := by decide +kernel
theorem dL_law_961 : decode cL_law 961 = .ok (.aload_n 3, 1) := by decide +kernel
theorem dL_law_962 : decode cL_law 962 = .ok (.invokestatic 128, 3) := by decide +kernel
theorem dL_law_965 : decode cL_law 965 = .ok (.istore 5, 2) := by decide +kernel
theorem dL_law_967 : decode cL_law 967 = .ok (.aload_n 2, 1) := by decide +kernel
theorem dL_law_968 : decode cL_law 968 = .ok (.aload_n 0, 1) := by decide +kernel
theorem dL_law_969 : decode cL_law 969 = .ok (.iload 4, 2) := by decide +kernel
theorem dL_law_971 : decode cL_law 971 = .ok (.iconst 1, 1) := by decide +kernel
theorem dL_law_972 : decode cL_law 972 = .ok (.iadd, 1) := by decide +kernel
theorem dL_law_973 : decode cL_law 973 = .ok (.iaload, 1) := by decide +kernel
theorem dL_law_974 : decode cL_law 974 = .ok (.aload_n 0, 1) := by decide +kernel
theorem dL_law_975 : decode cL_law 975 = .ok (.iload 4, 2) := by decide +kernel
theorem dL_law_977 : decode cL_law 977 = .ok (.iconst 2, 1) := by decide +kernel
theorem dL_law_978 : decode cL_law 978 = .ok (.iadd, 1) := by decide +kernel
theorem dL_law_979 : decode cL_law 979 = .ok (.iaload, 1) := by decide +kernel
theorem dL_law_980 : decode cL_law 980 = .ok (.invokevirtual 130, 3) := by decide +kernel
theorem dL_law_983 : decode cL_law 983 = .ok (.istore 6, 2) := by decide +kernel
theorem dL_law_985 : decode cL_law 985 = .ok (.aload_n 2, 1) := by decide +kernel
theorem dL_law_986 : decode cL_law 986 = .ok (.invokevirtual 77, 3) := by decide +kernel
theorem dL_law_989 : decode cL_law 989 = .ok (.iload 5, 2) := by decide +kernel
theorem dL_law_991 : decode cL_law 991 = .ok (.if_icmp .eq 5, 3) := by decide +kernel
theorem dL_law_994 : decode cL_law 994 = .ok (.iconst 0, 1) := by decide +kernel
theorem dL_law_995 : decode cL_law 995 = .ok (.ireturn, 1) := by decide +kernel
theorem dL_law_996 : decode cL_law 996 = .ok (.iload 5, 2) := by decide +kernel
theorem dL_law_998 : decode cL_law 998 = .ok (.ifCond .ne 15, 3) := by decide +kernel
theorem dL_law_1001 : decode cL_law 1001 = .ok (.aload_n 3, 1) := by decide +kernel
theorem dL_law_1002 : decode cL_law 1002 = .ok (.iconst 0, 1) := by decide +kernel
theorem dL_law_1003 : decode cL_law 1003 = .ok (.laload, 1) := by decide +kernel
theorem dL_law_1004 : decode cL_law 1004 = .ok (.iload 6, 2) := by decide +kernel
theorem dL_law_1006 : decode cL_law 1006 = .ok (.i2l, 1) := by decide +kernel
theorem dL_law_1007 : decode cL_law 1007 = .ok (.lcmp, 1) := by decide +kernel
theorem dL_law_1008 : decode cL_law 1008 = .ok (.ifCond .eq 5, 3) := by decide +kernel
theorem dL_law_1011 : decode cL_law 1011 = .ok (.iconst 0, 1) := by decide +kernel
theorem dL_law_1012 : decode cL_law 1012 = .ok (.ireturn, 1) := by decide +kernel
theorem dL_law_1013 : decode cL_law 1013 = .ok (.goto 138, 3) := by decide +kernel
theorem dL_law_1016 : decode cL_law 1016 = .ok (.aload_n 1, 1) := by decide +kernel
theorem dL_law_1017 : decode cL_law 1017 = .ok (.aload_n 0, 1) := by decide +kernel
theorem dL_law_1018 : decode cL_law 1018 = .ok (.iload 4, 2) := by decide +kernel
theorem dL_law_1020 : decode cL_law 1020 = .ok (.iconst 1, 1) := by decide +kernel
theorem dL_law_1021 : decode cL_law 1021 = .ok (.iadd, 1) := by decide +kernel
theorem dL_law_1022 : decode cL_law 1022 = .ok (.iaload, 1) := by decide +kernel
theorem dL_law_1023 : decode cL_law 1023 = .ok (.aload_n 0, 1) := by decide +kernel
theorem dL_law_1024 : decode cL_law 1024 = .ok (.iload 4, 2) := by decide +kernel
theorem dL_law_1026 : decode cL_law 1026 = .ok (.iconst 2, 1) := by decide +kernel
theorem dL_law_1027 : decode cL_law 1027 = .ok (.iadd, 1) := by decide +kernel
theorem dL_law_1028 : decode cL_law 1028 = .ok (.iaload, 1) := by decide +kernel
theorem dL_law_1029 : decode cL_law 1029 = .ok (.aload_n 3, 1) := by decide +kernel
theorem dL_law_1030 : decode cL_law 1030 = .ok (.invokestatic 131, 3) := by decide +kernel
theorem dL_law_1033 : decode cL_law 1033 = .ok (.istore 5, 2) := by decide +kernel
theorem dL_law_1035 : decode cL_law 1035 = .ok (.aload_n 2, 1) := by decide +kernel
theorem dL_law_1036 : decode cL_law 1036 = .ok (.aload_n 0, 1) := by decide +kernel
theorem dL_law_1037 : decode cL_law 1037 = .ok (.iload 4, 2) := by decide +kernel
theorem dL_law_1039 : decode cL_law 1039 = .ok (.iconst 1, 1) := by decide +kernel
theorem dL_law_1040 : decode cL_law 1040 = .ok (.iadd, 1) := by decide +kernel
theorem dL_law_1041 : decode cL_law 1041 = .ok (.iaload, 1) := by decide +kernel
theorem dL_law_1042 : decode cL_law 1042 = .ok (.aload_n 0, 1) := by decide +kernel
theorem dL_law_1043 : decode cL_law 1043 = .ok (.iload 4, 2) := by decide +kernel
theorem dL_law_1045 : decode cL_law 1045 = .ok (.iconst 2, 1) := by decide +kernel
theorem dL_law_1046 : decode cL_law 1046 = .ok (.iadd, 1) := by decide +kernel
theorem dL_law_1047 : decode cL_law 1047 = .ok (.iaload, 1) := by decide +kernel
theorem dL_law_1048 : decode cL_law 1048 = .ok (.invokevirtual 133, 3) := by decide +kernel
theorem dL_law_1051 : decode cL_law 1051 = .ok (.istore 6, 2) := by decide +kernel
theorem dL_law_1053 : decode cL_law 1053 = .ok (.aload_n 2, 1) := by decide +kernel
theorem dL_law_1054 : decode cL_law 1054 = .ok (.invokevirtual 77, 3) := by decide +kernel
theorem dL_law_1057 : decode cL_law 1057 = .ok (.iload 5, 2) := by decide +kernel
theorem dL_law_1059 : decode cL_law 1059 = .ok (.if_icmp .eq 5, 3) := by decide +kernel
theorem dL_law_1062 : decode cL_law 1062 = .ok (.iconst 0, 1) := by decide +kernel
theorem dL_law_1063 : decode cL_law 1063 = .ok (.ireturn, 1) := by decide +kernel
theorem dL_law_1064 : decode cL_law 1064 = .ok (.iload 5, 2) := by decide +kernel
theorem dL_law_1066 : decode cL_law 1066 = .ok (.ifCond .ne 15, 3) := by decide +kernel
theorem dL_law_1069 : decode cL_law 1069 = .ok (.aload_n 3, 1) := by decide +kernel
theorem dL_law_1070 : decode cL_law 1070 = .ok (.iconst 0, 1) := by decide +kernel
theorem dL_law_1071 : decode cL_law 1071 = .ok (.laload, 1) := by decide +kernel
theorem dL_law_1072 : decode cL_law 1072 = .ok (.iload 6, 2) := by decide +kernel
theorem dL_law_1074 : decode cL_law 1074 = .ok (.i2l, 1) := by decide +kernel
theorem dL_law_1075 : decode cL_law 1075 = .ok (.lcmp, 1) := by decide +kernel
theorem dL_law_1076 : decode cL_law 1076 = .ok (.ifCond .eq 5, 3) := by decide +kernel
theorem dL_law_1079 : decode cL_law 1079 = .ok (.iconst 0, 1) := by decide +kernel
theorem dL_law_1080 : decode cL_law 1080 = .ok (.ireturn, 1) := by decide +kernel
theorem dL_law_1081 : decode cL_law 1081 = .ok (.goto 70, 3) := by decide +kernel
theorem dL_law_1084 : decode cL_law 1084 = .ok (.aload_n 1, 1) := by decide +kernel
theorem dL_law_1085 : decode cL_law 1085 = .ok (.aload_n 0, 1) := by decide +kernel
theorem dL_law_1086 : decode cL_law 1086 = .ok (.iload 4, 2) := by decide +kernel
theorem dL_law_1088 : decode cL_law 1088 = .ok (.iconst 1, 1) := by decide +kernel
theorem dL_law_1089 : decode cL_law 1089 = .ok (.iadd, 1) := by decide +kernel
theorem dL_law_1090 : decode cL_law 1090 = .ok (.iaload, 1) := by decide +kernel
theorem dL_law_1091 : decode cL_law 1091 = .ok (.aload_n 3, 1) := by decide +kernel
theorem dL_law_1092 : decode cL_law 1092 = .ok (.invokestatic 134, 3) := by decide +kernel
theorem dL_law_1095 : decode cL_law 1095 = .ok (.istore 5, 2) := by decide +kernel
theorem dL_law_1097 : decode cL_law 1097 = .ok (.aload_n 2, 1) := by decide +kernel
theorem dL_law_1098 : decode cL_law 1098 = .ok (.aload_n 0, 1) := by decide +kernel
theorem dL_law_1099 : decode cL_law 1099 = .ok (.iload 4, 2) := by decide +kernel
theorem dL_law_1101 : decode cL_law 1101 = .ok (.iconst 1, 1) := by decide +kernel
theorem dL_law_1102 : decode cL_law 1102 = .ok (.iadd, 1) := by decide +kernel
theorem dL_law_1103 : decode cL_law 1103 = .ok (.iaload, 1) := by decide +kernel
theorem dL_law_1104 : decode cL_law 1104 = .ok (.invokevirtual 136, 3) := by decide +kernel
theorem dL_law_1107 : decode cL_law 1107 = .ok (.istore 6, 2) := by decide +kernel
theorem dL_law_1109 : decode cL_law 1109 = .ok (.aload_n 2, 1) := by decide +kernel
theorem dL_law_1110 : decode cL_law 1110 = .ok (.invokevirtual 77, 3) := by decide +kernel
theorem dL_law_1113 : decode cL_law 1113 = .ok (.iload 5, 2) := by decide +kernel
theorem dL_law_1115 : decode cL_law 1115 = .ok (.if_icmp .eq 5, 3) := by decide +kernel
theorem dL_law_1118 : decode cL_law 1118 = .ok (.iconst 0, 1) := by decide +kernel
theorem dL_law_1119 : decode cL_law 1119 = .ok (.ireturn, 1) := by decide +kernel
theorem dL_law_1120 : decode cL_law 1120 = .ok (.iload 5, 2) := by decide +kernel
theorem dL_law_1122 : decode cL_law 1122 = .ok (.ifCond .ne 15, 3) := by decide +kernel
theorem dL_law_1125 : decode cL_law 1125 = .ok (.aload_n 3, 1) := by decide +kernel
theorem dL_law_1126 : decode cL_law 1126 = .ok (.iconst 0, 1) := by decide +kernel
theorem dL_law_1127 : decode cL_law 1127 = .ok (.laload, 1) := by decide +kernel
theorem dL_law_1128 : decode cL_law 1128 = .ok (.iload 6, 2) := by decide +kernel
theorem dL_law_1130 : decode cL_law 1130 = .ok (.i2l, 1) := by decide +kernel
theorem dL_law_1131 : decode cL_law 1131 = .ok (.lcmp, 1) := by decide +kernel
theorem dL_law_1132 : decode cL_law 1132 = .ok (.ifCond .eq 5, 3) := by decide +kernel
theorem dL_law_1135 : decode cL_law 1135 = .ok (.iconst 0, 1) := by decide +kernel
theorem dL_law_1136 : decode cL_law 1136 = .ok (.ireturn, 1) := by decide +kernel
theorem dL_law_1137 : decode cL_law 1137 = .ok (.goto 14, 3) := by decide +kernel
theorem dL_law_1140 : decode cL_law 1140 = .ok (.aload_n 1, 1) := by decide +kernel
theorem dL_law_1141 : decode cL_law 1141 = .ok (.invokevirtual 137, 3) := by decide +kernel
theorem dL_law_1144 : decode cL_law 1144 = .ok (.aload_n 2, 1) := by decide +kernel
theorem dL_law_1145 : decode cL_law 1145 = .ok (.invokevirtual 140, 3) := by decide +kernel
theorem dL_law_1148 : decode cL_law 1148 = .ok (.goto 3, 3) := by decide +kernel
theorem dL_law_1151 : decode cL_law 1151 = .ok (.iinc 4 4, 3) := by decide +kernel
theorem dL_law_1154 : decode cL_law 1154 = .ok (.goto (-1131), 3) := by decide +kernel
theorem dL_law_1157 : decode cL_law 1157 = .ok (.iconst 1, 1) := by decide +kernel
theorem dL_law_1158 : decode cL_law 1158 = .ok (.ireturn, 1) := by decide +kernel
