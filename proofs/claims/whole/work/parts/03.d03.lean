theorem dX6_value_13 : decode cX6_value 13 = .ok (.iconst 1, 1) := by decide +kernel
theorem dX6_value_14 : decode cX6_value 14 = .ok (.putfield 75, 3) := by decide +kernel
theorem dX6_value_17 : decode cX6_value 17 = .ok (.aload_n 0, 1) := by decide +kernel
theorem dX6_value_18 : decode cX6_value 18 = .ok (.getfield 75, 3) := by decide +kernel
theorem dX6_value_21 : decode cX6_value 21 = .ok (.ifCond .le 5, 3) := by decide +kernel
theorem dX6_value_24 : decode cX6_value 24 = .ok (.iconst 0, 1) := by decide +kernel
theorem dX6_value_25 : decode cX6_value 25 = .ok (.ireturn, 1) := by decide +kernel
theorem dX6_value_26 : decode cX6_value 26 = .ok (.aload_n 0, 1) := by decide +kernel
theorem dX6_value_27 : decode cX6_value 27 = .ok (.iload_n 2, 1) := by decide +kernel
theorem dX6_value_28 : decode cX6_value 28 = .ok (.invokevirtual 182, 3) := by decide +kernel
theorem dX6_value_31 : decode cX6_value 31 = .ok (.iconst 0, 1) := by decide +kernel
theorem dX6_value_32 : decode cX6_value 32 = .ok (.istore_n 3, 1) := by decide +kernel
theorem dX6_value_33 : decode cX6_value 33 = .ok (.iload_n 3, 1) := by decide +kernel
theorem dX6_value_34 : decode cX6_value 34 = .ok (.aload_n 0, 1) := by decide +kernel
theorem dX6_value_35 : decode cX6_value 35 = .ok (.getfield 79, 3) := by decide +kernel
theorem dX6_value_38 : decode cX6_value 38 = .ok (.if_icmp .ge 68, 3) := by decide +kernel
theorem dX6_value_41 : decode cX6_value 41 = .ok (.aload_n 0, 1) := by decide +kernel
theorem dX6_value_42 : decode cX6_value 42 = .ok (.iload_n 3, 1) := by decide +kernel
theorem dX6_value_43 : decode cX6_value 43 = .ok (.invokevirtual 111, 3) := by decide +kernel
theorem dX6_value_46 : decode cX6_value 46 = .ok (.ifCond .ne 54, 3) := by decide +kernel
theorem dX6_value_49 : decode cX6_value 49 = .ok (.aload_n 0, 1) := by decide +kernel
theorem dX6_value_50 : decode cX6_value 50 = .ok (.getfield 63, 3) := by decide +kernel
theorem dX6_value_53 : decode cX6_value 53 = .ok (.iload_n 3, 1) := by decide +kernel
theorem dX6_value_54 : decode cX6_value 54 = .ok (.aload_n 0, 1) := by decide +kernel
theorem dX6_value_55 : decode cX6_value 55 = .ok (.getfield 7, 3) := by decide +kernel
theorem dX6_value_58 : decode cX6_value 58 = .ok (.iload_n 3, 1) := by decide +kernel
theorem dX6_value_59 : decode cX6_value 59 = .ok (.iaload, 1) := by decide +kernel
theorem dX6_value_60 : decode cX6_value 60 = .ok (.aload_n 0, 1) := by decide +kernel
theorem dX6_value_61 : decode cX6_value 61 = .ok (.getfield 63, 3) := by decide +kernel
theorem dX6_value_64 : decode cX6_value 64 = .ok (.aload_n 0, 1) := by decide +kernel
theorem dX6_value_65 : decode cX6_value 65 = .ok (.getfield 7, 3) := by decide +kernel
theorem dX6_value_68 : decode cX6_value 68 = .ok (.iload_n 3, 1) := by decide +kernel
theorem dX6_value_69 : decode cX6_value 69 = .ok (.iaload, 1) := by decide +kernel
theorem dX6_value_70 : decode cX6_value 70 = .ok (.iconst 2, 1) := by decide +kernel
theorem dX6_value_71 : decode cX6_value 71 = .ok (.idiv, 1) := by decide +kernel
theorem dX6_value_72 : decode cX6_value 72 = .ok (.iaload, 1) := by decide +kernel
theorem dX6_value_73 : decode cX6_value 73 = .ok (.invokestatic 131, 3) := by decide +kernel
theorem dX6_value_76 : decode cX6_value 76 = .ok (.aload_n 0, 1) := by decide +kernel
theorem dX6_value_77 : decode cX6_value 77 = .ok (.getfield 13, 3) := by decide +kernel
theorem dX6_value_80 : decode cX6_value 80 = .ok (.iload_n 3, 1) := by decide +kernel
theorem dX6_value_81 : decode cX6_value 81 = .ok (.iaload, 1) := by decide +kernel
theorem dX6_value_82 : decode cX6_value 82 = .ok (.aload_n 0, 1) := by decide +kernel
theorem dX6_value_83 : decode cX6_value 83 = .ok (.getfield 63, 3) := by decide +kernel
theorem dX6_value_86 : decode cX6_value 86 = .ok (.aload_n 0, 1) := by decide +kernel
theorem dX6_value_87 : decode cX6_value 87 = .ok (.getfield 13, 3) := by decide +kernel
theorem dX6_value_90 : decode cX6_value 90 = .ok (.iload_n 3, 1) := by decide +kernel
theorem dX6_value_91 : decode cX6_value 91 = .ok (.iaload, 1) := by decide +kernel
theorem dX6_value_92 : decode cX6_value 92 = .ok (.iconst 2, 1) := by decide +kernel
theorem dX6_value_93 : decode cX6_value 93 = .ok (.idiv, 1) := by decide +kernel
theorem dX6_value_94 : decode cX6_value 94 = .ok (.iaload, 1) := by decide +kernel
theorem dX6_value_95 : decode cX6_value 95 = .ok (.invokestatic 131, 3) := by decide +kernel
theorem dX6_value_98 : decode cX6_value 98 = .ok (.iand, 1) := by decide +kernel
theorem dX6_value_99 : decode cX6_value 99 = .ok (.iastore, 1) := by decide +kernel
theorem dX6_value_100 : decode cX6_value 100 = .ok (.iinc 3 1, 3) := by decide +kernel
theorem dX6_value_103 : decode cX6_value 103 = .ok (.goto (-70), 3) := by decide +kernel
theorem dX6_value_106 : decode cX6_value 106 = .ok (.iload_n 1, 1) := by decide +kernel
theorem dX6_value_107 : decode cX6_value 107 = .ok (.aload_n 0, 1) := by decide +kernel
theorem dX6_value_108 : decode cX6_value 108 = .ok (.getfield 63, 3) := by decide +kernel
theorem dX6_value_111 : decode cX6_value 111 = .ok (.iload_n 1, 1) := by decide +kernel
theorem dX6_value_112 : decode cX6_value 112 = .ok (.iconst 2, 1) := by decide +kernel
theorem dX6_value_113 : decode cX6_value 113 = .ok (.idiv, 1) := by decide +kernel
theorem dX6_value_114 : decode cX6_value 114 = .ok (.iaload, 1) := by decide +kernel
theorem dX6_value_115 : decode cX6_value 115 = .ok (.invokestatic 131, 3) := by decide +kernel
theorem dX6_value_118 : decode cX6_value 118 = .ok (.ireturn, 1) := by decide +kernel
theorem dX6_byGate_0 : decode cX6_byGate 0 = .ok (.iconst 0, 1) := by decide +kernel
theorem dX6_byGate_1 : decode cX6_byGate 1 = .ok (.istore_n 2, 1) := by decide +kernel
theorem dX6_byGate_2 : decode cX6_byGate 2 = .ok (.iconst 0, 1) := by decide +kernel
theorem dX6_byGate_3 : decode cX6_byGate 3 = .ok (.istore_n 3, 1) := by decide +kernel
theorem dX6_byGate_4 : decode cX6_byGate 4 = .ok (.iload_n 3, 1) := by decide +kernel
theorem dX6_byGate_5 : decode cX6_byGate 5 = .ok (.aload_n 0, 1) := by decide +kernel
theorem dX6_byGate_6 : decode cX6_byGate 6 = .ok (.getfield 25, 3) := by decide +kernel
theorem dX6_byGate_9 : decode cX6_byGate 9 = .ok (.aload_n 0, 1) := by decide +kernel
theorem dX6_byGate_10 : decode cX6_byGate 10 = .ok (.getfield 53, 3) := by decide +kernel
theorem dX6_byGate_13 : decode cX6_byGate 13 = .ok (.iload_n 1, 1) := by decide +kernel
theorem dX6_byGate_14 : decode cX6_byGate 14 = .ok (.iaload, 1) := by decide +kernel
theorem dX6_byGate_15 : decode cX6_byGate 15 = .ok (.iaload, 1) := by decide +kernel
theorem dX6_byGate_16 : decode cX6_byGate 16 = .ok (.if_icmp .ge 29, 3) := by decide +kernel
theorem dX6_byGate_19 : decode cX6_byGate 19 = .ok (.iload_n 2, 1) := by decide +kernel
theorem dX6_byGate_20 : decode cX6_byGate 20 = .ok (.aload_n 0, 1) := by decide +kernel
theorem dX6_byGate_21 : decode cX6_byGate 21 = .ok (.getfield 63, 3) := by decide +kernel
theorem dX6_byGate_24 : decode cX6_byGate 24 = .ok (.aload_n 0, 1) := by decide +kernel
theorem dX6_byGate_25 : decode cX6_byGate 25 = .ok (.getfield 56, 3) := by decide +kernel
theorem dX6_byGate_28 : decode cX6_byGate 28 = .ok (.iconst 3, 1) := by decide +kernel
theorem dX6_byGate_29 : decode cX6_byGate 29 = .ok (.iload_n 1, 1) := by decide +kernel
theorem dX6_byGate_30 : decode cX6_byGate 30 = .ok (.imul, 1) := by decide +kernel
theorem dX6_byGate_31 : decode cX6_byGate 31 = .ok (.iload_n 3, 1) := by decide +kernel
theorem dX6_byGate_32 : decode cX6_byGate 32 = .ok (.iadd, 1) := by decide +kernel
theorem dX6_byGate_33 : decode cX6_byGate 33 = .ok (.iaload, 1) := by decide +kernel
theorem dX6_byGate_34 : decode cX6_byGate 34 = .ok (.iaload, 1) := by decide +kernel
theorem dX6_byGate_35 : decode cX6_byGate 35 = .ok (.iload_n 3, 1) := by decide +kernel
theorem dX6_byGate_36 : decode cX6_byGate 36 = .ok (.ishl, 1) := by decide +kernel
theorem dX6_byGate_37 : decode cX6_byGate 37 = .ok (.ior, 1) := by decide +kernel
theorem dX6_byGate_38 : decode cX6_byGate 38 = .ok (.istore_n 2, 1) := by decide +kernel
theorem dX6_byGate_39 : decode cX6_byGate 39 = .ok (.iinc 3 1, 3) := by decide +kernel
theorem dX6_byGate_42 : decode cX6_byGate 42 = .ok (.goto (-38), 3) := by decide +kernel
theorem dX6_byGate_45 : decode cX6_byGate 45 = .ok (.aload_n 0, 1) := by decide +kernel
theorem dX6_byGate_46 : decode cX6_byGate 46 = .ok (.getfield 28, 3) := by decide +kernel
theorem dX6_byGate_49 : decode cX6_byGate 49 = .ok (.aload_n 0, 1) := by decide +kernel
theorem dX6_byGate_50 : decode cX6_byGate 50 = .ok (.getfield 53, 3) := by decide +kernel
theorem dX6_byGate_53 : decode cX6_byGate 53 = .ok (.iload_n 1, 1) := by decide +kernel
theorem dX6_byGate_54 : decode cX6_byGate 54 = .ok (.iaload, 1) := by decide +kernel
theorem dX6_byGate_55 : decode cX6_byGate 55 = .ok (.iaload, 1) := by decide +kernel
theorem dX6_byGate_56 : decode cX6_byGate 56 = .ok (.iload_n 2, 1) := by decide +kernel
theorem dX6_byGate_57 : decode cX6_byGate 57 = .ok (.ishr, 1) := by decide +kernel
theorem dX6_byGate_58 : decode cX6_byGate 58 = .ok (.iconst 1, 1) := by decide +kernel
theorem dX6_byGate_59 : decode cX6_byGate 59 = .ok (.iand, 1) := by decide +kernel
theorem dX6_byGate_60 : decode cX6_byGate 60 = .ok (.ireturn, 1) := by decide +kernel
theorem dX6_turnsOwn_0 : decode cX6_turnsOwn 0 = .ok (.aload_n 0, 1) := by decide +kernel
theorem dX6_turnsOwn_1 : decode cX6_turnsOwn 1 = .ok (.getfield 56, 3) := by decide +kernel
theorem dX6_turnsOwn_4 : decode cX6_turnsOwn 4 = .ok (.iconst 3, 1) := by decide +kernel
theorem dX6_turnsOwn_5 : decode cX6_turnsOwn 5 = .ok (.iload_n 1, 1) := by decide +kernel
theorem dX6_turnsOwn_6 : decode cX6_turnsOwn 6 = .ok (.imul, 1) := by decide +kernel
theorem dX6_turnsOwn_7 : decode cX6_turnsOwn 7 = .ok (.iaload, 1) := by decide +kernel
theorem dX6_turnsOwn_8 : decode cX6_turnsOwn 8 = .ok (.iload_n 1, 1) := by decide +kernel
theorem dX6_turnsOwn_9 : decode cX6_turnsOwn 9 = .ok (.iconst 1, 1) := by decide +kernel
theorem dX6_turnsOwn_10 : decode cX6_turnsOwn 10 = .ok (.ixor, 1) := by decide +kernel
theorem dX6_turnsOwn_11 : decode cX6_turnsOwn 11 = .ok (.if_icmp .ne 7, 3) := by decide +kernel
theorem dX6_turnsOwn_14 : decode cX6_turnsOwn 14 = .ok (.iconst 1, 1) := by decide +kernel
theorem dX6_turnsOwn_15 : decode cX6_turnsOwn 15 = .ok (.goto 4, 3) := by decide +kernel
theorem dX6_turnsOwn_18 : decode cX6_turnsOwn 18 = .ok (.iconst 0, 1) := by decide +kernel
theorem dX6_turnsOwn_19 : decode cX6_turnsOwn 19 = .ok (.ireturn, 1) := by decide +kernel
set_option maxRecDepth 20000 in
theorem ggX6_mapped_X6_isLiteral : GoodIn wsX6_mapped wsX6_isLiteral := goodIn_r _ [12, 6, 13, 14, 11, 15, 94, 95, 96, 97, 98, 99, 100, 101, 102, 103, 104, 105, 106, 107, 108, 109, 110, 111, 112, 113, 114, 115, 116, 117, 118, 119, 120] (by decide +kernel) (by decide +kernel)
set_option maxRecDepth 20000 in
theorem gX6_mapped_X6_isLiteral : GoodIn wsX6_mapped (wsV RX6 93 RX6 yX6_isLiteral wsX6_isLiteral) := goodIn_app (goodIn_of _ (by decide +kernel)) ggX6_mapped_X6_isLiteral
set_option maxRecDepth 20000 in
theorem ggX6_mapped_X6_settle : GoodIn wsX6_mapped wsX6_settle := goodIn_r _ [19, 20, 21, 2, 7, 22, 3, 5, 23, 6, 24, 25, 26, 11, 27, 28, 29, 30, 31, 32, 33, 34, 35, 36, 37, 38, 39, 40, 41, 42, 43, 44, 45, 46, 47, 48, 49, 50, 51, 52, 53, 54, 55, 56, 57, 58, 59, 60, 4, 61, 62, 63, 64, 65, 66, 67, 68, 69, 70, 71, 72, 73, 74, 75, 76, 77, 78, 79, 80, 81, 82, 83, 84, 85, 94, 95, 96, 97, 98, 99, 100, 101, 102, 103, 104, 105, 106, 107, 108, 109, 110, 111, 112, 113, 114, 115, 116, 117, 118, 119, 120] (by decide +kernel) (by decide +kernel)
set_option maxRecDepth 20000 in
theorem gX6_mapped_X6_settle : GoodIn wsX6_mapped (wsV RX6 172 RX6 yX6_settle wsX6_settle) := goodIn_app (goodIn_of _ (by decide +kernel)) ggX6_mapped_X6_settle
set_option maxRecDepth 20000 in
theorem ggX6_mapped_X6_turnsOwn : GoodIn wsX6_mapped wsX6_turnsOwn := goodIn_r _ [89, 22, 94, 95, 96, 97, 98, 99, 100, 101, 102, 103, 104, 105, 106, 107, 108, 109, 110, 111, 112, 113, 114, 115, 116, 117, 118, 119, 120] (by decide +kernel) (by decide +kernel)
set_option maxRecDepth 20000 in
theorem gX6_mapped_X6_turnsOwn : GoodIn wsX6_mapped (wsV RX6 185 RX6 yX6_turnsOwn wsX6_turnsOwn) := goodIn_app (goodIn_of _ (by decide +kernel)) ggX6_mapped_X6_turnsOwn
set_option maxRecDepth 20000 in
theorem ggX6_mapped_X6_byGate : GoodIn wsX6_mapped wsX6_byGate := goodIn_r _ [93, 34, 7, 4, 22, 35, 94, 95, 96, 97, 98, 99, 100, 101, 102, 103, 104, 105, 106, 107, 108, 109, 110, 111, 112, 113, 114, 115, 116, 117, 118, 119, 120] (by decide +kernel) (by decide +kernel)
set_option maxRecDepth 20000 in
theorem gX6_mapped_X6_byGate : GoodIn wsX6_mapped (wsV RX6 188 RX6 yX6_byGate wsX6_byGate) := goodIn_app (goodIn_of _ (by decide +kernel)) ggX6_mapped_X6_byGate
theorem dX6_mapped_0 : decode cX6_mapped 0 = .ok (.aload_n 0, 1) := by decide +kernel
theorem dX6_mapped_1 : decode cX6_mapped 1 = .ok (.aload_n 0, 1) := by decide +kernel
theorem dX6_mapped_2 : decode cX6_mapped 2 = .ok (.iload_n 1, 1) := by decide +kernel
theorem dX6_mapped_3 : decode cX6_mapped 3 = .ok (.invokevirtual 93, 3) := by decide +kernel
theorem dX6_mapped_6 : decode cX6_mapped 6 = .ok (.ifCond .eq 7, 3) := by decide +kernel
theorem dX6_mapped_9 : decode cX6_mapped 9 = .ok (.iconst 0, 1) := by decide +kernel
theorem dX6_mapped_10 : decode cX6_mapped 10 = .ok (.goto 4, 3) := by decide +kernel
theorem dX6_mapped_13 : decode cX6_mapped 13 = .ok (.iconst 1, 1) := by decide +kernel
theorem dX6_mapped_14 : decode cX6_mapped 14 = .ok (.putfield 75, 3) := by decide +kernel
theorem dX6_mapped_17 : decode cX6_mapped 17 = .ok (.aload_n 0, 1) := by decide +kernel
theorem dX6_mapped_18 : decode cX6_mapped 18 = .ok (.getfield 75, 3) := by decide +kernel
theorem dX6_mapped_21 : decode cX6_mapped 21 = .ok (.ifCond .le 5, 3) := by decide +kernel
theorem dX6_mapped_24 : decode cX6_mapped 24 = .ok (.iconst 0, 1) := by decide +kernel
theorem dX6_mapped_25 : decode cX6_mapped 25 = .ok (.ireturn, 1) := by decide +kernel
theorem dX6_mapped_26 : decode cX6_mapped 26 = .ok (.aload_n 0, 1) := by decide +kernel
theorem dX6_mapped_27 : decode cX6_mapped 27 = .ok (.invokevirtual 172, 3) := by decide +kernel
theorem dX6_mapped_30 : decode cX6_mapped 30 = .ok (.aload_n 0, 1) := by decide +kernel
theorem dX6_mapped_31 : decode cX6_mapped 31 = .ok (.getfield 50, 3) := by decide +kernel
theorem dX6_mapped_34 : decode cX6_mapped 34 = .ok (.iload_n 1, 1) := by decide +kernel
theorem dX6_mapped_35 : decode cX6_mapped 35 = .ok (.iaload, 1) := by decide +kernel
theorem dX6_mapped_36 : decode cX6_mapped 36 = .ok (.iconst (-1), 1) := by decide +kernel
theorem dX6_mapped_37 : decode cX6_mapped 37 = .ok (.if_icmp .ne 5, 3) := by decide +kernel
theorem dX6_mapped_40 : decode cX6_mapped 40 = .ok (.iconst (-1), 1) := by decide +kernel
theorem dX6_mapped_41 : decode cX6_mapped 41 = .ok (.ireturn, 1) := by decide +kernel
theorem dX6_mapped_42 : decode cX6_mapped 42 = .ok (.iconst 0, 1) := by decide +kernel
theorem dX6_mapped_43 : decode cX6_mapped 43 = .ok (.istore_n 3, 1) := by decide +kernel
theorem dX6_mapped_44 : decode cX6_mapped 44 = .ok (.iload_n 3, 1) := by decide +kernel
theorem dX6_mapped_45 : decode cX6_mapped 45 = .ok (.aload_n 0, 1) := by decide +kernel
theorem dX6_mapped_46 : decode cX6_mapped 46 = .ok (.getfield 86, 3) := by decide +kernel
theorem dX6_mapped_49 : decode cX6_mapped 49 = .ok (.if_icmp .ge 27, 3) := by decide +kernel
theorem dX6_mapped_52 : decode cX6_mapped 52 = .ok (.aload_n 0, 1) := by decide +kernel
theorem dX6_mapped_53 : decode cX6_mapped 53 = .ok (.getfield 63, 3) := by decide +kernel
theorem dX6_mapped_56 : decode cX6_mapped 56 = .ok (.iconst 2, 1) := by decide +kernel
theorem dX6_mapped_57 : decode cX6_mapped 57 = .ok (.aload_n 0, 1) := by decide +kernel
theorem dX6_mapped_58 : decode cX6_mapped 58 = .ok (.getfield 16, 3) := by decide +kernel
theorem dX6_mapped_61 : decode cX6_mapped 61 = .ok (.iload_n 3, 1) := by decide +kernel
theorem dX6_mapped_62 : decode cX6_mapped 62 = .ok (.iaload, 1) := by decide +kernel
theorem dX6_mapped_63 : decode cX6_mapped 63 = .ok (.imul, 1) := by decide +kernel
theorem dX6_mapped_64 : decode cX6_mapped 64 = .ok (.iload_n 2, 1) := by decide +kernel
theorem dX6_mapped_65 : decode cX6_mapped 65 = .ok (.iload_n 3, 1) := by decide +kernel
theorem dX6_mapped_66 : decode cX6_mapped 66 = .ok (.ishr, 1) := by decide +kernel
theorem dX6_mapped_67 : decode cX6_mapped 67 = .ok (.iconst 1, 1) := by decide +kernel
theorem dX6_mapped_68 : decode cX6_mapped 68 = .ok (.iand, 1) := by decide +kernel
theorem dX6_mapped_69 : decode cX6_mapped 69 = .ok (.iastore, 1) := by decide +kernel
theorem dX6_mapped_70 : decode cX6_mapped 70 = .ok (.iinc 3 1, 3) := by decide +kernel
theorem dX6_mapped_73 : decode cX6_mapped 73 = .ok (.goto (-29), 3) := by decide +kernel
theorem dX6_mapped_76 : decode cX6_mapped 76 = .ok (.iconst 0, 1) := by decide +kernel
theorem dX6_mapped_77 : decode cX6_mapped 77 = .ok (.istore_n 3, 1) := by decide +kernel
theorem dX6_mapped_78 : decode cX6_mapped 78 = .ok (.iload_n 3, 1) := by decide +kernel
theorem dX6_mapped_79 : decode cX6_mapped 79 = .ok (.aload_n 0, 1) := by decide +kernel
theorem dX6_mapped_80 : decode cX6_mapped 80 = .ok (.getfield 79, 3) := by decide +kernel
theorem dX6_mapped_83 : decode cX6_mapped 83 = .ok (.if_icmp .ge 78, 3) := by decide +kernel
theorem dX6_mapped_86 : decode cX6_mapped 86 = .ok (.iconst 0, 1) := by decide +kernel
theorem dX6_mapped_87 : decode cX6_mapped 87 = .ok (.istore 4, 2) := by decide +kernel
theorem dX6_mapped_89 : decode cX6_mapped 89 = .ok (.iload 4, 2) := by decide +kernel
theorem dX6_mapped_91 : decode cX6_mapped 91 = .ok (.iconst 4, 1) := by decide +kernel
theorem dX6_mapped_92 : decode cX6_mapped 92 = .ok (.if_icmp .ge 63, 3) := by decide +kernel
theorem dX6_mapped_95 : decode cX6_mapped 95 = .ok (.iconst 2, 1) := by decide +kernel
theorem dX6_mapped_96 : decode cX6_mapped 96 = .ok (.iload_n 3, 1) := by decide +kernel
theorem dX6_mapped_97 : decode cX6_mapped 97 = .ok (.imul, 1) := by decide +kernel
theorem dX6_mapped_98 : decode cX6_mapped 98 = .ok (.iload 4, 2) := by decide +kernel
theorem dX6_mapped_100 : decode cX6_mapped 100 = .ok (.iconst 1, 1) := by decide +kernel
theorem dX6_mapped_101 : decode cX6_mapped 101 = .ok (.iand, 1) := by decide +kernel
theorem dX6_mapped_102 : decode cX6_mapped 102 = .ok (.iadd, 1) := by decide +kernel
theorem dX6_mapped_103 : decode cX6_mapped 103 = .ok (.istore 5, 2) := by decide +kernel
theorem dX6_mapped_105 : decode cX6_mapped 105 = .ok (.aload_n 0, 1) := by decide +kernel
theorem dX6_mapped_106 : decode cX6_mapped 106 = .ok (.getfield 53, 3) := by decide +kernel
theorem dX6_mapped_109 : decode cX6_mapped 109 = .ok (.iload 5, 2) := by decide +kernel
theorem dX6_mapped_111 : decode cX6_mapped 111 = .ok (.iaload, 1) := by decide +kernel
theorem dX6_mapped_112 : decode cX6_mapped 112 = .ok (.iconst (-1), 1) := by decide +kernel
theorem dX6_mapped_113 : decode cX6_mapped 113 = .ok (.if_icmp .eq 36, 3) := by decide +kernel
theorem dX6_mapped_116 : decode cX6_mapped 116 = .ok (.aload_n 0, 1) := by decide +kernel
theorem dX6_mapped_117 : decode cX6_mapped 117 = .ok (.iload 5, 2) := by decide +kernel
theorem dX6_mapped_119 : decode cX6_mapped 119 = .ok (.invokevirtual 185, 3) := by decide +kernel
theorem dX6_mapped_122 : decode cX6_mapped 122 = .ok (.iload 4, 2) := by decide +kernel
theorem dX6_mapped_124 : decode cX6_mapped 124 = .ok (.iconst 1, 1) := by decide +kernel
theorem dX6_mapped_125 : decode cX6_mapped 125 = .ok (.if_icmp .le 7, 3) := by decide +kernel
theorem dX6_mapped_128 : decode cX6_mapped 128 = .ok (.iconst 1, 1) := by decide +kernel
theorem dX6_mapped_129 : decode cX6_mapped 129 = .ok (.goto 4, 3) := by decide +kernel
theorem dX6_mapped_132 : decode cX6_mapped 132 = .ok (.iconst 0, 1) := by decide +kernel
theorem dX6_mapped_133 : decode cX6_mapped 133 = .ok (.if_icmp .ne 16, 3) := by decide +kernel
theorem dX6_mapped_136 : decode cX6_mapped 136 = .ok (.aload_n 0, 1) := by decide +kernel
theorem dX6_mapped_137 : decode cX6_mapped 137 = .ok (.getfield 63, 3) := by decide +kernel
theorem dX6_mapped_140 : decode cX6_mapped 140 = .ok (.iload 5, 2) := by decide +kernel
theorem dX6_mapped_142 : decode cX6_mapped 142 = .ok (.aload_n 0, 1) := by decide +kernel
theorem dX6_mapped_143 : decode cX6_mapped 143 = .ok (.iload 5, 2) := by decide +kernel
theorem dX6_mapped_145 : decode cX6_mapped 145 = .ok (.invokevirtual 188, 3) := by decide +kernel
theorem dX6_mapped_148 : decode cX6_mapped 148 = .ok (.iastore, 1) := by decide +kernel
theorem dX6_mapped_149 : decode cX6_mapped 149 = .ok (.iinc 4 1, 3) := by decide +kernel
theorem dX6_mapped_152 : decode cX6_mapped 152 = .ok (.goto (-63), 3) := by decide +kernel
theorem dX6_mapped_155 : decode cX6_mapped 155 = .ok (.iinc 3 1, 3) := by decide +kernel
theorem dX6_mapped_158 : decode cX6_mapped 158 = .ok (.goto (-80), 3) := by decide +kernel
theorem dX6_mapped_161 : decode cX6_mapped 161 = .ok (.aload_n 0, 1) := by decide +kernel
theorem dX6_mapped_162 : decode cX6_mapped 162 = .ok (.getfield 63, 3) := by decide +kernel
theorem dX6_mapped_165 : decode cX6_mapped 165 = .ok (.iload_n 1, 1) := by decide +kernel
theorem dX6_mapped_166 : decode cX6_mapped 166 = .ok (.iaload, 1) := by decide +kernel
theorem dX6_mapped_167 : decode cX6_mapped 167 = .ok (.ireturn, 1) := by decide +kernel
set_option maxRecDepth 20000 in
theorem ggX6_count_X6_isIn : GoodIn wsX6_count wsX6_isIn := goodIn_r _ [9] (by decide +kernel) (by decide +kernel)
set_option maxRecDepth 20000 in
theorem gX6_count_X6_isIn : GoodIn wsX6_count (va_wsS RX6 82 yX6_isIn wsX6_isIn) := goodIn_app (goodIn_of _ (by decide +kernel)) ggX6_count_X6_isIn
theorem dX6_count_0 : decode cX6_count 0 = .ok (.aload_n 0, 1) := by decide +kernel
theorem dX6_count_1 : decode cX6_count 1 = .ok (.iload_n 1, 1) := by decide +kernel
theorem dX6_count_2 : decode cX6_count 2 = .ok (.iconst 4, 1) := by decide +kernel
theorem dX6_count_3 : decode cX6_count 3 = .ok (.invokestatic 82, 3) := by decide +kernel
theorem dX6_count_6 : decode cX6_count 6 = .ok (.ifCond .eq 7, 3) := by decide +kernel
theorem dX6_count_9 : decode cX6_count 9 = .ok (.iconst 0, 1) := by decide +kernel
theorem dX6_count_10 : decode cX6_count 10 = .ok (.goto 4, 3) := by decide +kernel
theorem dX6_count_13 : decode cX6_count 13 = .ok (.iconst 1, 1) := by decide +kernel
theorem dX6_count_14 : decode cX6_count 14 = .ok (.putfield 75, 3) := by decide +kernel
theorem dX6_count_17 : decode cX6_count 17 = .ok (.iload_n 1, 1) := by decide +kernel
theorem dX6_count_18 : decode cX6_count 18 = .ok (.ifCond .ne 10, 3) := by decide +kernel
theorem dX6_count_21 : decode cX6_count 21 = .ok (.aload_n 0, 1) := by decide +kernel
theorem dX6_count_22 : decode cX6_count 22 = .ok (.getfield 79, 3) := by decide +kernel
theorem dX6_count_25 : decode cX6_count 25 = .ok (.goto 40, 3) := by decide +kernel
theorem dX6_count_28 : decode cX6_count 28 = .ok (.iload_n 1, 1) := by decide +kernel
theorem dX6_count_29 : decode cX6_count 29 = .ok (.iconst 1, 1) := by decide +kernel
theorem dX6_count_30 : decode cX6_count 30 = .ok (.if_icmp .ne 10, 3) := by decide +kernel
theorem dX6_count_33 : decode cX6_count 33 = .ok (.aload_n 0, 1) := by decide +kernel
theorem dX6_count_34 : decode cX6_count 34 = .ok (.getfield 86, 3) := by decide +kernel
theorem dX6_count_37 : decode cX6_count 37 = .ok (.goto 28, 3) := by decide +kernel
theorem dX6_count_40 : decode cX6_count 40 = .ok (.iload_n 1, 1) := by decide +kernel
theorem dX6_count_41 : decode cX6_count 41 = .ok (.iconst 2, 1) := by decide +kernel
theorem dX6_count_42 : decode cX6_count 42 = .ok (.if_icmp .ne 10, 3) := by decide +kernel
theorem dX6_count_45 : decode cX6_count 45 = .ok (.aload_n 0, 1) := by decide +kernel
theorem dX6_count_46 : decode cX6_count 46 = .ok (.getfield 104, 3) := by decide +kernel
theorem dX6_count_49 : decode cX6_count 49 = .ok (.goto 16, 3) := by decide +kernel
theorem dX6_count_52 : decode cX6_count 52 = .ok (.iload_n 1, 1) := by decide +kernel
theorem dX6_count_53 : decode cX6_count 53 = .ok (.iconst 3, 1) := by decide +kernel
theorem dX6_count_54 : decode cX6_count 54 = .ok (.if_icmp .ne 10, 3) := by decide +kernel
theorem dX6_count_57 : decode cX6_count 57 = .ok (.aload_n 0, 1) := by decide +kernel
theorem dX6_count_58 : decode cX6_count 58 = .ok (.getfield 145, 3) := by decide +kernel
theorem dX6_count_61 : decode cX6_count 61 = .ok (.goto 4, 3) := by decide +kernel
theorem dX6_count_64 : decode cX6_count 64 = .ok (.iconst 0, 1) := by decide +kernel
theorem dX6_count_65 : decode cX6_count 65 = .ok (.ireturn, 1) := by decide +kernel
theorem dX6_clear_0 : decode cX6_clear 0 = .ok (.aload_n 0, 1) := by decide +kernel
theorem dX6_clear_1 : decode cX6_clear 1 = .ok (.iconst 0, 1) := by decide +kernel
theorem dX6_clear_2 : decode cX6_clear 2 = .ok (.putfield 75, 3) := by decide +kernel
theorem dX6_clear_5 : decode cX6_clear 5 = .ok (.aload_n 0, 1) := by decide +kernel
theorem dX6_clear_6 : decode cX6_clear 6 = .ok (.iconst 0, 1) := by decide +kernel
theorem dX6_clear_7 : decode cX6_clear 7 = .ok (.putfield 79, 3) := by decide +kernel
theorem dX6_clear_10 : decode cX6_clear 10 = .ok (.aload_n 0, 1) := by decide +kernel
theorem dX6_clear_11 : decode cX6_clear 11 = .ok (.iconst 0, 1) := by decide +kernel
theorem dX6_clear_12 : decode cX6_clear 12 = .ok (.putfield 86, 3) := by decide +kernel
theorem dX6_clear_15 : decode cX6_clear 15 = .ok (.aload_n 0, 1) := by decide +kernel
theorem dX6_clear_16 : decode cX6_clear 16 = .ok (.iconst 0, 1) := by decide +kernel
theorem dX6_clear_17 : decode cX6_clear 17 = .ok (.putfield 97, 3) := by decide +kernel
theorem dX6_clear_20 : decode cX6_clear 20 = .ok (.aload_n 0, 1) := by decide +kernel
theorem dX6_clear_21 : decode cX6_clear 21 = .ok (.iconst 0, 1) := by decide +kernel
theorem dX6_clear_22 : decode cX6_clear 22 = .ok (.putfield 104, 3) := by decide +kernel
theorem dX6_clear_25 : decode cX6_clear 25 = .ok (.aload_n 0, 1) := by decide +kernel
theorem dX6_clear_26 : decode cX6_clear 26 = .ok (.iconst 0, 1) := by decide +kernel
theorem dX6_clear_27 : decode cX6_clear 27 = .ok (.putfield 145, 3) := by decide +kernel
theorem dX6_clear_30 : decode cX6_clear 30 = .ok (.aload_n 0, 1) := by decide +kernel
theorem dX6_clear_31 : decode cX6_clear 31 = .ok (.iconst 1, 1) := by decide +kernel
theorem dX6_clear_32 : decode cX6_clear 32 = .ok (.putfield 89, 3) := by decide +kernel
theorem dX6_clear_35 : decode cX6_clear 35 = .ok (.return_, 1) := by decide +kernel
theorem dJ6_bitCount_0f7a4_0 : decode cJ6_bitCount_0f7a4 0 = .ok (.iload_n 0, 1) := by decide +kernel
theorem dJ6_bitCount_0f7a4_1 : decode cJ6_bitCount_0f7a4 1 = .ok (.iload_n 0, 1) := by decide +kernel
theorem dJ6_bitCount_0f7a4_2 : decode cJ6_bitCount_0f7a4 2 = .ok (.iconst 1, 1) := by decide +kernel
theorem dJ6_bitCount_0f7a4_3 : decode cJ6_bitCount_0f7a4 3 = .ok (.iushr, 1) := by decide +kernel
theorem dJ6_bitCount_0f7a4_4 : decode cJ6_bitCount_0f7a4 4 = .ok (.ldc_w 265, 3) := by decide +kernel
theorem dJ6_bitCount_0f7a4_7 : decode cJ6_bitCount_0f7a4 7 = .ok (.iand, 1) := by decide +kernel
theorem dJ6_bitCount_0f7a4_8 : decode cJ6_bitCount_0f7a4 8 = .ok (.isub, 1) := by decide +kernel
theorem dJ6_bitCount_0f7a4_9 : decode cJ6_bitCount_0f7a4 9 = .ok (.istore_n 0, 1) := by decide +kernel
theorem dJ6_bitCount_0f7a4_10 : decode cJ6_bitCount_0f7a4 10 = .ok (.iload_n 0, 1) := by decide +kernel
theorem dJ6_bitCount_0f7a4_11 : decode cJ6_bitCount_0f7a4 11 = .ok (.ldc_w 266, 3) := by decide +kernel
theorem dJ6_bitCount_0f7a4_14 : decode cJ6_bitCount_0f7a4 14 = .ok (.iand, 1) := by decide +kernel
theorem dJ6_bitCount_0f7a4_15 : decode cJ6_bitCount_0f7a4 15 = .ok (.iload_n 0, 1) := by decide +kernel
theorem dJ6_bitCount_0f7a4_16 : decode cJ6_bitCount_0f7a4 16 = .ok (.iconst 2, 1) := by decide +kernel
theorem dJ6_bitCount_0f7a4_17 : decode cJ6_bitCount_0f7a4 17 = .ok (.iushr, 1) := by decide +kernel
theorem dJ6_bitCount_0f7a4_18 : decode cJ6_bitCount_0f7a4 18 = .ok (.ldc_w 266, 3) := by decide +kernel
theorem dJ6_bitCount_0f7a4_21 : decode cJ6_bitCount_0f7a4 21 = .ok (.iand, 1) := by decide +kernel
theorem dJ6_bitCount_0f7a4_22 : decode cJ6_bitCount_0f7a4 22 = .ok (.iadd, 1) := by decide +kernel
theorem dJ6_bitCount_0f7a4_23 : decode cJ6_bitCount_0f7a4 23 = .ok (.istore_n 0, 1) := by decide +kernel
theorem dJ6_bitCount_0f7a4_24 : decode cJ6_bitCount_0f7a4 24 = .ok (.iload_n 0, 1) := by decide +kernel
theorem dJ6_bitCount_0f7a4_25 : decode cJ6_bitCount_0f7a4 25 = .ok (.iload_n 0, 1) := by decide +kernel
theorem dJ6_bitCount_0f7a4_26 : decode cJ6_bitCount_0f7a4 26 = .ok (.iconst 4, 1) := by decide +kernel
theorem dJ6_bitCount_0f7a4_27 : decode cJ6_bitCount_0f7a4 27 = .ok (.iushr, 1) := by decide +kernel
theorem dJ6_bitCount_0f7a4_28 : decode cJ6_bitCount_0f7a4 28 = .ok (.iadd, 1) := by decide +kernel
theorem dJ6_bitCount_0f7a4_29 : decode cJ6_bitCount_0f7a4 29 = .ok (.ldc_w 267, 3) := by decide +kernel
theorem dJ6_bitCount_0f7a4_32 : decode cJ6_bitCount_0f7a4 32 = .ok (.iand, 1) := by decide +kernel
theorem dJ6_bitCount_0f7a4_33 : decode cJ6_bitCount_0f7a4 33 = .ok (.istore_n 0, 1) := by decide +kernel
theorem dJ6_bitCount_0f7a4_34 : decode cJ6_bitCount_0f7a4 34 = .ok (.iload_n 0, 1) := by decide +kernel
theorem dJ6_bitCount_0f7a4_35 : decode cJ6_bitCount_0f7a4 35 = .ok (.iload_n 0, 1) := by decide +kernel
theorem dJ6_bitCount_0f7a4_36 : decode cJ6_bitCount_0f7a4 36 = .ok (.bipush 8, 2) := by decide +kernel
theorem dJ6_bitCount_0f7a4_38 : decode cJ6_bitCount_0f7a4 38 = .ok (.iushr, 1) := by decide +kernel
theorem dJ6_bitCount_0f7a4_39 : decode cJ6_bitCount_0f7a4 39 = .ok (.iadd, 1) := by decide +kernel
theorem dJ6_bitCount_0f7a4_40 : decode cJ6_bitCount_0f7a4 40 = .ok (.istore_n 0, 1) := by decide +kernel
theorem dJ6_bitCount_0f7a4_41 : decode cJ6_bitCount_0f7a4 41 = .ok (.iload_n 0, 1) := by decide +kernel
theorem dJ6_bitCount_0f7a4_42 : decode cJ6_bitCount_0f7a4 42 = .ok (.iload_n 0, 1) := by decide +kernel
theorem dJ6_bitCount_0f7a4_43 : decode cJ6_bitCount_0f7a4 43 = .ok (.bipush 16, 2) := by decide +kernel
theorem dJ6_bitCount_0f7a4_45 : decode cJ6_bitCount_0f7a4 45 = .ok (.iushr, 1) := by decide +kernel
theorem dJ6_bitCount_0f7a4_46 : decode cJ6_bitCount_0f7a4 46 = .ok (.iadd, 1) := by decide +kernel
theorem dJ6_bitCount_0f7a4_47 : decode cJ6_bitCount_0f7a4 47 = .ok (.istore_n 0, 1) := by decide +kernel
theorem dJ6_bitCount_0f7a4_48 : decode cJ6_bitCount_0f7a4 48 = .ok (.iload_n 0, 1) := by decide +kernel
theorem dJ6_bitCount_0f7a4_49 : decode cJ6_bitCount_0f7a4 49 = .ok (.bipush 63, 2) := by decide +kernel
theorem dJ6_bitCount_0f7a4_51 : decode cJ6_bitCount_0f7a4 51 = .ok (.iand, 1) := by decide +kernel
theorem dJ6_bitCount_0f7a4_52 : decode cJ6_bitCount_0f7a4 52 = .ok (.ireturn, 1) := by decide +kernel
theorem dJ13_bitCount_95d88_0 : decode cJ13_bitCount_95d88 0 = .ok (.lload_n 0, 1) := by decide +kernel
theorem dJ13_bitCount_95d88_1 : decode cJ13_bitCount_95d88 1 = .ok (.lload_n 0, 1) := by decide +kernel
theorem dJ13_bitCount_95d88_2 : decode cJ13_bitCount_95d88 2 = .ok (.iconst 1, 1) := by decide +kernel
theorem dJ13_bitCount_95d88_3 : decode cJ13_bitCount_95d88 3 = .ok (.lushr, 1) := by decide +kernel
theorem dJ13_bitCount_95d88_4 : decode cJ13_bitCount_95d88 4 = .ok (.ldc2_w 314, 3) := by decide +kernel
theorem dJ13_bitCount_95d88_7 : decode cJ13_bitCount_95d88 7 = .ok (.land, 1) := by decide +kernel
theorem dJ13_bitCount_95d88_8 : decode cJ13_bitCount_95d88 8 = .ok (.lsub, 1) := by decide +kernel
theorem dJ13_bitCount_95d88_9 : decode cJ13_bitCount_95d88 9 = .ok (.lstore_n 0, 1) := by decide +kernel
theorem dJ13_bitCount_95d88_10 : decode cJ13_bitCount_95d88 10 = .ok (.lload_n 0, 1) := by decide +kernel
theorem dJ13_bitCount_95d88_11 : decode cJ13_bitCount_95d88 11 = .ok (.ldc2_w 316, 3) := by decide +kernel
theorem dJ13_bitCount_95d88_14 : decode cJ13_bitCount_95d88 14 = .ok (.land, 1) := by decide +kernel
theorem dJ13_bitCount_95d88_15 : decode cJ13_bitCount_95d88 15 = .ok (.lload_n 0, 1) := by decide +kernel
theorem dJ13_bitCount_95d88_16 : decode cJ13_bitCount_95d88 16 = .ok (.iconst 2, 1) := by decide +kernel
theorem dJ13_bitCount_95d88_17 : decode cJ13_bitCount_95d88 17 = .ok (.lushr, 1) := by decide +kernel
theorem dJ13_bitCount_95d88_18 : decode cJ13_bitCount_95d88 18 = .ok (.ldc2_w 316, 3) := by decide +kernel
theorem dJ13_bitCount_95d88_21 : decode cJ13_bitCount_95d88 21 = .ok (.land, 1) := by decide +kernel
theorem dJ13_bitCount_95d88_22 : decode cJ13_bitCount_95d88 22 = .ok (.ladd, 1) := by decide +kernel
theorem dJ13_bitCount_95d88_23 : decode cJ13_bitCount_95d88 23 = .ok (.lstore_n 0, 1) := by decide +kernel
theorem dJ13_bitCount_95d88_24 : decode cJ13_bitCount_95d88 24 = .ok (.lload_n 0, 1) := by decide +kernel
theorem dJ13_bitCount_95d88_25 : decode cJ13_bitCount_95d88 25 = .ok (.lload_n 0, 1) := by decide +kernel
theorem dJ13_bitCount_95d88_26 : decode cJ13_bitCount_95d88 26 = .ok (.iconst 4, 1) := by decide +kernel
theorem dJ13_bitCount_95d88_27 : decode cJ13_bitCount_95d88 27 = .ok (.lushr, 1) := by decide +kernel
theorem dJ13_bitCount_95d88_28 : decode cJ13_bitCount_95d88 28 = .ok (.ladd, 1) := by decide +kernel
theorem dJ13_bitCount_95d88_29 : decode cJ13_bitCount_95d88 29 = .ok (.ldc2_w 318, 3) := by decide +kernel
theorem dJ13_bitCount_95d88_32 : decode cJ13_bitCount_95d88 32 = .ok (.land, 1) := by decide +kernel
theorem dJ13_bitCount_95d88_33 : decode cJ13_bitCount_95d88 33 = .ok (.lstore_n 0, 1) := by decide +kernel
theorem dJ13_bitCount_95d88_34 : decode cJ13_bitCount_95d88 34 = .ok (.lload_n 0, 1) := by decide +kernel
theorem dJ13_bitCount_95d88_35 : decode cJ13_bitCount_95d88 35 = .ok (.lload_n 0, 1) := by decide +kernel
theorem dJ13_bitCount_95d88_36 : decode cJ13_bitCount_95d88 36 = .ok (.bipush 8, 2) := by decide +kernel
theorem dJ13_bitCount_95d88_38 : decode cJ13_bitCount_95d88 38 = .ok (.lushr, 1) := by decide +kernel
theorem dJ13_bitCount_95d88_39 : decode cJ13_bitCount_95d88 39 = .ok (.ladd, 1) := by decide +kernel
theorem dJ13_bitCount_95d88_40 : decode cJ13_bitCount_95d88 40 = .ok (.lstore_n 0, 1) := by decide +kernel
theorem dJ13_bitCount_95d88_41 : decode cJ13_bitCount_95d88 41 = .ok (.lload_n 0, 1) := by decide +kernel
theorem dJ13_bitCount_95d88_42 : decode cJ13_bitCount_95d88 42 = .ok (.lload_n 0, 1) := by decide +kernel
theorem dJ13_bitCount_95d88_43 : decode cJ13_bitCount_95d88 43 = .ok (.bipush 16, 2) := by decide +kernel
theorem dJ13_bitCount_95d88_45 : decode cJ13_bitCount_95d88 45 = .ok (.lushr, 1) := by decide +kernel
theorem dJ13_bitCount_95d88_46 : decode cJ13_bitCount_95d88 46 = .ok (.ladd, 1) := by decide +kernel
theorem dJ13_bitCount_95d88_47 : decode cJ13_bitCount_95d88 47 = .ok (.lstore_n 0, 1) := by decide +kernel
theorem dJ13_bitCount_95d88_48 : decode cJ13_bitCount_95d88 48 = .ok (.lload_n 0, 1) := by decide +kernel
theorem dJ13_bitCount_95d88_49 : decode cJ13_bitCount_95d88 49 = .ok (.lload_n 0, 1) := by decide +kernel
theorem dJ13_bitCount_95d88_50 : decode cJ13_bitCount_95d88 50 = .ok (.bipush 32, 2) := by decide +kernel
theorem dJ13_bitCount_95d88_52 : decode cJ13_bitCount_95d88 52 = .ok (.lushr, 1) := by decide +kernel
theorem dJ13_bitCount_95d88_53 : decode cJ13_bitCount_95d88 53 = .ok (.ladd, 1) := by decide +kernel
theorem dJ13_bitCount_95d88_54 : decode cJ13_bitCount_95d88 54 = .ok (.lstore_n 0, 1) := by decide +kernel
theorem dJ13_bitCount_95d88_55 : decode cJ13_bitCount_95d88 55 = .ok (.lload_n 0, 1) := by decide +kernel
theorem dJ13_bitCount_95d88_56 : decode cJ13_bitCount_95d88 56 = .ok (.l2i, 1) := by decide +kernel
theorem dJ13_bitCount_95d88_57 : decode cJ13_bitCount_95d88 57 = .ok (.bipush 127, 2) := by decide +kernel
theorem dJ13_bitCount_95d88_59 : decode cJ13_bitCount_95d88 59 = .ok (.iand, 1) := by decide +kernel
theorem dJ13_bitCount_95d88_60 : decode cJ13_bitCount_95d88 60 = .ok (.ireturn, 1) := by decide +kernel
theorem dJ9_max_7cf53_0 : decode cJ9_max_7cf53 0 = .ok (.iload_n 0, 1) := by decide +kernel
theorem dJ9_max_7cf53_1 : decode cJ9_max_7cf53 1 = .ok (.iload_n 1, 1) := by decide +kernel
theorem dJ9_max_7cf53_2 : decode cJ9_max_7cf53 2 = .ok (.if_icmp .lt 7, 3) := by decide +kernel
theorem dJ9_max_7cf53_5 : decode cJ9_max_7cf53 5 = .ok (.iload_n 0, 1) := by decide +kernel
theorem dJ9_max_7cf53_6 : decode cJ9_max_7cf53 6 = .ok (.goto 4, 3) := by decide +kernel
theorem dJ9_max_7cf53_9 : decode cJ9_max_7cf53 9 = .ok (.iload_n 1, 1) := by decide +kernel
theorem dJ9_max_7cf53_10 : decode cJ9_max_7cf53 10 = .ok (.ireturn, 1) := by decide +kernel
theorem dJ9_min_7cf53_0 : decode cJ9_min_7cf53 0 = .ok (.iload_n 0, 1) := by decide +kernel
theorem dJ9_min_7cf53_1 : decode cJ9_min_7cf53 1 = .ok (.iload_n 1, 1) := by decide +kernel
theorem dJ9_min_7cf53_2 : decode cJ9_min_7cf53 2 = .ok (.if_icmp .gt 7, 3) := by decide +kernel
theorem dJ9_min_7cf53_5 : decode cJ9_min_7cf53 5 = .ok (.iload_n 0, 1) := by decide +kernel
theorem dJ9_min_7cf53_6 : decode cJ9_min_7cf53 6 = .ok (.goto 4, 3) := by decide +kernel
theorem dJ9_min_7cf53_9 : decode cJ9_min_7cf53 9 = .ok (.iload_n 1, 1) := by decide +kernel
theorem dJ9_min_7cf53_10 : decode cJ9_min_7cf53 10 = .ok (.ireturn, 1) := by decide +kernel
theorem dJ7_copyOf_59c91_0 : decode cJ7_copyOf_59c91 0 = .ok (.iload_n 1, 1) := by decide +kernel
theorem dJ7_copyOf_59c91_1 : decode cJ7_copyOf_59c91 1 = .ok (.aload_n 0, 1) := by decide +kernel
theorem dJ7_copyOf_59c91_2 : decode cJ7_copyOf_59c91 2 = .ok (.arraylength, 1) := by decide +kernel
theorem dJ7_copyOf_59c91_3 : decode cJ7_copyOf_59c91 3 = .ok (.if_icmp .ne 11, 3) := by decide +kernel
theorem dJ7_copyOf_59c91_6 : decode cJ7_copyOf_59c91 6 = .ok (.aload_n 0, 1) := by decide +kernel
theorem dJ7_copyOf_59c91_7 : decode cJ7_copyOf_59c91 7 = .ok (.invokevirtual 316, 3) := by decide +kernel
theorem dJ7_copyOf_59c91_10 : decode cJ7_copyOf_59c91 10 = .ok (.checkcast 317, 3) := by decide +kernel
theorem dJ7_copyOf_59c91_13 : decode cJ7_copyOf_59c91 13 = .ok (.areturn, 1) := by decide +kernel
theorem dJ7_copyOf_59c91_14 : decode cJ7_copyOf_59c91 14 = .ok (.iload_n 1, 1) := by decide +kernel
theorem dJ7_copyOf_59c91_15 : decode cJ7_copyOf_59c91 15 = .ok (.newarray .int, 2) := by decide +kernel
theorem dJ7_copyOf_59c91_17 : decode cJ7_copyOf_59c91 17 = .ok (.astore_n 2, 1) := by decide +kernel
theorem dJ7_copyOf_59c91_18 : decode cJ7_copyOf_59c91 18 = .ok (.aload_n 0, 1) := by decide +kernel
theorem dJ7_copyOf_59c91_19 : decode cJ7_copyOf_59c91 19 = .ok (.iconst 0, 1) := by decide +kernel
theorem dJ7_copyOf_59c91_20 : decode cJ7_copyOf_59c91 20 = .ok (.aload_n 2, 1) := by decide +kernel
theorem dJ7_copyOf_59c91_21 : decode cJ7_copyOf_59c91 21 = .ok (.iconst 0, 1) := by decide +kernel
theorem dJ7_copyOf_59c91_22 : decode cJ7_copyOf_59c91 22 = .ok (.aload_n 0, 1) := by decide +kernel
theorem dJ7_copyOf_59c91_23 : decode cJ7_copyOf_59c91 23 = .ok (.arraylength, 1) := by decide +kernel
theorem dJ7_copyOf_59c91_24 : decode cJ7_copyOf_59c91 24 = .ok (.iload_n 1, 1) := by decide +kernel
theorem dJ7_copyOf_59c91_25 : decode cJ7_copyOf_59c91 25 = .ok (.invokestatic 304, 3) := by decide +kernel
theorem dJ7_copyOf_59c91_28 : decode cJ7_copyOf_59c91 28 = .ok (.invokestatic 150, 3) := by decide +kernel
theorem dJ7_copyOf_59c91_31 : decode cJ7_copyOf_59c91 31 = .ok (.aload_n 2, 1) := by decide +kernel
theorem dJ7_copyOf_59c91_32 : decode cJ7_copyOf_59c91 32 = .ok (.areturn, 1) := by decide +kernel
set_option maxRecDepth 20000 in
theorem ggL_input_X5_input : GoodIn wsL_input wsX5_input := goodIn_ca (goodIn_r _ [6, 7, 8, 9, 10, 11, 12, 13, 14, 15, 16, 17, 18, 19, 20, 21, 22, 23, 24, 25, 26, 27, 28, 29, 30, 31, 32, 33, 34, 35, 36, 37, 38, 39, 40, 41, 42, 43, 44, 45, 46, 47, 48, 49, 50, 51, 52, 53, 54, 55, 56, 57, 58, 59, 60, 61, 62, 63, 64, 65, 66, 67, 68, 69, 70, 71, 72, 73, 74, 75, 76, 77, 78, 79, 80, 81, 82, 83, 84, 85, 86, 87, 88, 89, 90, 91, 92, 93, 94, 95, 96, 97, 98, 99, 100, 101, 102, 103, 104, 105, 106, 107, 108, 109, 110, 111, 112, 113, 114, 115, 116, 117, 118, 119, 120, 121, 122, 123] (by decide +kernel) (by decide +kernel)) (goodIn_sub (fun _ h => List.mem_cons_of_mem _ (List.mem_append_right _ h)) (by decide +kernel))
set_option maxRecDepth 20000 in
theorem gL_input_X5_input : GoodIn wsL_input (wsV RL 7 RX5 yX5_input wsX5_input) := goodIn_app (goodIn_of _ (by decide +kernel)) ggL_input_X5_input
theorem dL_input_0 : decode cL_input 0 = .ok (.aload_n 1, 1) := by decide +kernel
theorem dL_input_1 : decode cL_input 1 = .ok (.iconst 0, 1) := by decide +kernel
theorem dL_input_2 : decode cL_input 2 = .ok (.aload_n 0, 1) := by decide +kernel
theorem dL_input_3 : decode cL_input 3 = .ok (.invokevirtual 7, 3) := by decide +kernel
theorem dL_input_6 : decode cL_input 6 = .ok (.i2l, 1) := by decide +kernel
theorem dL_input_7 : decode cL_input 7 = .ok (.lastore, 1) := by decide +kernel
theorem dL_input_8 : decode cL_input 8 = .ok (.goto 6, 3) := by decide +kernel
theorem dL_input_11 : decode cL_input 11 = .ok (.astore_n 2, 1) := by decide +kernel
theorem dL_input_12 : decode cL_input 12 = .ok (.iconst 1, 1) := by decide +kernel
theorem dL_input_13 : decode cL_input 13 = .ok (.ireturn, 1) := by decide +kernel
theorem dL_input_14 : decode cL_input 14 = .ok (.iconst 0, 1) := by decide +kernel
theorem dL_input_15 : decode cL_input 15 = .ok (.ireturn, 1) := by decide +kernel
set_option maxRecDepth 20000 in
theorem ggL_and_X5_and : GoodIn wsL_and wsX5_and := goodIn_ca (goodIn_ca (goodIn_r _ [7, 8, 9, 10, 11, 12, 13, 14, 15, 16, 6, 17, 18, 19, 20, 21, 22, 23, 24, 25, 26, 27, 28, 29, 30, 31, 32, 33, 34, 35, 36, 37, 38, 39, 40, 41, 42, 43, 44, 45, 46, 47, 48, 49, 50, 51, 52, 53, 54, 55, 56, 57, 58, 59, 60, 61, 62, 63, 64, 65, 66, 67, 68, 69, 70, 71, 72, 73, 74, 75, 76, 77, 78, 79, 80, 81, 82, 83, 84, 85, 86, 87, 88, 89, 90, 91, 92, 93, 94, 95, 96, 97, 98, 99, 100, 101, 102, 103, 104, 105, 106, 107, 108, 109, 110, 111, 112, 113, 114, 115, 116, 117, 118, 119, 120, 121, 122, 123, 124, 125, 126, 127, 128, 129, 130, 131, 132, 133, 134] (by decide +kernel) (by decide +kernel)) (goodIn_sub (fun _ h => List.mem_cons_of_mem _ (List.mem_append_left _ (List.mem_append_right _ h))) (by decide +kernel))) (goodIn_sub (fun _ h => List.mem_cons_of_mem _ (List.mem_append_right _ h)) (by decide +kernel))
set_option maxRecDepth 20000 in
theorem gL_and_X5_and : GoodIn wsL_and (wsV RL 15 RX5 yX5_and wsX5_and) := goodIn_app (goodIn_of _ (by decide +kernel)) ggL_and_X5_and
theorem dL_and_0 : decode cL_and 0 = .ok (.aload_n 3, 1) := by decide +kernel
theorem dL_and_1 : decode cL_and 1 = .ok (.iconst 0, 1) := by decide +kernel
theorem dL_and_2 : decode cL_and 2 = .ok (.aload_n 0, 1) := by decide +kernel
theorem dL_and_3 : decode cL_and 3 = .ok (.iload_n 1, 1) := by decide +kernel
theorem dL_and_4 : decode cL_and 4 = .ok (.iload_n 2, 1) := by decide +kernel
theorem dL_and_5 : decode cL_and 5 = .ok (.invokevirtual 15, 3) := by decide +kernel
theorem dL_and_8 : decode cL_and 8 = .ok (.i2l, 1) := by decide +kernel
theorem dL_and_9 : decode cL_and 9 = .ok (.lastore, 1) := by decide +kernel
theorem dL_and_10 : decode cL_and 10 = .ok (.goto 11, 3) := by decide +kernel
theorem dL_and_13 : decode cL_and 13 = .ok (.astore 4, 2) := by decide +kernel
theorem dL_and_15 : decode cL_and 15 = .ok (.iconst 1, 1) := by decide +kernel
theorem dL_and_16 : decode cL_and 16 = .ok (.ireturn, 1) := by decide +kernel
theorem dL_and_17 : decode cL_and 17 = .ok (.astore 4, 2) := by decide +kernel
theorem dL_and_19 : decode cL_and 19 = .ok (.iconst 2, 1) := by decide +kernel
theorem dL_and_20 : decode cL_and 20 = .ok (.ireturn, 1) := by decide +kernel
theorem dL_and_21 : decode cL_and 21 = .ok (.iconst 0, 1) := by decide +kernel
theorem dL_and_22 : decode cL_and 22 = .ok (.ireturn, 1) := by decide +kernel
set_option maxRecDepth 20000 in
theorem ggL_output_X5_output : GoodIn wsL_output wsX5_output := goodIn_ca (goodIn_ca (goodIn_r _ [7, 8, 9, 10, 11, 12, 13, 14, 6, 15, 16, 17, 18, 19, 20, 21, 22, 23, 24, 25, 26, 27, 28, 29, 30, 31, 32, 33, 34] (by decide +kernel) (by decide +kernel)) (goodIn_sub (fun _ h => List.mem_cons_of_mem _ (List.mem_append_left _ (List.mem_append_right _ h))) (by decide +kernel))) (goodIn_sub (fun _ h => List.mem_cons_of_mem _ (List.mem_append_right _ h)) (by decide +kernel))
set_option maxRecDepth 20000 in
theorem gL_output_X5_output : GoodIn wsL_output (wsV RL 21 RX5 yX5_output wsX5_output) := goodIn_app (goodIn_of _ (by decide +kernel)) ggL_output_X5_output
theorem dL_output_0 : decode cL_output 0 = .ok (.aload_n 2, 1) := by decide +kernel
theorem dL_output_1 : decode cL_output 1 = .ok (.iconst 0, 1) := by decide +kernel
theorem dL_output_2 : decode cL_output 2 = .ok (.aload_n 0, 1) := by decide +kernel
theorem dL_output_3 : decode cL_output 3 = .ok (.iload_n 1, 1) := by decide +kernel
theorem dL_output_4 : decode cL_output 4 = .ok (.invokevirtual 21, 3) := by decide +kernel
theorem dL_output_7 : decode cL_output 7 = .ok (.i2l, 1) := by decide +kernel
theorem dL_output_8 : decode cL_output 8 = .ok (.lastore, 1) := by decide +kernel
theorem dL_output_9 : decode cL_output 9 = .ok (.goto 9, 3) := by decide +kernel
theorem dL_output_12 : decode cL_output 12 = .ok (.astore_n 3, 1) := by decide +kernel
theorem dL_output_13 : decode cL_output 13 = .ok (.iconst 1, 1) := by decide +kernel
theorem dL_output_14 : decode cL_output 14 = .ok (.ireturn, 1) := by decide +kernel
theorem dL_output_15 : decode cL_output 15 = .ok (.astore_n 3, 1) := by decide +kernel
theorem dL_output_16 : decode cL_output 16 = .ok (.iconst 2, 1) := by decide +kernel
theorem dL_output_17 : decode cL_output 17 = .ok (.ireturn, 1) := by decide +kernel
theorem dL_output_18 : decode cL_output 18 = .ok (.iconst 0, 1) := by decide +kernel
theorem dL_output_19 : decode cL_output 19 = .ok (.ireturn, 1) := by decide +kernel
set_option maxRecDepth 20000 in
theorem ggL_cell_X5_cell : GoodIn wsL_cell wsX5_cell := goodIn_ca (goodIn_ca (goodIn_r _ [7, 8, 9, 10, 11, 12, 13, 14, 6, 15, 16, 17, 18, 19, 20, 21, 22, 23, 24, 25, 26, 27, 28, 29, 30, 31, 32, 33, 34, 35, 36, 37, 38, 39, 40, 41, 42, 43, 44, 45, 46, 47, 48, 49, 50, 51, 52, 53, 54, 55, 56, 57, 58, 59, 60, 61, 62, 63, 64, 65, 66, 67, 68, 69, 70, 71, 72, 73, 74, 75, 76, 77, 78] (by decide +kernel) (by decide +kernel)) (goodIn_sub (fun _ h => List.mem_cons_of_mem _ (List.mem_append_left _ (List.mem_append_right _ h))) (by decide +kernel))) (goodIn_sub (fun _ h => List.mem_cons_of_mem _ (List.mem_append_right _ h)) (by decide +kernel))
set_option maxRecDepth 20000 in
theorem gL_cell_X5_cell : GoodIn wsL_cell (wsV RL 25 RX5 yX5_cell wsX5_cell) := goodIn_app (goodIn_of _ (by decide +kernel)) ggL_cell_X5_cell
theorem dL_cell_0 : decode cL_cell 0 = .ok (.aload 4, 2) := by decide +kernel
theorem dL_cell_2 : decode cL_cell 2 = .ok (.iconst 0, 1) := by decide +kernel
theorem dL_cell_3 : decode cL_cell 3 = .ok (.aload_n 0, 1) := by decide +kernel
theorem dL_cell_4 : decode cL_cell 4 = .ok (.iload_n 1, 1) := by decide +kernel
theorem dL_cell_5 : decode cL_cell 5 = .ok (.iload_n 2, 1) := by decide +kernel
theorem dL_cell_6 : decode cL_cell 6 = .ok (.iload_n 3, 1) := by decide +kernel
theorem dL_cell_7 : decode cL_cell 7 = .ok (.invokevirtual 25, 3) := by decide +kernel
theorem dL_cell_10 : decode cL_cell 10 = .ok (.i2l, 1) := by decide +kernel
theorem dL_cell_11 : decode cL_cell 11 = .ok (.lastore, 1) := by decide +kernel
theorem dL_cell_12 : decode cL_cell 12 = .ok (.goto 11, 3) := by decide +kernel
theorem dL_cell_15 : decode cL_cell 15 = .ok (.astore 5, 2) := by decide +kernel
theorem dL_cell_17 : decode cL_cell 17 = .ok (.iconst 1, 1) := by decide +kernel
theorem dL_cell_18 : decode cL_cell 18 = .ok (.ireturn, 1) := by decide +kernel
theorem dL_cell_19 : decode cL_cell 19 = .ok (.astore 5, 2) := by decide +kernel
theorem dL_cell_21 : decode cL_cell 21 = .ok (.iconst 2, 1) := by decide +kernel
theorem dL_cell_22 : decode cL_cell 22 = .ok (.ireturn, 1) := by decide +kernel
theorem dL_cell_23 : decode cL_cell 23 = .ok (.iconst 0, 1) := by decide +kernel
theorem dL_cell_24 : decode cL_cell 24 = .ok (.ireturn, 1) := by decide +kernel
set_option maxRecDepth 20000 in
theorem ggL_delay_X5_delay : GoodIn wsL_delay wsX5_delay := goodIn_ca (goodIn_ca (goodIn_r _ [7, 8, 9, 10, 11, 12, 13, 6, 14, 15, 16, 17, 18, 19, 20, 21, 22, 23, 24, 25, 26, 27, 28, 29, 30, 31, 32, 33, 34, 35, 36, 37, 38, 39, 40, 41, 42, 43, 44, 45, 46, 47, 48, 49, 50, 51, 52, 53, 54, 55] (by decide +kernel) (by decide +kernel)) (goodIn_sub (fun _ h => List.mem_cons_of_mem _ (List.mem_append_left _ (List.mem_append_right _ h))) (by decide +kernel))) (goodIn_sub (fun _ h => List.mem_cons_of_mem _ (List.mem_append_right _ h)) (by decide +kernel))
set_option maxRecDepth 20000 in
theorem gL_delay_X5_delay : GoodIn wsL_delay (wsV RL 31 RX5 yX5_delay wsX5_delay) := goodIn_app (goodIn_of _ (by decide +kernel)) ggL_delay_X5_delay
theorem dL_delay_0 : decode cL_delay 0 = .ok (.aload 4, 2) := by decide +kernel
theorem dL_delay_2 : decode cL_delay 2 = .ok (.iconst 0, 1) := by decide +kernel
theorem dL_delay_3 : decode cL_delay 3 = .ok (.aload_n 0, 1) := by decide +kernel
theorem dL_delay_4 : decode cL_delay 4 = .ok (.iload_n 1, 1) := by decide +kernel
theorem dL_delay_5 : decode cL_delay 5 = .ok (.iload_n 2, 1) := by decide +kernel
theorem dL_delay_6 : decode cL_delay 6 = .ok (.iload_n 3, 1) := by decide +kernel
theorem dL_delay_7 : decode cL_delay 7 = .ok (.invokevirtual 31, 3) := by decide +kernel
theorem dL_delay_10 : decode cL_delay 10 = .ok (.ifCond .eq 7, 3) := by decide +kernel
theorem dL_delay_13 : decode cL_delay 13 = .ok (.lconst 1, 1) := by decide +kernel
theorem dL_delay_14 : decode cL_delay 14 = .ok (.goto 4, 3) := by decide +kernel
theorem dL_delay_17 : decode cL_delay 17 = .ok (.lconst 0, 1) := by decide +kernel
theorem dL_delay_18 : decode cL_delay 18 = .ok (.lastore, 1) := by decide +kernel
theorem dL_delay_19 : decode cL_delay 19 = .ok (.goto 11, 3) := by decide +kernel
theorem dL_delay_22 : decode cL_delay 22 = .ok (.astore 5, 2) := by decide +kernel
theorem dL_delay_24 : decode cL_delay 24 = .ok (.iconst 1, 1) := by decide +kernel
theorem dL_delay_25 : decode cL_delay 25 = .ok (.ireturn, 1) := by decide +kernel
theorem dL_delay_26 : decode cL_delay 26 = .ok (.astore 5, 2) := by decide +kernel
theorem dL_delay_28 : decode cL_delay 28 = .ok (.iconst 2, 1) := by decide +kernel
theorem dL_delay_29 : decode cL_delay 29 = .ok (.ireturn, 1) := by decide +kernel
theorem dL_delay_30 : decode cL_delay 30 = .ok (.iconst 0, 1) := by decide +kernel
theorem dL_delay_31 : decode cL_delay 31 = .ok (.ireturn, 1) := by decide +kernel
set_option maxRecDepth 20000 in
theorem ggL_arrives_X5_arrives : GoodIn wsL_arrives wsX5_arrives := goodIn_ca (goodIn_ca (goodIn_r _ [7, 8, 9, 10, 11, 12, 13, 6, 14, 15, 16, 17, 18, 19, 20, 21, 22, 23, 24, 25, 26, 27, 28, 29, 30, 31, 32, 33, 34, 35, 36, 37, 38, 39, 40, 41, 42, 43, 44, 45] (by decide +kernel) (by decide +kernel)) (goodIn_sub (fun _ h => List.mem_cons_of_mem _ (List.mem_append_left _ (List.mem_append_right _ h))) (by decide +kernel))) (goodIn_sub (fun _ h => List.mem_cons_of_mem _ (List.mem_append_right _ h)) (by decide +kernel))
set_option maxRecDepth 20000 in
theorem gL_arrives_X5_arrives : GoodIn wsL_arrives (wsV RL 35 RX5 yX5_arrives wsX5_arrives) := goodIn_app (goodIn_of _ (by decide +kernel)) ggL_arrives_X5_arrives
theorem dL_arrives_0 : decode cL_arrives 0 = .ok (.aload_n 3, 1) := by decide +kernel
theorem dL_arrives_1 : decode cL_arrives 1 = .ok (.iconst 0, 1) := by decide +kernel
theorem dL_arrives_2 : decode cL_arrives 2 = .ok (.aload_n 0, 1) := by decide +kernel
theorem dL_arrives_3 : decode cL_arrives 3 = .ok (.iload_n 1, 1) := by decide +kernel
theorem dL_arrives_4 : decode cL_arrives 4 = .ok (.iload_n 2, 1) := by decide +kernel
theorem dL_arrives_5 : decode cL_arrives 5 = .ok (.invokevirtual 35, 3) := by decide +kernel
theorem dL_arrives_8 : decode cL_arrives 8 = .ok (.ifCond .eq 7, 3) := by decide +kernel
theorem dL_arrives_11 : decode cL_arrives 11 = .ok (.lconst 1, 1) := by decide +kernel
theorem dL_arrives_12 : decode cL_arrives 12 = .ok (.goto 4, 3) := by decide +kernel
theorem dL_arrives_15 : decode cL_arrives 15 = .ok (.lconst 0, 1) := by decide +kernel
theorem dL_arrives_16 : decode cL_arrives 16 = .ok (.lastore, 1) := by decide +kernel
theorem dL_arrives_17 : decode cL_arrives 17 = .ok (.goto 11, 3) := by decide +kernel
theorem dL_arrives_20 : decode cL_arrives 20 = .ok (.astore 4, 2) := by decide +kernel
theorem dL_arrives_22 : decode cL_arrives 22 = .ok (.iconst 1, 1) := by decide +kernel
theorem dL_arrives_23 : decode cL_arrives 23 = .ok (.ireturn, 1) := by decide +kernel
theorem dL_arrives_24 : decode cL_arrives 24 = .ok (.astore 4, 2) := by decide +kernel
theorem dL_arrives_26 : decode cL_arrives 26 = .ok (.iconst 2, 1) := by decide +kernel
theorem dL_arrives_27 : decode cL_arrives 27 = .ok (.ireturn, 1) := by decide +kernel
theorem dL_arrives_28 : decode cL_arrives 28 = .ok (.iconst 0, 1) := by decide +kernel
theorem dL_arrives_29 : decode cL_arrives 29 = .ok (.ireturn, 1) := by decide +kernel
set_option maxRecDepth 20000 in
theorem ggL_cuts_X5_cuts : GoodIn wsL_cuts wsX5_cuts := goodIn_ca (goodIn_r _ [6, 7, 8, 9, 10, 11, 5, 12, 13, 14, 15, 16, 17, 18, 19, 20, 21, 22, 23, 24, 25, 26, 27, 28, 29, 30, 31, 32, 33, 34, 35, 36, 37] (by decide +kernel) (by decide +kernel)) (goodIn_sub (fun _ h => List.mem_cons_of_mem _ (List.mem_append_right _ h)) (by decide +kernel))
set_option maxRecDepth 20000 in
theorem gL_cuts_X5_cuts : GoodIn wsL_cuts (wsV RL 39 RX5 yX5_cuts wsX5_cuts) := goodIn_app (goodIn_of _ (by decide +kernel)) ggL_cuts_X5_cuts
theorem dL_cuts_0 : decode cL_cuts 0 = .ok (.aload_n 2, 1) := by decide +kernel
theorem dL_cuts_1 : decode cL_cuts 1 = .ok (.iconst 0, 1) := by decide +kernel
theorem dL_cuts_2 : decode cL_cuts 2 = .ok (.aload_n 0, 1) := by decide +kernel
theorem dL_cuts_3 : decode cL_cuts 3 = .ok (.iload_n 1, 1) := by decide +kernel
theorem dL_cuts_4 : decode cL_cuts 4 = .ok (.invokevirtual 39, 3) := by decide +kernel
theorem dL_cuts_7 : decode cL_cuts 7 = .ok (.i2l, 1) := by decide +kernel
theorem dL_cuts_8 : decode cL_cuts 8 = .ok (.lastore, 1) := by decide +kernel
theorem dL_cuts_9 : decode cL_cuts 9 = .ok (.goto 6, 3) := by decide +kernel
theorem dL_cuts_12 : decode cL_cuts 12 = .ok (.astore_n 3, 1) := by decide +kernel
theorem dL_cuts_13 : decode cL_cuts 13 = .ok (.iconst 1, 1) := by decide +kernel
theorem dL_cuts_14 : decode cL_cuts 14 = .ok (.ireturn, 1) := by decide +kernel
theorem dL_cuts_15 : decode cL_cuts 15 = .ok (.iconst 0, 1) := by decide +kernel
theorem dL_cuts_16 : decode cL_cuts 16 = .ok (.ireturn, 1) := by decide +kernel
set_option maxRecDepth 20000 in
theorem ggL_cut_X5_cut : GoodIn wsL_cut wsX5_cut := goodIn_ca (goodIn_r _ [6, 7, 8, 9, 10, 11, 5, 12, 13, 14, 15, 16, 17, 18, 19, 20, 21, 22, 23, 24, 25, 26, 27, 28, 29, 30, 31, 32, 33, 34, 35, 36, 37, 38, 39, 40, 41, 42, 43, 44, 45, 46, 47] (by decide +kernel) (by decide +kernel)) (goodIn_sub (fun _ h => List.mem_cons_of_mem _ (List.mem_append_right _ h)) (by decide +kernel))
set_option maxRecDepth 20000 in
theorem gL_cut_X5_cut : GoodIn wsL_cut (wsV RL 42 RX5 yX5_cut wsX5_cut) := goodIn_app (goodIn_of _ (by decide +kernel)) ggL_cut_X5_cut
theorem dL_cut_0 : decode cL_cut 0 = .ok (.aload_n 3, 1) := by decide +kernel
theorem dL_cut_1 : decode cL_cut 1 = .ok (.iconst 0, 1) := by decide +kernel
theorem dL_cut_2 : decode cL_cut 2 = .ok (.aload_n 0, 1) := by decide +kernel
theorem dL_cut_3 : decode cL_cut 3 = .ok (.iload_n 1, 1) := by decide +kernel
theorem dL_cut_4 : decode cL_cut 4 = .ok (.iload_n 2, 1) := by decide +kernel
theorem dL_cut_5 : decode cL_cut 5 = .ok (.invokevirtual 42, 3) := by decide +kernel
theorem dL_cut_8 : decode cL_cut 8 = .ok (.lastore, 1) := by decide +kernel
theorem dL_cut_9 : decode cL_cut 9 = .ok (.goto 7, 3) := by decide +kernel
theorem dL_cut_12 : decode cL_cut 12 = .ok (.astore 4, 2) := by decide +kernel
theorem dL_cut_14 : decode cL_cut 14 = .ok (.iconst 1, 1) := by decide +kernel
theorem dL_cut_15 : decode cL_cut 15 = .ok (.ireturn, 1) := by decide +kernel
theorem dL_cut_16 : decode cL_cut 16 = .ok (.iconst 0, 1) := by decide +kernel
theorem dL_cut_17 : decode cL_cut 17 = .ok (.ireturn, 1) := by decide +kernel
set_option maxRecDepth 20000 in
theorem ggL_function_X5_function : GoodIn wsL_function wsX5_function := goodIn_ca (goodIn_r _ [6, 7, 8, 9, 10, 5, 11, 12, 13, 14, 15, 16, 17, 18, 19, 20, 21, 22, 23, 24, 25, 26, 27, 28, 29, 30, 31, 32, 33, 34, 35, 36, 37, 38, 39, 40, 41, 42, 43, 44, 45, 46] (by decide +kernel) (by decide +kernel)) (goodIn_sub (fun _ h => List.mem_cons_of_mem _ (List.mem_append_right _ h)) (by decide +kernel))
set_option maxRecDepth 20000 in
theorem gL_function_X5_function : GoodIn wsL_function (wsV RL 46 RX5 yX5_function wsX5_function) := goodIn_app (goodIn_of _ (by decide +kernel)) ggL_function_X5_function
theorem dL_function_0 : decode cL_function 0 = .ok (.aload_n 3, 1) := by decide +kernel
theorem dL_function_1 : decode cL_function 1 = .ok (.iconst 0, 1) := by decide +kernel
theorem dL_function_2 : decode cL_function 2 = .ok (.aload_n 0, 1) := by decide +kernel
theorem dL_function_3 : decode cL_function 3 = .ok (.iload_n 1, 1) := by decide +kernel
theorem dL_function_4 : decode cL_function 4 = .ok (.iload_n 2, 1) := by decide +kernel
theorem dL_function_5 : decode cL_function 5 = .ok (.invokevirtual 46, 3) := by decide +kernel
theorem dL_function_8 : decode cL_function 8 = .ok (.i2l, 1) := by decide +kernel
theorem dL_function_9 : decode cL_function 9 = .ok (.lastore, 1) := by decide +kernel
theorem dL_function_10 : decode cL_function 10 = .ok (.goto 7, 3) := by decide +kernel
theorem dL_function_13 : decode cL_function 13 = .ok (.astore 4, 2) := by decide +kernel
theorem dL_function_15 : decode cL_function 15 = .ok (.iconst 1, 1) := by decide +kernel
theorem dL_function_16 : decode cL_function 16 = .ok (.ireturn, 1) := by decide +kernel
theorem dL_function_17 : decode cL_function 17 = .ok (.iconst 0, 1) := by decide +kernel
theorem dL_function_18 : decode cL_function 18 = .ok (.ireturn, 1) := by decide +kernel
set_option maxRecDepth 20000 in
theorem ggL_arrival_X5_arrival : GoodIn wsL_arrival wsX5_arrival := goodIn_ca (goodIn_r _ [6, 7, 8, 9, 10, 5, 11, 12, 13, 14, 15, 16, 17, 18, 19, 20, 21, 22, 23, 24, 25, 26, 27, 28, 29, 30, 31, 32, 33, 34, 35, 36, 37, 38, 39, 40, 41, 42, 43, 44, 45, 46, 47, 48, 49, 50, 51, 52, 53, 54, 55, 56, 57, 58, 59, 60, 61, 62, 63, 64, 65, 66, 67, 68, 69, 70, 71, 72, 73, 74, 75, 76, 77, 78, 79, 80, 81, 82, 83, 84, 85, 86, 87, 88, 89, 90, 91, 92, 93, 94, 95, 96, 97, 98, 99, 100, 101, 102, 103, 104, 105, 106, 107, 108, 109, 110, 111, 112, 113, 114, 115, 116, 117, 118, 119, 120, 121, 122, 123, 124, 125, 126, 127, 128, 129, 130, 131, 132, 133, 134, 135, 136, 137, 138, 139, 140, 141, 142, 143, 144, 145, 146, 147, 148, 149, 150, 151, 152, 153, 154, 155, 156, 157, 158, 159, 160, 161, 162, 163, 164, 165, 166] (by decide +kernel) (by decide +kernel)) (goodIn_sub (fun _ h => List.mem_cons_of_mem _ (List.mem_append_right _ h)) (by decide +kernel))
set_option maxRecDepth 20000 in
theorem gL_arrival_X5_arrival : GoodIn wsL_arrival (wsV RL 49 RX5 yX5_arrival wsX5_arrival) := goodIn_app (goodIn_of _ (by decide +kernel)) ggL_arrival_X5_arrival
theorem dL_arrival_0 : decode cL_arrival 0 = .ok (.aload_n 2, 1) := by decide +kernel
theorem dL_arrival_1 : decode cL_arrival 1 = .ok (.iconst 0, 1) := by decide +kernel
theorem dL_arrival_2 : decode cL_arrival 2 = .ok (.aload_n 0, 1) := by decide +kernel
theorem dL_arrival_3 : decode cL_arrival 3 = .ok (.iload_n 1, 1) := by decide +kernel
theorem dL_arrival_4 : decode cL_arrival 4 = .ok (.invokevirtual 49, 3) := by decide +kernel
theorem dL_arrival_7 : decode cL_arrival 7 = .ok (.i2l, 1) := by decide +kernel
theorem dL_arrival_8 : decode cL_arrival 8 = .ok (.lastore, 1) := by decide +kernel
theorem dL_arrival_9 : decode cL_arrival 9 = .ok (.goto 6, 3) := by decide +kernel
theorem dL_arrival_12 : decode cL_arrival 12 = .ok (.astore_n 3, 1) := by decide +kernel
theorem dL_arrival_13 : decode cL_arrival 13 = .ok (.iconst 1, 1) := by decide +kernel
theorem dL_arrival_14 : decode cL_arrival 14 = .ok (.ireturn, 1) := by decide +kernel
theorem dL_arrival_15 : decode cL_arrival 15 = .ok (.iconst 0, 1) := by decide +kernel
theorem dL_arrival_16 : decode cL_arrival 16 = .ok (.ireturn, 1) := by decide +kernel
set_option maxRecDepth 20000 in
theorem ggL_gate_X5_gate : GoodIn wsL_gate wsX5_gate := goodIn_ca (goodIn_r _ [6, 7, 8, 9, 10, 11, 12, 5, 13, 14, 15, 16, 17, 18, 19, 20, 21, 22, 23, 24, 25, 26, 27, 28, 29, 30, 31, 32, 33, 34, 35, 36, 37, 38, 39, 40, 41, 42, 43, 44, 45, 46, 47, 48, 49, 50, 51, 52, 53, 54, 55, 56, 57, 58, 59, 60, 61, 62, 63, 64, 65, 66, 67, 68, 69, 70, 71, 72, 73, 74, 75, 76, 77, 78, 79, 80, 81, 82, 83, 84, 85, 86, 87, 88, 89, 90, 91, 92, 93, 94, 95, 96, 97, 98, 99, 100, 101, 102, 103, 104, 105, 106, 107, 108, 109, 110, 111, 112, 113, 114, 115, 116, 117, 118, 119, 120, 121, 122, 123, 124, 125, 126, 127, 128, 129, 130, 131, 132, 133, 134, 135, 136, 137, 138, 139, 140, 141, 142, 143, 144, 145, 146, 147, 148, 149, 150, 151, 152, 153, 154, 155, 156, 157, 158, 159, 160, 161, 162, 163, 164, 165, 166, 167, 168, 169, 170, 171, 172, 173, 174, 175, 176, 177, 178, 179, 180, 181, 182, 183, 184, 185, 186, 187, 188] (by decide +kernel) (by decide +kernel)) (goodIn_sub (fun _ h => List.mem_cons_of_mem _ (List.mem_append_right _ h)) (by decide +kernel))
set_option maxRecDepth 20000 in
theorem gL_gate_X5_gate : GoodIn wsL_gate (wsV RL 52 RX5 yX5_gate wsX5_gate) := goodIn_app (goodIn_of _ (by decide +kernel)) ggL_gate_X5_gate
theorem dL_gate_0 : decode cL_gate 0 = .ok (.aload_n 3, 1) := by decide +kernel
theorem dL_gate_1 : decode cL_gate 1 = .ok (.iconst 0, 1) := by decide +kernel
theorem dL_gate_2 : decode cL_gate 2 = .ok (.aload_n 0, 1) := by decide +kernel
theorem dL_gate_3 : decode cL_gate 3 = .ok (.iload_n 1, 1) := by decide +kernel
theorem dL_gate_4 : decode cL_gate 4 = .ok (.iload_n 2, 1) := by decide +kernel
theorem dL_gate_5 : decode cL_gate 5 = .ok (.invokevirtual 52, 3) := by decide +kernel
theorem dL_gate_8 : decode cL_gate 8 = .ok (.i2l, 1) := by decide +kernel
theorem dL_gate_9 : decode cL_gate 9 = .ok (.lastore, 1) := by decide +kernel
theorem dL_gate_10 : decode cL_gate 10 = .ok (.goto 7, 3) := by decide +kernel
theorem dL_gate_13 : decode cL_gate 13 = .ok (.astore 4, 2) := by decide +kernel
theorem dL_gate_15 : decode cL_gate 15 = .ok (.iconst 1, 1) := by decide +kernel
theorem dL_gate_16 : decode cL_gate 16 = .ok (.ireturn, 1) := by decide +kernel
theorem dL_gate_17 : decode cL_gate 17 = .ok (.iconst 0, 1) := by decide +kernel
theorem dL_gate_18 : decode cL_gate 18 = .ok (.ireturn, 1) := by decide +kernel
set_option maxRecDepth 20000 in
theorem ggL_wanted_X5_wanted : GoodIn wsL_wanted wsX5_wanted := goodIn_ca (goodIn_r _ [6, 7, 8, 9, 10, 11, 12, 13, 14, 15, 16, 17, 18, 19, 20, 21, 22, 23, 24, 25, 26, 27, 28, 29, 30, 31, 32, 33, 34, 35, 36, 37, 38, 39, 40, 41, 42, 43, 44, 45, 46, 47, 48, 49, 50, 51, 52, 53, 54, 55, 56, 57, 58, 59, 60, 61, 62, 63, 64, 65, 66, 67, 68, 69, 70, 71, 72, 73, 74, 75, 76, 77, 78, 79, 80, 81, 82, 83, 84, 85, 86, 87, 88, 89, 90, 91, 92, 93, 94, 95, 96, 97, 98, 99, 100, 101, 102, 103, 104, 105, 106, 107, 108, 109, 110, 111, 112, 113, 114, 115, 116, 117, 118, 119, 120, 121, 122, 123, 124, 125, 126, 127, 128, 129, 130, 131, 132, 5, 133, 134, 135, 136, 137, 138, 139, 140, 141, 142, 143, 144, 145, 146, 147, 148, 149, 150, 151, 152, 153, 154, 155, 156, 157, 158, 159, 160, 161, 162, 163, 164, 165, 166, 167, 168, 169, 170, 171, 172, 173, 174, 175, 176, 177, 178, 179, 180, 181, 182, 183, 184, 185, 186, 187, 188, 189, 190, 191, 192, 193, 194, 195, 196, 197, 198, 199, 200, 201, 202, 203] (by decide +kernel) (by decide +kernel)) (goodIn_sub (fun _ h => List.mem_cons_of_mem _ (List.mem_append_right _ h)) (by decide +kernel))
set_option maxRecDepth 20000 in
theorem gL_wanted_X5_wanted : GoodIn wsL_wanted (wsV RL 55 RX5 yX5_wanted wsX5_wanted) := goodIn_app (goodIn_of _ (by decide +kernel)) ggL_wanted_X5_wanted
theorem dL_wanted_0 : decode cL_wanted 0 = .ok (.aload_n 2, 1) := by decide +kernel
theorem dL_wanted_1 : decode cL_wanted 1 = .ok (.iconst 0, 1) := by decide +kernel
theorem dL_wanted_2 : decode cL_wanted 2 = .ok (.aload_n 0, 1) := by decide +kernel
theorem dL_wanted_3 : decode cL_wanted 3 = .ok (.iload_n 1, 1) := by decide +kernel
theorem dL_wanted_4 : decode cL_wanted 4 = .ok (.invokevirtual 55, 3) := by decide +kernel
theorem dL_wanted_7 : decode cL_wanted 7 = .ok (.i2l, 1) := by decide +kernel
theorem dL_wanted_8 : decode cL_wanted 8 = .ok (.lastore, 1) := by decide +kernel
theorem dL_wanted_9 : decode cL_wanted 9 = .ok (.goto 6, 3) := by decide +kernel
theorem dL_wanted_12 : decode cL_wanted 12 = .ok (.astore_n 3, 1) := by decide +kernel
theorem dL_wanted_13 : decode cL_wanted 13 = .ok (.iconst 1, 1) := by decide +kernel
theorem dL_wanted_14 : decode cL_wanted 14 = .ok (.ireturn, 1) := by decide +kernel
theorem dL_wanted_15 : decode cL_wanted 15 = .ok (.iconst 0, 1) := by decide +kernel
theorem dL_wanted_16 : decode cL_wanted 16 = .ok (.ireturn, 1) := by decide +kernel
set_option maxRecDepth 20000 in
theorem ggL_value_X5_value : GoodIn wsL_value wsX5_value := goodIn_ca (goodIn_r _ [6, 7, 8, 9, 10, 5, 11, 12, 13, 14, 15, 16, 17, 18, 19, 20, 21, 22, 23, 24, 25, 26, 27, 28, 29, 30, 31, 32, 33, 34, 35, 36, 37, 38, 39, 40, 41, 42, 43, 44, 45, 46, 47, 48] (by decide +kernel) (by decide +kernel)) (goodIn_sub (fun _ h => List.mem_cons_of_mem _ (List.mem_append_right _ h)) (by decide +kernel))
set_option maxRecDepth 20000 in
theorem gL_value_X5_value : GoodIn wsL_value (wsV RL 58 RX5 yX5_value wsX5_value) := goodIn_app (goodIn_of _ (by decide +kernel)) ggL_value_X5_value
theorem dL_value_0 : decode cL_value 0 = .ok (.aload_n 3, 1) := by decide +kernel
theorem dL_value_1 : decode cL_value 1 = .ok (.iconst 0, 1) := by decide +kernel
theorem dL_value_2 : decode cL_value 2 = .ok (.aload_n 0, 1) := by decide +kernel
theorem dL_value_3 : decode cL_value 3 = .ok (.iload_n 1, 1) := by decide +kernel
theorem dL_value_4 : decode cL_value 4 = .ok (.iload_n 2, 1) := by decide +kernel
theorem dL_value_5 : decode cL_value 5 = .ok (.invokevirtual 58, 3) := by decide +kernel
theorem dL_value_8 : decode cL_value 8 = .ok (.i2l, 1) := by decide +kernel
theorem dL_value_9 : decode cL_value 9 = .ok (.lastore, 1) := by decide +kernel
theorem dL_value_10 : decode cL_value 10 = .ok (.goto 7, 3) := by decide +kernel
theorem dL_value_13 : decode cL_value 13 = .ok (.astore 4, 2) := by decide +kernel
theorem dL_value_15 : decode cL_value 15 = .ok (.iconst 1, 1) := by decide +kernel
theorem dL_value_16 : decode cL_value 16 = .ok (.ireturn, 1) := by decide +kernel
theorem dL_value_17 : decode cL_value 17 = .ok (.iconst 0, 1) := by decide +kernel
theorem dL_value_18 : decode cL_value 18 = .ok (.ireturn, 1) := by decide +kernel
set_option maxRecDepth 20000 in
theorem ggL_mapped_X5_mapped : GoodIn wsL_mapped wsX5_mapped := goodIn_ca (goodIn_r _ [6, 7, 8, 9, 10, 5, 11, 12, 13, 14, 15, 16, 17, 18, 19, 20, 21, 22, 23, 24, 25, 26, 27, 28, 29, 30, 31, 32, 33, 34, 35, 36, 37, 38, 39, 40, 41, 42, 43, 44, 45, 46, 47, 48, 49, 50, 51, 52, 53, 54, 55, 56, 57, 58, 59, 60, 61, 62, 63, 64, 65, 66, 67, 68, 69, 70, 71, 72, 73, 74, 75, 76, 77, 78, 79, 80, 81, 82, 83, 84, 85, 86, 87, 88, 89, 90, 91, 92, 93, 94, 95, 96, 97, 98, 99, 100, 101, 102, 103, 104, 105, 106, 107, 108, 109, 110, 111, 112, 113, 114, 115, 116, 117, 118, 119, 120, 121, 122, 123, 124, 125, 126, 127, 128, 129, 130, 131, 132, 133, 134, 135, 136, 137, 138, 139, 140, 141, 142, 143, 144, 145, 146, 147, 148, 149, 150, 151, 152, 153, 154, 155, 156, 157, 158, 159, 160, 161, 162, 163, 164, 165, 166, 167, 168, 169, 170, 171, 172, 173, 174, 175, 176, 177, 178, 179, 180, 181, 182, 183, 184, 185, 186, 187, 188, 189, 190, 191, 192, 193, 194, 195, 196, 197, 198, 199, 200, 201, 202, 203] (by decide +kernel) (by decide +kernel)) (goodIn_sub (fun _ h => List.mem_cons_of_mem _ (List.mem_append_right _ h)) (by decide +kernel))
set_option maxRecDepth 20000 in
theorem gL_mapped_X5_mapped : GoodIn wsL_mapped (wsV RL 61 RX5 yX5_mapped wsX5_mapped) := goodIn_app (goodIn_of _ (by decide +kernel)) ggL_mapped_X5_mapped
theorem dL_mapped_0 : decode cL_mapped 0 = .ok (.aload_n 3, 1) := by decide +kernel
theorem dL_mapped_1 : decode cL_mapped 1 = .ok (.iconst 0, 1) := by decide +kernel
theorem dL_mapped_2 : decode cL_mapped 2 = .ok (.aload_n 0, 1) := by decide +kernel
theorem dL_mapped_3 : decode cL_mapped 3 = .ok (.iload_n 1, 1) := by decide +kernel
theorem dL_mapped_4 : decode cL_mapped 4 = .ok (.iload_n 2, 1) := by decide +kernel
theorem dL_mapped_5 : decode cL_mapped 5 = .ok (.invokevirtual 61, 3) := by decide +kernel
theorem dL_mapped_8 : decode cL_mapped 8 = .ok (.i2l, 1) := by decide +kernel
theorem dL_mapped_9 : decode cL_mapped 9 = .ok (.lastore, 1) := by decide +kernel
theorem dL_mapped_10 : decode cL_mapped 10 = .ok (.goto 7, 3) := by decide +kernel
theorem dL_mapped_13 : decode cL_mapped 13 = .ok (.astore 4, 2) := by decide +kernel
theorem dL_mapped_15 : decode cL_mapped 15 = .ok (.iconst 1, 1) := by decide +kernel
theorem dL_mapped_16 : decode cL_mapped 16 = .ok (.ireturn, 1) := by decide +kernel
theorem dL_mapped_17 : decode cL_mapped 17 = .ok (.iconst 0, 1) := by decide +kernel
theorem dL_mapped_18 : decode cL_mapped 18 = .ok (.ireturn, 1) := by decide +kernel
set_option maxRecDepth 20000 in
theorem ggL_count_X5_count : GoodIn wsL_count wsX5_count := goodIn_ca (goodIn_r _ [6, 7, 8, 9, 10, 11, 12, 13, 14, 15, 16, 17, 18, 19, 20, 21, 22, 23, 24, 25, 26, 27, 28, 29, 30, 31, 32] (by decide +kernel) (by decide +kernel)) (goodIn_sub (fun _ h => List.mem_cons_of_mem _ (List.mem_append_right _ h)) (by decide +kernel))
set_option maxRecDepth 20000 in
theorem gL_count_X5_count : GoodIn wsL_count (wsV RL 64 RX5 yX5_count wsX5_count) := goodIn_app (goodIn_of _ (by decide +kernel)) ggL_count_X5_count
theorem dL_count_0 : decode cL_count 0 = .ok (.aload_n 2, 1) := by decide +kernel
theorem dL_count_1 : decode cL_count 1 = .ok (.iconst 0, 1) := by decide +kernel
theorem dL_count_2 : decode cL_count 2 = .ok (.aload_n 0, 1) := by decide +kernel
theorem dL_count_3 : decode cL_count 3 = .ok (.iload_n 1, 1) := by decide +kernel
theorem dL_count_4 : decode cL_count 4 = .ok (.invokevirtual 64, 3) := by decide +kernel
theorem dL_count_7 : decode cL_count 7 = .ok (.i2l, 1) := by decide +kernel
theorem dL_count_8 : decode cL_count 8 = .ok (.lastore, 1) := by decide +kernel
theorem dL_count_9 : decode cL_count 9 = .ok (.goto 6, 3) := by decide +kernel
theorem dL_count_12 : decode cL_count 12 = .ok (.astore_n 3, 1) := by decide +kernel
theorem dL_count_13 : decode cL_count 13 = .ok (.iconst 1, 1) := by decide +kernel
theorem dL_count_14 : decode cL_count 14 = .ok (.ireturn, 1) := by decide +kernel
theorem dL_count_15 : decode cL_count 15 = .ok (.iconst 0, 1) := by decide +kernel
theorem dL_count_16 : decode cL_count 16 = .ok (.ireturn, 1) := by decide +kernel
