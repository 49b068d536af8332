set_option maxRecDepth 20000 in
theorem ggX0_init_X6_init : GoodIn wsX0_init wsX6_init := goodIn_r _ [9, 10, 2, 3, 11, 12, 13, 14, 15, 16, 17, 18, 19, 20, 21] (by decide +kernel) (by decide +kernel)
set_option maxRecDepth 20000 in
theorem gX0_init_X6_init_n11 : GoodIn wsX0_init (wsX6_init) := ggX0_init_X6_init
theorem dX0_init_0 : decode cX0_init 0 = .ok (.aload_n 0, 1) := by decide +kernel
theorem dX0_init_1 : decode cX0_init 1 = .ok (.invokespecial 3, 3) := by decide +kernel
theorem dX0_init_4 : decode cX0_init 4 = .ok (.aload_n 0, 1) := by decide +kernel
theorem dX0_init_5 : decode cX0_init 5 = .ok (.new 9, 3) := by decide +kernel
theorem dX0_init_8 : decode cX0_init 8 = .ok (.dup, 1) := by decide +kernel
theorem dX0_init_9 : decode cX0_init 9 = .ok (.invokespecial 11, 3) := by decide +kernel
theorem dX0_init_12 : decode cX0_init 12 = .ok (.putfield 12, 3) := by decide +kernel
theorem dX0_init_15 : decode cX0_init 15 = .ok (.return_, 1) := by decide +kernel
set_option maxRecDepth 20000 in
theorem ggX0_weighIdleness_X6_takeOver : GoodIn wsX0_weighIdleness wsX6_takeOver := goodIn_r _ [10, 11, 12, 13, 14, 15, 16, 17, 18, 19, 63, 64, 65, 66, 67, 68] (by decide +kernel) (by decide +kernel)
set_option maxRecDepth 20000 in
theorem gX0_weighIdleness_X6_takeOver : GoodIn wsX0_weighIdleness (wsV RX0 30 RX6 yX6_takeOver wsX6_takeOver) := goodIn_app (goodIn_of _ (by decide +kernel)) ggX0_weighIdleness_X6_takeOver
set_option maxRecDepth 20000 in
theorem ggX0_weighIdleness_X6_goDay : GoodIn wsX0_weighIdleness wsX6_goDay := goodIn_r _ [23, 24, 25, 11, 26, 13, 18, 27, 28, 29, 30, 31, 32, 33, 34, 35, 9, 36, 19, 12, 37, 38, 39, 40, 41, 54, 55, 56, 57, 58, 59, 60, 61, 62, 63, 64, 65, 66, 67, 68] (by decide +kernel) (by decide +kernel)
set_option maxRecDepth 20000 in
theorem gX0_weighIdleness_X6_goDay : GoodIn wsX0_weighIdleness (wsV RX0 34 RX6 yX6_goDay wsX6_goDay) := goodIn_app (goodIn_of _ (by decide +kernel)) ggX0_weighIdleness_X6_goDay
set_option maxRecDepth 20000 in
theorem ggX0_weighIdleness_X0_weight : GoodIn wsX0_weighIdleness wsX0_weight := goodIn_r _ [45] (by decide +kernel) (by decide +kernel)
set_option maxRecDepth 20000 in
theorem gX0_weighIdleness_X0_weight : GoodIn wsX0_weighIdleness (va_wsS RX0 42 yX0_weight wsX0_weight) := goodIn_app (goodIn_of _ (by decide +kernel)) ggX0_weighIdleness_X0_weight
set_option maxRecDepth 20000 in
theorem ggX0_weighIdleness_X0_commonDivisor : GoodIn wsX0_weighIdleness wsX0_commonDivisor := goodIn_r _ [48] (by decide +kernel) (by decide +kernel)
set_option maxRecDepth 20000 in
theorem gX0_weighIdleness_X0_commonDivisor : GoodIn wsX0_weighIdleness (va_wsS RX0 46 yX0_commonDivisor wsX0_commonDivisor) := goodIn_app (goodIn_of _ (by decide +kernel)) ggX0_weighIdleness_X0_commonDivisor
theorem dX0_weighIdleness_0 : decode cX0_weighIdleness 0 = .ok (.aload_n 0, 1) := by decide +kernel
theorem dX0_weighIdleness_1 : decode cX0_weighIdleness 1 = .ok (.iconst 0, 1) := by decide +kernel
theorem dX0_weighIdleness_2 : decode cX0_weighIdleness 2 = .ok (.putfield 18, 3) := by decide +kernel
theorem dX0_weighIdleness_5 : decode cX0_weighIdleness 5 = .ok (.aload_n 0, 1) := by decide +kernel
theorem dX0_weighIdleness_6 : decode cX0_weighIdleness 6 = .ok (.iconst 1, 1) := by decide +kernel
theorem dX0_weighIdleness_7 : decode cX0_weighIdleness 7 = .ok (.putfield 22, 3) := by decide +kernel
theorem dX0_weighIdleness_10 : decode cX0_weighIdleness 10 = .ok (.iconst 0, 1) := by decide +kernel
theorem dX0_weighIdleness_11 : decode cX0_weighIdleness 11 = .ok (.istore 6, 2) := by decide +kernel
theorem dX0_weighIdleness_13 : decode cX0_weighIdleness 13 = .ok (.iload 6, 2) := by decide +kernel
theorem dX0_weighIdleness_15 : decode cX0_weighIdleness 15 = .ok (.aload_n 1, 1) := by decide +kernel
theorem dX0_weighIdleness_16 : decode cX0_weighIdleness 16 = .ok (.getfield 25, 3) := by decide +kernel
theorem dX0_weighIdleness_19 : decode cX0_weighIdleness 19 = .ok (.if_icmp .ge 20, 3) := by decide +kernel
theorem dX0_weighIdleness_22 : decode cX0_weighIdleness 22 = .ok (.aload_n 0, 1) := by decide +kernel
theorem dX0_weighIdleness_23 : decode cX0_weighIdleness 23 = .ok (.dup, 1) := by decide +kernel
theorem dX0_weighIdleness_24 : decode cX0_weighIdleness 24 = .ok (.getfield 22, 3) := by decide +kernel
theorem dX0_weighIdleness_27 : decode cX0_weighIdleness 27 = .ok (.bipush 10, 2) := by decide +kernel
theorem dX0_weighIdleness_29 : decode cX0_weighIdleness 29 = .ok (.imul, 1) := by decide +kernel
theorem dX0_weighIdleness_30 : decode cX0_weighIdleness 30 = .ok (.putfield 22, 3) := by decide +kernel
theorem dX0_weighIdleness_33 : decode cX0_weighIdleness 33 = .ok (.iinc 6 1, 3) := by decide +kernel
theorem dX0_weighIdleness_36 : decode cX0_weighIdleness 36 = .ok (.goto (-23), 3) := by decide +kernel
theorem dX0_weighIdleness_39 : decode cX0_weighIdleness 39 = .ok (.iconst 0, 1) := by decide +kernel
theorem dX0_weighIdleness_40 : decode cX0_weighIdleness 40 = .ok (.istore 6, 2) := by decide +kernel
theorem dX0_weighIdleness_42 : decode cX0_weighIdleness 42 = .ok (.iload 6, 2) := by decide +kernel
theorem dX0_weighIdleness_44 : decode cX0_weighIdleness 44 = .ok (.iconst 1, 1) := by decide +kernel
theorem dX0_weighIdleness_45 : decode cX0_weighIdleness 45 = .ok (.aload_n 1, 1) := by decide +kernel
theorem dX0_weighIdleness_46 : decode cX0_weighIdleness 46 = .ok (.getfield 25, 3) := by decide +kernel
theorem dX0_weighIdleness_49 : decode cX0_weighIdleness 49 = .ok (.ishl, 1) := by decide +kernel
theorem dX0_weighIdleness_50 : decode cX0_weighIdleness 50 = .ok (.if_icmp .ge 62, 3) := by decide +kernel
theorem dX0_weighIdleness_53 : decode cX0_weighIdleness 53 = .ok (.aload_n 0, 1) := by decide +kernel
theorem dX0_weighIdleness_54 : decode cX0_weighIdleness 54 = .ok (.getfield 12, 3) := by decide +kernel
theorem dX0_weighIdleness_57 : decode cX0_weighIdleness 57 = .ok (.aload_n 2, 1) := by decide +kernel
theorem dX0_weighIdleness_58 : decode cX0_weighIdleness 58 = .ok (.invokevirtual 30, 3) := by decide +kernel
theorem dX0_weighIdleness_61 : decode cX0_weighIdleness 61 = .ok (.aload_n 0, 1) := by decide +kernel
theorem dX0_weighIdleness_62 : decode cX0_weighIdleness 62 = .ok (.getfield 12, 3) := by decide +kernel
theorem dX0_weighIdleness_65 : decode cX0_weighIdleness 65 = .ok (.aload_n 1, 1) := by decide +kernel
theorem dX0_weighIdleness_66 : decode cX0_weighIdleness 66 = .ok (.iload 6, 2) := by decide +kernel
theorem dX0_weighIdleness_68 : decode cX0_weighIdleness 68 = .ok (.invokevirtual 34, 3) := by decide +kernel
theorem dX0_weighIdleness_71 : decode cX0_weighIdleness 71 = .ok (.pop, 1) := by decide +kernel
theorem dX0_weighIdleness_72 : decode cX0_weighIdleness 72 = .ok (.aload_n 0, 1) := by decide +kernel
theorem dX0_weighIdleness_73 : decode cX0_weighIdleness 73 = .ok (.getfield 12, 3) := by decide +kernel
theorem dX0_weighIdleness_76 : decode cX0_weighIdleness 76 = .ok (.getfield 38, 3) := by decide +kernel
theorem dX0_weighIdleness_79 : decode cX0_weighIdleness 79 = .ok (.iload_n 3, 1) := by decide +kernel
theorem dX0_weighIdleness_80 : decode cX0_weighIdleness 80 = .ok (.iaload, 1) := by decide +kernel
theorem dX0_weighIdleness_81 : decode cX0_weighIdleness 81 = .ok (.iload 4, 2) := by decide +kernel
theorem dX0_weighIdleness_83 : decode cX0_weighIdleness 83 = .ok (.if_icmp .lt 23, 3) := by decide +kernel
theorem dX0_weighIdleness_86 : decode cX0_weighIdleness 86 = .ok (.aload_n 0, 1) := by decide +kernel
theorem dX0_weighIdleness_87 : decode cX0_weighIdleness 87 = .ok (.dup, 1) := by decide +kernel
theorem dX0_weighIdleness_88 : decode cX0_weighIdleness 88 = .ok (.getfield 18, 3) := by decide +kernel
theorem dX0_weighIdleness_91 : decode cX0_weighIdleness 91 = .ok (.aload_n 1, 1) := by decide +kernel
theorem dX0_weighIdleness_92 : decode cX0_weighIdleness 92 = .ok (.getfield 25, 3) := by decide +kernel
theorem dX0_weighIdleness_95 : decode cX0_weighIdleness 95 = .ok (.iload 6, 2) := by decide +kernel
theorem dX0_weighIdleness_97 : decode cX0_weighIdleness 97 = .ok (.iload 5, 2) := by decide +kernel
theorem dX0_weighIdleness_99 : decode cX0_weighIdleness 99 = .ok (.invokestatic 42, 3) := by decide +kernel
theorem dX0_weighIdleness_102 : decode cX0_weighIdleness 102 = .ok (.iadd, 1) := by decide +kernel
theorem dX0_weighIdleness_103 : decode cX0_weighIdleness 103 = .ok (.putfield 18, 3) := by decide +kernel
theorem dX0_weighIdleness_106 : decode cX0_weighIdleness 106 = .ok (.iinc 6 1, 3) := by decide +kernel
theorem dX0_weighIdleness_109 : decode cX0_weighIdleness 109 = .ok (.goto (-67), 3) := by decide +kernel
theorem dX0_weighIdleness_112 : decode cX0_weighIdleness 112 = .ok (.aload_n 0, 1) := by decide +kernel
theorem dX0_weighIdleness_113 : decode cX0_weighIdleness 113 = .ok (.getfield 18, 3) := by decide +kernel
theorem dX0_weighIdleness_116 : decode cX0_weighIdleness 116 = .ok (.aload_n 0, 1) := by decide +kernel
theorem dX0_weighIdleness_117 : decode cX0_weighIdleness 117 = .ok (.getfield 22, 3) := by decide +kernel
theorem dX0_weighIdleness_120 : decode cX0_weighIdleness 120 = .ok (.invokestatic 46, 3) := by decide +kernel
theorem dX0_weighIdleness_123 : decode cX0_weighIdleness 123 = .ok (.istore 6, 2) := by decide +kernel
theorem dX0_weighIdleness_125 : decode cX0_weighIdleness 125 = .ok (.iload 6, 2) := by decide +kernel
theorem dX0_weighIdleness_127 : decode cX0_weighIdleness 127 = .ok (.iconst 1, 1) := by decide +kernel
theorem dX0_weighIdleness_128 : decode cX0_weighIdleness 128 = .ok (.if_icmp .le 25, 3) := by decide +kernel
theorem dX0_weighIdleness_131 : decode cX0_weighIdleness 131 = .ok (.aload_n 0, 1) := by decide +kernel
theorem dX0_weighIdleness_132 : decode cX0_weighIdleness 132 = .ok (.dup, 1) := by decide +kernel
theorem dX0_weighIdleness_133 : decode cX0_weighIdleness 133 = .ok (.getfield 18, 3) := by decide +kernel
theorem dX0_weighIdleness_136 : decode cX0_weighIdleness 136 = .ok (.iload 6, 2) := by decide +kernel
theorem dX0_weighIdleness_138 : decode cX0_weighIdleness 138 = .ok (.idiv, 1) := by decide +kernel
theorem dX0_weighIdleness_139 : decode cX0_weighIdleness 139 = .ok (.putfield 18, 3) := by decide +kernel
theorem dX0_weighIdleness_142 : decode cX0_weighIdleness 142 = .ok (.aload_n 0, 1) := by decide +kernel
theorem dX0_weighIdleness_143 : decode cX0_weighIdleness 143 = .ok (.dup, 1) := by decide +kernel
theorem dX0_weighIdleness_144 : decode cX0_weighIdleness 144 = .ok (.getfield 22, 3) := by decide +kernel
theorem dX0_weighIdleness_147 : decode cX0_weighIdleness 147 = .ok (.iload 6, 2) := by decide +kernel
theorem dX0_weighIdleness_149 : decode cX0_weighIdleness 149 = .ok (.idiv, 1) := by decide +kernel
theorem dX0_weighIdleness_150 : decode cX0_weighIdleness 150 = .ok (.putfield 22, 3) := by decide +kernel
theorem dX0_weighIdleness_153 : decode cX0_weighIdleness 153 = .ok (.return_, 1) := by decide +kernel
theorem dX0_weight_0 : decode cX0_weight 0 = .ok (.iconst 1, 1) := by decide +kernel
theorem dX0_weight_1 : decode cX0_weight 1 = .ok (.istore_n 3, 1) := by decide +kernel
theorem dX0_weight_2 : decode cX0_weight 2 = .ok (.iconst 0, 1) := by decide +kernel
theorem dX0_weight_3 : decode cX0_weight 3 = .ok (.istore 4, 2) := by decide +kernel
theorem dX0_weight_5 : decode cX0_weight 5 = .ok (.iload 4, 2) := by decide +kernel
theorem dX0_weight_7 : decode cX0_weight 7 = .ok (.iload_n 0, 1) := by decide +kernel
theorem dX0_weight_8 : decode cX0_weight 8 = .ok (.if_icmp .ge 30, 3) := by decide +kernel
theorem dX0_weight_11 : decode cX0_weight 11 = .ok (.iload_n 3, 1) := by decide +kernel
theorem dX0_weight_12 : decode cX0_weight 12 = .ok (.iload_n 1, 1) := by decide +kernel
theorem dX0_weight_13 : decode cX0_weight 13 = .ok (.iload 4, 2) := by decide +kernel
theorem dX0_weight_15 : decode cX0_weight 15 = .ok (.ishr, 1) := by decide +kernel
theorem dX0_weight_16 : decode cX0_weight 16 = .ok (.iconst 1, 1) := by decide +kernel
theorem dX0_weight_17 : decode cX0_weight 17 = .ok (.iand, 1) := by decide +kernel
theorem dX0_weight_18 : decode cX0_weight 18 = .ok (.iconst 1, 1) := by decide +kernel
theorem dX0_weight_19 : decode cX0_weight 19 = .ok (.if_icmp .ne 7, 3) := by decide +kernel
theorem dX0_weight_22 : decode cX0_weight 22 = .ok (.iload_n 2, 1) := by decide +kernel
theorem dX0_weight_23 : decode cX0_weight 23 = .ok (.goto 7, 3) := by decide +kernel
theorem dX0_weight_26 : decode cX0_weight 26 = .ok (.bipush 10, 2) := by decide +kernel
theorem dX0_weight_28 : decode cX0_weight 28 = .ok (.iload_n 2, 1) := by decide +kernel
theorem dX0_weight_29 : decode cX0_weight 29 = .ok (.isub, 1) := by decide +kernel
theorem dX0_weight_30 : decode cX0_weight 30 = .ok (.imul, 1) := by decide +kernel
theorem dX0_weight_31 : decode cX0_weight 31 = .ok (.istore_n 3, 1) := by decide +kernel
theorem dX0_weight_32 : decode cX0_weight 32 = .ok (.iinc 4 1, 3) := by decide +kernel
theorem dX0_weight_35 : decode cX0_weight 35 = .ok (.goto (-30), 3) := by decide +kernel
theorem dX0_weight_38 : decode cX0_weight 38 = .ok (.iload_n 3, 1) := by decide +kernel
theorem dX0_weight_39 : decode cX0_weight 39 = .ok (.ireturn, 1) := by decide +kernel
theorem dX0_commonDivisor_0 : decode cX0_commonDivisor 0 = .ok (.iload_n 0, 1) := by decide +kernel
theorem dX0_commonDivisor_1 : decode cX0_commonDivisor 1 = .ok (.istore_n 2, 1) := by decide +kernel
theorem dX0_commonDivisor_2 : decode cX0_commonDivisor 2 = .ok (.iload_n 1, 1) := by decide +kernel
theorem dX0_commonDivisor_3 : decode cX0_commonDivisor 3 = .ok (.istore_n 3, 1) := by decide +kernel
theorem dX0_commonDivisor_4 : decode cX0_commonDivisor 4 = .ok (.iconst 0, 1) := by decide +kernel
theorem dX0_commonDivisor_5 : decode cX0_commonDivisor 5 = .ok (.istore 4, 2) := by decide +kernel
theorem dX0_commonDivisor_7 : decode cX0_commonDivisor 7 = .ok (.iload 4, 2) := by decide +kernel
theorem dX0_commonDivisor_9 : decode cX0_commonDivisor 9 = .ok (.bipush 64, 2) := by decide +kernel
theorem dX0_commonDivisor_11 : decode cX0_commonDivisor 11 = .ok (.if_icmp .ge 23, 3) := by decide +kernel
theorem dX0_commonDivisor_14 : decode cX0_commonDivisor 14 = .ok (.iload_n 3, 1) := by decide +kernel
theorem dX0_commonDivisor_15 : decode cX0_commonDivisor 15 = .ok (.ifCond .eq 19, 3) := by decide +kernel
theorem dX0_commonDivisor_18 : decode cX0_commonDivisor 18 = .ok (.iload_n 2, 1) := by decide +kernel
theorem dX0_commonDivisor_19 : decode cX0_commonDivisor 19 = .ok (.iload_n 3, 1) := by decide +kernel
theorem dX0_commonDivisor_20 : decode cX0_commonDivisor 20 = .ok (.irem, 1) := by decide +kernel
theorem dX0_commonDivisor_21 : decode cX0_commonDivisor 21 = .ok (.istore 5, 2) := by decide +kernel
theorem dX0_commonDivisor_23 : decode cX0_commonDivisor 23 = .ok (.iload_n 3, 1) := by decide +kernel
theorem dX0_commonDivisor_24 : decode cX0_commonDivisor 24 = .ok (.istore_n 2, 1) := by decide +kernel
theorem dX0_commonDivisor_25 : decode cX0_commonDivisor 25 = .ok (.iload 5, 2) := by decide +kernel
theorem dX0_commonDivisor_27 : decode cX0_commonDivisor 27 = .ok (.istore_n 3, 1) := by decide +kernel
theorem dX0_commonDivisor_28 : decode cX0_commonDivisor 28 = .ok (.iinc 4 1, 3) := by decide +kernel
theorem dX0_commonDivisor_31 : decode cX0_commonDivisor 31 = .ok (.goto (-24), 3) := by decide +kernel
theorem dX0_commonDivisor_34 : decode cX0_commonDivisor 34 = .ok (.iload_n 2, 1) := by decide +kernel
theorem dX0_commonDivisor_35 : decode cX0_commonDivisor 35 = .ok (.ireturn, 1) := by decide +kernel
set_option maxRecDepth 20000 in
theorem ggX0_goYear_X6_takeOver : GoodIn wsX0_goYear wsX6_takeOver := goodIn_r _ [14, 15, 16, 17, 18, 19, 20, 21, 22, 23, 76, 77, 78, 79, 80, 81] (by decide +kernel) (by decide +kernel)
set_option maxRecDepth 20000 in
theorem gX0_goYear_X6_takeOver : GoodIn wsX0_goYear (wsV RX0 30 RX6 yX6_takeOver wsX6_takeOver) := goodIn_app (goodIn_of _ (by decide +kernel)) ggX0_goYear_X6_takeOver
set_option maxRecDepth 20000 in
theorem ggX0_goYear_X0_draw : GoodIn wsX0_goYear wsX0_draw := goodIn_r _ [27, 28, 29, 30, 31] (by decide +kernel) (by decide +kernel)
set_option maxRecDepth 20000 in
theorem gX0_goYear_X0_draw : GoodIn wsX0_goYear (va_wsS RX0 53 yX0_draw wsX0_draw) := goodIn_app (goodIn_of _ (by decide +kernel)) ggX0_goYear_X0_draw
set_option maxRecDepth 20000 in
theorem ggX0_goYear_X0_turnByDraw : GoodIn wsX0_goYear wsX0_turnByDraw := goodIn_r _ [35, 4, 1, 36, 37, 38, 13, 39, 16, 67, 68, 69, 70, 71, 72, 73, 74, 75, 62, 63, 64, 65, 66, 76, 77, 78, 79, 80, 81] (by decide +kernel) (by decide +kernel)
set_option maxRecDepth 20000 in
theorem gX0_goYear_X0_turnByDraw : GoodIn wsX0_goYear (wsV RX0 56 RX0 yX0_turnByDraw wsX0_turnByDraw) := goodIn_app (goodIn_of _ (by decide +kernel)) ggX0_goYear_X0_turnByDraw
set_option maxRecDepth 20000 in
theorem ggX0_goYear_X6_goDay : GoodIn wsX0_goYear wsX6_goDay := goodIn_r _ [43, 44, 45, 15, 46, 17, 22, 47, 48, 49, 50, 51, 52, 53, 54, 55, 13, 56, 23, 16, 57, 58, 59, 60, 61, 67, 68, 69, 70, 71, 72, 73, 74, 75, 76, 77, 78, 79, 80, 81] (by decide +kernel) (by decide +kernel)
set_option maxRecDepth 20000 in
theorem gX0_goYear_X6_goDay : GoodIn wsX0_goYear (wsV RX0 34 RX6 yX6_goDay wsX6_goDay) := goodIn_app (goodIn_of _ (by decide +kernel)) ggX0_goYear_X6_goDay
theorem dX0_goYear_0 : decode cX0_goYear 0 = .ok (.aload_n 0, 1) := by decide +kernel
theorem dX0_goYear_1 : decode cX0_goYear 1 = .ok (.getfield 12, 3) := by decide +kernel
theorem dX0_goYear_4 : decode cX0_goYear 4 = .ok (.aload_n 2, 1) := by decide +kernel
theorem dX0_goYear_5 : decode cX0_goYear 5 = .ok (.invokevirtual 30, 3) := by decide +kernel
theorem dX0_goYear_8 : decode cX0_goYear 8 = .ok (.aload_n 0, 1) := by decide +kernel
theorem dX0_goYear_9 : decode cX0_goYear 9 = .ok (.iconst 0, 1) := by decide +kernel
theorem dX0_goYear_10 : decode cX0_goYear 10 = .ok (.putfield 50, 3) := by decide +kernel
theorem dX0_goYear_13 : decode cX0_goYear 13 = .ok (.iconst 0, 1) := by decide +kernel
theorem dX0_goYear_14 : decode cX0_goYear 14 = .ok (.istore 5, 2) := by decide +kernel
theorem dX0_goYear_16 : decode cX0_goYear 16 = .ok (.iload 5, 2) := by decide +kernel
theorem dX0_goYear_18 : decode cX0_goYear 18 = .ok (.iload 4, 2) := by decide +kernel
theorem dX0_goYear_20 : decode cX0_goYear 20 = .ok (.if_icmp .ge 38, 3) := by decide +kernel
theorem dX0_goYear_23 : decode cX0_goYear 23 = .ok (.aload_n 0, 1) := by decide +kernel
theorem dX0_goYear_24 : decode cX0_goYear 24 = .ok (.aload_n 1, 1) := by decide +kernel
theorem dX0_goYear_25 : decode cX0_goYear 25 = .ok (.iload_n 3, 1) := by decide +kernel
theorem dX0_goYear_26 : decode cX0_goYear 26 = .ok (.iload 5, 2) := by decide +kernel
theorem dX0_goYear_28 : decode cX0_goYear 28 = .ok (.invokestatic 53, 3) := by decide +kernel
theorem dX0_goYear_31 : decode cX0_goYear 31 = .ok (.invokevirtual 56, 3) := by decide +kernel
theorem dX0_goYear_34 : decode cX0_goYear 34 = .ok (.aload_n 0, 1) := by decide +kernel
theorem dX0_goYear_35 : decode cX0_goYear 35 = .ok (.dup, 1) := by decide +kernel
theorem dX0_goYear_36 : decode cX0_goYear 36 = .ok (.getfield 50, 3) := by decide +kernel
theorem dX0_goYear_39 : decode cX0_goYear 39 = .ok (.aload_n 0, 1) := by decide +kernel
theorem dX0_goYear_40 : decode cX0_goYear 40 = .ok (.getfield 12, 3) := by decide +kernel
theorem dX0_goYear_43 : decode cX0_goYear 43 = .ok (.aload_n 1, 1) := by decide +kernel
theorem dX0_goYear_44 : decode cX0_goYear 44 = .ok (.iconst 0, 1) := by decide +kernel
theorem dX0_goYear_45 : decode cX0_goYear 45 = .ok (.invokevirtual 34, 3) := by decide +kernel
theorem dX0_goYear_48 : decode cX0_goYear 48 = .ok (.iadd, 1) := by decide +kernel
theorem dX0_goYear_49 : decode cX0_goYear 49 = .ok (.putfield 50, 3) := by decide +kernel
theorem dX0_goYear_52 : decode cX0_goYear 52 = .ok (.iinc 5 1, 3) := by decide +kernel
theorem dX0_goYear_55 : decode cX0_goYear 55 = .ok (.goto (-39), 3) := by decide +kernel
theorem dX0_goYear_58 : decode cX0_goYear 58 = .ok (.aload_n 0, 1) := by decide +kernel
theorem dX0_goYear_59 : decode cX0_goYear 59 = .ok (.iconst 0, 1) := by decide +kernel
theorem dX0_goYear_60 : decode cX0_goYear 60 = .ok (.putfield 60, 3) := by decide +kernel
theorem dX0_goYear_63 : decode cX0_goYear 63 = .ok (.iconst 0, 1) := by decide +kernel
theorem dX0_goYear_64 : decode cX0_goYear 64 = .ok (.istore 5, 2) := by decide +kernel
theorem dX0_goYear_66 : decode cX0_goYear 66 = .ok (.iload 5, 2) := by decide +kernel
theorem dX0_goYear_68 : decode cX0_goYear 68 = .ok (.aload_n 1, 1) := by decide +kernel
theorem dX0_goYear_69 : decode cX0_goYear 69 = .ok (.getfield 25, 3) := by decide +kernel
theorem dX0_goYear_72 : decode cX0_goYear 72 = .ok (.if_icmp .ge 30, 3) := by decide +kernel
theorem dX0_goYear_75 : decode cX0_goYear 75 = .ok (.aload_n 0, 1) := by decide +kernel
theorem dX0_goYear_76 : decode cX0_goYear 76 = .ok (.aload_n 0, 1) := by decide +kernel
theorem dX0_goYear_77 : decode cX0_goYear 77 = .ok (.getfield 60, 3) := by decide +kernel
theorem dX0_goYear_80 : decode cX0_goYear 80 = .ok (.aload_n 0, 1) := by decide +kernel
theorem dX0_goYear_81 : decode cX0_goYear 81 = .ok (.getfield 12, 3) := by decide +kernel
theorem dX0_goYear_84 : decode cX0_goYear 84 = .ok (.getfield 38, 3) := by decide +kernel
theorem dX0_goYear_87 : decode cX0_goYear 87 = .ok (.iload 5, 2) := by decide +kernel
theorem dX0_goYear_89 : decode cX0_goYear 89 = .ok (.iaload, 1) := by decide +kernel
theorem dX0_goYear_90 : decode cX0_goYear 90 = .ok (.invokestatic 63, 3) := by decide +kernel
theorem dX0_goYear_93 : decode cX0_goYear 93 = .ok (.putfield 60, 3) := by decide +kernel
theorem dX0_goYear_96 : decode cX0_goYear 96 = .ok (.iinc 5 1, 3) := by decide +kernel
theorem dX0_goYear_99 : decode cX0_goYear 99 = .ok (.goto (-33), 3) := by decide +kernel
theorem dX0_goYear_102 : decode cX0_goYear 102 = .ok (.return_, 1) := by decide +kernel
set_option maxRecDepth 20000 in
theorem ggX0_turnByDraw_X6_turnSickness : GoodIn wsX0_turnByDraw wsX6_turnSickness := goodIn_r _ [7, 8, 23, 24, 25, 26, 27, 28] (by decide +kernel) (by decide +kernel)
set_option maxRecDepth 20000 in
theorem gX0_turnByDraw_X6_turnSickness : GoodIn wsX0_turnByDraw (wsV RX0 68 RX6 yX6_turnSickness wsX6_turnSickness) := goodIn_app (goodIn_of _ (by decide +kernel)) ggX0_turnByDraw_X6_turnSickness
theorem dX0_turnByDraw_0 : decode cX0_turnByDraw 0 = .ok (.aload_n 1, 1) := by decide +kernel
theorem dX0_turnByDraw_1 : decode cX0_turnByDraw 1 = .ok (.getfield 25, 3) := by decide +kernel
theorem dX0_turnByDraw_4 : decode cX0_turnByDraw 4 = .ok (.ifCond .le 25, 3) := by decide +kernel
theorem dX0_turnByDraw_7 : decode cX0_turnByDraw 7 = .ok (.iload_n 2, 1) := by decide +kernel
theorem dX0_turnByDraw_8 : decode cX0_turnByDraw 8 = .ok (.bipush 8, 2) := by decide +kernel
theorem dX0_turnByDraw_10 : decode cX0_turnByDraw 10 = .ok (.idiv, 1) := by decide +kernel
theorem dX0_turnByDraw_11 : decode cX0_turnByDraw 11 = .ok (.iconst 3, 1) := by decide +kernel
theorem dX0_turnByDraw_12 : decode cX0_turnByDraw 12 = .ok (.irem, 1) := by decide +kernel
theorem dX0_turnByDraw_13 : decode cX0_turnByDraw 13 = .ok (.ifCond .ne 16, 3) := by decide +kernel
theorem dX0_turnByDraw_16 : decode cX0_turnByDraw 16 = .ok (.aload_n 0, 1) := by decide +kernel
theorem dX0_turnByDraw_17 : decode cX0_turnByDraw 17 = .ok (.getfield 12, 3) := by decide +kernel
theorem dX0_turnByDraw_20 : decode cX0_turnByDraw 20 = .ok (.iload_n 2, 1) := by decide +kernel
theorem dX0_turnByDraw_21 : decode cX0_turnByDraw 21 = .ok (.aload_n 1, 1) := by decide +kernel
theorem dX0_turnByDraw_22 : decode cX0_turnByDraw 22 = .ok (.getfield 25, 3) := by decide +kernel
theorem dX0_turnByDraw_25 : decode cX0_turnByDraw 25 = .ok (.irem, 1) := by decide +kernel
theorem dX0_turnByDraw_26 : decode cX0_turnByDraw 26 = .ok (.invokevirtual 68, 3) := by decide +kernel
theorem dX0_turnByDraw_29 : decode cX0_turnByDraw 29 = .ok (.return_, 1) := by decide +kernel
theorem dX0_draw_0 : decode cX0_draw 0 = .ok (.ldc2_w 72, 3) := by decide +kernel
theorem dX0_draw_3 : decode cX0_draw 3 = .ok (.iload_n 0, 1) := by decide +kernel
theorem dX0_draw_4 : decode cX0_draw 4 = .ok (.i2l, 1) := by decide +kernel
theorem dX0_draw_5 : decode cX0_draw 5 = .ok (.lmul, 1) := by decide +kernel
theorem dX0_draw_6 : decode cX0_draw 6 = .ok (.ldc2_w 74, 3) := by decide +kernel
theorem dX0_draw_9 : decode cX0_draw 9 = .ok (.iload_n 1, 1) := by decide +kernel
theorem dX0_draw_10 : decode cX0_draw 10 = .ok (.i2l, 1) := by decide +kernel
theorem dX0_draw_11 : decode cX0_draw 11 = .ok (.lmul, 1) := by decide +kernel
theorem dX0_draw_12 : decode cX0_draw 12 = .ok (.ladd, 1) := by decide +kernel
theorem dX0_draw_13 : decode cX0_draw 13 = .ok (.lconst 1, 1) := by decide +kernel
theorem dX0_draw_14 : decode cX0_draw 14 = .ok (.ladd, 1) := by decide +kernel
theorem dX0_draw_15 : decode cX0_draw 15 = .ok (.lstore_n 2, 1) := by decide +kernel
theorem dX0_draw_16 : decode cX0_draw 16 = .ok (.lload_n 2, 1) := by decide +kernel
theorem dX0_draw_17 : decode cX0_draw 17 = .ok (.lload_n 2, 1) := by decide +kernel
theorem dX0_draw_18 : decode cX0_draw 18 = .ok (.lmul, 1) := by decide +kernel
theorem dX0_draw_19 : decode cX0_draw 19 = .ok (.ldc2_w 76, 3) := by decide +kernel
theorem dX0_draw_22 : decode cX0_draw 22 = .ok (.lrem, 1) := by decide +kernel
theorem dX0_draw_23 : decode cX0_draw 23 = .ok (.ldc2_w 78, 3) := by decide +kernel
theorem dX0_draw_26 : decode cX0_draw 26 = .ok (.ldiv, 1) := by decide +kernel
theorem dX0_draw_27 : decode cX0_draw 27 = .ok (.l2i, 1) := by decide +kernel
theorem dX0_draw_28 : decode cX0_draw 28 = .ok (.ireturn, 1) := by decide +kernel
theorem dX1_init_0 : decode cX1_init 0 = .ok (.aload_n 0, 1) := by decide +kernel
theorem dX1_init_1 : decode cX1_init 1 = .ok (.invokespecial 3, 3) := by decide +kernel
theorem dX1_init_4 : decode cX1_init 4 = .ok (.aload_n 0, 1) := by decide +kernel
theorem dX1_init_5 : decode cX1_init 5 = .ok (.bipush 6, 2) := by decide +kernel
theorem dX1_init_7 : decode cX1_init 7 = .ok (.newarray .int, 2) := by decide +kernel
theorem dX1_init_9 : decode cX1_init 9 = .ok (.putfield 9, 3) := by decide +kernel
theorem dX1_init_12 : decode cX1_init 12 = .ok (.aload_n 0, 1) := by decide +kernel
theorem dX1_init_13 : decode cX1_init 13 = .ok (.bipush 6, 2) := by decide +kernel
theorem dX1_init_15 : decode cX1_init 15 = .ok (.newarray .int, 2) := by decide +kernel
theorem dX1_init_17 : decode cX1_init 17 = .ok (.putfield 15, 3) := by decide +kernel
theorem dX1_init_20 : decode cX1_init 20 = .ok (.aload_n 0, 1) := by decide +kernel
theorem dX1_init_21 : decode cX1_init 21 = .ok (.bipush 6, 2) := by decide +kernel
theorem dX1_init_23 : decode cX1_init 23 = .ok (.newarray .int, 2) := by decide +kernel
theorem dX1_init_25 : decode cX1_init 25 = .ok (.putfield 18, 3) := by decide +kernel
theorem dX1_init_28 : decode cX1_init 28 = .ok (.aload_n 0, 1) := by decide +kernel
theorem dX1_init_29 : decode cX1_init 29 = .ok (.bipush 18, 2) := by decide +kernel
theorem dX1_init_31 : decode cX1_init 31 = .ok (.newarray .int, 2) := by decide +kernel
theorem dX1_init_33 : decode cX1_init 33 = .ok (.putfield 21, 3) := by decide +kernel
theorem dX1_init_36 : decode cX1_init 36 = .ok (.aload_n 0, 1) := by decide +kernel
theorem dX1_init_37 : decode cX1_init 37 = .ok (.bipush 6, 2) := by decide +kernel
theorem dX1_init_39 : decode cX1_init 39 = .ok (.newarray .int, 2) := by decide +kernel
theorem dX1_init_41 : decode cX1_init 41 = .ok (.putfield 24, 3) := by decide +kernel
theorem dX1_init_44 : decode cX1_init 44 = .ok (.aload_n 0, 1) := by decide +kernel
theorem dX1_init_45 : decode cX1_init 45 = .ok (.bipush 6, 2) := by decide +kernel
theorem dX1_init_47 : decode cX1_init 47 = .ok (.newarray .int, 2) := by decide +kernel
theorem dX1_init_49 : decode cX1_init 49 = .ok (.putfield 27, 3) := by decide +kernel
theorem dX1_init_52 : decode cX1_init 52 = .ok (.return_, 1) := by decide +kernel
theorem dX1_clear_0 : decode cX1_clear 0 = .ok (.aload_n 0, 1) := by decide +kernel
theorem dX1_clear_1 : decode cX1_clear 1 = .ok (.iconst 0, 1) := by decide +kernel
theorem dX1_clear_2 : decode cX1_clear 2 = .ok (.putfield 30, 3) := by decide +kernel
theorem dX1_clear_5 : decode cX1_clear 5 = .ok (.aload_n 0, 1) := by decide +kernel
theorem dX1_clear_6 : decode cX1_clear 6 = .ok (.iconst 0, 1) := by decide +kernel
theorem dX1_clear_7 : decode cX1_clear 7 = .ok (.putfield 34, 3) := by decide +kernel
theorem dX1_clear_10 : decode cX1_clear 10 = .ok (.aload_n 0, 1) := by decide +kernel
theorem dX1_clear_11 : decode cX1_clear 11 = .ok (.iconst 0, 1) := by decide +kernel
theorem dX1_clear_12 : decode cX1_clear 12 = .ok (.putfield 37, 3) := by decide +kernel
theorem dX1_clear_15 : decode cX1_clear 15 = .ok (.return_, 1) := by decide +kernel
theorem dX1_takeOver_0 : decode cX1_takeOver 0 = .ok (.aload_n 0, 1) := by decide +kernel
theorem dX1_takeOver_1 : decode cX1_takeOver 1 = .ok (.aload_n 1, 1) := by decide +kernel
theorem dX1_takeOver_2 : decode cX1_takeOver 2 = .ok (.getfield 30, 3) := by decide +kernel
theorem dX1_takeOver_5 : decode cX1_takeOver 5 = .ok (.putfield 30, 3) := by decide +kernel
theorem dX1_takeOver_8 : decode cX1_takeOver 8 = .ok (.aload_n 0, 1) := by decide +kernel
theorem dX1_takeOver_9 : decode cX1_takeOver 9 = .ok (.aload_n 1, 1) := by decide +kernel
theorem dX1_takeOver_10 : decode cX1_takeOver 10 = .ok (.getfield 34, 3) := by decide +kernel
theorem dX1_takeOver_13 : decode cX1_takeOver 13 = .ok (.putfield 34, 3) := by decide +kernel
theorem dX1_takeOver_16 : decode cX1_takeOver 16 = .ok (.aload_n 0, 1) := by decide +kernel
theorem dX1_takeOver_17 : decode cX1_takeOver 17 = .ok (.aload_n 1, 1) := by decide +kernel
theorem dX1_takeOver_18 : decode cX1_takeOver 18 = .ok (.getfield 37, 3) := by decide +kernel
theorem dX1_takeOver_21 : decode cX1_takeOver 21 = .ok (.putfield 37, 3) := by decide +kernel
theorem dX1_takeOver_24 : decode cX1_takeOver 24 = .ok (.aload_n 1, 1) := by decide +kernel
theorem dX1_takeOver_25 : decode cX1_takeOver 25 = .ok (.getfield 9, 3) := by decide +kernel
theorem dX1_takeOver_28 : decode cX1_takeOver 28 = .ok (.iconst 0, 1) := by decide +kernel
theorem dX1_takeOver_29 : decode cX1_takeOver 29 = .ok (.aload_n 0, 1) := by decide +kernel
theorem dX1_takeOver_30 : decode cX1_takeOver 30 = .ok (.getfield 9, 3) := by decide +kernel
theorem dX1_takeOver_33 : decode cX1_takeOver 33 = .ok (.iconst 0, 1) := by decide +kernel
theorem dX1_takeOver_34 : decode cX1_takeOver 34 = .ok (.aload_n 0, 1) := by decide +kernel
theorem dX1_takeOver_35 : decode cX1_takeOver 35 = .ok (.getfield 9, 3) := by decide +kernel
theorem dX1_takeOver_38 : decode cX1_takeOver 38 = .ok (.arraylength, 1) := by decide +kernel
theorem dX1_takeOver_39 : decode cX1_takeOver 39 = .ok (.invokestatic 40, 3) := by decide +kernel
theorem dX1_takeOver_42 : decode cX1_takeOver 42 = .ok (.aload_n 1, 1) := by decide +kernel
theorem dX1_takeOver_43 : decode cX1_takeOver 43 = .ok (.getfield 15, 3) := by decide +kernel
theorem dX1_takeOver_46 : decode cX1_takeOver 46 = .ok (.iconst 0, 1) := by decide +kernel
theorem dX1_takeOver_47 : decode cX1_takeOver 47 = .ok (.aload_n 0, 1) := by decide +kernel
theorem dX1_takeOver_48 : decode cX1_takeOver 48 = .ok (.getfield 15, 3) := by decide +kernel
theorem dX1_takeOver_51 : decode cX1_takeOver 51 = .ok (.iconst 0, 1) := by decide +kernel
theorem dX1_takeOver_52 : decode cX1_takeOver 52 = .ok (.aload_n 0, 1) := by decide +kernel
theorem dX1_takeOver_53 : decode cX1_takeOver 53 = .ok (.getfield 15, 3) := by decide +kernel
theorem dX1_takeOver_56 : decode cX1_takeOver 56 = .ok (.arraylength, 1) := by decide +kernel
theorem dX1_takeOver_57 : decode cX1_takeOver 57 = .ok (.invokestatic 40, 3) := by decide +kernel
theorem dX1_takeOver_60 : decode cX1_takeOver 60 = .ok (.aload_n 1, 1) := by decide +kernel
theorem dX1_takeOver_61 : decode cX1_takeOver 61 = .ok (.getfield 18, 3) := by decide +kernel
theorem dX1_takeOver_64 : decode cX1_takeOver 64 = .ok (.iconst 0, 1) := by decide +kernel
theorem dX1_takeOver_65 : decode cX1_takeOver 65 = .ok (.aload_n 0, 1) := by decide +kernel
theorem dX1_takeOver_66 : decode cX1_takeOver 66 = .ok (.getfield 18, 3) := by decide +kernel
theorem dX1_takeOver_69 : decode cX1_takeOver 69 = .ok (.iconst 0, 1) := by decide +kernel
theorem dX1_takeOver_70 : decode cX1_takeOver 70 = .ok (.aload_n 0, 1) := by decide +kernel
theorem dX1_takeOver_71 : decode cX1_takeOver 71 = .ok (.getfield 18, 3) := by decide +kernel
theorem dX1_takeOver_74 : decode cX1_takeOver 74 = .ok (.arraylength, 1) := by decide +kernel
theorem dX1_takeOver_75 : decode cX1_takeOver 75 = .ok (.invokestatic 40, 3) := by decide +kernel
theorem dX1_takeOver_78 : decode cX1_takeOver 78 = .ok (.aload_n 1, 1) := by decide +kernel
theorem dX1_takeOver_79 : decode cX1_takeOver 79 = .ok (.getfield 21, 3) := by decide +kernel
theorem dX1_takeOver_82 : decode cX1_takeOver 82 = .ok (.iconst 0, 1) := by decide +kernel
theorem dX1_takeOver_83 : decode cX1_takeOver 83 = .ok (.aload_n 0, 1) := by decide +kernel
theorem dX1_takeOver_84 : decode cX1_takeOver 84 = .ok (.getfield 21, 3) := by decide +kernel
theorem dX1_takeOver_87 : decode cX1_takeOver 87 = .ok (.iconst 0, 1) := by decide +kernel
theorem dX1_takeOver_88 : decode cX1_takeOver 88 = .ok (.aload_n 0, 1) := by decide +kernel
theorem dX1_takeOver_89 : decode cX1_takeOver 89 = .ok (.getfield 21, 3) := by decide +kernel
theorem dX1_takeOver_92 : decode cX1_takeOver 92 = .ok (.arraylength, 1) := by decide +kernel
theorem dX1_takeOver_93 : decode cX1_takeOver 93 = .ok (.invokestatic 40, 3) := by decide +kernel
theorem dX1_takeOver_96 : decode cX1_takeOver 96 = .ok (.aload_n 1, 1) := by decide +kernel
theorem dX1_takeOver_97 : decode cX1_takeOver 97 = .ok (.getfield 24, 3) := by decide +kernel
theorem dX1_takeOver_100 : decode cX1_takeOver 100 = .ok (.iconst 0, 1) := by decide +kernel
theorem dX1_takeOver_101 : decode cX1_takeOver 101 = .ok (.aload_n 0, 1) := by decide +kernel
theorem dX1_takeOver_102 : decode cX1_takeOver 102 = .ok (.getfield 24, 3) := by decide +kernel
theorem dX1_takeOver_105 : decode cX1_takeOver 105 = .ok (.iconst 0, 1) := by decide +kernel
theorem dX1_takeOver_106 : decode cX1_takeOver 106 = .ok (.aload_n 0, 1) := by decide +kernel
theorem dX1_takeOver_107 : decode cX1_takeOver 107 = .ok (.getfield 24, 3) := by decide +kernel
theorem dX1_takeOver_110 : decode cX1_takeOver 110 = .ok (.arraylength, 1) := by decide +kernel
theorem dX1_takeOver_111 : decode cX1_takeOver 111 = .ok (.invokestatic 40, 3) := by decide +kernel
theorem dX1_takeOver_114 : decode cX1_takeOver 114 = .ok (.aload_n 1, 1) := by decide +kernel
theorem dX1_takeOver_115 : decode cX1_takeOver 115 = .ok (.getfield 27, 3) := by decide +kernel
theorem dX1_takeOver_118 : decode cX1_takeOver 118 = .ok (.iconst 0, 1) := by decide +kernel
theorem dX1_takeOver_119 : decode cX1_takeOver 119 = .ok (.aload_n 0, 1) := by decide +kernel
theorem dX1_takeOver_120 : decode cX1_takeOver 120 = .ok (.getfield 27, 3) := by decide +kernel
theorem dX1_takeOver_123 : decode cX1_takeOver 123 = .ok (.iconst 0, 1) := by decide +kernel
theorem dX1_takeOver_124 : decode cX1_takeOver 124 = .ok (.aload_n 0, 1) := by decide +kernel
theorem dX1_takeOver_125 : decode cX1_takeOver 125 = .ok (.getfield 27, 3) := by decide +kernel
theorem dX1_takeOver_128 : decode cX1_takeOver 128 = .ok (.arraylength, 1) := by decide +kernel
theorem dX1_takeOver_129 : decode cX1_takeOver 129 = .ok (.invokestatic 40, 3) := by decide +kernel
theorem dX1_takeOver_132 : decode cX1_takeOver 132 = .ok (.return_, 1) := by decide +kernel
set_option maxRecDepth 20000 in
theorem ggX1_addFamily_X8_within : GoodIn wsX1_addFamily wsX8_within := goodIn_r _ [7] (by decide +kernel) (by decide +kernel)
set_option maxRecDepth 20000 in
theorem gX1_addFamily_X8_within_n46 : GoodIn wsX1_addFamily (wsX8_within) := ggX1_addFamily_X8_within
theorem dX1_addFamily_0 : decode cX1_addFamily 0 = .ok (.aload_n 0, 1) := by decide +kernel
theorem dX1_addFamily_1 : decode cX1_addFamily 1 = .ok (.getfield 30, 3) := by decide +kernel
theorem dX1_addFamily_4 : decode cX1_addFamily 4 = .ok (.bipush 6, 2) := by decide +kernel
theorem dX1_addFamily_6 : decode cX1_addFamily 6 = .ok (.if_icmp .ge 32, 3) := by decide +kernel
theorem dX1_addFamily_9 : decode cX1_addFamily 9 = .ok (.iload_n 1, 1) := by decide +kernel
theorem dX1_addFamily_10 : decode cX1_addFamily 10 = .ok (.iconst 0, 1) := by decide +kernel
theorem dX1_addFamily_11 : decode cX1_addFamily 11 = .ok (.iconst 4, 1) := by decide +kernel
theorem dX1_addFamily_12 : decode cX1_addFamily 12 = .ok (.invokestatic 46, 3) := by decide +kernel
theorem dX1_addFamily_15 : decode cX1_addFamily 15 = .ok (.ifCond .eq 23, 3) := by decide +kernel
theorem dX1_addFamily_18 : decode cX1_addFamily 18 = .ok (.iload_n 2, 1) := by decide +kernel
theorem dX1_addFamily_19 : decode cX1_addFamily 19 = .ok (.iconst 0, 1) := by decide +kernel
theorem dX1_addFamily_20 : decode cX1_addFamily 20 = .ok (.bipush 12, 2) := by decide +kernel
theorem dX1_addFamily_22 : decode cX1_addFamily 22 = .ok (.invokestatic 46, 3) := by decide +kernel
theorem dX1_addFamily_25 : decode cX1_addFamily 25 = .ok (.ifCond .eq 13, 3) := by decide +kernel
theorem dX1_addFamily_28 : decode cX1_addFamily 28 = .ok (.iload_n 3, 1) := by decide +kernel
theorem dX1_addFamily_29 : decode cX1_addFamily 29 = .ok (.iconst 0, 1) := by decide +kernel
theorem dX1_addFamily_30 : decode cX1_addFamily 30 = .ok (.bipush 99, 2) := by decide +kernel
theorem dX1_addFamily_32 : decode cX1_addFamily 32 = .ok (.invokestatic 46, 3) := by decide +kernel
theorem dX1_addFamily_35 : decode cX1_addFamily 35 = .ok (.ifCond .ne 5, 3) := by decide +kernel
theorem dX1_addFamily_38 : decode cX1_addFamily 38 = .ok (.iconst 0, 1) := by decide +kernel
theorem dX1_addFamily_39 : decode cX1_addFamily 39 = .ok (.ireturn, 1) := by decide +kernel
theorem dX1_addFamily_40 : decode cX1_addFamily 40 = .ok (.aload_n 0, 1) := by decide +kernel
theorem dX1_addFamily_41 : decode cX1_addFamily 41 = .ok (.getfield 9, 3) := by decide +kernel
theorem dX1_addFamily_44 : decode cX1_addFamily 44 = .ok (.aload_n 0, 1) := by decide +kernel
theorem dX1_addFamily_45 : decode cX1_addFamily 45 = .ok (.getfield 30, 3) := by decide +kernel
theorem dX1_addFamily_48 : decode cX1_addFamily 48 = .ok (.iload_n 1, 1) := by decide +kernel
theorem dX1_addFamily_49 : decode cX1_addFamily 49 = .ok (.iastore, 1) := by decide +kernel
theorem dX1_addFamily_50 : decode cX1_addFamily 50 = .ok (.aload_n 0, 1) := by decide +kernel
theorem dX1_addFamily_51 : decode cX1_addFamily 51 = .ok (.getfield 15, 3) := by decide +kernel
theorem dX1_addFamily_54 : decode cX1_addFamily 54 = .ok (.aload_n 0, 1) := by decide +kernel
theorem dX1_addFamily_55 : decode cX1_addFamily 55 = .ok (.getfield 30, 3) := by decide +kernel
theorem dX1_addFamily_58 : decode cX1_addFamily 58 = .ok (.iload_n 2, 1) := by decide +kernel
theorem dX1_addFamily_59 : decode cX1_addFamily 59 = .ok (.iastore, 1) := by decide +kernel
theorem dX1_addFamily_60 : decode cX1_addFamily 60 = .ok (.aload_n 0, 1) := by decide +kernel
theorem dX1_addFamily_61 : decode cX1_addFamily 61 = .ok (.getfield 18, 3) := by decide +kernel
theorem dX1_addFamily_64 : decode cX1_addFamily 64 = .ok (.aload_n 0, 1) := by decide +kernel
theorem dX1_addFamily_65 : decode cX1_addFamily 65 = .ok (.getfield 30, 3) := by decide +kernel
theorem dX1_addFamily_68 : decode cX1_addFamily 68 = .ok (.iload_n 3, 1) := by decide +kernel
theorem dX1_addFamily_69 : decode cX1_addFamily 69 = .ok (.iastore, 1) := by decide +kernel
theorem dX1_addFamily_70 : decode cX1_addFamily 70 = .ok (.aload_n 0, 1) := by decide +kernel
theorem dX1_addFamily_71 : decode cX1_addFamily 71 = .ok (.dup, 1) := by decide +kernel
theorem dX1_addFamily_72 : decode cX1_addFamily 72 = .ok (.getfield 30, 3) := by decide +kernel
theorem dX1_addFamily_75 : decode cX1_addFamily 75 = .ok (.iconst 1, 1) := by decide +kernel
theorem dX1_addFamily_76 : decode cX1_addFamily 76 = .ok (.iadd, 1) := by decide +kernel
theorem dX1_addFamily_77 : decode cX1_addFamily 77 = .ok (.putfield 30, 3) := by decide +kernel
theorem dX1_addFamily_80 : decode cX1_addFamily 80 = .ok (.iconst 1, 1) := by decide +kernel
theorem dX1_addFamily_81 : decode cX1_addFamily 81 = .ok (.ireturn, 1) := by decide +kernel
set_option maxRecDepth 20000 in
theorem ggX1_addWall_X1_canHaveWall : GoodIn wsX1_addWall wsX1_canHaveWall := goodIn_r _ [6, 7, 8, 9, 10, 11, 12, 13, 5, 14, 15, 16, 17, 18, 19, 1, 24, 25, 26, 27, 28, 29, 30, 31, 32] (by decide +kernel) (by decide +kernel)
set_option maxRecDepth 20000 in
theorem gX1_addWall_X1_canHaveWall : GoodIn wsX1_addWall (wsV RX1 50 RX1 yX1_canHaveWall wsX1_canHaveWall) := goodIn_app (goodIn_of _ (by decide +kernel)) ggX1_addWall_X1_canHaveWall
set_option maxRecDepth 20000 in
theorem ggX1_addWall_X1_putWall : GoodIn wsX1_addWall wsX1_putWall := goodIn_r _ [23, 1, 15, 24, 25, 26, 27, 28, 29, 30, 31, 32] (by decide +kernel) (by decide +kernel)
set_option maxRecDepth 20000 in
theorem gX1_addWall_X1_putWall : GoodIn wsX1_addWall (wsV RX1 54 RX1 yX1_putWall wsX1_putWall) := goodIn_app (goodIn_of _ (by decide +kernel)) ggX1_addWall_X1_putWall
theorem dX1_addWall_0 : decode cX1_addWall 0 = .ok (.aload_n 0, 1) := by decide +kernel
theorem dX1_addWall_1 : decode cX1_addWall 1 = .ok (.getfield 34, 3) := by decide +kernel
theorem dX1_addWall_4 : decode cX1_addWall 4 = .ok (.bipush 8, 2) := by decide +kernel
theorem dX1_addWall_6 : decode cX1_addWall 6 = .ok (.if_icmp .ge 24, 3) := by decide +kernel
theorem dX1_addWall_9 : decode cX1_addWall 9 = .ok (.iload_n 1, 1) := by decide +kernel
theorem dX1_addWall_10 : decode cX1_addWall 10 = .ok (.iload_n 2, 1) := by decide +kernel
theorem dX1_addWall_11 : decode cX1_addWall 11 = .ok (.if_icmp .eq 19, 3) := by decide +kernel
theorem dX1_addWall_14 : decode cX1_addWall 14 = .ok (.aload_n 0, 1) := by decide +kernel
theorem dX1_addWall_15 : decode cX1_addWall 15 = .ok (.iload_n 1, 1) := by decide +kernel
theorem dX1_addWall_16 : decode cX1_addWall 16 = .ok (.invokevirtual 50, 3) := by decide +kernel
theorem dX1_addWall_19 : decode cX1_addWall 19 = .ok (.ifCond .eq 11, 3) := by decide +kernel
theorem dX1_addWall_22 : decode cX1_addWall 22 = .ok (.aload_n 0, 1) := by decide +kernel
theorem dX1_addWall_23 : decode cX1_addWall 23 = .ok (.iload_n 2, 1) := by decide +kernel
theorem dX1_addWall_24 : decode cX1_addWall 24 = .ok (.invokevirtual 50, 3) := by decide +kernel
theorem dX1_addWall_27 : decode cX1_addWall 27 = .ok (.ifCond .ne 5, 3) := by decide +kernel
theorem dX1_addWall_30 : decode cX1_addWall 30 = .ok (.iconst 0, 1) := by decide +kernel
theorem dX1_addWall_31 : decode cX1_addWall 31 = .ok (.ireturn, 1) := by decide +kernel
theorem dX1_addWall_32 : decode cX1_addWall 32 = .ok (.aload_n 0, 1) := by decide +kernel
theorem dX1_addWall_33 : decode cX1_addWall 33 = .ok (.iload_n 1, 1) := by decide +kernel
theorem dX1_addWall_34 : decode cX1_addWall 34 = .ok (.iload_n 2, 1) := by decide +kernel
theorem dX1_addWall_35 : decode cX1_addWall 35 = .ok (.invokevirtual 54, 3) := by decide +kernel
theorem dX1_addWall_38 : decode cX1_addWall 38 = .ok (.iconst 1, 1) := by decide +kernel
theorem dX1_addWall_39 : decode cX1_addWall 39 = .ok (.ireturn, 1) := by decide +kernel
set_option maxRecDepth 20000 in
theorem ggX1_canHaveWall_X8_within : GoodIn wsX1_canHaveWall wsX8_within := goodIn_r _ [4] (by decide +kernel) (by decide +kernel)
set_option maxRecDepth 20000 in
theorem gX1_canHaveWall_X8_within_n46 : GoodIn wsX1_canHaveWall (wsX8_within) := ggX1_canHaveWall_X8_within
set_option maxRecDepth 20000 in
theorem ggX1_canHaveWall_X1_wallsOf : GoodIn wsX1_canHaveWall wsX1_wallsOf := goodIn_r _ [9, 10, 11, 12, 13, 8, 14, 15, 16, 17, 18, 19, 20, 21, 22, 23, 24] (by decide +kernel) (by decide +kernel)
set_option maxRecDepth 20000 in
theorem gX1_canHaveWall_X1_wallsOf : GoodIn wsX1_canHaveWall (wsV RX1 58 RX1 yX1_wallsOf wsX1_wallsOf) := goodIn_app (goodIn_of _ (by decide +kernel)) ggX1_canHaveWall_X1_wallsOf
theorem dX1_canHaveWall_0 : decode cX1_canHaveWall 0 = .ok (.iload_n 1, 1) := by decide +kernel
theorem dX1_canHaveWall_1 : decode cX1_canHaveWall 1 = .ok (.iconst 0, 1) := by decide +kernel
theorem dX1_canHaveWall_2 : decode cX1_canHaveWall 2 = .ok (.aload_n 0, 1) := by decide +kernel
theorem dX1_canHaveWall_3 : decode cX1_canHaveWall 3 = .ok (.getfield 30, 3) := by decide +kernel
theorem dX1_canHaveWall_6 : decode cX1_canHaveWall 6 = .ok (.iconst 1, 1) := by decide +kernel
theorem dX1_canHaveWall_7 : decode cX1_canHaveWall 7 = .ok (.isub, 1) := by decide +kernel
theorem dX1_canHaveWall_8 : decode cX1_canHaveWall 8 = .ok (.invokestatic 46, 3) := by decide +kernel
theorem dX1_canHaveWall_11 : decode cX1_canHaveWall 11 = .ok (.ifCond .eq 16, 3) := by decide +kernel
theorem dX1_canHaveWall_14 : decode cX1_canHaveWall 14 = .ok (.aload_n 0, 1) := by decide +kernel
theorem dX1_canHaveWall_15 : decode cX1_canHaveWall 15 = .ok (.iload_n 1, 1) := by decide +kernel
theorem dX1_canHaveWall_16 : decode cX1_canHaveWall 16 = .ok (.invokevirtual 58, 3) := by decide +kernel
theorem dX1_canHaveWall_19 : decode cX1_canHaveWall 19 = .ok (.iconst 4, 1) := by decide +kernel
theorem dX1_canHaveWall_20 : decode cX1_canHaveWall 20 = .ok (.if_icmp .ge 7, 3) := by decide +kernel
theorem dX1_canHaveWall_23 : decode cX1_canHaveWall 23 = .ok (.iconst 1, 1) := by decide +kernel
theorem dX1_canHaveWall_24 : decode cX1_canHaveWall 24 = .ok (.goto 4, 3) := by decide +kernel
theorem dX1_canHaveWall_27 : decode cX1_canHaveWall 27 = .ok (.iconst 0, 1) := by decide +kernel
theorem dX1_canHaveWall_28 : decode cX1_canHaveWall 28 = .ok (.ireturn, 1) := by decide +kernel
theorem dX1_putWall_0 : decode cX1_putWall 0 = .ok (.aload_n 0, 1) := by decide +kernel
theorem dX1_putWall_1 : decode cX1_putWall 1 = .ok (.getfield 34, 3) := by decide +kernel
theorem dX1_putWall_4 : decode cX1_putWall 4 = .ok (.bipush 8, 2) := by decide +kernel
theorem dX1_putWall_6 : decode cX1_putWall 6 = .ok (.if_icmp .le 4, 3) := by decide +kernel
theorem dX1_putWall_9 : decode cX1_putWall 9 = .ok (.return_, 1) := by decide +kernel
theorem dX1_putWall_10 : decode cX1_putWall 10 = .ok (.aload_n 0, 1) := by decide +kernel
theorem dX1_putWall_11 : decode cX1_putWall 11 = .ok (.getfield 21, 3) := by decide +kernel
theorem dX1_putWall_14 : decode cX1_putWall 14 = .ok (.iconst 2, 1) := by decide +kernel
theorem dX1_putWall_15 : decode cX1_putWall 15 = .ok (.aload_n 0, 1) := by decide +kernel
theorem dX1_putWall_16 : decode cX1_putWall 16 = .ok (.getfield 34, 3) := by decide +kernel
theorem dX1_putWall_19 : decode cX1_putWall 19 = .ok (.imul, 1) := by decide +kernel
theorem dX1_putWall_20 : decode cX1_putWall 20 = .ok (.iload_n 1, 1) := by decide +kernel
theorem dX1_putWall_21 : decode cX1_putWall 21 = .ok (.iastore, 1) := by decide +kernel
theorem dX1_putWall_22 : decode cX1_putWall 22 = .ok (.aload_n 0, 1) := by decide +kernel
theorem dX1_putWall_23 : decode cX1_putWall 23 = .ok (.getfield 21, 3) := by decide +kernel
theorem dX1_putWall_26 : decode cX1_putWall 26 = .ok (.iconst 2, 1) := by decide +kernel
theorem dX1_putWall_27 : decode cX1_putWall 27 = .ok (.aload_n 0, 1) := by decide +kernel
theorem dX1_putWall_28 : decode cX1_putWall 28 = .ok (.getfield 34, 3) := by decide +kernel
theorem dX1_putWall_31 : decode cX1_putWall 31 = .ok (.imul, 1) := by decide +kernel
theorem dX1_putWall_32 : decode cX1_putWall 32 = .ok (.iconst 1, 1) := by decide +kernel
theorem dX1_putWall_33 : decode cX1_putWall 33 = .ok (.iadd, 1) := by decide +kernel
theorem dX1_putWall_34 : decode cX1_putWall 34 = .ok (.iload_n 2, 1) := by decide +kernel
theorem dX1_putWall_35 : decode cX1_putWall 35 = .ok (.iastore, 1) := by decide +kernel
theorem dX1_putWall_36 : decode cX1_putWall 36 = .ok (.aload_n 0, 1) := by decide +kernel
theorem dX1_putWall_37 : decode cX1_putWall 37 = .ok (.dup, 1) := by decide +kernel
theorem dX1_putWall_38 : decode cX1_putWall 38 = .ok (.getfield 34, 3) := by decide +kernel
theorem dX1_putWall_41 : decode cX1_putWall 41 = .ok (.iconst 1, 1) := by decide +kernel
theorem dX1_putWall_42 : decode cX1_putWall 42 = .ok (.iadd, 1) := by decide +kernel
theorem dX1_putWall_43 : decode cX1_putWall 43 = .ok (.putfield 34, 3) := by decide +kernel
theorem dX1_putWall_46 : decode cX1_putWall 46 = .ok (.return_, 1) := by decide +kernel
set_option maxRecDepth 20000 in
theorem ggX1_addTree_X8_within : GoodIn wsX1_addTree wsX8_within := goodIn_r _ [7] (by decide +kernel) (by decide +kernel)
set_option maxRecDepth 20000 in
theorem gX1_addTree_X8_within_n46 : GoodIn wsX1_addTree (wsX8_within) := ggX1_addTree_X8_within
theorem dX1_addTree_0 : decode cX1_addTree 0 = .ok (.aload_n 0, 1) := by decide +kernel
theorem dX1_addTree_1 : decode cX1_addTree 1 = .ok (.getfield 37, 3) := by decide +kernel
theorem dX1_addTree_4 : decode cX1_addTree 4 = .ok (.bipush 6, 2) := by decide +kernel
theorem dX1_addTree_6 : decode cX1_addTree 6 = .ok (.if_icmp .ge 27, 3) := by decide +kernel
theorem dX1_addTree_9 : decode cX1_addTree 9 = .ok (.iload_n 1, 1) := by decide +kernel
theorem dX1_addTree_10 : decode cX1_addTree 10 = .ok (.iconst 0, 1) := by decide +kernel
theorem dX1_addTree_11 : decode cX1_addTree 11 = .ok (.aload_n 0, 1) := by decide +kernel
theorem dX1_addTree_12 : decode cX1_addTree 12 = .ok (.getfield 34, 3) := by decide +kernel
theorem dX1_addTree_15 : decode cX1_addTree 15 = .ok (.iconst 1, 1) := by decide +kernel
theorem dX1_addTree_16 : decode cX1_addTree 16 = .ok (.isub, 1) := by decide +kernel
theorem dX1_addTree_17 : decode cX1_addTree 17 = .ok (.invokestatic 46, 3) := by decide +kernel
theorem dX1_addTree_20 : decode cX1_addTree 20 = .ok (.ifCond .eq 13, 3) := by decide +kernel
theorem dX1_addTree_23 : decode cX1_addTree 23 = .ok (.iload_n 2, 1) := by decide +kernel
theorem dX1_addTree_24 : decode cX1_addTree 24 = .ok (.iconst 0, 1) := by decide +kernel
theorem dX1_addTree_25 : decode cX1_addTree 25 = .ok (.bipush 40, 2) := by decide +kernel
theorem dX1_addTree_27 : decode cX1_addTree 27 = .ok (.invokestatic 46, 3) := by decide +kernel
theorem dX1_addTree_30 : decode cX1_addTree 30 = .ok (.ifCond .ne 5, 3) := by decide +kernel
theorem dX1_addTree_33 : decode cX1_addTree 33 = .ok (.iconst 0, 1) := by decide +kernel
theorem dX1_addTree_34 : decode cX1_addTree 34 = .ok (.ireturn, 1) := by decide +kernel
theorem dX1_addTree_35 : decode cX1_addTree 35 = .ok (.aload_n 0, 1) := by decide +kernel
theorem dX1_addTree_36 : decode cX1_addTree 36 = .ok (.getfield 24, 3) := by decide +kernel
theorem dX1_addTree_39 : decode cX1_addTree 39 = .ok (.aload_n 0, 1) := by decide +kernel
theorem dX1_addTree_40 : decode cX1_addTree 40 = .ok (.getfield 37, 3) := by decide +kernel
theorem dX1_addTree_43 : decode cX1_addTree 43 = .ok (.iload_n 1, 1) := by decide +kernel
theorem dX1_addTree_44 : decode cX1_addTree 44 = .ok (.iastore, 1) := by decide +kernel
theorem dX1_addTree_45 : decode cX1_addTree 45 = .ok (.aload_n 0, 1) := by decide +kernel
theorem dX1_addTree_46 : decode cX1_addTree 46 = .ok (.getfield 27, 3) := by decide +kernel
theorem dX1_addTree_49 : decode cX1_addTree 49 = .ok (.aload_n 0, 1) := by decide +kernel
theorem dX1_addTree_50 : decode cX1_addTree 50 = .ok (.getfield 37, 3) := by decide +kernel
theorem dX1_addTree_53 : decode cX1_addTree 53 = .ok (.iload_n 2, 1) := by decide +kernel
theorem dX1_addTree_54 : decode cX1_addTree 54 = .ok (.bipush 20, 2) := by decide +kernel
theorem dX1_addTree_56 : decode cX1_addTree 56 = .ok (.isub, 1) := by decide +kernel
theorem dX1_addTree_57 : decode cX1_addTree 57 = .ok (.iastore, 1) := by decide +kernel
theorem dX1_addTree_58 : decode cX1_addTree 58 = .ok (.aload_n 0, 1) := by decide +kernel
theorem dX1_addTree_59 : decode cX1_addTree 59 = .ok (.dup, 1) := by decide +kernel
theorem dX1_addTree_60 : decode cX1_addTree 60 = .ok (.getfield 37, 3) := by decide +kernel
theorem dX1_addTree_63 : decode cX1_addTree 63 = .ok (.iconst 1, 1) := by decide +kernel
theorem dX1_addTree_64 : decode cX1_addTree 64 = .ok (.iadd, 1) := by decide +kernel
theorem dX1_addTree_65 : decode cX1_addTree 65 = .ok (.putfield 37, 3) := by decide +kernel
theorem dX1_addTree_68 : decode cX1_addTree 68 = .ok (.iconst 1, 1) := by decide +kernel
theorem dX1_addTree_69 : decode cX1_addTree 69 = .ok (.ireturn, 1) := by decide +kernel
theorem dX1_sides_0 : decode cX1_sides 0 = .ok (.iconst 2, 1) := by decide +kernel
theorem dX1_sides_1 : decode cX1_sides 1 = .ok (.aload_n 0, 1) := by decide +kernel
theorem dX1_sides_2 : decode cX1_sides 2 = .ok (.getfield 34, 3) := by decide +kernel
theorem dX1_sides_5 : decode cX1_sides 5 = .ok (.imul, 1) := by decide +kernel
theorem dX1_sides_6 : decode cX1_sides 6 = .ok (.ireturn, 1) := by decide +kernel
set_option maxRecDepth 20000 in
theorem ggX1_wallsOf_X1_sides : GoodIn wsX1_wallsOf wsX1_sides := goodIn_r _ [6, 7, 8, 9, 10, 11, 12, 13, 14, 15, 16] (by decide +kernel) (by decide +kernel)
set_option maxRecDepth 20000 in
theorem gX1_wallsOf_X1_sides : GoodIn wsX1_wallsOf (wsV RX1 62 RX1 yX1_sides wsX1_sides) := goodIn_app (goodIn_of _ (by decide +kernel)) ggX1_wallsOf_X1_sides
theorem dX1_wallsOf_0 : decode cX1_wallsOf 0 = .ok (.iconst 0, 1) := by decide +kernel
theorem dX1_wallsOf_1 : decode cX1_wallsOf 1 = .ok (.istore_n 2, 1) := by decide +kernel
theorem dX1_wallsOf_2 : decode cX1_wallsOf 2 = .ok (.iconst 0, 1) := by decide +kernel
theorem dX1_wallsOf_3 : decode cX1_wallsOf 3 = .ok (.istore_n 3, 1) := by decide +kernel
theorem dX1_wallsOf_4 : decode cX1_wallsOf 4 = .ok (.iload_n 3, 1) := by decide +kernel
theorem dX1_wallsOf_5 : decode cX1_wallsOf 5 = .ok (.aload_n 0, 1) := by decide +kernel
theorem dX1_wallsOf_6 : decode cX1_wallsOf 6 = .ok (.invokevirtual 62, 3) := by decide +kernel
theorem dX1_wallsOf_9 : decode cX1_wallsOf 9 = .ok (.if_icmp .ge 22, 3) := by decide +kernel
theorem dX1_wallsOf_12 : decode cX1_wallsOf 12 = .ok (.aload_n 0, 1) := by decide +kernel
theorem dX1_wallsOf_13 : decode cX1_wallsOf 13 = .ok (.getfield 21, 3) := by decide +kernel
theorem dX1_wallsOf_16 : decode cX1_wallsOf 16 = .ok (.iload_n 3, 1) := by decide +kernel
theorem dX1_wallsOf_17 : decode cX1_wallsOf 17 = .ok (.iaload, 1) := by decide +kernel
theorem dX1_wallsOf_18 : decode cX1_wallsOf 18 = .ok (.iload_n 1, 1) := by decide +kernel
theorem dX1_wallsOf_19 : decode cX1_wallsOf 19 = .ok (.if_icmp .ne 6, 3) := by decide +kernel
theorem dX1_wallsOf_22 : decode cX1_wallsOf 22 = .ok (.iinc 2 1, 3) := by decide +kernel
theorem dX1_wallsOf_25 : decode cX1_wallsOf 25 = .ok (.iinc 3 1, 3) := by decide +kernel
theorem dX1_wallsOf_28 : decode cX1_wallsOf 28 = .ok (.goto (-24), 3) := by decide +kernel
theorem dX1_wallsOf_31 : decode cX1_wallsOf 31 = .ok (.iload_n 2, 1) := by decide +kernel
theorem dX1_wallsOf_32 : decode cX1_wallsOf 32 = .ok (.ireturn, 1) := by decide +kernel
theorem dX1_sideAt_0 : decode cX1_sideAt 0 = .ok (.aload_n 0, 1) := by decide +kernel
theorem dX1_sideAt_1 : decode cX1_sideAt 1 = .ok (.getfield 21, 3) := by decide +kernel
theorem dX1_sideAt_4 : decode cX1_sideAt 4 = .ok (.iconst 2, 1) := by decide +kernel
theorem dX1_sideAt_5 : decode cX1_sideAt 5 = .ok (.iload_n 2, 1) := by decide +kernel
theorem dX1_sideAt_6 : decode cX1_sideAt 6 = .ok (.imul, 1) := by decide +kernel
theorem dX1_sideAt_7 : decode cX1_sideAt 7 = .ok (.iaload, 1) := by decide +kernel
theorem dX1_sideAt_8 : decode cX1_sideAt 8 = .ok (.iload_n 1, 1) := by decide +kernel
theorem dX1_sideAt_9 : decode cX1_sideAt 9 = .ok (.if_icmp .ne 7, 3) := by decide +kernel
theorem dX1_sideAt_12 : decode cX1_sideAt 12 = .ok (.iconst 2, 1) := by decide +kernel
theorem dX1_sideAt_13 : decode cX1_sideAt 13 = .ok (.iload_n 2, 1) := by decide +kernel
theorem dX1_sideAt_14 : decode cX1_sideAt 14 = .ok (.imul, 1) := by decide +kernel
theorem dX1_sideAt_15 : decode cX1_sideAt 15 = .ok (.ireturn, 1) := by decide +kernel
theorem dX1_sideAt_16 : decode cX1_sideAt 16 = .ok (.aload_n 0, 1) := by decide +kernel
theorem dX1_sideAt_17 : decode cX1_sideAt 17 = .ok (.getfield 21, 3) := by decide +kernel
theorem dX1_sideAt_20 : decode cX1_sideAt 20 = .ok (.iconst 2, 1) := by decide +kernel
theorem dX1_sideAt_21 : decode cX1_sideAt 21 = .ok (.iload_n 2, 1) := by decide +kernel
theorem dX1_sideAt_22 : decode cX1_sideAt 22 = .ok (.imul, 1) := by decide +kernel
theorem dX1_sideAt_23 : decode cX1_sideAt 23 = .ok (.iconst 1, 1) := by decide +kernel
theorem dX1_sideAt_24 : decode cX1_sideAt 24 = .ok (.iadd, 1) := by decide +kernel
theorem dX1_sideAt_25 : decode cX1_sideAt 25 = .ok (.iaload, 1) := by decide +kernel
theorem dX1_sideAt_26 : decode cX1_sideAt 26 = .ok (.iload_n 1, 1) := by decide +kernel
theorem dX1_sideAt_27 : decode cX1_sideAt 27 = .ok (.if_icmp .ne 11, 3) := by decide +kernel
theorem dX1_sideAt_30 : decode cX1_sideAt 30 = .ok (.iconst 2, 1) := by decide +kernel
theorem dX1_sideAt_31 : decode cX1_sideAt 31 = .ok (.iload_n 2, 1) := by decide +kernel
theorem dX1_sideAt_32 : decode cX1_sideAt 32 = .ok (.imul, 1) := by decide +kernel
theorem dX1_sideAt_33 : decode cX1_sideAt 33 = .ok (.iconst 1, 1) := by decide +kernel
theorem dX1_sideAt_34 : decode cX1_sideAt 34 = .ok (.iadd, 1) := by decide +kernel
theorem dX1_sideAt_35 : decode cX1_sideAt 35 = .ok (.goto 5, 3) := by decide +kernel
theorem dX1_sideAt_38 : decode cX1_sideAt 38 = .ok (.bipush (-4), 2) := by decide +kernel
theorem dX1_sideAt_40 : decode cX1_sideAt 40 = .ok (.ireturn, 1) := by decide +kernel
set_option maxRecDepth 20000 in
theorem ggX2_init_X6_init : GoodIn wsX2_init wsX6_init := goodIn_r _ [18, 19, 2, 3, 4, 20, 21, 22, 23, 41, 42, 43, 44, 45, 46] (by decide +kernel) (by decide +kernel)
set_option maxRecDepth 20000 in
theorem gX2_init_X6_init_n23 : GoodIn wsX2_init (wsX6_init) := ggX2_init_X6_init
set_option maxRecDepth 20000 in
theorem ggX2_init_X1_init : GoodIn wsX2_init wsX1_init := goodIn_r _ [25, 26, 2, 3, 4, 27, 28, 29, 30, 31, 32, 47, 48, 49, 50, 51, 52, 53, 54, 55] (by decide +kernel) (by decide +kernel)
set_option maxRecDepth 20000 in
theorem gX2_init_X1_init_n33 : GoodIn wsX2_init (wsX1_init) := ggX2_init_X1_init
theorem dX2_init_0 : decode cX2_init 0 = .ok (.aload_n 0, 1) := by decide +kernel
theorem dX2_init_1 : decode cX2_init 1 = .ok (.invokespecial 3, 3) := by decide +kernel
theorem dX2_init_4 : decode cX2_init 4 = .ok (.aload_n 0, 1) := by decide +kernel
theorem dX2_init_5 : decode cX2_init 5 = .ok (.iconst 4, 1) := by decide +kernel
theorem dX2_init_6 : decode cX2_init 6 = .ok (.newarray .int, 2) := by decide +kernel
theorem dX2_init_8 : decode cX2_init 8 = .ok (.putfield 9, 3) := by decide +kernel
theorem dX2_init_11 : decode cX2_init 11 = .ok (.aload_n 0, 1) := by decide +kernel
theorem dX2_init_12 : decode cX2_init 12 = .ok (.iconst 4, 1) := by decide +kernel
theorem dX2_init_13 : decode cX2_init 13 = .ok (.newarray .int, 2) := by decide +kernel
theorem dX2_init_15 : decode cX2_init 15 = .ok (.putfield 15, 3) := by decide +kernel
theorem dX2_init_18 : decode cX2_init 18 = .ok (.aload_n 0, 1) := by decide +kernel
theorem dX2_init_19 : decode cX2_init 19 = .ok (.bipush 6, 2) := by decide +kernel
theorem dX2_init_21 : decode cX2_init 21 = .ok (.newarray .int, 2) := by decide +kernel
theorem dX2_init_23 : decode cX2_init 23 = .ok (.putfield 18, 3) := by decide +kernel
theorem dX2_init_26 : decode cX2_init 26 = .ok (.aload_n 0, 1) := by decide +kernel
theorem dX2_init_27 : decode cX2_init 27 = .ok (.new 21, 3) := by decide +kernel
theorem dX2_init_30 : decode cX2_init 30 = .ok (.dup, 1) := by decide +kernel
theorem dX2_init_31 : decode cX2_init 31 = .ok (.invokespecial 23, 3) := by decide +kernel
theorem dX2_init_34 : decode cX2_init 34 = .ok (.putfield 24, 3) := by decide +kernel
theorem dX2_init_37 : decode cX2_init 37 = .ok (.aload_n 0, 1) := by decide +kernel
theorem dX2_init_38 : decode cX2_init 38 = .ok (.new 21, 3) := by decide +kernel
theorem dX2_init_41 : decode cX2_init 41 = .ok (.dup, 1) := by decide +kernel
theorem dX2_init_42 : decode cX2_init 42 = .ok (.invokespecial 23, 3) := by decide +kernel
theorem dX2_init_45 : decode cX2_init 45 = .ok (.putfield 28, 3) := by decide +kernel
theorem dX2_init_48 : decode cX2_init 48 = .ok (.aload_n 0, 1) := by decide +kernel
theorem dX2_init_49 : decode cX2_init 49 = .ok (.new 31, 3) := by decide +kernel
theorem dX2_init_52 : decode cX2_init 52 = .ok (.dup, 1) := by decide +kernel
theorem dX2_init_53 : decode cX2_init 53 = .ok (.invokespecial 33, 3) := by decide +kernel
theorem dX2_init_56 : decode cX2_init 56 = .ok (.putfield 34, 3) := by decide +kernel
theorem dX2_init_59 : decode cX2_init 59 = .ok (.return_, 1) := by decide +kernel
set_option maxRecDepth 20000 in
theorem ggX2_standBehind_X6_takeOver : GoodIn wsX2_standBehind wsX6_takeOver := goodIn_r _ [6, 7, 8, 9, 10, 11, 12, 13, 14, 15, 46, 47, 48, 49, 50, 51] (by decide +kernel) (by decide +kernel)
set_option maxRecDepth 20000 in
theorem gX2_standBehind_X6_takeOver : GoodIn wsX2_standBehind (wsV RX2 38 RX6 yX6_takeOver wsX6_takeOver) := goodIn_app (goodIn_of _ (by decide +kernel)) ggX2_standBehind_X6_takeOver
set_option maxRecDepth 20000 in
theorem ggX2_standBehind_X6_goDay : GoodIn wsX2_standBehind wsX6_goDay := goodIn_r _ [19, 20, 21, 7, 22, 9, 14, 23, 24, 25, 26, 27, 28, 29, 30, 31, 5, 32, 15, 8, 33, 34, 35, 36, 37, 52, 53, 54, 55, 56, 57, 58, 59, 60, 46, 47, 48, 49, 50, 51] (by decide +kernel) (by decide +kernel)
set_option maxRecDepth 20000 in
theorem gX2_standBehind_X6_goDay : GoodIn wsX2_standBehind (wsV RX2 42 RX6 yX6_goDay wsX6_goDay) := goodIn_app (goodIn_of _ (by decide +kernel)) ggX2_standBehind_X6_goDay
theorem dX2_standBehind_0 : decode cX2_standBehind 0 = .ok (.aload_n 0, 1) := by decide +kernel
theorem dX2_standBehind_1 : decode cX2_standBehind 1 = .ok (.getfield 28, 3) := by decide +kernel
theorem dX2_standBehind_4 : decode cX2_standBehind 4 = .ok (.aload_n 2, 1) := by decide +kernel
theorem dX2_standBehind_5 : decode cX2_standBehind 5 = .ok (.invokevirtual 38, 3) := by decide +kernel
theorem dX2_standBehind_8 : decode cX2_standBehind 8 = .ok (.iconst 0, 1) := by decide +kernel
theorem dX2_standBehind_9 : decode cX2_standBehind 9 = .ok (.istore 4, 2) := by decide +kernel
theorem dX2_standBehind_11 : decode cX2_standBehind 11 = .ok (.iload 4, 2) := by decide +kernel
theorem dX2_standBehind_13 : decode cX2_standBehind 13 = .ok (.iload_n 3, 1) := by decide +kernel
theorem dX2_standBehind_14 : decode cX2_standBehind 14 = .ok (.if_icmp .ge 19, 3) := by decide +kernel
theorem dX2_standBehind_17 : decode cX2_standBehind 17 = .ok (.aload_n 0, 1) := by decide +kernel
theorem dX2_standBehind_18 : decode cX2_standBehind 18 = .ok (.getfield 28, 3) := by decide +kernel
theorem dX2_standBehind_21 : decode cX2_standBehind 21 = .ok (.aload_n 1, 1) := by decide +kernel
theorem dX2_standBehind_22 : decode cX2_standBehind 22 = .ok (.iconst 0, 1) := by decide +kernel
theorem dX2_standBehind_23 : decode cX2_standBehind 23 = .ok (.invokevirtual 42, 3) := by decide +kernel
theorem dX2_standBehind_26 : decode cX2_standBehind 26 = .ok (.pop, 1) := by decide +kernel
theorem dX2_standBehind_27 : decode cX2_standBehind 27 = .ok (.iinc 4 1, 3) := by decide +kernel
theorem dX2_standBehind_30 : decode cX2_standBehind 30 = .ok (.goto (-19), 3) := by decide +kernel
theorem dX2_standBehind_33 : decode cX2_standBehind 33 = .ok (.aload_n 0, 1) := by decide +kernel
theorem dX2_standBehind_34 : decode cX2_standBehind 34 = .ok (.getfield 28, 3) := by decide +kernel
theorem dX2_standBehind_37 : decode cX2_standBehind 37 = .ok (.areturn, 1) := by decide +kernel
set_option maxRecDepth 20000 in
theorem ggX2_findGone_X6_takeOver : GoodIn wsX2_findGone wsX6_takeOver := goodIn_r _ [10, 11, 12, 13, 14, 15, 16, 17, 18, 19, 59, 60, 61, 62, 63, 64] (by decide +kernel) (by decide +kernel)
set_option maxRecDepth 20000 in
theorem gX2_findGone_X6_takeOver : GoodIn wsX2_findGone (wsV RX2 38 RX6 yX6_takeOver wsX6_takeOver) := goodIn_app (goodIn_of _ (by decide +kernel)) ggX2_findGone_X6_takeOver
set_option maxRecDepth 20000 in
theorem ggX2_findGone_X6_goDay : GoodIn wsX2_findGone wsX6_goDay := goodIn_r _ [23, 24, 25, 11, 26, 13, 18, 27, 28, 29, 30, 31, 32, 33, 34, 35, 9, 36, 19, 12, 37, 38, 39, 40, 41, 50, 51, 52, 53, 54, 55, 56, 57, 58, 59, 60, 61, 62, 63, 64] (by decide +kernel) (by decide +kernel)
set_option maxRecDepth 20000 in
theorem gX2_findGone_X6_goDay : GoodIn wsX2_findGone (wsV RX2 42 RX6 yX6_goDay wsX6_goDay) := goodIn_app (goodIn_of _ (by decide +kernel)) ggX2_findGone_X6_goDay
theorem dX2_findGone_0 : decode cX2_findGone 0 = .ok (.aload_n 0, 1) := by decide +kernel
theorem dX2_findGone_1 : decode cX2_findGone 1 = .ok (.getfield 28, 3) := by decide +kernel
theorem dX2_findGone_4 : decode cX2_findGone 4 = .ok (.aload_n 2, 1) := by decide +kernel
theorem dX2_findGone_5 : decode cX2_findGone 5 = .ok (.invokevirtual 38, 3) := by decide +kernel
theorem dX2_findGone_8 : decode cX2_findGone 8 = .ok (.iconst 1, 1) := by decide +kernel
theorem dX2_findGone_9 : decode cX2_findGone 9 = .ok (.istore_n 3, 1) := by decide +kernel
theorem dX2_findGone_10 : decode cX2_findGone 10 = .ok (.iload_n 3, 1) := by decide +kernel
theorem dX2_findGone_11 : decode cX2_findGone 11 = .ok (.bipush 60, 2) := by decide +kernel
theorem dX2_findGone_13 : decode cX2_findGone 13 = .ok (.if_icmp .gt 73, 3) := by decide +kernel
theorem dX2_findGone_16 : decode cX2_findGone 16 = .ok (.aload_n 0, 1) := by decide +kernel
theorem dX2_findGone_17 : decode cX2_findGone 17 = .ok (.getfield 28, 3) := by decide +kernel
theorem dX2_findGone_20 : decode cX2_findGone 20 = .ok (.aload_n 1, 1) := by decide +kernel
theorem dX2_findGone_21 : decode cX2_findGone 21 = .ok (.iconst 0, 1) := by decide +kernel
theorem dX2_findGone_22 : decode cX2_findGone 22 = .ok (.invokevirtual 42, 3) := by decide +kernel
theorem dX2_findGone_25 : decode cX2_findGone 25 = .ok (.pop, 1) := by decide +kernel
theorem dX2_findGone_26 : decode cX2_findGone 26 = .ok (.iconst 0, 1) := by decide +kernel
theorem dX2_findGone_27 : decode cX2_findGone 27 = .ok (.istore 4, 2) := by decide +kernel
theorem dX2_findGone_29 : decode cX2_findGone 29 = .ok (.iload 4, 2) := by decide +kernel
theorem dX2_findGone_31 : decode cX2_findGone 31 = .ok (.aload_n 1, 1) := by decide +kernel
theorem dX2_findGone_32 : decode cX2_findGone 32 = .ok (.getfield 46, 3) := by decide +kernel
theorem dX2_findGone_35 : decode cX2_findGone 35 = .ok (.if_icmp .ge 45, 3) := by decide +kernel
theorem dX2_findGone_38 : decode cX2_findGone 38 = .ok (.aload_n 2, 1) := by decide +kernel
theorem dX2_findGone_39 : decode cX2_findGone 39 = .ok (.getfield 50, 3) := by decide +kernel
theorem dX2_findGone_42 : decode cX2_findGone 42 = .ok (.iload 4, 2) := by decide +kernel
theorem dX2_findGone_44 : decode cX2_findGone 44 = .ok (.iaload, 1) := by decide +kernel
theorem dX2_findGone_45 : decode cX2_findGone 45 = .ok (.ifCond .le 29, 3) := by decide +kernel
theorem dX2_findGone_48 : decode cX2_findGone 48 = .ok (.aload_n 0, 1) := by decide +kernel
theorem dX2_findGone_49 : decode cX2_findGone 49 = .ok (.getfield 28, 3) := by decide +kernel
theorem dX2_findGone_52 : decode cX2_findGone 52 = .ok (.getfield 50, 3) := by decide +kernel
theorem dX2_findGone_55 : decode cX2_findGone 55 = .ok (.iload 4, 2) := by decide +kernel
theorem dX2_findGone_57 : decode cX2_findGone 57 = .ok (.iaload, 1) := by decide +kernel
theorem dX2_findGone_58 : decode cX2_findGone 58 = .ok (.ifCond .ne 16, 3) := by decide +kernel
theorem dX2_findGone_61 : decode cX2_findGone 61 = .ok (.aload_n 0, 1) := by decide +kernel
theorem dX2_findGone_62 : decode cX2_findGone 62 = .ok (.iload 4, 2) := by decide +kernel
theorem dX2_findGone_64 : decode cX2_findGone 64 = .ok (.putfield 53, 3) := by decide +kernel
theorem dX2_findGone_67 : decode cX2_findGone 67 = .ok (.aload_n 0, 1) := by decide +kernel
theorem dX2_findGone_68 : decode cX2_findGone 68 = .ok (.iload_n 3, 1) := by decide +kernel
theorem dX2_findGone_69 : decode cX2_findGone 69 = .ok (.putfield 56, 3) := by decide +kernel
theorem dX2_findGone_72 : decode cX2_findGone 72 = .ok (.iconst 1, 1) := by decide +kernel
theorem dX2_findGone_73 : decode cX2_findGone 73 = .ok (.ireturn, 1) := by decide +kernel
theorem dX2_findGone_74 : decode cX2_findGone 74 = .ok (.iinc 4 1, 3) := by decide +kernel
theorem dX2_findGone_77 : decode cX2_findGone 77 = .ok (.goto (-48), 3) := by decide +kernel
theorem dX2_findGone_80 : decode cX2_findGone 80 = .ok (.iinc 3 1, 3) := by decide +kernel
theorem dX2_findGone_83 : decode cX2_findGone 83 = .ok (.goto (-73), 3) := by decide +kernel
theorem dX2_findGone_86 : decode cX2_findGone 86 = .ok (.iconst 0, 1) := by decide +kernel
theorem dX2_findGone_87 : decode cX2_findGone 87 = .ok (.ireturn, 1) := by decide +kernel
set_option maxRecDepth 20000 in
theorem ggX2_findBestWay_X1_wallsOf : GoodIn wsX2_findBestWay wsX1_wallsOf := goodIn_r _ [14, 15, 16, 17, 18, 13, 19, 20, 75, 76, 77, 78, 79, 80, 81, 82, 83] (by decide +kernel) (by decide +kernel)
set_option maxRecDepth 20000 in
theorem gX2_findBestWay_X1_wallsOf : GoodIn wsX2_findBestWay (wsV RX2 59 RX1 yX1_wallsOf wsX1_wallsOf) := goodIn_app (goodIn_of _ (by decide +kernel)) ggX2_findBestWay_X1_wallsOf
set_option maxRecDepth 20000 in
theorem ggX2_findBestWay_X6_takeOver : GoodIn wsX2_findBestWay wsX6_takeOver := goodIn_r _ [25, 26, 27, 28, 29, 7, 8, 9, 30, 31, 84, 85, 86, 87, 88, 89] (by decide +kernel) (by decide +kernel)
set_option maxRecDepth 20000 in
theorem gX2_findBestWay_X6_takeOver : GoodIn wsX2_findBestWay (wsV RX2 38 RX6 yX6_takeOver wsX6_takeOver) := goodIn_app (goodIn_of _ (by decide +kernel)) ggX2_findBestWay_X6_takeOver
set_option maxRecDepth 20000 in
theorem ggX2_findBestWay_X2_beginWays : GoodIn wsX2_findBestWay wsX2_beginWays := goodIn_r _ [36, 3, 67, 68, 69, 70, 71, 72, 73, 74] (by decide +kernel) (by decide +kernel)
set_option maxRecDepth 20000 in
theorem gX2_findBestWay_X2_beginWays : GoodIn wsX2_findBestWay (wsV RX2 64 RX2 yX2_beginWays wsX2_beginWays) := goodIn_app (goodIn_of _ (by decide +kernel)) ggX2_findBestWay_X2_beginWays
set_option maxRecDepth 20000 in
theorem ggX2_findBestWay_X6_shareBy : GoodIn wsX2_findBestWay wsX6_shareBy := goodIn_r _ [40, 41, 31, 42, 17, 18, 13, 19, 20, 75, 76, 77, 78, 79, 80, 81, 82, 83, 84, 85, 86, 87, 88, 89] (by decide +kernel) (by decide +kernel)
set_option maxRecDepth 20000 in
theorem gX2_findBestWay_X6_shareBy : GoodIn wsX2_findBestWay (wsV RX2 68 RX6 yX6_shareBy wsX6_shareBy) := goodIn_app (goodIn_of _ (by decide +kernel)) ggX2_findBestWay_X6_shareBy
set_option maxRecDepth 20000 in
theorem ggX2_findBestWay_X2_standBehind : GoodIn wsX2_findBestWay wsX2_standBehind := goodIn_r _ [46, 47, 21, 22, 23, 24, 25, 26, 27, 28, 29, 7, 8, 9, 30, 31, 48, 49, 50, 51, 41, 52, 53, 42, 17, 18, 13, 19, 20, 54, 55, 56, 57, 58, 59, 60, 61, 62, 67, 68, 69, 70, 71, 72, 73, 74, 84, 85, 86, 87, 88, 89, 75, 76, 77, 78, 79, 80, 81, 82, 83] (by decide +kernel) (by decide +kernel)
set_option maxRecDepth 20000 in
theorem gX2_findBestWay_X2_standBehind : GoodIn wsX2_findBestWay (wsV RX2 72 RX2 yX2_standBehind wsX2_standBehind) := goodIn_app (goodIn_of _ (by decide +kernel)) ggX2_findBestWay_X2_standBehind
set_option maxRecDepth 20000 in
theorem ggX2_findBestWay_X2_nextWay : GoodIn wsX2_findBestWay wsX2_nextWay := goodIn_r _ [66, 3, 67, 68, 69, 70, 71, 72, 73, 74] (by decide +kernel) (by decide +kernel)
set_option maxRecDepth 20000 in
theorem gX2_findBestWay_X2_nextWay : GoodIn wsX2_findBestWay (wsV RX2 82 RX2 yX2_nextWay wsX2_nextWay) := goodIn_app (goodIn_of _ (by decide +kernel)) ggX2_findBestWay_X2_nextWay
theorem dX2_findBestWay_0 : decode cX2_findBestWay 0 = .ok (.aload_n 1, 1) := by decide +kernel
theorem dX2_findBestWay_1 : decode cX2_findBestWay 1 = .ok (.iload_n 3, 1) := by decide +kernel
theorem dX2_findBestWay_2 : decode cX2_findBestWay 2 = .ok (.invokevirtual 59, 3) := by decide +kernel
theorem dX2_findBestWay_5 : decode cX2_findBestWay 5 = .ok (.istore 5, 2) := by decide +kernel
theorem dX2_findBestWay_7 : decode cX2_findBestWay 7 = .ok (.bipush (-4), 2) := by decide +kernel
theorem dX2_findBestWay_9 : decode cX2_findBestWay 9 = .ok (.istore 6, 2) := by decide +kernel
theorem dX2_findBestWay_11 : decode cX2_findBestWay 11 = .ok (.aload_n 0, 1) := by decide +kernel
theorem dX2_findBestWay_12 : decode cX2_findBestWay 12 = .ok (.getfield 24, 3) := by decide +kernel
theorem dX2_findBestWay_15 : decode cX2_findBestWay 15 = .ok (.aload_n 2, 1) := by decide +kernel
theorem dX2_findBestWay_16 : decode cX2_findBestWay 16 = .ok (.invokevirtual 38, 3) := by decide +kernel
theorem dX2_findBestWay_19 : decode cX2_findBestWay 19 = .ok (.aload_n 0, 1) := by decide +kernel
theorem dX2_findBestWay_20 : decode cX2_findBestWay 20 = .ok (.aload_n 1, 1) := by decide +kernel
theorem dX2_findBestWay_21 : decode cX2_findBestWay 21 = .ok (.getfield 63, 3) := by decide +kernel
theorem dX2_findBestWay_24 : decode cX2_findBestWay 24 = .ok (.iload_n 3, 1) := by decide +kernel
theorem dX2_findBestWay_25 : decode cX2_findBestWay 25 = .ok (.iaload, 1) := by decide +kernel
theorem dX2_findBestWay_26 : decode cX2_findBestWay 26 = .ok (.invokevirtual 64, 3) := by decide +kernel
theorem dX2_findBestWay_29 : decode cX2_findBestWay 29 = .ok (.iconst 0, 1) := by decide +kernel
theorem dX2_findBestWay_30 : decode cX2_findBestWay 30 = .ok (.istore 7, 2) := by decide +kernel
theorem dX2_findBestWay_32 : decode cX2_findBestWay 32 = .ok (.iload 7, 2) := by decide +kernel
theorem dX2_findBestWay_34 : decode cX2_findBestWay 34 = .ok (.sipush 1000, 3) := by decide +kernel
theorem dX2_findBestWay_37 : decode cX2_findBestWay 37 = .ok (.if_icmp .ge 81, 3) := by decide +kernel
theorem dX2_findBestWay_40 : decode cX2_findBestWay 40 = .ok (.aload_n 0, 1) := by decide +kernel
theorem dX2_findBestWay_41 : decode cX2_findBestWay 41 = .ok (.getfield 24, 3) := by decide +kernel
theorem dX2_findBestWay_44 : decode cX2_findBestWay 44 = .ok (.aload_n 1, 1) := by decide +kernel
theorem dX2_findBestWay_45 : decode cX2_findBestWay 45 = .ok (.iload_n 3, 1) := by decide +kernel
theorem dX2_findBestWay_46 : decode cX2_findBestWay 46 = .ok (.aload_n 0, 1) := by decide +kernel
theorem dX2_findBestWay_47 : decode cX2_findBestWay 47 = .ok (.getfield 15, 3) := by decide +kernel
theorem dX2_findBestWay_50 : decode cX2_findBestWay 50 = .ok (.invokevirtual 68, 3) := by decide +kernel
theorem dX2_findBestWay_53 : decode cX2_findBestWay 53 = .ok (.aload_n 0, 1) := by decide +kernel
theorem dX2_findBestWay_54 : decode cX2_findBestWay 54 = .ok (.aload_n 1, 1) := by decide +kernel
theorem dX2_findBestWay_55 : decode cX2_findBestWay 55 = .ok (.aload_n 0, 1) := by decide +kernel
theorem dX2_findBestWay_56 : decode cX2_findBestWay 56 = .ok (.getfield 24, 3) := by decide +kernel
theorem dX2_findBestWay_59 : decode cX2_findBestWay 59 = .ok (.iload 4, 2) := by decide +kernel
theorem dX2_findBestWay_61 : decode cX2_findBestWay 61 = .ok (.invokevirtual 72, 3) := by decide +kernel
theorem dX2_findBestWay_64 : decode cX2_findBestWay 64 = .ok (.getfield 50, 3) := by decide +kernel
theorem dX2_findBestWay_67 : decode cX2_findBestWay 67 = .ok (.iload_n 3, 1) := by decide +kernel
theorem dX2_findBestWay_68 : decode cX2_findBestWay 68 = .ok (.iaload, 1) := by decide +kernel
theorem dX2_findBestWay_69 : decode cX2_findBestWay 69 = .ok (.istore 8, 2) := by decide +kernel
theorem dX2_findBestWay_71 : decode cX2_findBestWay 71 = .ok (.iload 8, 2) := by decide +kernel
theorem dX2_findBestWay_73 : decode cX2_findBestWay 73 = .ok (.iload 6, 2) := by decide +kernel
theorem dX2_findBestWay_75 : decode cX2_findBestWay 75 = .ok (.if_icmp .le 25, 3) := by decide +kernel
theorem dX2_findBestWay_78 : decode cX2_findBestWay 78 = .ok (.iload 8, 2) := by decide +kernel
theorem dX2_findBestWay_80 : decode cX2_findBestWay 80 = .ok (.istore 6, 2) := by decide +kernel
theorem dX2_findBestWay_82 : decode cX2_findBestWay 82 = .ok (.aload_n 0, 1) := by decide +kernel
theorem dX2_findBestWay_83 : decode cX2_findBestWay 83 = .ok (.getfield 15, 3) := by decide +kernel
theorem dX2_findBestWay_86 : decode cX2_findBestWay 86 = .ok (.iconst 0, 1) := by decide +kernel
theorem dX2_findBestWay_87 : decode cX2_findBestWay 87 = .ok (.aload_n 0, 1) := by decide +kernel
theorem dX2_findBestWay_88 : decode cX2_findBestWay 88 = .ok (.getfield 9, 3) := by decide +kernel
theorem dX2_findBestWay_91 : decode cX2_findBestWay 91 = .ok (.iconst 0, 1) := by decide +kernel
theorem dX2_findBestWay_92 : decode cX2_findBestWay 92 = .ok (.aload_n 0, 1) := by decide +kernel
theorem dX2_findBestWay_93 : decode cX2_findBestWay 93 = .ok (.getfield 15, 3) := by decide +kernel
theorem dX2_findBestWay_96 : decode cX2_findBestWay 96 = .ok (.arraylength, 1) := by decide +kernel
theorem dX2_findBestWay_97 : decode cX2_findBestWay 97 = .ok (.invokestatic 76, 3) := by decide +kernel
theorem dX2_findBestWay_100 : decode cX2_findBestWay 100 = .ok (.aload_n 0, 1) := by decide +kernel
theorem dX2_findBestWay_101 : decode cX2_findBestWay 101 = .ok (.iload 5, 2) := by decide +kernel
theorem dX2_findBestWay_103 : decode cX2_findBestWay 103 = .ok (.invokevirtual 82, 3) := by decide +kernel
theorem dX2_findBestWay_106 : decode cX2_findBestWay 106 = .ok (.ifCond .ne 6, 3) := by decide +kernel
theorem dX2_findBestWay_109 : decode cX2_findBestWay 109 = .ok (.iload 6, 2) := by decide +kernel
theorem dX2_findBestWay_111 : decode cX2_findBestWay 111 = .ok (.ireturn, 1) := by decide +kernel
theorem dX2_findBestWay_112 : decode cX2_findBestWay 112 = .ok (.iinc 7 1, 3) := by decide +kernel
theorem dX2_findBestWay_115 : decode cX2_findBestWay 115 = .ok (.goto (-83), 3) := by decide +kernel
theorem dX2_findBestWay_118 : decode cX2_findBestWay 118 = .ok (.iload 6, 2) := by decide +kernel
theorem dX2_findBestWay_120 : decode cX2_findBestWay 120 = .ok (.ireturn, 1) := by decide +kernel
theorem dX2_beginWays_0 : decode cX2_beginWays 0 = .ok (.iconst 0, 1) := by decide +kernel
theorem dX2_beginWays_1 : decode cX2_beginWays 1 = .ok (.istore_n 2, 1) := by decide +kernel
theorem dX2_beginWays_2 : decode cX2_beginWays 2 = .ok (.iload_n 2, 1) := by decide +kernel
theorem dX2_beginWays_3 : decode cX2_beginWays 3 = .ok (.aload_n 0, 1) := by decide +kernel
theorem dX2_beginWays_4 : decode cX2_beginWays 4 = .ok (.getfield 15, 3) := by decide +kernel
theorem dX2_beginWays_7 : decode cX2_beginWays 7 = .ok (.arraylength, 1) := by decide +kernel
theorem dX2_beginWays_8 : decode cX2_beginWays 8 = .ok (.if_icmp .ge 16, 3) := by decide +kernel
theorem dX2_beginWays_11 : decode cX2_beginWays 11 = .ok (.aload_n 0, 1) := by decide +kernel
theorem dX2_beginWays_12 : decode cX2_beginWays 12 = .ok (.getfield 15, 3) := by decide +kernel
theorem dX2_beginWays_15 : decode cX2_beginWays 15 = .ok (.iload_n 2, 1) := by decide +kernel
theorem dX2_beginWays_16 : decode cX2_beginWays 16 = .ok (.iconst 0, 1) := by decide +kernel
theorem dX2_beginWays_17 : decode cX2_beginWays 17 = .ok (.iastore, 1) := by decide +kernel
theorem dX2_beginWays_18 : decode cX2_beginWays 18 = .ok (.iinc 2 1, 3) := by decide +kernel
theorem dX2_beginWays_21 : decode cX2_beginWays 21 = .ok (.goto (-19), 3) := by decide +kernel
theorem dX2_beginWays_24 : decode cX2_beginWays 24 = .ok (.aload_n 0, 1) := by decide +kernel
theorem dX2_beginWays_25 : decode cX2_beginWays 25 = .ok (.getfield 15, 3) := by decide +kernel
theorem dX2_beginWays_28 : decode cX2_beginWays 28 = .ok (.iconst 0, 1) := by decide +kernel
theorem dX2_beginWays_29 : decode cX2_beginWays 29 = .ok (.iload_n 1, 1) := by decide +kernel
theorem dX2_beginWays_30 : decode cX2_beginWays 30 = .ok (.iastore, 1) := by decide +kernel
theorem dX2_beginWays_31 : decode cX2_beginWays 31 = .ok (.return_, 1) := by decide +kernel
theorem dX2_nextWay_0 : decode cX2_nextWay 0 = .ok (.iload_n 1, 1) := by decide +kernel
theorem dX2_nextWay_1 : decode cX2_nextWay 1 = .ok (.aload_n 0, 1) := by decide +kernel
theorem dX2_nextWay_2 : decode cX2_nextWay 2 = .ok (.getfield 15, 3) := by decide +kernel
theorem dX2_nextWay_5 : decode cX2_nextWay 5 = .ok (.arraylength, 1) := by decide +kernel
theorem dX2_nextWay_6 : decode cX2_nextWay 6 = .ok (.if_icmp .ge 9, 3) := by decide +kernel
theorem dX2_nextWay_9 : decode cX2_nextWay 9 = .ok (.iload_n 1, 1) := by decide +kernel
theorem dX2_nextWay_10 : decode cX2_nextWay 10 = .ok (.iconst 1, 1) := by decide +kernel
theorem dX2_nextWay_11 : decode cX2_nextWay 11 = .ok (.isub, 1) := by decide +kernel
theorem dX2_nextWay_12 : decode cX2_nextWay 12 = .ok (.goto 10, 3) := by decide +kernel
theorem dX2_nextWay_15 : decode cX2_nextWay 15 = .ok (.aload_n 0, 1) := by decide +kernel
theorem dX2_nextWay_16 : decode cX2_nextWay 16 = .ok (.getfield 15, 3) := by decide +kernel
theorem dX2_nextWay_19 : decode cX2_nextWay 19 = .ok (.arraylength, 1) := by decide +kernel
theorem dX2_nextWay_20 : decode cX2_nextWay 20 = .ok (.iconst 1, 1) := by decide +kernel
theorem dX2_nextWay_21 : decode cX2_nextWay 21 = .ok (.isub, 1) := by decide +kernel
theorem dX2_nextWay_22 : decode cX2_nextWay 22 = .ok (.istore_n 2, 1) := by decide +kernel
theorem dX2_nextWay_23 : decode cX2_nextWay 23 = .ok (.iload_n 2, 1) := by decide +kernel
theorem dX2_nextWay_24 : decode cX2_nextWay 24 = .ok (.iconst 1, 1) := by decide +kernel
theorem dX2_nextWay_25 : decode cX2_nextWay 25 = .ok (.isub, 1) := by decide +kernel
theorem dX2_nextWay_26 : decode cX2_nextWay 26 = .ok (.istore_n 3, 1) := by decide +kernel
theorem dX2_nextWay_27 : decode cX2_nextWay 27 = .ok (.iload_n 3, 1) := by decide +kernel
theorem dX2_nextWay_28 : decode cX2_nextWay 28 = .ok (.ifCond .lt 18, 3) := by decide +kernel
theorem dX2_nextWay_31 : decode cX2_nextWay 31 = .ok (.aload_n 0, 1) := by decide +kernel
theorem dX2_nextWay_32 : decode cX2_nextWay 32 = .ok (.getfield 15, 3) := by decide +kernel
theorem dX2_nextWay_35 : decode cX2_nextWay 35 = .ok (.iload_n 3, 1) := by decide +kernel
theorem dX2_nextWay_36 : decode cX2_nextWay 36 = .ok (.iaload, 1) := by decide +kernel
theorem dX2_nextWay_37 : decode cX2_nextWay 37 = .ok (.ifCond .ne 9, 3) := by decide +kernel
theorem dX2_nextWay_40 : decode cX2_nextWay 40 = .ok (.iinc 3 (-1), 3) := by decide +kernel
theorem dX2_nextWay_43 : decode cX2_nextWay 43 = .ok (.goto (-16), 3) := by decide +kernel
theorem dX2_nextWay_46 : decode cX2_nextWay 46 = .ok (.iload_n 3, 1) := by decide +kernel
theorem dX2_nextWay_47 : decode cX2_nextWay 47 = .ok (.ifCond .ge 5, 3) := by decide +kernel
theorem dX2_nextWay_50 : decode cX2_nextWay 50 = .ok (.iconst 0, 1) := by decide +kernel
theorem dX2_nextWay_51 : decode cX2_nextWay 51 = .ok (.ireturn, 1) := by decide +kernel
theorem dX2_nextWay_52 : decode cX2_nextWay 52 = .ok (.aload_n 0, 1) := by decide +kernel
theorem dX2_nextWay_53 : decode cX2_nextWay 53 = .ok (.getfield 15, 3) := by decide +kernel
theorem dX2_nextWay_56 : decode cX2_nextWay 56 = .ok (.iload_n 2, 1) := by decide +kernel
theorem dX2_nextWay_57 : decode cX2_nextWay 57 = .ok (.iaload, 1) := by decide +kernel
theorem dX2_nextWay_58 : decode cX2_nextWay 58 = .ok (.istore 4, 2) := by decide +kernel
theorem dX2_nextWay_60 : decode cX2_nextWay 60 = .ok (.aload_n 0, 1) := by decide +kernel
theorem dX2_nextWay_61 : decode cX2_nextWay 61 = .ok (.getfield 15, 3) := by decide +kernel
theorem dX2_nextWay_64 : decode cX2_nextWay 64 = .ok (.iload_n 2, 1) := by decide +kernel
theorem dX2_nextWay_65 : decode cX2_nextWay 65 = .ok (.iconst 0, 1) := by decide +kernel
theorem dX2_nextWay_66 : decode cX2_nextWay 66 = .ok (.iastore, 1) := by decide +kernel
theorem dX2_nextWay_67 : decode cX2_nextWay 67 = .ok (.aload_n 0, 1) := by decide +kernel
theorem dX2_nextWay_68 : decode cX2_nextWay 68 = .ok (.getfield 15, 3) := by decide +kernel
theorem dX2_nextWay_71 : decode cX2_nextWay 71 = .ok (.iload_n 3, 1) := by decide +kernel
theorem dX2_nextWay_72 : decode cX2_nextWay 72 = .ok (.dup2, 1) := by decide +kernel
theorem dX2_nextWay_73 : decode cX2_nextWay 73 = .ok (.iaload, 1) := by decide +kernel
theorem dX2_nextWay_74 : decode cX2_nextWay 74 = .ok (.iconst 1, 1) := by decide +kernel
theorem dX2_nextWay_75 : decode cX2_nextWay 75 = .ok (.isub, 1) := by decide +kernel
theorem dX2_nextWay_76 : decode cX2_nextWay 76 = .ok (.iastore, 1) := by decide +kernel
theorem dX2_nextWay_77 : decode cX2_nextWay 77 = .ok (.aload_n 0, 1) := by decide +kernel
theorem dX2_nextWay_78 : decode cX2_nextWay 78 = .ok (.getfield 15, 3) := by decide +kernel
theorem dX2_nextWay_81 : decode cX2_nextWay 81 = .ok (.iload_n 3, 1) := by decide +kernel
theorem dX2_nextWay_82 : decode cX2_nextWay 82 = .ok (.iconst 1, 1) := by decide +kernel
theorem dX2_nextWay_83 : decode cX2_nextWay 83 = .ok (.iadd, 1) := by decide +kernel
theorem dX2_nextWay_84 : decode cX2_nextWay 84 = .ok (.iload 4, 2) := by decide +kernel
theorem dX2_nextWay_86 : decode cX2_nextWay 86 = .ok (.iconst 1, 1) := by decide +kernel
theorem dX2_nextWay_87 : decode cX2_nextWay 87 = .ok (.iadd, 1) := by decide +kernel
theorem dX2_nextWay_88 : decode cX2_nextWay 88 = .ok (.iastore, 1) := by decide +kernel
theorem dX2_nextWay_89 : decode cX2_nextWay 89 = .ok (.iconst 1, 1) := by decide +kernel
theorem dX2_nextWay_90 : decode cX2_nextWay 90 = .ok (.ireturn, 1) := by decide +kernel
set_option maxRecDepth 20000 in
theorem ggX2_fewestHours_X6_takeOver : GoodIn wsX2_fewestHours wsX6_takeOver := goodIn_r _ [7, 8, 9, 10, 11, 12, 13, 14, 15, 16, 63, 64, 65, 66, 67, 68] (by decide +kernel) (by decide +kernel)
set_option maxRecDepth 20000 in
theorem gX2_fewestHours_X6_takeOver : GoodIn wsX2_fewestHours (wsV RX2 38 RX6 yX6_takeOver wsX6_takeOver) := goodIn_app (goodIn_of _ (by decide +kernel)) ggX2_fewestHours_X6_takeOver
set_option maxRecDepth 20000 in
theorem ggX2_fewestHours_X6_shareEvenly : GoodIn wsX2_fewestHours wsX6_shareEvenly := goodIn_r _ [20, 21, 16, 22, 23, 24, 25, 26, 27, 28, 29, 30, 31, 32, 33, 69, 70, 71, 72, 73, 74, 75, 76, 77, 63, 64, 65, 66, 67, 68] (by decide +kernel) (by decide +kernel)
set_option maxRecDepth 20000 in
theorem gX2_fewestHours_X6_shareEvenly : GoodIn wsX2_fewestHours (wsV RX2 86 RX6 yX6_shareEvenly wsX6_shareEvenly) := goodIn_app (goodIn_of _ (by decide +kernel)) ggX2_fewestHours_X6_shareEvenly
set_option maxRecDepth 20000 in
theorem ggX2_fewestHours_X2_standBehind : GoodIn wsX2_fewestHours wsX2_standBehind := goodIn_r _ [38, 39, 3, 4, 5, 6, 7, 8, 9, 10, 11, 12, 13, 14, 15, 16, 40, 41, 42, 43, 21, 44, 45, 33, 29, 30, 25, 31, 32, 46, 47, 48, 49, 50, 51, 52, 53, 54, 55, 56, 57, 58, 59, 60, 61, 62, 63, 64, 65, 66, 67, 68, 69, 70, 71, 72, 73, 74, 75, 76, 77] (by decide +kernel) (by decide +kernel)
set_option maxRecDepth 20000 in
theorem gX2_fewestHours_X2_standBehind : GoodIn wsX2_fewestHours (wsV RX2 72 RX2 yX2_standBehind wsX2_standBehind) := goodIn_app (goodIn_of _ (by decide +kernel)) ggX2_fewestHours_X2_standBehind
theorem dX2_fewestHours_0 : decode cX2_fewestHours 0 = .ok (.aload_n 0, 1) := by decide +kernel
theorem dX2_fewestHours_1 : decode cX2_fewestHours 1 = .ok (.getfield 24, 3) := by decide +kernel
theorem dX2_fewestHours_4 : decode cX2_fewestHours 4 = .ok (.aload_n 2, 1) := by decide +kernel
theorem dX2_fewestHours_5 : decode cX2_fewestHours 5 = .ok (.invokevirtual 38, 3) := by decide +kernel
theorem dX2_fewestHours_8 : decode cX2_fewestHours 8 = .ok (.iconst 0, 1) := by decide +kernel
theorem dX2_fewestHours_9 : decode cX2_fewestHours 9 = .ok (.istore 5, 2) := by decide +kernel
theorem dX2_fewestHours_11 : decode cX2_fewestHours 11 = .ok (.iload 5, 2) := by decide +kernel
theorem dX2_fewestHours_13 : decode cX2_fewestHours 13 = .ok (.bipush 12, 2) := by decide +kernel
theorem dX2_fewestHours_15 : decode cX2_fewestHours 15 = .ok (.if_icmp .gt 48, 3) := by decide +kernel
theorem dX2_fewestHours_18 : decode cX2_fewestHours 18 = .ok (.aload_n 0, 1) := by decide +kernel
theorem dX2_fewestHours_19 : decode cX2_fewestHours 19 = .ok (.getfield 24, 3) := by decide +kernel
theorem dX2_fewestHours_22 : decode cX2_fewestHours 22 = .ok (.aload_n 1, 1) := by decide +kernel
theorem dX2_fewestHours_23 : decode cX2_fewestHours 23 = .ok (.iload_n 3, 1) := by decide +kernel
theorem dX2_fewestHours_24 : decode cX2_fewestHours 24 = .ok (.iload 5, 2) := by decide +kernel
theorem dX2_fewestHours_26 : decode cX2_fewestHours 26 = .ok (.invokevirtual 86, 3) := by decide +kernel
theorem dX2_fewestHours_29 : decode cX2_fewestHours 29 = .ok (.aload_n 0, 1) := by decide +kernel
theorem dX2_fewestHours_30 : decode cX2_fewestHours 30 = .ok (.aload_n 1, 1) := by decide +kernel
theorem dX2_fewestHours_31 : decode cX2_fewestHours 31 = .ok (.aload_n 0, 1) := by decide +kernel
theorem dX2_fewestHours_32 : decode cX2_fewestHours 32 = .ok (.getfield 24, 3) := by decide +kernel
theorem dX2_fewestHours_35 : decode cX2_fewestHours 35 = .ok (.iload 4, 2) := by decide +kernel
theorem dX2_fewestHours_37 : decode cX2_fewestHours 37 = .ok (.invokevirtual 72, 3) := by decide +kernel
theorem dX2_fewestHours_40 : decode cX2_fewestHours 40 = .ok (.getfield 50, 3) := by decide +kernel
theorem dX2_fewestHours_43 : decode cX2_fewestHours 43 = .ok (.iload_n 3, 1) := by decide +kernel
theorem dX2_fewestHours_44 : decode cX2_fewestHours 44 = .ok (.iaload, 1) := by decide +kernel
theorem dX2_fewestHours_45 : decode cX2_fewestHours 45 = .ok (.aload_n 2, 1) := by decide +kernel
theorem dX2_fewestHours_46 : decode cX2_fewestHours 46 = .ok (.getfield 50, 3) := by decide +kernel
theorem dX2_fewestHours_49 : decode cX2_fewestHours 49 = .ok (.iload_n 3, 1) := by decide +kernel
theorem dX2_fewestHours_50 : decode cX2_fewestHours 50 = .ok (.iaload, 1) := by decide +kernel
theorem dX2_fewestHours_51 : decode cX2_fewestHours 51 = .ok (.if_icmp .lt 6, 3) := by decide +kernel
theorem dX2_fewestHours_54 : decode cX2_fewestHours 54 = .ok (.iload 5, 2) := by decide +kernel
theorem dX2_fewestHours_56 : decode cX2_fewestHours 56 = .ok (.ireturn, 1) := by decide +kernel
theorem dX2_fewestHours_57 : decode cX2_fewestHours 57 = .ok (.iinc 5 1, 3) := by decide +kernel
theorem dX2_fewestHours_60 : decode cX2_fewestHours 60 = .ok (.goto (-49), 3) := by decide +kernel
theorem dX2_fewestHours_63 : decode cX2_fewestHours 63 = .ok (.bipush (-4), 2) := by decide +kernel
theorem dX2_fewestHours_65 : decode cX2_fewestHours 65 = .ok (.ireturn, 1) := by decide +kernel
set_option maxRecDepth 20000 in
theorem ggX2_moreByWall_X2_standBehind : GoodIn wsX2_moreByWall wsX2_standBehind := goodIn_r _ [7, 8, 9, 10, 11, 12, 13, 14, 15, 16, 17, 18, 19, 20, 21, 22, 23, 24, 25, 26, 27, 28, 29, 30, 31, 32, 33, 34, 35, 36, 37, 38, 39, 40, 41, 42, 43, 44, 68, 69, 70, 71, 72, 73, 74, 75, 62, 63, 64, 65, 66, 67, 76, 77, 78, 79, 80, 81, 82, 83, 84] (by decide +kernel) (by decide +kernel)
set_option maxRecDepth 20000 in
theorem gX2_moreByWall_X2_standBehind : GoodIn wsX2_moreByWall (wsV RX2 72 RX2 yX2_standBehind wsX2_standBehind) := goodIn_app (goodIn_of _ (by decide +kernel)) ggX2_moreByWall_X2_standBehind
set_option maxRecDepth 20000 in
theorem ggX2_moreByWall_X1_takeOver : GoodIn wsX2_moreByWall wsX1_takeOver := goodIn_r _ [48, 49, 35, 50, 51, 52, 18, 19, 20, 53, 54, 55, 56, 57, 76, 77, 78, 79, 80, 81, 82, 83, 84] (by decide +kernel) (by decide +kernel)
set_option maxRecDepth 20000 in
theorem gX2_moreByWall_X1_takeOver : GoodIn wsX2_moreByWall (wsV RX2 90 RX1 yX1_takeOver wsX1_takeOver) := goodIn_app (goodIn_of _ (by decide +kernel)) ggX2_moreByWall_X1_takeOver
set_option maxRecDepth 20000 in
theorem ggX2_moreByWall_X1_putWall : GoodIn wsX2_moreByWall wsX1_putWall := goodIn_r _ [61, 35, 55, 76, 77, 78, 79, 80, 81, 82, 83, 84] (by decide +kernel) (by decide +kernel)
set_option maxRecDepth 20000 in
theorem gX2_moreByWall_X1_putWall : GoodIn wsX2_moreByWall (wsV RX2 93 RX1 yX1_putWall wsX1_putWall) := goodIn_app (goodIn_of _ (by decide +kernel)) ggX2_moreByWall_X1_putWall
theorem dX2_moreByWall_0 : decode cX2_moreByWall 0 = .ok (.aload_n 0, 1) := by decide +kernel
theorem dX2_moreByWall_1 : decode cX2_moreByWall 1 = .ok (.aload_n 1, 1) := by decide +kernel
theorem dX2_moreByWall_2 : decode cX2_moreByWall 2 = .ok (.aload_n 2, 1) := by decide +kernel
theorem dX2_moreByWall_3 : decode cX2_moreByWall 3 = .ok (.bipush 7, 2) := by decide +kernel
theorem dX2_moreByWall_5 : decode cX2_moreByWall 5 = .ok (.invokevirtual 72, 3) := by decide +kernel
theorem dX2_moreByWall_8 : decode cX2_moreByWall 8 = .ok (.getfield 50, 3) := by decide +kernel
theorem dX2_moreByWall_11 : decode cX2_moreByWall 11 = .ok (.iload_n 3, 1) := by decide +kernel
theorem dX2_moreByWall_12 : decode cX2_moreByWall 12 = .ok (.iaload, 1) := by decide +kernel
theorem dX2_moreByWall_13 : decode cX2_moreByWall 13 = .ok (.istore 5, 2) := by decide +kernel
theorem dX2_moreByWall_15 : decode cX2_moreByWall 15 = .ok (.aload_n 0, 1) := by decide +kernel
theorem dX2_moreByWall_16 : decode cX2_moreByWall 16 = .ok (.getfield 34, 3) := by decide +kernel
theorem dX2_moreByWall_19 : decode cX2_moreByWall 19 = .ok (.aload_n 1, 1) := by decide +kernel
theorem dX2_moreByWall_20 : decode cX2_moreByWall 20 = .ok (.invokevirtual 90, 3) := by decide +kernel
theorem dX2_moreByWall_23 : decode cX2_moreByWall 23 = .ok (.aload_n 0, 1) := by decide +kernel
theorem dX2_moreByWall_24 : decode cX2_moreByWall 24 = .ok (.getfield 34, 3) := by decide +kernel
theorem dX2_moreByWall_27 : decode cX2_moreByWall 27 = .ok (.iload_n 3, 1) := by decide +kernel
theorem dX2_moreByWall_28 : decode cX2_moreByWall 28 = .ok (.iload 4, 2) := by decide +kernel
theorem dX2_moreByWall_30 : decode cX2_moreByWall 30 = .ok (.invokevirtual 93, 3) := by decide +kernel
theorem dX2_moreByWall_33 : decode cX2_moreByWall 33 = .ok (.aload_n 0, 1) := by decide +kernel
theorem dX2_moreByWall_34 : decode cX2_moreByWall 34 = .ok (.aload_n 0, 1) := by decide +kernel
theorem dX2_moreByWall_35 : decode cX2_moreByWall 35 = .ok (.getfield 34, 3) := by decide +kernel
theorem dX2_moreByWall_38 : decode cX2_moreByWall 38 = .ok (.aload_n 2, 1) := by decide +kernel
theorem dX2_moreByWall_39 : decode cX2_moreByWall 39 = .ok (.bipush 7, 2) := by decide +kernel
theorem dX2_moreByWall_41 : decode cX2_moreByWall 41 = .ok (.invokevirtual 72, 3) := by decide +kernel
theorem dX2_moreByWall_44 : decode cX2_moreByWall 44 = .ok (.getfield 50, 3) := by decide +kernel
theorem dX2_moreByWall_47 : decode cX2_moreByWall 47 = .ok (.iload_n 3, 1) := by decide +kernel
theorem dX2_moreByWall_48 : decode cX2_moreByWall 48 = .ok (.iaload, 1) := by decide +kernel
theorem dX2_moreByWall_49 : decode cX2_moreByWall 49 = .ok (.iload 5, 2) := by decide +kernel
theorem dX2_moreByWall_51 : decode cX2_moreByWall 51 = .ok (.isub, 1) := by decide +kernel
theorem dX2_moreByWall_52 : decode cX2_moreByWall 52 = .ok (.ireturn, 1) := by decide +kernel
set_option maxRecDepth 20000 in
theorem ggX2_settledHours_X6_takeOver : GoodIn wsX2_settledHours wsX6_takeOver := goodIn_r _ [12, 13, 14, 15, 16, 5, 6, 7, 17, 18, 84, 85, 86, 87, 88, 89] (by decide +kernel) (by decide +kernel)
set_option maxRecDepth 20000 in
theorem gX2_settledHours_X6_takeOver : GoodIn wsX2_settledHours (wsV RX2 38 RX6 yX6_takeOver wsX6_takeOver) := goodIn_app (goodIn_of _ (by decide +kernel)) ggX2_settledHours_X6_takeOver
set_option maxRecDepth 20000 in
theorem ggX2_settledHours_X2_someoneChanges : GoodIn wsX2_settledHours wsX2_someoneChanges := goodIn_r _ [23, 24, 1, 3, 25, 26, 27, 22, 28, 29, 30, 31, 32, 11, 33, 34, 18, 35, 36, 37, 38, 39, 40, 41, 42, 43, 44, 45, 46, 47, 48, 49, 50, 51, 8, 9, 10, 12, 13, 14, 15, 16, 5, 6, 7, 17, 52, 53, 54, 55, 56, 57, 58, 59, 60, 61, 62, 63, 64, 65, 66, 75, 76, 77, 78, 79, 80, 81, 82, 83, 67, 68, 69, 70, 71, 72, 73, 74, 84, 85, 86, 87, 88, 89] (by decide +kernel) (by decide +kernel)
set_option maxRecDepth 20000 in
theorem gX2_settledHours_X2_someoneChanges : GoodIn wsX2_settledHours (wsV RX2 97 RX2 yX2_someoneChanges wsX2_someoneChanges) := goodIn_app (goodIn_of _ (by decide +kernel)) ggX2_settledHours_X2_someoneChanges
theorem dX2_settledHours_0 : decode cX2_settledHours 0 = .ok (.aload_n 0, 1) := by decide +kernel
theorem dX2_settledHours_1 : decode cX2_settledHours 1 = .ok (.getfield 24, 3) := by decide +kernel
theorem dX2_settledHours_4 : decode cX2_settledHours 4 = .ok (.aload_n 2, 1) := by decide +kernel
theorem dX2_settledHours_5 : decode cX2_settledHours 5 = .ok (.invokevirtual 38, 3) := by decide +kernel
theorem dX2_settledHours_8 : decode cX2_settledHours 8 = .ok (.aload_n 1, 1) := by decide +kernel
theorem dX2_settledHours_9 : decode cX2_settledHours 9 = .ok (.getfield 63, 3) := by decide +kernel
theorem dX2_settledHours_12 : decode cX2_settledHours 12 = .ok (.iconst 0, 1) := by decide +kernel
theorem dX2_settledHours_13 : decode cX2_settledHours 13 = .ok (.aload_n 0, 1) := by decide +kernel
theorem dX2_settledHours_14 : decode cX2_settledHours 14 = .ok (.getfield 18, 3) := by decide +kernel
theorem dX2_settledHours_17 : decode cX2_settledHours 17 = .ok (.iconst 0, 1) := by decide +kernel
theorem dX2_settledHours_18 : decode cX2_settledHours 18 = .ok (.aload_n 0, 1) := by decide +kernel
theorem dX2_settledHours_19 : decode cX2_settledHours 19 = .ok (.getfield 18, 3) := by decide +kernel
theorem dX2_settledHours_22 : decode cX2_settledHours 22 = .ok (.arraylength, 1) := by decide +kernel
theorem dX2_settledHours_23 : decode cX2_settledHours 23 = .ok (.invokestatic 76, 3) := by decide +kernel
theorem dX2_settledHours_26 : decode cX2_settledHours 26 = .ok (.iconst 0, 1) := by decide +kernel
theorem dX2_settledHours_27 : decode cX2_settledHours 27 = .ok (.istore 4, 2) := by decide +kernel
theorem dX2_settledHours_29 : decode cX2_settledHours 29 = .ok (.iload 4, 2) := by decide +kernel
theorem dX2_settledHours_31 : decode cX2_settledHours 31 = .ok (.bipush 20, 2) := by decide +kernel
theorem dX2_settledHours_33 : decode cX2_settledHours 33 = .ok (.if_icmp .ge 24, 3) := by decide +kernel
theorem dX2_settledHours_36 : decode cX2_settledHours 36 = .ok (.aload_n 0, 1) := by decide +kernel
theorem dX2_settledHours_37 : decode cX2_settledHours 37 = .ok (.aload_n 1, 1) := by decide +kernel
theorem dX2_settledHours_38 : decode cX2_settledHours 38 = .ok (.invokevirtual 97, 3) := by decide +kernel
theorem dX2_settledHours_41 : decode cX2_settledHours 41 = .ok (.ifCond .ne 10, 3) := by decide +kernel
theorem dX2_settledHours_44 : decode cX2_settledHours 44 = .ok (.aload_n 0, 1) := by decide +kernel
theorem dX2_settledHours_45 : decode cX2_settledHours 45 = .ok (.getfield 18, 3) := by decide +kernel
theorem dX2_settledHours_48 : decode cX2_settledHours 48 = .ok (.iload_n 3, 1) := by decide +kernel
theorem dX2_settledHours_49 : decode cX2_settledHours 49 = .ok (.iaload, 1) := by decide +kernel
theorem dX2_settledHours_50 : decode cX2_settledHours 50 = .ok (.ireturn, 1) := by decide +kernel
theorem dX2_settledHours_51 : decode cX2_settledHours 51 = .ok (.iinc 4 1, 3) := by decide +kernel
theorem dX2_settledHours_54 : decode cX2_settledHours 54 = .ok (.goto (-25), 3) := by decide +kernel
theorem dX2_settledHours_57 : decode cX2_settledHours 57 = .ok (.bipush (-4), 2) := by decide +kernel
theorem dX2_settledHours_59 : decode cX2_settledHours 59 = .ok (.ireturn, 1) := by decide +kernel
set_option maxRecDepth 20000 in
theorem ggX2_someoneChanges_X2_payingHours : GoodIn wsX2_someoneChanges wsX2_payingHours := goodIn_r _ [8, 2, 9, 10, 11, 12, 13, 14, 15, 16, 17, 18, 19, 20, 21, 22, 23, 24, 25, 26, 27, 28, 29, 30, 31, 7, 32, 33, 34, 35, 36, 37, 38, 39, 40, 41, 42, 43, 44, 45, 46, 47, 48, 49, 50, 51, 52, 53, 54, 55, 56, 57, 58, 59, 60, 70, 71, 72, 73, 74, 75, 76, 77, 78, 79, 80, 81, 82, 83, 61, 62, 63, 64, 65, 66, 67, 68, 69] (by decide +kernel) (by decide +kernel)
set_option maxRecDepth 20000 in
theorem gX2_someoneChanges_X2_payingHours : GoodIn wsX2_someoneChanges (wsV RX2 101 RX2 yX2_payingHours wsX2_payingHours) := goodIn_app (goodIn_of _ (by decide +kernel)) ggX2_someoneChanges_X2_payingHours
set_option maxRecDepth 20000 in
theorem ggX2_someoneChanges_X6_shareEvenly : GoodIn wsX2_someoneChanges wsX6_shareEvenly := goodIn_r _ [14, 15, 16, 17, 18, 19, 20, 21, 22, 23, 24, 25, 26, 27, 28, 61, 62, 63, 64, 65, 66, 67, 68, 69, 78, 79, 80, 81, 82, 83] (by decide +kernel) (by decide +kernel)
set_option maxRecDepth 20000 in
theorem gX2_someoneChanges_X6_shareEvenly : GoodIn wsX2_someoneChanges (wsV RX2 86 RX6 yX6_shareEvenly wsX6_shareEvenly) := goodIn_app (goodIn_of _ (by decide +kernel)) ggX2_someoneChanges_X6_shareEvenly
theorem dX2_someoneChanges_0 : decode cX2_someoneChanges 0 = .ok (.iconst 0, 1) := by decide +kernel
theorem dX2_someoneChanges_1 : decode cX2_someoneChanges 1 = .ok (.istore_n 2, 1) := by decide +kernel
theorem dX2_someoneChanges_2 : decode cX2_someoneChanges 2 = .ok (.iconst 0, 1) := by decide +kernel
theorem dX2_someoneChanges_3 : decode cX2_someoneChanges 3 = .ok (.istore_n 3, 1) := by decide +kernel
theorem dX2_someoneChanges_4 : decode cX2_someoneChanges 4 = .ok (.iload_n 3, 1) := by decide +kernel
theorem dX2_someoneChanges_5 : decode cX2_someoneChanges 5 = .ok (.aload_n 1, 1) := by decide +kernel
theorem dX2_someoneChanges_6 : decode cX2_someoneChanges 6 = .ok (.getfield 46, 3) := by decide +kernel
theorem dX2_someoneChanges_9 : decode cX2_someoneChanges 9 = .ok (.if_icmp .ge 55, 3) := by decide +kernel
theorem dX2_someoneChanges_12 : decode cX2_someoneChanges 12 = .ok (.aload_n 0, 1) := by decide +kernel
theorem dX2_someoneChanges_13 : decode cX2_someoneChanges 13 = .ok (.aload_n 1, 1) := by decide +kernel
theorem dX2_someoneChanges_14 : decode cX2_someoneChanges 14 = .ok (.iload_n 3, 1) := by decide +kernel
theorem dX2_someoneChanges_15 : decode cX2_someoneChanges 15 = .ok (.invokevirtual 101, 3) := by decide +kernel
theorem dX2_someoneChanges_18 : decode cX2_someoneChanges 18 = .ok (.istore 4, 2) := by decide +kernel
theorem dX2_someoneChanges_20 : decode cX2_someoneChanges 20 = .ok (.aload_n 0, 1) := by decide +kernel
theorem dX2_someoneChanges_21 : decode cX2_someoneChanges 21 = .ok (.getfield 24, 3) := by decide +kernel
theorem dX2_someoneChanges_24 : decode cX2_someoneChanges 24 = .ok (.aload_n 1, 1) := by decide +kernel
theorem dX2_someoneChanges_25 : decode cX2_someoneChanges 25 = .ok (.iload_n 3, 1) := by decide +kernel
theorem dX2_someoneChanges_26 : decode cX2_someoneChanges 26 = .ok (.iload 4, 2) := by decide +kernel
theorem dX2_someoneChanges_28 : decode cX2_someoneChanges 28 = .ok (.invokevirtual 86, 3) := by decide +kernel
theorem dX2_someoneChanges_31 : decode cX2_someoneChanges 31 = .ok (.iload_n 2, 1) := by decide +kernel
theorem dX2_someoneChanges_32 : decode cX2_someoneChanges 32 = .ok (.iload 4, 2) := by decide +kernel
theorem dX2_someoneChanges_34 : decode cX2_someoneChanges 34 = .ok (.aload_n 0, 1) := by decide +kernel
theorem dX2_someoneChanges_35 : decode cX2_someoneChanges 35 = .ok (.getfield 18, 3) := by decide +kernel
theorem dX2_someoneChanges_38 : decode cX2_someoneChanges 38 = .ok (.iload_n 3, 1) := by decide +kernel
theorem dX2_someoneChanges_39 : decode cX2_someoneChanges 39 = .ok (.iaload, 1) := by decide +kernel
theorem dX2_someoneChanges_40 : decode cX2_someoneChanges 40 = .ok (.if_icmp .eq 7, 3) := by decide +kernel
theorem dX2_someoneChanges_43 : decode cX2_someoneChanges 43 = .ok (.iconst 1, 1) := by decide +kernel
theorem dX2_someoneChanges_44 : decode cX2_someoneChanges 44 = .ok (.goto 4, 3) := by decide +kernel
theorem dX2_someoneChanges_47 : decode cX2_someoneChanges 47 = .ok (.iconst 0, 1) := by decide +kernel
theorem dX2_someoneChanges_48 : decode cX2_someoneChanges 48 = .ok (.ior, 1) := by decide +kernel
theorem dX2_someoneChanges_49 : decode cX2_someoneChanges 49 = .ok (.istore_n 2, 1) := by decide +kernel
theorem dX2_someoneChanges_50 : decode cX2_someoneChanges 50 = .ok (.aload_n 0, 1) := by decide +kernel
theorem dX2_someoneChanges_51 : decode cX2_someoneChanges 51 = .ok (.getfield 18, 3) := by decide +kernel
theorem dX2_someoneChanges_54 : decode cX2_someoneChanges 54 = .ok (.iload_n 3, 1) := by decide +kernel
theorem dX2_someoneChanges_55 : decode cX2_someoneChanges 55 = .ok (.iload 4, 2) := by decide +kernel
theorem dX2_someoneChanges_57 : decode cX2_someoneChanges 57 = .ok (.iastore, 1) := by decide +kernel
theorem dX2_someoneChanges_58 : decode cX2_someoneChanges 58 = .ok (.iinc 3 1, 3) := by decide +kernel
theorem dX2_someoneChanges_61 : decode cX2_someoneChanges 61 = .ok (.goto (-57), 3) := by decide +kernel
theorem dX2_someoneChanges_64 : decode cX2_someoneChanges 64 = .ok (.iload_n 2, 1) := by decide +kernel
theorem dX2_someoneChanges_65 : decode cX2_someoneChanges 65 = .ok (.ireturn, 1) := by decide +kernel
set_option maxRecDepth 20000 in
theorem ggX2_payingHours_X6_shareEvenly : GoodIn wsX2_payingHours wsX6_shareEvenly := goodIn_r _ [7, 8, 9, 10, 11, 12, 13, 14, 15, 16, 17, 18, 19, 20, 21, 69, 70, 71, 72, 73, 74, 75, 76, 77, 63, 64, 65, 66, 67, 68] (by decide +kernel) (by decide +kernel)
set_option maxRecDepth 20000 in
theorem gX2_payingHours_X6_shareEvenly : GoodIn wsX2_payingHours (wsV RX2 86 RX6 yX6_shareEvenly wsX6_shareEvenly) := goodIn_app (goodIn_of _ (by decide +kernel)) ggX2_payingHours_X6_shareEvenly
set_option maxRecDepth 20000 in
theorem ggX2_payingHours_X2_standBehind : GoodIn wsX2_payingHours wsX2_standBehind := goodIn_r _ [26, 27, 28, 29, 30, 6, 31, 32, 33, 34, 35, 36, 37, 38, 39, 9, 40, 41, 42, 43, 8, 44, 45, 21, 17, 18, 13, 19, 20, 46, 47, 48, 49, 50, 51, 52, 53, 54, 55, 56, 57, 58, 59, 60, 61, 62, 63, 64, 65, 66, 67, 68, 69, 70, 71, 72, 73, 74, 75, 76, 77] (by decide +kernel) (by decide +kernel)
set_option maxRecDepth 20000 in
theorem gX2_payingHours_X2_standBehind : GoodIn wsX2_payingHours (wsV RX2 72 RX2 yX2_standBehind wsX2_standBehind) := goodIn_app (goodIn_of _ (by decide +kernel)) ggX2_payingHours_X2_standBehind
theorem dX2_payingHours_0 : decode cX2_payingHours 0 = .ok (.iconst 0, 1) := by decide +kernel
theorem dX2_payingHours_1 : decode cX2_payingHours 1 = .ok (.istore_n 3, 1) := by decide +kernel
theorem dX2_payingHours_2 : decode cX2_payingHours 2 = .ok (.iconst 0, 1) := by decide +kernel
theorem dX2_payingHours_3 : decode cX2_payingHours 3 = .ok (.istore 4, 2) := by decide +kernel
theorem dX2_payingHours_5 : decode cX2_payingHours 5 = .ok (.iconst 0, 1) := by decide +kernel
theorem dX2_payingHours_6 : decode cX2_payingHours 6 = .ok (.istore 5, 2) := by decide +kernel
theorem dX2_payingHours_8 : decode cX2_payingHours 8 = .ok (.iload 5, 2) := by decide +kernel
theorem dX2_payingHours_10 : decode cX2_payingHours 10 = .ok (.bipush 12, 2) := by decide +kernel
theorem dX2_payingHours_12 : decode cX2_payingHours 12 = .ok (.if_icmp .gt 60, 3) := by decide +kernel
theorem dX2_payingHours_15 : decode cX2_payingHours 15 = .ok (.aload_n 0, 1) := by decide +kernel
theorem dX2_payingHours_16 : decode cX2_payingHours 16 = .ok (.getfield 24, 3) := by decide +kernel
theorem dX2_payingHours_19 : decode cX2_payingHours 19 = .ok (.aload_n 1, 1) := by decide +kernel
theorem dX2_payingHours_20 : decode cX2_payingHours 20 = .ok (.iload_n 2, 1) := by decide +kernel
theorem dX2_payingHours_21 : decode cX2_payingHours 21 = .ok (.iload 5, 2) := by decide +kernel
theorem dX2_payingHours_23 : decode cX2_payingHours 23 = .ok (.invokevirtual 86, 3) := by decide +kernel
theorem dX2_payingHours_26 : decode cX2_payingHours 26 = .ok (.aload_n 0, 1) := by decide +kernel
theorem dX2_payingHours_27 : decode cX2_payingHours 27 = .ok (.aload_n 1, 1) := by decide +kernel
theorem dX2_payingHours_28 : decode cX2_payingHours 28 = .ok (.aload_n 0, 1) := by decide +kernel
theorem dX2_payingHours_29 : decode cX2_payingHours 29 = .ok (.getfield 24, 3) := by decide +kernel
theorem dX2_payingHours_32 : decode cX2_payingHours 32 = .ok (.bipush 7, 2) := by decide +kernel
theorem dX2_payingHours_34 : decode cX2_payingHours 34 = .ok (.invokevirtual 72, 3) := by decide +kernel
theorem dX2_payingHours_37 : decode cX2_payingHours 37 = .ok (.getfield 50, 3) := by decide +kernel
theorem dX2_payingHours_40 : decode cX2_payingHours 40 = .ok (.iload_n 2, 1) := by decide +kernel
theorem dX2_payingHours_41 : decode cX2_payingHours 41 = .ok (.iaload, 1) := by decide +kernel
theorem dX2_payingHours_42 : decode cX2_payingHours 42 = .ok (.iload 5, 2) := by decide +kernel
theorem dX2_payingHours_44 : decode cX2_payingHours 44 = .ok (.isub, 1) := by decide +kernel
theorem dX2_payingHours_45 : decode cX2_payingHours 45 = .ok (.istore 6, 2) := by decide +kernel
theorem dX2_payingHours_47 : decode cX2_payingHours 47 = .ok (.iload 5, 2) := by decide +kernel
theorem dX2_payingHours_49 : decode cX2_payingHours 49 = .ok (.ifCond .eq 10, 3) := by decide +kernel
theorem dX2_payingHours_52 : decode cX2_payingHours 52 = .ok (.iload 6, 2) := by decide +kernel
theorem dX2_payingHours_54 : decode cX2_payingHours 54 = .ok (.iload 4, 2) := by decide +kernel
theorem dX2_payingHours_56 : decode cX2_payingHours 56 = .ok (.if_icmp .le 10, 3) := by decide +kernel
theorem dX2_payingHours_59 : decode cX2_payingHours 59 = .ok (.iload 5, 2) := by decide +kernel
theorem dX2_payingHours_61 : decode cX2_payingHours 61 = .ok (.istore_n 3, 1) := by decide +kernel
theorem dX2_payingHours_62 : decode cX2_payingHours 62 = .ok (.iload 6, 2) := by decide +kernel
theorem dX2_payingHours_64 : decode cX2_payingHours 64 = .ok (.istore 4, 2) := by decide +kernel
theorem dX2_payingHours_66 : decode cX2_payingHours 66 = .ok (.iinc 5 1, 3) := by decide +kernel
theorem dX2_payingHours_69 : decode cX2_payingHours 69 = .ok (.goto (-61), 3) := by decide +kernel
theorem dX2_payingHours_72 : decode cX2_payingHours 72 = .ok (.iload_n 3, 1) := by decide +kernel
theorem dX2_payingHours_73 : decode cX2_payingHours 73 = .ok (.ireturn, 1) := by decide +kernel
set_option maxRecDepth 20000 in
theorem ggX3_init_X6_init : GoodIn wsX3_init wsX6_init := goodIn_r _ [9, 10, 2, 3, 11, 12, 13, 14, 15, 18, 19, 20, 21, 22, 23] (by decide +kernel) (by decide +kernel)
set_option maxRecDepth 20000 in
theorem gX3_init_X6_init_n15 : GoodIn wsX3_init (wsX6_init) := ggX3_init_X6_init
theorem dX3_init_0 : decode cX3_init 0 = .ok (.aload_n 0, 1) := by decide +kernel
theorem dX3_init_1 : decode cX3_init 1 = .ok (.invokespecial 1, 3) := by decide +kernel
theorem dX3_init_4 : decode cX3_init 4 = .ok (.aload_n 0, 1) := by decide +kernel
theorem dX3_init_5 : decode cX3_init 5 = .ok (.iload_n 1, 1) := by decide +kernel
theorem dX3_init_6 : decode cX3_init 6 = .ok (.iconst 1, 1) := by decide +kernel
theorem dX3_init_7 : decode cX3_init 7 = .ok (.if_icmp .ge 7, 3) := by decide +kernel
theorem dX3_init_10 : decode cX3_init 10 = .ok (.iconst 1, 1) := by decide +kernel
theorem dX3_init_11 : decode cX3_init 11 = .ok (.goto 4, 3) := by decide +kernel
theorem dX3_init_14 : decode cX3_init 14 = .ok (.iload_n 1, 1) := by decide +kernel
theorem dX3_init_15 : decode cX3_init 15 = .ok (.anewarray 7, 3) := by decide +kernel
theorem dX3_init_18 : decode cX3_init 18 = .ok (.putfield 9, 3) := by decide +kernel
theorem dX3_init_21 : decode cX3_init 21 = .ok (.iconst 0, 1) := by decide +kernel
theorem dX3_init_22 : decode cX3_init 22 = .ok (.istore_n 2, 1) := by decide +kernel
theorem dX3_init_23 : decode cX3_init 23 = .ok (.iload_n 2, 1) := by decide +kernel
theorem dX3_init_24 : decode cX3_init 24 = .ok (.aload_n 0, 1) := by decide +kernel
theorem dX3_init_25 : decode cX3_init 25 = .ok (.getfield 9, 3) := by decide +kernel
theorem dX3_init_28 : decode cX3_init 28 = .ok (.arraylength, 1) := by decide +kernel
theorem dX3_init_29 : decode cX3_init 29 = .ok (.if_icmp .ge 22, 3) := by decide +kernel
theorem dX3_init_32 : decode cX3_init 32 = .ok (.aload_n 0, 1) := by decide +kernel
theorem dX3_init_33 : decode cX3_init 33 = .ok (.getfield 9, 3) := by decide +kernel
theorem dX3_init_36 : decode cX3_init 36 = .ok (.iload_n 2, 1) := by decide +kernel
theorem dX3_init_37 : decode cX3_init 37 = .ok (.new 7, 3) := by decide +kernel
theorem dX3_init_40 : decode cX3_init 40 = .ok (.dup, 1) := by decide +kernel
theorem dX3_init_41 : decode cX3_init 41 = .ok (.invokespecial 15, 3) := by decide +kernel
theorem dX3_init_44 : decode cX3_init 44 = .ok (.aastore, 1) := by decide +kernel
theorem dX3_init_45 : decode cX3_init 45 = .ok (.iinc 2 1, 3) := by decide +kernel
theorem dX3_init_48 : decode cX3_init 48 = .ok (.goto (-25), 3) := by decide +kernel
theorem dX3_init_51 : decode cX3_init 51 = .ok (.return_, 1) := by decide +kernel
theorem dX3_isFull_0 : decode cX3_isFull 0 = .ok (.aload_n 0, 1) := by decide +kernel
theorem dX3_isFull_1 : decode cX3_isFull 1 = .ok (.getfield 16, 3) := by decide +kernel
theorem dX3_isFull_4 : decode cX3_isFull 4 = .ok (.aload_n 0, 1) := by decide +kernel
theorem dX3_isFull_5 : decode cX3_isFull 5 = .ok (.getfield 9, 3) := by decide +kernel
theorem dX3_isFull_8 : decode cX3_isFull 8 = .ok (.arraylength, 1) := by decide +kernel
theorem dX3_isFull_9 : decode cX3_isFull 9 = .ok (.if_icmp .lt 7, 3) := by decide +kernel
theorem dX3_isFull_12 : decode cX3_isFull 12 = .ok (.iconst 1, 1) := by decide +kernel
theorem dX3_isFull_13 : decode cX3_isFull 13 = .ok (.goto 4, 3) := by decide +kernel
theorem dX3_isFull_16 : decode cX3_isFull 16 = .ok (.iconst 0, 1) := by decide +kernel
theorem dX3_isFull_17 : decode cX3_isFull 17 = .ok (.ireturn, 1) := by decide +kernel
set_option maxRecDepth 20000 in
theorem ggX3_put_X3_isFull : GoodIn wsX3_put wsX3_isFull := goodIn_r _ [7, 2, 1, 26, 27] (by decide +kernel) (by decide +kernel)
set_option maxRecDepth 20000 in
theorem gX3_put_X3_isFull : GoodIn wsX3_put (wsV RX3 20 RX3 yX3_isFull wsX3_isFull) := goodIn_app (goodIn_of _ (by decide +kernel)) ggX3_put_X3_isFull
set_option maxRecDepth 20000 in
theorem ggX3_put_X3_dropOldest : GoodIn wsX3_put wsX3_dropOldest := goodIn_r _ [11, 1, 2, 26, 27] (by decide +kernel) (by decide +kernel)
set_option maxRecDepth 20000 in
theorem gX3_put_X3_dropOldest : GoodIn wsX3_put (wsV RX3 24 RX3 yX3_dropOldest wsX3_dropOldest) := goodIn_app (goodIn_of _ (by decide +kernel)) ggX3_put_X3_dropOldest
set_option maxRecDepth 20000 in
theorem ggX3_put_X6_takeOver : GoodIn wsX3_put wsX6_takeOver := goodIn_r _ [16, 17, 18, 19, 20, 21, 22, 23, 24, 25, 28, 29, 30, 31, 32, 33] (by decide +kernel) (by decide +kernel)
set_option maxRecDepth 20000 in
theorem gX3_put_X6_takeOver : GoodIn wsX3_put (wsV RX3 27 RX6 yX6_takeOver wsX6_takeOver) := goodIn_app (goodIn_of _ (by decide +kernel)) ggX3_put_X6_takeOver
theorem dX3_put_0 : decode cX3_put 0 = .ok (.aload_n 0, 1) := by decide +kernel
theorem dX3_put_1 : decode cX3_put 1 = .ok (.invokevirtual 20, 3) := by decide +kernel
theorem dX3_put_4 : decode cX3_put 4 = .ok (.ifCond .eq 7, 3) := by decide +kernel
theorem dX3_put_7 : decode cX3_put 7 = .ok (.aload_n 0, 1) := by decide +kernel
theorem dX3_put_8 : decode cX3_put 8 = .ok (.invokevirtual 24, 3) := by decide +kernel
theorem dX3_put_11 : decode cX3_put 11 = .ok (.aload_n 0, 1) := by decide +kernel
theorem dX3_put_12 : decode cX3_put 12 = .ok (.getfield 9, 3) := by decide +kernel
theorem dX3_put_15 : decode cX3_put 15 = .ok (.aload_n 0, 1) := by decide +kernel
theorem dX3_put_16 : decode cX3_put 16 = .ok (.getfield 16, 3) := by decide +kernel
theorem dX3_put_19 : decode cX3_put 19 = .ok (.aaload, 1) := by decide +kernel
theorem dX3_put_20 : decode cX3_put 20 = .ok (.aload_n 1, 1) := by decide +kernel
theorem dX3_put_21 : decode cX3_put 21 = .ok (.invokevirtual 27, 3) := by decide +kernel
theorem dX3_put_24 : decode cX3_put 24 = .ok (.aload_n 0, 1) := by decide +kernel
theorem dX3_put_25 : decode cX3_put 25 = .ok (.dup, 1) := by decide +kernel
theorem dX3_put_26 : decode cX3_put 26 = .ok (.getfield 16, 3) := by decide +kernel
theorem dX3_put_29 : decode cX3_put 29 = .ok (.iconst 1, 1) := by decide +kernel
theorem dX3_put_30 : decode cX3_put 30 = .ok (.iadd, 1) := by decide +kernel
theorem dX3_put_31 : decode cX3_put 31 = .ok (.putfield 16, 3) := by decide +kernel
theorem dX3_put_34 : decode cX3_put 34 = .ok (.return_, 1) := by decide +kernel
theorem dX3_dropOldest_0 : decode cX3_dropOldest 0 = .ok (.aload_n 0, 1) := by decide +kernel
theorem dX3_dropOldest_1 : decode cX3_dropOldest 1 = .ok (.getfield 9, 3) := by decide +kernel
theorem dX3_dropOldest_4 : decode cX3_dropOldest 4 = .ok (.iconst 0, 1) := by decide +kernel
theorem dX3_dropOldest_5 : decode cX3_dropOldest 5 = .ok (.aaload, 1) := by decide +kernel
theorem dX3_dropOldest_6 : decode cX3_dropOldest 6 = .ok (.astore_n 1, 1) := by decide +kernel
theorem dX3_dropOldest_7 : decode cX3_dropOldest 7 = .ok (.iconst 1, 1) := by decide +kernel
theorem dX3_dropOldest_8 : decode cX3_dropOldest 8 = .ok (.istore_n 2, 1) := by decide +kernel
theorem dX3_dropOldest_9 : decode cX3_dropOldest 9 = .ok (.iload_n 2, 1) := by decide +kernel
theorem dX3_dropOldest_10 : decode cX3_dropOldest 10 = .ok (.aload_n 0, 1) := by decide +kernel
theorem dX3_dropOldest_11 : decode cX3_dropOldest 11 = .ok (.getfield 9, 3) := by decide +kernel
theorem dX3_dropOldest_14 : decode cX3_dropOldest 14 = .ok (.arraylength, 1) := by decide +kernel
theorem dX3_dropOldest_15 : decode cX3_dropOldest 15 = .ok (.if_icmp .ge 23, 3) := by decide +kernel
theorem dX3_dropOldest_18 : decode cX3_dropOldest 18 = .ok (.aload_n 0, 1) := by decide +kernel
theorem dX3_dropOldest_19 : decode cX3_dropOldest 19 = .ok (.getfield 9, 3) := by decide +kernel
theorem dX3_dropOldest_22 : decode cX3_dropOldest 22 = .ok (.iload_n 2, 1) := by decide +kernel
theorem dX3_dropOldest_23 : decode cX3_dropOldest 23 = .ok (.iconst 1, 1) := by decide +kernel
theorem dX3_dropOldest_24 : decode cX3_dropOldest 24 = .ok (.isub, 1) := by decide +kernel
theorem dX3_dropOldest_25 : decode cX3_dropOldest 25 = .ok (.aload_n 0, 1) := by decide +kernel
theorem dX3_dropOldest_26 : decode cX3_dropOldest 26 = .ok (.getfield 9, 3) := by decide +kernel
theorem dX3_dropOldest_29 : decode cX3_dropOldest 29 = .ok (.iload_n 2, 1) := by decide +kernel
theorem dX3_dropOldest_30 : decode cX3_dropOldest 30 = .ok (.aaload, 1) := by decide +kernel
theorem dX3_dropOldest_31 : decode cX3_dropOldest 31 = .ok (.aastore, 1) := by decide +kernel
theorem dX3_dropOldest_32 : decode cX3_dropOldest 32 = .ok (.iinc 2 1, 3) := by decide +kernel
theorem dX3_dropOldest_35 : decode cX3_dropOldest 35 = .ok (.goto (-26), 3) := by decide +kernel
theorem dX3_dropOldest_38 : decode cX3_dropOldest 38 = .ok (.aload_n 0, 1) := by decide +kernel
theorem dX3_dropOldest_39 : decode cX3_dropOldest 39 = .ok (.getfield 9, 3) := by decide +kernel
theorem dX3_dropOldest_42 : decode cX3_dropOldest 42 = .ok (.aload_n 0, 1) := by decide +kernel
theorem dX3_dropOldest_43 : decode cX3_dropOldest 43 = .ok (.getfield 9, 3) := by decide +kernel
theorem dX3_dropOldest_46 : decode cX3_dropOldest 46 = .ok (.arraylength, 1) := by decide +kernel
theorem dX3_dropOldest_47 : decode cX3_dropOldest 47 = .ok (.iconst 1, 1) := by decide +kernel
theorem dX3_dropOldest_48 : decode cX3_dropOldest 48 = .ok (.isub, 1) := by decide +kernel
theorem dX3_dropOldest_49 : decode cX3_dropOldest 49 = .ok (.aload_n 1, 1) := by decide +kernel
theorem dX3_dropOldest_50 : decode cX3_dropOldest 50 = .ok (.aastore, 1) := by decide +kernel
theorem dX3_dropOldest_51 : decode cX3_dropOldest 51 = .ok (.aload_n 0, 1) := by decide +kernel
theorem dX3_dropOldest_52 : decode cX3_dropOldest 52 = .ok (.aload_n 0, 1) := by decide +kernel
theorem dX3_dropOldest_53 : decode cX3_dropOldest 53 = .ok (.getfield 9, 3) := by decide +kernel
theorem dX3_dropOldest_56 : decode cX3_dropOldest 56 = .ok (.arraylength, 1) := by decide +kernel
theorem dX3_dropOldest_57 : decode cX3_dropOldest 57 = .ok (.iconst 1, 1) := by decide +kernel
theorem dX3_dropOldest_58 : decode cX3_dropOldest 58 = .ok (.isub, 1) := by decide +kernel
theorem dX3_dropOldest_59 : decode cX3_dropOldest 59 = .ok (.putfield 16, 3) := by decide +kernel
theorem dX3_dropOldest_62 : decode cX3_dropOldest 62 = .ok (.return_, 1) := by decide +kernel
set_option maxRecDepth 20000 in
theorem ggX3_takeLastInto_X6_takeOver : GoodIn wsX3_takeLastInto wsX6_takeOver := goodIn_r _ [7, 8, 9, 10, 11, 12, 13, 14, 15, 16, 19, 20, 21, 22, 23, 24] (by decide +kernel) (by decide +kernel)
set_option maxRecDepth 20000 in
theorem gX3_takeLastInto_X6_takeOver : GoodIn wsX3_takeLastInto (wsV RX3 27 RX6 yX6_takeOver wsX6_takeOver) := goodIn_app (goodIn_of _ (by decide +kernel)) ggX3_takeLastInto_X6_takeOver
theorem dX3_takeLastInto_0 : decode cX3_takeLastInto 0 = .ok (.aload_n 0, 1) := by decide +kernel
theorem dX3_takeLastInto_1 : decode cX3_takeLastInto 1 = .ok (.getfield 16, 3) := by decide +kernel
theorem dX3_takeLastInto_4 : decode cX3_takeLastInto 4 = .ok (.ifCond .ne 5, 3) := by decide +kernel
theorem dX3_takeLastInto_7 : decode cX3_takeLastInto 7 = .ok (.iconst 0, 1) := by decide +kernel
theorem dX3_takeLastInto_8 : decode cX3_takeLastInto 8 = .ok (.ireturn, 1) := by decide +kernel
theorem dX3_takeLastInto_9 : decode cX3_takeLastInto 9 = .ok (.aload_n 0, 1) := by decide +kernel
theorem dX3_takeLastInto_10 : decode cX3_takeLastInto 10 = .ok (.dup, 1) := by decide +kernel
theorem dX3_takeLastInto_11 : decode cX3_takeLastInto 11 = .ok (.getfield 16, 3) := by decide +kernel
theorem dX3_takeLastInto_14 : decode cX3_takeLastInto 14 = .ok (.iconst 1, 1) := by decide +kernel
theorem dX3_takeLastInto_15 : decode cX3_takeLastInto 15 = .ok (.isub, 1) := by decide +kernel
theorem dX3_takeLastInto_16 : decode cX3_takeLastInto 16 = .ok (.putfield 16, 3) := by decide +kernel
theorem dX3_takeLastInto_19 : decode cX3_takeLastInto 19 = .ok (.aload_n 1, 1) := by decide +kernel
theorem dX3_takeLastInto_20 : decode cX3_takeLastInto 20 = .ok (.aload_n 0, 1) := by decide +kernel
theorem dX3_takeLastInto_21 : decode cX3_takeLastInto 21 = .ok (.getfield 9, 3) := by decide +kernel
theorem dX3_takeLastInto_24 : decode cX3_takeLastInto 24 = .ok (.aload_n 0, 1) := by decide +kernel
theorem dX3_takeLastInto_25 : decode cX3_takeLastInto 25 = .ok (.getfield 16, 3) := by decide +kernel
theorem dX3_takeLastInto_28 : decode cX3_takeLastInto 28 = .ok (.aaload, 1) := by decide +kernel
theorem dX3_takeLastInto_29 : decode cX3_takeLastInto 29 = .ok (.invokevirtual 27, 3) := by decide +kernel
theorem dX3_takeLastInto_32 : decode cX3_takeLastInto 32 = .ok (.iconst 1, 1) := by decide +kernel
theorem dX3_takeLastInto_33 : decode cX3_takeLastInto 33 = .ok (.ireturn, 1) := by decide +kernel
theorem dX4_init_0 : decode cX4_init 0 = .ok (.aload_n 0, 1) := by decide +kernel
theorem dX4_init_1 : decode cX4_init 1 = .ok (.invokespecial 3, 3) := by decide +kernel
theorem dX4_init_4 : decode cX4_init 4 = .ok (.aload_n 0, 1) := by decide +kernel
theorem dX4_init_5 : decode cX4_init 5 = .ok (.sipush 200, 3) := by decide +kernel
theorem dX4_init_8 : decode cX4_init 8 = .ok (.newarray .char, 2) := by decide +kernel
theorem dX4_init_10 : decode cX4_init 10 = .ok (.putfield 9, 3) := by decide +kernel
theorem dX4_init_13 : decode cX4_init 13 = .ok (.aload_n 0, 1) := by decide +kernel
theorem dX4_init_14 : decode cX4_init 14 = .ok (.iconst 3, 1) := by decide +kernel
theorem dX4_init_15 : decode cX4_init 15 = .ok (.newarray .int, 2) := by decide +kernel
theorem dX4_init_17 : decode cX4_init 17 = .ok (.putfield 15, 3) := by decide +kernel
theorem dX4_init_20 : decode cX4_init 20 = .ok (.return_, 1) := by decide +kernel
theorem dX4_append_0 : decode cX4_append 0 = .ok (.aload_n 0, 1) := by decide +kernel
theorem dX4_append_1 : decode cX4_append 1 = .ok (.getfield 19, 3) := by decide +kernel
theorem dX4_append_4 : decode cX4_append 4 = .ok (.sipush 200, 3) := by decide +kernel
theorem dX4_append_7 : decode cX4_append 7 = .ok (.if_icmp .lt 5, 3) := by decide +kernel
theorem dX4_append_10 : decode cX4_append 10 = .ok (.iconst 0, 1) := by decide +kernel
theorem dX4_append_11 : decode cX4_append 11 = .ok (.ireturn, 1) := by decide +kernel
theorem dX4_append_12 : decode cX4_append 12 = .ok (.aload_n 0, 1) := by decide +kernel
theorem dX4_append_13 : decode cX4_append 13 = .ok (.getfield 9, 3) := by decide +kernel
theorem dX4_append_16 : decode cX4_append 16 = .ok (.aload_n 0, 1) := by decide +kernel
theorem dX4_append_17 : decode cX4_append 17 = .ok (.getfield 19, 3) := by decide +kernel
theorem dX4_append_20 : decode cX4_append 20 = .ok (.iload_n 1, 1) := by decide +kernel
theorem dX4_append_21 : decode cX4_append 21 = .ok (.castore, 1) := by decide +kernel
theorem dX4_append_22 : decode cX4_append 22 = .ok (.aload_n 0, 1) := by decide +kernel
theorem dX4_append_23 : decode cX4_append 23 = .ok (.dup, 1) := by decide +kernel
theorem dX4_append_24 : decode cX4_append 24 = .ok (.getfield 19, 3) := by decide +kernel
theorem dX4_append_27 : decode cX4_append 27 = .ok (.iconst 1, 1) := by decide +kernel
theorem dX4_append_28 : decode cX4_append 28 = .ok (.iadd, 1) := by decide +kernel
theorem dX4_append_29 : decode cX4_append 29 = .ok (.putfield 19, 3) := by decide +kernel
theorem dX4_append_32 : decode cX4_append 32 = .ok (.iconst 1, 1) := by decide +kernel
theorem dX4_append_33 : decode cX4_append 33 = .ok (.ireturn, 1) := by decide +kernel
set_option maxRecDepth 20000 in
theorem ggX4_readInto_X1_clear : GoodIn wsX4_readInto wsX1_clear := goodIn_r _ [7, 8, 9, 10, 71, 72, 73, 74, 75, 76, 77, 78, 79] (by decide +kernel) (by decide +kernel)
set_option maxRecDepth 20000 in
theorem gX4_readInto_X1_clear : GoodIn wsX4_readInto (wsV RX4 23 RX1 yX1_clear wsX1_clear) := goodIn_app (goodIn_of _ (by decide +kernel)) ggX4_readInto_X1_clear
set_option maxRecDepth 20000 in
theorem ggX4_readInto_X4_readItem : GoodIn wsX4_readInto wsX4_readItem := goodIn_r _ [15, 1, 16, 17, 18, 19, 14, 20, 2, 21, 22, 23, 24, 25, 26, 27, 28, 29, 30, 31, 32, 33, 34, 35, 6, 36, 8, 37, 38, 39, 40, 41, 42, 43, 9, 44, 45, 46, 47, 48, 49, 50, 51, 52, 53, 54, 55, 56, 57, 58, 59, 60, 61, 62, 63, 64, 10, 65, 66, 67, 68, 69, 70, 71, 72, 73, 74, 75, 76, 77, 78, 79] (by decide +kernel) (by decide +kernel)
set_option maxRecDepth 20000 in
theorem gX4_readInto_X4_readItem : GoodIn wsX4_readInto (wsV RX4 31 RX4 yX4_readItem wsX4_readItem) := goodIn_app (goodIn_of _ (by decide +kernel)) ggX4_readInto_X4_readItem
theorem dX4_readInto_0 : decode cX4_readInto 0 = .ok (.aload_n 1, 1) := by decide +kernel
theorem dX4_readInto_1 : decode cX4_readInto 1 = .ok (.invokevirtual 23, 3) := by decide +kernel
theorem dX4_readInto_4 : decode cX4_readInto 4 = .ok (.aload_n 0, 1) := by decide +kernel
theorem dX4_readInto_5 : decode cX4_readInto 5 = .ok (.iconst 0, 1) := by decide +kernel
theorem dX4_readInto_6 : decode cX4_readInto 6 = .ok (.putfield 28, 3) := by decide +kernel
theorem dX4_readInto_9 : decode cX4_readInto 9 = .ok (.iconst 0, 1) := by decide +kernel
theorem dX4_readInto_10 : decode cX4_readInto 10 = .ok (.istore_n 2, 1) := by decide +kernel
theorem dX4_readInto_11 : decode cX4_readInto 11 = .ok (.iload_n 2, 1) := by decide +kernel
theorem dX4_readInto_12 : decode cX4_readInto 12 = .ok (.sipush 200, 3) := by decide +kernel
theorem dX4_readInto_15 : decode cX4_readInto 15 = .ok (.if_icmp .ge 35, 3) := by decide +kernel
theorem dX4_readInto_18 : decode cX4_readInto 18 = .ok (.aload_n 0, 1) := by decide +kernel
theorem dX4_readInto_19 : decode cX4_readInto 19 = .ok (.getfield 28, 3) := by decide +kernel
theorem dX4_readInto_22 : decode cX4_readInto 22 = .ok (.aload_n 0, 1) := by decide +kernel
theorem dX4_readInto_23 : decode cX4_readInto 23 = .ok (.getfield 19, 3) := by decide +kernel
theorem dX4_readInto_26 : decode cX4_readInto 26 = .ok (.if_icmp .ge 24, 3) := by decide +kernel
theorem dX4_readInto_29 : decode cX4_readInto 29 = .ok (.aload_n 0, 1) := by decide +kernel
theorem dX4_readInto_30 : decode cX4_readInto 30 = .ok (.getfield 28, 3) := by decide +kernel
theorem dX4_readInto_33 : decode cX4_readInto 33 = .ok (.istore_n 3, 1) := by decide +kernel
theorem dX4_readInto_34 : decode cX4_readInto 34 = .ok (.aload_n 0, 1) := by decide +kernel
theorem dX4_readInto_35 : decode cX4_readInto 35 = .ok (.aload_n 1, 1) := by decide +kernel
theorem dX4_readInto_36 : decode cX4_readInto 36 = .ok (.invokevirtual 31, 3) := by decide +kernel
theorem dX4_readInto_39 : decode cX4_readInto 39 = .ok (.ifCond .ne 5, 3) := by decide +kernel
theorem dX4_readInto_42 : decode cX4_readInto 42 = .ok (.iload_n 3, 1) := by decide +kernel
theorem dX4_readInto_43 : decode cX4_readInto 43 = .ok (.ireturn, 1) := by decide +kernel
theorem dX4_readInto_44 : decode cX4_readInto 44 = .ok (.iinc 2 1, 3) := by decide +kernel
theorem dX4_readInto_47 : decode cX4_readInto 47 = .ok (.goto (-36), 3) := by decide +kernel
theorem dX4_readInto_50 : decode cX4_readInto 50 = .ok (.bipush (-4), 2) := by decide +kernel
theorem dX4_readInto_52 : decode cX4_readInto 52 = .ok (.ireturn, 1) := by decide +kernel
set_option maxRecDepth 20000 in
theorem ggX4_readItem_X4_letterHere : GoodIn wsX4_readItem wsX4_letterHere := goodIn_r _ [7, 1, 8, 9, 59, 60, 61, 62] (by decide +kernel) (by decide +kernel)
set_option maxRecDepth 20000 in
theorem gX4_readItem_X4_letterHere : GoodIn wsX4_readItem (wsV RX4 35 RX4 yX4_letterHere wsX4_letterHere) := goodIn_app (goodIn_of _ (by decide +kernel)) ggX4_readItem_X4_letterHere
set_option maxRecDepth 20000 in
theorem ggX4_readItem_X4_readNumbers : GoodIn wsX4_readItem wsX4_readNumbers := goodIn_r _ [13, 2, 1, 14, 15, 16, 6, 17, 3, 4, 5, 7, 8, 9, 18, 19, 20, 59, 60, 61, 62] (by decide +kernel) (by decide +kernel)
set_option maxRecDepth 20000 in
theorem gX4_readItem_X4_readNumbers : GoodIn wsX4_readItem (wsV RX4 39 RX4 yX4_readNumbers wsX4_readNumbers) := goodIn_app (goodIn_of _ (by decide +kernel)) ggX4_readItem_X4_readNumbers
set_option maxRecDepth 20000 in
theorem ggX4_readItem_X1_addFamily : GoodIn wsX4_readItem wsX1_addFamily := goodIn_r _ [25, 26, 27, 28, 29, 18, 19, 20, 63, 64, 65, 66, 67, 68, 69, 70, 71] (by decide +kernel) (by decide +kernel)
set_option maxRecDepth 20000 in
theorem gX4_readItem_X1_addFamily : GoodIn wsX4_readItem (wsV RX4 43 RX1 yX1_addFamily wsX1_addFamily) := goodIn_app (goodIn_of _ (by decide +kernel)) ggX4_readItem_X1_addFamily
set_option maxRecDepth 20000 in
theorem ggX4_readItem_X1_addWall : GoodIn wsX4_readItem wsX1_addWall := goodIn_r _ [33, 34, 35, 36, 37, 24, 38, 26, 18, 19, 20, 39, 40, 41, 42, 43, 44, 45, 46, 47, 48, 49, 50, 51, 63, 64, 65, 66, 67, 68, 69, 70, 71] (by decide +kernel) (by decide +kernel)
set_option maxRecDepth 20000 in
theorem gX4_readItem_X1_addWall : GoodIn wsX4_readItem (wsV RX4 47 RX1 yX1_addWall wsX1_addWall) := goodIn_app (goodIn_of _ (by decide +kernel)) ggX4_readItem_X1_addWall
set_option maxRecDepth 20000 in
theorem ggX4_readItem_X1_addTree : GoodIn wsX4_readItem wsX1_addTree := goodIn_r _ [55, 56, 34, 57, 58, 18, 19, 20, 63, 64, 65, 66, 67, 68, 69, 70, 71] (by decide +kernel) (by decide +kernel)
set_option maxRecDepth 20000 in
theorem gX4_readItem_X1_addTree : GoodIn wsX4_readItem (wsV RX4 51 RX1 yX1_addTree wsX1_addTree) := goodIn_app (goodIn_of _ (by decide +kernel)) ggX4_readItem_X1_addTree
theorem dX4_readItem_0 : decode cX4_readItem 0 = .ok (.aload_n 0, 1) := by decide +kernel
theorem dX4_readItem_1 : decode cX4_readItem 1 = .ok (.invokevirtual 35, 3) := by decide +kernel
theorem dX4_readItem_4 : decode cX4_readItem 4 = .ok (.istore_n 2, 1) := by decide +kernel
theorem dX4_readItem_5 : decode cX4_readItem 5 = .ok (.aload_n 0, 1) := by decide +kernel
theorem dX4_readItem_6 : decode cX4_readItem 6 = .ok (.dup, 1) := by decide +kernel
theorem dX4_readItem_7 : decode cX4_readItem 7 = .ok (.getfield 28, 3) := by decide +kernel
theorem dX4_readItem_10 : decode cX4_readItem 10 = .ok (.iconst 1, 1) := by decide +kernel
theorem dX4_readItem_11 : decode cX4_readItem 11 = .ok (.iadd, 1) := by decide +kernel
theorem dX4_readItem_12 : decode cX4_readItem 12 = .ok (.putfield 28, 3) := by decide +kernel
theorem dX4_readItem_15 : decode cX4_readItem 15 = .ok (.iload_n 2, 1) := by decide +kernel
theorem dX4_readItem_16 : decode cX4_readItem 16 = .ok (.lookupswitch 141 #[(102, 36), (116, 108), (119, 75)], 36) := by decide +kernel
theorem dX4_readItem_52 : decode cX4_readItem 52 = .ok (.aload_n 0, 1) := by decide +kernel
theorem dX4_readItem_53 : decode cX4_readItem 53 = .ok (.iconst 3, 1) := by decide +kernel
theorem dX4_readItem_54 : decode cX4_readItem 54 = .ok (.invokevirtual 39, 3) := by decide +kernel
theorem dX4_readItem_57 : decode cX4_readItem 57 = .ok (.ifCond .eq 32, 3) := by decide +kernel
theorem dX4_readItem_60 : decode cX4_readItem 60 = .ok (.aload_n 1, 1) := by decide +kernel
theorem dX4_readItem_61 : decode cX4_readItem 61 = .ok (.aload_n 0, 1) := by decide +kernel
theorem dX4_readItem_62 : decode cX4_readItem 62 = .ok (.getfield 15, 3) := by decide +kernel
theorem dX4_readItem_65 : decode cX4_readItem 65 = .ok (.iconst 0, 1) := by decide +kernel
theorem dX4_readItem_66 : decode cX4_readItem 66 = .ok (.iaload, 1) := by decide +kernel
theorem dX4_readItem_67 : decode cX4_readItem 67 = .ok (.aload_n 0, 1) := by decide +kernel
theorem dX4_readItem_68 : decode cX4_readItem 68 = .ok (.getfield 15, 3) := by decide +kernel
theorem dX4_readItem_71 : decode cX4_readItem 71 = .ok (.iconst 1, 1) := by decide +kernel
theorem dX4_readItem_72 : decode cX4_readItem 72 = .ok (.iaload, 1) := by decide +kernel
theorem dX4_readItem_73 : decode cX4_readItem 73 = .ok (.aload_n 0, 1) := by decide +kernel
theorem dX4_readItem_74 : decode cX4_readItem 74 = .ok (.getfield 15, 3) := by decide +kernel
theorem dX4_readItem_77 : decode cX4_readItem 77 = .ok (.iconst 2, 1) := by decide +kernel
theorem dX4_readItem_78 : decode cX4_readItem 78 = .ok (.iaload, 1) := by decide +kernel
theorem dX4_readItem_79 : decode cX4_readItem 79 = .ok (.invokevirtual 43, 3) := by decide +kernel
theorem dX4_readItem_82 : decode cX4_readItem 82 = .ok (.ifCond .eq 7, 3) := by decide +kernel
theorem dX4_readItem_85 : decode cX4_readItem 85 = .ok (.iconst 1, 1) := by decide +kernel
theorem dX4_readItem_86 : decode cX4_readItem 86 = .ok (.goto 4, 3) := by decide +kernel
theorem dX4_readItem_89 : decode cX4_readItem 89 = .ok (.iconst 0, 1) := by decide +kernel
theorem dX4_readItem_90 : decode cX4_readItem 90 = .ok (.ireturn, 1) := by decide +kernel
theorem dX4_readItem_91 : decode cX4_readItem 91 = .ok (.aload_n 0, 1) := by decide +kernel
theorem dX4_readItem_92 : decode cX4_readItem 92 = .ok (.iconst 2, 1) := by decide +kernel
theorem dX4_readItem_93 : decode cX4_readItem 93 = .ok (.invokevirtual 39, 3) := by decide +kernel
theorem dX4_readItem_96 : decode cX4_readItem 96 = .ok (.ifCond .eq 26, 3) := by decide +kernel
theorem dX4_readItem_99 : decode cX4_readItem 99 = .ok (.aload_n 1, 1) := by decide +kernel
theorem dX4_readItem_100 : decode cX4_readItem 100 = .ok (.aload_n 0, 1) := by decide +kernel
theorem dX4_readItem_101 : decode cX4_readItem 101 = .ok (.getfield 15, 3) := by decide +kernel
theorem dX4_readItem_104 : decode cX4_readItem 104 = .ok (.iconst 0, 1) := by decide +kernel
theorem dX4_readItem_105 : decode cX4_readItem 105 = .ok (.iaload, 1) := by decide +kernel
theorem dX4_readItem_106 : decode cX4_readItem 106 = .ok (.aload_n 0, 1) := by decide +kernel
theorem dX4_readItem_107 : decode cX4_readItem 107 = .ok (.getfield 15, 3) := by decide +kernel
theorem dX4_readItem_110 : decode cX4_readItem 110 = .ok (.iconst 1, 1) := by decide +kernel
theorem dX4_readItem_111 : decode cX4_readItem 111 = .ok (.iaload, 1) := by decide +kernel
theorem dX4_readItem_112 : decode cX4_readItem 112 = .ok (.invokevirtual 47, 3) := by decide +kernel
theorem dX4_readItem_115 : decode cX4_readItem 115 = .ok (.ifCond .eq 7, 3) := by decide +kernel
theorem dX4_readItem_118 : decode cX4_readItem 118 = .ok (.iconst 1, 1) := by decide +kernel
theorem dX4_readItem_119 : decode cX4_readItem 119 = .ok (.goto 4, 3) := by decide +kernel
theorem dX4_readItem_122 : decode cX4_readItem 122 = .ok (.iconst 0, 1) := by decide +kernel
theorem dX4_readItem_123 : decode cX4_readItem 123 = .ok (.ireturn, 1) := by decide +kernel
theorem dX4_readItem_124 : decode cX4_readItem 124 = .ok (.aload_n 0, 1) := by decide +kernel
theorem dX4_readItem_125 : decode cX4_readItem 125 = .ok (.iconst 2, 1) := by decide +kernel
theorem dX4_readItem_126 : decode cX4_readItem 126 = .ok (.invokevirtual 39, 3) := by decide +kernel
theorem dX4_readItem_129 : decode cX4_readItem 129 = .ok (.ifCond .eq 26, 3) := by decide +kernel
theorem dX4_readItem_132 : decode cX4_readItem 132 = .ok (.aload_n 1, 1) := by decide +kernel
theorem dX4_readItem_133 : decode cX4_readItem 133 = .ok (.aload_n 0, 1) := by decide +kernel
theorem dX4_readItem_134 : decode cX4_readItem 134 = .ok (.getfield 15, 3) := by decide +kernel
theorem dX4_readItem_137 : decode cX4_readItem 137 = .ok (.iconst 0, 1) := by decide +kernel
theorem dX4_readItem_138 : decode cX4_readItem 138 = .ok (.iaload, 1) := by decide +kernel
theorem dX4_readItem_139 : decode cX4_readItem 139 = .ok (.aload_n 0, 1) := by decide +kernel
theorem dX4_readItem_140 : decode cX4_readItem 140 = .ok (.getfield 15, 3) := by decide +kernel
theorem dX4_readItem_143 : decode cX4_readItem 143 = .ok (.iconst 1, 1) := by decide +kernel
theorem dX4_readItem_144 : decode cX4_readItem 144 = .ok (.iaload, 1) := by decide +kernel
theorem dX4_readItem_145 : decode cX4_readItem 145 = .ok (.invokevirtual 51, 3) := by decide +kernel
theorem dX4_readItem_148 : decode cX4_readItem 148 = .ok (.ifCond .eq 7, 3) := by decide +kernel
theorem dX4_readItem_151 : decode cX4_readItem 151 = .ok (.iconst 1, 1) := by decide +kernel
theorem dX4_readItem_152 : decode cX4_readItem 152 = .ok (.goto 4, 3) := by decide +kernel
theorem dX4_readItem_155 : decode cX4_readItem 155 = .ok (.iconst 0, 1) := by decide +kernel
theorem dX4_readItem_156 : decode cX4_readItem 156 = .ok (.ireturn, 1) := by decide +kernel
theorem dX4_readItem_157 : decode cX4_readItem 157 = .ok (.iconst 0, 1) := by decide +kernel
theorem dX4_readItem_158 : decode cX4_readItem 158 = .ok (.ireturn, 1) := by decide +kernel
set_option maxRecDepth 20000 in
theorem ggX4_readNumbers_X4_readNumber : GoodIn wsX4_readNumbers wsX4_readNumber := goodIn_r _ [7, 2, 8, 9, 10, 6, 11, 12, 13, 14, 15, 16, 17, 18, 19, 20] (by decide +kernel) (by decide +kernel)
set_option maxRecDepth 20000 in
theorem gX4_readNumbers_X4_readNumber : GoodIn wsX4_readNumbers (wsV RX4 54 RX4 yX4_readNumber wsX4_readNumber) := goodIn_app (goodIn_of _ (by decide +kernel)) ggX4_readNumbers_X4_readNumber
set_option maxRecDepth 20000 in
theorem ggX4_readNumbers_X4_letterHere : GoodIn wsX4_readNumbers wsX4_letterHere := goodIn_r _ [11, 2, 12, 13, 17, 18, 19, 20] (by decide +kernel) (by decide +kernel)
set_option maxRecDepth 20000 in
theorem gX4_readNumbers_X4_letterHere : GoodIn wsX4_readNumbers (wsV RX4 35 RX4 yX4_letterHere wsX4_letterHere) := goodIn_app (goodIn_of _ (by decide +kernel)) ggX4_readNumbers_X4_letterHere
theorem dX4_readNumbers_0 : decode cX4_readNumbers 0 = .ok (.iconst 0, 1) := by decide +kernel
theorem dX4_readNumbers_1 : decode cX4_readNumbers 1 = .ok (.istore_n 2, 1) := by decide +kernel
theorem dX4_readNumbers_2 : decode cX4_readNumbers 2 = .ok (.iload_n 2, 1) := by decide +kernel
theorem dX4_readNumbers_3 : decode cX4_readNumbers 3 = .ok (.iload_n 1, 1) := by decide +kernel
theorem dX4_readNumbers_4 : decode cX4_readNumbers 4 = .ok (.if_icmp .ge 72, 3) := by decide +kernel
theorem dX4_readNumbers_7 : decode cX4_readNumbers 7 = .ok (.iload_n 2, 1) := by decide +kernel
theorem dX4_readNumbers_8 : decode cX4_readNumbers 8 = .ok (.aload_n 0, 1) := by decide +kernel
theorem dX4_readNumbers_9 : decode cX4_readNumbers 9 = .ok (.getfield 15, 3) := by decide +kernel
theorem dX4_readNumbers_12 : decode cX4_readNumbers 12 = .ok (.arraylength, 1) := by decide +kernel
theorem dX4_readNumbers_13 : decode cX4_readNumbers 13 = .ok (.if_icmp .ge 63, 3) := by decide +kernel
theorem dX4_readNumbers_16 : decode cX4_readNumbers 16 = .ok (.aload_n 0, 1) := by decide +kernel
theorem dX4_readNumbers_17 : decode cX4_readNumbers 17 = .ok (.getfield 15, 3) := by decide +kernel
theorem dX4_readNumbers_20 : decode cX4_readNumbers 20 = .ok (.iload_n 2, 1) := by decide +kernel
theorem dX4_readNumbers_21 : decode cX4_readNumbers 21 = .ok (.aload_n 0, 1) := by decide +kernel
theorem dX4_readNumbers_22 : decode cX4_readNumbers 22 = .ok (.invokevirtual 54, 3) := by decide +kernel
theorem dX4_readNumbers_25 : decode cX4_readNumbers 25 = .ok (.iastore, 1) := by decide +kernel
theorem dX4_readNumbers_26 : decode cX4_readNumbers 26 = .ok (.aload_n 0, 1) := by decide +kernel
theorem dX4_readNumbers_27 : decode cX4_readNumbers 27 = .ok (.getfield 15, 3) := by decide +kernel
theorem dX4_readNumbers_30 : decode cX4_readNumbers 30 = .ok (.iload_n 2, 1) := by decide +kernel
theorem dX4_readNumbers_31 : decode cX4_readNumbers 31 = .ok (.iaload, 1) := by decide +kernel
theorem dX4_readNumbers_32 : decode cX4_readNumbers 32 = .ok (.bipush (-4), 2) := by decide +kernel
theorem dX4_readNumbers_34 : decode cX4_readNumbers 34 = .ok (.if_icmp .eq 24, 3) := by decide +kernel
theorem dX4_readNumbers_37 : decode cX4_readNumbers 37 = .ok (.aload_n 0, 1) := by decide +kernel
theorem dX4_readNumbers_38 : decode cX4_readNumbers 38 = .ok (.invokevirtual 35, 3) := by decide +kernel
theorem dX4_readNumbers_41 : decode cX4_readNumbers 41 = .ok (.iload_n 2, 1) := by decide +kernel
theorem dX4_readNumbers_42 : decode cX4_readNumbers 42 = .ok (.iconst 1, 1) := by decide +kernel
theorem dX4_readNumbers_43 : decode cX4_readNumbers 43 = .ok (.iadd, 1) := by decide +kernel
theorem dX4_readNumbers_44 : decode cX4_readNumbers 44 = .ok (.iload_n 1, 1) := by decide +kernel
theorem dX4_readNumbers_45 : decode cX4_readNumbers 45 = .ok (.if_icmp .ge 8, 3) := by decide +kernel
theorem dX4_readNumbers_48 : decode cX4_readNumbers 48 = .ok (.bipush 44, 2) := by decide +kernel
theorem dX4_readNumbers_50 : decode cX4_readNumbers 50 = .ok (.goto 5, 3) := by decide +kernel
theorem dX4_readNumbers_53 : decode cX4_readNumbers 53 = .ok (.bipush 59, 2) := by decide +kernel
theorem dX4_readNumbers_55 : decode cX4_readNumbers 55 = .ok (.if_icmp .eq 5, 3) := by decide +kernel
theorem dX4_readNumbers_58 : decode cX4_readNumbers 58 = .ok (.iconst 0, 1) := by decide +kernel
theorem dX4_readNumbers_59 : decode cX4_readNumbers 59 = .ok (.ireturn, 1) := by decide +kernel
theorem dX4_readNumbers_60 : decode cX4_readNumbers 60 = .ok (.aload_n 0, 1) := by decide +kernel
theorem dX4_readNumbers_61 : decode cX4_readNumbers 61 = .ok (.dup, 1) := by decide +kernel
theorem dX4_readNumbers_62 : decode cX4_readNumbers 62 = .ok (.getfield 28, 3) := by decide +kernel
theorem dX4_readNumbers_65 : decode cX4_readNumbers 65 = .ok (.iconst 1, 1) := by decide +kernel
theorem dX4_readNumbers_66 : decode cX4_readNumbers 66 = .ok (.iadd, 1) := by decide +kernel
theorem dX4_readNumbers_67 : decode cX4_readNumbers 67 = .ok (.putfield 28, 3) := by decide +kernel
theorem dX4_readNumbers_70 : decode cX4_readNumbers 70 = .ok (.iinc 2 1, 3) := by decide +kernel
theorem dX4_readNumbers_73 : decode cX4_readNumbers 73 = .ok (.goto (-71), 3) := by decide +kernel
theorem dX4_readNumbers_76 : decode cX4_readNumbers 76 = .ok (.iconst 1, 1) := by decide +kernel
theorem dX4_readNumbers_77 : decode cX4_readNumbers 77 = .ok (.ireturn, 1) := by decide +kernel
set_option maxRecDepth 20000 in
theorem ggX4_readNumber_X4_letterHere : GoodIn wsX4_readNumber wsX4_letterHere := goodIn_r _ [6, 1, 7, 8, 12, 13, 14, 15] (by decide +kernel) (by decide +kernel)
set_option maxRecDepth 20000 in
theorem gX4_readNumber_X4_letterHere : GoodIn wsX4_readNumber (wsV RX4 35 RX4 yX4_letterHere wsX4_letterHere) := goodIn_app (goodIn_of _ (by decide +kernel)) ggX4_readNumber_X4_letterHere
set_option maxRecDepth 20000 in
theorem ggX4_readNumber_X8_within : GoodIn wsX4_readNumber wsX8_within := goodIn_r _ [11] (by decide +kernel) (by decide +kernel)
set_option maxRecDepth 20000 in
theorem gX4_readNumber_X8_within_n57 : GoodIn wsX4_readNumber (wsX8_within) := ggX4_readNumber_X8_within
theorem dX4_readNumber_0 : decode cX4_readNumber 0 = .ok (.aload_n 0, 1) := by decide +kernel
theorem dX4_readNumber_1 : decode cX4_readNumber 1 = .ok (.invokevirtual 35, 3) := by decide +kernel
theorem dX4_readNumber_4 : decode cX4_readNumber 4 = .ok (.bipush 48, 2) := by decide +kernel
theorem dX4_readNumber_6 : decode cX4_readNumber 6 = .ok (.bipush 57, 2) := by decide +kernel
theorem dX4_readNumber_8 : decode cX4_readNumber 8 = .ok (.invokestatic 57, 3) := by decide +kernel
theorem dX4_readNumber_11 : decode cX4_readNumber 11 = .ok (.ifCond .ne 6, 3) := by decide +kernel
theorem dX4_readNumber_14 : decode cX4_readNumber 14 = .ok (.bipush (-4), 2) := by decide +kernel
theorem dX4_readNumber_16 : decode cX4_readNumber 16 = .ok (.ireturn, 1) := by decide +kernel
theorem dX4_readNumber_17 : decode cX4_readNumber 17 = .ok (.aload_n 0, 1) := by decide +kernel
theorem dX4_readNumber_18 : decode cX4_readNumber 18 = .ok (.invokevirtual 35, 3) := by decide +kernel
theorem dX4_readNumber_21 : decode cX4_readNumber 21 = .ok (.bipush 48, 2) := by decide +kernel
theorem dX4_readNumber_23 : decode cX4_readNumber 23 = .ok (.isub, 1) := by decide +kernel
theorem dX4_readNumber_24 : decode cX4_readNumber 24 = .ok (.istore_n 1, 1) := by decide +kernel
theorem dX4_readNumber_25 : decode cX4_readNumber 25 = .ok (.aload_n 0, 1) := by decide +kernel
theorem dX4_readNumber_26 : decode cX4_readNumber 26 = .ok (.dup, 1) := by decide +kernel
theorem dX4_readNumber_27 : decode cX4_readNumber 27 = .ok (.getfield 28, 3) := by decide +kernel
theorem dX4_readNumber_30 : decode cX4_readNumber 30 = .ok (.iconst 1, 1) := by decide +kernel
theorem dX4_readNumber_31 : decode cX4_readNumber 31 = .ok (.iadd, 1) := by decide +kernel
theorem dX4_readNumber_32 : decode cX4_readNumber 32 = .ok (.putfield 28, 3) := by decide +kernel
theorem dX4_readNumber_35 : decode cX4_readNumber 35 = .ok (.aload_n 0, 1) := by decide +kernel
theorem dX4_readNumber_36 : decode cX4_readNumber 36 = .ok (.invokevirtual 35, 3) := by decide +kernel
theorem dX4_readNumber_39 : decode cX4_readNumber 39 = .ok (.bipush 48, 2) := by decide +kernel
theorem dX4_readNumber_41 : decode cX4_readNumber 41 = .ok (.bipush 57, 2) := by decide +kernel
theorem dX4_readNumber_43 : decode cX4_readNumber 43 = .ok (.invokestatic 57, 3) := by decide +kernel
theorem dX4_readNumber_46 : decode cX4_readNumber 46 = .ok (.ifCond .eq 26, 3) := by decide +kernel
theorem dX4_readNumber_49 : decode cX4_readNumber 49 = .ok (.bipush 10, 2) := by decide +kernel
theorem dX4_readNumber_51 : decode cX4_readNumber 51 = .ok (.iload_n 1, 1) := by decide +kernel
theorem dX4_readNumber_52 : decode cX4_readNumber 52 = .ok (.imul, 1) := by decide +kernel
theorem dX4_readNumber_53 : decode cX4_readNumber 53 = .ok (.aload_n 0, 1) := by decide +kernel
theorem dX4_readNumber_54 : decode cX4_readNumber 54 = .ok (.invokevirtual 35, 3) := by decide +kernel
theorem dX4_readNumber_57 : decode cX4_readNumber 57 = .ok (.iadd, 1) := by decide +kernel
theorem dX4_readNumber_58 : decode cX4_readNumber 58 = .ok (.bipush 48, 2) := by decide +kernel
theorem dX4_readNumber_60 : decode cX4_readNumber 60 = .ok (.isub, 1) := by decide +kernel
theorem dX4_readNumber_61 : decode cX4_readNumber 61 = .ok (.istore_n 1, 1) := by decide +kernel
theorem dX4_readNumber_62 : decode cX4_readNumber 62 = .ok (.aload_n 0, 1) := by decide +kernel
theorem dX4_readNumber_63 : decode cX4_readNumber 63 = .ok (.dup, 1) := by decide +kernel
theorem dX4_readNumber_64 : decode cX4_readNumber 64 = .ok (.getfield 28, 3) := by decide +kernel
theorem dX4_readNumber_67 : decode cX4_readNumber 67 = .ok (.iconst 1, 1) := by decide +kernel
theorem dX4_readNumber_68 : decode cX4_readNumber 68 = .ok (.iadd, 1) := by decide +kernel
theorem dX4_readNumber_69 : decode cX4_readNumber 69 = .ok (.putfield 28, 3) := by decide +kernel
theorem dX4_readNumber_72 : decode cX4_readNumber 72 = .ok (.iload_n 1, 1) := by decide +kernel
theorem dX4_readNumber_73 : decode cX4_readNumber 73 = .ok (.ireturn, 1) := by decide +kernel
theorem dX4_letterHere_0 : decode cX4_letterHere 0 = .ok (.aload_n 0, 1) := by decide +kernel
theorem dX4_letterHere_1 : decode cX4_letterHere 1 = .ok (.getfield 28, 3) := by decide +kernel
theorem dX4_letterHere_4 : decode cX4_letterHere 4 = .ok (.aload_n 0, 1) := by decide +kernel
theorem dX4_letterHere_5 : decode cX4_letterHere 5 = .ok (.getfield 19, 3) := by decide +kernel
theorem dX4_letterHere_8 : decode cX4_letterHere 8 = .ok (.if_icmp .ge 25, 3) := by decide +kernel
theorem dX4_letterHere_11 : decode cX4_letterHere 11 = .ok (.aload_n 0, 1) := by decide +kernel
theorem dX4_letterHere_12 : decode cX4_letterHere 12 = .ok (.getfield 28, 3) := by decide +kernel
theorem dX4_letterHere_15 : decode cX4_letterHere 15 = .ok (.sipush 200, 3) := by decide +kernel
theorem dX4_letterHere_18 : decode cX4_letterHere 18 = .ok (.if_icmp .ge 15, 3) := by decide +kernel
theorem dX4_letterHere_21 : decode cX4_letterHere 21 = .ok (.aload_n 0, 1) := by decide +kernel
theorem dX4_letterHere_22 : decode cX4_letterHere 22 = .ok (.getfield 9, 3) := by decide +kernel
theorem dX4_letterHere_25 : decode cX4_letterHere 25 = .ok (.aload_n 0, 1) := by decide +kernel
theorem dX4_letterHere_26 : decode cX4_letterHere 26 = .ok (.getfield 28, 3) := by decide +kernel
theorem dX4_letterHere_29 : decode cX4_letterHere 29 = .ok (.caload, 1) := by decide +kernel
theorem dX4_letterHere_30 : decode cX4_letterHere 30 = .ok (.goto 4, 3) := by decide +kernel
theorem dX4_letterHere_33 : decode cX4_letterHere 33 = .ok (.iconst (-1), 1) := by decide +kernel
theorem dX4_letterHere_34 : decode cX4_letterHere 34 = .ok (.ireturn, 1) := by decide +kernel
theorem dX5_init_0 : decode cX5_init 0 = .ok (.aload_n 0, 1) := by decide +kernel
theorem dX5_init_1 : decode cX5_init 1 = .ok (.invokespecial 3, 3) := by decide +kernel
theorem dX5_init_4 : decode cX5_init 4 = .ok (.aload_n 0, 1) := by decide +kernel
theorem dX5_init_5 : decode cX5_init 5 = .ok (.bipush 6, 2) := by decide +kernel
theorem dX5_init_7 : decode cX5_init 7 = .ok (.newarray .int, 2) := by decide +kernel
theorem dX5_init_9 : decode cX5_init 9 = .ok (.putfield 9, 3) := by decide +kernel
theorem dX5_init_12 : decode cX5_init 12 = .ok (.aload_n 0, 1) := by decide +kernel
theorem dX5_init_13 : decode cX5_init 13 = .ok (.bipush 6, 2) := by decide +kernel
theorem dX5_init_15 : decode cX5_init 15 = .ok (.newarray .int, 2) := by decide +kernel
theorem dX5_init_17 : decode cX5_init 17 = .ok (.putfield 15, 3) := by decide +kernel
theorem dX5_init_20 : decode cX5_init 20 = .ok (.aload_n 0, 1) := by decide +kernel
theorem dX5_init_21 : decode cX5_init 21 = .ok (.bipush 6, 2) := by decide +kernel
theorem dX5_init_23 : decode cX5_init 23 = .ok (.newarray .int, 2) := by decide +kernel
theorem dX5_init_25 : decode cX5_init 25 = .ok (.putfield 18, 3) := by decide +kernel
theorem dX5_init_28 : decode cX5_init 28 = .ok (.return_, 1) := by decide +kernel
theorem dX5_add_0 : decode cX5_add 0 = .ok (.aload_n 0, 1) := by decide +kernel
theorem dX5_add_1 : decode cX5_add 1 = .ok (.getfield 21, 3) := by decide +kernel
theorem dX5_add_4 : decode cX5_add 4 = .ok (.bipush 6, 2) := by decide +kernel
theorem dX5_add_6 : decode cX5_add 6 = .ok (.if_icmp .lt 5, 3) := by decide +kernel
theorem dX5_add_9 : decode cX5_add 9 = .ok (.iconst 0, 1) := by decide +kernel
theorem dX5_add_10 : decode cX5_add 10 = .ok (.ireturn, 1) := by decide +kernel
theorem dX5_add_11 : decode cX5_add 11 = .ok (.aload_n 0, 1) := by decide +kernel
theorem dX5_add_12 : decode cX5_add 12 = .ok (.getfield 9, 3) := by decide +kernel
theorem dX5_add_15 : decode cX5_add 15 = .ok (.aload_n 0, 1) := by decide +kernel
theorem dX5_add_16 : decode cX5_add 16 = .ok (.getfield 21, 3) := by decide +kernel
theorem dX5_add_19 : decode cX5_add 19 = .ok (.iload_n 1, 1) := by decide +kernel
theorem dX5_add_20 : decode cX5_add 20 = .ok (.iastore, 1) := by decide +kernel
theorem dX5_add_21 : decode cX5_add 21 = .ok (.aload_n 0, 1) := by decide +kernel
theorem dX5_add_22 : decode cX5_add 22 = .ok (.getfield 15, 3) := by decide +kernel
theorem dX5_add_25 : decode cX5_add 25 = .ok (.aload_n 0, 1) := by decide +kernel
theorem dX5_add_26 : decode cX5_add 26 = .ok (.getfield 21, 3) := by decide +kernel
theorem dX5_add_29 : decode cX5_add 29 = .ok (.iload_n 2, 1) := by decide +kernel
theorem dX5_add_30 : decode cX5_add 30 = .ok (.iastore, 1) := by decide +kernel
theorem dX5_add_31 : decode cX5_add 31 = .ok (.aload_n 0, 1) := by decide +kernel
theorem dX5_add_32 : decode cX5_add 32 = .ok (.getfield 18, 3) := by decide +kernel
theorem dX5_add_35 : decode cX5_add 35 = .ok (.aload_n 0, 1) := by decide +kernel
theorem dX5_add_36 : decode cX5_add 36 = .ok (.getfield 21, 3) := by decide +kernel
theorem dX5_add_39 : decode cX5_add 39 = .ok (.iload_n 3, 1) := by decide +kernel
theorem dX5_add_40 : decode cX5_add 40 = .ok (.iastore, 1) := by decide +kernel
theorem dX5_add_41 : decode cX5_add 41 = .ok (.aload_n 0, 1) := by decide +kernel
theorem dX5_add_42 : decode cX5_add 42 = .ok (.dup, 1) := by decide +kernel
theorem dX5_add_43 : decode cX5_add 43 = .ok (.getfield 21, 3) := by decide +kernel
theorem dX5_add_46 : decode cX5_add 46 = .ok (.iconst 1, 1) := by decide +kernel
theorem dX5_add_47 : decode cX5_add 47 = .ok (.iadd, 1) := by decide +kernel
theorem dX5_add_48 : decode cX5_add 48 = .ok (.putfield 21, 3) := by decide +kernel
theorem dX5_add_51 : decode cX5_add 51 = .ok (.iconst 1, 1) := by decide +kernel
theorem dX5_add_52 : decode cX5_add 52 = .ok (.ireturn, 1) := by decide +kernel
set_option maxRecDepth 20000 in
theorem ggX5_comeTrue_X5_lastDay : GoodIn wsX5_comeTrue wsX5_lastDay := goodIn_r _ [5, 6, 7, 8, 9, 10, 11, 47, 48, 49, 50] (by decide +kernel) (by decide +kernel)
set_option maxRecDepth 20000 in
theorem gX5_comeTrue_X5_lastDay : GoodIn wsX5_comeTrue (wsV RX5 25 RX5 yX5_lastDay wsX5_lastDay) := goodIn_app (goodIn_of _ (by decide +kernel)) ggX5_comeTrue_X5_lastDay
set_option maxRecDepth 20000 in
theorem ggX5_comeTrue_X6_goDay : GoodIn wsX5_comeTrue wsX6_goDay := goodIn_r _ [16, 17, 18, 19, 20, 21, 22, 23, 24, 25, 26, 27, 28, 29, 30, 31, 15, 32, 33, 34, 35, 36, 37, 38, 39, 51, 52, 53, 54, 55, 56, 57, 58, 59, 60, 61, 62, 63, 64, 65] (by decide +kernel) (by decide +kernel)
set_option maxRecDepth 20000 in
theorem gX5_comeTrue_X6_goDay : GoodIn wsX5_comeTrue (wsV RX5 29 RX6 yX6_goDay wsX6_goDay) := goodIn_app (goodIn_of _ (by decide +kernel)) ggX5_comeTrue_X6_goDay
set_option maxRecDepth 20000 in
theorem ggX5_comeTrue_X5_areSoOn : GoodIn wsX5_comeTrue wsX5_areSoOn := goodIn_r _ [43, 6, 7, 44, 45, 46, 47, 48, 49, 50, 60, 61, 62, 63, 64, 65] (by decide +kernel) (by decide +kernel)
set_option maxRecDepth 20000 in
theorem gX5_comeTrue_X5_areSoOn : GoodIn wsX5_comeTrue (wsV RX5 35 RX5 yX5_areSoOn wsX5_areSoOn) := goodIn_app (goodIn_of _ (by decide +kernel)) ggX5_comeTrue_X5_areSoOn
theorem dX5_comeTrue_0 : decode cX5_comeTrue 0 = .ok (.aload_n 0, 1) := by decide +kernel
theorem dX5_comeTrue_1 : decode cX5_comeTrue 1 = .ok (.invokevirtual 25, 3) := by decide +kernel
theorem dX5_comeTrue_4 : decode cX5_comeTrue 4 = .ok (.istore_n 3, 1) := by decide +kernel
theorem dX5_comeTrue_5 : decode cX5_comeTrue 5 = .ok (.iconst 1, 1) := by decide +kernel
theorem dX5_comeTrue_6 : decode cX5_comeTrue 6 = .ok (.istore 4, 2) := by decide +kernel
theorem dX5_comeTrue_8 : decode cX5_comeTrue 8 = .ok (.iload 4, 2) := by decide +kernel
theorem dX5_comeTrue_10 : decode cX5_comeTrue 10 = .ok (.iload_n 3, 1) := by decide +kernel
theorem dX5_comeTrue_11 : decode cX5_comeTrue 11 = .ok (.if_icmp .gt 28, 3) := by decide +kernel
theorem dX5_comeTrue_14 : decode cX5_comeTrue 14 = .ok (.aload_n 2, 1) := by decide +kernel
theorem dX5_comeTrue_15 : decode cX5_comeTrue 15 = .ok (.aload_n 1, 1) := by decide +kernel
theorem dX5_comeTrue_16 : decode cX5_comeTrue 16 = .ok (.iconst 0, 1) := by decide +kernel
theorem dX5_comeTrue_17 : decode cX5_comeTrue 17 = .ok (.invokevirtual 29, 3) := by decide +kernel
theorem dX5_comeTrue_20 : decode cX5_comeTrue 20 = .ok (.pop, 1) := by decide +kernel
theorem dX5_comeTrue_21 : decode cX5_comeTrue 21 = .ok (.aload_n 0, 1) := by decide +kernel
theorem dX5_comeTrue_22 : decode cX5_comeTrue 22 = .ok (.iload 4, 2) := by decide +kernel
theorem dX5_comeTrue_24 : decode cX5_comeTrue 24 = .ok (.aload_n 2, 1) := by decide +kernel
theorem dX5_comeTrue_25 : decode cX5_comeTrue 25 = .ok (.invokevirtual 35, 3) := by decide +kernel
theorem dX5_comeTrue_28 : decode cX5_comeTrue 28 = .ok (.ifCond .ne 5, 3) := by decide +kernel
theorem dX5_comeTrue_31 : decode cX5_comeTrue 31 = .ok (.iconst 0, 1) := by decide +kernel
theorem dX5_comeTrue_32 : decode cX5_comeTrue 32 = .ok (.ireturn, 1) := by decide +kernel
theorem dX5_comeTrue_33 : decode cX5_comeTrue 33 = .ok (.iinc 4 1, 3) := by decide +kernel
theorem dX5_comeTrue_36 : decode cX5_comeTrue 36 = .ok (.goto (-28), 3) := by decide +kernel
theorem dX5_comeTrue_39 : decode cX5_comeTrue 39 = .ok (.iconst 1, 1) := by decide +kernel
theorem dX5_comeTrue_40 : decode cX5_comeTrue 40 = .ok (.ireturn, 1) := by decide +kernel
theorem dX5_areSoOn_0 : decode cX5_areSoOn 0 = .ok (.iconst 0, 1) := by decide +kernel
theorem dX5_areSoOn_1 : decode cX5_areSoOn 1 = .ok (.istore_n 3, 1) := by decide +kernel
theorem dX5_areSoOn_2 : decode cX5_areSoOn 2 = .ok (.iload_n 3, 1) := by decide +kernel
theorem dX5_areSoOn_3 : decode cX5_areSoOn 3 = .ok (.aload_n 0, 1) := by decide +kernel
theorem dX5_areSoOn_4 : decode cX5_areSoOn 4 = .ok (.getfield 21, 3) := by decide +kernel
theorem dX5_areSoOn_7 : decode cX5_areSoOn 7 = .ok (.if_icmp .ge 41, 3) := by decide +kernel
theorem dX5_areSoOn_10 : decode cX5_areSoOn 10 = .ok (.aload_n 0, 1) := by decide +kernel
theorem dX5_areSoOn_11 : decode cX5_areSoOn 11 = .ok (.getfield 18, 3) := by decide +kernel
theorem dX5_areSoOn_14 : decode cX5_areSoOn 14 = .ok (.iload_n 3, 1) := by decide +kernel
theorem dX5_areSoOn_15 : decode cX5_areSoOn 15 = .ok (.iaload, 1) := by decide +kernel
theorem dX5_areSoOn_16 : decode cX5_areSoOn 16 = .ok (.iload_n 1, 1) := by decide +kernel
theorem dX5_areSoOn_17 : decode cX5_areSoOn 17 = .ok (.if_icmp .ne 25, 3) := by decide +kernel
theorem dX5_areSoOn_20 : decode cX5_areSoOn 20 = .ok (.aload_n 2, 1) := by decide +kernel
theorem dX5_areSoOn_21 : decode cX5_areSoOn 21 = .ok (.getfield 39, 3) := by decide +kernel
theorem dX5_areSoOn_24 : decode cX5_areSoOn 24 = .ok (.aload_n 0, 1) := by decide +kernel
theorem dX5_areSoOn_25 : decode cX5_areSoOn 25 = .ok (.getfield 9, 3) := by decide +kernel
theorem dX5_areSoOn_28 : decode cX5_areSoOn 28 = .ok (.iload_n 3, 1) := by decide +kernel
theorem dX5_areSoOn_29 : decode cX5_areSoOn 29 = .ok (.iaload, 1) := by decide +kernel
theorem dX5_areSoOn_30 : decode cX5_areSoOn 30 = .ok (.iaload, 1) := by decide +kernel
theorem dX5_areSoOn_31 : decode cX5_areSoOn 31 = .ok (.aload_n 0, 1) := by decide +kernel
theorem dX5_areSoOn_32 : decode cX5_areSoOn 32 = .ok (.getfield 15, 3) := by decide +kernel
theorem dX5_areSoOn_35 : decode cX5_areSoOn 35 = .ok (.iload_n 3, 1) := by decide +kernel
theorem dX5_areSoOn_36 : decode cX5_areSoOn 36 = .ok (.iaload, 1) := by decide +kernel
theorem dX5_areSoOn_37 : decode cX5_areSoOn 37 = .ok (.if_icmp .eq 5, 3) := by decide +kernel
theorem dX5_areSoOn_40 : decode cX5_areSoOn 40 = .ok (.iconst 0, 1) := by decide +kernel
theorem dX5_areSoOn_41 : decode cX5_areSoOn 41 = .ok (.ireturn, 1) := by decide +kernel
theorem dX5_areSoOn_42 : decode cX5_areSoOn 42 = .ok (.iinc 3 1, 3) := by decide +kernel
theorem dX5_areSoOn_45 : decode cX5_areSoOn 45 = .ok (.goto (-43), 3) := by decide +kernel
theorem dX5_areSoOn_48 : decode cX5_areSoOn 48 = .ok (.iconst 1, 1) := by decide +kernel
theorem dX5_areSoOn_49 : decode cX5_areSoOn 49 = .ok (.ireturn, 1) := by decide +kernel
theorem dX5_lastDay_0 : decode cX5_lastDay 0 = .ok (.iconst 0, 1) := by decide +kernel
theorem dX5_lastDay_1 : decode cX5_lastDay 1 = .ok (.istore_n 1, 1) := by decide +kernel
theorem dX5_lastDay_2 : decode cX5_lastDay 2 = .ok (.iconst 0, 1) := by decide +kernel
theorem dX5_lastDay_3 : decode cX5_lastDay 3 = .ok (.istore_n 2, 1) := by decide +kernel
theorem dX5_lastDay_4 : decode cX5_lastDay 4 = .ok (.iload_n 2, 1) := by decide +kernel
theorem dX5_lastDay_5 : decode cX5_lastDay 5 = .ok (.aload_n 0, 1) := by decide +kernel
theorem dX5_lastDay_6 : decode cX5_lastDay 6 = .ok (.getfield 21, 3) := by decide +kernel
theorem dX5_lastDay_9 : decode cX5_lastDay 9 = .ok (.if_icmp .ge 20, 3) := by decide +kernel
theorem dX5_lastDay_12 : decode cX5_lastDay 12 = .ok (.iload_n 1, 1) := by decide +kernel
theorem dX5_lastDay_13 : decode cX5_lastDay 13 = .ok (.aload_n 0, 1) := by decide +kernel
theorem dX5_lastDay_14 : decode cX5_lastDay 14 = .ok (.getfield 18, 3) := by decide +kernel
theorem dX5_lastDay_17 : decode cX5_lastDay 17 = .ok (.iload_n 2, 1) := by decide +kernel
theorem dX5_lastDay_18 : decode cX5_lastDay 18 = .ok (.iaload, 1) := by decide +kernel
theorem dX5_lastDay_19 : decode cX5_lastDay 19 = .ok (.invokestatic 40, 3) := by decide +kernel
theorem dX5_lastDay_22 : decode cX5_lastDay 22 = .ok (.istore_n 1, 1) := by decide +kernel
theorem dX5_lastDay_23 : decode cX5_lastDay 23 = .ok (.iinc 2 1, 3) := by decide +kernel
theorem dX5_lastDay_26 : decode cX5_lastDay 26 = .ok (.goto (-22), 3) := by decide +kernel
theorem dX5_lastDay_29 : decode cX5_lastDay 29 = .ok (.iload_n 1, 1) := by decide +kernel
theorem dX5_lastDay_30 : decode cX5_lastDay 30 = .ok (.ireturn, 1) := by decide +kernel
theorem dX6_init_0 : decode cX6_init 0 = .ok (.aload_n 0, 1) := by decide +kernel
theorem dX6_init_1 : decode cX6_init 1 = .ok (.invokespecial 3, 3) := by decide +kernel
theorem dX6_init_4 : decode cX6_init 4 = .ok (.aload_n 0, 1) := by decide +kernel
theorem dX6_init_5 : decode cX6_init 5 = .ok (.bipush 6, 2) := by decide +kernel
theorem dX6_init_7 : decode cX6_init 7 = .ok (.newarray .int, 2) := by decide +kernel
theorem dX6_init_9 : decode cX6_init 9 = .ok (.putfield 9, 3) := by decide +kernel
theorem dX6_init_12 : decode cX6_init 12 = .ok (.aload_n 0, 1) := by decide +kernel
theorem dX6_init_13 : decode cX6_init 13 = .ok (.bipush 9, 2) := by decide +kernel
theorem dX6_init_15 : decode cX6_init 15 = .ok (.newarray .int, 2) := by decide +kernel
theorem dX6_init_17 : decode cX6_init 17 = .ok (.putfield 15, 3) := by decide +kernel
theorem dX6_init_20 : decode cX6_init 20 = .ok (.aload_n 0, 1) := by decide +kernel
theorem dX6_init_21 : decode cX6_init 21 = .ok (.bipush 18, 2) := by decide +kernel
theorem dX6_init_23 : decode cX6_init 23 = .ok (.newarray .int, 2) := by decide +kernel
theorem dX6_init_25 : decode cX6_init 25 = .ok (.putfield 18, 3) := by decide +kernel
theorem dX6_init_28 : decode cX6_init 28 = .ok (.aload_n 0, 1) := by decide +kernel
theorem dX6_init_29 : decode cX6_init 29 = .ok (.bipush 18, 2) := by decide +kernel
theorem dX6_init_31 : decode cX6_init 31 = .ok (.newarray .int, 2) := by decide +kernel
theorem dX6_init_33 : decode cX6_init 33 = .ok (.putfield 21, 3) := by decide +kernel
theorem dX6_init_36 : decode cX6_init 36 = .ok (.return_, 1) := by decide +kernel
set_option maxRecDepth 20000 in
theorem ggX6_begin_X6_shareEvenly : GoodIn wsX6_begin wsX6_shareEvenly := goodIn_r _ [13, 14, 4, 15, 16, 17, 18, 19, 20, 21, 22, 23, 24, 25, 26, 33, 34, 35, 36, 37, 38, 39, 40, 41, 27, 28, 29, 30, 31, 32] (by decide +kernel) (by decide +kernel)
set_option maxRecDepth 20000 in
theorem gX6_begin_X6_shareEvenly : GoodIn wsX6_begin (wsV RX6 42 RX6 yX6_shareEvenly wsX6_shareEvenly) := goodIn_app (goodIn_of _ (by decide +kernel)) ggX6_begin_X6_shareEvenly
theorem dX6_begin_0 : decode cX6_begin 0 = .ok (.aload_n 0, 1) := by decide +kernel
theorem dX6_begin_1 : decode cX6_begin 1 = .ok (.iconst 0, 1) := by decide +kernel
theorem dX6_begin_2 : decode cX6_begin 2 = .ok (.putfield 24, 3) := by decide +kernel
theorem dX6_begin_5 : decode cX6_begin 5 = .ok (.aload_n 0, 1) := by decide +kernel
theorem dX6_begin_6 : decode cX6_begin 6 = .ok (.iconst 0, 1) := by decide +kernel
theorem dX6_begin_7 : decode cX6_begin 7 = .ok (.putfield 28, 3) := by decide +kernel
theorem dX6_begin_10 : decode cX6_begin 10 = .ok (.iconst 0, 1) := by decide +kernel
theorem dX6_begin_11 : decode cX6_begin 11 = .ok (.istore_n 2, 1) := by decide +kernel
theorem dX6_begin_12 : decode cX6_begin 12 = .ok (.iload_n 2, 1) := by decide +kernel
theorem dX6_begin_13 : decode cX6_begin 13 = .ok (.aload_n 0, 1) := by decide +kernel
theorem dX6_begin_14 : decode cX6_begin 14 = .ok (.getfield 15, 3) := by decide +kernel
theorem dX6_begin_17 : decode cX6_begin 17 = .ok (.arraylength, 1) := by decide +kernel
theorem dX6_begin_18 : decode cX6_begin 18 = .ok (.if_icmp .ge 16, 3) := by decide +kernel
theorem dX6_begin_21 : decode cX6_begin 21 = .ok (.aload_n 0, 1) := by decide +kernel
theorem dX6_begin_22 : decode cX6_begin 22 = .ok (.getfield 15, 3) := by decide +kernel
theorem dX6_begin_25 : decode cX6_begin 25 = .ok (.iload_n 2, 1) := by decide +kernel
theorem dX6_begin_26 : decode cX6_begin 26 = .ok (.iconst 0, 1) := by decide +kernel
theorem dX6_begin_27 : decode cX6_begin 27 = .ok (.iastore, 1) := by decide +kernel
theorem dX6_begin_28 : decode cX6_begin 28 = .ok (.iinc 2 1, 3) := by decide +kernel
theorem dX6_begin_31 : decode cX6_begin 31 = .ok (.goto (-19), 3) := by decide +kernel
theorem dX6_begin_34 : decode cX6_begin 34 = .ok (.iconst 0, 1) := by decide +kernel
theorem dX6_begin_35 : decode cX6_begin 35 = .ok (.istore_n 2, 1) := by decide +kernel
theorem dX6_begin_36 : decode cX6_begin 36 = .ok (.iload_n 2, 1) := by decide +kernel
theorem dX6_begin_37 : decode cX6_begin 37 = .ok (.aload_n 0, 1) := by decide +kernel
theorem dX6_begin_38 : decode cX6_begin 38 = .ok (.getfield 18, 3) := by decide +kernel
theorem dX6_begin_41 : decode cX6_begin 41 = .ok (.arraylength, 1) := by decide +kernel
theorem dX6_begin_42 : decode cX6_begin 42 = .ok (.if_icmp .ge 16, 3) := by decide +kernel
theorem dX6_begin_45 : decode cX6_begin 45 = .ok (.aload_n 0, 1) := by decide +kernel
theorem dX6_begin_46 : decode cX6_begin 46 = .ok (.getfield 18, 3) := by decide +kernel
theorem dX6_begin_49 : decode cX6_begin 49 = .ok (.iload_n 2, 1) := by decide +kernel
theorem dX6_begin_50 : decode cX6_begin 50 = .ok (.iconst 0, 1) := by decide +kernel
theorem dX6_begin_51 : decode cX6_begin 51 = .ok (.iastore, 1) := by decide +kernel
theorem dX6_begin_52 : decode cX6_begin 52 = .ok (.iinc 2 1, 3) := by decide +kernel
theorem dX6_begin_55 : decode cX6_begin 55 = .ok (.goto (-19), 3) := by decide +kernel
theorem dX6_begin_58 : decode cX6_begin 58 = .ok (.iconst 0, 1) := by decide +kernel
theorem dX6_begin_59 : decode cX6_begin 59 = .ok (.istore_n 2, 1) := by decide +kernel
theorem dX6_begin_60 : decode cX6_begin 60 = .ok (.iload_n 2, 1) := by decide +kernel
theorem dX6_begin_61 : decode cX6_begin 61 = .ok (.aload_n 1, 1) := by decide +kernel
theorem dX6_begin_62 : decode cX6_begin 62 = .ok (.getfield 31, 3) := by decide +kernel
theorem dX6_begin_65 : decode cX6_begin 65 = .ok (.if_icmp .ge 33, 3) := by decide +kernel
theorem dX6_begin_68 : decode cX6_begin 68 = .ok (.aload_n 0, 1) := by decide +kernel
theorem dX6_begin_69 : decode cX6_begin 69 = .ok (.getfield 9, 3) := by decide +kernel
theorem dX6_begin_72 : decode cX6_begin 72 = .ok (.iload_n 2, 1) := by decide +kernel
theorem dX6_begin_73 : decode cX6_begin 73 = .ok (.aload_n 1, 1) := by decide +kernel
theorem dX6_begin_74 : decode cX6_begin 74 = .ok (.getfield 36, 3) := by decide +kernel
theorem dX6_begin_77 : decode cX6_begin 77 = .ok (.iload_n 2, 1) := by decide +kernel
theorem dX6_begin_78 : decode cX6_begin 78 = .ok (.iaload, 1) := by decide +kernel
theorem dX6_begin_79 : decode cX6_begin 79 = .ok (.iastore, 1) := by decide +kernel
theorem dX6_begin_80 : decode cX6_begin 80 = .ok (.aload_n 0, 1) := by decide +kernel
theorem dX6_begin_81 : decode cX6_begin 81 = .ok (.aload_n 1, 1) := by decide +kernel
theorem dX6_begin_82 : decode cX6_begin 82 = .ok (.iload_n 2, 1) := by decide +kernel
theorem dX6_begin_83 : decode cX6_begin 83 = .ok (.aload_n 1, 1) := by decide +kernel
theorem dX6_begin_84 : decode cX6_begin 84 = .ok (.getfield 39, 3) := by decide +kernel
theorem dX6_begin_87 : decode cX6_begin 87 = .ok (.iload_n 2, 1) := by decide +kernel
theorem dX6_begin_88 : decode cX6_begin 88 = .ok (.iaload, 1) := by decide +kernel
theorem dX6_begin_89 : decode cX6_begin 89 = .ok (.invokevirtual 42, 3) := by decide +kernel
theorem dX6_begin_92 : decode cX6_begin 92 = .ok (.iinc 2 1, 3) := by decide +kernel
theorem dX6_begin_95 : decode cX6_begin 95 = .ok (.goto (-35), 3) := by decide +kernel
theorem dX6_begin_98 : decode cX6_begin 98 = .ok (.return_, 1) := by decide +kernel
theorem dX6_takeOver_0 : decode cX6_takeOver 0 = .ok (.aload_n 0, 1) := by decide +kernel
theorem dX6_takeOver_1 : decode cX6_takeOver 1 = .ok (.aload_n 1, 1) := by decide +kernel
theorem dX6_takeOver_2 : decode cX6_takeOver 2 = .ok (.getfield 24, 3) := by decide +kernel
theorem dX6_takeOver_5 : decode cX6_takeOver 5 = .ok (.putfield 24, 3) := by decide +kernel
theorem dX6_takeOver_8 : decode cX6_takeOver 8 = .ok (.aload_n 0, 1) := by decide +kernel
theorem dX6_takeOver_9 : decode cX6_takeOver 9 = .ok (.aload_n 1, 1) := by decide +kernel
theorem dX6_takeOver_10 : decode cX6_takeOver 10 = .ok (.getfield 28, 3) := by decide +kernel
theorem dX6_takeOver_13 : decode cX6_takeOver 13 = .ok (.putfield 28, 3) := by decide +kernel
theorem dX6_takeOver_16 : decode cX6_takeOver 16 = .ok (.aload_n 1, 1) := by decide +kernel
theorem dX6_takeOver_17 : decode cX6_takeOver 17 = .ok (.getfield 9, 3) := by decide +kernel
theorem dX6_takeOver_20 : decode cX6_takeOver 20 = .ok (.iconst 0, 1) := by decide +kernel
theorem dX6_takeOver_21 : decode cX6_takeOver 21 = .ok (.aload_n 0, 1) := by decide +kernel
theorem dX6_takeOver_22 : decode cX6_takeOver 22 = .ok (.getfield 9, 3) := by decide +kernel
theorem dX6_takeOver_25 : decode cX6_takeOver 25 = .ok (.iconst 0, 1) := by decide +kernel
theorem dX6_takeOver_26 : decode cX6_takeOver 26 = .ok (.aload_n 0, 1) := by decide +kernel
theorem dX6_takeOver_27 : decode cX6_takeOver 27 = .ok (.getfield 9, 3) := by decide +kernel
theorem dX6_takeOver_30 : decode cX6_takeOver 30 = .ok (.arraylength, 1) := by decide +kernel
theorem dX6_takeOver_31 : decode cX6_takeOver 31 = .ok (.invokestatic 46, 3) := by decide +kernel
theorem dX6_takeOver_34 : decode cX6_takeOver 34 = .ok (.aload_n 1, 1) := by decide +kernel
theorem dX6_takeOver_35 : decode cX6_takeOver 35 = .ok (.getfield 15, 3) := by decide +kernel
theorem dX6_takeOver_38 : decode cX6_takeOver 38 = .ok (.iconst 0, 1) := by decide +kernel
theorem dX6_takeOver_39 : decode cX6_takeOver 39 = .ok (.aload_n 0, 1) := by decide +kernel
theorem dX6_takeOver_40 : decode cX6_takeOver 40 = .ok (.getfield 15, 3) := by decide +kernel
theorem dX6_takeOver_43 : decode cX6_takeOver 43 = .ok (.iconst 0, 1) := by decide +kernel
theorem dX6_takeOver_44 : decode cX6_takeOver 44 = .ok (.aload_n 0, 1) := by decide +kernel
theorem dX6_takeOver_45 : decode cX6_takeOver 45 = .ok (.getfield 15, 3) := by decide +kernel
theorem dX6_takeOver_48 : decode cX6_takeOver 48 = .ok (.arraylength, 1) := by decide +kernel
theorem dX6_takeOver_49 : decode cX6_takeOver 49 = .ok (.invokestatic 46, 3) := by decide +kernel
theorem dX6_takeOver_52 : decode cX6_takeOver 52 = .ok (.aload_n 1, 1) := by decide +kernel
theorem dX6_takeOver_53 : decode cX6_takeOver 53 = .ok (.getfield 18, 3) := by decide +kernel
theorem dX6_takeOver_56 : decode cX6_takeOver 56 = .ok (.iconst 0, 1) := by decide +kernel
theorem dX6_takeOver_57 : decode cX6_takeOver 57 = .ok (.aload_n 0, 1) := by decide +kernel
theorem dX6_takeOver_58 : decode cX6_takeOver 58 = .ok (.getfield 18, 3) := by decide +kernel
theorem dX6_takeOver_61 : decode cX6_takeOver 61 = .ok (.iconst 0, 1) := by decide +kernel
theorem dX6_takeOver_62 : decode cX6_takeOver 62 = .ok (.aload_n 0, 1) := by decide +kernel
theorem dX6_takeOver_63 : decode cX6_takeOver 63 = .ok (.getfield 18, 3) := by decide +kernel
theorem dX6_takeOver_66 : decode cX6_takeOver 66 = .ok (.arraylength, 1) := by decide +kernel
theorem dX6_takeOver_67 : decode cX6_takeOver 67 = .ok (.invokestatic 46, 3) := by decide +kernel
theorem dX6_takeOver_70 : decode cX6_takeOver 70 = .ok (.return_, 1) := by decide +kernel
theorem dX6_isSick_0 : decode cX6_isSick 0 = .ok (.aload_n 0, 1) := by decide +kernel
theorem dX6_isSick_1 : decode cX6_isSick 1 = .ok (.getfield 28, 3) := by decide +kernel
theorem dX6_isSick_4 : decode cX6_isSick 4 = .ok (.iload_n 1, 1) := by decide +kernel
theorem dX6_isSick_5 : decode cX6_isSick 5 = .ok (.ishr, 1) := by decide +kernel
theorem dX6_isSick_6 : decode cX6_isSick 6 = .ok (.iconst 1, 1) := by decide +kernel
theorem dX6_isSick_7 : decode cX6_isSick 7 = .ok (.iand, 1) := by decide +kernel
theorem dX6_isSick_8 : decode cX6_isSick 8 = .ok (.iconst 1, 1) := by decide +kernel
theorem dX6_isSick_9 : decode cX6_isSick 9 = .ok (.if_icmp .ne 7, 3) := by decide +kernel
theorem dX6_isSick_12 : decode cX6_isSick 12 = .ok (.iconst 1, 1) := by decide +kernel
theorem dX6_isSick_13 : decode cX6_isSick 13 = .ok (.goto 4, 3) := by decide +kernel
theorem dX6_isSick_16 : decode cX6_isSick 16 = .ok (.iconst 0, 1) := by decide +kernel
theorem dX6_isSick_17 : decode cX6_isSick 17 = .ok (.ireturn, 1) := by decide +kernel
theorem dX6_turnSickness_0 : decode cX6_turnSickness 0 = .ok (.aload_n 0, 1) := by decide +kernel
theorem dX6_turnSickness_1 : decode cX6_turnSickness 1 = .ok (.dup, 1) := by decide +kernel
theorem dX6_turnSickness_2 : decode cX6_turnSickness 2 = .ok (.getfield 28, 3) := by decide +kernel
theorem dX6_turnSickness_5 : decode cX6_turnSickness 5 = .ok (.iconst 1, 1) := by decide +kernel
theorem dX6_turnSickness_6 : decode cX6_turnSickness 6 = .ok (.iload_n 1, 1) := by decide +kernel
theorem dX6_turnSickness_7 : decode cX6_turnSickness 7 = .ok (.ishl, 1) := by decide +kernel
theorem dX6_turnSickness_8 : decode cX6_turnSickness 8 = .ok (.ixor, 1) := by decide +kernel
theorem dX6_turnSickness_9 : decode cX6_turnSickness 9 = .ok (.putfield 28, 3) := by decide +kernel
theorem dX6_turnSickness_12 : decode cX6_turnSickness 12 = .ok (.return_, 1) := by decide +kernel
set_option maxRecDepth 20000 in
theorem ggX6_shareEvenly_X1_wallsOf : GoodIn wsX6_shareEvenly wsX1_wallsOf := goodIn_r _ [7, 8, 9, 10, 11, 6, 12, 13, 15, 16, 17, 18, 19, 20, 21, 22, 23] (by decide +kernel) (by decide +kernel)
set_option maxRecDepth 20000 in
theorem gX6_shareEvenly_X1_wallsOf : GoodIn wsX6_shareEvenly (wsV RX6 52 RX1 yX1_wallsOf wsX1_wallsOf) := goodIn_app (goodIn_of _ (by decide +kernel)) ggX6_shareEvenly_X1_wallsOf
set_option maxRecDepth 20000 in
theorem ggX6_shareEvenly_X1_sides : GoodIn wsX6_shareEvenly wsX1_sides := goodIn_r _ [12, 13, 15, 16, 17, 18, 19, 20, 21, 22, 23] (by decide +kernel) (by decide +kernel)
set_option maxRecDepth 20000 in
theorem gX6_shareEvenly_X1_sides : GoodIn wsX6_shareEvenly (wsV RX6 56 RX1 yX1_sides wsX1_sides) := goodIn_app (goodIn_of _ (by decide +kernel)) ggX6_shareEvenly_X1_sides
theorem dX6_shareEvenly_0 : decode cX6_shareEvenly 0 = .ok (.aload_n 1, 1) := by decide +kernel
theorem dX6_shareEvenly_1 : decode cX6_shareEvenly 1 = .ok (.iload_n 2, 1) := by decide +kernel
theorem dX6_shareEvenly_2 : decode cX6_shareEvenly 2 = .ok (.invokevirtual 52, 3) := by decide +kernel
theorem dX6_shareEvenly_5 : decode cX6_shareEvenly 5 = .ok (.istore 4, 2) := by decide +kernel
theorem dX6_shareEvenly_7 : decode cX6_shareEvenly 7 = .ok (.iload 4, 2) := by decide +kernel
theorem dX6_shareEvenly_9 : decode cX6_shareEvenly 9 = .ok (.ifCond .ne 4, 3) := by decide +kernel
theorem dX6_shareEvenly_12 : decode cX6_shareEvenly 12 = .ok (.return_, 1) := by decide +kernel
theorem dX6_shareEvenly_13 : decode cX6_shareEvenly 13 = .ok (.iload_n 3, 1) := by decide +kernel
theorem dX6_shareEvenly_14 : decode cX6_shareEvenly 14 = .ok (.iload 4, 2) := by decide +kernel
theorem dX6_shareEvenly_16 : decode cX6_shareEvenly 16 = .ok (.idiv, 1) := by decide +kernel
theorem dX6_shareEvenly_17 : decode cX6_shareEvenly 17 = .ok (.istore 5, 2) := by decide +kernel
theorem dX6_shareEvenly_19 : decode cX6_shareEvenly 19 = .ok (.iload_n 3, 1) := by decide +kernel
theorem dX6_shareEvenly_20 : decode cX6_shareEvenly 20 = .ok (.iload 4, 2) := by decide +kernel
theorem dX6_shareEvenly_22 : decode cX6_shareEvenly 22 = .ok (.irem, 1) := by decide +kernel
theorem dX6_shareEvenly_23 : decode cX6_shareEvenly 23 = .ok (.istore 6, 2) := by decide +kernel
theorem dX6_shareEvenly_25 : decode cX6_shareEvenly 25 = .ok (.iconst 0, 1) := by decide +kernel
theorem dX6_shareEvenly_26 : decode cX6_shareEvenly 26 = .ok (.istore 7, 2) := by decide +kernel
theorem dX6_shareEvenly_28 : decode cX6_shareEvenly 28 = .ok (.iload 7, 2) := by decide +kernel
theorem dX6_shareEvenly_30 : decode cX6_shareEvenly 30 = .ok (.aload_n 1, 1) := by decide +kernel
theorem dX6_shareEvenly_31 : decode cX6_shareEvenly 31 = .ok (.invokevirtual 56, 3) := by decide +kernel
theorem dX6_shareEvenly_34 : decode cX6_shareEvenly 34 = .ok (.if_icmp .ge 44, 3) := by decide +kernel
theorem dX6_shareEvenly_37 : decode cX6_shareEvenly 37 = .ok (.aload_n 1, 1) := by decide +kernel
theorem dX6_shareEvenly_38 : decode cX6_shareEvenly 38 = .ok (.getfield 60, 3) := by decide +kernel
theorem dX6_shareEvenly_41 : decode cX6_shareEvenly 41 = .ok (.iload 7, 2) := by decide +kernel
theorem dX6_shareEvenly_43 : decode cX6_shareEvenly 43 = .ok (.iaload, 1) := by decide +kernel
theorem dX6_shareEvenly_44 : decode cX6_shareEvenly 44 = .ok (.iload_n 2, 1) := by decide +kernel
theorem dX6_shareEvenly_45 : decode cX6_shareEvenly 45 = .ok (.if_icmp .ne 27, 3) := by decide +kernel
theorem dX6_shareEvenly_48 : decode cX6_shareEvenly 48 = .ok (.aload_n 0, 1) := by decide +kernel
theorem dX6_shareEvenly_49 : decode cX6_shareEvenly 49 = .ok (.getfield 18, 3) := by decide +kernel
theorem dX6_shareEvenly_52 : decode cX6_shareEvenly 52 = .ok (.iload 7, 2) := by decide +kernel
theorem dX6_shareEvenly_54 : decode cX6_shareEvenly 54 = .ok (.iload 6, 2) := by decide +kernel
theorem dX6_shareEvenly_56 : decode cX6_shareEvenly 56 = .ok (.ifCond .le 10, 3) := by decide +kernel
theorem dX6_shareEvenly_59 : decode cX6_shareEvenly 59 = .ok (.iload 5, 2) := by decide +kernel
theorem dX6_shareEvenly_61 : decode cX6_shareEvenly 61 = .ok (.iconst 1, 1) := by decide +kernel
theorem dX6_shareEvenly_62 : decode cX6_shareEvenly 62 = .ok (.iadd, 1) := by decide +kernel
theorem dX6_shareEvenly_63 : decode cX6_shareEvenly 63 = .ok (.goto 5, 3) := by decide +kernel
theorem dX6_shareEvenly_66 : decode cX6_shareEvenly 66 = .ok (.iload 5, 2) := by decide +kernel
theorem dX6_shareEvenly_68 : decode cX6_shareEvenly 68 = .ok (.iastore, 1) := by decide +kernel
theorem dX6_shareEvenly_69 : decode cX6_shareEvenly 69 = .ok (.iinc 6 (-1), 3) := by decide +kernel
theorem dX6_shareEvenly_72 : decode cX6_shareEvenly 72 = .ok (.iinc 7 1, 3) := by decide +kernel
theorem dX6_shareEvenly_75 : decode cX6_shareEvenly 75 = .ok (.goto (-47), 3) := by decide +kernel
theorem dX6_shareEvenly_78 : decode cX6_shareEvenly 78 = .ok (.return_, 1) := by decide +kernel
set_option maxRecDepth 20000 in
theorem ggX6_shareBy_X1_sides : GoodIn wsX6_shareBy wsX1_sides := goodIn_r _ [7, 8, 9, 10, 11, 12, 13, 14, 15, 16, 17] (by decide +kernel) (by decide +kernel)
set_option maxRecDepth 20000 in
theorem gX6_shareBy_X1_sides : GoodIn wsX6_shareBy (wsV RX6 56 RX1 yX1_sides wsX1_sides) := goodIn_app (goodIn_of _ (by decide +kernel)) ggX6_shareBy_X1_sides
theorem dX6_shareBy_0 : decode cX6_shareBy 0 = .ok (.iconst 0, 1) := by decide +kernel
theorem dX6_shareBy_1 : decode cX6_shareBy 1 = .ok (.istore 4, 2) := by decide +kernel
theorem dX6_shareBy_3 : decode cX6_shareBy 3 = .ok (.iconst 0, 1) := by decide +kernel
theorem dX6_shareBy_4 : decode cX6_shareBy 4 = .ok (.istore 5, 2) := by decide +kernel
theorem dX6_shareBy_6 : decode cX6_shareBy 6 = .ok (.iload 5, 2) := by decide +kernel
theorem dX6_shareBy_8 : decode cX6_shareBy 8 = .ok (.aload_n 1, 1) := by decide +kernel
theorem dX6_shareBy_9 : decode cX6_shareBy 9 = .ok (.invokevirtual 56, 3) := by decide +kernel
theorem dX6_shareBy_12 : decode cX6_shareBy 12 = .ok (.if_icmp .ge 41, 3) := by decide +kernel
theorem dX6_shareBy_15 : decode cX6_shareBy 15 = .ok (.aload_n 1, 1) := by decide +kernel
theorem dX6_shareBy_16 : decode cX6_shareBy 16 = .ok (.getfield 60, 3) := by decide +kernel
theorem dX6_shareBy_19 : decode cX6_shareBy 19 = .ok (.iload 5, 2) := by decide +kernel
theorem dX6_shareBy_21 : decode cX6_shareBy 21 = .ok (.iaload, 1) := by decide +kernel
theorem dX6_shareBy_22 : decode cX6_shareBy 22 = .ok (.iload_n 2, 1) := by decide +kernel
theorem dX6_shareBy_23 : decode cX6_shareBy 23 = .ok (.if_icmp .ne 24, 3) := by decide +kernel
theorem dX6_shareBy_26 : decode cX6_shareBy 26 = .ok (.iload 4, 2) := by decide +kernel
theorem dX6_shareBy_28 : decode cX6_shareBy 28 = .ok (.aload_n 3, 1) := by decide +kernel
theorem dX6_shareBy_29 : decode cX6_shareBy 29 = .ok (.arraylength, 1) := by decide +kernel
theorem dX6_shareBy_30 : decode cX6_shareBy 30 = .ok (.if_icmp .ge 17, 3) := by decide +kernel
theorem dX6_shareBy_33 : decode cX6_shareBy 33 = .ok (.aload_n 0, 1) := by decide +kernel
theorem dX6_shareBy_34 : decode cX6_shareBy 34 = .ok (.getfield 18, 3) := by decide +kernel
theorem dX6_shareBy_37 : decode cX6_shareBy 37 = .ok (.iload 5, 2) := by decide +kernel
theorem dX6_shareBy_39 : decode cX6_shareBy 39 = .ok (.aload_n 3, 1) := by decide +kernel
theorem dX6_shareBy_40 : decode cX6_shareBy 40 = .ok (.iload 4, 2) := by decide +kernel
theorem dX6_shareBy_42 : decode cX6_shareBy 42 = .ok (.iaload, 1) := by decide +kernel
theorem dX6_shareBy_43 : decode cX6_shareBy 43 = .ok (.iastore, 1) := by decide +kernel
theorem dX6_shareBy_44 : decode cX6_shareBy 44 = .ok (.iinc 4 1, 3) := by decide +kernel
theorem dX6_shareBy_47 : decode cX6_shareBy 47 = .ok (.iinc 5 1, 3) := by decide +kernel
theorem dX6_shareBy_50 : decode cX6_shareBy 50 = .ok (.goto (-44), 3) := by decide +kernel
theorem dX6_shareBy_53 : decode cX6_shareBy 53 = .ok (.return_, 1) := by decide +kernel
set_option maxRecDepth 20000 in
theorem ggX6_sharedBy_X1_sides : GoodIn wsX6_sharedBy wsX1_sides := goodIn_r _ [7, 8, 9, 10, 11, 12, 13, 14, 15, 16, 17] (by decide +kernel) (by decide +kernel)
set_option maxRecDepth 20000 in
theorem gX6_sharedBy_X1_sides : GoodIn wsX6_sharedBy (wsV RX6 56 RX1 yX1_sides wsX1_sides) := goodIn_app (goodIn_of _ (by decide +kernel)) ggX6_sharedBy_X1_sides
theorem dX6_sharedBy_0 : decode cX6_sharedBy 0 = .ok (.iconst 0, 1) := by decide +kernel
theorem dX6_sharedBy_1 : decode cX6_sharedBy 1 = .ok (.istore_n 3, 1) := by decide +kernel
theorem dX6_sharedBy_2 : decode cX6_sharedBy 2 = .ok (.iconst 0, 1) := by decide +kernel
theorem dX6_sharedBy_3 : decode cX6_sharedBy 3 = .ok (.istore 4, 2) := by decide +kernel
theorem dX6_sharedBy_5 : decode cX6_sharedBy 5 = .ok (.iload 4, 2) := by decide +kernel
theorem dX6_sharedBy_7 : decode cX6_sharedBy 7 = .ok (.aload_n 1, 1) := by decide +kernel
theorem dX6_sharedBy_8 : decode cX6_sharedBy 8 = .ok (.invokevirtual 56, 3) := by decide +kernel
theorem dX6_sharedBy_11 : decode cX6_sharedBy 11 = .ok (.if_icmp .ge 30, 3) := by decide +kernel
theorem dX6_sharedBy_14 : decode cX6_sharedBy 14 = .ok (.aload_n 1, 1) := by decide +kernel
theorem dX6_sharedBy_15 : decode cX6_sharedBy 15 = .ok (.getfield 60, 3) := by decide +kernel
theorem dX6_sharedBy_18 : decode cX6_sharedBy 18 = .ok (.iload 4, 2) := by decide +kernel
theorem dX6_sharedBy_20 : decode cX6_sharedBy 20 = .ok (.iaload, 1) := by decide +kernel
theorem dX6_sharedBy_21 : decode cX6_sharedBy 21 = .ok (.iload_n 2, 1) := by decide +kernel
theorem dX6_sharedBy_22 : decode cX6_sharedBy 22 = .ok (.if_icmp .ne 13, 3) := by decide +kernel
theorem dX6_sharedBy_25 : decode cX6_sharedBy 25 = .ok (.iload_n 3, 1) := by decide +kernel
theorem dX6_sharedBy_26 : decode cX6_sharedBy 26 = .ok (.aload_n 0, 1) := by decide +kernel
theorem dX6_sharedBy_27 : decode cX6_sharedBy 27 = .ok (.getfield 18, 3) := by decide +kernel
theorem dX6_sharedBy_30 : decode cX6_sharedBy 30 = .ok (.iload 4, 2) := by decide +kernel
theorem dX6_sharedBy_32 : decode cX6_sharedBy 32 = .ok (.iaload, 1) := by decide +kernel
theorem dX6_sharedBy_33 : decode cX6_sharedBy 33 = .ok (.iadd, 1) := by decide +kernel
theorem dX6_sharedBy_34 : decode cX6_sharedBy 34 = .ok (.istore_n 3, 1) := by decide +kernel
theorem dX6_sharedBy_35 : decode cX6_sharedBy 35 = .ok (.iinc 4 1, 3) := by decide +kernel
theorem dX6_sharedBy_38 : decode cX6_sharedBy 38 = .ok (.goto (-33), 3) := by decide +kernel
theorem dX6_sharedBy_41 : decode cX6_sharedBy 41 = .ok (.iload_n 3, 1) := by decide +kernel
theorem dX6_sharedBy_42 : decode cX6_sharedBy 42 = .ok (.ireturn, 1) := by decide +kernel
theorem dX6_treeOwner_0 : decode cX6_treeOwner 0 = .ok (.aload_n 1, 1) := by decide +kernel
theorem dX6_treeOwner_1 : decode cX6_treeOwner 1 = .ok (.getfield 63, 3) := by decide +kernel
theorem dX6_treeOwner_4 : decode cX6_treeOwner 4 = .ok (.iload_n 2, 1) := by decide +kernel
theorem dX6_treeOwner_5 : decode cX6_treeOwner 5 = .ok (.iaload, 1) := by decide +kernel
theorem dX6_treeOwner_6 : decode cX6_treeOwner 6 = .ok (.istore_n 3, 1) := by decide +kernel
theorem dX6_treeOwner_7 : decode cX6_treeOwner 7 = .ok (.aload_n 1, 1) := by decide +kernel
theorem dX6_treeOwner_8 : decode cX6_treeOwner 8 = .ok (.getfield 60, 3) := by decide +kernel
theorem dX6_treeOwner_11 : decode cX6_treeOwner 11 = .ok (.aload_n 0, 1) := by decide +kernel
theorem dX6_treeOwner_12 : decode cX6_treeOwner 12 = .ok (.getfield 15, 3) := by decide +kernel
theorem dX6_treeOwner_15 : decode cX6_treeOwner 15 = .ok (.iload_n 3, 1) := by decide +kernel
theorem dX6_treeOwner_16 : decode cX6_treeOwner 16 = .ok (.iaload, 1) := by decide +kernel
theorem dX6_treeOwner_17 : decode cX6_treeOwner 17 = .ok (.aload_n 1, 1) := by decide +kernel
theorem dX6_treeOwner_18 : decode cX6_treeOwner 18 = .ok (.getfield 66, 3) := by decide +kernel
theorem dX6_treeOwner_21 : decode cX6_treeOwner 21 = .ok (.iload_n 2, 1) := by decide +kernel
theorem dX6_treeOwner_22 : decode cX6_treeOwner 22 = .ok (.iaload, 1) := by decide +kernel
theorem dX6_treeOwner_23 : decode cX6_treeOwner 23 = .ok (.if_icmp .lt 9, 3) := by decide +kernel
theorem dX6_treeOwner_26 : decode cX6_treeOwner 26 = .ok (.iconst 2, 1) := by decide +kernel
theorem dX6_treeOwner_27 : decode cX6_treeOwner 27 = .ok (.iload_n 3, 1) := by decide +kernel
theorem dX6_treeOwner_28 : decode cX6_treeOwner 28 = .ok (.imul, 1) := by decide +kernel
theorem dX6_treeOwner_29 : decode cX6_treeOwner 29 = .ok (.goto 8, 3) := by decide +kernel
theorem dX6_treeOwner_32 : decode cX6_treeOwner 32 = .ok (.iconst 2, 1) := by decide +kernel
theorem dX6_treeOwner_33 : decode cX6_treeOwner 33 = .ok (.iload_n 3, 1) := by decide +kernel
theorem dX6_treeOwner_34 : decode cX6_treeOwner 34 = .ok (.imul, 1) := by decide +kernel
theorem dX6_treeOwner_35 : decode cX6_treeOwner 35 = .ok (.iconst 1, 1) := by decide +kernel
theorem dX6_treeOwner_36 : decode cX6_treeOwner 36 = .ok (.iadd, 1) := by decide +kernel
theorem dX6_treeOwner_37 : decode cX6_treeOwner 37 = .ok (.iaload, 1) := by decide +kernel
theorem dX6_treeOwner_38 : decode cX6_treeOwner 38 = .ok (.ireturn, 1) := by decide +kernel
theorem dX6_does_0 : decode cX6_does 0 = .ok (.aload_n 0, 1) := by decide +kernel
theorem dX6_does_1 : decode cX6_does 1 = .ok (.getfield 24, 3) := by decide +kernel
theorem dX6_does_4 : decode cX6_does 4 = .ok (.bipush 7, 2) := by decide +kernel
theorem dX6_does_6 : decode cX6_does 6 = .ok (.irem, 1) := by decide +kernel
theorem dX6_does_7 : decode cX6_does 7 = .ok (.bipush 6, 2) := by decide +kernel
theorem dX6_does_9 : decode cX6_does 9 = .ok (.if_icmp .ne 5, 3) := by decide +kernel
theorem dX6_does_12 : decode cX6_does 12 = .ok (.iconst 0, 1) := by decide +kernel
theorem dX6_does_13 : decode cX6_does 13 = .ok (.ireturn, 1) := by decide +kernel
theorem dX6_does_14 : decode cX6_does 14 = .ok (.aload_n 1, 1) := by decide +kernel
theorem dX6_does_15 : decode cX6_does 15 = .ok (.getfield 60, 3) := by decide +kernel
theorem dX6_does_18 : decode cX6_does 18 = .ok (.iload_n 2, 1) := by decide +kernel
theorem dX6_does_19 : decode cX6_does 19 = .ok (.iaload, 1) := by decide +kernel
theorem dX6_does_20 : decode cX6_does 20 = .ok (.istore_n 3, 1) := by decide +kernel
theorem dX6_does_21 : decode cX6_does 21 = .ok (.aload_n 0, 1) := by decide +kernel
theorem dX6_does_22 : decode cX6_does 22 = .ok (.getfield 18, 3) := by decide +kernel
theorem dX6_does_25 : decode cX6_does 25 = .ok (.iload_n 2, 1) := by decide +kernel
theorem dX6_does_26 : decode cX6_does 26 = .ok (.iaload, 1) := by decide +kernel
theorem dX6_does_27 : decode cX6_does 27 = .ok (.istore 4, 2) := by decide +kernel
theorem dX6_does_29 : decode cX6_does 29 = .ok (.aload_n 0, 1) := by decide +kernel
theorem dX6_does_30 : decode cX6_does 30 = .ok (.getfield 28, 3) := by decide +kernel
theorem dX6_does_33 : decode cX6_does 33 = .ok (.iload_n 3, 1) := by decide +kernel
theorem dX6_does_34 : decode cX6_does 34 = .ok (.ishr, 1) := by decide +kernel
theorem dX6_does_35 : decode cX6_does 35 = .ok (.iconst 1, 1) := by decide +kernel
theorem dX6_does_36 : decode cX6_does 36 = .ok (.iand, 1) := by decide +kernel
theorem dX6_does_37 : decode cX6_does 37 = .ok (.iconst 1, 1) := by decide +kernel
theorem dX6_does_38 : decode cX6_does 38 = .ok (.if_icmp .ne 7, 3) := by decide +kernel
theorem dX6_does_41 : decode cX6_does 41 = .ok (.iconst 1, 1) := by decide +kernel
theorem dX6_does_42 : decode cX6_does 42 = .ok (.goto 4, 3) := by decide +kernel
theorem dX6_does_45 : decode cX6_does 45 = .ok (.iconst 0, 1) := by decide +kernel
theorem dX6_does_46 : decode cX6_does 46 = .ok (.istore 5, 2) := by decide +kernel
theorem dX6_does_48 : decode cX6_does 48 = .ok (.aload_n 1, 1) := by decide +kernel
theorem dX6_does_49 : decode cX6_does 49 = .ok (.getfield 69, 3) := by decide +kernel
theorem dX6_does_52 : decode cX6_does 52 = .ok (.iload_n 3, 1) := by decide +kernel
theorem dX6_does_53 : decode cX6_does 53 = .ok (.iaload, 1) := by decide +kernel
theorem dX6_does_54 : decode cX6_does 54 = .ok (.tableswitch 106 0 4 #[34, 106, 46, 61, 75], 34) := by decide +kernel
theorem dX6_does_88 : decode cX6_does 88 = .ok (.iload 5, 2) := by decide +kernel
theorem dX6_does_90 : decode cX6_does 90 = .ok (.ifCond .eq 7, 3) := by decide +kernel
theorem dX6_does_93 : decode cX6_does 93 = .ok (.iconst 0, 1) := by decide +kernel
theorem dX6_does_94 : decode cX6_does 94 = .ok (.goto 5, 3) := by decide +kernel
theorem dX6_does_97 : decode cX6_does 97 = .ok (.iload 4, 2) := by decide +kernel
theorem dX6_does_99 : decode cX6_does 99 = .ok (.ireturn, 1) := by decide +kernel
theorem dX6_does_100 : decode cX6_does 100 = .ok (.iload 5, 2) := by decide +kernel
theorem dX6_does_102 : decode cX6_does 102 = .ok (.ifCond .eq 10, 3) := by decide +kernel
theorem dX6_does_105 : decode cX6_does 105 = .ok (.iconst 2, 1) := by decide +kernel
theorem dX6_does_106 : decode cX6_does 106 = .ok (.iload 4, 2) := by decide +kernel
theorem dX6_does_108 : decode cX6_does 108 = .ok (.imul, 1) := by decide +kernel
theorem dX6_does_109 : decode cX6_does 109 = .ok (.goto 5, 3) := by decide +kernel
theorem dX6_does_112 : decode cX6_does 112 = .ok (.iload 4, 2) := by decide +kernel
theorem dX6_does_114 : decode cX6_does 114 = .ok (.ireturn, 1) := by decide +kernel
theorem dX6_does_115 : decode cX6_does 115 = .ok (.iload 5, 2) := by decide +kernel
theorem dX6_does_117 : decode cX6_does 117 = .ok (.ifCond .eq 7, 3) := by decide +kernel
theorem dX6_does_120 : decode cX6_does 120 = .ok (.iconst 1, 1) := by decide +kernel
theorem dX6_does_121 : decode cX6_does 121 = .ok (.goto 7, 3) := by decide +kernel
theorem dX6_does_124 : decode cX6_does 124 = .ok (.iload 4, 2) := by decide +kernel
theorem dX6_does_126 : decode cX6_does 126 = .ok (.iconst 1, 1) := by decide +kernel
theorem dX6_does_127 : decode cX6_does 127 = .ok (.iadd, 1) := by decide +kernel
theorem dX6_does_128 : decode cX6_does 128 = .ok (.ireturn, 1) := by decide +kernel
theorem dX6_does_129 : decode cX6_does 129 = .ok (.iload 5, 2) := by decide +kernel
theorem dX6_does_131 : decode cX6_does 131 = .ok (.ifCond .eq 5, 3) := by decide +kernel
theorem dX6_does_134 : decode cX6_does 134 = .ok (.iconst 0, 1) := by decide +kernel
theorem dX6_does_135 : decode cX6_does 135 = .ok (.ireturn, 1) := by decide +kernel
theorem dX6_does_136 : decode cX6_does 136 = .ok (.aload_n 0, 1) := by decide +kernel
theorem dX6_does_137 : decode cX6_does 137 = .ok (.getfield 9, 3) := by decide +kernel
theorem dX6_does_140 : decode cX6_does 140 = .ok (.iload_n 3, 1) := by decide +kernel
theorem dX6_does_141 : decode cX6_does 141 = .ok (.iaload, 1) := by decide +kernel
theorem dX6_does_142 : decode cX6_does 142 = .ok (.bipush 10, 2) := by decide +kernel
theorem dX6_does_144 : decode cX6_does 144 = .ok (.if_icmp .lt 13, 3) := by decide +kernel
theorem dX6_does_147 : decode cX6_does 147 = .ok (.iload 4, 2) := by decide +kernel
theorem dX6_does_149 : decode cX6_does 149 = .ok (.iconst 2, 1) := by decide +kernel
theorem dX6_does_150 : decode cX6_does 150 = .ok (.if_icmp .ge 7, 3) := by decide +kernel
theorem dX6_does_153 : decode cX6_does 153 = .ok (.iconst 2, 1) := by decide +kernel
theorem dX6_does_154 : decode cX6_does 154 = .ok (.goto 5, 3) := by decide +kernel
theorem dX6_does_157 : decode cX6_does 157 = .ok (.iload 4, 2) := by decide +kernel
theorem dX6_does_159 : decode cX6_does 159 = .ok (.ireturn, 1) := by decide +kernel
theorem dX6_does_160 : decode cX6_does 160 = .ok (.iconst 0, 1) := by decide +kernel
theorem dX6_does_161 : decode cX6_does 161 = .ok (.ireturn, 1) := by decide +kernel
theorem dX6_losingSide_0 : decode cX6_losingSide 0 = .ok (.iload_n 3, 1) := by decide +kernel
theorem dX6_losingSide_1 : decode cX6_losingSide 1 = .ok (.iload 4, 2) := by decide +kernel
theorem dX6_losingSide_3 : decode cX6_losingSide 3 = .ok (.if_icmp .ne 6, 3) := by decide +kernel
theorem dX6_losingSide_6 : decode cX6_losingSide 6 = .ok (.bipush (-4), 2) := by decide +kernel
theorem dX6_losingSide_8 : decode cX6_losingSide 8 = .ok (.ireturn, 1) := by decide +kernel
theorem dX6_losingSide_9 : decode cX6_losingSide 9 = .ok (.iload_n 3, 1) := by decide +kernel
theorem dX6_losingSide_10 : decode cX6_losingSide 10 = .ok (.iload 4, 2) := by decide +kernel
theorem dX6_losingSide_12 : decode cX6_losingSide 12 = .ok (.if_icmp .ge 9, 3) := by decide +kernel
theorem dX6_losingSide_15 : decode cX6_losingSide 15 = .ok (.iconst 2, 1) := by decide +kernel
theorem dX6_losingSide_16 : decode cX6_losingSide 16 = .ok (.iload_n 2, 1) := by decide +kernel
theorem dX6_losingSide_17 : decode cX6_losingSide 17 = .ok (.imul, 1) := by decide +kernel
theorem dX6_losingSide_18 : decode cX6_losingSide 18 = .ok (.goto 8, 3) := by decide +kernel
theorem dX6_losingSide_21 : decode cX6_losingSide 21 = .ok (.iconst 2, 1) := by decide +kernel
theorem dX6_losingSide_22 : decode cX6_losingSide 22 = .ok (.iload_n 2, 1) := by decide +kernel
theorem dX6_losingSide_23 : decode cX6_losingSide 23 = .ok (.imul, 1) := by decide +kernel
theorem dX6_losingSide_24 : decode cX6_losingSide 24 = .ok (.iconst 1, 1) := by decide +kernel
theorem dX6_losingSide_25 : decode cX6_losingSide 25 = .ok (.iadd, 1) := by decide +kernel
theorem dX6_losingSide_26 : decode cX6_losingSide 26 = .ok (.istore 5, 2) := by decide +kernel
theorem dX6_losingSide_28 : decode cX6_losingSide 28 = .ok (.aload_n 0, 1) := by decide +kernel
theorem dX6_losingSide_29 : decode cX6_losingSide 29 = .ok (.getfield 9, 3) := by decide +kernel
theorem dX6_losingSide_32 : decode cX6_losingSide 32 = .ok (.aload_n 1, 1) := by decide +kernel
theorem dX6_losingSide_33 : decode cX6_losingSide 33 = .ok (.getfield 60, 3) := by decide +kernel
theorem dX6_losingSide_36 : decode cX6_losingSide 36 = .ok (.iload 5, 2) := by decide +kernel
theorem dX6_losingSide_38 : decode cX6_losingSide 38 = .ok (.iaload, 1) := by decide +kernel
theorem dX6_losingSide_39 : decode cX6_losingSide 39 = .ok (.iaload, 1) := by decide +kernel
theorem dX6_losingSide_40 : decode cX6_losingSide 40 = .ok (.ifCond .le 8, 3) := by decide +kernel
theorem dX6_losingSide_43 : decode cX6_losingSide 43 = .ok (.iload 5, 2) := by decide +kernel
theorem dX6_losingSide_45 : decode cX6_losingSide 45 = .ok (.goto 5, 3) := by decide +kernel
theorem dX6_losingSide_48 : decode cX6_losingSide 48 = .ok (.bipush (-4), 2) := by decide +kernel
theorem dX6_losingSide_50 : decode cX6_losingSide 50 = .ok (.ireturn, 1) := by decide +kernel
set_option maxRecDepth 20000 in
theorem ggX6_goDay_X1_sides : GoodIn wsX6_goDay wsX1_sides := goodIn_r _ [11, 12, 25, 26, 27, 28, 29, 30, 31, 32, 33] (by decide +kernel) (by decide +kernel)
set_option maxRecDepth 20000 in
theorem gX6_goDay_X1_sides : GoodIn wsX6_goDay (wsV RX6 56 RX1 yX1_sides wsX1_sides) := goodIn_app (goodIn_of _ (by decide +kernel)) ggX6_goDay_X1_sides
set_option maxRecDepth 20000 in
theorem ggX6_goDay_X6_does : GoodIn wsX6_goDay wsX6_does := goodIn_r _ [17, 3, 1, 18, 19, 20, 5, 34, 35, 36, 37, 38, 39, 25, 26, 27, 28, 29, 30, 31, 32, 33] (by decide +kernel) (by decide +kernel)
set_option maxRecDepth 20000 in
theorem gX6_goDay_X6_does : GoodIn wsX6_goDay (wsV RX6 72 RX6 yX6_does wsX6_does) := goodIn_app (goodIn_of _ (by decide +kernel)) ggX6_goDay_X6_does
set_option maxRecDepth 20000 in
theorem ggX6_goDay_X6_losingSide : GoodIn wsX6_goDay wsX6_losingSide := goodIn_r _ [24, 5, 1, 34, 35, 36, 37, 38, 39, 25, 26, 27, 28, 29, 30, 31, 32, 33] (by decide +kernel) (by decide +kernel)
set_option maxRecDepth 20000 in
theorem gX6_goDay_X6_losingSide : GoodIn wsX6_goDay (wsV RX6 79 RX6 yX6_losingSide wsX6_losingSide) := goodIn_app (goodIn_of _ (by decide +kernel)) ggX6_goDay_X6_losingSide
theorem dX6_goDay_0 : decode cX6_goDay 0 = .ok (.iconst 0, 1) := by decide +kernel
theorem dX6_goDay_1 : decode cX6_goDay 1 = .ok (.istore_n 3, 1) := by decide +kernel
theorem dX6_goDay_2 : decode cX6_goDay 2 = .ok (.iload_n 3, 1) := by decide +kernel
theorem dX6_goDay_3 : decode cX6_goDay 3 = .ok (.aload_n 1, 1) := by decide +kernel
theorem dX6_goDay_4 : decode cX6_goDay 4 = .ok (.invokevirtual 56, 3) := by decide +kernel
theorem dX6_goDay_7 : decode cX6_goDay 7 = .ok (.if_icmp .ge 51, 3) := by decide +kernel
theorem dX6_goDay_10 : decode cX6_goDay 10 = .ok (.iload_n 2, 1) := by decide +kernel
theorem dX6_goDay_11 : decode cX6_goDay 11 = .ok (.aload_n 1, 1) := by decide +kernel
theorem dX6_goDay_12 : decode cX6_goDay 12 = .ok (.getfield 60, 3) := by decide +kernel
theorem dX6_goDay_15 : decode cX6_goDay 15 = .ok (.iload_n 3, 1) := by decide +kernel
theorem dX6_goDay_16 : decode cX6_goDay 16 = .ok (.iaload, 1) := by decide +kernel
theorem dX6_goDay_17 : decode cX6_goDay 17 = .ok (.ishr, 1) := by decide +kernel
theorem dX6_goDay_18 : decode cX6_goDay 18 = .ok (.iconst 1, 1) := by decide +kernel
theorem dX6_goDay_19 : decode cX6_goDay 19 = .ok (.iand, 1) := by decide +kernel
theorem dX6_goDay_20 : decode cX6_goDay 20 = .ok (.iconst 1, 1) := by decide +kernel
theorem dX6_goDay_21 : decode cX6_goDay 21 = .ok (.if_icmp .ne 7, 3) := by decide +kernel
theorem dX6_goDay_24 : decode cX6_goDay 24 = .ok (.iconst 1, 1) := by decide +kernel
theorem dX6_goDay_25 : decode cX6_goDay 25 = .ok (.goto 4, 3) := by decide +kernel
theorem dX6_goDay_28 : decode cX6_goDay 28 = .ok (.iconst 0, 1) := by decide +kernel
theorem dX6_goDay_29 : decode cX6_goDay 29 = .ok (.istore 4, 2) := by decide +kernel
theorem dX6_goDay_31 : decode cX6_goDay 31 = .ok (.aload_n 0, 1) := by decide +kernel
theorem dX6_goDay_32 : decode cX6_goDay 32 = .ok (.getfield 21, 3) := by decide +kernel
theorem dX6_goDay_35 : decode cX6_goDay 35 = .ok (.iload_n 3, 1) := by decide +kernel
theorem dX6_goDay_36 : decode cX6_goDay 36 = .ok (.iload 4, 2) := by decide +kernel
theorem dX6_goDay_38 : decode cX6_goDay 38 = .ok (.ifCond .eq 7, 3) := by decide +kernel
theorem dX6_goDay_41 : decode cX6_goDay 41 = .ok (.iconst 0, 1) := by decide +kernel
theorem dX6_goDay_42 : decode cX6_goDay 42 = .ok (.goto 9, 3) := by decide +kernel
theorem dX6_goDay_45 : decode cX6_goDay 45 = .ok (.aload_n 0, 1) := by decide +kernel
theorem dX6_goDay_46 : decode cX6_goDay 46 = .ok (.aload_n 1, 1) := by decide +kernel
theorem dX6_goDay_47 : decode cX6_goDay 47 = .ok (.iload_n 3, 1) := by decide +kernel
theorem dX6_goDay_48 : decode cX6_goDay 48 = .ok (.invokevirtual 72, 3) := by decide +kernel
theorem dX6_goDay_51 : decode cX6_goDay 51 = .ok (.iastore, 1) := by decide +kernel
theorem dX6_goDay_52 : decode cX6_goDay 52 = .ok (.iinc 3 1, 3) := by decide +kernel
theorem dX6_goDay_55 : decode cX6_goDay 55 = .ok (.goto (-53), 3) := by decide +kernel
theorem dX6_goDay_58 : decode cX6_goDay 58 = .ok (.aload_n 0, 1) := by decide +kernel
theorem dX6_goDay_59 : decode cX6_goDay 59 = .ok (.dup, 1) := by decide +kernel
theorem dX6_goDay_60 : decode cX6_goDay 60 = .ok (.getfield 24, 3) := by decide +kernel
theorem dX6_goDay_63 : decode cX6_goDay 63 = .ok (.iconst 1, 1) := by decide +kernel
theorem dX6_goDay_64 : decode cX6_goDay 64 = .ok (.iadd, 1) := by decide +kernel
theorem dX6_goDay_65 : decode cX6_goDay 65 = .ok (.putfield 24, 3) := by decide +kernel
theorem dX6_goDay_68 : decode cX6_goDay 68 = .ok (.iconst 0, 1) := by decide +kernel
theorem dX6_goDay_69 : decode cX6_goDay 69 = .ok (.istore_n 3, 1) := by decide +kernel
theorem dX6_goDay_70 : decode cX6_goDay 70 = .ok (.iconst 0, 1) := by decide +kernel
theorem dX6_goDay_71 : decode cX6_goDay 71 = .ok (.istore 4, 2) := by decide +kernel
theorem dX6_goDay_73 : decode cX6_goDay 73 = .ok (.iload 4, 2) := by decide +kernel
theorem dX6_goDay_75 : decode cX6_goDay 75 = .ok (.aload_n 1, 1) := by decide +kernel
theorem dX6_goDay_76 : decode cX6_goDay 76 = .ok (.getfield 76, 3) := by decide +kernel
theorem dX6_goDay_79 : decode cX6_goDay 79 = .ok (.if_icmp .ge 106, 3) := by decide +kernel
theorem dX6_goDay_82 : decode cX6_goDay 82 = .ok (.aload_n 0, 1) := by decide +kernel
theorem dX6_goDay_83 : decode cX6_goDay 83 = .ok (.aload_n 1, 1) := by decide +kernel
theorem dX6_goDay_84 : decode cX6_goDay 84 = .ok (.iload 4, 2) := by decide +kernel
theorem dX6_goDay_86 : decode cX6_goDay 86 = .ok (.aload_n 0, 1) := by decide +kernel
theorem dX6_goDay_87 : decode cX6_goDay 87 = .ok (.getfield 21, 3) := by decide +kernel
theorem dX6_goDay_90 : decode cX6_goDay 90 = .ok (.iconst 2, 1) := by decide +kernel
theorem dX6_goDay_91 : decode cX6_goDay 91 = .ok (.iload 4, 2) := by decide +kernel
theorem dX6_goDay_93 : decode cX6_goDay 93 = .ok (.imul, 1) := by decide +kernel
theorem dX6_goDay_94 : decode cX6_goDay 94 = .ok (.iaload, 1) := by decide +kernel
theorem dX6_goDay_95 : decode cX6_goDay 95 = .ok (.aload_n 0, 1) := by decide +kernel
theorem dX6_goDay_96 : decode cX6_goDay 96 = .ok (.getfield 21, 3) := by decide +kernel
theorem dX6_goDay_99 : decode cX6_goDay 99 = .ok (.iconst 2, 1) := by decide +kernel
theorem dX6_goDay_100 : decode cX6_goDay 100 = .ok (.iload 4, 2) := by decide +kernel
theorem dX6_goDay_102 : decode cX6_goDay 102 = .ok (.imul, 1) := by decide +kernel
theorem dX6_goDay_103 : decode cX6_goDay 103 = .ok (.iconst 1, 1) := by decide +kernel
theorem dX6_goDay_104 : decode cX6_goDay 104 = .ok (.iadd, 1) := by decide +kernel
theorem dX6_goDay_105 : decode cX6_goDay 105 = .ok (.iaload, 1) := by decide +kernel
theorem dX6_goDay_106 : decode cX6_goDay 106 = .ok (.invokevirtual 79, 3) := by decide +kernel
theorem dX6_goDay_109 : decode cX6_goDay 109 = .ok (.istore 5, 2) := by decide +kernel
theorem dX6_goDay_111 : decode cX6_goDay 111 = .ok (.iload 5, 2) := by decide +kernel
theorem dX6_goDay_113 : decode cX6_goDay 113 = .ok (.bipush (-4), 2) := by decide +kernel
theorem dX6_goDay_115 : decode cX6_goDay 115 = .ok (.if_icmp .eq 64, 3) := by decide +kernel
theorem dX6_goDay_118 : decode cX6_goDay 118 = .ok (.aload_n 0, 1) := by decide +kernel
theorem dX6_goDay_119 : decode cX6_goDay 119 = .ok (.getfield 9, 3) := by decide +kernel
theorem dX6_goDay_122 : decode cX6_goDay 122 = .ok (.aload_n 1, 1) := by decide +kernel
theorem dX6_goDay_123 : decode cX6_goDay 123 = .ok (.getfield 60, 3) := by decide +kernel
theorem dX6_goDay_126 : decode cX6_goDay 126 = .ok (.iload 5, 2) := by decide +kernel
theorem dX6_goDay_128 : decode cX6_goDay 128 = .ok (.iaload, 1) := by decide +kernel
theorem dX6_goDay_129 : decode cX6_goDay 129 = .ok (.dup2, 1) := by decide +kernel
theorem dX6_goDay_130 : decode cX6_goDay 130 = .ok (.iaload, 1) := by decide +kernel
theorem dX6_goDay_131 : decode cX6_goDay 131 = .ok (.iconst 1, 1) := by decide +kernel
theorem dX6_goDay_132 : decode cX6_goDay 132 = .ok (.isub, 1) := by decide +kernel
theorem dX6_goDay_133 : decode cX6_goDay 133 = .ok (.iastore, 1) := by decide +kernel
theorem dX6_goDay_134 : decode cX6_goDay 134 = .ok (.aload_n 0, 1) := by decide +kernel
theorem dX6_goDay_135 : decode cX6_goDay 135 = .ok (.getfield 9, 3) := by decide +kernel
theorem dX6_goDay_138 : decode cX6_goDay 138 = .ok (.aload_n 1, 1) := by decide +kernel
theorem dX6_goDay_139 : decode cX6_goDay 139 = .ok (.getfield 60, 3) := by decide +kernel
theorem dX6_goDay_142 : decode cX6_goDay 142 = .ok (.iload 5, 2) := by decide +kernel
theorem dX6_goDay_144 : decode cX6_goDay 144 = .ok (.iconst 1, 1) := by decide +kernel
theorem dX6_goDay_145 : decode cX6_goDay 145 = .ok (.ixor, 1) := by decide +kernel
theorem dX6_goDay_146 : decode cX6_goDay 146 = .ok (.iaload, 1) := by decide +kernel
theorem dX6_goDay_147 : decode cX6_goDay 147 = .ok (.dup2, 1) := by decide +kernel
theorem dX6_goDay_148 : decode cX6_goDay 148 = .ok (.iaload, 1) := by decide +kernel
theorem dX6_goDay_149 : decode cX6_goDay 149 = .ok (.iconst 1, 1) := by decide +kernel
theorem dX6_goDay_150 : decode cX6_goDay 150 = .ok (.iadd, 1) := by decide +kernel
theorem dX6_goDay_151 : decode cX6_goDay 151 = .ok (.iastore, 1) := by decide +kernel
theorem dX6_goDay_152 : decode cX6_goDay 152 = .ok (.aload_n 0, 1) := by decide +kernel
theorem dX6_goDay_153 : decode cX6_goDay 153 = .ok (.getfield 15, 3) := by decide +kernel
theorem dX6_goDay_156 : decode cX6_goDay 156 = .ok (.iload 4, 2) := by decide +kernel
theorem dX6_goDay_158 : decode cX6_goDay 158 = .ok (.dup2, 1) := by decide +kernel
theorem dX6_goDay_159 : decode cX6_goDay 159 = .ok (.iaload, 1) := by decide +kernel
theorem dX6_goDay_160 : decode cX6_goDay 160 = .ok (.iload 5, 2) := by decide +kernel
theorem dX6_goDay_162 : decode cX6_goDay 162 = .ok (.iconst 2, 1) := by decide +kernel
theorem dX6_goDay_163 : decode cX6_goDay 163 = .ok (.iload 4, 2) := by decide +kernel
theorem dX6_goDay_165 : decode cX6_goDay 165 = .ok (.imul, 1) := by decide +kernel
theorem dX6_goDay_166 : decode cX6_goDay 166 = .ok (.if_icmp .ne 7, 3) := by decide +kernel
theorem dX6_goDay_169 : decode cX6_goDay 169 = .ok (.iconst (-1), 1) := by decide +kernel
theorem dX6_goDay_170 : decode cX6_goDay 170 = .ok (.goto 4, 3) := by decide +kernel
theorem dX6_goDay_173 : decode cX6_goDay 173 = .ok (.iconst 1, 1) := by decide +kernel
theorem dX6_goDay_174 : decode cX6_goDay 174 = .ok (.iadd, 1) := by decide +kernel
theorem dX6_goDay_175 : decode cX6_goDay 175 = .ok (.iastore, 1) := by decide +kernel
theorem dX6_goDay_176 : decode cX6_goDay 176 = .ok (.iinc 3 1, 3) := by decide +kernel
theorem dX6_goDay_179 : decode cX6_goDay 179 = .ok (.iinc 4 1, 3) := by decide +kernel
theorem dX6_goDay_182 : decode cX6_goDay 182 = .ok (.goto (-109), 3) := by decide +kernel
theorem dX6_goDay_185 : decode cX6_goDay 185 = .ok (.iload_n 3, 1) := by decide +kernel
theorem dX6_goDay_186 : decode cX6_goDay 186 = .ok (.ireturn, 1) := by decide +kernel
set_option maxRecDepth 20000 in
theorem ggX7_init_X6_init : GoodIn wsX7_init wsX6_init := goodIn_r _ [13, 14, 2, 3, 15, 16, 17, 18, 19, 29, 30, 31, 32, 33, 34] (by decide +kernel) (by decide +kernel)
set_option maxRecDepth 20000 in
theorem gX7_init_X6_init_n11 : GoodIn wsX7_init (wsX6_init) := ggX7_init_X6_init
set_option maxRecDepth 20000 in
theorem ggX7_init_X1_init : GoodIn wsX7_init wsX1_init := goodIn_r _ [21, 22, 2, 3, 15, 23, 24, 25, 26, 27, 28, 37, 38, 39, 40, 41, 42, 43, 44, 45] (by decide +kernel) (by decide +kernel)
set_option maxRecDepth 20000 in
theorem gX7_init_X1_init_n20 : GoodIn wsX7_init (wsX1_init) := ggX7_init_X1_init
theorem dX7_init_0 : decode cX7_init 0 = .ok (.aload_n 0, 1) := by decide +kernel
theorem dX7_init_1 : decode cX7_init 1 = .ok (.invokespecial 3, 3) := by decide +kernel
theorem dX7_init_4 : decode cX7_init 4 = .ok (.aload_n 0, 1) := by decide +kernel
theorem dX7_init_5 : decode cX7_init 5 = .ok (.new 9, 3) := by decide +kernel
theorem dX7_init_8 : decode cX7_init 8 = .ok (.dup, 1) := by decide +kernel
theorem dX7_init_9 : decode cX7_init 9 = .ok (.invokespecial 11, 3) := by decide +kernel
theorem dX7_init_12 : decode cX7_init 12 = .ok (.putfield 12, 3) := by decide +kernel
theorem dX7_init_15 : decode cX7_init 15 = .ok (.aload_n 0, 1) := by decide +kernel
theorem dX7_init_16 : decode cX7_init 16 = .ok (.new 18, 3) := by decide +kernel
theorem dX7_init_19 : decode cX7_init 19 = .ok (.dup, 1) := by decide +kernel
theorem dX7_init_20 : decode cX7_init 20 = .ok (.invokespecial 20, 3) := by decide +kernel
theorem dX7_init_23 : decode cX7_init 23 = .ok (.putfield 21, 3) := by decide +kernel
theorem dX7_init_26 : decode cX7_init 26 = .ok (.return_, 1) := by decide +kernel
set_option maxRecDepth 20000 in
theorem ggX7_suspects_X6_takeOver : GoodIn wsX7_suspects wsX6_takeOver := goodIn_r _ [7, 8, 9, 10, 11, 12, 13, 14, 15, 16, 76, 77, 78, 79, 80, 81] (by decide +kernel) (by decide +kernel)
set_option maxRecDepth 20000 in
theorem gX7_suspects_X6_takeOver : GoodIn wsX7_suspects (wsV RX7 25 RX6 yX6_takeOver wsX6_takeOver) := goodIn_app (goodIn_of _ (by decide +kernel)) ggX7_suspects_X6_takeOver
set_option maxRecDepth 20000 in
theorem ggX7_suspects_X5_comeTrue : GoodIn wsX7_suspects wsX5_comeTrue := goodIn_r _ [21, 22, 23, 24, 20, 25, 26, 27, 28, 29, 30, 31, 32, 33, 34, 6, 35, 36, 37, 8, 38, 10, 15, 39, 40, 41, 42, 43, 44, 45, 46, 47, 48, 16, 9, 49, 50, 51, 52, 53, 54, 55, 56, 57, 58, 59, 60, 82, 83, 84, 85, 67, 68, 69, 70, 71, 72, 73, 74, 75, 76, 77, 78, 79, 80, 81] (by decide +kernel) (by decide +kernel)
set_option maxRecDepth 20000 in
theorem gX7_suspects_X5_comeTrue : GoodIn wsX7_suspects (wsV RX7 29 RX5 yX5_comeTrue wsX5_comeTrue) := goodIn_app (goodIn_of _ (by decide +kernel)) ggX7_suspects_X5_comeTrue
set_option maxRecDepth 20000 in
theorem ggX7_suspects_X6_turnSickness : GoodIn wsX7_suspects wsX6_turnSickness := goodIn_r _ [64, 9, 76, 77, 78, 79, 80, 81] (by decide +kernel) (by decide +kernel)
set_option maxRecDepth 20000 in
theorem gX7_suspects_X6_turnSickness : GoodIn wsX7_suspects (wsV RX7 39 RX6 yX6_turnSickness wsX6_turnSickness) := goodIn_app (goodIn_of _ (by decide +kernel)) ggX7_suspects_X6_turnSickness
theorem dX7_suspects_0 : decode cX7_suspects 0 = .ok (.aload_n 0, 1) := by decide +kernel
theorem dX7_suspects_1 : decode cX7_suspects 1 = .ok (.getfield 12, 3) := by decide +kernel
theorem dX7_suspects_4 : decode cX7_suspects 4 = .ok (.aload_n 2, 1) := by decide +kernel
theorem dX7_suspects_5 : decode cX7_suspects 5 = .ok (.invokevirtual 25, 3) := by decide +kernel
theorem dX7_suspects_8 : decode cX7_suspects 8 = .ok (.aload_n 3, 1) := by decide +kernel
theorem dX7_suspects_9 : decode cX7_suspects 9 = .ok (.aload_n 1, 1) := by decide +kernel
theorem dX7_suspects_10 : decode cX7_suspects 10 = .ok (.aload_n 0, 1) := by decide +kernel
theorem dX7_suspects_11 : decode cX7_suspects 11 = .ok (.getfield 12, 3) := by decide +kernel
theorem dX7_suspects_14 : decode cX7_suspects 14 = .ok (.invokevirtual 29, 3) := by decide +kernel
theorem dX7_suspects_17 : decode cX7_suspects 17 = .ok (.ifCond .eq 8, 3) := by decide +kernel
theorem dX7_suspects_20 : decode cX7_suspects 20 = .ok (.bipush 64, 2) := by decide +kernel
theorem dX7_suspects_22 : decode cX7_suspects 22 = .ok (.goto 4, 3) := by decide +kernel
theorem dX7_suspects_25 : decode cX7_suspects 25 = .ok (.iconst 0, 1) := by decide +kernel
theorem dX7_suspects_26 : decode cX7_suspects 26 = .ok (.istore 4, 2) := by decide +kernel
theorem dX7_suspects_28 : decode cX7_suspects 28 = .ok (.iconst 0, 1) := by decide +kernel
theorem dX7_suspects_29 : decode cX7_suspects 29 = .ok (.istore 5, 2) := by decide +kernel
theorem dX7_suspects_31 : decode cX7_suspects 31 = .ok (.iload 5, 2) := by decide +kernel
theorem dX7_suspects_33 : decode cX7_suspects 33 = .ok (.aload_n 1, 1) := by decide +kernel
theorem dX7_suspects_34 : decode cX7_suspects 34 = .ok (.getfield 35, 3) := by decide +kernel
theorem dX7_suspects_37 : decode cX7_suspects 37 = .ok (.if_icmp .ge 47, 3) := by decide +kernel
theorem dX7_suspects_40 : decode cX7_suspects 40 = .ok (.aload_n 0, 1) := by decide +kernel
theorem dX7_suspects_41 : decode cX7_suspects 41 = .ok (.getfield 12, 3) := by decide +kernel
theorem dX7_suspects_44 : decode cX7_suspects 44 = .ok (.aload_n 2, 1) := by decide +kernel
theorem dX7_suspects_45 : decode cX7_suspects 45 = .ok (.invokevirtual 25, 3) := by decide +kernel
theorem dX7_suspects_48 : decode cX7_suspects 48 = .ok (.aload_n 0, 1) := by decide +kernel
theorem dX7_suspects_49 : decode cX7_suspects 49 = .ok (.getfield 12, 3) := by decide +kernel
theorem dX7_suspects_52 : decode cX7_suspects 52 = .ok (.iload 5, 2) := by decide +kernel
theorem dX7_suspects_54 : decode cX7_suspects 54 = .ok (.invokevirtual 39, 3) := by decide +kernel
theorem dX7_suspects_57 : decode cX7_suspects 57 = .ok (.aload_n 3, 1) := by decide +kernel
theorem dX7_suspects_58 : decode cX7_suspects 58 = .ok (.aload_n 1, 1) := by decide +kernel
theorem dX7_suspects_59 : decode cX7_suspects 59 = .ok (.aload_n 0, 1) := by decide +kernel
theorem dX7_suspects_60 : decode cX7_suspects 60 = .ok (.getfield 12, 3) := by decide +kernel
theorem dX7_suspects_63 : decode cX7_suspects 63 = .ok (.invokevirtual 29, 3) := by decide +kernel
theorem dX7_suspects_66 : decode cX7_suspects 66 = .ok (.ifCond .eq 12, 3) := by decide +kernel
theorem dX7_suspects_69 : decode cX7_suspects 69 = .ok (.iload 4, 2) := by decide +kernel
theorem dX7_suspects_71 : decode cX7_suspects 71 = .ok (.iconst 1, 1) := by decide +kernel
theorem dX7_suspects_72 : decode cX7_suspects 72 = .ok (.iload 5, 2) := by decide +kernel
theorem dX7_suspects_74 : decode cX7_suspects 74 = .ok (.ishl, 1) := by decide +kernel
theorem dX7_suspects_75 : decode cX7_suspects 75 = .ok (.ior, 1) := by decide +kernel
theorem dX7_suspects_76 : decode cX7_suspects 76 = .ok (.istore 4, 2) := by decide +kernel
theorem dX7_suspects_78 : decode cX7_suspects 78 = .ok (.iinc 5 1, 3) := by decide +kernel
theorem dX7_suspects_81 : decode cX7_suspects 81 = .ok (.goto (-50), 3) := by decide +kernel
theorem dX7_suspects_84 : decode cX7_suspects 84 = .ok (.iload 4, 2) := by decide +kernel
theorem dX7_suspects_86 : decode cX7_suspects 86 = .ok (.ireturn, 1) := by decide +kernel
set_option maxRecDepth 20000 in
theorem ggX7_likelyKinds_X1_takeOver : GoodIn wsX7_likelyKinds wsX1_takeOver := goodIn_r _ [8, 9, 10, 11, 12, 13, 14, 15, 16, 17, 18, 19, 20, 21, 77, 78, 79, 80, 81, 82, 83, 84, 85] (by decide +kernel) (by decide +kernel)
set_option maxRecDepth 20000 in
theorem gX7_likelyKinds_X1_takeOver : GoodIn wsX7_likelyKinds (wsV RX7 43 RX1 yX1_takeOver wsX1_takeOver) := goodIn_app (goodIn_of _ (by decide +kernel)) ggX7_likelyKinds_X1_takeOver
set_option maxRecDepth 20000 in
theorem ggX7_likelyKinds_X6_takeOver : GoodIn wsX7_likelyKinds wsX6_takeOver := goodIn_r _ [26, 27, 28, 29, 30, 14, 15, 16, 31, 32, 86, 87, 88, 89, 90, 91] (by decide +kernel) (by decide +kernel)
set_option maxRecDepth 20000 in
theorem gX7_likelyKinds_X6_takeOver : GoodIn wsX7_likelyKinds (wsV RX7 25 RX6 yX6_takeOver wsX6_takeOver) := goodIn_app (goodIn_of _ (by decide +kernel)) ggX7_likelyKinds_X6_takeOver
set_option maxRecDepth 20000 in
theorem ggX7_likelyKinds_X5_comeTrue : GoodIn wsX7_likelyKinds wsX5_comeTrue := goodIn_r _ [37, 38, 39, 40, 36, 41, 42, 43, 44, 45, 46, 47, 48, 49, 50, 25, 51, 52, 53, 27, 54, 29, 31, 55, 56, 57, 7, 58, 10, 59, 60, 61, 62, 32, 28, 63, 64, 65, 66, 67, 68, 69, 70, 71, 72, 73, 74, 92, 93, 94, 95, 77, 78, 79, 80, 81, 82, 83, 84, 85, 86, 87, 88, 89, 90, 91] (by decide +kernel) (by decide +kernel)
set_option maxRecDepth 20000 in
theorem gX7_likelyKinds_X5_comeTrue : GoodIn wsX7_likelyKinds (wsV RX7 29 RX5 yX5_comeTrue wsX5_comeTrue) := goodIn_app (goodIn_of _ (by decide +kernel)) ggX7_likelyKinds_X5_comeTrue
theorem dX7_likelyKinds_0 : decode cX7_likelyKinds 0 = .ok (.iconst 0, 1) := by decide +kernel
theorem dX7_likelyKinds_1 : decode cX7_likelyKinds 1 = .ok (.istore 5, 2) := by decide +kernel
theorem dX7_likelyKinds_3 : decode cX7_likelyKinds 3 = .ok (.aload_n 0, 1) := by decide +kernel
theorem dX7_likelyKinds_4 : decode cX7_likelyKinds 4 = .ok (.getfield 21, 3) := by decide +kernel
theorem dX7_likelyKinds_7 : decode cX7_likelyKinds 7 = .ok (.aload_n 1, 1) := by decide +kernel
theorem dX7_likelyKinds_8 : decode cX7_likelyKinds 8 = .ok (.invokevirtual 43, 3) := by decide +kernel
theorem dX7_likelyKinds_11 : decode cX7_likelyKinds 11 = .ok (.iconst 0, 1) := by decide +kernel
theorem dX7_likelyKinds_12 : decode cX7_likelyKinds 12 = .ok (.istore 6, 2) := by decide +kernel
theorem dX7_likelyKinds_14 : decode cX7_likelyKinds 14 = .ok (.iload 6, 2) := by decide +kernel
theorem dX7_likelyKinds_16 : decode cX7_likelyKinds 16 = .ok (.iconst 5, 1) := by decide +kernel
theorem dX7_likelyKinds_17 : decode cX7_likelyKinds 17 = .ok (.if_icmp .ge 53, 3) := by decide +kernel
theorem dX7_likelyKinds_20 : decode cX7_likelyKinds 20 = .ok (.aload_n 0, 1) := by decide +kernel
theorem dX7_likelyKinds_21 : decode cX7_likelyKinds 21 = .ok (.getfield 21, 3) := by decide +kernel
theorem dX7_likelyKinds_24 : decode cX7_likelyKinds 24 = .ok (.getfield 46, 3) := by decide +kernel
theorem dX7_likelyKinds_27 : decode cX7_likelyKinds 27 = .ok (.iload 4, 2) := by decide +kernel
theorem dX7_likelyKinds_29 : decode cX7_likelyKinds 29 = .ok (.iload 6, 2) := by decide +kernel
theorem dX7_likelyKinds_31 : decode cX7_likelyKinds 31 = .ok (.iastore, 1) := by decide +kernel
theorem dX7_likelyKinds_32 : decode cX7_likelyKinds 32 = .ok (.aload_n 0, 1) := by decide +kernel
theorem dX7_likelyKinds_33 : decode cX7_likelyKinds 33 = .ok (.getfield 12, 3) := by decide +kernel
theorem dX7_likelyKinds_36 : decode cX7_likelyKinds 36 = .ok (.aload_n 2, 1) := by decide +kernel
theorem dX7_likelyKinds_37 : decode cX7_likelyKinds 37 = .ok (.invokevirtual 25, 3) := by decide +kernel
theorem dX7_likelyKinds_40 : decode cX7_likelyKinds 40 = .ok (.aload_n 3, 1) := by decide +kernel
theorem dX7_likelyKinds_41 : decode cX7_likelyKinds 41 = .ok (.aload_n 0, 1) := by decide +kernel
theorem dX7_likelyKinds_42 : decode cX7_likelyKinds 42 = .ok (.getfield 21, 3) := by decide +kernel
theorem dX7_likelyKinds_45 : decode cX7_likelyKinds 45 = .ok (.aload_n 0, 1) := by decide +kernel
theorem dX7_likelyKinds_46 : decode cX7_likelyKinds 46 = .ok (.getfield 12, 3) := by decide +kernel
theorem dX7_likelyKinds_49 : decode cX7_likelyKinds 49 = .ok (.invokevirtual 29, 3) := by decide +kernel
theorem dX7_likelyKinds_52 : decode cX7_likelyKinds 52 = .ok (.ifCond .eq 12, 3) := by decide +kernel
theorem dX7_likelyKinds_55 : decode cX7_likelyKinds 55 = .ok (.iload 5, 2) := by decide +kernel
theorem dX7_likelyKinds_57 : decode cX7_likelyKinds 57 = .ok (.iconst 1, 1) := by decide +kernel
theorem dX7_likelyKinds_58 : decode cX7_likelyKinds 58 = .ok (.iload 6, 2) := by decide +kernel
theorem dX7_likelyKinds_60 : decode cX7_likelyKinds 60 = .ok (.ishl, 1) := by decide +kernel
theorem dX7_likelyKinds_61 : decode cX7_likelyKinds 61 = .ok (.ior, 1) := by decide +kernel
theorem dX7_likelyKinds_62 : decode cX7_likelyKinds 62 = .ok (.istore 5, 2) := by decide +kernel
theorem dX7_likelyKinds_64 : decode cX7_likelyKinds 64 = .ok (.iinc 6 1, 3) := by decide +kernel
theorem dX7_likelyKinds_67 : decode cX7_likelyKinds 67 = .ok (.goto (-53), 3) := by decide +kernel
theorem dX7_likelyKinds_70 : decode cX7_likelyKinds 70 = .ok (.iload 5, 2) := by decide +kernel
theorem dX7_likelyKinds_72 : decode cX7_likelyKinds 72 = .ok (.ireturn, 1) := by decide +kernel
