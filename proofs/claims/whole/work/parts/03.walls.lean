set_option maxRecDepth 20000 in
theorem ggX8_init_X4_init : GoodIn wsX8_init wsX4_init := goodIn_r _ [40, 41, 2, 3, 42, 43, 44, 45, 226, 227, 228, 229] (by decide +kernel) (by decide +kernel)
set_option maxRecDepth 20000 in
theorem gX8_init_X4_init_n9 : GoodIn wsX8_init (wsX4_init) := ggX8_init_X4_init
set_option maxRecDepth 20000 in
theorem ggX8_init_X1_init : GoodIn wsX8_init wsX1_init := goodIn_r _ [47, 48, 2, 3, 44, 49, 50, 51, 52, 53, 54, 240, 241, 242, 243, 244, 245, 246, 247, 248] (by decide +kernel) (by decide +kernel)
set_option maxRecDepth 20000 in
theorem gX8_init_X1_init_n18 : GoodIn wsX8_init (wsX1_init) := ggX8_init_X1_init
set_option maxRecDepth 20000 in
theorem ggX8_init_X6_init : GoodIn wsX8_init wsX6_init := goodIn_r _ [56, 57, 2, 3, 44, 58, 59, 60, 61, 249, 250, 251, 252, 253, 254] (by decide +kernel) (by decide +kernel)
set_option maxRecDepth 20000 in
theorem gX8_init_X6_init_n28 : GoodIn wsX8_init (wsX6_init) := ggX8_init_X6_init
set_option maxRecDepth 20000 in
theorem ggX8_init_X3_init : GoodIn wsX8_init wsX3_init := goodIn_r _ [64, 65, 2, 3, 66, 67, 14, 15, 55, 56, 57, 44, 58, 59, 60, 61, 255, 256, 249, 250, 251, 252, 253, 254] (by decide +kernel) (by decide +kernel)
set_option maxRecDepth 20000 in
theorem gX8_init_X3_init : GoodIn wsX8_init (wsX3_init) := ggX8_init_X3_init
set_option maxRecDepth 20000 in
theorem ggX8_init_X5_init : GoodIn wsX8_init wsX5_init := goodIn_r _ [69, 70, 2, 3, 44, 71, 72, 73, 257, 258, 259, 260] (by decide +kernel) (by decide +kernel)
set_option maxRecDepth 20000 in
theorem gX8_init_X5_init_n47 : GoodIn wsX8_init (wsX5_init) := ggX8_init_X5_init
set_option maxRecDepth 20000 in
theorem ggX8_init_X2_init : GoodIn wsX8_init wsX2_init := goodIn_r _ [75, 76, 2, 3, 44, 77, 78, 79, 80, 14, 15, 81, 82, 83, 9, 10, 84, 55, 56, 57, 58, 59, 60, 61, 46, 47, 48, 49, 50, 51, 52, 53, 54, 261, 262, 263, 264, 265, 266, 267, 268, 249, 250, 251, 252, 253, 254, 240, 241, 242, 243, 244, 245, 246, 247, 248] (by decide +kernel) (by decide +kernel)
set_option maxRecDepth 20000 in
theorem gX8_init_X2_init_n54 : GoodIn wsX8_init (wsX2_init) := ggX8_init_X2_init
set_option maxRecDepth 20000 in
theorem ggX8_init_X7_init : GoodIn wsX8_init wsX7_init := goodIn_r _ [86, 87, 2, 3, 88, 14, 15, 89, 90, 9, 10, 91, 55, 56, 57, 44, 58, 59, 60, 61, 46, 47, 48, 49, 50, 51, 52, 53, 54, 249, 250, 251, 252, 253, 254, 269, 270, 240, 241, 242, 243, 244, 245, 246, 247, 248] (by decide +kernel) (by decide +kernel)
set_option maxRecDepth 20000 in
theorem gX8_init_X7_init_n61 : GoodIn wsX8_init (wsX7_init) := ggX8_init_X7_init
set_option maxRecDepth 20000 in
theorem ggX8_init_X0_init : GoodIn wsX8_init wsX0_init := goodIn_r _ [93, 94, 2, 3, 95, 14, 15, 96, 55, 56, 57, 44, 58, 59, 60, 61, 249, 250, 251, 252, 253, 254, 271, 272, 273, 274, 275] (by decide +kernel) (by decide +kernel)
set_option maxRecDepth 20000 in
theorem gX8_init_X0_init_n68 : GoodIn wsX8_init (wsX0_init) := ggX8_init_X0_init
set_option maxRecDepth 20000 in
theorem ggX8_init_J0_length_8abf5 : GoodIn wsX8_init wsJ0_length_8abf5 := goodIn_r _ [101, 102, 103, 104, 105, 100, 106, 107, 108] (by decide +kernel) (by decide +kernel)
set_option maxRecDepth 20000 in
theorem gX8_init_J0_length_8abf5 : GoodIn wsX8_init (wsV RX8 75 RJ0 yJ0_length_8abf5 wsJ0_length_8abf5) := goodIn_app (goodIn_of _ (by decide +kernel)) ggX8_init_J0_length_8abf5
set_option maxRecDepth 20000 in
theorem ggX8_init_J0_charAt_5068e : GoodIn wsX8_init wsJ0_charAt_5068e := goodIn_r _ [112, 102, 113, 114, 115, 100, 116, 107, 108, 117, 118, 119, 120, 121, 122, 123, 124, 125, 126, 127, 128, 129, 130, 131, 132, 133, 134, 135, 136, 137, 138, 139, 140, 141, 142, 143, 144, 145] (by decide +kernel) (by decide +kernel)
set_option maxRecDepth 20000 in
theorem gX8_init_J0_charAt_5068e : GoodIn wsX8_init (wsV RX8 81 RJ0 yJ0_charAt_5068e wsJ0_charAt_5068e) := goodIn_app (goodIn_of _ (by decide +kernel)) ggX8_init_J0_charAt_5068e
set_option maxRecDepth 20000 in
theorem ggX8_init_X4_append : GoodIn wsX8_init wsX4_append := goodIn_r _ [149, 150, 43, 226, 227, 228, 229] (by decide +kernel) (by decide +kernel)
set_option maxRecDepth 20000 in
theorem gX8_init_X4_append : GoodIn wsX8_init (wsV RX8 85 RX4 yX4_append wsX4_append) := goodIn_app (goodIn_of _ (by decide +kernel)) ggX8_init_X4_append
set_option maxRecDepth 20000 in
theorem ggX8_init_X4_readInto : GoodIn wsX8_init wsX4_readInto := goodIn_r _ [154, 155, 150, 156, 157, 158, 10, 159, 160, 161, 162, 163, 164, 165, 6, 166, 45, 167, 168, 169, 170, 43, 171, 172, 173, 174, 175, 176, 177, 178, 179, 180, 181, 182, 183, 184, 185, 49, 50, 51, 186, 187, 188, 189, 190, 191, 192, 193, 194, 195, 196, 197, 52, 198, 199, 200, 201, 202, 203, 204, 205, 206, 207, 208, 209, 53, 54, 226, 227, 228, 229, 240, 241, 242, 243, 244, 245, 246, 247, 248] (by decide +kernel) (by decide +kernel)
set_option maxRecDepth 20000 in
theorem gX8_init_X4_readInto : GoodIn wsX8_init (wsV RX8 89 RX4 yX4_readInto wsX4_readInto) := goodIn_app (goodIn_of _ (by decide +kernel)) ggX8_init_X4_readInto
set_option maxRecDepth 20000 in
theorem ggX8_init_X6_begin : GoodIn wsX8_init wsX6_begin := goodIn_r _ [213, 214, 215, 59, 60, 216, 58, 217, 218, 219, 220, 221, 15, 222, 223, 224, 195, 196, 10, 197, 52, 198, 199, 200, 201, 161, 225, 249, 250, 251, 252, 253, 254, 240, 241, 242, 243, 244, 245, 246, 247, 248] (by decide +kernel) (by decide +kernel)
set_option maxRecDepth 20000 in
theorem gX8_init_X6_begin : GoodIn wsX8_init (wsV RX8 96 RX6 yX6_begin wsX6_begin) := goodIn_app (goodIn_of _ (by decide +kernel)) ggX8_init_X6_begin
theorem dX8_init_0 : decode cX8_init 0 = .ok (.aload_n 0, 1) := by decide +kernel
theorem dX8_init_1 : decode cX8_init 1 = .ok (.invokespecial 1, 3) := by decide +kernel
theorem dX8_init_4 : decode cX8_init 4 = .ok (.aload_n 0, 1) := by decide +kernel
theorem dX8_init_5 : decode cX8_init 5 = .ok (.new 7, 3) := by decide +kernel
theorem dX8_init_8 : decode cX8_init 8 = .ok (.dup, 1) := by decide +kernel
theorem dX8_init_9 : decode cX8_init 9 = .ok (.invokespecial 9, 3) := by decide +kernel
theorem dX8_init_12 : decode cX8_init 12 = .ok (.putfield 10, 3) := by decide +kernel
theorem dX8_init_15 : decode cX8_init 15 = .ok (.aload_n 0, 1) := by decide +kernel
theorem dX8_init_16 : decode cX8_init 16 = .ok (.new 16, 3) := by decide +kernel
theorem dX8_init_19 : decode cX8_init 19 = .ok (.dup, 1) := by decide +kernel
theorem dX8_init_20 : decode cX8_init 20 = .ok (.invokespecial 18, 3) := by decide +kernel
theorem dX8_init_23 : decode cX8_init 23 = .ok (.putfield 19, 3) := by decide +kernel
theorem dX8_init_26 : decode cX8_init 26 = .ok (.aload_n 0, 1) := by decide +kernel
theorem dX8_init_27 : decode cX8_init 27 = .ok (.new 16, 3) := by decide +kernel
theorem dX8_init_30 : decode cX8_init 30 = .ok (.dup, 1) := by decide +kernel
theorem dX8_init_31 : decode cX8_init 31 = .ok (.invokespecial 18, 3) := by decide +kernel
theorem dX8_init_34 : decode cX8_init 34 = .ok (.putfield 23, 3) := by decide +kernel
theorem dX8_init_37 : decode cX8_init 37 = .ok (.aload_n 0, 1) := by decide +kernel
theorem dX8_init_38 : decode cX8_init 38 = .ok (.new 26, 3) := by decide +kernel
theorem dX8_init_41 : decode cX8_init 41 = .ok (.dup, 1) := by decide +kernel
theorem dX8_init_42 : decode cX8_init 42 = .ok (.invokespecial 28, 3) := by decide +kernel
theorem dX8_init_45 : decode cX8_init 45 = .ok (.putfield 29, 3) := by decide +kernel
theorem dX8_init_48 : decode cX8_init 48 = .ok (.aload_n 0, 1) := by decide +kernel
theorem dX8_init_49 : decode cX8_init 49 = .ok (.new 33, 3) := by decide +kernel
theorem dX8_init_52 : decode cX8_init 52 = .ok (.dup, 1) := by decide +kernel
theorem dX8_init_53 : decode cX8_init 53 = .ok (.bipush 8, 2) := by decide +kernel
theorem dX8_init_55 : decode cX8_init 55 = .ok (.invokespecial 35, 3) := by decide +kernel
theorem dX8_init_58 : decode cX8_init 58 = .ok (.putfield 38, 3) := by decide +kernel
theorem dX8_init_61 : decode cX8_init 61 = .ok (.aload_n 0, 1) := by decide +kernel
theorem dX8_init_62 : decode cX8_init 62 = .ok (.new 33, 3) := by decide +kernel
theorem dX8_init_65 : decode cX8_init 65 = .ok (.dup, 1) := by decide +kernel
theorem dX8_init_66 : decode cX8_init 66 = .ok (.iconst 2, 1) := by decide +kernel
theorem dX8_init_67 : decode cX8_init 67 = .ok (.invokespecial 35, 3) := by decide +kernel
theorem dX8_init_70 : decode cX8_init 70 = .ok (.putfield 42, 3) := by decide +kernel
theorem dX8_init_73 : decode cX8_init 73 = .ok (.aload_n 0, 1) := by decide +kernel
theorem dX8_init_74 : decode cX8_init 74 = .ok (.new 45, 3) := by decide +kernel
theorem dX8_init_77 : decode cX8_init 77 = .ok (.dup, 1) := by decide +kernel
theorem dX8_init_78 : decode cX8_init 78 = .ok (.invokespecial 47, 3) := by decide +kernel
theorem dX8_init_81 : decode cX8_init 81 = .ok (.putfield 48, 3) := by decide +kernel
theorem dX8_init_84 : decode cX8_init 84 = .ok (.aload_n 0, 1) := by decide +kernel
theorem dX8_init_85 : decode cX8_init 85 = .ok (.new 52, 3) := by decide +kernel
theorem dX8_init_88 : decode cX8_init 88 = .ok (.dup, 1) := by decide +kernel
theorem dX8_init_89 : decode cX8_init 89 = .ok (.invokespecial 54, 3) := by decide +kernel
theorem dX8_init_92 : decode cX8_init 92 = .ok (.putfield 55, 3) := by decide +kernel
theorem dX8_init_95 : decode cX8_init 95 = .ok (.aload_n 0, 1) := by decide +kernel
theorem dX8_init_96 : decode cX8_init 96 = .ok (.new 59, 3) := by decide +kernel
theorem dX8_init_99 : decode cX8_init 99 = .ok (.dup, 1) := by decide +kernel
theorem dX8_init_100 : decode cX8_init 100 = .ok (.invokespecial 61, 3) := by decide +kernel
theorem dX8_init_103 : decode cX8_init 103 = .ok (.putfield 62, 3) := by decide +kernel
theorem dX8_init_106 : decode cX8_init 106 = .ok (.aload_n 0, 1) := by decide +kernel
theorem dX8_init_107 : decode cX8_init 107 = .ok (.new 66, 3) := by decide +kernel
theorem dX8_init_110 : decode cX8_init 110 = .ok (.dup, 1) := by decide +kernel
theorem dX8_init_111 : decode cX8_init 111 = .ok (.invokespecial 68, 3) := by decide +kernel
theorem dX8_init_114 : decode cX8_init 114 = .ok (.putfield 69, 3) := by decide +kernel
theorem dX8_init_117 : decode cX8_init 117 = .ok (.iconst 0, 1) := by decide +kernel
theorem dX8_init_118 : decode cX8_init 118 = .ok (.istore_n 1, 1) := by decide +kernel
theorem dX8_init_119 : decode cX8_init 119 = .ok (.iload_n 1, 1) := by decide +kernel
theorem dX8_init_120 : decode cX8_init 120 = .ok (.ldc 73, 2) := by decide +kernel
theorem dX8_init_122 : decode cX8_init 122 = .ok (.invokevirtual 75, 3) := by decide +kernel
theorem dX8_init_125 : decode cX8_init 125 = .ok (.if_icmp .ge 23, 3) := by decide +kernel
theorem dX8_init_128 : decode cX8_init 128 = .ok (.aload_n 0, 1) := by decide +kernel
theorem dX8_init_129 : decode cX8_init 129 = .ok (.getfield 10, 3) := by decide +kernel
theorem dX8_init_132 : decode cX8_init 132 = .ok (.ldc 73, 2) := by decide +kernel
theorem dX8_init_134 : decode cX8_init 134 = .ok (.iload_n 1, 1) := by decide +kernel
theorem dX8_init_135 : decode cX8_init 135 = .ok (.invokevirtual 81, 3) := by decide +kernel
theorem dX8_init_138 : decode cX8_init 138 = .ok (.invokevirtual 85, 3) := by decide +kernel
theorem dX8_init_141 : decode cX8_init 141 = .ok (.pop, 1) := by decide +kernel
theorem dX8_init_142 : decode cX8_init 142 = .ok (.iinc 1 1, 3) := by decide +kernel
theorem dX8_init_145 : decode cX8_init 145 = .ok (.goto (-26), 3) := by decide +kernel
theorem dX8_init_148 : decode cX8_init 148 = .ok (.aload_n 0, 1) := by decide +kernel
theorem dX8_init_149 : decode cX8_init 149 = .ok (.getfield 10, 3) := by decide +kernel
theorem dX8_init_152 : decode cX8_init 152 = .ok (.aload_n 0, 1) := by decide +kernel
theorem dX8_init_153 : decode cX8_init 153 = .ok (.getfield 19, 3) := by decide +kernel
theorem dX8_init_156 : decode cX8_init 156 = .ok (.invokevirtual 89, 3) := by decide +kernel
theorem dX8_init_159 : decode cX8_init 159 = .ok (.pop, 1) := by decide +kernel
theorem dX8_init_160 : decode cX8_init 160 = .ok (.aload_n 0, 1) := by decide +kernel
theorem dX8_init_161 : decode cX8_init 161 = .ok (.getfield 10, 3) := by decide +kernel
theorem dX8_init_164 : decode cX8_init 164 = .ok (.iconst 0, 1) := by decide +kernel
theorem dX8_init_165 : decode cX8_init 165 = .ok (.putfield 93, 3) := by decide +kernel
theorem dX8_init_168 : decode cX8_init 168 = .ok (.aload_n 0, 1) := by decide +kernel
theorem dX8_init_169 : decode cX8_init 169 = .ok (.getfield 29, 3) := by decide +kernel
theorem dX8_init_172 : decode cX8_init 172 = .ok (.aload_n 0, 1) := by decide +kernel
theorem dX8_init_173 : decode cX8_init 173 = .ok (.getfield 19, 3) := by decide +kernel
theorem dX8_init_176 : decode cX8_init 176 = .ok (.invokevirtual 96, 3) := by decide +kernel
theorem dX8_init_179 : decode cX8_init 179 = .ok (.return_, 1) := by decide +kernel
set_option maxRecDepth 20000 in
theorem ggX8_write_X8_within : GoodIn wsX8_write wsX8_within := goodIn_r _ [6] (by decide +kernel) (by decide +kernel)
set_option maxRecDepth 20000 in
theorem gX8_write_X8_within : GoodIn wsX8_write (va_wsS RX8 100 yX8_within wsX8_within) := goodIn_app (goodIn_of _ (by decide +kernel)) ggX8_write_X8_within
set_option maxRecDepth 20000 in
theorem ggX8_write_X4_append : GoodIn wsX8_write wsX4_append := goodIn_r _ [11, 12, 13, 24, 25, 26, 27] (by decide +kernel) (by decide +kernel)
set_option maxRecDepth 20000 in
theorem gX8_write_X4_append : GoodIn wsX8_write (wsV RX8 85 RX4 yX4_append wsX4_append) := goodIn_app (goodIn_of _ (by decide +kernel)) ggX8_write_X4_append
theorem dX8_write_0 : decode cX8_write 0 = .ok (.iload_n 1, 1) := by decide +kernel
theorem dX8_write_1 : decode cX8_write 1 = .ok (.bipush 32, 2) := by decide +kernel
theorem dX8_write_3 : decode cX8_write 3 = .ok (.bipush 126, 2) := by decide +kernel
theorem dX8_write_5 : decode cX8_write 5 = .ok (.invokestatic 100, 3) := by decide +kernel
theorem dX8_write_8 : decode cX8_write 8 = .ok (.ifCond .ne 5, 3) := by decide +kernel
theorem dX8_write_11 : decode cX8_write 11 = .ok (.iconst (-1), 1) := by decide +kernel
theorem dX8_write_12 : decode cX8_write 12 = .ok (.ireturn, 1) := by decide +kernel
theorem dX8_write_13 : decode cX8_write 13 = .ok (.aload_n 0, 1) := by decide +kernel
theorem dX8_write_14 : decode cX8_write 14 = .ok (.getfield 10, 3) := by decide +kernel
theorem dX8_write_17 : decode cX8_write 17 = .ok (.iload_n 1, 1) := by decide +kernel
theorem dX8_write_18 : decode cX8_write 18 = .ok (.i2c, 1) := by decide +kernel
theorem dX8_write_19 : decode cX8_write 19 = .ok (.invokevirtual 85, 3) := by decide +kernel
theorem dX8_write_22 : decode cX8_write 22 = .ok (.ifCond .eq 13, 3) := by decide +kernel
theorem dX8_write_25 : decode cX8_write 25 = .ok (.aload_n 0, 1) := by decide +kernel
theorem dX8_write_26 : decode cX8_write 26 = .ok (.getfield 10, 3) := by decide +kernel
theorem dX8_write_29 : decode cX8_write 29 = .ok (.getfield 93, 3) := by decide +kernel
theorem dX8_write_32 : decode cX8_write 32 = .ok (.goto 5, 3) := by decide +kernel
theorem dX8_write_35 : decode cX8_write 35 = .ok (.bipush (-3), 2) := by decide +kernel
theorem dX8_write_37 : decode cX8_write 37 = .ok (.ireturn, 1) := by decide +kernel
theorem dX8_wipe_0 : decode cX8_wipe 0 = .ok (.aload_n 0, 1) := by decide +kernel
theorem dX8_wipe_1 : decode cX8_wipe 1 = .ok (.getfield 10, 3) := by decide +kernel
theorem dX8_wipe_4 : decode cX8_wipe 4 = .ok (.getfield 93, 3) := by decide +kernel
theorem dX8_wipe_7 : decode cX8_wipe 7 = .ok (.istore_n 1, 1) := by decide +kernel
theorem dX8_wipe_8 : decode cX8_wipe 8 = .ok (.aload_n 0, 1) := by decide +kernel
theorem dX8_wipe_9 : decode cX8_wipe 9 = .ok (.getfield 10, 3) := by decide +kernel
theorem dX8_wipe_12 : decode cX8_wipe 12 = .ok (.iconst 0, 1) := by decide +kernel
theorem dX8_wipe_13 : decode cX8_wipe 13 = .ok (.putfield 93, 3) := by decide +kernel
theorem dX8_wipe_16 : decode cX8_wipe 16 = .ok (.iload_n 1, 1) := by decide +kernel
theorem dX8_wipe_17 : decode cX8_wipe 17 = .ok (.ireturn, 1) := by decide +kernel
set_option maxRecDepth 20000 in
theorem ggX8_fault_X4_readInto : GoodIn wsX8_fault wsX4_readInto := goodIn_r _ [7, 8, 9, 10, 11, 12, 13, 14, 15, 16, 17, 18, 19, 20, 6, 21, 22, 23, 24, 25, 26, 27, 28, 29, 30, 31, 32, 33, 34, 35, 36, 37, 38, 39, 40, 41, 42, 43, 44, 45, 46, 47, 48, 49, 50, 51, 52, 53, 54, 55, 56, 57, 58, 59, 60, 61, 62, 63, 64, 65, 66, 67, 68, 69, 70, 71, 72, 83, 84, 85, 86, 87, 88, 89, 90, 91, 92, 93, 94, 95] (by decide +kernel) (by decide +kernel)
set_option maxRecDepth 20000 in
theorem gX8_fault_X4_readInto : GoodIn wsX8_fault (wsV RX8 89 RX4 yX4_readInto wsX4_readInto) := goodIn_app (goodIn_of _ (by decide +kernel)) ggX8_fault_X4_readInto
theorem dX8_fault_0 : decode cX8_fault 0 = .ok (.aload_n 0, 1) := by decide +kernel
theorem dX8_fault_1 : decode cX8_fault 1 = .ok (.getfield 10, 3) := by decide +kernel
theorem dX8_fault_4 : decode cX8_fault 4 = .ok (.aload_n 0, 1) := by decide +kernel
theorem dX8_fault_5 : decode cX8_fault 5 = .ok (.getfield 23, 3) := by decide +kernel
theorem dX8_fault_8 : decode cX8_fault 8 = .ok (.invokevirtual 89, 3) := by decide +kernel
theorem dX8_fault_11 : decode cX8_fault 11 = .ok (.ireturn, 1) := by decide +kernel
set_option maxRecDepth 20000 in
theorem ggX8_lay_X4_readInto : GoodIn wsX8_lay wsX4_readInto := goodIn_r _ [15, 16, 17, 18, 19, 20, 21, 22, 23, 24, 25, 26, 27, 28, 14, 29, 30, 31, 32, 33, 34, 35, 36, 37, 38, 39, 40, 41, 42, 43, 44, 45, 46, 47, 48, 49, 50, 51, 52, 53, 54, 55, 56, 57, 58, 59, 60, 61, 62, 63, 64, 65, 66, 67, 68, 69, 70, 71, 72, 73, 74, 75, 76, 77, 78, 79, 80, 134, 135, 136, 137, 119, 120, 121, 122, 123, 124, 125, 126, 127] (by decide +kernel) (by decide +kernel)
set_option maxRecDepth 20000 in
theorem gX8_lay_X4_readInto : GoodIn wsX8_lay (wsV RX8 89 RX4 yX4_readInto wsX4_readInto) := goodIn_app (goodIn_of _ (by decide +kernel)) ggX8_lay_X4_readInto
set_option maxRecDepth 20000 in
theorem ggX8_lay_X1_takeOver : GoodIn wsX8_lay wsX1_takeOver := goodIn_r _ [84, 23, 24, 25, 51, 85, 86, 87, 88, 52, 53, 66, 79, 80, 119, 120, 121, 122, 123, 124, 125, 126, 127] (by decide +kernel) (by decide +kernel)
set_option maxRecDepth 20000 in
theorem gX8_lay_X1_takeOver : GoodIn wsX8_lay (wsV RX8 107 RX1 yX1_takeOver wsX1_takeOver) := goodIn_app (goodIn_of _ (by decide +kernel)) ggX8_lay_X1_takeOver
set_option maxRecDepth 20000 in
theorem ggX8_lay_X6_begin : GoodIn wsX8_lay wsX6_begin := goodIn_r _ [93, 94, 95, 96, 97, 98, 99, 100, 101, 102, 103, 104, 92, 105, 106, 107, 63, 64, 21, 65, 66, 67, 68, 69, 70, 24, 108, 138, 139, 140, 141, 142, 143, 119, 120, 121, 122, 123, 124, 125, 126, 127] (by decide +kernel) (by decide +kernel)
set_option maxRecDepth 20000 in
theorem gX8_lay_X6_begin : GoodIn wsX8_lay (wsV RX8 96 RX6 yX6_begin wsX6_begin) := goodIn_app (goodIn_of _ (by decide +kernel)) ggX8_lay_X6_begin
theorem dX8_lay_0 : decode cX8_lay 0 = .ok (.aload_n 0, 1) := by decide +kernel
theorem dX8_lay_1 : decode cX8_lay 1 = .ok (.getfield 10, 3) := by decide +kernel
theorem dX8_lay_4 : decode cX8_lay 4 = .ok (.aload_n 0, 1) := by decide +kernel
theorem dX8_lay_5 : decode cX8_lay 5 = .ok (.getfield 23, 3) := by decide +kernel
theorem dX8_lay_8 : decode cX8_lay 8 = .ok (.invokevirtual 89, 3) := by decide +kernel
theorem dX8_lay_11 : decode cX8_lay 11 = .ok (.bipush (-4), 2) := by decide +kernel
theorem dX8_lay_13 : decode cX8_lay 13 = .ok (.if_icmp .ne 13, 3) := by decide +kernel
theorem dX8_lay_16 : decode cX8_lay 16 = .ok (.aload_n 0, 1) := by decide +kernel
theorem dX8_lay_17 : decode cX8_lay 17 = .ok (.getfield 23, 3) := by decide +kernel
theorem dX8_lay_20 : decode cX8_lay 20 = .ok (.getfield 104, 3) := by decide +kernel
theorem dX8_lay_23 : decode cX8_lay 23 = .ok (.ifCond .ne 6, 3) := by decide +kernel
theorem dX8_lay_26 : decode cX8_lay 26 = .ok (.bipush (-2), 2) := by decide +kernel
theorem dX8_lay_28 : decode cX8_lay 28 = .ok (.ireturn, 1) := by decide +kernel
theorem dX8_lay_29 : decode cX8_lay 29 = .ok (.aload_n 0, 1) := by decide +kernel
theorem dX8_lay_30 : decode cX8_lay 30 = .ok (.getfield 19, 3) := by decide +kernel
theorem dX8_lay_33 : decode cX8_lay 33 = .ok (.aload_n 0, 1) := by decide +kernel
theorem dX8_lay_34 : decode cX8_lay 34 = .ok (.getfield 23, 3) := by decide +kernel
theorem dX8_lay_37 : decode cX8_lay 37 = .ok (.invokevirtual 107, 3) := by decide +kernel
theorem dX8_lay_40 : decode cX8_lay 40 = .ok (.aload_n 0, 1) := by decide +kernel
theorem dX8_lay_41 : decode cX8_lay 41 = .ok (.getfield 29, 3) := by decide +kernel
theorem dX8_lay_44 : decode cX8_lay 44 = .ok (.aload_n 0, 1) := by decide +kernel
theorem dX8_lay_45 : decode cX8_lay 45 = .ok (.getfield 19, 3) := by decide +kernel
theorem dX8_lay_48 : decode cX8_lay 48 = .ok (.invokevirtual 96, 3) := by decide +kernel
theorem dX8_lay_51 : decode cX8_lay 51 = .ok (.aload_n 0, 1) := by decide +kernel
theorem dX8_lay_52 : decode cX8_lay 52 = .ok (.getfield 38, 3) := by decide +kernel
theorem dX8_lay_55 : decode cX8_lay 55 = .ok (.iconst 0, 1) := by decide +kernel
theorem dX8_lay_56 : decode cX8_lay 56 = .ok (.putfield 110, 3) := by decide +kernel
theorem dX8_lay_59 : decode cX8_lay 59 = .ok (.aload_n 0, 1) := by decide +kernel
theorem dX8_lay_60 : decode cX8_lay 60 = .ok (.getfield 42, 3) := by decide +kernel
theorem dX8_lay_63 : decode cX8_lay 63 = .ok (.iconst 0, 1) := by decide +kernel
theorem dX8_lay_64 : decode cX8_lay 64 = .ok (.putfield 110, 3) := by decide +kernel
theorem dX8_lay_67 : decode cX8_lay 67 = .ok (.aload_n 0, 1) := by decide +kernel
theorem dX8_lay_68 : decode cX8_lay 68 = .ok (.getfield 48, 3) := by decide +kernel
theorem dX8_lay_71 : decode cX8_lay 71 = .ok (.iconst 0, 1) := by decide +kernel
theorem dX8_lay_72 : decode cX8_lay 72 = .ok (.putfield 113, 3) := by decide +kernel
theorem dX8_lay_75 : decode cX8_lay 75 = .ok (.aload_n 0, 1) := by decide +kernel
theorem dX8_lay_76 : decode cX8_lay 76 = .ok (.getfield 19, 3) := by decide +kernel
theorem dX8_lay_79 : decode cX8_lay 79 = .ok (.getfield 104, 3) := by decide +kernel
theorem dX8_lay_82 : decode cX8_lay 82 = .ok (.ireturn, 1) := by decide +kernel
set_option maxRecDepth 20000 in
theorem ggX8_family_X8_isFamily : GoodIn wsX8_family wsX8_isFamily := goodIn_r _ [10, 1, 11, 12, 13, 9, 14, 45, 46, 47, 48, 49, 50, 51, 52, 53, 54, 55, 56, 57, 58, 59, 60, 61, 62, 63] (by decide +kernel) (by decide +kernel)
set_option maxRecDepth 20000 in
theorem gX8_family_X8_isFamily : GoodIn wsX8_family (wsV RX8 114 RX8 yX8_isFamily wsX8_isFamily) := goodIn_app (goodIn_of _ (by decide +kernel)) ggX8_family_X8_isFamily
set_option maxRecDepth 20000 in
theorem ggX8_family_X6_isSick : GoodIn wsX8_family wsX6_isSick := goodIn_r _ [19, 20, 64, 65, 66, 67, 68, 69] (by decide +kernel) (by decide +kernel)
set_option maxRecDepth 20000 in
theorem gX8_family_X6_isSick : GoodIn wsX8_family (wsV RX8 128 RX6 yX6_isSick wsX6_isSick) := goodIn_app (goodIn_of _ (by decide +kernel)) ggX8_family_X6_isSick
set_option maxRecDepth 20000 in
theorem ggX8_family_X1_wallsOf : GoodIn wsX8_family wsX1_wallsOf := goodIn_r _ [25, 26, 27, 28, 29, 24, 30, 31, 55, 56, 57, 58, 59, 60, 61, 62, 63] (by decide +kernel) (by decide +kernel)
set_option maxRecDepth 20000 in
theorem gX8_family_X1_wallsOf : GoodIn wsX8_family (wsV RX8 131 RX1 yX1_wallsOf wsX1_wallsOf) := goodIn_app (goodIn_of _ (by decide +kernel)) ggX8_family_X1_wallsOf
set_option maxRecDepth 20000 in
theorem ggX8_family_X8_treesOf : GoodIn wsX8_family wsX8_treesOf := goodIn_r _ [35, 1, 36, 4, 37, 38, 39, 18, 40, 41, 42, 43, 44, 45, 46, 47, 48, 49, 50, 51, 52, 53, 54, 55, 56, 57, 58, 59, 60, 61, 62, 63, 64, 65, 66, 67, 68, 69] (by decide +kernel) (by decide +kernel)
set_option maxRecDepth 20000 in
theorem gX8_family_X8_treesOf : GoodIn wsX8_family (wsV RX8 135 RX8 yX8_treesOf wsX8_treesOf) := goodIn_app (goodIn_of _ (by decide +kernel)) ggX8_family_X8_treesOf
theorem dX8_family_0 : decode cX8_family 0 = .ok (.aload_n 0, 1) := by decide +kernel
theorem dX8_family_1 : decode cX8_family 1 = .ok (.iload_n 1, 1) := by decide +kernel
theorem dX8_family_2 : decode cX8_family 2 = .ok (.invokevirtual 114, 3) := by decide +kernel
theorem dX8_family_5 : decode cX8_family 5 = .ok (.ifCond .ne 5, 3) := by decide +kernel
theorem dX8_family_8 : decode cX8_family 8 = .ok (.iconst (-1), 1) := by decide +kernel
theorem dX8_family_9 : decode cX8_family 9 = .ok (.ireturn, 1) := by decide +kernel
theorem dX8_family_10 : decode cX8_family 10 = .ok (.iload_n 2, 1) := by decide +kernel
theorem dX8_family_11 : decode cX8_family 11 = .ok (.tableswitch 99 0 5 #[37, 47, 57, 67, 84, 93], 37) := by decide +kernel
theorem dX8_family_48 : decode cX8_family 48 = .ok (.aload_n 0, 1) := by decide +kernel
theorem dX8_family_49 : decode cX8_family 49 = .ok (.getfield 19, 3) := by decide +kernel
theorem dX8_family_52 : decode cX8_family 52 = .ok (.getfield 118, 3) := by decide +kernel
theorem dX8_family_55 : decode cX8_family 55 = .ok (.iload_n 1, 1) := by decide +kernel
theorem dX8_family_56 : decode cX8_family 56 = .ok (.iaload, 1) := by decide +kernel
theorem dX8_family_57 : decode cX8_family 57 = .ok (.ireturn, 1) := by decide +kernel
theorem dX8_family_58 : decode cX8_family 58 = .ok (.aload_n 0, 1) := by decide +kernel
theorem dX8_family_59 : decode cX8_family 59 = .ok (.getfield 19, 3) := by decide +kernel
theorem dX8_family_62 : decode cX8_family 62 = .ok (.getfield 122, 3) := by decide +kernel
theorem dX8_family_65 : decode cX8_family 65 = .ok (.iload_n 1, 1) := by decide +kernel
theorem dX8_family_66 : decode cX8_family 66 = .ok (.iaload, 1) := by decide +kernel
theorem dX8_family_67 : decode cX8_family 67 = .ok (.ireturn, 1) := by decide +kernel
theorem dX8_family_68 : decode cX8_family 68 = .ok (.aload_n 0, 1) := by decide +kernel
theorem dX8_family_69 : decode cX8_family 69 = .ok (.getfield 29, 3) := by decide +kernel
theorem dX8_family_72 : decode cX8_family 72 = .ok (.getfield 125, 3) := by decide +kernel
theorem dX8_family_75 : decode cX8_family 75 = .ok (.iload_n 1, 1) := by decide +kernel
theorem dX8_family_76 : decode cX8_family 76 = .ok (.iaload, 1) := by decide +kernel
theorem dX8_family_77 : decode cX8_family 77 = .ok (.ireturn, 1) := by decide +kernel
theorem dX8_family_78 : decode cX8_family 78 = .ok (.aload_n 0, 1) := by decide +kernel
theorem dX8_family_79 : decode cX8_family 79 = .ok (.getfield 29, 3) := by decide +kernel
theorem dX8_family_82 : decode cX8_family 82 = .ok (.iload_n 1, 1) := by decide +kernel
theorem dX8_family_83 : decode cX8_family 83 = .ok (.invokevirtual 128, 3) := by decide +kernel
theorem dX8_family_86 : decode cX8_family 86 = .ok (.ifCond .eq 7, 3) := by decide +kernel
theorem dX8_family_89 : decode cX8_family 89 = .ok (.iconst 1, 1) := by decide +kernel
theorem dX8_family_90 : decode cX8_family 90 = .ok (.goto 4, 3) := by decide +kernel
theorem dX8_family_93 : decode cX8_family 93 = .ok (.iconst 0, 1) := by decide +kernel
theorem dX8_family_94 : decode cX8_family 94 = .ok (.ireturn, 1) := by decide +kernel
theorem dX8_family_95 : decode cX8_family 95 = .ok (.aload_n 0, 1) := by decide +kernel
theorem dX8_family_96 : decode cX8_family 96 = .ok (.getfield 19, 3) := by decide +kernel
theorem dX8_family_99 : decode cX8_family 99 = .ok (.iload_n 1, 1) := by decide +kernel
theorem dX8_family_100 : decode cX8_family 100 = .ok (.invokevirtual 131, 3) := by decide +kernel
theorem dX8_family_103 : decode cX8_family 103 = .ok (.ireturn, 1) := by decide +kernel
theorem dX8_family_104 : decode cX8_family 104 = .ok (.aload_n 0, 1) := by decide +kernel
theorem dX8_family_105 : decode cX8_family 105 = .ok (.iload_n 1, 1) := by decide +kernel
theorem dX8_family_106 : decode cX8_family 106 = .ok (.invokevirtual 135, 3) := by decide +kernel
theorem dX8_family_109 : decode cX8_family 109 = .ok (.ireturn, 1) := by decide +kernel
theorem dX8_family_110 : decode cX8_family 110 = .ok (.iconst (-1), 1) := by decide +kernel
theorem dX8_family_111 : decode cX8_family 111 = .ok (.ireturn, 1) := by decide +kernel
set_option maxRecDepth 20000 in
theorem ggX8_wall_X8_isWall : GoodIn wsX8_wall wsX8_isWall := goodIn_r _ [10, 1, 11, 12, 13, 9, 14, 34, 35, 36, 37, 38, 39, 40, 41, 42, 43, 44, 45, 46, 47, 48, 49, 50, 51, 52] (by decide +kernel) (by decide +kernel)
set_option maxRecDepth 20000 in
theorem gX8_wall_X8_isWall : GoodIn wsX8_wall (wsV RX8 138 RX8 yX8_isWall wsX8_isWall) := goodIn_app (goodIn_of _ (by decide +kernel)) ggX8_wall_X8_isWall
set_option maxRecDepth 20000 in
theorem ggX8_wall_X6_does : GoodIn wsX8_wall wsX6_does := goodIn_r _ [19, 20, 21, 22, 23, 24, 25, 53, 54, 55, 56, 57, 58, 44, 45, 46, 47, 48, 49, 50, 51, 52] (by decide +kernel) (by decide +kernel)
set_option maxRecDepth 20000 in
theorem gX8_wall_X6_does : GoodIn wsX8_wall (wsV RX8 150 RX6 yX6_does wsX6_does) := goodIn_app (goodIn_of _ (by decide +kernel)) ggX8_wall_X6_does
set_option maxRecDepth 20000 in
theorem ggX8_wall_X6_losingSide : GoodIn wsX8_wall wsX6_losingSide := goodIn_r _ [29, 25, 21, 53, 54, 55, 56, 57, 58, 44, 45, 46, 47, 48, 49, 50, 51, 52] (by decide +kernel) (by decide +kernel)
set_option maxRecDepth 20000 in
theorem gX8_wall_X6_losingSide : GoodIn wsX8_wall (wsV RX8 154 RX6 yX6_losingSide wsX6_losingSide) := goodIn_app (goodIn_of _ (by decide +kernel)) ggX8_wall_X6_losingSide
set_option maxRecDepth 20000 in
theorem ggX8_wall_X8_ownerOrNone : GoodIn wsX8_wall wsX8_ownerOrNone := goodIn_r _ [33, 1, 2, 34, 35, 36, 37, 38, 39, 40, 41, 42, 43, 44, 45, 46, 47, 48, 49, 50, 51, 52] (by decide +kernel) (by decide +kernel)
set_option maxRecDepth 20000 in
theorem gX8_wall_X8_ownerOrNone : GoodIn wsX8_wall (wsV RX8 158 RX8 yX8_ownerOrNone wsX8_ownerOrNone) := goodIn_app (goodIn_of _ (by decide +kernel)) ggX8_wall_X8_ownerOrNone
theorem dX8_wall_0 : decode cX8_wall 0 = .ok (.aload_n 0, 1) := by decide +kernel
theorem dX8_wall_1 : decode cX8_wall 1 = .ok (.iload_n 1, 1) := by decide +kernel
theorem dX8_wall_2 : decode cX8_wall 2 = .ok (.invokevirtual 138, 3) := by decide +kernel
theorem dX8_wall_5 : decode cX8_wall 5 = .ok (.ifCond .ne 5, 3) := by decide +kernel
theorem dX8_wall_8 : decode cX8_wall 8 = .ok (.iconst (-1), 1) := by decide +kernel
theorem dX8_wall_9 : decode cX8_wall 9 = .ok (.ireturn, 1) := by decide +kernel
theorem dX8_wall_10 : decode cX8_wall 10 = .ok (.iconst 2, 1) := by decide +kernel
theorem dX8_wall_11 : decode cX8_wall 11 = .ok (.iload_n 1, 1) := by decide +kernel
theorem dX8_wall_12 : decode cX8_wall 12 = .ok (.imul, 1) := by decide +kernel
theorem dX8_wall_13 : decode cX8_wall 13 = .ok (.istore_n 3, 1) := by decide +kernel
theorem dX8_wall_14 : decode cX8_wall 14 = .ok (.iload_n 3, 1) := by decide +kernel
theorem dX8_wall_15 : decode cX8_wall 15 = .ok (.iconst 1, 1) := by decide +kernel
theorem dX8_wall_16 : decode cX8_wall 16 = .ok (.iadd, 1) := by decide +kernel
theorem dX8_wall_17 : decode cX8_wall 17 = .ok (.istore 4, 2) := by decide +kernel
theorem dX8_wall_19 : decode cX8_wall 19 = .ok (.iload_n 2, 1) := by decide +kernel
theorem dX8_wall_20 : decode cX8_wall 20 = .ok (.tableswitch 172 0 7 #[48, 58, 69, 82, 92, 103, 116, 130], 48) := by decide +kernel
theorem dX8_wall_68 : decode cX8_wall 68 = .ok (.aload_n 0, 1) := by decide +kernel
theorem dX8_wall_69 : decode cX8_wall 69 = .ok (.getfield 19, 3) := by decide +kernel
theorem dX8_wall_72 : decode cX8_wall 72 = .ok (.getfield 141, 3) := by decide +kernel
theorem dX8_wall_75 : decode cX8_wall 75 = .ok (.iload_n 3, 1) := by decide +kernel
theorem dX8_wall_76 : decode cX8_wall 76 = .ok (.iaload, 1) := by decide +kernel
theorem dX8_wall_77 : decode cX8_wall 77 = .ok (.ireturn, 1) := by decide +kernel
theorem dX8_wall_78 : decode cX8_wall 78 = .ok (.aload_n 0, 1) := by decide +kernel
theorem dX8_wall_79 : decode cX8_wall 79 = .ok (.getfield 19, 3) := by decide +kernel
theorem dX8_wall_82 : decode cX8_wall 82 = .ok (.getfield 141, 3) := by decide +kernel
theorem dX8_wall_85 : decode cX8_wall 85 = .ok (.iload 4, 2) := by decide +kernel
theorem dX8_wall_87 : decode cX8_wall 87 = .ok (.iaload, 1) := by decide +kernel
theorem dX8_wall_88 : decode cX8_wall 88 = .ok (.ireturn, 1) := by decide +kernel
theorem dX8_wall_89 : decode cX8_wall 89 = .ok (.aload_n 0, 1) := by decide +kernel
theorem dX8_wall_90 : decode cX8_wall 90 = .ok (.getfield 29, 3) := by decide +kernel
theorem dX8_wall_93 : decode cX8_wall 93 = .ok (.getfield 144, 3) := by decide +kernel
theorem dX8_wall_96 : decode cX8_wall 96 = .ok (.iload_n 1, 1) := by decide +kernel
theorem dX8_wall_97 : decode cX8_wall 97 = .ok (.iaload, 1) := by decide +kernel
theorem dX8_wall_98 : decode cX8_wall 98 = .ok (.bipush 50, 2) := by decide +kernel
theorem dX8_wall_100 : decode cX8_wall 100 = .ok (.iadd, 1) := by decide +kernel
theorem dX8_wall_101 : decode cX8_wall 101 = .ok (.ireturn, 1) := by decide +kernel
theorem dX8_wall_102 : decode cX8_wall 102 = .ok (.aload_n 0, 1) := by decide +kernel
theorem dX8_wall_103 : decode cX8_wall 103 = .ok (.getfield 29, 3) := by decide +kernel
theorem dX8_wall_106 : decode cX8_wall 106 = .ok (.getfield 147, 3) := by decide +kernel
theorem dX8_wall_109 : decode cX8_wall 109 = .ok (.iload_n 3, 1) := by decide +kernel
theorem dX8_wall_110 : decode cX8_wall 110 = .ok (.iaload, 1) := by decide +kernel
theorem dX8_wall_111 : decode cX8_wall 111 = .ok (.ireturn, 1) := by decide +kernel
theorem dX8_wall_112 : decode cX8_wall 112 = .ok (.aload_n 0, 1) := by decide +kernel
theorem dX8_wall_113 : decode cX8_wall 113 = .ok (.getfield 29, 3) := by decide +kernel
theorem dX8_wall_116 : decode cX8_wall 116 = .ok (.getfield 147, 3) := by decide +kernel
theorem dX8_wall_119 : decode cX8_wall 119 = .ok (.iload 4, 2) := by decide +kernel
theorem dX8_wall_121 : decode cX8_wall 121 = .ok (.iaload, 1) := by decide +kernel
theorem dX8_wall_122 : decode cX8_wall 122 = .ok (.ireturn, 1) := by decide +kernel
theorem dX8_wall_123 : decode cX8_wall 123 = .ok (.aload_n 0, 1) := by decide +kernel
theorem dX8_wall_124 : decode cX8_wall 124 = .ok (.getfield 29, 3) := by decide +kernel
theorem dX8_wall_127 : decode cX8_wall 127 = .ok (.aload_n 0, 1) := by decide +kernel
theorem dX8_wall_128 : decode cX8_wall 128 = .ok (.getfield 19, 3) := by decide +kernel
theorem dX8_wall_131 : decode cX8_wall 131 = .ok (.iload_n 3, 1) := by decide +kernel
theorem dX8_wall_132 : decode cX8_wall 132 = .ok (.invokevirtual 150, 3) := by decide +kernel
theorem dX8_wall_135 : decode cX8_wall 135 = .ok (.ireturn, 1) := by decide +kernel
theorem dX8_wall_136 : decode cX8_wall 136 = .ok (.aload_n 0, 1) := by decide +kernel
theorem dX8_wall_137 : decode cX8_wall 137 = .ok (.getfield 29, 3) := by decide +kernel
theorem dX8_wall_140 : decode cX8_wall 140 = .ok (.aload_n 0, 1) := by decide +kernel
theorem dX8_wall_141 : decode cX8_wall 141 = .ok (.getfield 19, 3) := by decide +kernel
theorem dX8_wall_144 : decode cX8_wall 144 = .ok (.iload 4, 2) := by decide +kernel
theorem dX8_wall_146 : decode cX8_wall 146 = .ok (.invokevirtual 150, 3) := by decide +kernel
theorem dX8_wall_149 : decode cX8_wall 149 = .ok (.ireturn, 1) := by decide +kernel
theorem dX8_wall_150 : decode cX8_wall 150 = .ok (.aload_n 0, 1) := by decide +kernel
theorem dX8_wall_151 : decode cX8_wall 151 = .ok (.aload_n 0, 1) := by decide +kernel
theorem dX8_wall_152 : decode cX8_wall 152 = .ok (.getfield 29, 3) := by decide +kernel
theorem dX8_wall_155 : decode cX8_wall 155 = .ok (.aload_n 0, 1) := by decide +kernel
theorem dX8_wall_156 : decode cX8_wall 156 = .ok (.getfield 19, 3) := by decide +kernel
theorem dX8_wall_159 : decode cX8_wall 159 = .ok (.iload_n 1, 1) := by decide +kernel
theorem dX8_wall_160 : decode cX8_wall 160 = .ok (.aload_n 0, 1) := by decide +kernel
theorem dX8_wall_161 : decode cX8_wall 161 = .ok (.getfield 29, 3) := by decide +kernel
theorem dX8_wall_164 : decode cX8_wall 164 = .ok (.aload_n 0, 1) := by decide +kernel
theorem dX8_wall_165 : decode cX8_wall 165 = .ok (.getfield 19, 3) := by decide +kernel
theorem dX8_wall_168 : decode cX8_wall 168 = .ok (.iload_n 3, 1) := by decide +kernel
theorem dX8_wall_169 : decode cX8_wall 169 = .ok (.invokevirtual 150, 3) := by decide +kernel
theorem dX8_wall_172 : decode cX8_wall 172 = .ok (.aload_n 0, 1) := by decide +kernel
theorem dX8_wall_173 : decode cX8_wall 173 = .ok (.getfield 29, 3) := by decide +kernel
theorem dX8_wall_176 : decode cX8_wall 176 = .ok (.aload_n 0, 1) := by decide +kernel
theorem dX8_wall_177 : decode cX8_wall 177 = .ok (.getfield 19, 3) := by decide +kernel
theorem dX8_wall_180 : decode cX8_wall 180 = .ok (.iload 4, 2) := by decide +kernel
theorem dX8_wall_182 : decode cX8_wall 182 = .ok (.invokevirtual 150, 3) := by decide +kernel
theorem dX8_wall_185 : decode cX8_wall 185 = .ok (.invokevirtual 154, 3) := by decide +kernel
theorem dX8_wall_188 : decode cX8_wall 188 = .ok (.invokevirtual 158, 3) := by decide +kernel
theorem dX8_wall_191 : decode cX8_wall 191 = .ok (.ireturn, 1) := by decide +kernel
theorem dX8_wall_192 : decode cX8_wall 192 = .ok (.iconst (-1), 1) := by decide +kernel
theorem dX8_wall_193 : decode cX8_wall 193 = .ok (.ireturn, 1) := by decide +kernel
set_option maxRecDepth 20000 in
theorem ggX8_tree_X8_isTree : GoodIn wsX8_tree wsX8_isTree := goodIn_r _ [7, 2, 8, 9, 10, 6, 11, 21, 22, 23, 24, 25, 26, 27, 28, 29, 30, 31, 32, 33, 34, 35, 36, 37, 38, 39] (by decide +kernel) (by decide +kernel)
set_option maxRecDepth 20000 in
theorem gX8_tree_X8_isTree : GoodIn wsX8_tree (wsV RX8 161 RX8 yX8_isTree wsX8_isTree) := goodIn_app (goodIn_of _ (by decide +kernel)) ggX8_tree_X8_isTree
set_option maxRecDepth 20000 in
theorem ggX8_tree_X6_treeOwner : GoodIn wsX8_tree wsX6_treeOwner := goodIn_r _ [16, 17, 18, 19, 20, 31, 32, 33, 34, 35, 36, 37, 38, 39, 40, 41, 42, 43, 44, 45] (by decide +kernel) (by decide +kernel)
set_option maxRecDepth 20000 in
theorem gX8_tree_X6_treeOwner : GoodIn wsX8_tree (wsV RX8 164 RX6 yX6_treeOwner wsX6_treeOwner) := goodIn_app (goodIn_of _ (by decide +kernel)) ggX8_tree_X6_treeOwner
theorem dX8_tree_0 : decode cX8_tree 0 = .ok (.aload_n 0, 1) := by decide +kernel
theorem dX8_tree_1 : decode cX8_tree 1 = .ok (.iload_n 1, 1) := by decide +kernel
theorem dX8_tree_2 : decode cX8_tree 2 = .ok (.invokevirtual 161, 3) := by decide +kernel
theorem dX8_tree_5 : decode cX8_tree 5 = .ok (.ifCond .eq 18, 3) := by decide +kernel
theorem dX8_tree_8 : decode cX8_tree 8 = .ok (.aload_n 0, 1) := by decide +kernel
theorem dX8_tree_9 : decode cX8_tree 9 = .ok (.getfield 29, 3) := by decide +kernel
theorem dX8_tree_12 : decode cX8_tree 12 = .ok (.aload_n 0, 1) := by decide +kernel
theorem dX8_tree_13 : decode cX8_tree 13 = .ok (.getfield 19, 3) := by decide +kernel
theorem dX8_tree_16 : decode cX8_tree 16 = .ok (.iload_n 1, 1) := by decide +kernel
theorem dX8_tree_17 : decode cX8_tree 17 = .ok (.invokevirtual 164, 3) := by decide +kernel
theorem dX8_tree_20 : decode cX8_tree 20 = .ok (.goto 4, 3) := by decide +kernel
theorem dX8_tree_23 : decode cX8_tree 23 = .ok (.iconst (-1), 1) := by decide +kernel
theorem dX8_tree_24 : decode cX8_tree 24 = .ok (.ireturn, 1) := by decide +kernel
set_option maxRecDepth 20000 in
theorem ggX8_pass_X8_within : GoodIn wsX8_pass wsX8_within := goodIn_r _ [8] (by decide +kernel) (by decide +kernel)
set_option maxRecDepth 20000 in
theorem gX8_pass_X8_within : GoodIn wsX8_pass (va_wsS RX8 100 yX8_within wsX8_within) := goodIn_app (goodIn_of _ (by decide +kernel)) ggX8_pass_X8_within
set_option maxRecDepth 20000 in
theorem ggX8_pass_X3_put : GoodIn wsX8_pass wsX3_put := goodIn_r _ [13, 14, 15, 16, 17, 18, 12, 19, 20, 21, 22, 23, 24, 25, 26, 27, 28, 29, 30, 31, 32, 33, 34, 35, 36, 37, 76, 77, 70, 71, 72, 73, 74, 75] (by decide +kernel) (by decide +kernel)
set_option maxRecDepth 20000 in
theorem gX8_pass_X3_put : GoodIn wsX8_pass (wsV RX8 167 RX3 yX3_put wsX3_put) := goodIn_app (goodIn_of _ (by decide +kernel)) ggX8_pass_X3_put
set_option maxRecDepth 20000 in
theorem ggX8_pass_X6_goDay : GoodIn wsX8_pass wsX6_goDay := goodIn_r _ [41, 42, 43, 29, 44, 31, 36, 45, 46, 47, 48, 49, 50, 51, 52, 53, 27, 54, 37, 30, 55, 56, 57, 58, 59, 78, 79, 80, 81, 82, 83, 84, 85, 86, 70, 71, 72, 73, 74, 75] (by decide +kernel) (by decide +kernel)
set_option maxRecDepth 20000 in
theorem gX8_pass_X6_goDay : GoodIn wsX8_pass (wsV RX8 171 RX6 yX6_goDay wsX6_goDay) := goodIn_app (goodIn_of _ (by decide +kernel)) ggX8_pass_X6_goDay
theorem dX8_pass_0 : decode cX8_pass 0 = .ok (.iload_n 1, 1) := by decide +kernel
theorem dX8_pass_1 : decode cX8_pass 1 = .ok (.iconst 1, 1) := by decide +kernel
theorem dX8_pass_2 : decode cX8_pass 2 = .ok (.bipush 30, 2) := by decide +kernel
theorem dX8_pass_4 : decode cX8_pass 4 = .ok (.invokestatic 100, 3) := by decide +kernel
theorem dX8_pass_7 : decode cX8_pass 7 = .ok (.ifCond .ne 5, 3) := by decide +kernel
theorem dX8_pass_10 : decode cX8_pass 10 = .ok (.iconst (-1), 1) := by decide +kernel
theorem dX8_pass_11 : decode cX8_pass 11 = .ok (.ireturn, 1) := by decide +kernel
theorem dX8_pass_12 : decode cX8_pass 12 = .ok (.aload_n 0, 1) := by decide +kernel
theorem dX8_pass_13 : decode cX8_pass 13 = .ok (.getfield 38, 3) := by decide +kernel
theorem dX8_pass_16 : decode cX8_pass 16 = .ok (.aload_n 0, 1) := by decide +kernel
theorem dX8_pass_17 : decode cX8_pass 17 = .ok (.getfield 29, 3) := by decide +kernel
theorem dX8_pass_20 : decode cX8_pass 20 = .ok (.invokevirtual 167, 3) := by decide +kernel
theorem dX8_pass_23 : decode cX8_pass 23 = .ok (.iconst 0, 1) := by decide +kernel
theorem dX8_pass_24 : decode cX8_pass 24 = .ok (.istore_n 2, 1) := by decide +kernel
theorem dX8_pass_25 : decode cX8_pass 25 = .ok (.iload_n 2, 1) := by decide +kernel
theorem dX8_pass_26 : decode cX8_pass 26 = .ok (.iload_n 1, 1) := by decide +kernel
theorem dX8_pass_27 : decode cX8_pass 27 = .ok (.if_icmp .ge 22, 3) := by decide +kernel
theorem dX8_pass_30 : decode cX8_pass 30 = .ok (.aload_n 0, 1) := by decide +kernel
theorem dX8_pass_31 : decode cX8_pass 31 = .ok (.getfield 29, 3) := by decide +kernel
theorem dX8_pass_34 : decode cX8_pass 34 = .ok (.aload_n 0, 1) := by decide +kernel
theorem dX8_pass_35 : decode cX8_pass 35 = .ok (.getfield 19, 3) := by decide +kernel
theorem dX8_pass_38 : decode cX8_pass 38 = .ok (.iconst 0, 1) := by decide +kernel
theorem dX8_pass_39 : decode cX8_pass 39 = .ok (.invokevirtual 171, 3) := by decide +kernel
theorem dX8_pass_42 : decode cX8_pass 42 = .ok (.pop, 1) := by decide +kernel
theorem dX8_pass_43 : decode cX8_pass 43 = .ok (.iinc 2 1, 3) := by decide +kernel
theorem dX8_pass_46 : decode cX8_pass 46 = .ok (.goto (-21), 3) := by decide +kernel
theorem dX8_pass_49 : decode cX8_pass 49 = .ok (.aload_n 0, 1) := by decide +kernel
theorem dX8_pass_50 : decode cX8_pass 50 = .ok (.getfield 29, 3) := by decide +kernel
theorem dX8_pass_53 : decode cX8_pass 53 = .ok (.getfield 174, 3) := by decide +kernel
theorem dX8_pass_56 : decode cX8_pass 56 = .ok (.ireturn, 1) := by decide +kernel
set_option maxRecDepth 20000 in
theorem ggX8_share_X8_isFamily : GoodIn wsX8_share wsX8_isFamily := goodIn_r _ [10, 1, 11, 12, 13, 9, 14, 65, 66, 67, 68, 69, 70, 71, 72, 73, 74, 75, 76, 77, 78, 79, 80, 81, 82, 83] (by decide +kernel) (by decide +kernel)
set_option maxRecDepth 20000 in
theorem gX8_share_X8_isFamily : GoodIn wsX8_share (wsV RX8 114 RX8 yX8_isFamily wsX8_isFamily) := goodIn_app (goodIn_of _ (by decide +kernel)) ggX8_share_X8_isFamily
set_option maxRecDepth 20000 in
theorem ggX8_share_X8_isWall : GoodIn wsX8_share wsX8_isWall := goodIn_r _ [18, 1, 19, 12, 13, 9, 14, 65, 66, 67, 68, 69, 70, 71, 72, 73, 74, 75, 76, 77, 78, 79, 80, 81, 82, 83] (by decide +kernel) (by decide +kernel)
set_option maxRecDepth 20000 in
theorem gX8_share_X8_isWall : GoodIn wsX8_share (wsV RX8 138 RX8 yX8_isWall wsX8_isWall) := goodIn_app (goodIn_of _ (by decide +kernel)) ggX8_share_X8_isWall
set_option maxRecDepth 20000 in
theorem ggX8_share_X8_within : GoodIn wsX8_share wsX8_within := goodIn_r _ [14] (by decide +kernel) (by decide +kernel)
set_option maxRecDepth 20000 in
theorem gX8_share_X8_within : GoodIn wsX8_share (va_wsS RX8 100 yX8_within wsX8_within) := goodIn_app (goodIn_of _ (by decide +kernel)) ggX8_share_X8_within
set_option maxRecDepth 20000 in
theorem ggX8_share_X1_sideAt : GoodIn wsX8_share wsX1_sideAt := goodIn_r _ [24, 25, 75, 76, 77, 78, 79, 80, 81, 82, 83] (by decide +kernel) (by decide +kernel)
set_option maxRecDepth 20000 in
theorem gX8_share_X1_sideAt : GoodIn wsX8_share (wsV RX8 177 RX1 yX1_sideAt wsX1_sideAt) := goodIn_app (goodIn_of _ (by decide +kernel)) ggX8_share_X1_sideAt
set_option maxRecDepth 20000 in
theorem ggX8_share_X6_sharedBy : GoodIn wsX8_share wsX6_sharedBy := goodIn_r _ [30, 31, 32, 33, 34, 35, 23, 36, 37, 75, 76, 77, 78, 79, 80, 81, 82, 83, 84, 85, 86, 87, 88, 89] (by decide +kernel) (by decide +kernel)
set_option maxRecDepth 20000 in
theorem gX8_share_X6_sharedBy : GoodIn wsX8_share (wsV RX8 181 RX6 yX6_sharedBy wsX6_sharedBy) := goodIn_app (goodIn_of _ (by decide +kernel)) ggX8_share_X6_sharedBy
set_option maxRecDepth 20000 in
theorem ggX8_share_X3_put : GoodIn wsX8_share wsX3_put := goodIn_r _ [42, 43, 44, 45, 46, 47, 41, 48, 49, 50, 51, 52, 53, 54, 55, 29, 56, 57, 58, 59, 60, 61, 62, 63, 64, 32, 90, 91, 84, 85, 86, 87, 88, 89] (by decide +kernel) (by decide +kernel)
set_option maxRecDepth 20000 in
theorem gX8_share_X3_put : GoodIn wsX8_share (wsV RX8 167 RX3 yX3_put wsX3_put) := goodIn_app (goodIn_of _ (by decide +kernel)) ggX8_share_X3_put
theorem dX8_share_0 : decode cX8_share 0 = .ok (.aload_n 0, 1) := by decide +kernel
theorem dX8_share_1 : decode cX8_share 1 = .ok (.iload_n 1, 1) := by decide +kernel
theorem dX8_share_2 : decode cX8_share 2 = .ok (.invokevirtual 114, 3) := by decide +kernel
theorem dX8_share_5 : decode cX8_share 5 = .ok (.ifCond .eq 21, 3) := by decide +kernel
theorem dX8_share_8 : decode cX8_share 8 = .ok (.aload_n 0, 1) := by decide +kernel
theorem dX8_share_9 : decode cX8_share 9 = .ok (.iload_n 2, 1) := by decide +kernel
theorem dX8_share_10 : decode cX8_share 10 = .ok (.invokevirtual 138, 3) := by decide +kernel
theorem dX8_share_13 : decode cX8_share 13 = .ok (.ifCond .eq 13, 3) := by decide +kernel
theorem dX8_share_16 : decode cX8_share 16 = .ok (.iload_n 3, 1) := by decide +kernel
theorem dX8_share_17 : decode cX8_share 17 = .ok (.iconst 0, 1) := by decide +kernel
theorem dX8_share_18 : decode cX8_share 18 = .ok (.bipush 12, 2) := by decide +kernel
theorem dX8_share_20 : decode cX8_share 20 = .ok (.invokestatic 100, 3) := by decide +kernel
theorem dX8_share_23 : decode cX8_share 23 = .ok (.ifCond .ne 5, 3) := by decide +kernel
theorem dX8_share_26 : decode cX8_share 26 = .ok (.iconst (-1), 1) := by decide +kernel
theorem dX8_share_27 : decode cX8_share 27 = .ok (.ireturn, 1) := by decide +kernel
theorem dX8_share_28 : decode cX8_share 28 = .ok (.aload_n 0, 1) := by decide +kernel
theorem dX8_share_29 : decode cX8_share 29 = .ok (.getfield 19, 3) := by decide +kernel
theorem dX8_share_32 : decode cX8_share 32 = .ok (.iload_n 1, 1) := by decide +kernel
theorem dX8_share_33 : decode cX8_share 33 = .ok (.iload_n 2, 1) := by decide +kernel
theorem dX8_share_34 : decode cX8_share 34 = .ok (.invokevirtual 177, 3) := by decide +kernel
theorem dX8_share_37 : decode cX8_share 37 = .ok (.istore 4, 2) := by decide +kernel
theorem dX8_share_39 : decode cX8_share 39 = .ok (.iload 4, 2) := by decide +kernel
theorem dX8_share_41 : decode cX8_share 41 = .ok (.bipush (-4), 2) := by decide +kernel
theorem dX8_share_43 : decode cX8_share 43 = .ok (.if_icmp .ne 6, 3) := by decide +kernel
theorem dX8_share_46 : decode cX8_share 46 = .ok (.bipush (-2), 2) := by decide +kernel
theorem dX8_share_48 : decode cX8_share 48 = .ok (.ireturn, 1) := by decide +kernel
theorem dX8_share_49 : decode cX8_share 49 = .ok (.aload_n 0, 1) := by decide +kernel
theorem dX8_share_50 : decode cX8_share 50 = .ok (.getfield 19, 3) := by decide +kernel
theorem dX8_share_53 : decode cX8_share 53 = .ok (.getfield 122, 3) := by decide +kernel
theorem dX8_share_56 : decode cX8_share 56 = .ok (.iload_n 1, 1) := by decide +kernel
theorem dX8_share_57 : decode cX8_share 57 = .ok (.iaload, 1) := by decide +kernel
theorem dX8_share_58 : decode cX8_share 58 = .ok (.aload_n 0, 1) := by decide +kernel
theorem dX8_share_59 : decode cX8_share 59 = .ok (.getfield 29, 3) := by decide +kernel
theorem dX8_share_62 : decode cX8_share 62 = .ok (.aload_n 0, 1) := by decide +kernel
theorem dX8_share_63 : decode cX8_share 63 = .ok (.getfield 19, 3) := by decide +kernel
theorem dX8_share_66 : decode cX8_share 66 = .ok (.iload_n 1, 1) := by decide +kernel
theorem dX8_share_67 : decode cX8_share 67 = .ok (.invokevirtual 181, 3) := by decide +kernel
theorem dX8_share_70 : decode cX8_share 70 = .ok (.isub, 1) := by decide +kernel
theorem dX8_share_71 : decode cX8_share 71 = .ok (.aload_n 0, 1) := by decide +kernel
theorem dX8_share_72 : decode cX8_share 72 = .ok (.getfield 29, 3) := by decide +kernel
theorem dX8_share_75 : decode cX8_share 75 = .ok (.getfield 147, 3) := by decide +kernel
theorem dX8_share_78 : decode cX8_share 78 = .ok (.iload 4, 2) := by decide +kernel
theorem dX8_share_80 : decode cX8_share 80 = .ok (.iaload, 1) := by decide +kernel
theorem dX8_share_81 : decode cX8_share 81 = .ok (.iadd, 1) := by decide +kernel
theorem dX8_share_82 : decode cX8_share 82 = .ok (.iload_n 3, 1) := by decide +kernel
theorem dX8_share_83 : decode cX8_share 83 = .ok (.isub, 1) := by decide +kernel
theorem dX8_share_84 : decode cX8_share 84 = .ok (.istore 5, 2) := by decide +kernel
theorem dX8_share_86 : decode cX8_share 86 = .ok (.iload 5, 2) := by decide +kernel
theorem dX8_share_88 : decode cX8_share 88 = .ok (.ifCond .ge 6, 3) := by decide +kernel
theorem dX8_share_91 : decode cX8_share 91 = .ok (.bipush (-2), 2) := by decide +kernel
theorem dX8_share_93 : decode cX8_share 93 = .ok (.ireturn, 1) := by decide +kernel
theorem dX8_share_94 : decode cX8_share 94 = .ok (.aload_n 0, 1) := by decide +kernel
theorem dX8_share_95 : decode cX8_share 95 = .ok (.getfield 38, 3) := by decide +kernel
theorem dX8_share_98 : decode cX8_share 98 = .ok (.aload_n 0, 1) := by decide +kernel
theorem dX8_share_99 : decode cX8_share 99 = .ok (.getfield 29, 3) := by decide +kernel
theorem dX8_share_102 : decode cX8_share 102 = .ok (.invokevirtual 167, 3) := by decide +kernel
theorem dX8_share_105 : decode cX8_share 105 = .ok (.aload_n 0, 1) := by decide +kernel
theorem dX8_share_106 : decode cX8_share 106 = .ok (.getfield 29, 3) := by decide +kernel
theorem dX8_share_109 : decode cX8_share 109 = .ok (.getfield 147, 3) := by decide +kernel
theorem dX8_share_112 : decode cX8_share 112 = .ok (.iload 4, 2) := by decide +kernel
theorem dX8_share_114 : decode cX8_share 114 = .ok (.iload_n 3, 1) := by decide +kernel
theorem dX8_share_115 : decode cX8_share 115 = .ok (.iastore, 1) := by decide +kernel
theorem dX8_share_116 : decode cX8_share 116 = .ok (.iload 5, 2) := by decide +kernel
theorem dX8_share_118 : decode cX8_share 118 = .ok (.ireturn, 1) := by decide +kernel
set_option maxRecDepth 20000 in
theorem ggX8_sick_X8_isFamily : GoodIn wsX8_sick wsX8_isFamily := goodIn_r _ [7, 8, 9, 10, 11, 6, 12, 50, 51, 52, 53, 54, 55, 56, 57, 58, 59, 60, 61, 62, 63, 64, 65, 66, 67, 68] (by decide +kernel) (by decide +kernel)
set_option maxRecDepth 20000 in
theorem gX8_sick_X8_isFamily : GoodIn wsX8_sick (wsV RX8 114 RX8 yX8_isFamily wsX8_isFamily) := goodIn_app (goodIn_of _ (by decide +kernel)) ggX8_sick_X8_isFamily
set_option maxRecDepth 20000 in
theorem ggX8_sick_X3_put : GoodIn wsX8_sick wsX3_put := goodIn_r _ [17, 18, 19, 20, 21, 22, 16, 23, 24, 25, 26, 27, 28, 29, 30, 31, 32, 33, 34, 35, 36, 37, 38, 39, 40, 41, 69, 70, 71, 72, 73, 74, 75, 76] (by decide +kernel) (by decide +kernel)
set_option maxRecDepth 20000 in
theorem gX8_sick_X3_put : GoodIn wsX8_sick (wsV RX8 167 RX3 yX3_put wsX3_put) := goodIn_app (goodIn_of _ (by decide +kernel)) ggX8_sick_X3_put
set_option maxRecDepth 20000 in
theorem ggX8_sick_X6_turnSickness : GoodIn wsX8_sick wsX6_turnSickness := goodIn_r _ [45, 34, 71, 72, 73, 74, 75, 76] (by decide +kernel) (by decide +kernel)
set_option maxRecDepth 20000 in
theorem gX8_sick_X6_turnSickness : GoodIn wsX8_sick (wsV RX8 184 RX6 yX6_turnSickness wsX6_turnSickness) := goodIn_app (goodIn_of _ (by decide +kernel)) ggX8_sick_X6_turnSickness
set_option maxRecDepth 20000 in
theorem ggX8_sick_X6_isSick : GoodIn wsX8_sick wsX6_isSick := goodIn_r _ [49, 34, 71, 72, 73, 74, 75, 76] (by decide +kernel) (by decide +kernel)
set_option maxRecDepth 20000 in
theorem gX8_sick_X6_isSick : GoodIn wsX8_sick (wsV RX8 128 RX6 yX6_isSick wsX6_isSick) := goodIn_app (goodIn_of _ (by decide +kernel)) ggX8_sick_X6_isSick
theorem dX8_sick_0 : decode cX8_sick 0 = .ok (.aload_n 0, 1) := by decide +kernel
theorem dX8_sick_1 : decode cX8_sick 1 = .ok (.iload_n 1, 1) := by decide +kernel
theorem dX8_sick_2 : decode cX8_sick 2 = .ok (.invokevirtual 114, 3) := by decide +kernel
theorem dX8_sick_5 : decode cX8_sick 5 = .ok (.ifCond .ne 5, 3) := by decide +kernel
theorem dX8_sick_8 : decode cX8_sick 8 = .ok (.iconst (-1), 1) := by decide +kernel
theorem dX8_sick_9 : decode cX8_sick 9 = .ok (.ireturn, 1) := by decide +kernel
theorem dX8_sick_10 : decode cX8_sick 10 = .ok (.aload_n 0, 1) := by decide +kernel
theorem dX8_sick_11 : decode cX8_sick 11 = .ok (.getfield 38, 3) := by decide +kernel
theorem dX8_sick_14 : decode cX8_sick 14 = .ok (.aload_n 0, 1) := by decide +kernel
theorem dX8_sick_15 : decode cX8_sick 15 = .ok (.getfield 29, 3) := by decide +kernel
theorem dX8_sick_18 : decode cX8_sick 18 = .ok (.invokevirtual 167, 3) := by decide +kernel
theorem dX8_sick_21 : decode cX8_sick 21 = .ok (.aload_n 0, 1) := by decide +kernel
theorem dX8_sick_22 : decode cX8_sick 22 = .ok (.getfield 29, 3) := by decide +kernel
theorem dX8_sick_25 : decode cX8_sick 25 = .ok (.iload_n 1, 1) := by decide +kernel
theorem dX8_sick_26 : decode cX8_sick 26 = .ok (.invokevirtual 184, 3) := by decide +kernel
theorem dX8_sick_29 : decode cX8_sick 29 = .ok (.aload_n 0, 1) := by decide +kernel
theorem dX8_sick_30 : decode cX8_sick 30 = .ok (.getfield 29, 3) := by decide +kernel
theorem dX8_sick_33 : decode cX8_sick 33 = .ok (.iload_n 1, 1) := by decide +kernel
theorem dX8_sick_34 : decode cX8_sick 34 = .ok (.invokevirtual 128, 3) := by decide +kernel
theorem dX8_sick_37 : decode cX8_sick 37 = .ok (.ifCond .eq 7, 3) := by decide +kernel
theorem dX8_sick_40 : decode cX8_sick 40 = .ok (.iconst 1, 1) := by decide +kernel
theorem dX8_sick_41 : decode cX8_sick 41 = .ok (.goto 4, 3) := by decide +kernel
theorem dX8_sick_44 : decode cX8_sick 44 = .ok (.iconst 0, 1) := by decide +kernel
theorem dX8_sick_45 : decode cX8_sick 45 = .ok (.ireturn, 1) := by decide +kernel
set_option maxRecDepth 20000 in
theorem ggX8_undo_X3_takeLastInto : GoodIn wsX8_undo wsX3_takeLastInto := goodIn_r _ [8, 9, 10, 11, 12, 13, 14, 15, 16, 17, 18, 19, 20, 21, 22, 23, 24, 35, 36, 37, 38, 39, 40, 41, 42] (by decide +kernel) (by decide +kernel)
set_option maxRecDepth 20000 in
theorem gX8_undo_X3_takeLastInto : GoodIn wsX8_undo (wsV RX8 187 RX3 yX3_takeLastInto wsX3_takeLastInto) := goodIn_app (goodIn_of _ (by decide +kernel)) ggX8_undo_X3_takeLastInto
theorem dX8_undo_0 : decode cX8_undo 0 = .ok (.aload_n 0, 1) := by decide +kernel
theorem dX8_undo_1 : decode cX8_undo 1 = .ok (.getfield 38, 3) := by decide +kernel
theorem dX8_undo_4 : decode cX8_undo 4 = .ok (.aload_n 0, 1) := by decide +kernel
theorem dX8_undo_5 : decode cX8_undo 5 = .ok (.getfield 29, 3) := by decide +kernel
theorem dX8_undo_8 : decode cX8_undo 8 = .ok (.invokevirtual 187, 3) := by decide +kernel
theorem dX8_undo_11 : decode cX8_undo 11 = .ok (.ifCond .eq 13, 3) := by decide +kernel
theorem dX8_undo_14 : decode cX8_undo 14 = .ok (.aload_n 0, 1) := by decide +kernel
theorem dX8_undo_15 : decode cX8_undo 15 = .ok (.getfield 38, 3) := by decide +kernel
theorem dX8_undo_18 : decode cX8_undo 18 = .ok (.getfield 110, 3) := by decide +kernel
theorem dX8_undo_21 : decode cX8_undo 21 = .ok (.goto 5, 3) := by decide +kernel
theorem dX8_undo_24 : decode cX8_undo 24 = .ok (.bipush (-2), 2) := by decide +kernel
theorem dX8_undo_26 : decode cX8_undo 26 = .ok (.ireturn, 1) := by decide +kernel
set_option maxRecDepth 20000 in
theorem ggX8_behind_X8_within : GoodIn wsX8_behind wsX8_within := goodIn_r _ [9] (by decide +kernel) (by decide +kernel)
set_option maxRecDepth 20000 in
theorem gX8_behind_X8_within : GoodIn wsX8_behind (va_wsS RX8 100 yX8_within wsX8_within) := goodIn_app (goodIn_of _ (by decide +kernel)) ggX8_behind_X8_within
set_option maxRecDepth 20000 in
theorem ggX8_behind_X8_isFamily : GoodIn wsX8_behind wsX8_isFamily := goodIn_r _ [13, 2, 14, 6, 7, 8, 9, 73, 74, 75, 76, 77, 78, 79, 80, 81, 82, 89, 90, 91, 92, 93, 94, 95, 96, 97] (by decide +kernel) (by decide +kernel)
set_option maxRecDepth 20000 in
theorem gX8_behind_X8_isFamily : GoodIn wsX8_behind (wsV RX8 114 RX8 yX8_isFamily wsX8_isFamily) := goodIn_app (goodIn_of _ (by decide +kernel)) ggX8_behind_X8_isFamily
set_option maxRecDepth 20000 in
theorem ggX8_behind_X2_standBehind : GoodIn wsX8_behind wsX2_standBehind := goodIn_r _ [19, 20, 21, 22, 23, 24, 25, 26, 27, 28, 29, 30, 31, 32, 33, 34, 35, 36, 37, 38, 39, 40, 41, 42, 43, 44, 45, 46, 47, 48, 49, 50, 51, 52, 53, 54, 55, 56, 98, 99, 100, 101, 102, 103, 104, 105, 83, 84, 85, 86, 87, 88, 89, 90, 91, 92, 93, 94, 95, 96, 97] (by decide +kernel) (by decide +kernel)
set_option maxRecDepth 20000 in
theorem gX8_behind_X2_standBehind : GoodIn wsX8_behind (wsV RX8 191 RX2 yX2_standBehind wsX2_standBehind) := goodIn_app (goodIn_of _ (by decide +kernel)) ggX8_behind_X2_standBehind
set_option maxRecDepth 20000 in
theorem ggX8_behind_X8_isWall : GoodIn wsX8_behind wsX8_isWall := goodIn_r _ [60, 2, 61, 6, 7, 8, 9, 73, 74, 75, 76, 77, 78, 79, 80, 81, 82, 89, 90, 91, 92, 93, 94, 95, 96, 97] (by decide +kernel) (by decide +kernel)
set_option maxRecDepth 20000 in
theorem gX8_behind_X8_isWall : GoodIn wsX8_behind (wsV RX8 138 RX8 yX8_isWall wsX8_isWall) := goodIn_app (goodIn_of _ (by decide +kernel)) ggX8_behind_X8_isWall
set_option maxRecDepth 20000 in
theorem ggX8_behind_X8_isTree : GoodIn wsX8_behind wsX8_isTree := goodIn_r _ [65, 2, 66, 6, 7, 8, 9, 73, 74, 75, 76, 77, 78, 79, 80, 81, 82, 89, 90, 91, 92, 93, 94, 95, 96, 97] (by decide +kernel) (by decide +kernel)
set_option maxRecDepth 20000 in
theorem gX8_behind_X8_isTree : GoodIn wsX8_behind (wsV RX8 161 RX8 yX8_isTree wsX8_isTree) := goodIn_app (goodIn_of _ (by decide +kernel)) ggX8_behind_X8_isTree
set_option maxRecDepth 20000 in
theorem ggX8_behind_X6_treeOwner : GoodIn wsX8_behind wsX6_treeOwner := goodIn_r _ [70, 71, 39, 33, 72, 89, 90, 91, 92, 93, 94, 95, 96, 97, 83, 84, 85, 86, 87, 88] (by decide +kernel) (by decide +kernel)
set_option maxRecDepth 20000 in
theorem gX8_behind_X6_treeOwner : GoodIn wsX8_behind (wsV RX8 164 RX6 yX6_treeOwner wsX6_treeOwner) := goodIn_app (goodIn_of _ (by decide +kernel)) ggX8_behind_X6_treeOwner
theorem dX8_behind_0 : decode cX8_behind 0 = .ok (.iload_n 1, 1) := by decide +kernel
theorem dX8_behind_1 : decode cX8_behind 1 = .ok (.iconst 0, 1) := by decide +kernel
theorem dX8_behind_2 : decode cX8_behind 2 = .ok (.bipush 60, 2) := by decide +kernel
theorem dX8_behind_4 : decode cX8_behind 4 = .ok (.invokestatic 100, 3) := by decide +kernel
theorem dX8_behind_7 : decode cX8_behind 7 = .ok (.ifCond .ne 5, 3) := by decide +kernel
theorem dX8_behind_10 : decode cX8_behind 10 = .ok (.iconst (-1), 1) := by decide +kernel
theorem dX8_behind_11 : decode cX8_behind 11 = .ok (.ireturn, 1) := by decide +kernel
theorem dX8_behind_12 : decode cX8_behind 12 = .ok (.iload_n 3, 1) := by decide +kernel
theorem dX8_behind_13 : decode cX8_behind 13 = .ok (.tableswitch 135 0 2 #[27, 61, 98], 27) := by decide +kernel
theorem dX8_behind_40 : decode cX8_behind 40 = .ok (.aload_n 0, 1) := by decide +kernel
theorem dX8_behind_41 : decode cX8_behind 41 = .ok (.iload_n 2, 1) := by decide +kernel
theorem dX8_behind_42 : decode cX8_behind 42 = .ok (.invokevirtual 114, 3) := by decide +kernel
theorem dX8_behind_45 : decode cX8_behind 45 = .ok (.ifCond .eq 27, 3) := by decide +kernel
theorem dX8_behind_48 : decode cX8_behind 48 = .ok (.aload_n 0, 1) := by decide +kernel
theorem dX8_behind_49 : decode cX8_behind 49 = .ok (.getfield 55, 3) := by decide +kernel
theorem dX8_behind_52 : decode cX8_behind 52 = .ok (.aload_n 0, 1) := by decide +kernel
theorem dX8_behind_53 : decode cX8_behind 53 = .ok (.getfield 19, 3) := by decide +kernel
theorem dX8_behind_56 : decode cX8_behind 56 = .ok (.aload_n 0, 1) := by decide +kernel
theorem dX8_behind_57 : decode cX8_behind 57 = .ok (.getfield 29, 3) := by decide +kernel
theorem dX8_behind_60 : decode cX8_behind 60 = .ok (.iload_n 1, 1) := by decide +kernel
theorem dX8_behind_61 : decode cX8_behind 61 = .ok (.invokevirtual 191, 3) := by decide +kernel
theorem dX8_behind_64 : decode cX8_behind 64 = .ok (.getfield 125, 3) := by decide +kernel
theorem dX8_behind_67 : decode cX8_behind 67 = .ok (.iload_n 2, 1) := by decide +kernel
theorem dX8_behind_68 : decode cX8_behind 68 = .ok (.iaload, 1) := by decide +kernel
theorem dX8_behind_69 : decode cX8_behind 69 = .ok (.goto 4, 3) := by decide +kernel
theorem dX8_behind_72 : decode cX8_behind 72 = .ok (.iconst (-1), 1) := by decide +kernel
theorem dX8_behind_73 : decode cX8_behind 73 = .ok (.ireturn, 1) := by decide +kernel
theorem dX8_behind_74 : decode cX8_behind 74 = .ok (.aload_n 0, 1) := by decide +kernel
theorem dX8_behind_75 : decode cX8_behind 75 = .ok (.iload_n 2, 1) := by decide +kernel
theorem dX8_behind_76 : decode cX8_behind 76 = .ok (.invokevirtual 138, 3) := by decide +kernel
theorem dX8_behind_79 : decode cX8_behind 79 = .ok (.ifCond .eq 30, 3) := by decide +kernel
theorem dX8_behind_82 : decode cX8_behind 82 = .ok (.aload_n 0, 1) := by decide +kernel
theorem dX8_behind_83 : decode cX8_behind 83 = .ok (.getfield 55, 3) := by decide +kernel
theorem dX8_behind_86 : decode cX8_behind 86 = .ok (.aload_n 0, 1) := by decide +kernel
theorem dX8_behind_87 : decode cX8_behind 87 = .ok (.getfield 19, 3) := by decide +kernel
theorem dX8_behind_90 : decode cX8_behind 90 = .ok (.aload_n 0, 1) := by decide +kernel
theorem dX8_behind_91 : decode cX8_behind 91 = .ok (.getfield 29, 3) := by decide +kernel
theorem dX8_behind_94 : decode cX8_behind 94 = .ok (.iload_n 1, 1) := by decide +kernel
theorem dX8_behind_95 : decode cX8_behind 95 = .ok (.invokevirtual 191, 3) := by decide +kernel
theorem dX8_behind_98 : decode cX8_behind 98 = .ok (.getfield 144, 3) := by decide +kernel
theorem dX8_behind_101 : decode cX8_behind 101 = .ok (.iload_n 2, 1) := by decide +kernel
theorem dX8_behind_102 : decode cX8_behind 102 = .ok (.iaload, 1) := by decide +kernel
theorem dX8_behind_103 : decode cX8_behind 103 = .ok (.bipush 100, 2) := by decide +kernel
theorem dX8_behind_105 : decode cX8_behind 105 = .ok (.iadd, 1) := by decide +kernel
theorem dX8_behind_106 : decode cX8_behind 106 = .ok (.goto 4, 3) := by decide +kernel
theorem dX8_behind_109 : decode cX8_behind 109 = .ok (.iconst (-1), 1) := by decide +kernel
theorem dX8_behind_110 : decode cX8_behind 110 = .ok (.ireturn, 1) := by decide +kernel
theorem dX8_behind_111 : decode cX8_behind 111 = .ok (.aload_n 0, 1) := by decide +kernel
theorem dX8_behind_112 : decode cX8_behind 112 = .ok (.iload_n 2, 1) := by decide +kernel
theorem dX8_behind_113 : decode cX8_behind 113 = .ok (.invokevirtual 161, 3) := by decide +kernel
theorem dX8_behind_116 : decode cX8_behind 116 = .ok (.ifCond .eq 30, 3) := by decide +kernel
theorem dX8_behind_119 : decode cX8_behind 119 = .ok (.aload_n 0, 1) := by decide +kernel
theorem dX8_behind_120 : decode cX8_behind 120 = .ok (.getfield 55, 3) := by decide +kernel
theorem dX8_behind_123 : decode cX8_behind 123 = .ok (.aload_n 0, 1) := by decide +kernel
theorem dX8_behind_124 : decode cX8_behind 124 = .ok (.getfield 19, 3) := by decide +kernel
theorem dX8_behind_127 : decode cX8_behind 127 = .ok (.aload_n 0, 1) := by decide +kernel
theorem dX8_behind_128 : decode cX8_behind 128 = .ok (.getfield 29, 3) := by decide +kernel
theorem dX8_behind_131 : decode cX8_behind 131 = .ok (.iload_n 1, 1) := by decide +kernel
theorem dX8_behind_132 : decode cX8_behind 132 = .ok (.invokevirtual 191, 3) := by decide +kernel
theorem dX8_behind_135 : decode cX8_behind 135 = .ok (.aload_n 0, 1) := by decide +kernel
theorem dX8_behind_136 : decode cX8_behind 136 = .ok (.getfield 19, 3) := by decide +kernel
theorem dX8_behind_139 : decode cX8_behind 139 = .ok (.iload_n 2, 1) := by decide +kernel
theorem dX8_behind_140 : decode cX8_behind 140 = .ok (.invokevirtual 164, 3) := by decide +kernel
theorem dX8_behind_143 : decode cX8_behind 143 = .ok (.goto 4, 3) := by decide +kernel
theorem dX8_behind_146 : decode cX8_behind 146 = .ok (.iconst (-1), 1) := by decide +kernel
theorem dX8_behind_147 : decode cX8_behind 147 = .ok (.ireturn, 1) := by decide +kernel
theorem dX8_behind_148 : decode cX8_behind 148 = .ok (.iconst (-1), 1) := by decide +kernel
theorem dX8_behind_149 : decode cX8_behind 149 = .ok (.ireturn, 1) := by decide +kernel
set_option maxRecDepth 20000 in
theorem ggX8_gone_X8_within : GoodIn wsX8_gone wsX8_within := goodIn_r _ [9] (by decide +kernel) (by decide +kernel)
set_option maxRecDepth 20000 in
theorem gX8_gone_X8_within : GoodIn wsX8_gone (va_wsS RX8 100 yX8_within wsX8_within) := goodIn_app (goodIn_of _ (by decide +kernel)) ggX8_gone_X8_within
set_option maxRecDepth 20000 in
theorem ggX8_gone_X2_findGone : GoodIn wsX8_gone wsX2_findGone := goodIn_r _ [14, 15, 16, 17, 18, 19, 20, 21, 22, 23, 24, 25, 26, 27, 28, 29, 30, 31, 32, 33, 34, 35, 36, 37, 38, 39, 40, 41, 42, 43, 44, 45, 46, 47, 48, 49, 50, 51, 52, 53, 54, 55, 66, 67, 68, 69, 70, 71, 72, 73, 74, 75, 76, 77, 78, 79, 80, 81, 82, 83, 84, 85, 86, 87, 88] (by decide +kernel) (by decide +kernel)
set_option maxRecDepth 20000 in
theorem gX8_gone_X2_findGone : GoodIn wsX8_gone (wsV RX8 195 RX2 yX2_findGone wsX2_findGone) := goodIn_app (goodIn_of _ (by decide +kernel)) ggX8_gone_X2_findGone
theorem dX8_gone_0 : decode cX8_gone 0 = .ok (.iload_n 1, 1) := by decide +kernel
theorem dX8_gone_1 : decode cX8_gone 1 = .ok (.iconst 0, 1) := by decide +kernel
theorem dX8_gone_2 : decode cX8_gone 2 = .ok (.iconst 1, 1) := by decide +kernel
theorem dX8_gone_3 : decode cX8_gone 3 = .ok (.invokestatic 100, 3) := by decide +kernel
theorem dX8_gone_6 : decode cX8_gone 6 = .ok (.ifCond .ne 5, 3) := by decide +kernel
theorem dX8_gone_9 : decode cX8_gone 9 = .ok (.iconst (-1), 1) := by decide +kernel
theorem dX8_gone_10 : decode cX8_gone 10 = .ok (.ireturn, 1) := by decide +kernel
theorem dX8_gone_11 : decode cX8_gone 11 = .ok (.aload_n 0, 1) := by decide +kernel
theorem dX8_gone_12 : decode cX8_gone 12 = .ok (.getfield 55, 3) := by decide +kernel
theorem dX8_gone_15 : decode cX8_gone 15 = .ok (.aload_n 0, 1) := by decide +kernel
theorem dX8_gone_16 : decode cX8_gone 16 = .ok (.getfield 19, 3) := by decide +kernel
theorem dX8_gone_19 : decode cX8_gone 19 = .ok (.aload_n 0, 1) := by decide +kernel
theorem dX8_gone_20 : decode cX8_gone 20 = .ok (.getfield 29, 3) := by decide +kernel
theorem dX8_gone_23 : decode cX8_gone 23 = .ok (.invokevirtual 195, 3) := by decide +kernel
theorem dX8_gone_26 : decode cX8_gone 26 = .ok (.ifCond .ne 6, 3) := by decide +kernel
theorem dX8_gone_29 : decode cX8_gone 29 = .ok (.bipush (-4), 2) := by decide +kernel
theorem dX8_gone_31 : decode cX8_gone 31 = .ok (.ireturn, 1) := by decide +kernel
theorem dX8_gone_32 : decode cX8_gone 32 = .ok (.iload_n 1, 1) := by decide +kernel
theorem dX8_gone_33 : decode cX8_gone 33 = .ok (.ifCond .ne 13, 3) := by decide +kernel
theorem dX8_gone_36 : decode cX8_gone 36 = .ok (.aload_n 0, 1) := by decide +kernel
theorem dX8_gone_37 : decode cX8_gone 37 = .ok (.getfield 55, 3) := by decide +kernel
theorem dX8_gone_40 : decode cX8_gone 40 = .ok (.getfield 199, 3) := by decide +kernel
theorem dX8_gone_43 : decode cX8_gone 43 = .ok (.goto 10, 3) := by decide +kernel
theorem dX8_gone_46 : decode cX8_gone 46 = .ok (.aload_n 0, 1) := by decide +kernel
theorem dX8_gone_47 : decode cX8_gone 47 = .ok (.getfield 55, 3) := by decide +kernel
theorem dX8_gone_50 : decode cX8_gone 50 = .ok (.getfield 202, 3) := by decide +kernel
theorem dX8_gone_53 : decode cX8_gone 53 = .ok (.ireturn, 1) := by decide +kernel
set_option maxRecDepth 20000 in
theorem ggX8_best_X8_isFamily : GoodIn wsX8_best wsX8_isFamily := goodIn_r _ [9, 1, 10, 11, 12, 8, 13, 85, 86, 87, 88, 89, 90, 91, 92, 93, 94, 103, 104, 105, 106, 107, 108, 109, 110, 111] (by decide +kernel) (by decide +kernel)
set_option maxRecDepth 20000 in
theorem gX8_best_X8_isFamily : GoodIn wsX8_best (wsV RX8 114 RX8 yX8_isFamily wsX8_isFamily) := goodIn_app (goodIn_of _ (by decide +kernel)) ggX8_best_X8_isFamily
set_option maxRecDepth 20000 in
theorem ggX8_best_X8_within : GoodIn wsX8_best wsX8_within := goodIn_r _ [13] (by decide +kernel) (by decide +kernel)
set_option maxRecDepth 20000 in
theorem gX8_best_X8_within : GoodIn wsX8_best (va_wsS RX8 100 yX8_within wsX8_within) := goodIn_app (goodIn_of _ (by decide +kernel)) ggX8_best_X8_within
set_option maxRecDepth 20000 in
theorem ggX8_best_X1_wallsOf : GoodIn wsX8_best wsX1_wallsOf := goodIn_r _ [18, 19, 20, 21, 22, 17, 23, 24, 103, 104, 105, 106, 107, 108, 109, 110, 111] (by decide +kernel) (by decide +kernel)
set_option maxRecDepth 20000 in
theorem gX8_best_X1_wallsOf : GoodIn wsX8_best (wsV RX8 131 RX1 yX1_wallsOf wsX1_wallsOf) := goodIn_app (goodIn_of _ (by decide +kernel)) ggX8_best_X1_wallsOf
set_option maxRecDepth 20000 in
theorem ggX8_best_X2_findBestWay : GoodIn wsX8_best wsX2_findBestWay := goodIn_r _ [29, 30, 31, 32, 33, 34, 35, 36, 37, 38, 39, 15, 16, 17, 18, 19, 20, 21, 22, 23, 24, 40, 41, 42, 43, 44, 45, 46, 47, 48, 49, 50, 51, 52, 53, 28, 54, 55, 56, 57, 58, 59, 60, 61, 62, 63, 64, 65, 66, 67, 68, 69, 70, 71, 72, 73, 74, 75, 76, 77, 78, 79, 80, 81, 82, 83, 84, 95, 96, 97, 98, 99, 100, 101, 102, 103, 104, 105, 106, 107, 108, 109, 110, 111, 112, 113, 114, 115, 116, 117] (by decide +kernel) (by decide +kernel)
set_option maxRecDepth 20000 in
theorem gX8_best_X2_findBestWay : GoodIn wsX8_best (wsV RX8 205 RX2 yX2_findBestWay wsX2_findBestWay) := goodIn_app (goodIn_of _ (by decide +kernel)) ggX8_best_X2_findBestWay
theorem dX8_best_0 : decode cX8_best 0 = .ok (.aload_n 0, 1) := by decide +kernel
theorem dX8_best_1 : decode cX8_best 1 = .ok (.iload_n 1, 1) := by decide +kernel
theorem dX8_best_2 : decode cX8_best 2 = .ok (.invokevirtual 114, 3) := by decide +kernel
theorem dX8_best_5 : decode cX8_best 5 = .ok (.ifCond .eq 22, 3) := by decide +kernel
theorem dX8_best_8 : decode cX8_best 8 = .ok (.iload_n 2, 1) := by decide +kernel
theorem dX8_best_9 : decode cX8_best 9 = .ok (.iconst 1, 1) := by decide +kernel
theorem dX8_best_10 : decode cX8_best 10 = .ok (.bipush 14, 2) := by decide +kernel
theorem dX8_best_12 : decode cX8_best 12 = .ok (.invokestatic 100, 3) := by decide +kernel
theorem dX8_best_15 : decode cX8_best 15 = .ok (.ifCond .eq 12, 3) := by decide +kernel
theorem dX8_best_18 : decode cX8_best 18 = .ok (.iload_n 3, 1) := by decide +kernel
theorem dX8_best_19 : decode cX8_best 19 = .ok (.iconst 0, 1) := by decide +kernel
theorem dX8_best_20 : decode cX8_best 20 = .ok (.iconst 4, 1) := by decide +kernel
theorem dX8_best_21 : decode cX8_best 21 = .ok (.invokestatic 100, 3) := by decide +kernel
theorem dX8_best_24 : decode cX8_best 24 = .ok (.ifCond .ne 5, 3) := by decide +kernel
theorem dX8_best_27 : decode cX8_best 27 = .ok (.iconst (-1), 1) := by decide +kernel
theorem dX8_best_28 : decode cX8_best 28 = .ok (.ireturn, 1) := by decide +kernel
theorem dX8_best_29 : decode cX8_best 29 = .ok (.aload_n 0, 1) := by decide +kernel
theorem dX8_best_30 : decode cX8_best 30 = .ok (.getfield 19, 3) := by decide +kernel
theorem dX8_best_33 : decode cX8_best 33 = .ok (.iload_n 1, 1) := by decide +kernel
theorem dX8_best_34 : decode cX8_best 34 = .ok (.invokevirtual 131, 3) := by decide +kernel
theorem dX8_best_37 : decode cX8_best 37 = .ok (.istore 4, 2) := by decide +kernel
theorem dX8_best_39 : decode cX8_best 39 = .ok (.iload 4, 2) := by decide +kernel
theorem dX8_best_41 : decode cX8_best 41 = .ok (.ifCond .eq 9, 3) := by decide +kernel
theorem dX8_best_44 : decode cX8_best 44 = .ok (.iload_n 3, 1) := by decide +kernel
theorem dX8_best_45 : decode cX8_best 45 = .ok (.iload 4, 2) := by decide +kernel
theorem dX8_best_47 : decode cX8_best 47 = .ok (.if_icmp .le 6, 3) := by decide +kernel
theorem dX8_best_50 : decode cX8_best 50 = .ok (.bipush (-4), 2) := by decide +kernel
theorem dX8_best_52 : decode cX8_best 52 = .ok (.ireturn, 1) := by decide +kernel
theorem dX8_best_53 : decode cX8_best 53 = .ok (.aload_n 0, 1) := by decide +kernel
theorem dX8_best_54 : decode cX8_best 54 = .ok (.getfield 55, 3) := by decide +kernel
theorem dX8_best_57 : decode cX8_best 57 = .ok (.aload_n 0, 1) := by decide +kernel
theorem dX8_best_58 : decode cX8_best 58 = .ok (.getfield 19, 3) := by decide +kernel
theorem dX8_best_61 : decode cX8_best 61 = .ok (.aload_n 0, 1) := by decide +kernel
theorem dX8_best_62 : decode cX8_best 62 = .ok (.getfield 29, 3) := by decide +kernel
theorem dX8_best_65 : decode cX8_best 65 = .ok (.iload_n 1, 1) := by decide +kernel
theorem dX8_best_66 : decode cX8_best 66 = .ok (.iload_n 2, 1) := by decide +kernel
theorem dX8_best_67 : decode cX8_best 67 = .ok (.invokevirtual 205, 3) := by decide +kernel
theorem dX8_best_70 : decode cX8_best 70 = .ok (.istore 5, 2) := by decide +kernel
theorem dX8_best_72 : decode cX8_best 72 = .ok (.iload_n 3, 1) := by decide +kernel
theorem dX8_best_73 : decode cX8_best 73 = .ok (.ifCond .ne 8, 3) := by decide +kernel
theorem dX8_best_76 : decode cX8_best 76 = .ok (.iload 5, 2) := by decide +kernel
theorem dX8_best_78 : decode cX8_best 78 = .ok (.goto 14, 3) := by decide +kernel
theorem dX8_best_81 : decode cX8_best 81 = .ok (.aload_n 0, 1) := by decide +kernel
theorem dX8_best_82 : decode cX8_best 82 = .ok (.getfield 55, 3) := by decide +kernel
theorem dX8_best_85 : decode cX8_best 85 = .ok (.getfield 209, 3) := by decide +kernel
theorem dX8_best_88 : decode cX8_best 88 = .ok (.iload_n 3, 1) := by decide +kernel
theorem dX8_best_89 : decode cX8_best 89 = .ok (.iconst 1, 1) := by decide +kernel
theorem dX8_best_90 : decode cX8_best 90 = .ok (.isub, 1) := by decide +kernel
theorem dX8_best_91 : decode cX8_best 91 = .ok (.iaload, 1) := by decide +kernel
theorem dX8_best_92 : decode cX8_best 92 = .ok (.ireturn, 1) := by decide +kernel
set_option maxRecDepth 20000 in
theorem ggX8_enough_X8_isFamily : GoodIn wsX8_enough wsX8_isFamily := goodIn_r _ [8, 2, 9, 10, 11, 7, 12, 71, 72, 73, 74, 75, 76, 77, 78, 79, 80, 81, 82, 83, 84, 85, 86, 87, 88, 89] (by decide +kernel) (by decide +kernel)
set_option maxRecDepth 20000 in
theorem gX8_enough_X8_isFamily : GoodIn wsX8_enough (wsV RX8 114 RX8 yX8_isFamily wsX8_isFamily) := goodIn_app (goodIn_of _ (by decide +kernel)) ggX8_enough_X8_isFamily
set_option maxRecDepth 20000 in
theorem ggX8_enough_X8_within : GoodIn wsX8_enough wsX8_within := goodIn_r _ [12] (by decide +kernel) (by decide +kernel)
set_option maxRecDepth 20000 in
theorem gX8_enough_X8_within : GoodIn wsX8_enough (va_wsS RX8 100 yX8_within wsX8_within) := goodIn_app (goodIn_of _ (by decide +kernel)) ggX8_enough_X8_within
set_option maxRecDepth 20000 in
theorem ggX8_enough_X2_fewestHours : GoodIn wsX8_enough wsX2_fewestHours := goodIn_r _ [17, 18, 19, 20, 21, 22, 23, 24, 25, 26, 27, 28, 29, 30, 31, 32, 33, 34, 35, 36, 37, 38, 39, 40, 41, 42, 43, 44, 45, 46, 47, 48, 49, 50, 51, 52, 53, 16, 54, 55, 56, 57, 58, 59, 60, 61, 62, 63, 64, 65, 66, 67, 68, 69, 70, 90, 91, 92, 93, 94, 95, 96, 97, 98, 99, 100, 101, 102, 103, 81, 82, 83, 84, 85, 86, 87, 88, 89] (by decide +kernel) (by decide +kernel)
set_option maxRecDepth 20000 in
theorem gX8_enough_X2_fewestHours : GoodIn wsX8_enough (wsV RX8 212 RX2 yX2_fewestHours wsX2_fewestHours) := goodIn_app (goodIn_of _ (by decide +kernel)) ggX8_enough_X2_fewestHours
theorem dX8_enough_0 : decode cX8_enough 0 = .ok (.aload_n 0, 1) := by decide +kernel
theorem dX8_enough_1 : decode cX8_enough 1 = .ok (.iload_n 1, 1) := by decide +kernel
theorem dX8_enough_2 : decode cX8_enough 2 = .ok (.invokevirtual 114, 3) := by decide +kernel
theorem dX8_enough_5 : decode cX8_enough 5 = .ok (.ifCond .eq 33, 3) := by decide +kernel
theorem dX8_enough_8 : decode cX8_enough 8 = .ok (.iload_n 2, 1) := by decide +kernel
theorem dX8_enough_9 : decode cX8_enough 9 = .ok (.iconst 1, 1) := by decide +kernel
theorem dX8_enough_10 : decode cX8_enough 10 = .ok (.bipush 14, 2) := by decide +kernel
theorem dX8_enough_12 : decode cX8_enough 12 = .ok (.invokestatic 100, 3) := by decide +kernel
theorem dX8_enough_15 : decode cX8_enough 15 = .ok (.ifCond .eq 23, 3) := by decide +kernel
theorem dX8_enough_18 : decode cX8_enough 18 = .ok (.aload_n 0, 1) := by decide +kernel
theorem dX8_enough_19 : decode cX8_enough 19 = .ok (.getfield 55, 3) := by decide +kernel
theorem dX8_enough_22 : decode cX8_enough 22 = .ok (.aload_n 0, 1) := by decide +kernel
theorem dX8_enough_23 : decode cX8_enough 23 = .ok (.getfield 19, 3) := by decide +kernel
theorem dX8_enough_26 : decode cX8_enough 26 = .ok (.aload_n 0, 1) := by decide +kernel
theorem dX8_enough_27 : decode cX8_enough 27 = .ok (.getfield 29, 3) := by decide +kernel
theorem dX8_enough_30 : decode cX8_enough 30 = .ok (.iload_n 1, 1) := by decide +kernel
theorem dX8_enough_31 : decode cX8_enough 31 = .ok (.iload_n 2, 1) := by decide +kernel
theorem dX8_enough_32 : decode cX8_enough 32 = .ok (.invokevirtual 212, 3) := by decide +kernel
theorem dX8_enough_35 : decode cX8_enough 35 = .ok (.goto 4, 3) := by decide +kernel
theorem dX8_enough_38 : decode cX8_enough 38 = .ok (.iconst (-1), 1) := by decide +kernel
theorem dX8_enough_39 : decode cX8_enough 39 = .ok (.ireturn, 1) := by decide +kernel
set_option maxRecDepth 20000 in
theorem ggX8_nextTo_X8_isFamily : GoodIn wsX8_nextTo wsX8_isFamily := goodIn_r _ [8, 2, 9, 10, 11, 7, 12, 78, 79, 80, 81, 82, 83, 84, 85, 86, 87, 88, 89, 90, 91, 92, 93, 94, 95, 96] (by decide +kernel) (by decide +kernel)
set_option maxRecDepth 20000 in
theorem gX8_nextTo_X8_isFamily : GoodIn wsX8_nextTo (wsV RX8 114 RX8 yX8_isFamily wsX8_isFamily) := goodIn_app (goodIn_of _ (by decide +kernel)) ggX8_nextTo_X8_isFamily
set_option maxRecDepth 20000 in
theorem ggX8_nextTo_X2_moreByWall : GoodIn wsX8_nextTo wsX2_moreByWall := goodIn_r _ [17, 18, 19, 20, 21, 22, 16, 23, 24, 25, 26, 27, 28, 29, 30, 31, 32, 33, 34, 35, 36, 37, 38, 39, 40, 41, 42, 43, 44, 45, 46, 47, 48, 49, 50, 51, 52, 53, 54, 55, 56, 57, 58, 59, 60, 61, 62, 63, 64, 65, 66, 67, 68, 69, 70, 71, 72, 73, 74, 75, 76, 77, 97, 98, 99, 100, 101, 102, 103, 104, 105, 106, 107, 108, 109, 110, 88, 89, 90, 91, 92, 93, 94, 95, 96] (by decide +kernel) (by decide +kernel)
set_option maxRecDepth 20000 in
theorem gX8_nextTo_X2_moreByWall : GoodIn wsX8_nextTo (wsV RX8 215 RX2 yX2_moreByWall wsX2_moreByWall) := goodIn_app (goodIn_of _ (by decide +kernel)) ggX8_nextTo_X2_moreByWall
theorem dX8_nextTo_0 : decode cX8_nextTo 0 = .ok (.aload_n 0, 1) := by decide +kernel
theorem dX8_nextTo_1 : decode cX8_nextTo 1 = .ok (.iload_n 1, 1) := by decide +kernel
theorem dX8_nextTo_2 : decode cX8_nextTo 2 = .ok (.invokevirtual 114, 3) := by decide +kernel
theorem dX8_nextTo_5 : decode cX8_nextTo 5 = .ok (.ifCond .eq 16, 3) := by decide +kernel
theorem dX8_nextTo_8 : decode cX8_nextTo 8 = .ok (.aload_n 0, 1) := by decide +kernel
theorem dX8_nextTo_9 : decode cX8_nextTo 9 = .ok (.iload_n 2, 1) := by decide +kernel
theorem dX8_nextTo_10 : decode cX8_nextTo 10 = .ok (.invokevirtual 114, 3) := by decide +kernel
theorem dX8_nextTo_13 : decode cX8_nextTo 13 = .ok (.ifCond .eq 8, 3) := by decide +kernel
theorem dX8_nextTo_16 : decode cX8_nextTo 16 = .ok (.iload_n 1, 1) := by decide +kernel
theorem dX8_nextTo_17 : decode cX8_nextTo 17 = .ok (.iload_n 2, 1) := by decide +kernel
theorem dX8_nextTo_18 : decode cX8_nextTo 18 = .ok (.if_icmp .ne 5, 3) := by decide +kernel
theorem dX8_nextTo_21 : decode cX8_nextTo 21 = .ok (.iconst (-1), 1) := by decide +kernel
theorem dX8_nextTo_22 : decode cX8_nextTo 22 = .ok (.ireturn, 1) := by decide +kernel
theorem dX8_nextTo_23 : decode cX8_nextTo 23 = .ok (.aload_n 0, 1) := by decide +kernel
theorem dX8_nextTo_24 : decode cX8_nextTo 24 = .ok (.getfield 55, 3) := by decide +kernel
theorem dX8_nextTo_27 : decode cX8_nextTo 27 = .ok (.aload_n 0, 1) := by decide +kernel
theorem dX8_nextTo_28 : decode cX8_nextTo 28 = .ok (.getfield 19, 3) := by decide +kernel
theorem dX8_nextTo_31 : decode cX8_nextTo 31 = .ok (.aload_n 0, 1) := by decide +kernel
theorem dX8_nextTo_32 : decode cX8_nextTo 32 = .ok (.getfield 29, 3) := by decide +kernel
theorem dX8_nextTo_35 : decode cX8_nextTo 35 = .ok (.iload_n 1, 1) := by decide +kernel
theorem dX8_nextTo_36 : decode cX8_nextTo 36 = .ok (.iload_n 2, 1) := by decide +kernel
theorem dX8_nextTo_37 : decode cX8_nextTo 37 = .ok (.invokevirtual 215, 3) := by decide +kernel
theorem dX8_nextTo_40 : decode cX8_nextTo 40 = .ok (.bipush 50, 2) := by decide +kernel
theorem dX8_nextTo_42 : decode cX8_nextTo 42 = .ok (.iadd, 1) := by decide +kernel
theorem dX8_nextTo_43 : decode cX8_nextTo 43 = .ok (.ireturn, 1) := by decide +kernel
set_option maxRecDepth 20000 in
theorem ggX8_all_X8_isFamily : GoodIn wsX8_all wsX8_isFamily := goodIn_r _ [8, 2, 9, 10, 11, 7, 12, 83, 84, 85, 86, 87, 88, 89, 90, 91, 92, 93, 94, 95, 96, 97, 98, 99, 100, 101] (by decide +kernel) (by decide +kernel)
set_option maxRecDepth 20000 in
theorem gX8_all_X8_isFamily : GoodIn wsX8_all (wsV RX8 114 RX8 yX8_isFamily wsX8_isFamily) := goodIn_app (goodIn_of _ (by decide +kernel)) ggX8_all_X8_isFamily
set_option maxRecDepth 20000 in
theorem ggX8_all_X2_settledHours : GoodIn wsX8_all wsX2_settledHours := goodIn_r _ [17, 18, 19, 20, 21, 22, 23, 24, 25, 26, 27, 28, 29, 30, 31, 32, 33, 34, 35, 36, 37, 38, 16, 39, 40, 41, 42, 43, 44, 45, 46, 47, 48, 49, 50, 51, 52, 53, 54, 55, 56, 57, 58, 59, 60, 61, 62, 63, 64, 65, 66, 67, 68, 69, 70, 71, 72, 73, 74, 75, 76, 77, 78, 79, 80, 81, 82, 102, 103, 104, 105, 106, 107, 108, 109, 93, 94, 95, 96, 97, 98, 99, 100, 101, 110, 111, 112, 113, 114, 115] (by decide +kernel) (by decide +kernel)
set_option maxRecDepth 20000 in
theorem gX8_all_X2_settledHours : GoodIn wsX8_all (wsV RX8 218 RX2 yX2_settledHours wsX2_settledHours) := goodIn_app (goodIn_of _ (by decide +kernel)) ggX8_all_X2_settledHours
theorem dX8_all_0 : decode cX8_all 0 = .ok (.aload_n 0, 1) := by decide +kernel
theorem dX8_all_1 : decode cX8_all 1 = .ok (.iload_n 1, 1) := by decide +kernel
theorem dX8_all_2 : decode cX8_all 2 = .ok (.invokevirtual 114, 3) := by decide +kernel
theorem dX8_all_5 : decode cX8_all 5 = .ok (.ifCond .eq 22, 3) := by decide +kernel
theorem dX8_all_8 : decode cX8_all 8 = .ok (.aload_n 0, 1) := by decide +kernel
theorem dX8_all_9 : decode cX8_all 9 = .ok (.getfield 55, 3) := by decide +kernel
theorem dX8_all_12 : decode cX8_all 12 = .ok (.aload_n 0, 1) := by decide +kernel
theorem dX8_all_13 : decode cX8_all 13 = .ok (.getfield 19, 3) := by decide +kernel
theorem dX8_all_16 : decode cX8_all 16 = .ok (.aload_n 0, 1) := by decide +kernel
theorem dX8_all_17 : decode cX8_all 17 = .ok (.getfield 29, 3) := by decide +kernel
theorem dX8_all_20 : decode cX8_all 20 = .ok (.iload_n 1, 1) := by decide +kernel
theorem dX8_all_21 : decode cX8_all 21 = .ok (.invokevirtual 218, 3) := by decide +kernel
theorem dX8_all_24 : decode cX8_all 24 = .ok (.goto 4, 3) := by decide +kernel
theorem dX8_all_27 : decode cX8_all 27 = .ok (.iconst (-1), 1) := by decide +kernel
theorem dX8_all_28 : decode cX8_all 28 = .ok (.ireturn, 1) := by decide +kernel
set_option maxRecDepth 20000 in
theorem ggX8_see_X8_isWall : GoodIn wsX8_see wsX8_isWall := goodIn_r _ [7, 8, 9, 10, 11, 6, 12, 22, 23, 24, 25, 26, 27, 28, 29, 30, 31, 36, 37, 38, 39, 40, 41, 42, 43, 44] (by decide +kernel) (by decide +kernel)
set_option maxRecDepth 20000 in
theorem gX8_see_X8_isWall : GoodIn wsX8_see (wsV RX8 138 RX8 yX8_isWall wsX8_isWall) := goodIn_app (goodIn_of _ (by decide +kernel)) ggX8_see_X8_isWall
set_option maxRecDepth 20000 in
theorem ggX8_see_X8_within : GoodIn wsX8_see wsX8_within := goodIn_r _ [12] (by decide +kernel) (by decide +kernel)
set_option maxRecDepth 20000 in
theorem gX8_see_X8_within : GoodIn wsX8_see (va_wsS RX8 100 yX8_within wsX8_within) := goodIn_app (goodIn_of _ (by decide +kernel)) ggX8_see_X8_within
set_option maxRecDepth 20000 in
theorem ggX8_see_X5_add : GoodIn wsX8_see wsX5_add := goodIn_r _ [17, 18, 19, 20, 21, 32, 33, 34, 35] (by decide +kernel) (by decide +kernel)
set_option maxRecDepth 20000 in
theorem gX8_see_X5_add : GoodIn wsX8_see (wsV RX8 222 RX5 yX5_add wsX5_add) := goodIn_app (goodIn_of _ (by decide +kernel)) ggX8_see_X5_add
theorem dX8_see_0 : decode cX8_see 0 = .ok (.aload_n 0, 1) := by decide +kernel
theorem dX8_see_1 : decode cX8_see 1 = .ok (.iload_n 1, 1) := by decide +kernel
theorem dX8_see_2 : decode cX8_see 2 = .ok (.invokevirtual 138, 3) := by decide +kernel
theorem dX8_see_5 : decode cX8_see 5 = .ok (.ifCond .eq 23, 3) := by decide +kernel
theorem dX8_see_8 : decode cX8_see 8 = .ok (.iload_n 2, 1) := by decide +kernel
theorem dX8_see_9 : decode cX8_see 9 = .ok (.iconst 0, 1) := by decide +kernel
theorem dX8_see_10 : decode cX8_see 10 = .ok (.bipush 99, 2) := by decide +kernel
theorem dX8_see_12 : decode cX8_see 12 = .ok (.invokestatic 100, 3) := by decide +kernel
theorem dX8_see_15 : decode cX8_see 15 = .ok (.ifCond .eq 13, 3) := by decide +kernel
theorem dX8_see_18 : decode cX8_see 18 = .ok (.iload_n 3, 1) := by decide +kernel
theorem dX8_see_19 : decode cX8_see 19 = .ok (.iconst 1, 1) := by decide +kernel
theorem dX8_see_20 : decode cX8_see 20 = .ok (.bipush 30, 2) := by decide +kernel
theorem dX8_see_22 : decode cX8_see 22 = .ok (.invokestatic 100, 3) := by decide +kernel
theorem dX8_see_25 : decode cX8_see 25 = .ok (.ifCond .ne 5, 3) := by decide +kernel
theorem dX8_see_28 : decode cX8_see 28 = .ok (.iconst (-1), 1) := by decide +kernel
theorem dX8_see_29 : decode cX8_see 29 = .ok (.ireturn, 1) := by decide +kernel
theorem dX8_see_30 : decode cX8_see 30 = .ok (.aload_n 0, 1) := by decide +kernel
theorem dX8_see_31 : decode cX8_see 31 = .ok (.getfield 48, 3) := by decide +kernel
theorem dX8_see_34 : decode cX8_see 34 = .ok (.iload_n 1, 1) := by decide +kernel
theorem dX8_see_35 : decode cX8_see 35 = .ok (.iload_n 2, 1) := by decide +kernel
theorem dX8_see_36 : decode cX8_see 36 = .ok (.bipush 50, 2) := by decide +kernel
theorem dX8_see_38 : decode cX8_see 38 = .ok (.isub, 1) := by decide +kernel
theorem dX8_see_39 : decode cX8_see 39 = .ok (.iload_n 3, 1) := by decide +kernel
theorem dX8_see_40 : decode cX8_see 40 = .ok (.invokevirtual 222, 3) := by decide +kernel
theorem dX8_see_43 : decode cX8_see 43 = .ok (.ifCond .eq 13, 3) := by decide +kernel
theorem dX8_see_46 : decode cX8_see 46 = .ok (.aload_n 0, 1) := by decide +kernel
theorem dX8_see_47 : decode cX8_see 47 = .ok (.getfield 48, 3) := by decide +kernel
theorem dX8_see_50 : decode cX8_see 50 = .ok (.getfield 113, 3) := by decide +kernel
theorem dX8_see_53 : decode cX8_see 53 = .ok (.goto 5, 3) := by decide +kernel
theorem dX8_see_56 : decode cX8_see 56 = .ok (.bipush (-3), 2) := by decide +kernel
theorem dX8_see_58 : decode cX8_see 58 = .ok (.ireturn, 1) := by decide +kernel
theorem dX8_forget_0 : decode cX8_forget 0 = .ok (.aload_n 0, 1) := by decide +kernel
theorem dX8_forget_1 : decode cX8_forget 1 = .ok (.getfield 48, 3) := by decide +kernel
theorem dX8_forget_4 : decode cX8_forget 4 = .ok (.getfield 113, 3) := by decide +kernel
theorem dX8_forget_7 : decode cX8_forget 7 = .ok (.istore_n 1, 1) := by decide +kernel
theorem dX8_forget_8 : decode cX8_forget 8 = .ok (.aload_n 0, 1) := by decide +kernel
theorem dX8_forget_9 : decode cX8_forget 9 = .ok (.getfield 48, 3) := by decide +kernel
theorem dX8_forget_12 : decode cX8_forget 12 = .ok (.iconst 0, 1) := by decide +kernel
theorem dX8_forget_13 : decode cX8_forget 13 = .ok (.putfield 113, 3) := by decide +kernel
theorem dX8_forget_16 : decode cX8_forget 16 = .ok (.iload_n 1, 1) := by decide +kernel
theorem dX8_forget_17 : decode cX8_forget 17 = .ok (.ireturn, 1) := by decide +kernel
set_option maxRecDepth 20000 in
theorem ggX8_whoSick_X7_suspects : GoodIn wsX8_whoSick wsX7_suspects := goodIn_r _ [9, 10, 11, 12, 13, 14, 15, 16, 17, 18, 19, 20, 21, 22, 23, 24, 25, 26, 27, 28, 29, 30, 31, 32, 33, 34, 35, 36, 37, 38, 39, 40, 41, 42, 43, 44, 45, 46, 47, 48, 49, 50, 51, 52, 53, 54, 55, 56, 57, 58, 59, 60, 61, 62, 63, 64, 65, 66, 67, 68, 69, 70, 71, 72, 73, 84, 85, 86, 87, 88, 89, 90, 91, 92, 93, 94, 95, 96, 97, 98, 99, 100, 101, 102, 103, 104] (by decide +kernel) (by decide +kernel)
set_option maxRecDepth 20000 in
theorem gX8_whoSick_X7_suspects : GoodIn wsX8_whoSick (wsV RX8 225 RX7 yX7_suspects wsX7_suspects) := goodIn_app (goodIn_of _ (by decide +kernel)) ggX8_whoSick_X7_suspects
theorem dX8_whoSick_0 : decode cX8_whoSick 0 = .ok (.aload_n 0, 1) := by decide +kernel
theorem dX8_whoSick_1 : decode cX8_whoSick 1 = .ok (.getfield 62, 3) := by decide +kernel
theorem dX8_whoSick_4 : decode cX8_whoSick 4 = .ok (.aload_n 0, 1) := by decide +kernel
theorem dX8_whoSick_5 : decode cX8_whoSick 5 = .ok (.getfield 19, 3) := by decide +kernel
theorem dX8_whoSick_8 : decode cX8_whoSick 8 = .ok (.aload_n 0, 1) := by decide +kernel
theorem dX8_whoSick_9 : decode cX8_whoSick 9 = .ok (.getfield 29, 3) := by decide +kernel
theorem dX8_whoSick_12 : decode cX8_whoSick 12 = .ok (.aload_n 0, 1) := by decide +kernel
theorem dX8_whoSick_13 : decode cX8_whoSick 13 = .ok (.getfield 48, 3) := by decide +kernel
theorem dX8_whoSick_16 : decode cX8_whoSick 16 = .ok (.invokevirtual 225, 3) := by decide +kernel
theorem dX8_whoSick_19 : decode cX8_whoSick 19 = .ok (.ireturn, 1) := by decide +kernel
set_option maxRecDepth 20000 in
theorem ggX8_kinds_X8_isFamily : GoodIn wsX8_kinds wsX8_isFamily := goodIn_r _ [9, 2, 10, 11, 12, 8, 13, 93, 94, 95, 96, 97, 98, 99, 100, 101, 102, 103, 104, 105, 106, 107, 108, 109, 110, 111] (by decide +kernel) (by decide +kernel)
set_option maxRecDepth 20000 in
theorem gX8_kinds_X8_isFamily : GoodIn wsX8_kinds (wsV RX8 114 RX8 yX8_isFamily wsX8_isFamily) := goodIn_app (goodIn_of _ (by decide +kernel)) ggX8_kinds_X8_isFamily
set_option maxRecDepth 20000 in
theorem ggX8_kinds_X7_likelyKinds : GoodIn wsX8_kinds wsX7_likelyKinds := goodIn_r _ [18, 19, 20, 21, 22, 23, 24, 25, 26, 27, 28, 29, 30, 31, 32, 33, 34, 35, 36, 37, 38, 39, 40, 41, 42, 43, 44, 45, 46, 47, 48, 49, 50, 51, 52, 53, 54, 55, 56, 57, 58, 59, 60, 61, 62, 63, 64, 65, 66, 67, 68, 69, 70, 71, 72, 73, 74, 75, 76, 77, 78, 79, 80, 81, 82, 83, 84, 85, 86, 87, 88, 89, 90, 91, 92, 112, 113, 103, 104, 105, 106, 107, 108, 109, 110, 111, 114, 115, 116, 117, 118, 119, 120, 121, 122, 123] (by decide +kernel) (by decide +kernel)
set_option maxRecDepth 20000 in
theorem gX8_kinds_X7_likelyKinds : GoodIn wsX8_kinds (wsV RX8 229 RX7 yX7_likelyKinds wsX7_likelyKinds) := goodIn_app (goodIn_of _ (by decide +kernel)) ggX8_kinds_X7_likelyKinds
theorem dX8_kinds_0 : decode cX8_kinds 0 = .ok (.aload_n 0, 1) := by decide +kernel
theorem dX8_kinds_1 : decode cX8_kinds 1 = .ok (.iload_n 1, 1) := by decide +kernel
theorem dX8_kinds_2 : decode cX8_kinds 2 = .ok (.invokevirtual 114, 3) := by decide +kernel
theorem dX8_kinds_5 : decode cX8_kinds 5 = .ok (.ifCond .eq 26, 3) := by decide +kernel
theorem dX8_kinds_8 : decode cX8_kinds 8 = .ok (.aload_n 0, 1) := by decide +kernel
theorem dX8_kinds_9 : decode cX8_kinds 9 = .ok (.getfield 62, 3) := by decide +kernel
theorem dX8_kinds_12 : decode cX8_kinds 12 = .ok (.aload_n 0, 1) := by decide +kernel
theorem dX8_kinds_13 : decode cX8_kinds 13 = .ok (.getfield 19, 3) := by decide +kernel
theorem dX8_kinds_16 : decode cX8_kinds 16 = .ok (.aload_n 0, 1) := by decide +kernel
theorem dX8_kinds_17 : decode cX8_kinds 17 = .ok (.getfield 29, 3) := by decide +kernel
theorem dX8_kinds_20 : decode cX8_kinds 20 = .ok (.aload_n 0, 1) := by decide +kernel
theorem dX8_kinds_21 : decode cX8_kinds 21 = .ok (.getfield 48, 3) := by decide +kernel
theorem dX8_kinds_24 : decode cX8_kinds 24 = .ok (.iload_n 1, 1) := by decide +kernel
theorem dX8_kinds_25 : decode cX8_kinds 25 = .ok (.invokevirtual 229, 3) := by decide +kernel
theorem dX8_kinds_28 : decode cX8_kinds 28 = .ok (.goto 4, 3) := by decide +kernel
theorem dX8_kinds_31 : decode cX8_kinds 31 = .ok (.iconst (-1), 1) := by decide +kernel
theorem dX8_kinds_32 : decode cX8_kinds 32 = .ok (.ireturn, 1) := by decide +kernel
set_option maxRecDepth 20000 in
theorem ggX8_idle_X8_isFamily : GoodIn wsX8_idle wsX8_isFamily := goodIn_r _ [10, 2, 11, 12, 13, 9, 14, 67, 68, 69, 70, 71, 72, 73, 74, 75, 76, 82, 83, 84, 85, 86, 87, 88, 89, 90] (by decide +kernel) (by decide +kernel)
set_option maxRecDepth 20000 in
theorem gX8_idle_X8_isFamily : GoodIn wsX8_idle (wsV RX8 114 RX8 yX8_isFamily wsX8_isFamily) := goodIn_app (goodIn_of _ (by decide +kernel)) ggX8_idle_X8_isFamily
set_option maxRecDepth 20000 in
theorem ggX8_idle_X8_within : GoodIn wsX8_idle wsX8_within := goodIn_r _ [14] (by decide +kernel) (by decide +kernel)
set_option maxRecDepth 20000 in
theorem gX8_idle_X8_within : GoodIn wsX8_idle (va_wsS RX8 100 yX8_within wsX8_within) := goodIn_app (goodIn_of _ (by decide +kernel)) ggX8_idle_X8_within
set_option maxRecDepth 20000 in
theorem ggX8_idle_X0_weighIdleness : GoodIn wsX8_idle wsX0_weighIdleness := goodIn_r _ [19, 20, 21, 22, 23, 24, 25, 26, 27, 28, 29, 30, 31, 32, 33, 34, 35, 36, 37, 38, 39, 40, 41, 42, 43, 44, 45, 46, 47, 48, 49, 50, 51, 52, 53, 54, 55, 56, 57, 58, 59, 60, 61, 62, 18, 63, 64, 65, 66, 77, 78, 79, 80, 81, 82, 83, 84, 85, 86, 87, 88, 89, 90, 91, 92, 93, 94, 95, 96] (by decide +kernel) (by decide +kernel)
set_option maxRecDepth 20000 in
theorem gX8_idle_X0_weighIdleness : GoodIn wsX8_idle (wsV RX8 233 RX0 yX0_weighIdleness wsX0_weighIdleness) := goodIn_app (goodIn_of _ (by decide +kernel)) ggX8_idle_X0_weighIdleness
theorem dX8_idle_0 : decode cX8_idle 0 = .ok (.aload_n 0, 1) := by decide +kernel
theorem dX8_idle_1 : decode cX8_idle 1 = .ok (.iload_n 1, 1) := by decide +kernel
theorem dX8_idle_2 : decode cX8_idle 2 = .ok (.invokevirtual 114, 3) := by decide +kernel
theorem dX8_idle_5 : decode cX8_idle 5 = .ok (.ifCond .eq 33, 3) := by decide +kernel
theorem dX8_idle_8 : decode cX8_idle 8 = .ok (.iload_n 2, 1) := by decide +kernel
theorem dX8_idle_9 : decode cX8_idle 9 = .ok (.iconst 0, 1) := by decide +kernel
theorem dX8_idle_10 : decode cX8_idle 10 = .ok (.bipush 99, 2) := by decide +kernel
theorem dX8_idle_12 : decode cX8_idle 12 = .ok (.invokestatic 100, 3) := by decide +kernel
theorem dX8_idle_15 : decode cX8_idle 15 = .ok (.ifCond .eq 23, 3) := by decide +kernel
theorem dX8_idle_18 : decode cX8_idle 18 = .ok (.iload_n 3, 1) := by decide +kernel
theorem dX8_idle_19 : decode cX8_idle 19 = .ok (.iconst 0, 1) := by decide +kernel
theorem dX8_idle_20 : decode cX8_idle 20 = .ok (.bipush 10, 2) := by decide +kernel
theorem dX8_idle_22 : decode cX8_idle 22 = .ok (.invokestatic 100, 3) := by decide +kernel
theorem dX8_idle_25 : decode cX8_idle 25 = .ok (.ifCond .eq 13, 3) := by decide +kernel
theorem dX8_idle_28 : decode cX8_idle 28 = .ok (.iload 4, 2) := by decide +kernel
theorem dX8_idle_30 : decode cX8_idle 30 = .ok (.iconst 0, 1) := by decide +kernel
theorem dX8_idle_31 : decode cX8_idle 31 = .ok (.iconst 1, 1) := by decide +kernel
theorem dX8_idle_32 : decode cX8_idle 32 = .ok (.invokestatic 100, 3) := by decide +kernel
theorem dX8_idle_35 : decode cX8_idle 35 = .ok (.ifCond .ne 5, 3) := by decide +kernel
theorem dX8_idle_38 : decode cX8_idle 38 = .ok (.iconst (-1), 1) := by decide +kernel
theorem dX8_idle_39 : decode cX8_idle 39 = .ok (.ireturn, 1) := by decide +kernel
theorem dX8_idle_40 : decode cX8_idle 40 = .ok (.aload_n 0, 1) := by decide +kernel
theorem dX8_idle_41 : decode cX8_idle 41 = .ok (.getfield 69, 3) := by decide +kernel
theorem dX8_idle_44 : decode cX8_idle 44 = .ok (.aload_n 0, 1) := by decide +kernel
theorem dX8_idle_45 : decode cX8_idle 45 = .ok (.getfield 19, 3) := by decide +kernel
theorem dX8_idle_48 : decode cX8_idle 48 = .ok (.aload_n 0, 1) := by decide +kernel
theorem dX8_idle_49 : decode cX8_idle 49 = .ok (.getfield 29, 3) := by decide +kernel
theorem dX8_idle_52 : decode cX8_idle 52 = .ok (.iload_n 1, 1) := by decide +kernel
theorem dX8_idle_53 : decode cX8_idle 53 = .ok (.iload_n 2, 1) := by decide +kernel
theorem dX8_idle_54 : decode cX8_idle 54 = .ok (.iload_n 3, 1) := by decide +kernel
theorem dX8_idle_55 : decode cX8_idle 55 = .ok (.invokevirtual 233, 3) := by decide +kernel
theorem dX8_idle_58 : decode cX8_idle 58 = .ok (.iload 4, 2) := by decide +kernel
theorem dX8_idle_60 : decode cX8_idle 60 = .ok (.ifCond .ne 13, 3) := by decide +kernel
theorem dX8_idle_63 : decode cX8_idle 63 = .ok (.aload_n 0, 1) := by decide +kernel
theorem dX8_idle_64 : decode cX8_idle 64 = .ok (.getfield 69, 3) := by decide +kernel
theorem dX8_idle_67 : decode cX8_idle 67 = .ok (.getfield 237, 3) := by decide +kernel
theorem dX8_idle_70 : decode cX8_idle 70 = .ok (.goto 10, 3) := by decide +kernel
theorem dX8_idle_73 : decode cX8_idle 73 = .ok (.aload_n 0, 1) := by decide +kernel
theorem dX8_idle_74 : decode cX8_idle 74 = .ok (.getfield 69, 3) := by decide +kernel
theorem dX8_idle_77 : decode cX8_idle 77 = .ok (.getfield 240, 3) := by decide +kernel
theorem dX8_idle_80 : decode cX8_idle 80 = .ok (.ireturn, 1) := by decide +kernel
set_option maxRecDepth 20000 in
theorem ggX8_year_X8_within : GoodIn wsX8_year wsX8_within := goodIn_r _ [9] (by decide +kernel) (by decide +kernel)
set_option maxRecDepth 20000 in
theorem gX8_year_X8_within : GoodIn wsX8_year (va_wsS RX8 100 yX8_within wsX8_within) := goodIn_app (goodIn_of _ (by decide +kernel)) ggX8_year_X8_within
set_option maxRecDepth 20000 in
theorem ggX8_year_X0_goYear : GoodIn wsX8_year wsX0_goYear := goodIn_r _ [14, 15, 16, 17, 18, 19, 20, 21, 22, 23, 24, 25, 26, 27, 28, 29, 30, 31, 32, 33, 34, 35, 36, 37, 38, 39, 13, 40, 41, 42, 43, 44, 45, 46, 47, 48, 49, 50, 51, 52, 53, 54, 55, 56, 57, 58, 59, 60, 61, 62, 63, 64, 65, 66, 67, 68, 69, 70, 71, 72, 73, 74, 85, 86, 87, 88, 89, 90, 91, 92, 93, 94, 95, 96, 97, 98, 99, 100, 101, 102, 103, 104] (by decide +kernel) (by decide +kernel)
set_option maxRecDepth 20000 in
theorem gX8_year_X0_goYear : GoodIn wsX8_year (wsV RX8 243 RX0 yX0_goYear wsX0_goYear) := goodIn_app (goodIn_of _ (by decide +kernel)) ggX8_year_X0_goYear
theorem dX8_year_0 : decode cX8_year 0 = .ok (.iload_n 1, 1) := by decide +kernel
theorem dX8_year_1 : decode cX8_year 1 = .ok (.iconst 0, 1) := by decide +kernel
theorem dX8_year_2 : decode cX8_year 2 = .ok (.sipush 9999, 3) := by decide +kernel
theorem dX8_year_5 : decode cX8_year 5 = .ok (.invokestatic 100, 3) := by decide +kernel
theorem dX8_year_8 : decode cX8_year 8 = .ok (.ifCond .eq 22, 3) := by decide +kernel
theorem dX8_year_11 : decode cX8_year 11 = .ok (.iload_n 2, 1) := by decide +kernel
theorem dX8_year_12 : decode cX8_year 12 = .ok (.iconst 1, 1) := by decide +kernel
theorem dX8_year_13 : decode cX8_year 13 = .ok (.bipush 60, 2) := by decide +kernel
theorem dX8_year_15 : decode cX8_year 15 = .ok (.invokestatic 100, 3) := by decide +kernel
theorem dX8_year_18 : decode cX8_year 18 = .ok (.ifCond .eq 12, 3) := by decide +kernel
theorem dX8_year_21 : decode cX8_year 21 = .ok (.iload_n 3, 1) := by decide +kernel
theorem dX8_year_22 : decode cX8_year 22 = .ok (.iconst 0, 1) := by decide +kernel
theorem dX8_year_23 : decode cX8_year 23 = .ok (.iconst 1, 1) := by decide +kernel
theorem dX8_year_24 : decode cX8_year 24 = .ok (.invokestatic 100, 3) := by decide +kernel
theorem dX8_year_27 : decode cX8_year 27 = .ok (.ifCond .ne 5, 3) := by decide +kernel
theorem dX8_year_30 : decode cX8_year 30 = .ok (.iconst (-1), 1) := by decide +kernel
theorem dX8_year_31 : decode cX8_year 31 = .ok (.ireturn, 1) := by decide +kernel
theorem dX8_year_32 : decode cX8_year 32 = .ok (.aload_n 0, 1) := by decide +kernel
theorem dX8_year_33 : decode cX8_year 33 = .ok (.getfield 69, 3) := by decide +kernel
theorem dX8_year_36 : decode cX8_year 36 = .ok (.aload_n 0, 1) := by decide +kernel
theorem dX8_year_37 : decode cX8_year 37 = .ok (.getfield 19, 3) := by decide +kernel
theorem dX8_year_40 : decode cX8_year 40 = .ok (.aload_n 0, 1) := by decide +kernel
theorem dX8_year_41 : decode cX8_year 41 = .ok (.getfield 29, 3) := by decide +kernel
theorem dX8_year_44 : decode cX8_year 44 = .ok (.iload_n 1, 1) := by decide +kernel
theorem dX8_year_45 : decode cX8_year 45 = .ok (.iload_n 2, 1) := by decide +kernel
theorem dX8_year_46 : decode cX8_year 46 = .ok (.invokevirtual 243, 3) := by decide +kernel
theorem dX8_year_49 : decode cX8_year 49 = .ok (.iload_n 3, 1) := by decide +kernel
theorem dX8_year_50 : decode cX8_year 50 = .ok (.ifCond .ne 13, 3) := by decide +kernel
theorem dX8_year_53 : decode cX8_year 53 = .ok (.aload_n 0, 1) := by decide +kernel
theorem dX8_year_54 : decode cX8_year 54 = .ok (.getfield 69, 3) := by decide +kernel
theorem dX8_year_57 : decode cX8_year 57 = .ok (.getfield 247, 3) := by decide +kernel
theorem dX8_year_60 : decode cX8_year 60 = .ok (.goto 10, 3) := by decide +kernel
theorem dX8_year_63 : decode cX8_year 63 = .ok (.aload_n 0, 1) := by decide +kernel
theorem dX8_year_64 : decode cX8_year 64 = .ok (.getfield 69, 3) := by decide +kernel
theorem dX8_year_67 : decode cX8_year 67 = .ok (.getfield 250, 3) := by decide +kernel
theorem dX8_year_70 : decode cX8_year 70 = .ok (.ireturn, 1) := by decide +kernel
set_option maxRecDepth 20000 in
theorem ggX8_keep_X3_isFull : GoodIn wsX8_keep wsX3_isFull := goodIn_r _ [8, 9, 10, 44, 45] (by decide +kernel) (by decide +kernel)
set_option maxRecDepth 20000 in
theorem gX8_keep_X3_isFull : GoodIn wsX8_keep (wsV RX8 253 RX3 yX3_isFull wsX3_isFull) := goodIn_app (goodIn_of _ (by decide +kernel)) ggX8_keep_X3_isFull
set_option maxRecDepth 20000 in
theorem ggX8_keep_X3_put : GoodIn wsX8_keep wsX3_put := goodIn_r _ [14, 10, 9, 15, 5, 6, 7, 8, 16, 17, 18, 19, 20, 21, 22, 23, 24, 25, 26, 27, 28, 29, 30, 31, 32, 33, 44, 45, 46, 47, 48, 49, 50, 51] (by decide +kernel) (by decide +kernel)
set_option maxRecDepth 20000 in
theorem gX8_keep_X3_put : GoodIn wsX8_keep (wsV RX8 167 RX3 yX3_put wsX3_put) := goodIn_app (goodIn_of _ (by decide +kernel)) ggX8_keep_X3_put
theorem dX8_keep_0 : decode cX8_keep 0 = .ok (.aload_n 0, 1) := by decide +kernel
theorem dX8_keep_1 : decode cX8_keep 1 = .ok (.getfield 42, 3) := by decide +kernel
theorem dX8_keep_4 : decode cX8_keep 4 = .ok (.invokevirtual 253, 3) := by decide +kernel
theorem dX8_keep_7 : decode cX8_keep 7 = .ok (.ifCond .eq 6, 3) := by decide +kernel
theorem dX8_keep_10 : decode cX8_keep 10 = .ok (.bipush (-3), 2) := by decide +kernel
theorem dX8_keep_12 : decode cX8_keep 12 = .ok (.ireturn, 1) := by decide +kernel
theorem dX8_keep_13 : decode cX8_keep 13 = .ok (.aload_n 0, 1) := by decide +kernel
theorem dX8_keep_14 : decode cX8_keep 14 = .ok (.getfield 42, 3) := by decide +kernel
theorem dX8_keep_17 : decode cX8_keep 17 = .ok (.aload_n 0, 1) := by decide +kernel
theorem dX8_keep_18 : decode cX8_keep 18 = .ok (.getfield 29, 3) := by decide +kernel
theorem dX8_keep_21 : decode cX8_keep 21 = .ok (.invokevirtual 167, 3) := by decide +kernel
theorem dX8_keep_24 : decode cX8_keep 24 = .ok (.aload_n 0, 1) := by decide +kernel
theorem dX8_keep_25 : decode cX8_keep 25 = .ok (.getfield 42, 3) := by decide +kernel
theorem dX8_keep_28 : decode cX8_keep 28 = .ok (.getfield 110, 3) := by decide +kernel
theorem dX8_keep_31 : decode cX8_keep 31 = .ok (.ireturn, 1) := by decide +kernel
set_option maxRecDepth 20000 in
theorem ggX8_back_X3_takeLastInto : GoodIn wsX8_back wsX3_takeLastInto := goodIn_r _ [9, 10, 11, 12, 13, 14, 15, 16, 17, 18, 19, 20, 21, 22, 23, 24, 25, 36, 37, 38, 39, 40, 41, 42, 43] (by decide +kernel) (by decide +kernel)
set_option maxRecDepth 20000 in
theorem gX8_back_X3_takeLastInto : GoodIn wsX8_back (wsV RX8 187 RX3 yX3_takeLastInto wsX3_takeLastInto) := goodIn_app (goodIn_of _ (by decide +kernel)) ggX8_back_X3_takeLastInto
theorem dX8_back_0 : decode cX8_back 0 = .ok (.aload_n 0, 1) := by decide +kernel
theorem dX8_back_1 : decode cX8_back 1 = .ok (.getfield 42, 3) := by decide +kernel
theorem dX8_back_4 : decode cX8_back 4 = .ok (.aload_n 0, 1) := by decide +kernel
theorem dX8_back_5 : decode cX8_back 5 = .ok (.getfield 29, 3) := by decide +kernel
theorem dX8_back_8 : decode cX8_back 8 = .ok (.invokevirtual 187, 3) := by decide +kernel
theorem dX8_back_11 : decode cX8_back 11 = .ok (.ifCond .ne 6, 3) := by decide +kernel
theorem dX8_back_14 : decode cX8_back 14 = .ok (.bipush (-2), 2) := by decide +kernel
theorem dX8_back_16 : decode cX8_back 16 = .ok (.ireturn, 1) := by decide +kernel
theorem dX8_back_17 : decode cX8_back 17 = .ok (.aload_n 0, 1) := by decide +kernel
theorem dX8_back_18 : decode cX8_back 18 = .ok (.getfield 38, 3) := by decide +kernel
theorem dX8_back_21 : decode cX8_back 21 = .ok (.iconst 0, 1) := by decide +kernel
theorem dX8_back_22 : decode cX8_back 22 = .ok (.putfield 110, 3) := by decide +kernel
theorem dX8_back_25 : decode cX8_back 25 = .ok (.aload_n 0, 1) := by decide +kernel
theorem dX8_back_26 : decode cX8_back 26 = .ok (.getfield 42, 3) := by decide +kernel
theorem dX8_back_29 : decode cX8_back 29 = .ok (.getfield 110, 3) := by decide +kernel
theorem dX8_back_32 : decode cX8_back 32 = .ok (.ireturn, 1) := by decide +kernel
set_option maxRecDepth 20000 in
theorem ggX8_count_J6_bitCount_0f7a4 : GoodIn wsX8_count wsJ6_bitCount_0f7a4 := goodIn_r _ [18, 19, 20, 21] (by decide +kernel) (by decide +kernel)
set_option maxRecDepth 20000 in
theorem gX8_count_J6_bitCount_0f7a4 : GoodIn wsX8_count (va_wsS RX8 266 yJ6_bitCount_0f7a4 wsJ6_bitCount_0f7a4) := goodIn_app (goodIn_of _ (by decide +kernel)) ggX8_count_J6_bitCount_0f7a4
set_option maxRecDepth 20000 in
theorem ggX8_count_X8_landOfAll : GoodIn wsX8_count wsX8_landOfAll := goodIn_r _ [26, 1, 2, 5, 27, 28, 29, 30, 31, 32, 33, 34, 35, 36, 37, 38, 39, 40, 41, 42, 43, 44, 45, 46, 47, 48, 49, 50, 51, 52] (by decide +kernel) (by decide +kernel)
set_option maxRecDepth 20000 in
theorem gX8_count_X8_landOfAll : GoodIn wsX8_count (wsV RX8 271 RX8 yX8_landOfAll wsX8_landOfAll) := goodIn_app (goodIn_of _ (by decide +kernel)) ggX8_count_X8_landOfAll
theorem dX8_count_0 : decode cX8_count 0 = .ok (.iload_n 1, 1) := by decide +kernel
theorem dX8_count_1 : decode cX8_count 1 = .ok (.tableswitch 135 0 9 #[55, 63, 71, 79, 87, 98, 103, 111, 119, 127], 55) := by decide +kernel
theorem dX8_count_56 : decode cX8_count 56 = .ok (.aload_n 0, 1) := by decide +kernel
theorem dX8_count_57 : decode cX8_count 57 = .ok (.getfield 19, 3) := by decide +kernel
theorem dX8_count_60 : decode cX8_count 60 = .ok (.getfield 104, 3) := by decide +kernel
theorem dX8_count_63 : decode cX8_count 63 = .ok (.ireturn, 1) := by decide +kernel
theorem dX8_count_64 : decode cX8_count 64 = .ok (.aload_n 0, 1) := by decide +kernel
theorem dX8_count_65 : decode cX8_count 65 = .ok (.getfield 19, 3) := by decide +kernel
theorem dX8_count_68 : decode cX8_count 68 = .ok (.getfield 257, 3) := by decide +kernel
theorem dX8_count_71 : decode cX8_count 71 = .ok (.ireturn, 1) := by decide +kernel
theorem dX8_count_72 : decode cX8_count 72 = .ok (.aload_n 0, 1) := by decide +kernel
theorem dX8_count_73 : decode cX8_count 73 = .ok (.getfield 19, 3) := by decide +kernel
theorem dX8_count_76 : decode cX8_count 76 = .ok (.getfield 260, 3) := by decide +kernel
theorem dX8_count_79 : decode cX8_count 79 = .ok (.ireturn, 1) := by decide +kernel
theorem dX8_count_80 : decode cX8_count 80 = .ok (.aload_n 0, 1) := by decide +kernel
theorem dX8_count_81 : decode cX8_count 81 = .ok (.getfield 29, 3) := by decide +kernel
theorem dX8_count_84 : decode cX8_count 84 = .ok (.getfield 174, 3) := by decide +kernel
theorem dX8_count_87 : decode cX8_count 87 = .ok (.ireturn, 1) := by decide +kernel
theorem dX8_count_88 : decode cX8_count 88 = .ok (.aload_n 0, 1) := by decide +kernel
theorem dX8_count_89 : decode cX8_count 89 = .ok (.getfield 29, 3) := by decide +kernel
theorem dX8_count_92 : decode cX8_count 92 = .ok (.getfield 263, 3) := by decide +kernel
theorem dX8_count_95 : decode cX8_count 95 = .ok (.invokestatic 266, 3) := by decide +kernel
theorem dX8_count_98 : decode cX8_count 98 = .ok (.ireturn, 1) := by decide +kernel
theorem dX8_count_99 : decode cX8_count 99 = .ok (.aload_n 0, 1) := by decide +kernel
theorem dX8_count_100 : decode cX8_count 100 = .ok (.invokevirtual 271, 3) := by decide +kernel
theorem dX8_count_103 : decode cX8_count 103 = .ok (.ireturn, 1) := by decide +kernel
theorem dX8_count_104 : decode cX8_count 104 = .ok (.aload_n 0, 1) := by decide +kernel
theorem dX8_count_105 : decode cX8_count 105 = .ok (.getfield 48, 3) := by decide +kernel
theorem dX8_count_108 : decode cX8_count 108 = .ok (.getfield 113, 3) := by decide +kernel
theorem dX8_count_111 : decode cX8_count 111 = .ok (.ireturn, 1) := by decide +kernel
theorem dX8_count_112 : decode cX8_count 112 = .ok (.aload_n 0, 1) := by decide +kernel
theorem dX8_count_113 : decode cX8_count 113 = .ok (.getfield 38, 3) := by decide +kernel
theorem dX8_count_116 : decode cX8_count 116 = .ok (.getfield 110, 3) := by decide +kernel
theorem dX8_count_119 : decode cX8_count 119 = .ok (.ireturn, 1) := by decide +kernel
theorem dX8_count_120 : decode cX8_count 120 = .ok (.aload_n 0, 1) := by decide +kernel
theorem dX8_count_121 : decode cX8_count 121 = .ok (.getfield 42, 3) := by decide +kernel
theorem dX8_count_124 : decode cX8_count 124 = .ok (.getfield 110, 3) := by decide +kernel
theorem dX8_count_127 : decode cX8_count 127 = .ok (.ireturn, 1) := by decide +kernel
theorem dX8_count_128 : decode cX8_count 128 = .ok (.aload_n 0, 1) := by decide +kernel
theorem dX8_count_129 : decode cX8_count 129 = .ok (.getfield 10, 3) := by decide +kernel
theorem dX8_count_132 : decode cX8_count 132 = .ok (.getfield 93, 3) := by decide +kernel
theorem dX8_count_135 : decode cX8_count 135 = .ok (.ireturn, 1) := by decide +kernel
theorem dX8_count_136 : decode cX8_count 136 = .ok (.iconst (-1), 1) := by decide +kernel
theorem dX8_count_137 : decode cX8_count 137 = .ok (.ireturn, 1) := by decide +kernel
set_option maxRecDepth 20000 in
theorem ggX8_isFamily_X8_within : GoodIn wsX8_isFamily wsX8_within := goodIn_r _ [6] (by decide +kernel) (by decide +kernel)
set_option maxRecDepth 20000 in
theorem gX8_isFamily_X8_within : GoodIn wsX8_isFamily (va_wsS RX8 100 yX8_within wsX8_within) := goodIn_app (goodIn_of _ (by decide +kernel)) ggX8_isFamily_X8_within
theorem dX8_isFamily_0 : decode cX8_isFamily 0 = .ok (.iload_n 1, 1) := by decide +kernel
theorem dX8_isFamily_1 : decode cX8_isFamily 1 = .ok (.iconst 0, 1) := by decide +kernel
theorem dX8_isFamily_2 : decode cX8_isFamily 2 = .ok (.aload_n 0, 1) := by decide +kernel
theorem dX8_isFamily_3 : decode cX8_isFamily 3 = .ok (.getfield 19, 3) := by decide +kernel
theorem dX8_isFamily_6 : decode cX8_isFamily 6 = .ok (.getfield 104, 3) := by decide +kernel
theorem dX8_isFamily_9 : decode cX8_isFamily 9 = .ok (.iconst 1, 1) := by decide +kernel
theorem dX8_isFamily_10 : decode cX8_isFamily 10 = .ok (.isub, 1) := by decide +kernel
theorem dX8_isFamily_11 : decode cX8_isFamily 11 = .ok (.invokestatic 100, 3) := by decide +kernel
theorem dX8_isFamily_14 : decode cX8_isFamily 14 = .ok (.ireturn, 1) := by decide +kernel
set_option maxRecDepth 20000 in
theorem ggX8_isWall_X8_within : GoodIn wsX8_isWall wsX8_within := goodIn_r _ [6] (by decide +kernel) (by decide +kernel)
set_option maxRecDepth 20000 in
theorem gX8_isWall_X8_within : GoodIn wsX8_isWall (va_wsS RX8 100 yX8_within wsX8_within) := goodIn_app (goodIn_of _ (by decide +kernel)) ggX8_isWall_X8_within
theorem dX8_isWall_0 : decode cX8_isWall 0 = .ok (.iload_n 1, 1) := by decide +kernel
theorem dX8_isWall_1 : decode cX8_isWall 1 = .ok (.iconst 0, 1) := by decide +kernel
theorem dX8_isWall_2 : decode cX8_isWall 2 = .ok (.aload_n 0, 1) := by decide +kernel
theorem dX8_isWall_3 : decode cX8_isWall 3 = .ok (.getfield 19, 3) := by decide +kernel
theorem dX8_isWall_6 : decode cX8_isWall 6 = .ok (.getfield 257, 3) := by decide +kernel
theorem dX8_isWall_9 : decode cX8_isWall 9 = .ok (.iconst 1, 1) := by decide +kernel
theorem dX8_isWall_10 : decode cX8_isWall 10 = .ok (.isub, 1) := by decide +kernel
theorem dX8_isWall_11 : decode cX8_isWall 11 = .ok (.invokestatic 100, 3) := by decide +kernel
theorem dX8_isWall_14 : decode cX8_isWall 14 = .ok (.ireturn, 1) := by decide +kernel
set_option maxRecDepth 20000 in
theorem ggX8_isTree_X8_within : GoodIn wsX8_isTree wsX8_within := goodIn_r _ [6] (by decide +kernel) (by decide +kernel)
set_option maxRecDepth 20000 in
theorem gX8_isTree_X8_within : GoodIn wsX8_isTree (va_wsS RX8 100 yX8_within wsX8_within) := goodIn_app (goodIn_of _ (by decide +kernel)) ggX8_isTree_X8_within
theorem dX8_isTree_0 : decode cX8_isTree 0 = .ok (.iload_n 1, 1) := by decide +kernel
theorem dX8_isTree_1 : decode cX8_isTree 1 = .ok (.iconst 0, 1) := by decide +kernel
theorem dX8_isTree_2 : decode cX8_isTree 2 = .ok (.aload_n 0, 1) := by decide +kernel
theorem dX8_isTree_3 : decode cX8_isTree 3 = .ok (.getfield 19, 3) := by decide +kernel
theorem dX8_isTree_6 : decode cX8_isTree 6 = .ok (.getfield 260, 3) := by decide +kernel
theorem dX8_isTree_9 : decode cX8_isTree 9 = .ok (.iconst 1, 1) := by decide +kernel
theorem dX8_isTree_10 : decode cX8_isTree 10 = .ok (.isub, 1) := by decide +kernel
theorem dX8_isTree_11 : decode cX8_isTree 11 = .ok (.invokestatic 100, 3) := by decide +kernel
theorem dX8_isTree_14 : decode cX8_isTree 14 = .ok (.ireturn, 1) := by decide +kernel
theorem dX8_ownerOrNone_0 : decode cX8_ownerOrNone 0 = .ok (.iload_n 1, 1) := by decide +kernel
theorem dX8_ownerOrNone_1 : decode cX8_ownerOrNone 1 = .ok (.bipush (-4), 2) := by decide +kernel
theorem dX8_ownerOrNone_3 : decode cX8_ownerOrNone 3 = .ok (.if_icmp .ne 8, 3) := by decide +kernel
theorem dX8_ownerOrNone_6 : decode cX8_ownerOrNone 6 = .ok (.bipush (-4), 2) := by decide +kernel
theorem dX8_ownerOrNone_8 : decode cX8_ownerOrNone 8 = .ok (.goto 12, 3) := by decide +kernel
theorem dX8_ownerOrNone_11 : decode cX8_ownerOrNone 11 = .ok (.aload_n 0, 1) := by decide +kernel
theorem dX8_ownerOrNone_12 : decode cX8_ownerOrNone 12 = .ok (.getfield 19, 3) := by decide +kernel
theorem dX8_ownerOrNone_15 : decode cX8_ownerOrNone 15 = .ok (.getfield 141, 3) := by decide +kernel
theorem dX8_ownerOrNone_18 : decode cX8_ownerOrNone 18 = .ok (.iload_n 1, 1) := by decide +kernel
theorem dX8_ownerOrNone_19 : decode cX8_ownerOrNone 19 = .ok (.iaload, 1) := by decide +kernel
theorem dX8_ownerOrNone_20 : decode cX8_ownerOrNone 20 = .ok (.ireturn, 1) := by decide +kernel
set_option maxRecDepth 20000 in
theorem ggX8_treesOf_X6_treeOwner : GoodIn wsX8_treesOf wsX6_treeOwner := goodIn_r _ [8, 9, 10, 11, 12, 23, 24, 25, 26, 27, 28, 29, 30, 31, 32, 33, 34, 35, 36, 37] (by decide +kernel) (by decide +kernel)
set_option maxRecDepth 20000 in
theorem gX8_treesOf_X6_treeOwner : GoodIn wsX8_treesOf (wsV RX8 164 RX6 yX6_treeOwner wsX6_treeOwner) := goodIn_app (goodIn_of _ (by decide +kernel)) ggX8_treesOf_X6_treeOwner
theorem dX8_treesOf_0 : decode cX8_treesOf 0 = .ok (.iconst 0, 1) := by decide +kernel
theorem dX8_treesOf_1 : decode cX8_treesOf 1 = .ok (.istore_n 2, 1) := by decide +kernel
theorem dX8_treesOf_2 : decode cX8_treesOf 2 = .ok (.iconst 0, 1) := by decide +kernel
theorem dX8_treesOf_3 : decode cX8_treesOf 3 = .ok (.istore_n 3, 1) := by decide +kernel
theorem dX8_treesOf_4 : decode cX8_treesOf 4 = .ok (.iload_n 3, 1) := by decide +kernel
theorem dX8_treesOf_5 : decode cX8_treesOf 5 = .ok (.aload_n 0, 1) := by decide +kernel
theorem dX8_treesOf_6 : decode cX8_treesOf 6 = .ok (.getfield 19, 3) := by decide +kernel
theorem dX8_treesOf_9 : decode cX8_treesOf 9 = .ok (.getfield 260, 3) := by decide +kernel
theorem dX8_treesOf_12 : decode cX8_treesOf 12 = .ok (.if_icmp .ge 31, 3) := by decide +kernel
theorem dX8_treesOf_15 : decode cX8_treesOf 15 = .ok (.aload_n 0, 1) := by decide +kernel
theorem dX8_treesOf_16 : decode cX8_treesOf 16 = .ok (.getfield 29, 3) := by decide +kernel
theorem dX8_treesOf_19 : decode cX8_treesOf 19 = .ok (.aload_n 0, 1) := by decide +kernel
theorem dX8_treesOf_20 : decode cX8_treesOf 20 = .ok (.getfield 19, 3) := by decide +kernel
theorem dX8_treesOf_23 : decode cX8_treesOf 23 = .ok (.iload_n 3, 1) := by decide +kernel
theorem dX8_treesOf_24 : decode cX8_treesOf 24 = .ok (.invokevirtual 164, 3) := by decide +kernel
theorem dX8_treesOf_27 : decode cX8_treesOf 27 = .ok (.iload_n 1, 1) := by decide +kernel
theorem dX8_treesOf_28 : decode cX8_treesOf 28 = .ok (.if_icmp .ne 9, 3) := by decide +kernel
theorem dX8_treesOf_31 : decode cX8_treesOf 31 = .ok (.iload_n 2, 1) := by decide +kernel
theorem dX8_treesOf_32 : decode cX8_treesOf 32 = .ok (.iconst 1, 1) := by decide +kernel
theorem dX8_treesOf_33 : decode cX8_treesOf 33 = .ok (.iload_n 3, 1) := by decide +kernel
theorem dX8_treesOf_34 : decode cX8_treesOf 34 = .ok (.ishl, 1) := by decide +kernel
theorem dX8_treesOf_35 : decode cX8_treesOf 35 = .ok (.ior, 1) := by decide +kernel
theorem dX8_treesOf_36 : decode cX8_treesOf 36 = .ok (.istore_n 2, 1) := by decide +kernel
theorem dX8_treesOf_37 : decode cX8_treesOf 37 = .ok (.iinc 3 1, 3) := by decide +kernel
theorem dX8_treesOf_40 : decode cX8_treesOf 40 = .ok (.goto (-36), 3) := by decide +kernel
theorem dX8_treesOf_43 : decode cX8_treesOf 43 = .ok (.iload_n 2, 1) := by decide +kernel
theorem dX8_treesOf_44 : decode cX8_treesOf 44 = .ok (.ireturn, 1) := by decide +kernel
theorem dX8_landOfAll_0 : decode cX8_landOfAll 0 = .ok (.iconst 0, 1) := by decide +kernel
theorem dX8_landOfAll_1 : decode cX8_landOfAll 1 = .ok (.istore_n 1, 1) := by decide +kernel
theorem dX8_landOfAll_2 : decode cX8_landOfAll 2 = .ok (.iconst 0, 1) := by decide +kernel
theorem dX8_landOfAll_3 : decode cX8_landOfAll 3 = .ok (.istore_n 2, 1) := by decide +kernel
theorem dX8_landOfAll_4 : decode cX8_landOfAll 4 = .ok (.iload_n 2, 1) := by decide +kernel
theorem dX8_landOfAll_5 : decode cX8_landOfAll 5 = .ok (.aload_n 0, 1) := by decide +kernel
theorem dX8_landOfAll_6 : decode cX8_landOfAll 6 = .ok (.getfield 19, 3) := by decide +kernel
theorem dX8_landOfAll_9 : decode cX8_landOfAll 9 = .ok (.getfield 104, 3) := by decide +kernel
theorem dX8_landOfAll_12 : decode cX8_landOfAll 12 = .ok (.if_icmp .ge 21, 3) := by decide +kernel
theorem dX8_landOfAll_15 : decode cX8_landOfAll 15 = .ok (.iload_n 1, 1) := by decide +kernel
theorem dX8_landOfAll_16 : decode cX8_landOfAll 16 = .ok (.aload_n 0, 1) := by decide +kernel
theorem dX8_landOfAll_17 : decode cX8_landOfAll 17 = .ok (.getfield 29, 3) := by decide +kernel
theorem dX8_landOfAll_20 : decode cX8_landOfAll 20 = .ok (.getfield 125, 3) := by decide +kernel
theorem dX8_landOfAll_23 : decode cX8_landOfAll 23 = .ok (.iload_n 2, 1) := by decide +kernel
theorem dX8_landOfAll_24 : decode cX8_landOfAll 24 = .ok (.iaload, 1) := by decide +kernel
theorem dX8_landOfAll_25 : decode cX8_landOfAll 25 = .ok (.iadd, 1) := by decide +kernel
theorem dX8_landOfAll_26 : decode cX8_landOfAll 26 = .ok (.istore_n 1, 1) := by decide +kernel
theorem dX8_landOfAll_27 : decode cX8_landOfAll 27 = .ok (.iinc 2 1, 3) := by decide +kernel
theorem dX8_landOfAll_30 : decode cX8_landOfAll 30 = .ok (.goto (-26), 3) := by decide +kernel
theorem dX8_landOfAll_33 : decode cX8_landOfAll 33 = .ok (.iload_n 1, 1) := by decide +kernel
theorem dX8_landOfAll_34 : decode cX8_landOfAll 34 = .ok (.ireturn, 1) := by decide +kernel
theorem dX8_within_0 : decode cX8_within 0 = .ok (.iload_n 0, 1) := by decide +kernel
theorem dX8_within_1 : decode cX8_within 1 = .ok (.iload_n 1, 1) := by decide +kernel
theorem dX8_within_2 : decode cX8_within 2 = .ok (.if_icmp .lt 12, 3) := by decide +kernel
theorem dX8_within_5 : decode cX8_within 5 = .ok (.iload_n 0, 1) := by decide +kernel
theorem dX8_within_6 : decode cX8_within 6 = .ok (.iload_n 2, 1) := by decide +kernel
theorem dX8_within_7 : decode cX8_within 7 = .ok (.if_icmp .gt 7, 3) := by decide +kernel
theorem dX8_within_10 : decode cX8_within 10 = .ok (.iconst 1, 1) := by decide +kernel
theorem dX8_within_11 : decode cX8_within 11 = .ok (.goto 4, 3) := by decide +kernel
theorem dX8_within_14 : decode cX8_within 14 = .ok (.iconst 0, 1) := by decide +kernel
theorem dX8_within_15 : decode cX8_within 15 = .ok (.ireturn, 1) := by decide +kernel
