theorem dX7_readOne_76 : decode cX7_readOne 76 = .ok (.bipush 10, 2) := by decide +kernel
theorem dX7_readOne_78 : decode cX7_readOne 78 = .ok (.goto 5, 3) := by decide +kernel
theorem dX7_readOne_81 : decode cX7_readOne 81 = .ok (.iload 5, 2) := by decide +kernel
theorem dX7_readOne_83 : decode cX7_readOne 83 = .ok (.istore 6, 2) := by decide +kernel
theorem dX7_readOne_85 : decode cX7_readOne 85 = .ok (.aload_n 1, 1) := by decide +kernel
theorem dX7_readOne_86 : decode cX7_readOne 86 = .ok (.iload_n 3, 1) := by decide +kernel
theorem dX7_readOne_87 : decode cX7_readOne 87 = .ok (.iload 6, 2) := by decide +kernel
theorem dX7_readOne_89 : decode cX7_readOne 89 = .ok (.invokevirtual 65, 3) := by decide +kernel
theorem dX7_readOne_92 : decode cX7_readOne 92 = .ok (.ifCond .ne 7, 3) := by decide +kernel
theorem dX7_readOne_95 : decode cX7_readOne 95 = .ok (.iload_n 2, 1) := by decide +kernel
theorem dX7_readOne_96 : decode cX7_readOne 96 = .ok (.iconst 3, 1) := by decide +kernel
theorem dX7_readOne_97 : decode cX7_readOne 97 = .ok (.iadd, 1) := by decide +kernel
theorem dX7_readOne_98 : decode cX7_readOne 98 = .ok (.ireturn, 1) := by decide +kernel
theorem dX7_readOne_99 : decode cX7_readOne 99 = .ok (.aload_n 1, 1) := by decide +kernel
theorem dX7_readOne_100 : decode cX7_readOne 100 = .ok (.iload_n 3, 1) := by decide +kernel
theorem dX7_readOne_101 : decode cX7_readOne 101 = .ok (.iload 4, 2) := by decide +kernel
theorem dX7_readOne_103 : decode cX7_readOne 103 = .ok (.iload 6, 2) := by decide +kernel
theorem dX7_readOne_105 : decode cX7_readOne 105 = .ok (.invokevirtual 68, 3) := by decide +kernel
theorem dX7_readOne_108 : decode cX7_readOne 108 = .ok (.bipush (-9), 2) := by decide +kernel
theorem dX7_readOne_110 : decode cX7_readOne 110 = .ok (.ireturn, 1) := by decide +kernel
set_option maxRecDepth 20000 in
theorem ggX8_init_X7_init : GoodIn wsX8_init wsX7_init := goodIn_r _ [35, 36, 2, 3, 37, 38, 99, 100] (by decide +kernel) (by decide +kernel)
set_option maxRecDepth 20000 in
theorem gX8_init_X7_init_n9 : GoodIn wsX8_init (wsX7_init) := ggX8_init_X7_init
set_option maxRecDepth 20000 in
theorem ggX8_init_X3_init : GoodIn wsX8_init wsX3_init := goodIn_r _ [40, 41, 2, 3, 37, 42, 43, 44, 110, 111, 112, 113, 114, 115] (by decide +kernel) (by decide +kernel)
set_option maxRecDepth 20000 in
theorem gX8_init_X3_init_n18 : GoodIn wsX8_init (wsX3_init) := ggX8_init_X3_init
set_option maxRecDepth 20000 in
theorem ggX8_init_X3_clear : GoodIn wsX8_init wsX3_clear := goodIn_r _ [48, 49, 50, 51, 42, 43, 44, 110, 111, 112, 113, 114, 115] (by decide +kernel) (by decide +kernel)
set_option maxRecDepth 20000 in
theorem gX8_init_X3_clear : GoodIn wsX8_init (wsV RX8 26 RX3 yX3_clear wsX3_clear) := goodIn_app (goodIn_of _ (by decide +kernel)) ggX8_init_X3_clear
set_option maxRecDepth 20000 in
theorem ggX8_init_X3_lay : GoodIn wsX8_init wsX3_lay := goodIn_r _ [55, 50, 51, 49, 56, 57, 58, 10, 59, 42, 43, 44, 60, 61, 62, 63, 110, 111, 112, 113, 114, 115] (by decide +kernel) (by decide +kernel)
set_option maxRecDepth 20000 in
theorem gX8_init_X3_lay : GoodIn wsX8_init (wsV RX8 30 RX3 yX3_lay wsX3_lay) := goodIn_app (goodIn_of _ (by decide +kernel)) ggX8_init_X3_lay
set_option maxRecDepth 20000 in
theorem ggX8_init_X4_init : GoodIn wsX8_init wsX4_init := goodIn_r _ [65, 66, 2, 3, 37, 67, 68, 69, 70, 116, 117, 118, 119, 120, 121, 122, 123, 124, 125] (by decide +kernel) (by decide +kernel)
set_option maxRecDepth 20000 in
theorem gX8_init_X4_init_n36 : GoodIn wsX8_init (wsX4_init) := ggX8_init_X4_init
set_option maxRecDepth 20000 in
theorem ggX8_init_X0_init : GoodIn wsX8_init wsX0_init := goodIn_r _ [72, 73, 2, 3, 74, 75, 76, 77, 78, 79, 80, 81, 82, 83, 84, 37, 85, 126, 127, 128, 136, 137, 138] (by decide +kernel) (by decide +kernel)
set_option maxRecDepth 20000 in
theorem gX8_init_X0_init_n47 : GoodIn wsX8_init (wsX0_init) := ggX8_init_X0_init
set_option maxRecDepth 20000 in
theorem ggX8_init_X2_init : GoodIn wsX8_init wsX2_init := goodIn_r _ [87, 88, 2, 3, 74, 89, 37, 90, 129, 130, 131, 132, 133] (by decide +kernel) (by decide +kernel)
set_option maxRecDepth 20000 in
theorem gX8_init_X2_init_n54 : GoodIn wsX8_init (wsX2_init) := ggX8_init_X2_init
set_option maxRecDepth 20000 in
theorem ggX8_init_X5_init : GoodIn wsX8_init wsX5_init := goodIn_r _ [92, 93, 2, 3, 74, 94, 134] (by decide +kernel) (by decide +kernel)
set_option maxRecDepth 20000 in
theorem gX8_init_X5_init_n61 : GoodIn wsX8_init (wsX5_init) := ggX8_init_X5_init
set_option maxRecDepth 20000 in
theorem ggX8_init_X1_init : GoodIn wsX8_init wsX1_init := goodIn_r _ [96, 97, 2, 3, 37, 98, 135] (by decide +kernel) (by decide +kernel)
set_option maxRecDepth 20000 in
theorem gX8_init_X1_init_n68 : GoodIn wsX8_init (wsX1_init) := ggX8_init_X1_init
theorem dX8_init_0 : decode cX8_init 0 = .ok (.aload_n 0, 1) := by decide +kernel
theorem dX8_init_1 : decode cX8_init 1 = .ok (.invokespecial 1, 3) := by decide +kernel
theorem dX8_init_4 : decode cX8_init 4 = .ok (.aload_n 0, 1) := by decide +kernel
theorem dX8_init_5 : decode cX8_init 5 = .ok (.new 7, 3) := by decide +kernel
theorem dX8_init_8 : decode cX8_init 8 = .ok (.dup, 1) := by decide +kernel
theorem dX8_init_9 : decode cX8_init 9 = .ok (.invokespecial 9, 3) := by decide +kernel
theorem dX8_init_12 : decode cX8_init 12 = .ok (.putfield 10, 3) := by decide +kernel
theorem dX8_init_15 : decode cX8_init 15 = .ok (.aload_n 0, 1) := by decide +kernel
theorem dX8_init_16 : decode cX8_init 16 = .ok (.new 16, 3) := by decide +kernel
theorem dX8_init_19 : decode cX8_init 19 = .ok (.dup, 1) := by decide +kernel
theorem dX8_init_20 : decode cX8_init 20 = .ok (.invokespecial 18, 3) := by decide +kernel
theorem dX8_init_23 : decode cX8_init 23 = .ok (.putfield 19, 3) := by decide +kernel
theorem dX8_init_26 : decode cX8_init 26 = .ok (.aload_n 0, 1) := by decide +kernel
theorem dX8_init_27 : decode cX8_init 27 = .ok (.new 16, 3) := by decide +kernel
theorem dX8_init_30 : decode cX8_init 30 = .ok (.dup, 1) := by decide +kernel
theorem dX8_init_31 : decode cX8_init 31 = .ok (.invokespecial 18, 3) := by decide +kernel
theorem dX8_init_34 : decode cX8_init 34 = .ok (.putfield 23, 3) := by decide +kernel
theorem dX8_init_37 : decode cX8_init 37 = .ok (.aload_n 0, 1) := by decide +kernel
theorem dX8_init_38 : decode cX8_init 38 = .ok (.getfield 23, 3) := by decide +kernel
theorem dX8_init_41 : decode cX8_init 41 = .ok (.iconst 2, 1) := by decide +kernel
theorem dX8_init_42 : decode cX8_init 42 = .ok (.invokevirtual 26, 3) := by decide +kernel
theorem dX8_init_45 : decode cX8_init 45 = .ok (.aload_n 0, 1) := by decide +kernel
theorem dX8_init_46 : decode cX8_init 46 = .ok (.getfield 23, 3) := by decide +kernel
theorem dX8_init_49 : decode cX8_init 49 = .ok (.iconst 0, 1) := by decide +kernel
theorem dX8_init_50 : decode cX8_init 50 = .ok (.iconst 5, 1) := by decide +kernel
theorem dX8_init_51 : decode cX8_init 51 = .ok (.invokevirtual 30, 3) := by decide +kernel
theorem dX8_init_54 : decode cX8_init 54 = .ok (.aload_n 0, 1) := by decide +kernel
theorem dX8_init_55 : decode cX8_init 55 = .ok (.new 34, 3) := by decide +kernel
theorem dX8_init_58 : decode cX8_init 58 = .ok (.dup, 1) := by decide +kernel
theorem dX8_init_59 : decode cX8_init 59 = .ok (.invokespecial 36, 3) := by decide +kernel
theorem dX8_init_62 : decode cX8_init 62 = .ok (.putfield 37, 3) := by decide +kernel
theorem dX8_init_65 : decode cX8_init 65 = .ok (.aload_n 0, 1) := by decide +kernel
theorem dX8_init_66 : decode cX8_init 66 = .ok (.iconst 2, 1) := by decide +kernel
theorem dX8_init_67 : decode cX8_init 67 = .ok (.anewarray 34, 3) := by decide +kernel
theorem dX8_init_70 : decode cX8_init 70 = .ok (.putfield 41, 3) := by decide +kernel
theorem dX8_init_73 : decode cX8_init 73 = .ok (.iconst 0, 1) := by decide +kernel
theorem dX8_init_74 : decode cX8_init 74 = .ok (.istore_n 1, 1) := by decide +kernel
theorem dX8_init_75 : decode cX8_init 75 = .ok (.iload_n 1, 1) := by decide +kernel
theorem dX8_init_76 : decode cX8_init 76 = .ok (.iconst 2, 1) := by decide +kernel
theorem dX8_init_77 : decode cX8_init 77 = .ok (.if_icmp .ge 22, 3) := by decide +kernel
theorem dX8_init_80 : decode cX8_init 80 = .ok (.aload_n 0, 1) := by decide +kernel
theorem dX8_init_81 : decode cX8_init 81 = .ok (.getfield 41, 3) := by decide +kernel
theorem dX8_init_84 : decode cX8_init 84 = .ok (.iload_n 1, 1) := by decide +kernel
theorem dX8_init_85 : decode cX8_init 85 = .ok (.new 34, 3) := by decide +kernel
theorem dX8_init_88 : decode cX8_init 88 = .ok (.dup, 1) := by decide +kernel
theorem dX8_init_89 : decode cX8_init 89 = .ok (.invokespecial 36, 3) := by decide +kernel
theorem dX8_init_92 : decode cX8_init 92 = .ok (.aastore, 1) := by decide +kernel
theorem dX8_init_93 : decode cX8_init 93 = .ok (.iinc 1 1, 3) := by decide +kernel
theorem dX8_init_96 : decode cX8_init 96 = .ok (.goto (-21), 3) := by decide +kernel
theorem dX8_init_99 : decode cX8_init 99 = .ok (.aload_n 0, 1) := by decide +kernel
theorem dX8_init_100 : decode cX8_init 100 = .ok (.new 45, 3) := by decide +kernel
theorem dX8_init_103 : decode cX8_init 103 = .ok (.dup, 1) := by decide +kernel
theorem dX8_init_104 : decode cX8_init 104 = .ok (.invokespecial 47, 3) := by decide +kernel
theorem dX8_init_107 : decode cX8_init 107 = .ok (.putfield 48, 3) := by decide +kernel
theorem dX8_init_110 : decode cX8_init 110 = .ok (.aload_n 0, 1) := by decide +kernel
theorem dX8_init_111 : decode cX8_init 111 = .ok (.new 52, 3) := by decide +kernel
theorem dX8_init_114 : decode cX8_init 114 = .ok (.dup, 1) := by decide +kernel
theorem dX8_init_115 : decode cX8_init 115 = .ok (.invokespecial 54, 3) := by decide +kernel
theorem dX8_init_118 : decode cX8_init 118 = .ok (.putfield 55, 3) := by decide +kernel
theorem dX8_init_121 : decode cX8_init 121 = .ok (.aload_n 0, 1) := by decide +kernel
theorem dX8_init_122 : decode cX8_init 122 = .ok (.new 59, 3) := by decide +kernel
theorem dX8_init_125 : decode cX8_init 125 = .ok (.dup, 1) := by decide +kernel
theorem dX8_init_126 : decode cX8_init 126 = .ok (.invokespecial 61, 3) := by decide +kernel
theorem dX8_init_129 : decode cX8_init 129 = .ok (.putfield 62, 3) := by decide +kernel
theorem dX8_init_132 : decode cX8_init 132 = .ok (.aload_n 0, 1) := by decide +kernel
theorem dX8_init_133 : decode cX8_init 133 = .ok (.new 66, 3) := by decide +kernel
theorem dX8_init_136 : decode cX8_init 136 = .ok (.dup, 1) := by decide +kernel
theorem dX8_init_137 : decode cX8_init 137 = .ok (.invokespecial 68, 3) := by decide +kernel
theorem dX8_init_140 : decode cX8_init 140 = .ok (.putfield 69, 3) := by decide +kernel
theorem dX8_init_143 : decode cX8_init 143 = .ok (.return_, 1) := by decide +kernel
set_option maxRecDepth 20000 in
theorem ggX8_write_X7_add : GoodIn wsX8_write wsX7_add := goodIn_r _ [8, 9, 10, 20, 21] (by decide +kernel) (by decide +kernel)
set_option maxRecDepth 20000 in
theorem gX8_write_X7_add : GoodIn wsX8_write (wsV RX8 79 RX7 yX7_add wsX7_add) := goodIn_app (goodIn_of _ (by decide +kernel)) ggX8_write_X7_add
theorem dX8_write_0 : decode cX8_write 0 = .ok (.iload_n 1, 1) := by decide +kernel
theorem dX8_write_1 : decode cX8_write 1 = .ok (.iconst 1, 1) := by decide +kernel
theorem dX8_write_2 : decode cX8_write 2 = .ok (.if_icmp .lt 9, 3) := by decide +kernel
theorem dX8_write_5 : decode cX8_write 5 = .ok (.iload_n 1, 1) := by decide +kernel
theorem dX8_write_6 : decode cX8_write 6 = .ok (.bipush 8, 2) := by decide +kernel
theorem dX8_write_8 : decode cX8_write 8 = .ok (.if_icmp .le 6, 3) := by decide +kernel
theorem dX8_write_11 : decode cX8_write 11 = .ok (.bipush (-2), 2) := by decide +kernel
theorem dX8_write_13 : decode cX8_write 13 = .ok (.ireturn, 1) := by decide +kernel
theorem dX8_write_14 : decode cX8_write 14 = .ok (.aload_n 0, 1) := by decide +kernel
theorem dX8_write_15 : decode cX8_write 15 = .ok (.getfield 10, 3) := by decide +kernel
theorem dX8_write_18 : decode cX8_write 18 = .ok (.getfield 73, 3) := by decide +kernel
theorem dX8_write_21 : decode cX8_write 21 = .ok (.iload_n 1, 1) := by decide +kernel
theorem dX8_write_22 : decode cX8_write 22 = .ok (.iadd, 1) := by decide +kernel
theorem dX8_write_23 : decode cX8_write 23 = .ok (.bipush 98, 2) := by decide +kernel
theorem dX8_write_25 : decode cX8_write 25 = .ok (.if_icmp .le 6, 3) := by decide +kernel
theorem dX8_write_28 : decode cX8_write 28 = .ok (.bipush (-4), 2) := by decide +kernel
theorem dX8_write_30 : decode cX8_write 30 = .ok (.ireturn, 1) := by decide +kernel
theorem dX8_write_31 : decode cX8_write 31 = .ok (.iload_n 1, 1) := by decide +kernel
theorem dX8_write_32 : decode cX8_write 32 = .ok (.iconst 1, 1) := by decide +kernel
theorem dX8_write_33 : decode cX8_write 33 = .ok (.isub, 1) := by decide +kernel
theorem dX8_write_34 : decode cX8_write 34 = .ok (.istore 4, 2) := by decide +kernel
theorem dX8_write_36 : decode cX8_write 36 = .ok (.iload 4, 2) := by decide +kernel
theorem dX8_write_38 : decode cX8_write 38 = .ok (.ifCond .lt 28, 3) := by decide +kernel
theorem dX8_write_41 : decode cX8_write 41 = .ok (.aload_n 0, 1) := by decide +kernel
theorem dX8_write_42 : decode cX8_write 42 = .ok (.getfield 10, 3) := by decide +kernel
theorem dX8_write_45 : decode cX8_write 45 = .ok (.lload_n 2, 1) := by decide +kernel
theorem dX8_write_46 : decode cX8_write 46 = .ok (.bipush 8, 2) := by decide +kernel
theorem dX8_write_48 : decode cX8_write 48 = .ok (.iload 4, 2) := by decide +kernel
theorem dX8_write_50 : decode cX8_write 50 = .ok (.imul, 1) := by decide +kernel
theorem dX8_write_51 : decode cX8_write 51 = .ok (.lushr, 1) := by decide +kernel
theorem dX8_write_52 : decode cX8_write 52 = .ok (.ldc2_w 77, 3) := by decide +kernel
theorem dX8_write_55 : decode cX8_write 55 = .ok (.land, 1) := by decide +kernel
theorem dX8_write_56 : decode cX8_write 56 = .ok (.l2i, 1) := by decide +kernel
theorem dX8_write_57 : decode cX8_write 57 = .ok (.invokevirtual 79, 3) := by decide +kernel
theorem dX8_write_60 : decode cX8_write 60 = .ok (.iinc 4 (-1), 3) := by decide +kernel
theorem dX8_write_63 : decode cX8_write 63 = .ok (.goto (-27), 3) := by decide +kernel
theorem dX8_write_66 : decode cX8_write 66 = .ok (.aload_n 0, 1) := by decide +kernel
theorem dX8_write_67 : decode cX8_write 67 = .ok (.getfield 10, 3) := by decide +kernel
theorem dX8_write_70 : decode cX8_write 70 = .ok (.getfield 73, 3) := by decide +kernel
theorem dX8_write_73 : decode cX8_write 73 = .ok (.ireturn, 1) := by decide +kernel
theorem dX8_wipe_0 : decode cX8_wipe 0 = .ok (.aload_n 0, 1) := by decide +kernel
theorem dX8_wipe_1 : decode cX8_wipe 1 = .ok (.getfield 10, 3) := by decide +kernel
theorem dX8_wipe_4 : decode cX8_wipe 4 = .ok (.getfield 73, 3) := by decide +kernel
theorem dX8_wipe_7 : decode cX8_wipe 7 = .ok (.istore_n 1, 1) := by decide +kernel
theorem dX8_wipe_8 : decode cX8_wipe 8 = .ok (.aload_n 0, 1) := by decide +kernel
theorem dX8_wipe_9 : decode cX8_wipe 9 = .ok (.getfield 10, 3) := by decide +kernel
theorem dX8_wipe_12 : decode cX8_wipe 12 = .ok (.iconst 0, 1) := by decide +kernel
theorem dX8_wipe_13 : decode cX8_wipe 13 = .ok (.putfield 73, 3) := by decide +kernel
theorem dX8_wipe_16 : decode cX8_wipe 16 = .ok (.iload_n 1, 1) := by decide +kernel
theorem dX8_wipe_17 : decode cX8_wipe 17 = .ok (.ireturn, 1) := by decide +kernel
set_option maxRecDepth 20000 in
theorem ggX8_fault_X7_readInto : GoodIn wsX8_fault wsX7_readInto := goodIn_r _ [7, 8, 9, 10, 6, 11, 12, 13, 14, 15, 16, 17, 18, 19, 20, 21, 22, 23, 24, 25, 26, 27, 28, 29, 30, 31, 32, 33, 34, 35, 36, 37, 38, 39, 40, 41, 42, 43, 44, 45, 46, 47, 48, 49, 50, 51, 52, 53, 54, 55, 56, 57, 58, 59, 60, 61, 62, 63, 64, 65, 66, 67, 68, 69, 70, 71, 72, 73, 74, 75, 76, 77, 78, 79, 80, 81, 82, 92, 93, 94, 95, 96, 97, 98, 99] (by decide +kernel) (by decide +kernel)
set_option maxRecDepth 20000 in
theorem gX8_fault_X7_readInto : GoodIn wsX8_fault (wsV RX8 82 RX7 yX7_readInto wsX7_readInto) := goodIn_app (goodIn_of _ (by decide +kernel)) ggX8_fault_X7_readInto
theorem dX8_fault_0 : decode cX8_fault 0 = .ok (.aload_n 0, 1) := by decide +kernel
theorem dX8_fault_1 : decode cX8_fault 1 = .ok (.getfield 10, 3) := by decide +kernel
theorem dX8_fault_4 : decode cX8_fault 4 = .ok (.aload_n 0, 1) := by decide +kernel
theorem dX8_fault_5 : decode cX8_fault 5 = .ok (.getfield 19, 3) := by decide +kernel
theorem dX8_fault_8 : decode cX8_fault 8 = .ok (.invokevirtual 82, 3) := by decide +kernel
theorem dX8_fault_11 : decode cX8_fault 11 = .ok (.ireturn, 1) := by decide +kernel
set_option maxRecDepth 20000 in
theorem ggX8_table_X7_readInto : GoodIn wsX8_table wsX7_readInto := goodIn_r _ [13, 14, 15, 16, 12, 17, 18, 19, 20, 21, 22, 23, 24, 25, 26, 27, 28, 29, 30, 31, 32, 33, 34, 35, 36, 37, 38, 39, 40, 41, 42, 43, 44, 45, 46, 47, 48, 49, 50, 51, 52, 53, 54, 55, 56, 57, 58, 59, 60, 61, 62, 63, 64, 65, 66, 67, 68, 69, 70, 71, 72, 73, 74, 75, 76, 77, 78, 79, 80, 81, 82, 83, 84, 85, 86, 87, 88, 128, 129, 122, 123, 124, 125, 126, 127] (by decide +kernel) (by decide +kernel)
set_option maxRecDepth 20000 in
theorem gX8_table_X7_readInto : GoodIn wsX8_table (wsV RX8 82 RX7 yX7_readInto wsX7_readInto) := goodIn_app (goodIn_of _ (by decide +kernel)) ggX8_table_X7_readInto
set_option maxRecDepth 20000 in
theorem ggX8_table_X3_copyFrom : GoodIn wsX8_table wsX3_copyFrom := goodIn_r _ [92, 29, 30, 31, 32, 93, 25, 26, 27, 28, 33, 34, 122, 123, 124, 125, 126, 127] (by decide +kernel) (by decide +kernel)
set_option maxRecDepth 20000 in
theorem gX8_table_X3_copyFrom : GoodIn wsX8_table (wsV RX8 86 RX3 yX3_copyFrom wsX3_copyFrom) := goodIn_app (goodIn_of _ (by decide +kernel)) ggX8_table_X3_copyFrom
set_option maxRecDepth 20000 in
theorem ggX8_table_X4_startAt : GoodIn wsX8_table wsX4_startAt := goodIn_r _ [98, 99, 100, 101, 102, 112, 113, 114, 115, 116, 117, 118, 119, 120, 121] (by decide +kernel) (by decide +kernel)
set_option maxRecDepth 20000 in
theorem gX8_table_X4_startAt : GoodIn wsX8_table (wsV RX8 90 RX4 yX4_startAt wsX4_startAt) := goodIn_app (goodIn_of _ (by decide +kernel)) ggX8_table_X4_startAt
theorem dX8_table_0 : decode cX8_table 0 = .ok (.aload_n 0, 1) := by decide +kernel
theorem dX8_table_1 : decode cX8_table 1 = .ok (.getfield 10, 3) := by decide +kernel
theorem dX8_table_4 : decode cX8_table 4 = .ok (.aload_n 0, 1) := by decide +kernel
theorem dX8_table_5 : decode cX8_table 5 = .ok (.getfield 19, 3) := by decide +kernel
theorem dX8_table_8 : decode cX8_table 8 = .ok (.invokevirtual 82, 3) := by decide +kernel
theorem dX8_table_11 : decode cX8_table 11 = .ok (.bipush (-9), 2) := by decide +kernel
theorem dX8_table_13 : decode cX8_table 13 = .ok (.if_icmp .eq 6, 3) := by decide +kernel
theorem dX8_table_16 : decode cX8_table 16 = .ok (.bipush (-3), 2) := by decide +kernel
theorem dX8_table_18 : decode cX8_table 18 = .ok (.ireturn, 1) := by decide +kernel
theorem dX8_table_19 : decode cX8_table 19 = .ok (.aload_n 0, 1) := by decide +kernel
theorem dX8_table_20 : decode cX8_table 20 = .ok (.getfield 23, 3) := by decide +kernel
theorem dX8_table_23 : decode cX8_table 23 = .ok (.aload_n 0, 1) := by decide +kernel
theorem dX8_table_24 : decode cX8_table 24 = .ok (.getfield 19, 3) := by decide +kernel
theorem dX8_table_27 : decode cX8_table 27 = .ok (.invokevirtual 86, 3) := by decide +kernel
theorem dX8_table_30 : decode cX8_table 30 = .ok (.aload_n 0, 1) := by decide +kernel
theorem dX8_table_31 : decode cX8_table 31 = .ok (.getfield 37, 3) := by decide +kernel
theorem dX8_table_34 : decode cX8_table 34 = .ok (.iconst 0, 1) := by decide +kernel
theorem dX8_table_35 : decode cX8_table 35 = .ok (.invokevirtual 90, 3) := by decide +kernel
theorem dX8_table_38 : decode cX8_table 38 = .ok (.aload_n 0, 1) := by decide +kernel
theorem dX8_table_39 : decode cX8_table 39 = .ok (.getfield 37, 3) := by decide +kernel
theorem dX8_table_42 : decode cX8_table 42 = .ok (.iconst 0, 1) := by decide +kernel
theorem dX8_table_43 : decode cX8_table 43 = .ok (.putfield 93, 3) := by decide +kernel
theorem dX8_table_46 : decode cX8_table 46 = .ok (.iconst 0, 1) := by decide +kernel
theorem dX8_table_47 : decode cX8_table 47 = .ok (.istore_n 1, 1) := by decide +kernel
theorem dX8_table_48 : decode cX8_table 48 = .ok (.iload_n 1, 1) := by decide +kernel
theorem dX8_table_49 : decode cX8_table 49 = .ok (.iconst 2, 1) := by decide +kernel
theorem dX8_table_50 : decode cX8_table 50 = .ok (.if_icmp .ge 19, 3) := by decide +kernel
theorem dX8_table_53 : decode cX8_table 53 = .ok (.aload_n 0, 1) := by decide +kernel
theorem dX8_table_54 : decode cX8_table 54 = .ok (.getfield 41, 3) := by decide +kernel
theorem dX8_table_57 : decode cX8_table 57 = .ok (.iload_n 1, 1) := by decide +kernel
theorem dX8_table_58 : decode cX8_table 58 = .ok (.aaload, 1) := by decide +kernel
theorem dX8_table_59 : decode cX8_table 59 = .ok (.iconst 0, 1) := by decide +kernel
theorem dX8_table_60 : decode cX8_table 60 = .ok (.putfield 96, 3) := by decide +kernel
theorem dX8_table_63 : decode cX8_table 63 = .ok (.iinc 1 1, 3) := by decide +kernel
theorem dX8_table_66 : decode cX8_table 66 = .ok (.goto (-18), 3) := by decide +kernel
theorem dX8_table_69 : decode cX8_table 69 = .ok (.aload_n 0, 1) := by decide +kernel
theorem dX8_table_70 : decode cX8_table 70 = .ok (.getfield 23, 3) := by decide +kernel
theorem dX8_table_73 : decode cX8_table 73 = .ok (.getfield 100, 3) := by decide +kernel
theorem dX8_table_76 : decode cX8_table 76 = .ok (.ireturn, 1) := by decide +kernel
set_option maxRecDepth 20000 in
theorem ggX8_chance_X3_has : GoodIn wsX8_chance wsX3_has := goodIn_r _ [6, 7, 23, 24, 25, 26, 27, 28] (by decide +kernel) (by decide +kernel)
set_option maxRecDepth 20000 in
theorem gX8_chance_X3_has : GoodIn wsX8_chance (wsV RX8 103 RX3 yX3_has wsX3_has) := goodIn_app (goodIn_of _ (by decide +kernel)) ggX8_chance_X3_has
set_option maxRecDepth 20000 in
theorem ggX8_chance_X3_tenthsOf : GoodIn wsX8_chance wsX3_tenthsOf := goodIn_r _ [11, 12, 13, 3, 4, 5, 6, 7, 23, 24, 25, 26, 27, 28] (by decide +kernel) (by decide +kernel)
set_option maxRecDepth 20000 in
theorem gX8_chance_X3_tenthsOf : GoodIn wsX8_chance (wsV RX8 107 RX3 yX3_tenthsOf wsX3_tenthsOf) := goodIn_app (goodIn_of _ (by decide +kernel)) ggX8_chance_X3_tenthsOf
theorem dX8_chance_0 : decode cX8_chance 0 = .ok (.aload_n 0, 1) := by decide +kernel
theorem dX8_chance_1 : decode cX8_chance 1 = .ok (.getfield 23, 3) := by decide +kernel
theorem dX8_chance_4 : decode cX8_chance 4 = .ok (.iload_n 1, 1) := by decide +kernel
theorem dX8_chance_5 : decode cX8_chance 5 = .ok (.invokevirtual 103, 3) := by decide +kernel
theorem dX8_chance_8 : decode cX8_chance 8 = .ok (.ifCond .eq 14, 3) := by decide +kernel
theorem dX8_chance_11 : decode cX8_chance 11 = .ok (.aload_n 0, 1) := by decide +kernel
theorem dX8_chance_12 : decode cX8_chance 12 = .ok (.getfield 23, 3) := by decide +kernel
theorem dX8_chance_15 : decode cX8_chance 15 = .ok (.iload_n 2, 1) := by decide +kernel
theorem dX8_chance_16 : decode cX8_chance 16 = .ok (.invokevirtual 103, 3) := by decide +kernel
theorem dX8_chance_19 : decode cX8_chance 19 = .ok (.ifCond .ne 5, 3) := by decide +kernel
theorem dX8_chance_22 : decode cX8_chance 22 = .ok (.iconst (-1), 1) := by decide +kernel
theorem dX8_chance_23 : decode cX8_chance 23 = .ok (.ireturn, 1) := by decide +kernel
theorem dX8_chance_24 : decode cX8_chance 24 = .ok (.aload_n 0, 1) := by decide +kernel
theorem dX8_chance_25 : decode cX8_chance 25 = .ok (.getfield 23, 3) := by decide +kernel
theorem dX8_chance_28 : decode cX8_chance 28 = .ok (.iload_n 1, 1) := by decide +kernel
theorem dX8_chance_29 : decode cX8_chance 29 = .ok (.iload_n 2, 1) := by decide +kernel
theorem dX8_chance_30 : decode cX8_chance 30 = .ok (.invokevirtual 107, 3) := by decide +kernel
theorem dX8_chance_33 : decode cX8_chance 33 = .ok (.ireturn, 1) := by decide +kernel
set_option maxRecDepth 20000 in
theorem ggX8_begin_X3_has : GoodIn wsX8_begin wsX3_has := goodIn_r _ [8, 9, 38, 39, 40, 41, 42, 43] (by decide +kernel) (by decide +kernel)
set_option maxRecDepth 20000 in
theorem gX8_begin_X3_has : GoodIn wsX8_begin (wsV RX8 103 RX3 yX3_has wsX3_has) := goodIn_app (goodIn_of _ (by decide +kernel)) ggX8_begin_X3_has
set_option maxRecDepth 20000 in
theorem ggX8_begin_X4_startAt : GoodIn wsX8_begin wsX4_startAt := goodIn_r _ [14, 15, 16, 17, 18, 28, 29, 30, 31, 32, 33, 34, 35, 36, 37] (by decide +kernel) (by decide +kernel)
set_option maxRecDepth 20000 in
theorem gX8_begin_X4_startAt : GoodIn wsX8_begin (wsV RX8 90 RX4 yX4_startAt wsX4_startAt) := goodIn_app (goodIn_of _ (by decide +kernel)) ggX8_begin_X4_startAt
theorem dX8_begin_0 : decode cX8_begin 0 = .ok (.aload_n 0, 1) := by decide +kernel
theorem dX8_begin_1 : decode cX8_begin 1 = .ok (.getfield 23, 3) := by decide +kernel
theorem dX8_begin_4 : decode cX8_begin 4 = .ok (.iload_n 1, 1) := by decide +kernel
theorem dX8_begin_5 : decode cX8_begin 5 = .ok (.invokevirtual 103, 3) := by decide +kernel
theorem dX8_begin_8 : decode cX8_begin 8 = .ok (.ifCond .ne 5, 3) := by decide +kernel
theorem dX8_begin_11 : decode cX8_begin 11 = .ok (.iconst (-1), 1) := by decide +kernel
theorem dX8_begin_12 : decode cX8_begin 12 = .ok (.ireturn, 1) := by decide +kernel
theorem dX8_begin_13 : decode cX8_begin 13 = .ok (.aload_n 0, 1) := by decide +kernel
theorem dX8_begin_14 : decode cX8_begin 14 = .ok (.getfield 37, 3) := by decide +kernel
theorem dX8_begin_17 : decode cX8_begin 17 = .ok (.getfield 111, 3) := by decide +kernel
theorem dX8_begin_20 : decode cX8_begin 20 = .ok (.istore_n 2, 1) := by decide +kernel
theorem dX8_begin_21 : decode cX8_begin 21 = .ok (.aload_n 0, 1) := by decide +kernel
theorem dX8_begin_22 : decode cX8_begin 22 = .ok (.getfield 37, 3) := by decide +kernel
theorem dX8_begin_25 : decode cX8_begin 25 = .ok (.iload_n 1, 1) := by decide +kernel
theorem dX8_begin_26 : decode cX8_begin 26 = .ok (.invokevirtual 90, 3) := by decide +kernel
theorem dX8_begin_29 : decode cX8_begin 29 = .ok (.iload_n 2, 1) := by decide +kernel
theorem dX8_begin_30 : decode cX8_begin 30 = .ok (.ireturn, 1) := by decide +kernel
set_option maxRecDepth 20000 in
theorem ggX8_hand_X3_has : GoodIn wsX8_hand wsX3_has := goodIn_r _ [10, 11, 46, 47, 48, 49, 50, 51] (by decide +kernel) (by decide +kernel)
set_option maxRecDepth 20000 in
theorem gX8_hand_X3_has : GoodIn wsX8_hand (wsV RX8 103 RX3 yX3_has wsX3_has) := goodIn_app (goodIn_of _ (by decide +kernel)) ggX8_hand_X3_has
set_option maxRecDepth 20000 in
theorem ggX8_hand_X3_tenthsOf : GoodIn wsX8_hand wsX3_tenthsOf := goodIn_r _ [15, 16, 17, 7, 8, 9, 10, 11, 46, 47, 48, 49, 50, 51] (by decide +kernel) (by decide +kernel)
set_option maxRecDepth 20000 in
theorem gX8_hand_X3_tenthsOf : GoodIn wsX8_hand (wsV RX8 107 RX3 yX3_tenthsOf wsX3_tenthsOf) := goodIn_app (goodIn_of _ (by decide +kernel)) ggX8_hand_X3_tenthsOf
set_option maxRecDepth 20000 in
theorem ggX8_hand_X4_handTo : GoodIn wsX8_hand wsX4_handTo := goodIn_r _ [22, 23, 24, 25, 26, 36, 37, 38, 39, 40, 41, 42, 43, 44, 45] (by decide +kernel) (by decide +kernel)
set_option maxRecDepth 20000 in
theorem gX8_hand_X4_handTo : GoodIn wsX8_hand (wsV RX8 120 RX4 yX4_handTo wsX4_handTo) := goodIn_app (goodIn_of _ (by decide +kernel)) ggX8_hand_X4_handTo
theorem dX8_hand_0 : decode cX8_hand 0 = .ok (.aload_n 0, 1) := by decide +kernel
theorem dX8_hand_1 : decode cX8_hand 1 = .ok (.getfield 23, 3) := by decide +kernel
theorem dX8_hand_4 : decode cX8_hand 4 = .ok (.iload_n 1, 1) := by decide +kernel
theorem dX8_hand_5 : decode cX8_hand 5 = .ok (.invokevirtual 103, 3) := by decide +kernel
theorem dX8_hand_8 : decode cX8_hand 8 = .ok (.ifCond .ne 5, 3) := by decide +kernel
theorem dX8_hand_11 : decode cX8_hand 11 = .ok (.iconst (-1), 1) := by decide +kernel
theorem dX8_hand_12 : decode cX8_hand 12 = .ok (.ireturn, 1) := by decide +kernel
theorem dX8_hand_13 : decode cX8_hand 13 = .ok (.aload_n 0, 1) := by decide +kernel
theorem dX8_hand_14 : decode cX8_hand 14 = .ok (.getfield 23, 3) := by decide +kernel
theorem dX8_hand_17 : decode cX8_hand 17 = .ok (.aload_n 0, 1) := by decide +kernel
theorem dX8_hand_18 : decode cX8_hand 18 = .ok (.getfield 37, 3) := by decide +kernel
theorem dX8_hand_21 : decode cX8_hand 21 = .ok (.getfield 114, 3) := by decide +kernel
theorem dX8_hand_24 : decode cX8_hand 24 = .ok (.iload_n 1, 1) := by decide +kernel
theorem dX8_hand_25 : decode cX8_hand 25 = .ok (.invokevirtual 107, 3) := by decide +kernel
theorem dX8_hand_28 : decode cX8_hand 28 = .ok (.ifCond .ne 6, 3) := by decide +kernel
theorem dX8_hand_31 : decode cX8_hand 31 = .ok (.bipush (-3), 2) := by decide +kernel
theorem dX8_hand_33 : decode cX8_hand 33 = .ok (.ireturn, 1) := by decide +kernel
theorem dX8_hand_34 : decode cX8_hand 34 = .ok (.aload_n 0, 1) := by decide +kernel
theorem dX8_hand_35 : decode cX8_hand 35 = .ok (.getfield 37, 3) := by decide +kernel
theorem dX8_hand_38 : decode cX8_hand 38 = .ok (.getfield 117, 3) := by decide +kernel
theorem dX8_hand_41 : decode cX8_hand 41 = .ok (.bipush 30, 2) := by decide +kernel
theorem dX8_hand_43 : decode cX8_hand 43 = .ok (.if_icmp .lt 6, 3) := by decide +kernel
theorem dX8_hand_46 : decode cX8_hand 46 = .ok (.bipush (-4), 2) := by decide +kernel
theorem dX8_hand_48 : decode cX8_hand 48 = .ok (.ireturn, 1) := by decide +kernel
theorem dX8_hand_49 : decode cX8_hand 49 = .ok (.aload_n 0, 1) := by decide +kernel
theorem dX8_hand_50 : decode cX8_hand 50 = .ok (.getfield 37, 3) := by decide +kernel
theorem dX8_hand_53 : decode cX8_hand 53 = .ok (.iload_n 1, 1) := by decide +kernel
theorem dX8_hand_54 : decode cX8_hand 54 = .ok (.invokevirtual 120, 3) := by decide +kernel
theorem dX8_hand_57 : decode cX8_hand 57 = .ok (.aload_n 0, 1) := by decide +kernel
theorem dX8_hand_58 : decode cX8_hand 58 = .ok (.getfield 37, 3) := by decide +kernel
theorem dX8_hand_61 : decode cX8_hand 61 = .ok (.getfield 123, 3) := by decide +kernel
theorem dX8_hand_64 : decode cX8_hand 64 = .ok (.ireturn, 1) := by decide +kernel
set_option maxRecDepth 20000 in
theorem ggX8_back_X4_takeBack : GoodIn wsX8_back wsX4_takeBack := goodIn_r _ [7, 8, 9, 10, 11, 12, 13, 6, 14, 15, 16, 17, 18, 19, 20, 30, 31, 32, 33, 34, 35, 36, 37, 38, 39] (by decide +kernel) (by decide +kernel)
set_option maxRecDepth 20000 in
theorem gX8_back_X4_takeBack : GoodIn wsX8_back (wsV RX8 126 RX4 yX4_takeBack wsX4_takeBack) := goodIn_app (goodIn_of _ (by decide +kernel)) ggX8_back_X4_takeBack
theorem dX8_back_0 : decode cX8_back 0 = .ok (.aload_n 0, 1) := by decide +kernel
theorem dX8_back_1 : decode cX8_back 1 = .ok (.getfield 37, 3) := by decide +kernel
theorem dX8_back_4 : decode cX8_back 4 = .ok (.getfield 117, 3) := by decide +kernel
theorem dX8_back_7 : decode cX8_back 7 = .ok (.iconst 1, 1) := by decide +kernel
theorem dX8_back_8 : decode cX8_back 8 = .ok (.if_icmp .ge 6, 3) := by decide +kernel
theorem dX8_back_11 : decode cX8_back 11 = .ok (.bipush (-3), 2) := by decide +kernel
theorem dX8_back_13 : decode cX8_back 13 = .ok (.ireturn, 1) := by decide +kernel
theorem dX8_back_14 : decode cX8_back 14 = .ok (.aload_n 0, 1) := by decide +kernel
theorem dX8_back_15 : decode cX8_back 15 = .ok (.getfield 37, 3) := by decide +kernel
theorem dX8_back_18 : decode cX8_back 18 = .ok (.invokevirtual 126, 3) := by decide +kernel
theorem dX8_back_21 : decode cX8_back 21 = .ok (.aload_n 0, 1) := by decide +kernel
theorem dX8_back_22 : decode cX8_back 22 = .ok (.getfield 37, 3) := by decide +kernel
theorem dX8_back_25 : decode cX8_back 25 = .ok (.getfield 117, 3) := by decide +kernel
theorem dX8_back_28 : decode cX8_back 28 = .ok (.ireturn, 1) := by decide +kernel
set_option maxRecDepth 20000 in
theorem ggX8_at_X3_has : GoodIn wsX8_at wsX3_has := goodIn_r _ [12, 13, 86, 87, 88, 89, 90, 91] (by decide +kernel) (by decide +kernel)
set_option maxRecDepth 20000 in
theorem gX8_at_X3_has : GoodIn wsX8_at (wsV RX8 103 RX3 yX3_has wsX3_has) := goodIn_app (goodIn_of _ (by decide +kernel)) ggX8_at_X3_has
set_option maxRecDepth 20000 in
theorem ggX8_at_X0_weightAt : GoodIn wsX8_at wsX0_weightAt := goodIn_r _ [18, 19, 20, 21, 22, 23, 24, 25, 17, 26, 27, 28, 29, 30, 31, 32, 33, 34, 35, 36, 37, 38, 39, 40, 41, 42, 43, 44, 45, 46, 47, 48, 49, 11, 50, 51, 52, 9, 10, 12, 13, 53, 54, 55, 56, 92, 93, 94, 95, 96, 97, 86, 87, 88, 89, 90, 91] (by decide +kernel) (by decide +kernel)
set_option maxRecDepth 20000 in
theorem gX8_at_X0_weightAt : GoodIn wsX8_at (wsV RX8 133 RX0 yX0_weightAt wsX0_weightAt) := goodIn_app (goodIn_of _ (by decide +kernel)) ggX8_at_X0_weightAt
set_option maxRecDepth 20000 in
theorem ggX8_at_X8_power : GoodIn wsX8_at wsX8_power := goodIn_r _ [60] (by decide +kernel) (by decide +kernel)
set_option maxRecDepth 20000 in
theorem gX8_at_X8_power : GoodIn wsX8_at (va_wsS RX8 139 yX8_power wsX8_power) := goodIn_app (goodIn_of _ (by decide +kernel)) ggX8_at_X8_power
set_option maxRecDepth 20000 in
theorem ggX8_at_X8_leastTerms : GoodIn wsX8_at wsX8_leastTerms := goodIn_r _ [63, 64, 65, 59, 66] (by decide +kernel) (by decide +kernel)
set_option maxRecDepth 20000 in
theorem gX8_at_X8_leastTerms : GoodIn wsX8_at (va_wsS RX8 143 yX8_leastTerms wsX8_leastTerms) := goodIn_app (goodIn_of _ (by decide +kernel)) ggX8_at_X8_leastTerms
theorem dX8_at_0 : decode cX8_at 0 = .ok (.aload_n 0, 1) := by decide +kernel
theorem dX8_at_1 : decode cX8_at 1 = .ok (.getfield 23, 3) := by decide +kernel
theorem dX8_at_4 : decode cX8_at 4 = .ok (.iload_n 2, 1) := by decide +kernel
theorem dX8_at_5 : decode cX8_at 5 = .ok (.invokevirtual 103, 3) := by decide +kernel
theorem dX8_at_8 : decode cX8_at 8 = .ok (.ifCond .ne 7, 3) := by decide +kernel
theorem dX8_at_11 : decode cX8_at 11 = .ok (.ldc2_w 129, 3) := by decide +kernel
theorem dX8_at_14 : decode cX8_at 14 = .ok (.lreturn, 1) := by decide +kernel
theorem dX8_at_15 : decode cX8_at 15 = .ok (.iload_n 1, 1) := by decide +kernel
theorem dX8_at_16 : decode cX8_at 16 = .ok (.ifCond .lt 9, 3) := by decide +kernel
theorem dX8_at_19 : decode cX8_at 19 = .ok (.iload_n 1, 1) := by decide +kernel
theorem dX8_at_20 : decode cX8_at 20 = .ok (.bipush 12, 2) := by decide +kernel
theorem dX8_at_22 : decode cX8_at 22 = .ok (.if_icmp .le 7, 3) := by decide +kernel
theorem dX8_at_25 : decode cX8_at 25 = .ok (.ldc2_w 131, 3) := by decide +kernel
theorem dX8_at_28 : decode cX8_at 28 = .ok (.lreturn, 1) := by decide +kernel
theorem dX8_at_29 : decode cX8_at 29 = .ok (.aload_n 0, 1) := by decide +kernel
theorem dX8_at_30 : decode cX8_at 30 = .ok (.getfield 48, 3) := by decide +kernel
theorem dX8_at_33 : decode cX8_at 33 = .ok (.aload_n 0, 1) := by decide +kernel
theorem dX8_at_34 : decode cX8_at 34 = .ok (.getfield 23, 3) := by decide +kernel
theorem dX8_at_37 : decode cX8_at 37 = .ok (.aload_n 0, 1) := by decide +kernel
theorem dX8_at_38 : decode cX8_at 38 = .ok (.getfield 37, 3) := by decide +kernel
theorem dX8_at_41 : decode cX8_at 41 = .ok (.getfield 114, 3) := by decide +kernel
theorem dX8_at_44 : decode cX8_at 44 = .ok (.iload_n 1, 1) := by decide +kernel
theorem dX8_at_45 : decode cX8_at 45 = .ok (.iload_n 2, 1) := by decide +kernel
theorem dX8_at_46 : decode cX8_at 46 = .ok (.invokevirtual 133, 3) := by decide +kernel
theorem dX8_at_49 : decode cX8_at 49 = .ok (.ldc2_w 137, 3) := by decide +kernel
theorem dX8_at_52 : decode cX8_at 52 = .ok (.iload_n 1, 1) := by decide +kernel
theorem dX8_at_53 : decode cX8_at 53 = .ok (.invokestatic 139, 3) := by decide +kernel
theorem dX8_at_56 : decode cX8_at 56 = .ok (.iload_n 3, 1) := by decide +kernel
theorem dX8_at_57 : decode cX8_at 57 = .ok (.invokestatic 143, 3) := by decide +kernel
theorem dX8_at_60 : decode cX8_at 60 = .ok (.lreturn, 1) := by decide +kernel
set_option maxRecDepth 20000 in
theorem ggX8_all_X3_allBits : GoodIn wsX8_all wsX3_allBits := goodIn_r _ [13, 14, 101, 102, 103, 104, 105, 106] (by decide +kernel) (by decide +kernel)
set_option maxRecDepth 20000 in
theorem gX8_all_X3_allBits : GoodIn wsX8_all (wsV RX8 147 RX3 yX3_allBits wsX3_allBits) := goodIn_app (goodIn_of _ (by decide +kernel)) ggX8_all_X3_allBits
set_option maxRecDepth 20000 in
theorem ggX8_all_X0_weighLast : GoodIn wsX8_all wsX0_weighLast := goodIn_r _ [19, 20, 21, 22, 23, 24, 10, 11, 12, 13, 14, 25, 26, 27, 18, 28, 29, 30, 31, 32, 33, 34, 35, 36, 37, 38, 39, 40, 41, 42, 43, 44, 45, 46, 47, 48, 49, 50, 51, 52, 53, 54, 55, 56, 57, 58, 59, 60, 61, 62, 63, 64, 65, 66, 67, 68, 69, 70, 107, 108, 109, 110, 111, 112, 101, 102, 103, 104, 105, 106] (by decide +kernel) (by decide +kernel)
set_option maxRecDepth 20000 in
theorem gX8_all_X0_weighLast : GoodIn wsX8_all (wsV RX8 151 RX0 yX0_weighLast wsX0_weighLast) := goodIn_app (goodIn_of _ (by decide +kernel)) ggX8_all_X0_weighLast
set_option maxRecDepth 20000 in
theorem ggX8_all_X0_lastWeight : GoodIn wsX8_all wsX0_lastWeight := goodIn_r _ [74, 20, 107, 108, 109] (by decide +kernel) (by decide +kernel)
set_option maxRecDepth 20000 in
theorem gX8_all_X0_lastWeight : GoodIn wsX8_all (wsV RX8 155 RX0 yX0_lastWeight wsX0_lastWeight) := goodIn_app (goodIn_of _ (by decide +kernel)) ggX8_all_X0_lastWeight
set_option maxRecDepth 20000 in
theorem ggX8_all_X8_power : GoodIn wsX8_all wsX8_power := goodIn_r _ [43] (by decide +kernel) (by decide +kernel)
set_option maxRecDepth 20000 in
theorem gX8_all_X8_power : GoodIn wsX8_all (va_wsS RX8 139 yX8_power wsX8_power) := goodIn_app (goodIn_of _ (by decide +kernel)) ggX8_all_X8_power
set_option maxRecDepth 20000 in
theorem ggX8_all_X8_leastTerms : GoodIn wsX8_all wsX8_leastTerms := goodIn_r _ [78, 79, 80, 42, 81] (by decide +kernel) (by decide +kernel)
set_option maxRecDepth 20000 in
theorem gX8_all_X8_leastTerms : GoodIn wsX8_all (va_wsS RX8 143 yX8_leastTerms wsX8_leastTerms) := goodIn_app (goodIn_of _ (by decide +kernel)) ggX8_all_X8_leastTerms
theorem dX8_all_0 : decode cX8_all 0 = .ok (.iload_n 1, 1) := by decide +kernel
theorem dX8_all_1 : decode cX8_all 1 = .ok (.ifCond .lt 9, 3) := by decide +kernel
theorem dX8_all_4 : decode cX8_all 4 = .ok (.iload_n 1, 1) := by decide +kernel
theorem dX8_all_5 : decode cX8_all 5 = .ok (.bipush 12, 2) := by decide +kernel
theorem dX8_all_7 : decode cX8_all 7 = .ok (.if_icmp .le 7, 3) := by decide +kernel
theorem dX8_all_10 : decode cX8_all 10 = .ok (.ldc2_w 131, 3) := by decide +kernel
theorem dX8_all_13 : decode cX8_all 13 = .ok (.lreturn, 1) := by decide +kernel
theorem dX8_all_14 : decode cX8_all 14 = .ok (.aload_n 0, 1) := by decide +kernel
theorem dX8_all_15 : decode cX8_all 15 = .ok (.getfield 37, 3) := by decide +kernel
theorem dX8_all_18 : decode cX8_all 18 = .ok (.getfield 123, 3) := by decide +kernel
theorem dX8_all_21 : decode cX8_all 21 = .ok (.aload_n 0, 1) := by decide +kernel
theorem dX8_all_22 : decode cX8_all 22 = .ok (.getfield 23, 3) := by decide +kernel
theorem dX8_all_25 : decode cX8_all 25 = .ok (.invokevirtual 147, 3) := by decide +kernel
theorem dX8_all_28 : decode cX8_all 28 = .ok (.if_icmp .ne 5, 3) := by decide +kernel
theorem dX8_all_31 : decode cX8_all 31 = .ok (.lconst 1, 1) := by decide +kernel
theorem dX8_all_32 : decode cX8_all 32 = .ok (.lreturn, 1) := by decide +kernel
theorem dX8_all_33 : decode cX8_all 33 = .ok (.aload_n 0, 1) := by decide +kernel
theorem dX8_all_34 : decode cX8_all 34 = .ok (.getfield 48, 3) := by decide +kernel
theorem dX8_all_37 : decode cX8_all 37 = .ok (.aload_n 0, 1) := by decide +kernel
theorem dX8_all_38 : decode cX8_all 38 = .ok (.getfield 23, 3) := by decide +kernel
theorem dX8_all_41 : decode cX8_all 41 = .ok (.aload_n 0, 1) := by decide +kernel
theorem dX8_all_42 : decode cX8_all 42 = .ok (.getfield 37, 3) := by decide +kernel
theorem dX8_all_45 : decode cX8_all 45 = .ok (.getfield 114, 3) := by decide +kernel
theorem dX8_all_48 : decode cX8_all 48 = .ok (.aload_n 0, 1) := by decide +kernel
theorem dX8_all_49 : decode cX8_all 49 = .ok (.getfield 37, 3) := by decide +kernel
theorem dX8_all_52 : decode cX8_all 52 = .ok (.getfield 123, 3) := by decide +kernel
theorem dX8_all_55 : decode cX8_all 55 = .ok (.iload_n 1, 1) := by decide +kernel
theorem dX8_all_56 : decode cX8_all 56 = .ok (.invokevirtual 151, 3) := by decide +kernel
theorem dX8_all_59 : decode cX8_all 59 = .ok (.lconst 0, 1) := by decide +kernel
theorem dX8_all_60 : decode cX8_all 60 = .ok (.lstore_n 3, 1) := by decide +kernel
theorem dX8_all_61 : decode cX8_all 61 = .ok (.iconst 0, 1) := by decide +kernel
theorem dX8_all_62 : decode cX8_all 62 = .ok (.istore 5, 2) := by decide +kernel
theorem dX8_all_64 : decode cX8_all 64 = .ok (.iload 5, 2) := by decide +kernel
theorem dX8_all_66 : decode cX8_all 66 = .ok (.aload_n 0, 1) := by decide +kernel
theorem dX8_all_67 : decode cX8_all 67 = .ok (.getfield 23, 3) := by decide +kernel
theorem dX8_all_70 : decode cX8_all 70 = .ok (.getfield 100, 3) := by decide +kernel
theorem dX8_all_73 : decode cX8_all 73 = .ok (.if_icmp .ge 21, 3) := by decide +kernel
theorem dX8_all_76 : decode cX8_all 76 = .ok (.lload_n 3, 1) := by decide +kernel
theorem dX8_all_77 : decode cX8_all 77 = .ok (.aload_n 0, 1) := by decide +kernel
theorem dX8_all_78 : decode cX8_all 78 = .ok (.getfield 48, 3) := by decide +kernel
theorem dX8_all_81 : decode cX8_all 81 = .ok (.iload 5, 2) := by decide +kernel
theorem dX8_all_83 : decode cX8_all 83 = .ok (.invokevirtual 155, 3) := by decide +kernel
theorem dX8_all_86 : decode cX8_all 86 = .ok (.ladd, 1) := by decide +kernel
theorem dX8_all_87 : decode cX8_all 87 = .ok (.lstore_n 3, 1) := by decide +kernel
theorem dX8_all_88 : decode cX8_all 88 = .ok (.iinc 5 1, 3) := by decide +kernel
theorem dX8_all_91 : decode cX8_all 91 = .ok (.goto (-27), 3) := by decide +kernel
theorem dX8_all_94 : decode cX8_all 94 = .ok (.lload_n 3, 1) := by decide +kernel
theorem dX8_all_95 : decode cX8_all 95 = .ok (.ldc2_w 137, 3) := by decide +kernel
theorem dX8_all_98 : decode cX8_all 98 = .ok (.iload_n 1, 1) := by decide +kernel
theorem dX8_all_99 : decode cX8_all 99 = .ok (.invokestatic 139, 3) := by decide +kernel
theorem dX8_all_102 : decode cX8_all 102 = .ok (.iload_n 2, 1) := by decide +kernel
theorem dX8_all_103 : decode cX8_all 103 = .ok (.invokestatic 143, 3) := by decide +kernel
theorem dX8_all_106 : decode cX8_all 106 = .ok (.lreturn, 1) := by decide +kernel
set_option maxRecDepth 20000 in
theorem ggX8_last_X3_has : GoodIn wsX8_last wsX3_has := goodIn_r _ [13, 14, 101, 102, 103, 104, 105, 106] (by decide +kernel) (by decide +kernel)
set_option maxRecDepth 20000 in
theorem gX8_last_X3_has : GoodIn wsX8_last (wsV RX8 103 RX3 yX3_has wsX3_has) := goodIn_app (goodIn_of _ (by decide +kernel)) ggX8_last_X3_has
set_option maxRecDepth 20000 in
theorem ggX8_last_X0_weighLast : GoodIn wsX8_last wsX0_weighLast := goodIn_r _ [19, 20, 21, 22, 23, 24, 25, 26, 12, 27, 14, 28, 29, 30, 18, 31, 32, 33, 34, 35, 36, 37, 38, 39, 40, 41, 42, 43, 44, 45, 46, 47, 48, 49, 50, 51, 52, 53, 54, 55, 56, 57, 58, 59, 60, 61, 62, 63, 64, 65, 66, 10, 11, 13, 67, 68, 69, 70, 107, 108, 109, 110, 111, 112, 101, 102, 103, 104, 105, 106] (by decide +kernel) (by decide +kernel)
set_option maxRecDepth 20000 in
theorem gX8_last_X0_weighLast : GoodIn wsX8_last (wsV RX8 151 RX0 yX0_weighLast wsX0_weighLast) := goodIn_app (goodIn_of _ (by decide +kernel)) ggX8_last_X0_weighLast
set_option maxRecDepth 20000 in
theorem ggX8_last_X0_lastWeight : GoodIn wsX8_last wsX0_lastWeight := goodIn_r _ [74, 20, 107, 108, 109] (by decide +kernel) (by decide +kernel)
set_option maxRecDepth 20000 in
theorem gX8_last_X0_lastWeight : GoodIn wsX8_last (wsV RX8 155 RX0 yX0_lastWeight wsX0_lastWeight) := goodIn_app (goodIn_of _ (by decide +kernel)) ggX8_last_X0_lastWeight
set_option maxRecDepth 20000 in
theorem ggX8_last_X8_power : GoodIn wsX8_last wsX8_power := goodIn_r _ [46] (by decide +kernel) (by decide +kernel)
set_option maxRecDepth 20000 in
theorem gX8_last_X8_power : GoodIn wsX8_last (va_wsS RX8 139 yX8_power wsX8_power) := goodIn_app (goodIn_of _ (by decide +kernel)) ggX8_last_X8_power
set_option maxRecDepth 20000 in
theorem ggX8_last_X8_leastTerms : GoodIn wsX8_last wsX8_leastTerms := goodIn_r _ [78, 79, 80, 45, 81] (by decide +kernel) (by decide +kernel)
set_option maxRecDepth 20000 in
theorem gX8_last_X8_leastTerms : GoodIn wsX8_last (va_wsS RX8 143 yX8_leastTerms wsX8_leastTerms) := goodIn_app (goodIn_of _ (by decide +kernel)) ggX8_last_X8_leastTerms
theorem dX8_last_0 : decode cX8_last 0 = .ok (.aload_n 0, 1) := by decide +kernel
theorem dX8_last_1 : decode cX8_last 1 = .ok (.getfield 23, 3) := by decide +kernel
theorem dX8_last_4 : decode cX8_last 4 = .ok (.iload_n 2, 1) := by decide +kernel
theorem dX8_last_5 : decode cX8_last 5 = .ok (.invokevirtual 103, 3) := by decide +kernel
theorem dX8_last_8 : decode cX8_last 8 = .ok (.ifCond .ne 7, 3) := by decide +kernel
theorem dX8_last_11 : decode cX8_last 11 = .ok (.ldc2_w 129, 3) := by decide +kernel
theorem dX8_last_14 : decode cX8_last 14 = .ok (.lreturn, 1) := by decide +kernel
theorem dX8_last_15 : decode cX8_last 15 = .ok (.iload_n 1, 1) := by decide +kernel
theorem dX8_last_16 : decode cX8_last 16 = .ok (.ifCond .lt 9, 3) := by decide +kernel
theorem dX8_last_19 : decode cX8_last 19 = .ok (.iload_n 1, 1) := by decide +kernel
theorem dX8_last_20 : decode cX8_last 20 = .ok (.bipush 12, 2) := by decide +kernel
theorem dX8_last_22 : decode cX8_last 22 = .ok (.if_icmp .le 7, 3) := by decide +kernel
theorem dX8_last_25 : decode cX8_last 25 = .ok (.ldc2_w 131, 3) := by decide +kernel
theorem dX8_last_28 : decode cX8_last 28 = .ok (.lreturn, 1) := by decide +kernel
theorem dX8_last_29 : decode cX8_last 29 = .ok (.aload_n 0, 1) := by decide +kernel
theorem dX8_last_30 : decode cX8_last 30 = .ok (.getfield 48, 3) := by decide +kernel
theorem dX8_last_33 : decode cX8_last 33 = .ok (.aload_n 0, 1) := by decide +kernel
theorem dX8_last_34 : decode cX8_last 34 = .ok (.getfield 23, 3) := by decide +kernel
theorem dX8_last_37 : decode cX8_last 37 = .ok (.aload_n 0, 1) := by decide +kernel
theorem dX8_last_38 : decode cX8_last 38 = .ok (.getfield 37, 3) := by decide +kernel
theorem dX8_last_41 : decode cX8_last 41 = .ok (.getfield 114, 3) := by decide +kernel
theorem dX8_last_44 : decode cX8_last 44 = .ok (.aload_n 0, 1) := by decide +kernel
theorem dX8_last_45 : decode cX8_last 45 = .ok (.getfield 37, 3) := by decide +kernel
theorem dX8_last_48 : decode cX8_last 48 = .ok (.getfield 123, 3) := by decide +kernel
theorem dX8_last_51 : decode cX8_last 51 = .ok (.iload_n 1, 1) := by decide +kernel
theorem dX8_last_52 : decode cX8_last 52 = .ok (.invokevirtual 151, 3) := by decide +kernel
theorem dX8_last_55 : decode cX8_last 55 = .ok (.aload_n 0, 1) := by decide +kernel
theorem dX8_last_56 : decode cX8_last 56 = .ok (.getfield 48, 3) := by decide +kernel
theorem dX8_last_59 : decode cX8_last 59 = .ok (.iload_n 2, 1) := by decide +kernel
theorem dX8_last_60 : decode cX8_last 60 = .ok (.invokevirtual 155, 3) := by decide +kernel
theorem dX8_last_63 : decode cX8_last 63 = .ok (.ldc2_w 137, 3) := by decide +kernel
theorem dX8_last_66 : decode cX8_last 66 = .ok (.iload_n 1, 1) := by decide +kernel
theorem dX8_last_67 : decode cX8_last 67 = .ok (.invokestatic 139, 3) := by decide +kernel
theorem dX8_last_70 : decode cX8_last 70 = .ok (.iload_n 3, 1) := by decide +kernel
theorem dX8_last_71 : decode cX8_last 71 = .ok (.invokestatic 143, 3) := by decide +kernel
theorem dX8_last_74 : decode cX8_last 74 = .ok (.lreturn, 1) := by decide +kernel
set_option maxRecDepth 20000 in
theorem ggX8_sit_X0_weighLast : GoodIn wsX8_sit wsX0_weighLast := goodIn_r _ [10, 11, 12, 13, 14, 15, 16, 17, 18, 19, 20, 21, 22, 23, 9, 24, 25, 26, 27, 28, 29, 30, 31, 32, 33, 34, 35, 36, 37, 38, 39, 40, 41, 42, 43, 44, 45, 46, 47, 48, 49, 50, 51, 52, 53, 54, 55, 56, 57, 58, 59, 60, 61, 62, 63, 64, 65, 66, 96, 97, 98, 99, 100, 101, 90, 91, 92, 93, 94, 95] (by decide +kernel) (by decide +kernel)
set_option maxRecDepth 20000 in
theorem gX8_sit_X0_weighLast : GoodIn wsX8_sit (wsV RX8 151 RX0 yX0_weighLast wsX0_weighLast) := goodIn_app (goodIn_of _ (by decide +kernel)) ggX8_sit_X0_weighLast
set_option maxRecDepth 20000 in
theorem ggX8_sit_X0_lastWeight : GoodIn wsX8_sit wsX0_lastWeight := goodIn_r _ [70, 11, 96, 97, 98] (by decide +kernel) (by decide +kernel)
set_option maxRecDepth 20000 in
theorem gX8_sit_X0_lastWeight : GoodIn wsX8_sit (wsV RX8 155 RX0 yX0_lastWeight wsX0_lastWeight) := goodIn_app (goodIn_of _ (by decide +kernel)) ggX8_sit_X0_lastWeight
theorem dX8_sit_0 : decode cX8_sit 0 = .ok (.iload_n 1, 1) := by decide +kernel
theorem dX8_sit_1 : decode cX8_sit 1 = .ok (.ifCond .lt 9, 3) := by decide +kernel
theorem dX8_sit_4 : decode cX8_sit 4 = .ok (.iload_n 1, 1) := by decide +kernel
theorem dX8_sit_5 : decode cX8_sit 5 = .ok (.bipush 12, 2) := by decide +kernel
theorem dX8_sit_7 : decode cX8_sit 7 = .ok (.if_icmp .le 6, 3) := by decide +kernel
theorem dX8_sit_10 : decode cX8_sit 10 = .ok (.bipush (-2), 2) := by decide +kernel
theorem dX8_sit_12 : decode cX8_sit 12 = .ok (.ireturn, 1) := by decide +kernel
theorem dX8_sit_13 : decode cX8_sit 13 = .ok (.aload_n 0, 1) := by decide +kernel
theorem dX8_sit_14 : decode cX8_sit 14 = .ok (.getfield 48, 3) := by decide +kernel
theorem dX8_sit_17 : decode cX8_sit 17 = .ok (.aload_n 0, 1) := by decide +kernel
theorem dX8_sit_18 : decode cX8_sit 18 = .ok (.getfield 23, 3) := by decide +kernel
theorem dX8_sit_21 : decode cX8_sit 21 = .ok (.aload_n 0, 1) := by decide +kernel
theorem dX8_sit_22 : decode cX8_sit 22 = .ok (.getfield 37, 3) := by decide +kernel
theorem dX8_sit_25 : decode cX8_sit 25 = .ok (.getfield 111, 3) := by decide +kernel
theorem dX8_sit_28 : decode cX8_sit 28 = .ok (.iconst 1, 1) := by decide +kernel
theorem dX8_sit_29 : decode cX8_sit 29 = .ok (.aload_n 0, 1) := by decide +kernel
theorem dX8_sit_30 : decode cX8_sit 30 = .ok (.getfield 37, 3) := by decide +kernel
theorem dX8_sit_33 : decode cX8_sit 33 = .ok (.getfield 111, 3) := by decide +kernel
theorem dX8_sit_36 : decode cX8_sit 36 = .ok (.ishl, 1) := by decide +kernel
theorem dX8_sit_37 : decode cX8_sit 37 = .ok (.iload_n 1, 1) := by decide +kernel
theorem dX8_sit_38 : decode cX8_sit 38 = .ok (.invokevirtual 151, 3) := by decide +kernel
theorem dX8_sit_41 : decode cX8_sit 41 = .ok (.bipush (-9), 2) := by decide +kernel
theorem dX8_sit_43 : decode cX8_sit 43 = .ok (.istore_n 2, 1) := by decide +kernel
theorem dX8_sit_44 : decode cX8_sit 44 = .ok (.lconst 0, 1) := by decide +kernel
theorem dX8_sit_45 : decode cX8_sit 45 = .ok (.lstore_n 3, 1) := by decide +kernel
theorem dX8_sit_46 : decode cX8_sit 46 = .ok (.iconst 0, 1) := by decide +kernel
theorem dX8_sit_47 : decode cX8_sit 47 = .ok (.istore 5, 2) := by decide +kernel
theorem dX8_sit_49 : decode cX8_sit 49 = .ok (.iload 5, 2) := by decide +kernel
theorem dX8_sit_51 : decode cX8_sit 51 = .ok (.aload_n 0, 1) := by decide +kernel
theorem dX8_sit_52 : decode cX8_sit 52 = .ok (.getfield 23, 3) := by decide +kernel
theorem dX8_sit_55 : decode cX8_sit 55 = .ok (.getfield 100, 3) := by decide +kernel
theorem dX8_sit_58 : decode cX8_sit 58 = .ok (.if_icmp .ge 51, 3) := by decide +kernel
theorem dX8_sit_61 : decode cX8_sit 61 = .ok (.aload_n 0, 1) := by decide +kernel
theorem dX8_sit_62 : decode cX8_sit 62 = .ok (.getfield 48, 3) := by decide +kernel
theorem dX8_sit_65 : decode cX8_sit 65 = .ok (.iload 5, 2) := by decide +kernel
theorem dX8_sit_67 : decode cX8_sit 67 = .ok (.invokevirtual 155, 3) := by decide +kernel
theorem dX8_sit_70 : decode cX8_sit 70 = .ok (.lstore 6, 2) := by decide +kernel
theorem dX8_sit_72 : decode cX8_sit 72 = .ok (.iload 5, 2) := by decide +kernel
theorem dX8_sit_74 : decode cX8_sit 74 = .ok (.aload_n 0, 1) := by decide +kernel
theorem dX8_sit_75 : decode cX8_sit 75 = .ok (.getfield 37, 3) := by decide +kernel
theorem dX8_sit_78 : decode cX8_sit 78 = .ok (.getfield 111, 3) := by decide +kernel
theorem dX8_sit_81 : decode cX8_sit 81 = .ok (.if_icmp .eq 22, 3) := by decide +kernel
theorem dX8_sit_84 : decode cX8_sit 84 = .ok (.iload_n 2, 1) := by decide +kernel
theorem dX8_sit_85 : decode cX8_sit 85 = .ok (.bipush (-9), 2) := by decide +kernel
theorem dX8_sit_87 : decode cX8_sit 87 = .ok (.if_icmp .eq 10, 3) := by decide +kernel
theorem dX8_sit_90 : decode cX8_sit 90 = .ok (.lload 6, 2) := by decide +kernel
theorem dX8_sit_92 : decode cX8_sit 92 = .ok (.lload_n 3, 1) := by decide +kernel
theorem dX8_sit_93 : decode cX8_sit 93 = .ok (.lcmp, 1) := by decide +kernel
theorem dX8_sit_94 : decode cX8_sit 94 = .ok (.ifCond .ge 9, 3) := by decide +kernel
theorem dX8_sit_97 : decode cX8_sit 97 = .ok (.iload 5, 2) := by decide +kernel
theorem dX8_sit_99 : decode cX8_sit 99 = .ok (.istore_n 2, 1) := by decide +kernel
theorem dX8_sit_100 : decode cX8_sit 100 = .ok (.lload 6, 2) := by decide +kernel
theorem dX8_sit_102 : decode cX8_sit 102 = .ok (.lstore_n 3, 1) := by decide +kernel
theorem dX8_sit_103 : decode cX8_sit 103 = .ok (.iinc 5 1, 3) := by decide +kernel
theorem dX8_sit_106 : decode cX8_sit 106 = .ok (.goto (-57), 3) := by decide +kernel
theorem dX8_sit_109 : decode cX8_sit 109 = .ok (.iload_n 2, 1) := by decide +kernel
theorem dX8_sit_110 : decode cX8_sit 110 = .ok (.ireturn, 1) := by decide +kernel
set_option maxRecDepth 20000 in
theorem ggX8_end_X3_has : GoodIn wsX8_end wsX3_has := goodIn_r _ [13, 14, 38, 39, 40, 41, 42, 43] (by decide +kernel) (by decide +kernel)
set_option maxRecDepth 20000 in
theorem gX8_end_X3_has : GoodIn wsX8_end (wsV RX8 103 RX3 yX3_has wsX3_has) := goodIn_app (goodIn_of _ (by decide +kernel)) ggX8_end_X3_has
set_option maxRecDepth 20000 in
theorem ggX8_end_X8_ringWeight : GoodIn wsX8_end wsX8_ringWeight := goodIn_r _ [19, 1, 4, 5, 20, 21, 18, 22, 29, 30, 31, 32, 33, 34, 35, 36, 37, 38, 39, 40, 41, 42, 43] (by decide +kernel) (by decide +kernel)
set_option maxRecDepth 20000 in
theorem gX8_end_X8_ringWeight : GoodIn wsX8_end (wsV RX8 167 RX8 yX8_ringWeight wsX8_ringWeight) := goodIn_app (goodIn_of _ (by decide +kernel)) ggX8_end_X8_ringWeight
set_option maxRecDepth 20000 in
theorem ggX8_end_X8_leastTerms : GoodIn wsX8_end wsX8_leastTerms := goodIn_r _ [25, 26, 27, 18, 28] (by decide +kernel) (by decide +kernel)
set_option maxRecDepth 20000 in
theorem gX8_end_X8_leastTerms : GoodIn wsX8_end (va_wsS RX8 143 yX8_leastTerms wsX8_leastTerms) := goodIn_app (goodIn_of _ (by decide +kernel)) ggX8_end_X8_leastTerms
theorem dX8_end_0 : decode cX8_end 0 = .ok (.aload_n 0, 1) := by decide +kernel
theorem dX8_end_1 : decode cX8_end 1 = .ok (.getfield 23, 3) := by decide +kernel
theorem dX8_end_4 : decode cX8_end 4 = .ok (.iload_n 1, 1) := by decide +kernel
theorem dX8_end_5 : decode cX8_end 5 = .ok (.invokevirtual 103, 3) := by decide +kernel
theorem dX8_end_8 : decode cX8_end 8 = .ok (.ifCond .ne 7, 3) := by decide +kernel
theorem dX8_end_11 : decode cX8_end 11 = .ok (.ldc2_w 129, 3) := by decide +kernel
theorem dX8_end_14 : decode cX8_end 14 = .ok (.lreturn, 1) := by decide +kernel
theorem dX8_end_15 : decode cX8_end 15 = .ok (.aload_n 0, 1) := by decide +kernel
theorem dX8_end_16 : decode cX8_end 16 = .ok (.getfield 23, 3) := by decide +kernel
theorem dX8_end_19 : decode cX8_end 19 = .ok (.getfield 159, 3) := by decide +kernel
theorem dX8_end_22 : decode cX8_end 22 = .ok (.ifCond .ne 25, 3) := by decide +kernel
theorem dX8_end_25 : decode cX8_end 25 = .ok (.aload_n 0, 1) := by decide +kernel
theorem dX8_end_26 : decode cX8_end 26 = .ok (.getfield 23, 3) := by decide +kernel
theorem dX8_end_29 : decode cX8_end 29 = .ok (.getfield 162, 3) := by decide +kernel
theorem dX8_end_32 : decode cX8_end 32 = .ok (.iconst 1, 1) := by decide +kernel
theorem dX8_end_33 : decode cX8_end 33 = .ok (.if_icmp .lt 14, 3) := by decide +kernel
theorem dX8_end_36 : decode cX8_end 36 = .ok (.aload_n 0, 1) := by decide +kernel
theorem dX8_end_37 : decode cX8_end 37 = .ok (.getfield 23, 3) := by decide +kernel
theorem dX8_end_40 : decode cX8_end 40 = .ok (.getfield 100, 3) := by decide +kernel
theorem dX8_end_43 : decode cX8_end 43 = .ok (.iconst 3, 1) := by decide +kernel
theorem dX8_end_44 : decode cX8_end 44 = .ok (.if_icmp .ge 7, 3) := by decide +kernel
theorem dX8_end_47 : decode cX8_end 47 = .ok (.ldc2_w 165, 3) := by decide +kernel
theorem dX8_end_50 : decode cX8_end 50 = .ok (.lreturn, 1) := by decide +kernel
theorem dX8_end_51 : decode cX8_end 51 = .ok (.iload_n 1, 1) := by decide +kernel
theorem dX8_end_52 : decode cX8_end 52 = .ok (.aload_n 0, 1) := by decide +kernel
theorem dX8_end_53 : decode cX8_end 53 = .ok (.getfield 37, 3) := by decide +kernel
theorem dX8_end_56 : decode cX8_end 56 = .ok (.getfield 111, 3) := by decide +kernel
theorem dX8_end_59 : decode cX8_end 59 = .ok (.isub, 1) := by decide +kernel
theorem dX8_end_60 : decode cX8_end 60 = .ok (.istore_n 3, 1) := by decide +kernel
theorem dX8_end_61 : decode cX8_end 61 = .ok (.iload_n 3, 1) := by decide +kernel
theorem dX8_end_62 : decode cX8_end 62 = .ok (.ifCond .ge 13, 3) := by decide +kernel
theorem dX8_end_65 : decode cX8_end 65 = .ok (.iload_n 3, 1) := by decide +kernel
theorem dX8_end_66 : decode cX8_end 66 = .ok (.aload_n 0, 1) := by decide +kernel
theorem dX8_end_67 : decode cX8_end 67 = .ok (.getfield 23, 3) := by decide +kernel
theorem dX8_end_70 : decode cX8_end 70 = .ok (.getfield 100, 3) := by decide +kernel
theorem dX8_end_73 : decode cX8_end 73 = .ok (.iadd, 1) := by decide +kernel
theorem dX8_end_74 : decode cX8_end 74 = .ok (.istore_n 3, 1) := by decide +kernel
theorem dX8_end_75 : decode cX8_end 75 = .ok (.lconst 0, 1) := by decide +kernel
theorem dX8_end_76 : decode cX8_end 76 = .ok (.lstore 4, 2) := by decide +kernel
theorem dX8_end_78 : decode cX8_end 78 = .ok (.iconst 1, 1) := by decide +kernel
theorem dX8_end_79 : decode cX8_end 79 = .ok (.istore 6, 2) := by decide +kernel
theorem dX8_end_81 : decode cX8_end 81 = .ok (.iload 6, 2) := by decide +kernel
theorem dX8_end_83 : decode cX8_end 83 = .ok (.aload_n 0, 1) := by decide +kernel
theorem dX8_end_84 : decode cX8_end 84 = .ok (.getfield 23, 3) := by decide +kernel
theorem dX8_end_87 : decode cX8_end 87 = .ok (.getfield 100, 3) := by decide +kernel
theorem dX8_end_90 : decode cX8_end 90 = .ok (.if_icmp .ge 20, 3) := by decide +kernel
theorem dX8_end_93 : decode cX8_end 93 = .ok (.lload 4, 2) := by decide +kernel
theorem dX8_end_95 : decode cX8_end 95 = .ok (.aload_n 0, 1) := by decide +kernel
theorem dX8_end_96 : decode cX8_end 96 = .ok (.iload 6, 2) := by decide +kernel
theorem dX8_end_98 : decode cX8_end 98 = .ok (.invokevirtual 167, 3) := by decide +kernel
theorem dX8_end_101 : decode cX8_end 101 = .ok (.ladd, 1) := by decide +kernel
theorem dX8_end_102 : decode cX8_end 102 = .ok (.lstore 4, 2) := by decide +kernel
theorem dX8_end_104 : decode cX8_end 104 = .ok (.iinc 6 1, 3) := by decide +kernel
theorem dX8_end_107 : decode cX8_end 107 = .ok (.goto (-26), 3) := by decide +kernel
theorem dX8_end_110 : decode cX8_end 110 = .ok (.iload_n 3, 1) := by decide +kernel
theorem dX8_end_111 : decode cX8_end 111 = .ok (.ifCond .ne 7, 3) := by decide +kernel
theorem dX8_end_114 : decode cX8_end 114 = .ok (.lconst 0, 1) := by decide +kernel
theorem dX8_end_115 : decode cX8_end 115 = .ok (.goto 8, 3) := by decide +kernel
theorem dX8_end_118 : decode cX8_end 118 = .ok (.aload_n 0, 1) := by decide +kernel
theorem dX8_end_119 : decode cX8_end 119 = .ok (.iload_n 3, 1) := by decide +kernel
theorem dX8_end_120 : decode cX8_end 120 = .ok (.invokevirtual 167, 3) := by decide +kernel
theorem dX8_end_123 : decode cX8_end 123 = .ok (.lload 4, 2) := by decide +kernel
theorem dX8_end_125 : decode cX8_end 125 = .ok (.iload_n 2, 1) := by decide +kernel
theorem dX8_end_126 : decode cX8_end 126 = .ok (.invokestatic 143, 3) := by decide +kernel
theorem dX8_end_129 : decode cX8_end 129 = .ok (.lreturn, 1) := by decide +kernel
set_option maxRecDepth 20000 in
theorem ggX8_mean_X3_has : GoodIn wsX8_mean wsX3_has := goodIn_r _ [11, 12, 88, 89, 90, 91, 92, 93] (by decide +kernel) (by decide +kernel)
set_option maxRecDepth 20000 in
theorem gX8_mean_X3_has : GoodIn wsX8_mean (wsV RX8 103 RX3 yX3_has wsX3_has) := goodIn_app (goodIn_of _ (by decide +kernel)) ggX8_mean_X3_has
set_option maxRecDepth 20000 in
theorem ggX8_mean_X2_solve : GoodIn wsX8_mean wsX2_solve := goodIn_r _ [17, 18, 19, 20, 21, 22, 16, 23, 24, 25, 26, 27, 28, 29, 30, 31, 10, 32, 33, 34, 8, 9, 11, 12, 35, 36, 37, 38, 39, 40, 41, 42, 43, 44, 45, 46, 47, 48, 49, 50, 51, 52, 53, 54, 55, 56, 57, 58, 59, 60, 61, 62, 63, 64, 65, 66, 83, 84, 85, 86, 87, 88, 89, 90, 91, 92, 93] (by decide +kernel) (by decide +kernel)
set_option maxRecDepth 20000 in
theorem gX8_mean_X2_solve : GoodIn wsX8_mean (wsV RX8 170 RX2 yX2_solve wsX2_solve) := goodIn_app (goodIn_of _ (by decide +kernel)) ggX8_mean_X2_solve
set_option maxRecDepth 20000 in
theorem ggX8_mean_X8_leastTerms : GoodIn wsX8_mean wsX8_leastTerms := goodIn_r _ [70, 71, 72, 69, 73] (by decide +kernel) (by decide +kernel)
set_option maxRecDepth 20000 in
theorem gX8_mean_X8_leastTerms : GoodIn wsX8_mean (va_wsS RX8 143 yX8_leastTerms wsX8_leastTerms) := goodIn_app (goodIn_of _ (by decide +kernel)) ggX8_mean_X8_leastTerms
theorem dX8_mean_0 : decode cX8_mean 0 = .ok (.aload_n 0, 1) := by decide +kernel
theorem dX8_mean_1 : decode cX8_mean 1 = .ok (.getfield 23, 3) := by decide +kernel
theorem dX8_mean_4 : decode cX8_mean 4 = .ok (.iload_n 1, 1) := by decide +kernel
theorem dX8_mean_5 : decode cX8_mean 5 = .ok (.invokevirtual 103, 3) := by decide +kernel
theorem dX8_mean_8 : decode cX8_mean 8 = .ok (.ifCond .eq 14, 3) := by decide +kernel
theorem dX8_mean_11 : decode cX8_mean 11 = .ok (.aload_n 0, 1) := by decide +kernel
theorem dX8_mean_12 : decode cX8_mean 12 = .ok (.getfield 23, 3) := by decide +kernel
theorem dX8_mean_15 : decode cX8_mean 15 = .ok (.iload_n 2, 1) := by decide +kernel
theorem dX8_mean_16 : decode cX8_mean 16 = .ok (.invokevirtual 103, 3) := by decide +kernel
theorem dX8_mean_19 : decode cX8_mean 19 = .ok (.ifCond .ne 7, 3) := by decide +kernel
theorem dX8_mean_22 : decode cX8_mean 22 = .ok (.ldc2_w 129, 3) := by decide +kernel
theorem dX8_mean_25 : decode cX8_mean 25 = .ok (.lreturn, 1) := by decide +kernel
theorem dX8_mean_26 : decode cX8_mean 26 = .ok (.aload_n 0, 1) := by decide +kernel
theorem dX8_mean_27 : decode cX8_mean 27 = .ok (.getfield 55, 3) := by decide +kernel
theorem dX8_mean_30 : decode cX8_mean 30 = .ok (.aload_n 0, 1) := by decide +kernel
theorem dX8_mean_31 : decode cX8_mean 31 = .ok (.getfield 23, 3) := by decide +kernel
theorem dX8_mean_34 : decode cX8_mean 34 = .ok (.iload_n 1, 1) := by decide +kernel
theorem dX8_mean_35 : decode cX8_mean 35 = .ok (.iload_n 2, 1) := by decide +kernel
theorem dX8_mean_36 : decode cX8_mean 36 = .ok (.invokevirtual 170, 3) := by decide +kernel
theorem dX8_mean_39 : decode cX8_mean 39 = .ok (.ifCond .ne 7, 3) := by decide +kernel
theorem dX8_mean_42 : decode cX8_mean 42 = .ok (.ldc2_w 174, 3) := by decide +kernel
theorem dX8_mean_45 : decode cX8_mean 45 = .ok (.lreturn, 1) := by decide +kernel
theorem dX8_mean_46 : decode cX8_mean 46 = .ok (.aload_n 0, 1) := by decide +kernel
theorem dX8_mean_47 : decode cX8_mean 47 = .ok (.getfield 55, 3) := by decide +kernel
theorem dX8_mean_50 : decode cX8_mean 50 = .ok (.getfield 176, 3) := by decide +kernel
theorem dX8_mean_53 : decode cX8_mean 53 = .ok (.aload_n 0, 1) := by decide +kernel
theorem dX8_mean_54 : decode cX8_mean 54 = .ok (.getfield 55, 3) := by decide +kernel
theorem dX8_mean_57 : decode cX8_mean 57 = .ok (.getfield 180, 3) := by decide +kernel
theorem dX8_mean_60 : decode cX8_mean 60 = .ok (.iload_n 3, 1) := by decide +kernel
theorem dX8_mean_61 : decode cX8_mean 61 = .ok (.invokestatic 143, 3) := by decide +kernel
theorem dX8_mean_64 : decode cX8_mean 64 = .ok (.lreturn, 1) := by decide +kernel
set_option maxRecDepth 20000 in
theorem ggX8_round_X3_has : GoodIn wsX8_round wsX3_has := goodIn_r _ [11, 12, 88, 89, 90, 91, 92, 93] (by decide +kernel) (by decide +kernel)
set_option maxRecDepth 20000 in
theorem gX8_round_X3_has : GoodIn wsX8_round (wsV RX8 103 RX3 yX3_has wsX3_has) := goodIn_app (goodIn_of _ (by decide +kernel)) ggX8_round_X3_has
set_option maxRecDepth 20000 in
theorem ggX8_round_X2_solve : GoodIn wsX8_round wsX2_solve := goodIn_r _ [17, 18, 19, 20, 21, 22, 16, 23, 24, 25, 26, 27, 28, 29, 30, 31, 10, 32, 33, 34, 8, 9, 11, 12, 35, 36, 37, 38, 39, 40, 41, 42, 43, 44, 45, 46, 47, 48, 49, 50, 51, 52, 53, 54, 55, 56, 57, 58, 59, 60, 61, 62, 63, 64, 65, 66, 83, 84, 85, 86, 87, 88, 89, 90, 91, 92, 93] (by decide +kernel) (by decide +kernel)
set_option maxRecDepth 20000 in
theorem gX8_round_X2_solve : GoodIn wsX8_round (wsV RX8 170 RX2 yX2_solve wsX2_solve) := goodIn_app (goodIn_of _ (by decide +kernel)) ggX8_round_X2_solve
set_option maxRecDepth 20000 in
theorem ggX8_round_X8_leastTerms : GoodIn wsX8_round wsX8_leastTerms := goodIn_r _ [70, 71, 72, 69, 73] (by decide +kernel) (by decide +kernel)
set_option maxRecDepth 20000 in
theorem gX8_round_X8_leastTerms : GoodIn wsX8_round (va_wsS RX8 143 yX8_leastTerms wsX8_leastTerms) := goodIn_app (goodIn_of _ (by decide +kernel)) ggX8_round_X8_leastTerms
theorem dX8_round_0 : decode cX8_round 0 = .ok (.aload_n 0, 1) := by decide +kernel
theorem dX8_round_1 : decode cX8_round 1 = .ok (.getfield 23, 3) := by decide +kernel
theorem dX8_round_4 : decode cX8_round 4 = .ok (.iload_n 1, 1) := by decide +kernel
theorem dX8_round_5 : decode cX8_round 5 = .ok (.invokevirtual 103, 3) := by decide +kernel
theorem dX8_round_8 : decode cX8_round 8 = .ok (.ifCond .eq 14, 3) := by decide +kernel
theorem dX8_round_11 : decode cX8_round 11 = .ok (.aload_n 0, 1) := by decide +kernel
theorem dX8_round_12 : decode cX8_round 12 = .ok (.getfield 23, 3) := by decide +kernel
theorem dX8_round_15 : decode cX8_round 15 = .ok (.iload_n 2, 1) := by decide +kernel
theorem dX8_round_16 : decode cX8_round 16 = .ok (.invokevirtual 103, 3) := by decide +kernel
theorem dX8_round_19 : decode cX8_round 19 = .ok (.ifCond .ne 7, 3) := by decide +kernel
theorem dX8_round_22 : decode cX8_round 22 = .ok (.ldc2_w 129, 3) := by decide +kernel
theorem dX8_round_25 : decode cX8_round 25 = .ok (.lreturn, 1) := by decide +kernel
theorem dX8_round_26 : decode cX8_round 26 = .ok (.aload_n 0, 1) := by decide +kernel
theorem dX8_round_27 : decode cX8_round 27 = .ok (.getfield 55, 3) := by decide +kernel
theorem dX8_round_30 : decode cX8_round 30 = .ok (.aload_n 0, 1) := by decide +kernel
theorem dX8_round_31 : decode cX8_round 31 = .ok (.getfield 23, 3) := by decide +kernel
theorem dX8_round_34 : decode cX8_round 34 = .ok (.iload_n 1, 1) := by decide +kernel
theorem dX8_round_35 : decode cX8_round 35 = .ok (.iload_n 2, 1) := by decide +kernel
theorem dX8_round_36 : decode cX8_round 36 = .ok (.invokevirtual 170, 3) := by decide +kernel
theorem dX8_round_39 : decode cX8_round 39 = .ok (.ifCond .ne 7, 3) := by decide +kernel
theorem dX8_round_42 : decode cX8_round 42 = .ok (.ldc2_w 174, 3) := by decide +kernel
theorem dX8_round_45 : decode cX8_round 45 = .ok (.lreturn, 1) := by decide +kernel
theorem dX8_round_46 : decode cX8_round 46 = .ok (.aload_n 0, 1) := by decide +kernel
theorem dX8_round_47 : decode cX8_round 47 = .ok (.getfield 55, 3) := by decide +kernel
theorem dX8_round_50 : decode cX8_round 50 = .ok (.getfield 176, 3) := by decide +kernel
theorem dX8_round_53 : decode cX8_round 53 = .ok (.lstore 4, 2) := by decide +kernel
theorem dX8_round_55 : decode cX8_round 55 = .ok (.aload_n 0, 1) := by decide +kernel
theorem dX8_round_56 : decode cX8_round 56 = .ok (.getfield 55, 3) := by decide +kernel
theorem dX8_round_59 : decode cX8_round 59 = .ok (.getfield 180, 3) := by decide +kernel
theorem dX8_round_62 : decode cX8_round 62 = .ok (.lstore 6, 2) := by decide +kernel
theorem dX8_round_64 : decode cX8_round 64 = .ok (.aload_n 0, 1) := by decide +kernel
theorem dX8_round_65 : decode cX8_round 65 = .ok (.getfield 55, 3) := by decide +kernel
theorem dX8_round_68 : decode cX8_round 68 = .ok (.aload_n 0, 1) := by decide +kernel
theorem dX8_round_69 : decode cX8_round 69 = .ok (.getfield 23, 3) := by decide +kernel
theorem dX8_round_72 : decode cX8_round 72 = .ok (.iload_n 2, 1) := by decide +kernel
theorem dX8_round_73 : decode cX8_round 73 = .ok (.iload_n 1, 1) := by decide +kernel
theorem dX8_round_74 : decode cX8_round 74 = .ok (.invokevirtual 170, 3) := by decide +kernel
theorem dX8_round_77 : decode cX8_round 77 = .ok (.ifCond .ne 7, 3) := by decide +kernel
theorem dX8_round_80 : decode cX8_round 80 = .ok (.ldc2_w 174, 3) := by decide +kernel
theorem dX8_round_83 : decode cX8_round 83 = .ok (.lreturn, 1) := by decide +kernel
theorem dX8_round_84 : decode cX8_round 84 = .ok (.lload 4, 2) := by decide +kernel
theorem dX8_round_86 : decode cX8_round 86 = .ok (.aload_n 0, 1) := by decide +kernel
theorem dX8_round_87 : decode cX8_round 87 = .ok (.getfield 55, 3) := by decide +kernel
theorem dX8_round_90 : decode cX8_round 90 = .ok (.getfield 180, 3) := by decide +kernel
theorem dX8_round_93 : decode cX8_round 93 = .ok (.lmul, 1) := by decide +kernel
theorem dX8_round_94 : decode cX8_round 94 = .ok (.aload_n 0, 1) := by decide +kernel
theorem dX8_round_95 : decode cX8_round 95 = .ok (.getfield 55, 3) := by decide +kernel
theorem dX8_round_98 : decode cX8_round 98 = .ok (.getfield 176, 3) := by decide +kernel
theorem dX8_round_101 : decode cX8_round 101 = .ok (.lload 6, 2) := by decide +kernel
theorem dX8_round_103 : decode cX8_round 103 = .ok (.lmul, 1) := by decide +kernel
theorem dX8_round_104 : decode cX8_round 104 = .ok (.ladd, 1) := by decide +kernel
theorem dX8_round_105 : decode cX8_round 105 = .ok (.lload 6, 2) := by decide +kernel
theorem dX8_round_107 : decode cX8_round 107 = .ok (.aload_n 0, 1) := by decide +kernel
theorem dX8_round_108 : decode cX8_round 108 = .ok (.getfield 55, 3) := by decide +kernel
theorem dX8_round_111 : decode cX8_round 111 = .ok (.getfield 180, 3) := by decide +kernel
theorem dX8_round_114 : decode cX8_round 114 = .ok (.lmul, 1) := by decide +kernel
theorem dX8_round_115 : decode cX8_round 115 = .ok (.iload_n 3, 1) := by decide +kernel
theorem dX8_round_116 : decode cX8_round 116 = .ok (.invokestatic 143, 3) := by decide +kernel
theorem dX8_round_119 : decode cX8_round 119 = .ok (.lreturn, 1) := by decide +kernel
set_option maxRecDepth 20000 in
theorem ggX8_meet_X3_has : GoodIn wsX8_meet wsX3_has := goodIn_r _ [10, 11, 79, 80, 81, 82, 83, 84] (by decide +kernel) (by decide +kernel)
set_option maxRecDepth 20000 in
theorem gX8_meet_X3_has : GoodIn wsX8_meet (wsV RX8 103 RX3 yX3_has wsX3_has) := goodIn_app (goodIn_of _ (by decide +kernel)) ggX8_meet_X3_has
set_option maxRecDepth 20000 in
theorem ggX8_meet_X0_meetWeight : GoodIn wsX8_meet wsX0_meetWeight := goodIn_r _ [16, 17, 18, 19, 20, 21, 22, 23, 24, 25, 15, 26, 27, 28, 29, 30, 31, 32, 33, 34, 35, 36, 37, 38, 39, 40, 41, 42, 43, 44, 45, 46, 47, 48, 49, 50, 51, 52, 53, 54, 55, 9, 56, 57, 58, 7, 8, 10, 11, 59, 60, 61, 62, 85, 86, 87, 88, 89, 90, 79, 80, 81, 82, 83, 84] (by decide +kernel) (by decide +kernel)
set_option maxRecDepth 20000 in
theorem gX8_meet_X0_meetWeight : GoodIn wsX8_meet (wsV RX8 183 RX0 yX0_meetWeight wsX0_meetWeight) := goodIn_app (goodIn_of _ (by decide +kernel)) ggX8_meet_X0_meetWeight
set_option maxRecDepth 20000 in
theorem ggX8_meet_X8_power : GoodIn wsX8_meet wsX8_power := goodIn_r _ [22] (by decide +kernel) (by decide +kernel)
set_option maxRecDepth 20000 in
theorem gX8_meet_X8_power : GoodIn wsX8_meet (va_wsS RX8 139 yX8_power wsX8_power) := goodIn_app (goodIn_of _ (by decide +kernel)) ggX8_meet_X8_power
set_option maxRecDepth 20000 in
theorem ggX8_meet_X8_leastTerms : GoodIn wsX8_meet wsX8_leastTerms := goodIn_r _ [66, 67, 68, 21, 69] (by decide +kernel) (by decide +kernel)
set_option maxRecDepth 20000 in
theorem gX8_meet_X8_leastTerms : GoodIn wsX8_meet (va_wsS RX8 143 yX8_leastTerms wsX8_leastTerms) := goodIn_app (goodIn_of _ (by decide +kernel)) ggX8_meet_X8_leastTerms
theorem dX8_meet_0 : decode cX8_meet 0 = .ok (.aload_n 0, 1) := by decide +kernel
theorem dX8_meet_1 : decode cX8_meet 1 = .ok (.getfield 23, 3) := by decide +kernel
theorem dX8_meet_4 : decode cX8_meet 4 = .ok (.iload_n 1, 1) := by decide +kernel
theorem dX8_meet_5 : decode cX8_meet 5 = .ok (.invokevirtual 103, 3) := by decide +kernel
theorem dX8_meet_8 : decode cX8_meet 8 = .ok (.ifCond .eq 14, 3) := by decide +kernel
theorem dX8_meet_11 : decode cX8_meet 11 = .ok (.aload_n 0, 1) := by decide +kernel
theorem dX8_meet_12 : decode cX8_meet 12 = .ok (.getfield 23, 3) := by decide +kernel
theorem dX8_meet_15 : decode cX8_meet 15 = .ok (.iload_n 2, 1) := by decide +kernel
theorem dX8_meet_16 : decode cX8_meet 16 = .ok (.invokevirtual 103, 3) := by decide +kernel
theorem dX8_meet_19 : decode cX8_meet 19 = .ok (.ifCond .ne 7, 3) := by decide +kernel
theorem dX8_meet_22 : decode cX8_meet 22 = .ok (.ldc2_w 129, 3) := by decide +kernel
theorem dX8_meet_25 : decode cX8_meet 25 = .ok (.lreturn, 1) := by decide +kernel
theorem dX8_meet_26 : decode cX8_meet 26 = .ok (.iload_n 3, 1) := by decide +kernel
theorem dX8_meet_27 : decode cX8_meet 27 = .ok (.ifCond .lt 9, 3) := by decide +kernel
theorem dX8_meet_30 : decode cX8_meet 30 = .ok (.iload_n 3, 1) := by decide +kernel
theorem dX8_meet_31 : decode cX8_meet 31 = .ok (.bipush 8, 2) := by decide +kernel
theorem dX8_meet_33 : decode cX8_meet 33 = .ok (.if_icmp .le 7, 3) := by decide +kernel
theorem dX8_meet_36 : decode cX8_meet 36 = .ok (.ldc2_w 131, 3) := by decide +kernel
theorem dX8_meet_39 : decode cX8_meet 39 = .ok (.lreturn, 1) := by decide +kernel
theorem dX8_meet_40 : decode cX8_meet 40 = .ok (.aload_n 0, 1) := by decide +kernel
theorem dX8_meet_41 : decode cX8_meet 41 = .ok (.getfield 48, 3) := by decide +kernel
theorem dX8_meet_44 : decode cX8_meet 44 = .ok (.aload_n 0, 1) := by decide +kernel
theorem dX8_meet_45 : decode cX8_meet 45 = .ok (.getfield 23, 3) := by decide +kernel
theorem dX8_meet_48 : decode cX8_meet 48 = .ok (.iload_n 1, 1) := by decide +kernel
theorem dX8_meet_49 : decode cX8_meet 49 = .ok (.iload_n 2, 1) := by decide +kernel
theorem dX8_meet_50 : decode cX8_meet 50 = .ok (.iload_n 3, 1) := by decide +kernel
theorem dX8_meet_51 : decode cX8_meet 51 = .ok (.invokevirtual 183, 3) := by decide +kernel
theorem dX8_meet_54 : decode cX8_meet 54 = .ok (.ldc2_w 186, 3) := by decide +kernel
theorem dX8_meet_57 : decode cX8_meet 57 = .ok (.iload_n 3, 1) := by decide +kernel
theorem dX8_meet_58 : decode cX8_meet 58 = .ok (.invokestatic 139, 3) := by decide +kernel
theorem dX8_meet_61 : decode cX8_meet 61 = .ok (.iload 4, 2) := by decide +kernel
theorem dX8_meet_63 : decode cX8_meet 63 = .ok (.invokestatic 143, 3) := by decide +kernel
theorem dX8_meet_66 : decode cX8_meet 66 = .ok (.lreturn, 1) := by decide +kernel
set_option maxRecDepth 20000 in
theorem ggX8_penny_X8_power : GoodIn wsX8_penny wsX8_power := goodIn_r _ [5] (by decide +kernel) (by decide +kernel)
set_option maxRecDepth 20000 in
theorem gX8_penny_X8_power : GoodIn wsX8_penny (va_wsS RX8 139 yX8_power wsX8_power) := goodIn_app (goodIn_of _ (by decide +kernel)) ggX8_penny_X8_power
set_option maxRecDepth 20000 in
theorem ggX8_penny_X8_leastTerms : GoodIn wsX8_penny wsX8_leastTerms := goodIn_r _ [8, 9, 10, 4, 11] (by decide +kernel) (by decide +kernel)
set_option maxRecDepth 20000 in
theorem gX8_penny_X8_leastTerms : GoodIn wsX8_penny (va_wsS RX8 143 yX8_leastTerms wsX8_leastTerms) := goodIn_app (goodIn_of _ (by decide +kernel)) ggX8_penny_X8_leastTerms
theorem dX8_penny_0 : decode cX8_penny 0 = .ok (.iload_n 1, 1) := by decide +kernel
theorem dX8_penny_1 : decode cX8_penny 1 = .ok (.iconst 1, 1) := by decide +kernel
theorem dX8_penny_2 : decode cX8_penny 2 = .ok (.if_icmp .lt 29, 3) := by decide +kernel
theorem dX8_penny_5 : decode cX8_penny 5 = .ok (.iload_n 1, 1) := by decide +kernel
theorem dX8_penny_6 : decode cX8_penny 6 = .ok (.bipush 9, 2) := by decide +kernel
theorem dX8_penny_8 : decode cX8_penny 8 = .ok (.if_icmp .gt 23, 3) := by decide +kernel
theorem dX8_penny_11 : decode cX8_penny 11 = .ok (.iload_n 2, 1) := by decide +kernel
theorem dX8_penny_12 : decode cX8_penny 12 = .ok (.ifCond .lt 19, 3) := by decide +kernel
theorem dX8_penny_15 : decode cX8_penny 15 = .ok (.iload_n 2, 1) := by decide +kernel
theorem dX8_penny_16 : decode cX8_penny 16 = .ok (.bipush 8, 2) := by decide +kernel
theorem dX8_penny_18 : decode cX8_penny 18 = .ok (.if_icmp .gt 13, 3) := by decide +kernel
theorem dX8_penny_21 : decode cX8_penny 21 = .ok (.iload_n 3, 1) := by decide +kernel
theorem dX8_penny_22 : decode cX8_penny 22 = .ok (.ifCond .lt 9, 3) := by decide +kernel
theorem dX8_penny_25 : decode cX8_penny 25 = .ok (.iload_n 3, 1) := by decide +kernel
theorem dX8_penny_26 : decode cX8_penny 26 = .ok (.bipush 8, 2) := by decide +kernel
theorem dX8_penny_28 : decode cX8_penny 28 = .ok (.if_icmp .le 7, 3) := by decide +kernel
theorem dX8_penny_31 : decode cX8_penny 31 = .ok (.ldc2_w 131, 3) := by decide +kernel
theorem dX8_penny_34 : decode cX8_penny 34 = .ok (.lreturn, 1) := by decide +kernel
theorem dX8_penny_35 : decode cX8_penny 35 = .ok (.lconst 0, 1) := by decide +kernel
theorem dX8_penny_36 : decode cX8_penny 36 = .ok (.lstore 5, 2) := by decide +kernel
theorem dX8_penny_38 : decode cX8_penny 38 = .ok (.iconst 1, 1) := by decide +kernel
theorem dX8_penny_39 : decode cX8_penny 39 = .ok (.istore 7, 2) := by decide +kernel
theorem dX8_penny_41 : decode cX8_penny 41 = .ok (.iload 7, 2) := by decide +kernel
theorem dX8_penny_43 : decode cX8_penny 43 = .ok (.bipush 10, 2) := by decide +kernel
theorem dX8_penny_45 : decode cX8_penny 45 = .ok (.if_icmp .ge 32, 3) := by decide +kernel
theorem dX8_penny_48 : decode cX8_penny 48 = .ok (.lload 5, 2) := by decide +kernel
theorem dX8_penny_50 : decode cX8_penny 50 = .ok (.iload 7, 2) := by decide +kernel
theorem dX8_penny_52 : decode cX8_penny 52 = .ok (.i2l, 1) := by decide +kernel
theorem dX8_penny_53 : decode cX8_penny 53 = .ok (.iload_n 2, 1) := by decide +kernel
theorem dX8_penny_54 : decode cX8_penny 54 = .ok (.invokestatic 139, 3) := by decide +kernel
theorem dX8_penny_57 : decode cX8_penny 57 = .ok (.bipush 10, 2) := by decide +kernel
theorem dX8_penny_59 : decode cX8_penny 59 = .ok (.iload 7, 2) := by decide +kernel
theorem dX8_penny_61 : decode cX8_penny 61 = .ok (.isub, 1) := by decide +kernel
theorem dX8_penny_62 : decode cX8_penny 62 = .ok (.i2l, 1) := by decide +kernel
theorem dX8_penny_63 : decode cX8_penny 63 = .ok (.iload_n 3, 1) := by decide +kernel
theorem dX8_penny_64 : decode cX8_penny 64 = .ok (.invokestatic 139, 3) := by decide +kernel
theorem dX8_penny_67 : decode cX8_penny 67 = .ok (.lmul, 1) := by decide +kernel
theorem dX8_penny_68 : decode cX8_penny 68 = .ok (.ladd, 1) := by decide +kernel
theorem dX8_penny_69 : decode cX8_penny 69 = .ok (.lstore 5, 2) := by decide +kernel
theorem dX8_penny_71 : decode cX8_penny 71 = .ok (.iinc 7 1, 3) := by decide +kernel
theorem dX8_penny_74 : decode cX8_penny 74 = .ok (.goto (-33), 3) := by decide +kernel
theorem dX8_penny_77 : decode cX8_penny 77 = .ok (.iload_n 1, 1) := by decide +kernel
theorem dX8_penny_78 : decode cX8_penny 78 = .ok (.i2l, 1) := by decide +kernel
theorem dX8_penny_79 : decode cX8_penny 79 = .ok (.iload_n 2, 1) := by decide +kernel
theorem dX8_penny_80 : decode cX8_penny 80 = .ok (.invokestatic 139, 3) := by decide +kernel
theorem dX8_penny_83 : decode cX8_penny 83 = .ok (.bipush 10, 2) := by decide +kernel
theorem dX8_penny_85 : decode cX8_penny 85 = .ok (.iload_n 1, 1) := by decide +kernel
theorem dX8_penny_86 : decode cX8_penny 86 = .ok (.isub, 1) := by decide +kernel
theorem dX8_penny_87 : decode cX8_penny 87 = .ok (.i2l, 1) := by decide +kernel
theorem dX8_penny_88 : decode cX8_penny 88 = .ok (.iload_n 3, 1) := by decide +kernel
theorem dX8_penny_89 : decode cX8_penny 89 = .ok (.invokestatic 139, 3) := by decide +kernel
theorem dX8_penny_92 : decode cX8_penny 92 = .ok (.lmul, 1) := by decide +kernel
theorem dX8_penny_93 : decode cX8_penny 93 = .ok (.lload 5, 2) := by decide +kernel
theorem dX8_penny_95 : decode cX8_penny 95 = .ok (.iload 4, 2) := by decide +kernel
theorem dX8_penny_97 : decode cX8_penny 97 = .ok (.invokestatic 143, 3) := by decide +kernel
theorem dX8_penny_100 : decode cX8_penny 100 = .ok (.lreturn, 1) := by decide +kernel
set_option maxRecDepth 20000 in
theorem ggX8_judge_X8_isNoRow : GoodIn wsX8_judge wsX8_isNoRow := goodIn_r _ [8, 9, 10, 11, 7, 12] (by decide +kernel) (by decide +kernel)
set_option maxRecDepth 20000 in
theorem gX8_judge_X8_isNoRow : GoodIn wsX8_judge (va_wsS RX8 188 yX8_isNoRow wsX8_isNoRow) := goodIn_app (goodIn_of _ (by decide +kernel)) ggX8_judge_X8_isNoRow
set_option maxRecDepth 20000 in
theorem ggX8_judge_X5_firstWrong : GoodIn wsX8_judge wsX5_firstWrong := goodIn_r _ [17, 18, 19, 16, 20, 21, 11, 7, 12, 22, 23, 24, 25, 26, 27, 28, 29, 30, 31, 32, 52, 53, 54, 55, 56, 57] (by decide +kernel) (by decide +kernel)
set_option maxRecDepth 20000 in
theorem gX8_judge_X5_firstWrong : GoodIn wsX8_judge (wsV RX8 192 RX5 yX5_firstWrong wsX5_firstWrong) := goodIn_app (goodIn_of _ (by decide +kernel)) ggX8_judge_X5_firstWrong
theorem dX8_judge_0 : decode cX8_judge 0 = .ok (.iload_n 1, 1) := by decide +kernel
theorem dX8_judge_1 : decode cX8_judge 1 = .ok (.iload_n 2, 1) := by decide +kernel
theorem dX8_judge_2 : decode cX8_judge 2 = .ok (.invokestatic 188, 3) := by decide +kernel
theorem dX8_judge_5 : decode cX8_judge 5 = .ok (.ifCond .eq 6, 3) := by decide +kernel
theorem dX8_judge_8 : decode cX8_judge 8 = .ok (.bipush (-2), 2) := by decide +kernel
theorem dX8_judge_10 : decode cX8_judge 10 = .ok (.ireturn, 1) := by decide +kernel
theorem dX8_judge_11 : decode cX8_judge 11 = .ok (.aload_n 0, 1) := by decide +kernel
theorem dX8_judge_12 : decode cX8_judge 12 = .ok (.getfield 62, 3) := by decide +kernel
theorem dX8_judge_15 : decode cX8_judge 15 = .ok (.aload_n 0, 1) := by decide +kernel
theorem dX8_judge_16 : decode cX8_judge 16 = .ok (.getfield 23, 3) := by decide +kernel
theorem dX8_judge_19 : decode cX8_judge 19 = .ok (.aload_n 0, 1) := by decide +kernel
theorem dX8_judge_20 : decode cX8_judge 20 = .ok (.getfield 37, 3) := by decide +kernel
theorem dX8_judge_23 : decode cX8_judge 23 = .ok (.getfield 111, 3) := by decide +kernel
theorem dX8_judge_26 : decode cX8_judge 26 = .ok (.iload_n 1, 1) := by decide +kernel
theorem dX8_judge_27 : decode cX8_judge 27 = .ok (.iload_n 2, 1) := by decide +kernel
theorem dX8_judge_28 : decode cX8_judge 28 = .ok (.invokevirtual 192, 3) := by decide +kernel
theorem dX8_judge_31 : decode cX8_judge 31 = .ok (.ireturn, 1) := by decide +kernel
set_option maxRecDepth 20000 in
theorem ggX8_likely_X8_isNoRow : GoodIn wsX8_likely wsX8_isNoRow := goodIn_r _ [10, 6, 11, 12, 9, 13] (by decide +kernel) (by decide +kernel)
set_option maxRecDepth 20000 in
theorem gX8_likely_X8_isNoRow : GoodIn wsX8_likely (va_wsS RX8 188 yX8_isNoRow wsX8_isNoRow) := goodIn_app (goodIn_of _ (by decide +kernel)) ggX8_likely_X8_isNoRow
set_option maxRecDepth 20000 in
theorem ggX8_likely_X5_weightOf : GoodIn wsX8_likely wsX5_weightOf := goodIn_r _ [18, 19, 20, 17, 21, 22, 12, 9, 13, 23, 24, 25, 26, 27, 28, 29, 30, 31, 32, 33, 59, 60, 61, 62, 63, 64] (by decide +kernel) (by decide +kernel)
set_option maxRecDepth 20000 in
theorem gX8_likely_X5_weightOf : GoodIn wsX8_likely (wsV RX8 196 RX5 yX5_weightOf wsX5_weightOf) := goodIn_app (goodIn_of _ (by decide +kernel)) ggX8_likely_X5_weightOf
set_option maxRecDepth 20000 in
theorem ggX8_likely_X8_power : GoodIn wsX8_likely wsX8_power := goodIn_r _ [13] (by decide +kernel) (by decide +kernel)
set_option maxRecDepth 20000 in
theorem gX8_likely_X8_power : GoodIn wsX8_likely (va_wsS RX8 139 yX8_power wsX8_power) := goodIn_app (goodIn_of _ (by decide +kernel)) ggX8_likely_X8_power
set_option maxRecDepth 20000 in
theorem ggX8_likely_X8_leastTerms : GoodIn wsX8_likely wsX8_leastTerms := goodIn_r _ [36, 37, 38, 9, 39] (by decide +kernel) (by decide +kernel)
set_option maxRecDepth 20000 in
theorem gX8_likely_X8_leastTerms : GoodIn wsX8_likely (va_wsS RX8 143 yX8_leastTerms wsX8_leastTerms) := goodIn_app (goodIn_of _ (by decide +kernel)) ggX8_likely_X8_leastTerms
theorem dX8_likely_0 : decode cX8_likely 0 = .ok (.iload_n 1, 1) := by decide +kernel
theorem dX8_likely_1 : decode cX8_likely 1 = .ok (.iload_n 2, 1) := by decide +kernel
theorem dX8_likely_2 : decode cX8_likely 2 = .ok (.invokestatic 188, 3) := by decide +kernel
theorem dX8_likely_5 : decode cX8_likely 5 = .ok (.ifCond .eq 7, 3) := by decide +kernel
theorem dX8_likely_8 : decode cX8_likely 8 = .ok (.ldc2_w 131, 3) := by decide +kernel
theorem dX8_likely_11 : decode cX8_likely 11 = .ok (.lreturn, 1) := by decide +kernel
theorem dX8_likely_12 : decode cX8_likely 12 = .ok (.aload_n 0, 1) := by decide +kernel
theorem dX8_likely_13 : decode cX8_likely 13 = .ok (.getfield 62, 3) := by decide +kernel
theorem dX8_likely_16 : decode cX8_likely 16 = .ok (.aload_n 0, 1) := by decide +kernel
theorem dX8_likely_17 : decode cX8_likely 17 = .ok (.getfield 23, 3) := by decide +kernel
theorem dX8_likely_20 : decode cX8_likely 20 = .ok (.aload_n 0, 1) := by decide +kernel
theorem dX8_likely_21 : decode cX8_likely 21 = .ok (.getfield 37, 3) := by decide +kernel
theorem dX8_likely_24 : decode cX8_likely 24 = .ok (.getfield 111, 3) := by decide +kernel
theorem dX8_likely_27 : decode cX8_likely 27 = .ok (.iload_n 1, 1) := by decide +kernel
theorem dX8_likely_28 : decode cX8_likely 28 = .ok (.iload_n 2, 1) := by decide +kernel
theorem dX8_likely_29 : decode cX8_likely 29 = .ok (.invokevirtual 196, 3) := by decide +kernel
theorem dX8_likely_32 : decode cX8_likely 32 = .ok (.ldc2_w 137, 3) := by decide +kernel
theorem dX8_likely_35 : decode cX8_likely 35 = .ok (.iload_n 1, 1) := by decide +kernel
theorem dX8_likely_36 : decode cX8_likely 36 = .ok (.invokestatic 139, 3) := by decide +kernel
theorem dX8_likely_39 : decode cX8_likely 39 = .ok (.iload_n 3, 1) := by decide +kernel
theorem dX8_likely_40 : decode cX8_likely 40 = .ok (.invokestatic 143, 3) := by decide +kernel
theorem dX8_likely_43 : decode cX8_likely 43 = .ok (.lreturn, 1) := by decide +kernel
set_option maxRecDepth 20000 in
theorem ggX8_see_X3_has : GoodIn wsX8_see wsX3_has := goodIn_r _ [8, 9, 37, 38, 39, 40, 41, 42] (by decide +kernel) (by decide +kernel)
set_option maxRecDepth 20000 in
theorem gX8_see_X3_has : GoodIn wsX8_see (wsV RX8 103 RX3 yX3_has wsX3_has) := goodIn_app (goodIn_of _ (by decide +kernel)) ggX8_see_X3_has
set_option maxRecDepth 20000 in
theorem ggX8_see_X4_addSeen : GoodIn wsX8_see wsX4_addSeen := goodIn_r _ [14, 15, 16, 17, 27, 28, 29, 30, 31, 32, 33, 34, 35, 36] (by decide +kernel) (by decide +kernel)
set_option maxRecDepth 20000 in
theorem gX8_see_X4_addSeen : GoodIn wsX8_see (wsV RX8 199 RX4 yX4_addSeen wsX4_addSeen) := goodIn_app (goodIn_of _ (by decide +kernel)) ggX8_see_X4_addSeen
theorem dX8_see_0 : decode cX8_see 0 = .ok (.aload_n 0, 1) := by decide +kernel
theorem dX8_see_1 : decode cX8_see 1 = .ok (.getfield 23, 3) := by decide +kernel
theorem dX8_see_4 : decode cX8_see 4 = .ok (.iload_n 2, 1) := by decide +kernel
theorem dX8_see_5 : decode cX8_see 5 = .ok (.invokevirtual 103, 3) := by decide +kernel
theorem dX8_see_8 : decode cX8_see 8 = .ok (.ifCond .ne 5, 3) := by decide +kernel
theorem dX8_see_11 : decode cX8_see 11 = .ok (.iconst (-1), 1) := by decide +kernel
theorem dX8_see_12 : decode cX8_see 12 = .ok (.ireturn, 1) := by decide +kernel
theorem dX8_see_13 : decode cX8_see 13 = .ok (.iload_n 1, 1) := by decide +kernel
theorem dX8_see_14 : decode cX8_see 14 = .ok (.iconst 1, 1) := by decide +kernel
theorem dX8_see_15 : decode cX8_see 15 = .ok (.if_icmp .lt 9, 3) := by decide +kernel
theorem dX8_see_18 : decode cX8_see 18 = .ok (.iload_n 1, 1) := by decide +kernel
theorem dX8_see_19 : decode cX8_see 19 = .ok (.bipush 9, 2) := by decide +kernel
theorem dX8_see_21 : decode cX8_see 21 = .ok (.if_icmp .le 6, 3) := by decide +kernel
theorem dX8_see_24 : decode cX8_see 24 = .ok (.bipush (-2), 2) := by decide +kernel
theorem dX8_see_26 : decode cX8_see 26 = .ok (.ireturn, 1) := by decide +kernel
theorem dX8_see_27 : decode cX8_see 27 = .ok (.aload_n 0, 1) := by decide +kernel
theorem dX8_see_28 : decode cX8_see 28 = .ok (.getfield 37, 3) := by decide +kernel
theorem dX8_see_31 : decode cX8_see 31 = .ok (.getfield 93, 3) := by decide +kernel
theorem dX8_see_34 : decode cX8_see 34 = .ok (.bipush 8, 2) := by decide +kernel
theorem dX8_see_36 : decode cX8_see 36 = .ok (.if_icmp .lt 6, 3) := by decide +kernel
theorem dX8_see_39 : decode cX8_see 39 = .ok (.bipush (-4), 2) := by decide +kernel
theorem dX8_see_41 : decode cX8_see 41 = .ok (.ireturn, 1) := by decide +kernel
theorem dX8_see_42 : decode cX8_see 42 = .ok (.aload_n 0, 1) := by decide +kernel
theorem dX8_see_43 : decode cX8_see 43 = .ok (.getfield 37, 3) := by decide +kernel
theorem dX8_see_46 : decode cX8_see 46 = .ok (.iload_n 1, 1) := by decide +kernel
theorem dX8_see_47 : decode cX8_see 47 = .ok (.iload_n 2, 1) := by decide +kernel
theorem dX8_see_48 : decode cX8_see 48 = .ok (.invokevirtual 199, 3) := by decide +kernel
theorem dX8_see_51 : decode cX8_see 51 = .ok (.aload_n 0, 1) := by decide +kernel
theorem dX8_see_52 : decode cX8_see 52 = .ok (.getfield 37, 3) := by decide +kernel
theorem dX8_see_55 : decode cX8_see 55 = .ok (.getfield 93, 3) := by decide +kernel
theorem dX8_see_58 : decode cX8_see 58 = .ok (.ireturn, 1) := by decide +kernel
theorem dX8_unsee_0 : decode cX8_unsee 0 = .ok (.aload_n 0, 1) := by decide +kernel
theorem dX8_unsee_1 : decode cX8_unsee 1 = .ok (.getfield 37, 3) := by decide +kernel
theorem dX8_unsee_4 : decode cX8_unsee 4 = .ok (.getfield 93, 3) := by decide +kernel
theorem dX8_unsee_7 : decode cX8_unsee 7 = .ok (.istore_n 1, 1) := by decide +kernel
theorem dX8_unsee_8 : decode cX8_unsee 8 = .ok (.aload_n 0, 1) := by decide +kernel
theorem dX8_unsee_9 : decode cX8_unsee 9 = .ok (.getfield 37, 3) := by decide +kernel
theorem dX8_unsee_12 : decode cX8_unsee 12 = .ok (.iconst 0, 1) := by decide +kernel
theorem dX8_unsee_13 : decode cX8_unsee 13 = .ok (.putfield 93, 3) := by decide +kernel
theorem dX8_unsee_16 : decode cX8_unsee 16 = .ok (.iload_n 1, 1) := by decide +kernel
theorem dX8_unsee_17 : decode cX8_unsee 17 = .ok (.ireturn, 1) := by decide +kernel
set_option maxRecDepth 20000 in
theorem ggX8_ways_X0_waysOf : GoodIn wsX8_ways wsX0_waysOf := goodIn_r _ [8, 9, 10, 11, 12, 13, 14, 15, 16, 7, 17, 18, 19, 20, 21, 22, 23, 24, 25, 26, 27, 28, 29, 30, 31, 32, 33, 34, 35, 36, 37, 38, 39, 40, 41, 42, 43, 44, 45, 46, 47, 48, 49, 50, 51, 52, 53, 54, 55, 56, 57, 58, 59, 60, 70, 71, 72, 73, 74, 75, 76, 77, 78, 79, 80, 81, 82, 83, 84, 85, 86, 87, 88, 89, 90, 91] (by decide +kernel) (by decide +kernel)
set_option maxRecDepth 20000 in
theorem gX8_ways_X0_waysOf : GoodIn wsX8_ways (wsV RX8 202 RX0 yX0_waysOf wsX0_waysOf) := goodIn_app (goodIn_of _ (by decide +kernel)) ggX8_ways_X0_waysOf
theorem dX8_ways_0 : decode cX8_ways 0 = .ok (.iload_n 1, 1) := by decide +kernel
theorem dX8_ways_1 : decode cX8_ways 1 = .ok (.iconst 1, 1) := by decide +kernel
theorem dX8_ways_2 : decode cX8_ways 2 = .ok (.if_icmp .lt 9, 3) := by decide +kernel
theorem dX8_ways_5 : decode cX8_ways 5 = .ok (.iload_n 1, 1) := by decide +kernel
theorem dX8_ways_6 : decode cX8_ways 6 = .ok (.bipush 9, 2) := by decide +kernel
theorem dX8_ways_8 : decode cX8_ways 8 = .ok (.if_icmp .le 6, 3) := by decide +kernel
theorem dX8_ways_11 : decode cX8_ways 11 = .ok (.bipush (-2), 2) := by decide +kernel
theorem dX8_ways_13 : decode cX8_ways 13 = .ok (.ireturn, 1) := by decide +kernel
theorem dX8_ways_14 : decode cX8_ways 14 = .ok (.aload_n 0, 1) := by decide +kernel
theorem dX8_ways_15 : decode cX8_ways 15 = .ok (.getfield 48, 3) := by decide +kernel
theorem dX8_ways_18 : decode cX8_ways 18 = .ok (.aload_n 0, 1) := by decide +kernel
theorem dX8_ways_19 : decode cX8_ways 19 = .ok (.getfield 23, 3) := by decide +kernel
theorem dX8_ways_22 : decode cX8_ways 22 = .ok (.aload_n 0, 1) := by decide +kernel
theorem dX8_ways_23 : decode cX8_ways 23 = .ok (.getfield 37, 3) := by decide +kernel
theorem dX8_ways_26 : decode cX8_ways 26 = .ok (.iload_n 1, 1) := by decide +kernel
theorem dX8_ways_27 : decode cX8_ways 27 = .ok (.invokevirtual 202, 3) := by decide +kernel
theorem dX8_ways_30 : decode cX8_ways 30 = .ok (.ireturn, 1) := by decide +kernel
set_option maxRecDepth 20000 in
theorem ggX8_likeliest_X5_likeliestOf : GoodIn wsX8_likeliest wsX5_likeliestOf := goodIn_r _ [8, 9, 10, 11, 12, 13, 7, 14, 15, 16, 17, 18, 19, 20, 21, 22, 23, 24, 25, 26, 27, 28, 29, 30, 31, 32, 33, 34, 35, 36, 37, 38, 39, 40, 41, 42, 43, 44, 45, 46, 47, 48, 49, 50, 51, 52, 53, 54, 64, 65, 66, 67, 68, 69, 70, 71, 72, 73, 74, 75, 76, 77, 78, 79, 80] (by decide +kernel) (by decide +kernel)
set_option maxRecDepth 20000 in
theorem gX8_likeliest_X5_likeliestOf : GoodIn wsX8_likeliest (wsV RX8 206 RX5 yX5_likeliestOf wsX5_likeliestOf) := goodIn_app (goodIn_of _ (by decide +kernel)) ggX8_likeliest_X5_likeliestOf
theorem dX8_likeliest_0 : decode cX8_likeliest 0 = .ok (.iload_n 1, 1) := by decide +kernel
theorem dX8_likeliest_1 : decode cX8_likeliest 1 = .ok (.iconst 1, 1) := by decide +kernel
theorem dX8_likeliest_2 : decode cX8_likeliest 2 = .ok (.if_icmp .lt 9, 3) := by decide +kernel
theorem dX8_likeliest_5 : decode cX8_likeliest 5 = .ok (.iload_n 1, 1) := by decide +kernel
theorem dX8_likeliest_6 : decode cX8_likeliest 6 = .ok (.bipush 9, 2) := by decide +kernel
theorem dX8_likeliest_8 : decode cX8_likeliest 8 = .ok (.if_icmp .le 6, 3) := by decide +kernel
theorem dX8_likeliest_11 : decode cX8_likeliest 11 = .ok (.bipush (-2), 2) := by decide +kernel
theorem dX8_likeliest_13 : decode cX8_likeliest 13 = .ok (.ireturn, 1) := by decide +kernel
theorem dX8_likeliest_14 : decode cX8_likeliest 14 = .ok (.aload_n 0, 1) := by decide +kernel
theorem dX8_likeliest_15 : decode cX8_likeliest 15 = .ok (.getfield 62, 3) := by decide +kernel
theorem dX8_likeliest_18 : decode cX8_likeliest 18 = .ok (.aload_n 0, 1) := by decide +kernel
theorem dX8_likeliest_19 : decode cX8_likeliest 19 = .ok (.getfield 23, 3) := by decide +kernel
theorem dX8_likeliest_22 : decode cX8_likeliest 22 = .ok (.aload_n 0, 1) := by decide +kernel
theorem dX8_likeliest_23 : decode cX8_likeliest 23 = .ok (.getfield 37, 3) := by decide +kernel
theorem dX8_likeliest_26 : decode cX8_likeliest 26 = .ok (.iload_n 1, 1) := by decide +kernel
theorem dX8_likeliest_27 : decode cX8_likeliest 27 = .ok (.invokevirtual 206, 3) := by decide +kernel
theorem dX8_likeliest_30 : decode cX8_likeliest 30 = .ok (.ireturn, 1) := by decide +kernel
set_option maxRecDepth 20000 in
theorem ggX8_rule_X1_handsByRule : GoodIn wsX8_rule wsX1_handsByRule := goodIn_r _ [9, 10, 11, 12, 13, 8, 14, 15, 16, 17, 18, 19, 20, 21, 22, 23, 24, 25, 26, 27, 28, 29, 30, 31, 51, 52, 53, 54, 55, 56, 57] (by decide +kernel) (by decide +kernel)
set_option maxRecDepth 20000 in
theorem gX8_rule_X1_handsByRule : GoodIn wsX8_rule (wsV RX8 209 RX1 yX1_handsByRule wsX1_handsByRule) := goodIn_app (goodIn_of _ (by decide +kernel)) ggX8_rule_X1_handsByRule
theorem dX8_rule_0 : decode cX8_rule 0 = .ok (.aload_n 0, 1) := by decide +kernel
theorem dX8_rule_1 : decode cX8_rule 1 = .ok (.getfield 69, 3) := by decide +kernel
theorem dX8_rule_4 : decode cX8_rule 4 = .ok (.aload_n 0, 1) := by decide +kernel
theorem dX8_rule_5 : decode cX8_rule 5 = .ok (.getfield 23, 3) := by decide +kernel
theorem dX8_rule_8 : decode cX8_rule 8 = .ok (.aload_n 0, 1) := by decide +kernel
theorem dX8_rule_9 : decode cX8_rule 9 = .ok (.getfield 37, 3) := by decide +kernel
theorem dX8_rule_12 : decode cX8_rule 12 = .ok (.getfield 111, 3) := by decide +kernel
theorem dX8_rule_15 : decode cX8_rule 15 = .ok (.invokevirtual 209, 3) := by decide +kernel
theorem dX8_rule_18 : decode cX8_rule 18 = .ok (.ireturn, 1) := by decide +kernel
theorem dX8_seed_0 : decode cX8_seed 0 = .ok (.aload_n 0, 1) := by decide +kernel
theorem dX8_seed_1 : decode cX8_seed 1 = .ok (.getfield 37, 3) := by decide +kernel
theorem dX8_seed_4 : decode cX8_seed 4 = .ok (.getfield 213, 3) := by decide +kernel
theorem dX8_seed_7 : decode cX8_seed 7 = .ok (.lstore_n 3, 1) := by decide +kernel
theorem dX8_seed_8 : decode cX8_seed 8 = .ok (.aload_n 0, 1) := by decide +kernel
theorem dX8_seed_9 : decode cX8_seed 9 = .ok (.getfield 37, 3) := by decide +kernel
theorem dX8_seed_12 : decode cX8_seed 12 = .ok (.lload_n 1, 1) := by decide +kernel
theorem dX8_seed_13 : decode cX8_seed 13 = .ok (.putfield 213, 3) := by decide +kernel
theorem dX8_seed_16 : decode cX8_seed 16 = .ok (.lload_n 3, 1) := by decide +kernel
theorem dX8_seed_17 : decode cX8_seed 17 = .ok (.lreturn, 1) := by decide +kernel
set_option maxRecDepth 20000 in
theorem ggX8_evening_X1_drawOne : GoodIn wsX8_evening wsX1_drawOne := goodIn_r _ [8, 9, 10, 11, 12, 13, 14, 15, 16, 17, 18, 19, 20, 21, 22, 23, 24, 25, 26, 27, 28, 29, 30, 31, 7, 32, 33, 34, 35, 36, 37, 38, 48, 49, 50, 51, 52, 53, 54, 55, 56, 57, 58, 59, 60, 61, 62, 63] (by decide +kernel) (by decide +kernel)
set_option maxRecDepth 20000 in
theorem gX8_evening_X1_drawOne : GoodIn wsX8_evening (wsV RX8 216 RX1 yX1_drawOne wsX1_drawOne) := goodIn_app (goodIn_of _ (by decide +kernel)) ggX8_evening_X1_drawOne
theorem dX8_evening_0 : decode cX8_evening 0 = .ok (.aload_n 0, 1) := by decide +kernel
theorem dX8_evening_1 : decode cX8_evening 1 = .ok (.getfield 69, 3) := by decide +kernel
theorem dX8_evening_4 : decode cX8_evening 4 = .ok (.aload_n 0, 1) := by decide +kernel
theorem dX8_evening_5 : decode cX8_evening 5 = .ok (.getfield 23, 3) := by decide +kernel
theorem dX8_evening_8 : decode cX8_evening 8 = .ok (.aload_n 0, 1) := by decide +kernel
theorem dX8_evening_9 : decode cX8_evening 9 = .ok (.getfield 37, 3) := by decide +kernel
theorem dX8_evening_12 : decode cX8_evening 12 = .ok (.invokevirtual 216, 3) := by decide +kernel
theorem dX8_evening_15 : decode cX8_evening 15 = .ok (.ireturn, 1) := by decide +kernel
set_option maxRecDepth 20000 in
theorem ggX8_uncle_X3_has : GoodIn wsX8_uncle wsX3_has := goodIn_r _ [8, 9, 49, 50, 51, 52, 53, 54] (by decide +kernel) (by decide +kernel)
set_option maxRecDepth 20000 in
theorem gX8_uncle_X3_has : GoodIn wsX8_uncle (wsV RX8 103 RX3 yX3_has wsX3_has) := goodIn_app (goodIn_of _ (by decide +kernel)) ggX8_uncle_X3_has
set_option maxRecDepth 20000 in
theorem ggX8_uncle_X1_drawOne : GoodIn wsX8_uncle wsX1_drawOne := goodIn_r _ [14, 15, 16, 17, 18, 19, 20, 21, 22, 7, 23, 24, 25, 26, 27, 28, 29, 5, 6, 8, 9, 30, 31, 32, 13, 33, 34, 35, 36, 37, 38, 39, 55, 56, 57, 58, 59, 60, 61, 62, 63, 64, 49, 50, 51, 52, 53, 54] (by decide +kernel) (by decide +kernel)
set_option maxRecDepth 20000 in
theorem gX8_uncle_X1_drawOne : GoodIn wsX8_uncle (wsV RX8 216 RX1 yX1_drawOne wsX1_drawOne) := goodIn_app (goodIn_of _ (by decide +kernel)) ggX8_uncle_X1_drawOne
theorem dX8_uncle_0 : decode cX8_uncle 0 = .ok (.aload_n 0, 1) := by decide +kernel
theorem dX8_uncle_1 : decode cX8_uncle 1 = .ok (.getfield 23, 3) := by decide +kernel
theorem dX8_uncle_4 : decode cX8_uncle 4 = .ok (.iload_n 2, 1) := by decide +kernel
theorem dX8_uncle_5 : decode cX8_uncle 5 = .ok (.invokevirtual 103, 3) := by decide +kernel
theorem dX8_uncle_8 : decode cX8_uncle 8 = .ok (.ifCond .ne 5, 3) := by decide +kernel
theorem dX8_uncle_11 : decode cX8_uncle 11 = .ok (.iconst (-1), 1) := by decide +kernel
theorem dX8_uncle_12 : decode cX8_uncle 12 = .ok (.ireturn, 1) := by decide +kernel
theorem dX8_uncle_13 : decode cX8_uncle 13 = .ok (.iload_n 1, 1) := by decide +kernel
theorem dX8_uncle_14 : decode cX8_uncle 14 = .ok (.iconst 1, 1) := by decide +kernel
theorem dX8_uncle_15 : decode cX8_uncle 15 = .ok (.if_icmp .lt 9, 3) := by decide +kernel
theorem dX8_uncle_18 : decode cX8_uncle 18 = .ok (.iload_n 1, 1) := by decide +kernel
theorem dX8_uncle_19 : decode cX8_uncle 19 = .ok (.bipush 30, 2) := by decide +kernel
theorem dX8_uncle_21 : decode cX8_uncle 21 = .ok (.if_icmp .le 6, 3) := by decide +kernel
theorem dX8_uncle_24 : decode cX8_uncle 24 = .ok (.bipush (-2), 2) := by decide +kernel
theorem dX8_uncle_26 : decode cX8_uncle 26 = .ok (.ireturn, 1) := by decide +kernel
theorem dX8_uncle_27 : decode cX8_uncle 27 = .ok (.iconst 0, 1) := by decide +kernel
theorem dX8_uncle_28 : decode cX8_uncle 28 = .ok (.istore_n 3, 1) := by decide +kernel
theorem dX8_uncle_29 : decode cX8_uncle 29 = .ok (.iconst 0, 1) := by decide +kernel
theorem dX8_uncle_30 : decode cX8_uncle 30 = .ok (.istore 4, 2) := by decide +kernel
theorem dX8_uncle_32 : decode cX8_uncle 32 = .ok (.iload 4, 2) := by decide +kernel
theorem dX8_uncle_34 : decode cX8_uncle 34 = .ok (.iload_n 1, 1) := by decide +kernel
theorem dX8_uncle_35 : decode cX8_uncle 35 = .ok (.if_icmp .ge 45, 3) := by decide +kernel
theorem dX8_uncle_38 : decode cX8_uncle 38 = .ok (.aload_n 0, 1) := by decide +kernel
theorem dX8_uncle_39 : decode cX8_uncle 39 = .ok (.getfield 69, 3) := by decide +kernel
theorem dX8_uncle_42 : decode cX8_uncle 42 = .ok (.aload_n 0, 1) := by decide +kernel
theorem dX8_uncle_43 : decode cX8_uncle 43 = .ok (.getfield 23, 3) := by decide +kernel
theorem dX8_uncle_46 : decode cX8_uncle 46 = .ok (.aload_n 0, 1) := by decide +kernel
theorem dX8_uncle_47 : decode cX8_uncle 47 = .ok (.getfield 37, 3) := by decide +kernel
theorem dX8_uncle_50 : decode cX8_uncle 50 = .ok (.invokevirtual 216, 3) := by decide +kernel
theorem dX8_uncle_53 : decode cX8_uncle 53 = .ok (.istore 5, 2) := by decide +kernel
theorem dX8_uncle_55 : decode cX8_uncle 55 = .ok (.iload 5, 2) := by decide +kernel
theorem dX8_uncle_57 : decode cX8_uncle 57 = .ok (.bipush (-9), 2) := by decide +kernel
theorem dX8_uncle_59 : decode cX8_uncle 59 = .ok (.if_icmp .eq 15, 3) := by decide +kernel
theorem dX8_uncle_62 : decode cX8_uncle 62 = .ok (.iload 5, 2) := by decide +kernel
theorem dX8_uncle_64 : decode cX8_uncle 64 = .ok (.bipush 10, 2) := by decide +kernel
theorem dX8_uncle_66 : decode cX8_uncle 66 = .ok (.irem, 1) := by decide +kernel
theorem dX8_uncle_67 : decode cX8_uncle 67 = .ok (.iload_n 2, 1) := by decide +kernel
theorem dX8_uncle_68 : decode cX8_uncle 68 = .ok (.if_icmp .ne 6, 3) := by decide +kernel
theorem dX8_uncle_71 : decode cX8_uncle 71 = .ok (.iinc 3 1, 3) := by decide +kernel
theorem dX8_uncle_74 : decode cX8_uncle 74 = .ok (.iinc 4 1, 3) := by decide +kernel
theorem dX8_uncle_77 : decode cX8_uncle 77 = .ok (.goto (-45), 3) := by decide +kernel
theorem dX8_uncle_80 : decode cX8_uncle 80 = .ok (.iload_n 3, 1) := by decide +kernel
theorem dX8_uncle_81 : decode cX8_uncle 81 = .ok (.ireturn, 1) := by decide +kernel
set_option maxRecDepth 20000 in
theorem ggX8_keep_X4_copyFrom : GoodIn wsX8_keep wsX4_copyFrom := goodIn_r _ [9, 10, 11, 12, 13, 14, 15, 16, 17, 18, 28, 29, 30, 31, 32, 33, 34, 35, 36, 37] (by decide +kernel) (by decide +kernel)
set_option maxRecDepth 20000 in
theorem gX8_keep_X4_copyFrom : GoodIn wsX8_keep (wsV RX8 220 RX4 yX4_copyFrom wsX4_copyFrom) := goodIn_app (goodIn_of _ (by decide +kernel)) ggX8_keep_X4_copyFrom
theorem dX8_keep_0 : decode cX8_keep 0 = .ok (.iload_n 1, 1) := by decide +kernel
theorem dX8_keep_1 : decode cX8_keep 1 = .ok (.ifCond .lt 8, 3) := by decide +kernel
theorem dX8_keep_4 : decode cX8_keep 4 = .ok (.iload_n 1, 1) := by decide +kernel
theorem dX8_keep_5 : decode cX8_keep 5 = .ok (.iconst 2, 1) := by decide +kernel
theorem dX8_keep_6 : decode cX8_keep 6 = .ok (.if_icmp .lt 5, 3) := by decide +kernel
theorem dX8_keep_9 : decode cX8_keep 9 = .ok (.iconst (-1), 1) := by decide +kernel
theorem dX8_keep_10 : decode cX8_keep 10 = .ok (.ireturn, 1) := by decide +kernel
theorem dX8_keep_11 : decode cX8_keep 11 = .ok (.aload_n 0, 1) := by decide +kernel
theorem dX8_keep_12 : decode cX8_keep 12 = .ok (.getfield 41, 3) := by decide +kernel
theorem dX8_keep_15 : decode cX8_keep 15 = .ok (.iload_n 1, 1) := by decide +kernel
theorem dX8_keep_16 : decode cX8_keep 16 = .ok (.aaload, 1) := by decide +kernel
theorem dX8_keep_17 : decode cX8_keep 17 = .ok (.aload_n 0, 1) := by decide +kernel
theorem dX8_keep_18 : decode cX8_keep 18 = .ok (.getfield 37, 3) := by decide +kernel
theorem dX8_keep_21 : decode cX8_keep 21 = .ok (.invokevirtual 220, 3) := by decide +kernel
theorem dX8_keep_24 : decode cX8_keep 24 = .ok (.aload_n 0, 1) := by decide +kernel
theorem dX8_keep_25 : decode cX8_keep 25 = .ok (.getfield 41, 3) := by decide +kernel
theorem dX8_keep_28 : decode cX8_keep 28 = .ok (.iload_n 1, 1) := by decide +kernel
theorem dX8_keep_29 : decode cX8_keep 29 = .ok (.aaload, 1) := by decide +kernel
theorem dX8_keep_30 : decode cX8_keep 30 = .ok (.iconst 1, 1) := by decide +kernel
theorem dX8_keep_31 : decode cX8_keep 31 = .ok (.putfield 96, 3) := by decide +kernel
theorem dX8_keep_34 : decode cX8_keep 34 = .ok (.aload_n 0, 1) := by decide +kernel
theorem dX8_keep_35 : decode cX8_keep 35 = .ok (.getfield 37, 3) := by decide +kernel
theorem dX8_keep_38 : decode cX8_keep 38 = .ok (.getfield 117, 3) := by decide +kernel
theorem dX8_keep_41 : decode cX8_keep 41 = .ok (.ireturn, 1) := by decide +kernel
set_option maxRecDepth 20000 in
theorem ggX8_again_X4_copyFrom : GoodIn wsX8_again wsX4_copyFrom := goodIn_r _ [9, 10, 11, 12, 13, 14, 15, 16, 17, 18, 28, 29, 30, 31, 32, 33, 34, 35, 36, 37] (by decide +kernel) (by decide +kernel)
set_option maxRecDepth 20000 in
theorem gX8_again_X4_copyFrom : GoodIn wsX8_again (wsV RX8 220 RX4 yX4_copyFrom wsX4_copyFrom) := goodIn_app (goodIn_of _ (by decide +kernel)) ggX8_again_X4_copyFrom
theorem dX8_again_0 : decode cX8_again 0 = .ok (.iload_n 1, 1) := by decide +kernel
theorem dX8_again_1 : decode cX8_again 1 = .ok (.ifCond .lt 8, 3) := by decide +kernel
theorem dX8_again_4 : decode cX8_again 4 = .ok (.iload_n 1, 1) := by decide +kernel
theorem dX8_again_5 : decode cX8_again 5 = .ok (.iconst 2, 1) := by decide +kernel
theorem dX8_again_6 : decode cX8_again 6 = .ok (.if_icmp .lt 5, 3) := by decide +kernel
theorem dX8_again_9 : decode cX8_again 9 = .ok (.iconst (-1), 1) := by decide +kernel
theorem dX8_again_10 : decode cX8_again 10 = .ok (.ireturn, 1) := by decide +kernel
theorem dX8_again_11 : decode cX8_again 11 = .ok (.aload_n 0, 1) := by decide +kernel
theorem dX8_again_12 : decode cX8_again 12 = .ok (.getfield 41, 3) := by decide +kernel
theorem dX8_again_15 : decode cX8_again 15 = .ok (.iload_n 1, 1) := by decide +kernel
theorem dX8_again_16 : decode cX8_again 16 = .ok (.aaload, 1) := by decide +kernel
theorem dX8_again_17 : decode cX8_again 17 = .ok (.getfield 96, 3) := by decide +kernel
theorem dX8_again_20 : decode cX8_again 20 = .ok (.ifCond .ne 6, 3) := by decide +kernel
theorem dX8_again_23 : decode cX8_again 23 = .ok (.bipush (-3), 2) := by decide +kernel
theorem dX8_again_25 : decode cX8_again 25 = .ok (.ireturn, 1) := by decide +kernel
theorem dX8_again_26 : decode cX8_again 26 = .ok (.aload_n 0, 1) := by decide +kernel
theorem dX8_again_27 : decode cX8_again 27 = .ok (.getfield 37, 3) := by decide +kernel
theorem dX8_again_30 : decode cX8_again 30 = .ok (.aload_n 0, 1) := by decide +kernel
theorem dX8_again_31 : decode cX8_again 31 = .ok (.getfield 41, 3) := by decide +kernel
theorem dX8_again_34 : decode cX8_again 34 = .ok (.iload_n 1, 1) := by decide +kernel
theorem dX8_again_35 : decode cX8_again 35 = .ok (.aaload, 1) := by decide +kernel
theorem dX8_again_36 : decode cX8_again 36 = .ok (.invokevirtual 220, 3) := by decide +kernel
theorem dX8_again_39 : decode cX8_again 39 = .ok (.aload_n 0, 1) := by decide +kernel
theorem dX8_again_40 : decode cX8_again 40 = .ok (.getfield 37, 3) := by decide +kernel
theorem dX8_again_43 : decode cX8_again 43 = .ok (.getfield 117, 3) := by decide +kernel
theorem dX8_again_46 : decode cX8_again 46 = .ok (.ireturn, 1) := by decide +kernel
theorem dX8_count_0 : decode cX8_count 0 = .ok (.iload_n 1, 1) := by decide +kernel
theorem dX8_count_1 : decode cX8_count 1 = .ok (.tableswitch 111 0 7 #[47, 55, 63, 71, 79, 87, 95, 103], 47) := by decide +kernel
theorem dX8_count_48 : decode cX8_count 48 = .ok (.aload_n 0, 1) := by decide +kernel
theorem dX8_count_49 : decode cX8_count 49 = .ok (.getfield 10, 3) := by decide +kernel
theorem dX8_count_52 : decode cX8_count 52 = .ok (.getfield 73, 3) := by decide +kernel
theorem dX8_count_55 : decode cX8_count 55 = .ok (.ireturn, 1) := by decide +kernel
theorem dX8_count_56 : decode cX8_count 56 = .ok (.aload_n 0, 1) := by decide +kernel
theorem dX8_count_57 : decode cX8_count 57 = .ok (.getfield 23, 3) := by decide +kernel
theorem dX8_count_60 : decode cX8_count 60 = .ok (.getfield 100, 3) := by decide +kernel
theorem dX8_count_63 : decode cX8_count 63 = .ok (.ireturn, 1) := by decide +kernel
theorem dX8_count_64 : decode cX8_count 64 = .ok (.aload_n 0, 1) := by decide +kernel
theorem dX8_count_65 : decode cX8_count 65 = .ok (.getfield 37, 3) := by decide +kernel
theorem dX8_count_68 : decode cX8_count 68 = .ok (.getfield 111, 3) := by decide +kernel
theorem dX8_count_71 : decode cX8_count 71 = .ok (.ireturn, 1) := by decide +kernel
theorem dX8_count_72 : decode cX8_count 72 = .ok (.aload_n 0, 1) := by decide +kernel
theorem dX8_count_73 : decode cX8_count 73 = .ok (.getfield 37, 3) := by decide +kernel
theorem dX8_count_76 : decode cX8_count 76 = .ok (.getfield 114, 3) := by decide +kernel
theorem dX8_count_79 : decode cX8_count 79 = .ok (.ireturn, 1) := by decide +kernel
theorem dX8_count_80 : decode cX8_count 80 = .ok (.aload_n 0, 1) := by decide +kernel
theorem dX8_count_81 : decode cX8_count 81 = .ok (.getfield 37, 3) := by decide +kernel
theorem dX8_count_84 : decode cX8_count 84 = .ok (.getfield 123, 3) := by decide +kernel
theorem dX8_count_87 : decode cX8_count 87 = .ok (.ireturn, 1) := by decide +kernel
theorem dX8_count_88 : decode cX8_count 88 = .ok (.aload_n 0, 1) := by decide +kernel
theorem dX8_count_89 : decode cX8_count 89 = .ok (.getfield 37, 3) := by decide +kernel
theorem dX8_count_92 : decode cX8_count 92 = .ok (.getfield 117, 3) := by decide +kernel
theorem dX8_count_95 : decode cX8_count 95 = .ok (.ireturn, 1) := by decide +kernel
theorem dX8_count_96 : decode cX8_count 96 = .ok (.aload_n 0, 1) := by decide +kernel
theorem dX8_count_97 : decode cX8_count 97 = .ok (.getfield 37, 3) := by decide +kernel
theorem dX8_count_100 : decode cX8_count 100 = .ok (.getfield 93, 3) := by decide +kernel
theorem dX8_count_103 : decode cX8_count 103 = .ok (.ireturn, 1) := by decide +kernel
theorem dX8_count_104 : decode cX8_count 104 = .ok (.aload_n 0, 1) := by decide +kernel
theorem dX8_count_105 : decode cX8_count 105 = .ok (.getfield 23, 3) := by decide +kernel
theorem dX8_count_108 : decode cX8_count 108 = .ok (.getfield 159, 3) := by decide +kernel
theorem dX8_count_111 : decode cX8_count 111 = .ok (.ireturn, 1) := by decide +kernel
theorem dX8_count_112 : decode cX8_count 112 = .ok (.bipush (-2), 2) := by decide +kernel
theorem dX8_count_114 : decode cX8_count 114 = .ok (.ireturn, 1) := by decide +kernel
set_option maxRecDepth 20000 in
theorem ggX8_isNoRow_X8_power : GoodIn wsX8_isNoRow wsX8_power := goodIn_r _ [5] (by decide +kernel) (by decide +kernel)
set_option maxRecDepth 20000 in
theorem gX8_isNoRow_X8_power : GoodIn wsX8_isNoRow (va_wsS RX8 139 yX8_power wsX8_power) := goodIn_app (goodIn_of _ (by decide +kernel)) ggX8_isNoRow_X8_power
theorem dX8_isNoRow_0 : decode cX8_isNoRow 0 = .ok (.iload_n 0, 1) := by decide +kernel
theorem dX8_isNoRow_1 : decode cX8_isNoRow 1 = .ok (.iconst 1, 1) := by decide +kernel
theorem dX8_isNoRow_2 : decode cX8_isNoRow 2 = .ok (.if_icmp .lt 26, 3) := by decide +kernel
theorem dX8_isNoRow_5 : decode cX8_isNoRow 5 = .ok (.iload_n 0, 1) := by decide +kernel
theorem dX8_isNoRow_6 : decode cX8_isNoRow 6 = .ok (.bipush 9, 2) := by decide +kernel
theorem dX8_isNoRow_8 : decode cX8_isNoRow 8 = .ok (.if_icmp .gt 20, 3) := by decide +kernel
theorem dX8_isNoRow_11 : decode cX8_isNoRow 11 = .ok (.iload_n 1, 1) := by decide +kernel
theorem dX8_isNoRow_12 : decode cX8_isNoRow 12 = .ok (.ifCond .lt 16, 3) := by decide +kernel
theorem dX8_isNoRow_15 : decode cX8_isNoRow 15 = .ok (.iload_n 1, 1) := by decide +kernel
theorem dX8_isNoRow_16 : decode cX8_isNoRow 16 = .ok (.i2l, 1) := by decide +kernel
theorem dX8_isNoRow_17 : decode cX8_isNoRow 17 = .ok (.ldc2_w 137, 3) := by decide +kernel
theorem dX8_isNoRow_20 : decode cX8_isNoRow 20 = .ok (.iload_n 0, 1) := by decide +kernel
theorem dX8_isNoRow_21 : decode cX8_isNoRow 21 = .ok (.invokestatic 139, 3) := by decide +kernel
theorem dX8_isNoRow_24 : decode cX8_isNoRow 24 = .ok (.lcmp, 1) := by decide +kernel
theorem dX8_isNoRow_25 : decode cX8_isNoRow 25 = .ok (.ifCond .lt 7, 3) := by decide +kernel
theorem dX8_isNoRow_28 : decode cX8_isNoRow 28 = .ok (.iconst 1, 1) := by decide +kernel
theorem dX8_isNoRow_29 : decode cX8_isNoRow 29 = .ok (.goto 4, 3) := by decide +kernel
theorem dX8_isNoRow_32 : decode cX8_isNoRow 32 = .ok (.iconst 0, 1) := by decide +kernel
theorem dX8_isNoRow_33 : decode cX8_isNoRow 33 = .ok (.ireturn, 1) := by decide +kernel
set_option maxRecDepth 20000 in
theorem ggX8_ringWeight_X8_power : GoodIn wsX8_ringWeight wsX8_power := goodIn_r _ [7] (by decide +kernel) (by decide +kernel)
set_option maxRecDepth 20000 in
theorem gX8_ringWeight_X8_power : GoodIn wsX8_ringWeight (va_wsS RX8 139 yX8_power wsX8_power) := goodIn_app (goodIn_of _ (by decide +kernel)) ggX8_ringWeight_X8_power
theorem dX8_ringWeight_0 : decode cX8_ringWeight 0 = .ok (.aload_n 0, 1) := by decide +kernel
theorem dX8_ringWeight_1 : decode cX8_ringWeight 1 = .ok (.getfield 23, 3) := by decide +kernel
theorem dX8_ringWeight_4 : decode cX8_ringWeight 4 = .ok (.getfield 162, 3) := by decide +kernel
theorem dX8_ringWeight_7 : decode cX8_ringWeight 7 = .ok (.i2l, 1) := by decide +kernel
theorem dX8_ringWeight_8 : decode cX8_ringWeight 8 = .ok (.iload_n 1, 1) := by decide +kernel
theorem dX8_ringWeight_9 : decode cX8_ringWeight 9 = .ok (.iconst 1, 1) := by decide +kernel
theorem dX8_ringWeight_10 : decode cX8_ringWeight 10 = .ok (.isub, 1) := by decide +kernel
theorem dX8_ringWeight_11 : decode cX8_ringWeight 11 = .ok (.invokestatic 139, 3) := by decide +kernel
theorem dX8_ringWeight_14 : decode cX8_ringWeight 14 = .ok (.bipush 10, 2) := by decide +kernel
theorem dX8_ringWeight_16 : decode cX8_ringWeight 16 = .ok (.aload_n 0, 1) := by decide +kernel
theorem dX8_ringWeight_17 : decode cX8_ringWeight 17 = .ok (.getfield 23, 3) := by decide +kernel
theorem dX8_ringWeight_20 : decode cX8_ringWeight 20 = .ok (.getfield 162, 3) := by decide +kernel
theorem dX8_ringWeight_23 : decode cX8_ringWeight 23 = .ok (.isub, 1) := by decide +kernel
theorem dX8_ringWeight_24 : decode cX8_ringWeight 24 = .ok (.i2l, 1) := by decide +kernel
theorem dX8_ringWeight_25 : decode cX8_ringWeight 25 = .ok (.aload_n 0, 1) := by decide +kernel
theorem dX8_ringWeight_26 : decode cX8_ringWeight 26 = .ok (.getfield 23, 3) := by decide +kernel
theorem dX8_ringWeight_29 : decode cX8_ringWeight 29 = .ok (.getfield 100, 3) := by decide +kernel
theorem dX8_ringWeight_32 : decode cX8_ringWeight 32 = .ok (.iconst 1, 1) := by decide +kernel
theorem dX8_ringWeight_33 : decode cX8_ringWeight 33 = .ok (.isub, 1) := by decide +kernel
theorem dX8_ringWeight_34 : decode cX8_ringWeight 34 = .ok (.iload_n 1, 1) := by decide +kernel
theorem dX8_ringWeight_35 : decode cX8_ringWeight 35 = .ok (.isub, 1) := by decide +kernel
theorem dX8_ringWeight_36 : decode cX8_ringWeight 36 = .ok (.invokestatic 139, 3) := by decide +kernel
theorem dX8_ringWeight_39 : decode cX8_ringWeight 39 = .ok (.lmul, 1) := by decide +kernel
theorem dX8_ringWeight_40 : decode cX8_ringWeight 40 = .ok (.lreturn, 1) := by decide +kernel
theorem dX8_power_0 : decode cX8_power 0 = .ok (.lconst 1, 1) := by decide +kernel
theorem dX8_power_1 : decode cX8_power 1 = .ok (.lstore_n 3, 1) := by decide +kernel
theorem dX8_power_2 : decode cX8_power 2 = .ok (.iconst 0, 1) := by decide +kernel
theorem dX8_power_3 : decode cX8_power 3 = .ok (.istore 5, 2) := by decide +kernel
theorem dX8_power_5 : decode cX8_power 5 = .ok (.iload 5, 2) := by decide +kernel
theorem dX8_power_7 : decode cX8_power 7 = .ok (.iload_n 2, 1) := by decide +kernel
theorem dX8_power_8 : decode cX8_power 8 = .ok (.if_icmp .ge 13, 3) := by decide +kernel
theorem dX8_power_11 : decode cX8_power 11 = .ok (.lload_n 3, 1) := by decide +kernel
theorem dX8_power_12 : decode cX8_power 12 = .ok (.lload_n 0, 1) := by decide +kernel
theorem dX8_power_13 : decode cX8_power 13 = .ok (.lmul, 1) := by decide +kernel
theorem dX8_power_14 : decode cX8_power 14 = .ok (.lstore_n 3, 1) := by decide +kernel
theorem dX8_power_15 : decode cX8_power 15 = .ok (.iinc 5 1, 3) := by decide +kernel
theorem dX8_power_18 : decode cX8_power 18 = .ok (.goto (-13), 3) := by decide +kernel
theorem dX8_power_21 : decode cX8_power 21 = .ok (.lload_n 3, 1) := by decide +kernel
theorem dX8_power_22 : decode cX8_power 22 = .ok (.lreturn, 1) := by decide +kernel
set_option maxRecDepth 20000 in
theorem ggX8_leastTerms_X8_sharedDivisor : GoodIn wsX8_leastTerms wsX8_sharedDivisor := goodIn_r _ [4] (by decide +kernel) (by decide +kernel)
