theorem inlX4 : ∀ w ∈ wsX40, w ∈ wsL_law := fun _ h => List.mem_append_left _ (List.mem_append_left _ (List.mem_append_left _ (List.mem_append_left _ (List.mem_append_left _ (List.mem_append_left _ (List.mem_append_right _ h))))))
theorem inlX5 : ∀ w ∈ wsX50, w ∈ wsL_law := fun _ h => List.mem_append_left _ (List.mem_append_left _ (List.mem_append_left _ (List.mem_append_right _ h)))
theorem inlX6 : ∀ w ∈ wsX60, w ∈ wsL_law := fun _ h => List.mem_append_left _ (List.mem_append_right _ h)
theorem inlX7 : ∀ w ∈ wsX70, w ∈ wsL_law := fun _ h => List.mem_append_left _ (List.mem_append_left _ (List.mem_append_left _ (List.mem_append_left _ (List.mem_append_left _ (List.mem_append_left _ (List.mem_append_left _ (List.mem_append_left _ (List.mem_append_right _ h))))))))
theorem inlX8 : ∀ w ∈ wsX80, w ∈ wsL_law := fun _ h => List.mem_append_left _ (List.mem_append_left _ (List.mem_append_left _ (List.mem_append_left _ (List.mem_append_left _ (List.mem_append_left _ (List.mem_append_left _ (List.mem_append_left _ (List.mem_append_left _ (List.mem_append_left _ (List.mem_append_right _ h))))))))))
theorem inlX9 : ∀ w ∈ wsX90, w ∈ wsL_law := fun _ h => List.mem_append_left _ (List.mem_append_left _ (List.mem_append_left _ (List.mem_append_left _ (List.mem_append_left _ (List.mem_append_left _ (List.mem_append_left _ (List.mem_append_left _ (List.mem_append_left _ (List.mem_append_right _ h)))))))))
theorem inJ9 : ∀ w ∈ wsJ90, w ∈ lw_tbl := by decide +kernel
set_option maxRecDepth 20000 in
theorem ggX0_init_X6_init : GoodIn wsX0_init wsX6_init := goodIn_r _ [12, 13, 2, 3, 4, 14, 15, 16, 20, 21, 22] (by decide +kernel) (by decide +kernel)
set_option maxRecDepth 20000 in
theorem gX0_init_X6_init_n17 : GoodIn wsX0_init (wsX6_init) := ggX0_init_X6_init
theorem dX0_init_0 : decode cX0_init 0 = .ok (.aload_n 0, 1) := by decide +kernel
theorem dX0_init_1 : decode cX0_init 1 = .ok (.invokespecial 3, 3) := by decide +kernel
theorem dX0_init_4 : decode cX0_init 4 = .ok (.aload_n 0, 1) := by decide +kernel
theorem dX0_init_5 : decode cX0_init 5 = .ok (.bipush 8, 2) := by decide +kernel
theorem dX0_init_7 : decode cX0_init 7 = .ok (.newarray .long, 2) := by decide +kernel
theorem dX0_init_9 : decode cX0_init 9 = .ok (.putfield 9, 3) := by decide +kernel
theorem dX0_init_12 : decode cX0_init 12 = .ok (.aload_n 0, 1) := by decide +kernel
theorem dX0_init_13 : decode cX0_init 13 = .ok (.new 15, 3) := by decide +kernel
theorem dX0_init_16 : decode cX0_init 16 = .ok (.dup, 1) := by decide +kernel
theorem dX0_init_17 : decode cX0_init 17 = .ok (.invokespecial 17, 3) := by decide +kernel
theorem dX0_init_20 : decode cX0_init 20 = .ok (.putfield 18, 3) := by decide +kernel
theorem dX0_init_23 : decode cX0_init 23 = .ok (.aload_n 0, 1) := by decide +kernel
theorem dX0_init_24 : decode cX0_init 24 = .ok (.new 15, 3) := by decide +kernel
theorem dX0_init_27 : decode cX0_init 27 = .ok (.dup, 1) := by decide +kernel
theorem dX0_init_28 : decode cX0_init 28 = .ok (.invokespecial 17, 3) := by decide +kernel
theorem dX0_init_31 : decode cX0_init 31 = .ok (.putfield 22, 3) := by decide +kernel
theorem dX0_init_34 : decode cX0_init 34 = .ok (.return_, 1) := by decide +kernel
set_option maxRecDepth 20000 in
theorem ggX0_startWith_X6_clear : GoodIn wsX0_startWith wsX6_clear := goodIn_r _ [6, 7, 8, 9, 17, 18, 19] (by decide +kernel) (by decide +kernel)
set_option maxRecDepth 20000 in
theorem gX0_startWith_X6_clear : GoodIn wsX0_startWith (wsV RX0 25 RX6 yX6_clear wsX6_clear) := goodIn_app (goodIn_of _ (by decide +kernel)) ggX0_startWith_X6_clear
set_option maxRecDepth 20000 in
theorem ggX0_startWith_X6_add : GoodIn wsX0_startWith wsX6_add := goodIn_r _ [13, 9, 7, 8, 17, 18, 19] (by decide +kernel) (by decide +kernel)
set_option maxRecDepth 20000 in
theorem gX0_startWith_X6_add : GoodIn wsX0_startWith (wsV RX0 28 RX6 yX6_add wsX6_add) := goodIn_app (goodIn_of _ (by decide +kernel)) ggX0_startWith_X6_add
theorem dX0_startWith_0 : decode cX0_startWith 0 = .ok (.aload_n 0, 1) := by decide +kernel
theorem dX0_startWith_1 : decode cX0_startWith 1 = .ok (.getfield 18, 3) := by decide +kernel
theorem dX0_startWith_4 : decode cX0_startWith 4 = .ok (.invokevirtual 25, 3) := by decide +kernel
theorem dX0_startWith_7 : decode cX0_startWith 7 = .ok (.aload_n 0, 1) := by decide +kernel
theorem dX0_startWith_8 : decode cX0_startWith 8 = .ok (.getfield 18, 3) := by decide +kernel
theorem dX0_startWith_11 : decode cX0_startWith 11 = .ok (.iload_n 1, 1) := by decide +kernel
theorem dX0_startWith_12 : decode cX0_startWith 12 = .ok (.lconst 1, 1) := by decide +kernel
theorem dX0_startWith_13 : decode cX0_startWith 13 = .ok (.invokevirtual 28, 3) := by decide +kernel
theorem dX0_startWith_16 : decode cX0_startWith 16 = .ok (.return_, 1) := by decide +kernel
set_option maxRecDepth 20000 in
theorem ggX0_stepOn_X6_clear : GoodIn wsX0_stepOn wsX6_clear := goodIn_r _ [7, 8, 9, 10, 14, 15, 16] (by decide +kernel) (by decide +kernel)
set_option maxRecDepth 20000 in
theorem gX0_stepOn_X6_clear : GoodIn wsX0_stepOn (wsV RX0 25 RX6 yX6_clear wsX6_clear) := goodIn_app (goodIn_of _ (by decide +kernel)) ggX0_stepOn_X6_clear
theorem dX0_stepOn_0 : decode cX0_stepOn 0 = .ok (.aload_n 0, 1) := by decide +kernel
theorem dX0_stepOn_1 : decode cX0_stepOn 1 = .ok (.getfield 18, 3) := by decide +kernel
theorem dX0_stepOn_4 : decode cX0_stepOn 4 = .ok (.astore_n 1, 1) := by decide +kernel
theorem dX0_stepOn_5 : decode cX0_stepOn 5 = .ok (.aload_n 0, 1) := by decide +kernel
theorem dX0_stepOn_6 : decode cX0_stepOn 6 = .ok (.aload_n 0, 1) := by decide +kernel
theorem dX0_stepOn_7 : decode cX0_stepOn 7 = .ok (.getfield 22, 3) := by decide +kernel
theorem dX0_stepOn_10 : decode cX0_stepOn 10 = .ok (.putfield 18, 3) := by decide +kernel
theorem dX0_stepOn_13 : decode cX0_stepOn 13 = .ok (.aload_n 0, 1) := by decide +kernel
theorem dX0_stepOn_14 : decode cX0_stepOn 14 = .ok (.aload_n 1, 1) := by decide +kernel
theorem dX0_stepOn_15 : decode cX0_stepOn 15 = .ok (.putfield 22, 3) := by decide +kernel
theorem dX0_stepOn_18 : decode cX0_stepOn 18 = .ok (.aload_n 0, 1) := by decide +kernel
theorem dX0_stepOn_19 : decode cX0_stepOn 19 = .ok (.getfield 22, 3) := by decide +kernel
theorem dX0_stepOn_22 : decode cX0_stepOn 22 = .ok (.invokevirtual 25, 3) := by decide +kernel
theorem dX0_stepOn_25 : decode cX0_stepOn 25 = .ok (.return_, 1) := by decide +kernel
set_option maxRecDepth 20000 in
theorem ggX0_weightAt_X0_startWith : GoodIn wsX0_weightAt wsX0_startWith := goodIn_r _ [9, 1, 10, 11, 12, 13, 14, 15, 16, 17, 18, 19, 20, 21, 45, 46, 47, 48, 49, 50] (by decide +kernel) (by decide +kernel)
set_option maxRecDepth 20000 in
theorem gX0_weightAt_X0_startWith : GoodIn wsX0_weightAt (wsV RX0 32 RX0 yX0_startWith wsX0_startWith) := goodIn_app (goodIn_of _ (by decide +kernel)) ggX0_weightAt_X0_startWith
set_option maxRecDepth 20000 in
theorem ggX0_weightAt_X6_stateAt : GoodIn wsX0_weightAt wsX6_stateAt := goodIn_r _ [25, 15, 16, 48, 49, 50] (by decide +kernel) (by decide +kernel)
set_option maxRecDepth 20000 in
theorem gX0_weightAt_X6_stateAt : GoodIn wsX0_weightAt (wsV RX0 40 RX6 yX6_stateAt wsX6_stateAt) := goodIn_app (goodIn_of _ (by decide +kernel)) ggX0_weightAt_X6_stateAt
set_option maxRecDepth 20000 in
theorem ggX0_weightAt_X6_weightOf : GoodIn wsX0_weightAt wsX6_weightOf := goodIn_r _ [29, 17, 48, 49, 50] (by decide +kernel) (by decide +kernel)
set_option maxRecDepth 20000 in
theorem gX0_weightAt_X6_weightOf : GoodIn wsX0_weightAt (wsV RX0 44 RX6 yX6_weightOf wsX6_weightOf) := goodIn_app (goodIn_of _ (by decide +kernel)) ggX0_weightAt_X6_weightOf
set_option maxRecDepth 20000 in
theorem ggX0_weightAt_X3_tenthsOf : GoodIn wsX0_weightAt wsX3_tenthsOf := goodIn_r _ [34, 35, 36, 37, 38, 33, 39, 40, 51, 52, 53, 54, 55, 56] (by decide +kernel) (by decide +kernel)
set_option maxRecDepth 20000 in
theorem gX0_weightAt_X3_tenthsOf : GoodIn wsX0_weightAt (wsV RX0 53 RX3 yX3_tenthsOf wsX3_tenthsOf) := goodIn_app (goodIn_of _ (by decide +kernel)) ggX0_weightAt_X3_tenthsOf
set_option maxRecDepth 20000 in
theorem ggX0_weightAt_X6_add : GoodIn wsX0_weightAt wsX6_add := goodIn_r _ [21, 17, 15, 16, 48, 49, 50] (by decide +kernel) (by decide +kernel)
set_option maxRecDepth 20000 in
theorem gX0_weightAt_X6_add : GoodIn wsX0_weightAt (wsV RX0 28 RX6 yX6_add wsX6_add) := goodIn_app (goodIn_of _ (by decide +kernel)) ggX0_weightAt_X6_add
set_option maxRecDepth 20000 in
theorem ggX0_weightAt_X0_stepOn : GoodIn wsX0_weightAt wsX0_stepOn := goodIn_r _ [44, 1, 4, 10, 11, 12, 13, 14, 15, 16, 17, 45, 46, 47, 48, 49, 50] (by decide +kernel) (by decide +kernel)
set_option maxRecDepth 20000 in
theorem gX0_weightAt_X0_stepOn : GoodIn wsX0_weightAt (wsV RX0 57 RX0 yX0_stepOn wsX0_stepOn) := goodIn_app (goodIn_of _ (by decide +kernel)) ggX0_weightAt_X0_stepOn
theorem dX0_weightAt_0 : decode cX0_weightAt 0 = .ok (.aload_n 0, 1) := by decide +kernel
theorem dX0_weightAt_1 : decode cX0_weightAt 1 = .ok (.iload_n 2, 1) := by decide +kernel
theorem dX0_weightAt_2 : decode cX0_weightAt 2 = .ok (.invokevirtual 32, 3) := by decide +kernel
theorem dX0_weightAt_5 : decode cX0_weightAt 5 = .ok (.iconst 0, 1) := by decide +kernel
theorem dX0_weightAt_6 : decode cX0_weightAt 6 = .ok (.istore 5, 2) := by decide +kernel
theorem dX0_weightAt_8 : decode cX0_weightAt 8 = .ok (.iload 5, 2) := by decide +kernel
theorem dX0_weightAt_10 : decode cX0_weightAt 10 = .ok (.iload_n 3, 1) := by decide +kernel
theorem dX0_weightAt_11 : decode cX0_weightAt 11 = .ok (.if_icmp .ge 99, 3) := by decide +kernel
theorem dX0_weightAt_14 : decode cX0_weightAt 14 = .ok (.aload_n 0, 1) := by decide +kernel
theorem dX0_weightAt_15 : decode cX0_weightAt 15 = .ok (.getfield 18, 3) := by decide +kernel
theorem dX0_weightAt_18 : decode cX0_weightAt 18 = .ok (.getfield 36, 3) := by decide +kernel
theorem dX0_weightAt_21 : decode cX0_weightAt 21 = .ok (.istore 6, 2) := by decide +kernel
theorem dX0_weightAt_23 : decode cX0_weightAt 23 = .ok (.iconst 0, 1) := by decide +kernel
theorem dX0_weightAt_24 : decode cX0_weightAt 24 = .ok (.istore 7, 2) := by decide +kernel
theorem dX0_weightAt_26 : decode cX0_weightAt 26 = .ok (.iload 7, 2) := by decide +kernel
theorem dX0_weightAt_28 : decode cX0_weightAt 28 = .ok (.iload 6, 2) := by decide +kernel
theorem dX0_weightAt_30 : decode cX0_weightAt 30 = .ok (.if_icmp .ge 70, 3) := by decide +kernel
theorem dX0_weightAt_33 : decode cX0_weightAt 33 = .ok (.aload_n 0, 1) := by decide +kernel
theorem dX0_weightAt_34 : decode cX0_weightAt 34 = .ok (.getfield 18, 3) := by decide +kernel
theorem dX0_weightAt_37 : decode cX0_weightAt 37 = .ok (.iload 7, 2) := by decide +kernel
theorem dX0_weightAt_39 : decode cX0_weightAt 39 = .ok (.invokevirtual 40, 3) := by decide +kernel
theorem dX0_weightAt_42 : decode cX0_weightAt 42 = .ok (.istore 8, 2) := by decide +kernel
theorem dX0_weightAt_44 : decode cX0_weightAt 44 = .ok (.aload_n 0, 1) := by decide +kernel
theorem dX0_weightAt_45 : decode cX0_weightAt 45 = .ok (.getfield 18, 3) := by decide +kernel
theorem dX0_weightAt_48 : decode cX0_weightAt 48 = .ok (.iload 8, 2) := by decide +kernel
theorem dX0_weightAt_50 : decode cX0_weightAt 50 = .ok (.invokevirtual 44, 3) := by decide +kernel
theorem dX0_weightAt_53 : decode cX0_weightAt 53 = .ok (.lstore 9, 2) := by decide +kernel
theorem dX0_weightAt_55 : decode cX0_weightAt 55 = .ok (.iconst 0, 1) := by decide +kernel
theorem dX0_weightAt_56 : decode cX0_weightAt 56 = .ok (.istore 11, 2) := by decide +kernel
theorem dX0_weightAt_58 : decode cX0_weightAt 58 = .ok (.iload 11, 2) := by decide +kernel
theorem dX0_weightAt_60 : decode cX0_weightAt 60 = .ok (.aload_n 1, 1) := by decide +kernel
theorem dX0_weightAt_61 : decode cX0_weightAt 61 = .ok (.getfield 48, 3) := by decide +kernel
theorem dX0_weightAt_64 : decode cX0_weightAt 64 = .ok (.if_icmp .ge 30, 3) := by decide +kernel
theorem dX0_weightAt_67 : decode cX0_weightAt 67 = .ok (.aload_n 0, 1) := by decide +kernel
theorem dX0_weightAt_68 : decode cX0_weightAt 68 = .ok (.getfield 22, 3) := by decide +kernel
theorem dX0_weightAt_71 : decode cX0_weightAt 71 = .ok (.iload 11, 2) := by decide +kernel
theorem dX0_weightAt_73 : decode cX0_weightAt 73 = .ok (.lload 9, 2) := by decide +kernel
theorem dX0_weightAt_75 : decode cX0_weightAt 75 = .ok (.aload_n 1, 1) := by decide +kernel
theorem dX0_weightAt_76 : decode cX0_weightAt 76 = .ok (.iload 8, 2) := by decide +kernel
theorem dX0_weightAt_78 : decode cX0_weightAt 78 = .ok (.iload 11, 2) := by decide +kernel
theorem dX0_weightAt_80 : decode cX0_weightAt 80 = .ok (.invokevirtual 53, 3) := by decide +kernel
theorem dX0_weightAt_83 : decode cX0_weightAt 83 = .ok (.i2l, 1) := by decide +kernel
theorem dX0_weightAt_84 : decode cX0_weightAt 84 = .ok (.lmul, 1) := by decide +kernel
theorem dX0_weightAt_85 : decode cX0_weightAt 85 = .ok (.invokevirtual 28, 3) := by decide +kernel
theorem dX0_weightAt_88 : decode cX0_weightAt 88 = .ok (.iinc 11 1, 3) := by decide +kernel
theorem dX0_weightAt_91 : decode cX0_weightAt 91 = .ok (.goto (-33), 3) := by decide +kernel
theorem dX0_weightAt_94 : decode cX0_weightAt 94 = .ok (.iinc 7 1, 3) := by decide +kernel
theorem dX0_weightAt_97 : decode cX0_weightAt 97 = .ok (.goto (-71), 3) := by decide +kernel
theorem dX0_weightAt_100 : decode cX0_weightAt 100 = .ok (.aload_n 0, 1) := by decide +kernel
theorem dX0_weightAt_101 : decode cX0_weightAt 101 = .ok (.invokevirtual 57, 3) := by decide +kernel
theorem dX0_weightAt_104 : decode cX0_weightAt 104 = .ok (.iinc 5 1, 3) := by decide +kernel
theorem dX0_weightAt_107 : decode cX0_weightAt 107 = .ok (.goto (-99), 3) := by decide +kernel
theorem dX0_weightAt_110 : decode cX0_weightAt 110 = .ok (.aload_n 0, 1) := by decide +kernel
theorem dX0_weightAt_111 : decode cX0_weightAt 111 = .ok (.getfield 18, 3) := by decide +kernel
theorem dX0_weightAt_114 : decode cX0_weightAt 114 = .ok (.iload 4, 2) := by decide +kernel
theorem dX0_weightAt_116 : decode cX0_weightAt 116 = .ok (.invokevirtual 44, 3) := by decide +kernel
theorem dX0_weightAt_119 : decode cX0_weightAt 119 = .ok (.lreturn, 1) := by decide +kernel
theorem dX0_lastWeight_0 : decode cX0_lastWeight 0 = .ok (.iload_n 1, 1) := by decide +kernel
theorem dX0_lastWeight_1 : decode cX0_lastWeight 1 = .ok (.ifCond .lt 18, 3) := by decide +kernel
theorem dX0_lastWeight_4 : decode cX0_lastWeight 4 = .ok (.iload_n 1, 1) := by decide +kernel
theorem dX0_lastWeight_5 : decode cX0_lastWeight 5 = .ok (.bipush 8, 2) := by decide +kernel
theorem dX0_lastWeight_7 : decode cX0_lastWeight 7 = .ok (.if_icmp .ge 12, 3) := by decide +kernel
theorem dX0_lastWeight_10 : decode cX0_lastWeight 10 = .ok (.aload_n 0, 1) := by decide +kernel
theorem dX0_lastWeight_11 : decode cX0_lastWeight 11 = .ok (.getfield 9, 3) := by decide +kernel
theorem dX0_lastWeight_14 : decode cX0_lastWeight 14 = .ok (.iload_n 1, 1) := by decide +kernel
theorem dX0_lastWeight_15 : decode cX0_lastWeight 15 = .ok (.laload, 1) := by decide +kernel
theorem dX0_lastWeight_16 : decode cX0_lastWeight 16 = .ok (.goto 4, 3) := by decide +kernel
theorem dX0_lastWeight_19 : decode cX0_lastWeight 19 = .ok (.lconst 0, 1) := by decide +kernel
theorem dX0_lastWeight_20 : decode cX0_lastWeight 20 = .ok (.lreturn, 1) := by decide +kernel
set_option maxRecDepth 20000 in
theorem ggX0_weighLast_X3_allBits : GoodIn wsX0_weighLast wsX3_allBits := goodIn_r _ [9, 10, 64, 65, 66, 67, 68, 69] (by decide +kernel) (by decide +kernel)
set_option maxRecDepth 20000 in
theorem gX0_weighLast_X3_allBits : GoodIn wsX0_weighLast (wsV RX0 60 RX3 yX3_allBits wsX3_allBits) := goodIn_app (goodIn_of _ (by decide +kernel)) ggX0_weighLast_X3_allBits
set_option maxRecDepth 20000 in
theorem ggX0_weighLast_X0_startWith : GoodIn wsX0_weighLast wsX0_startWith := goodIn_r _ [15, 3, 16, 17, 18, 19, 20, 21, 22, 23, 24, 25, 26, 27, 58, 59, 60, 61, 62, 63] (by decide +kernel) (by decide +kernel)
set_option maxRecDepth 20000 in
theorem gX0_weighLast_X0_startWith : GoodIn wsX0_weighLast (wsV RX0 32 RX0 yX0_startWith wsX0_startWith) := goodIn_app (goodIn_of _ (by decide +kernel)) ggX0_weighLast_X0_startWith
set_option maxRecDepth 20000 in
theorem ggX0_weighLast_X8_power : GoodIn wsX0_weighLast wsX8_power := goodIn_r _ [30] (by decide +kernel) (by decide +kernel)
set_option maxRecDepth 20000 in
theorem gX0_weighLast_X8_power_n66 : GoodIn wsX0_weighLast (wsX8_power) := ggX0_weighLast_X8_power
set_option maxRecDepth 20000 in
theorem ggX0_weighLast_X6_stateAt : GoodIn wsX0_weighLast wsX6_stateAt := goodIn_r _ [34, 21, 22, 61, 62, 63] (by decide +kernel) (by decide +kernel)
set_option maxRecDepth 20000 in
theorem gX0_weighLast_X6_stateAt : GoodIn wsX0_weighLast (wsV RX0 40 RX6 yX6_stateAt wsX6_stateAt) := goodIn_app (goodIn_of _ (by decide +kernel)) ggX0_weighLast_X6_stateAt
set_option maxRecDepth 20000 in
theorem ggX0_weighLast_X0_handOn : GoodIn wsX0_weighLast wsX0_handOn := goodIn_r _ [38, 3, 39, 1, 40, 41, 42, 43, 19, 44, 23, 45, 46, 47, 8, 48, 49, 50, 51, 52, 53, 10, 5, 6, 7, 9, 24, 25, 26, 27, 21, 22, 58, 59, 60, 64, 65, 66, 67, 68, 69, 61, 62, 63] (by decide +kernel) (by decide +kernel)
set_option maxRecDepth 20000 in
theorem gX0_weighLast_X0_handOn : GoodIn wsX0_weighLast (wsV RX0 70 RX0 yX0_handOn wsX0_handOn) := goodIn_app (goodIn_of _ (by decide +kernel)) ggX0_weighLast_X0_handOn
set_option maxRecDepth 20000 in
theorem ggX0_weighLast_X0_stepOn : GoodIn wsX0_weighLast wsX0_stepOn := goodIn_r _ [57, 3, 40, 16, 17, 18, 19, 20, 21, 22, 23, 58, 59, 60, 61, 62, 63] (by decide +kernel) (by decide +kernel)
set_option maxRecDepth 20000 in
theorem gX0_weighLast_X0_stepOn : GoodIn wsX0_weighLast (wsV RX0 57 RX0 yX0_stepOn wsX0_stepOn) := goodIn_app (goodIn_of _ (by decide +kernel)) ggX0_weighLast_X0_stepOn
theorem dX0_weighLast_0 : decode cX0_weighLast 0 = .ok (.iconst 0, 1) := by decide +kernel
theorem dX0_weighLast_1 : decode cX0_weighLast 1 = .ok (.istore 5, 2) := by decide +kernel
theorem dX0_weighLast_3 : decode cX0_weighLast 3 = .ok (.iload 5, 2) := by decide +kernel
theorem dX0_weighLast_5 : decode cX0_weighLast 5 = .ok (.bipush 8, 2) := by decide +kernel
theorem dX0_weighLast_7 : decode cX0_weighLast 7 = .ok (.if_icmp .ge 17, 3) := by decide +kernel
theorem dX0_weighLast_10 : decode cX0_weighLast 10 = .ok (.aload_n 0, 1) := by decide +kernel
theorem dX0_weighLast_11 : decode cX0_weighLast 11 = .ok (.getfield 9, 3) := by decide +kernel
theorem dX0_weighLast_14 : decode cX0_weighLast 14 = .ok (.iload 5, 2) := by decide +kernel
theorem dX0_weighLast_16 : decode cX0_weighLast 16 = .ok (.lconst 0, 1) := by decide +kernel
theorem dX0_weighLast_17 : decode cX0_weighLast 17 = .ok (.lastore, 1) := by decide +kernel
theorem dX0_weighLast_18 : decode cX0_weighLast 18 = .ok (.iinc 5 1, 3) := by decide +kernel
theorem dX0_weighLast_21 : decode cX0_weighLast 21 = .ok (.goto (-18), 3) := by decide +kernel
theorem dX0_weighLast_24 : decode cX0_weighLast 24 = .ok (.iload_n 3, 1) := by decide +kernel
theorem dX0_weighLast_25 : decode cX0_weighLast 25 = .ok (.aload_n 1, 1) := by decide +kernel
theorem dX0_weighLast_26 : decode cX0_weighLast 26 = .ok (.invokevirtual 60, 3) := by decide +kernel
theorem dX0_weighLast_29 : decode cX0_weighLast 29 = .ok (.if_icmp .ne 4, 3) := by decide +kernel
theorem dX0_weighLast_32 : decode cX0_weighLast 32 = .ok (.return_, 1) := by decide +kernel
theorem dX0_weighLast_33 : decode cX0_weighLast 33 = .ok (.aload_n 0, 1) := by decide +kernel
theorem dX0_weighLast_34 : decode cX0_weighLast 34 = .ok (.iload_n 3, 1) := by decide +kernel
theorem dX0_weighLast_35 : decode cX0_weighLast 35 = .ok (.bipush 8, 2) := by decide +kernel
theorem dX0_weighLast_37 : decode cX0_weighLast 37 = .ok (.imul, 1) := by decide +kernel
theorem dX0_weighLast_38 : decode cX0_weighLast 38 = .ok (.iload_n 2, 1) := by decide +kernel
theorem dX0_weighLast_39 : decode cX0_weighLast 39 = .ok (.iadd, 1) := by decide +kernel
theorem dX0_weighLast_40 : decode cX0_weighLast 40 = .ok (.invokevirtual 32, 3) := by decide +kernel
theorem dX0_weighLast_43 : decode cX0_weighLast 43 = .ok (.iconst 1, 1) := by decide +kernel
theorem dX0_weighLast_44 : decode cX0_weighLast 44 = .ok (.istore 5, 2) := by decide +kernel
theorem dX0_weighLast_46 : decode cX0_weighLast 46 = .ok (.iload 5, 2) := by decide +kernel
theorem dX0_weighLast_48 : decode cX0_weighLast 48 = .ok (.iload 4, 2) := by decide +kernel
theorem dX0_weighLast_50 : decode cX0_weighLast 50 = .ok (.if_icmp .gt 67, 3) := by decide +kernel
theorem dX0_weighLast_53 : decode cX0_weighLast 53 = .ok (.ldc2_w 64, 3) := by decide +kernel
theorem dX0_weighLast_56 : decode cX0_weighLast 56 = .ok (.iload 4, 2) := by decide +kernel
theorem dX0_weighLast_58 : decode cX0_weighLast 58 = .ok (.iload 5, 2) := by decide +kernel
theorem dX0_weighLast_60 : decode cX0_weighLast 60 = .ok (.isub, 1) := by decide +kernel
theorem dX0_weighLast_61 : decode cX0_weighLast 61 = .ok (.invokestatic 66, 3) := by decide +kernel
theorem dX0_weighLast_64 : decode cX0_weighLast 64 = .ok (.lstore 6, 2) := by decide +kernel
theorem dX0_weighLast_66 : decode cX0_weighLast 66 = .ok (.aload_n 0, 1) := by decide +kernel
theorem dX0_weighLast_67 : decode cX0_weighLast 67 = .ok (.getfield 18, 3) := by decide +kernel
theorem dX0_weighLast_70 : decode cX0_weighLast 70 = .ok (.getfield 36, 3) := by decide +kernel
theorem dX0_weighLast_73 : decode cX0_weighLast 73 = .ok (.istore 8, 2) := by decide +kernel
theorem dX0_weighLast_75 : decode cX0_weighLast 75 = .ok (.iconst 0, 1) := by decide +kernel
theorem dX0_weighLast_76 : decode cX0_weighLast 76 = .ok (.istore 9, 2) := by decide +kernel
theorem dX0_weighLast_78 : decode cX0_weighLast 78 = .ok (.iload 9, 2) := by decide +kernel
theorem dX0_weighLast_80 : decode cX0_weighLast 80 = .ok (.iload 8, 2) := by decide +kernel
theorem dX0_weighLast_82 : decode cX0_weighLast 82 = .ok (.if_icmp .ge 25, 3) := by decide +kernel
theorem dX0_weighLast_85 : decode cX0_weighLast 85 = .ok (.aload_n 0, 1) := by decide +kernel
theorem dX0_weighLast_86 : decode cX0_weighLast 86 = .ok (.aload_n 1, 1) := by decide +kernel
theorem dX0_weighLast_87 : decode cX0_weighLast 87 = .ok (.aload_n 0, 1) := by decide +kernel
theorem dX0_weighLast_88 : decode cX0_weighLast 88 = .ok (.getfield 18, 3) := by decide +kernel
theorem dX0_weighLast_91 : decode cX0_weighLast 91 = .ok (.iload 9, 2) := by decide +kernel
theorem dX0_weighLast_93 : decode cX0_weighLast 93 = .ok (.invokevirtual 40, 3) := by decide +kernel
theorem dX0_weighLast_96 : decode cX0_weighLast 96 = .ok (.lload 6, 2) := by decide +kernel
theorem dX0_weighLast_98 : decode cX0_weighLast 98 = .ok (.invokevirtual 70, 3) := by decide +kernel
theorem dX0_weighLast_101 : decode cX0_weighLast 101 = .ok (.iinc 9 1, 3) := by decide +kernel
theorem dX0_weighLast_104 : decode cX0_weighLast 104 = .ok (.goto (-26), 3) := by decide +kernel
theorem dX0_weighLast_107 : decode cX0_weighLast 107 = .ok (.aload_n 0, 1) := by decide +kernel
theorem dX0_weighLast_108 : decode cX0_weighLast 108 = .ok (.invokevirtual 57, 3) := by decide +kernel
theorem dX0_weighLast_111 : decode cX0_weighLast 111 = .ok (.iinc 5 1, 3) := by decide +kernel
theorem dX0_weighLast_114 : decode cX0_weighLast 114 = .ok (.goto (-68), 3) := by decide +kernel
theorem dX0_weighLast_117 : decode cX0_weighLast 117 = .ok (.return_, 1) := by decide +kernel
set_option maxRecDepth 20000 in
theorem ggX0_handOn_X6_weightOf : GoodIn wsX0_handOn wsX6_weightOf := goodIn_r _ [9, 10, 41, 42, 43] (by decide +kernel) (by decide +kernel)
set_option maxRecDepth 20000 in
theorem gX0_handOn_X6_weightOf : GoodIn wsX0_handOn (wsV RX0 44 RX6 yX6_weightOf wsX6_weightOf) := goodIn_app (goodIn_of _ (by decide +kernel)) ggX0_handOn_X6_weightOf
set_option maxRecDepth 20000 in
theorem ggX0_handOn_X3_tenthsOf : GoodIn wsX0_handOn wsX3_tenthsOf := goodIn_r _ [15, 16, 17, 18, 19, 14, 20, 21, 35, 36, 37, 38, 39, 40] (by decide +kernel) (by decide +kernel)
set_option maxRecDepth 20000 in
theorem gX0_handOn_X3_tenthsOf : GoodIn wsX0_handOn (wsV RX0 53 RX3 yX3_tenthsOf wsX3_tenthsOf) := goodIn_app (goodIn_of _ (by decide +kernel)) ggX0_handOn_X3_tenthsOf
set_option maxRecDepth 20000 in
theorem ggX0_handOn_X3_allBits : GoodIn wsX0_handOn wsX3_allBits := goodIn_r _ [25, 21, 35, 36, 37, 38, 39, 40] (by decide +kernel) (by decide +kernel)
set_option maxRecDepth 20000 in
theorem gX0_handOn_X3_allBits : GoodIn wsX0_handOn (wsV RX0 60 RX3 yX3_allBits wsX3_allBits) := goodIn_app (goodIn_of _ (by decide +kernel)) ggX0_handOn_X3_allBits
set_option maxRecDepth 20000 in
theorem ggX0_handOn_X6_add : GoodIn wsX0_handOn wsX6_add := goodIn_r _ [29, 10, 30, 31, 41, 42, 43] (by decide +kernel) (by decide +kernel)
set_option maxRecDepth 20000 in
theorem gX0_handOn_X6_add : GoodIn wsX0_handOn (wsV RX0 28 RX6 yX6_add wsX6_add) := goodIn_app (goodIn_of _ (by decide +kernel)) ggX0_handOn_X6_add
theorem dX0_handOn_0 : decode cX0_handOn 0 = .ok (.iload_n 2, 1) := by decide +kernel
theorem dX0_handOn_1 : decode cX0_handOn 1 = .ok (.bipush 8, 2) := by decide +kernel
theorem dX0_handOn_3 : decode cX0_handOn 3 = .ok (.idiv, 1) := by decide +kernel
theorem dX0_handOn_4 : decode cX0_handOn 4 = .ok (.istore 5, 2) := by decide +kernel
theorem dX0_handOn_6 : decode cX0_handOn 6 = .ok (.iload_n 2, 1) := by decide +kernel
theorem dX0_handOn_7 : decode cX0_handOn 7 = .ok (.bipush 8, 2) := by decide +kernel
theorem dX0_handOn_9 : decode cX0_handOn 9 = .ok (.irem, 1) := by decide +kernel
theorem dX0_handOn_10 : decode cX0_handOn 10 = .ok (.istore 6, 2) := by decide +kernel
theorem dX0_handOn_12 : decode cX0_handOn 12 = .ok (.aload_n 0, 1) := by decide +kernel
theorem dX0_handOn_13 : decode cX0_handOn 13 = .ok (.getfield 18, 3) := by decide +kernel
theorem dX0_handOn_16 : decode cX0_handOn 16 = .ok (.iload_n 2, 1) := by decide +kernel
theorem dX0_handOn_17 : decode cX0_handOn 17 = .ok (.invokevirtual 44, 3) := by decide +kernel
theorem dX0_handOn_20 : decode cX0_handOn 20 = .ok (.lstore 7, 2) := by decide +kernel
theorem dX0_handOn_22 : decode cX0_handOn 22 = .ok (.iconst 0, 1) := by decide +kernel
theorem dX0_handOn_23 : decode cX0_handOn 23 = .ok (.istore 9, 2) := by decide +kernel
theorem dX0_handOn_25 : decode cX0_handOn 25 = .ok (.iload 9, 2) := by decide +kernel
theorem dX0_handOn_27 : decode cX0_handOn 27 = .ok (.aload_n 1, 1) := by decide +kernel
theorem dX0_handOn_28 : decode cX0_handOn 28 = .ok (.getfield 48, 3) := by decide +kernel
theorem dX0_handOn_31 : decode cX0_handOn 31 = .ok (.if_icmp .ge 82, 3) := by decide +kernel
theorem dX0_handOn_34 : decode cX0_handOn 34 = .ok (.iload 9, 2) := by decide +kernel
theorem dX0_handOn_36 : decode cX0_handOn 36 = .ok (.bipush 8, 2) := by decide +kernel
theorem dX0_handOn_38 : decode cX0_handOn 38 = .ok (.if_icmp .ge 75, 3) := by decide +kernel
theorem dX0_handOn_41 : decode cX0_handOn 41 = .ok (.lload 7, 2) := by decide +kernel
theorem dX0_handOn_43 : decode cX0_handOn 43 = .ok (.aload_n 1, 1) := by decide +kernel
theorem dX0_handOn_44 : decode cX0_handOn 44 = .ok (.iload 6, 2) := by decide +kernel
theorem dX0_handOn_46 : decode cX0_handOn 46 = .ok (.iload 9, 2) := by decide +kernel
theorem dX0_handOn_48 : decode cX0_handOn 48 = .ok (.invokevirtual 53, 3) := by decide +kernel
theorem dX0_handOn_51 : decode cX0_handOn 51 = .ok (.i2l, 1) := by decide +kernel
theorem dX0_handOn_52 : decode cX0_handOn 52 = .ok (.lmul, 1) := by decide +kernel
theorem dX0_handOn_53 : decode cX0_handOn 53 = .ok (.lstore 10, 2) := by decide +kernel
theorem dX0_handOn_55 : decode cX0_handOn 55 = .ok (.iload 5, 2) := by decide +kernel
theorem dX0_handOn_57 : decode cX0_handOn 57 = .ok (.iconst 1, 1) := by decide +kernel
theorem dX0_handOn_58 : decode cX0_handOn 58 = .ok (.iload 9, 2) := by decide +kernel
theorem dX0_handOn_60 : decode cX0_handOn 60 = .ok (.ishl, 1) := by decide +kernel
theorem dX0_handOn_61 : decode cX0_handOn 61 = .ok (.ior, 1) := by decide +kernel
theorem dX0_handOn_62 : decode cX0_handOn 62 = .ok (.istore 12, 2) := by decide +kernel
theorem dX0_handOn_64 : decode cX0_handOn 64 = .ok (.iload 12, 2) := by decide +kernel
theorem dX0_handOn_66 : decode cX0_handOn 66 = .ok (.aload_n 1, 1) := by decide +kernel
theorem dX0_handOn_67 : decode cX0_handOn 67 = .ok (.invokevirtual 60, 3) := by decide +kernel
theorem dX0_handOn_70 : decode cX0_handOn 70 = .ok (.if_icmp .ne 20, 3) := by decide +kernel
theorem dX0_handOn_73 : decode cX0_handOn 73 = .ok (.aload_n 0, 1) := by decide +kernel
theorem dX0_handOn_74 : decode cX0_handOn 74 = .ok (.getfield 9, 3) := by decide +kernel
theorem dX0_handOn_77 : decode cX0_handOn 77 = .ok (.iload 9, 2) := by decide +kernel
theorem dX0_handOn_79 : decode cX0_handOn 79 = .ok (.dup2, 1) := by decide +kernel
theorem dX0_handOn_80 : decode cX0_handOn 80 = .ok (.laload, 1) := by decide +kernel
theorem dX0_handOn_81 : decode cX0_handOn 81 = .ok (.lload 10, 2) := by decide +kernel
theorem dX0_handOn_83 : decode cX0_handOn 83 = .ok (.lload_n 3, 1) := by decide +kernel
theorem dX0_handOn_84 : decode cX0_handOn 84 = .ok (.lmul, 1) := by decide +kernel
theorem dX0_handOn_85 : decode cX0_handOn 85 = .ok (.ladd, 1) := by decide +kernel
theorem dX0_handOn_86 : decode cX0_handOn 86 = .ok (.lastore, 1) := by decide +kernel
theorem dX0_handOn_87 : decode cX0_handOn 87 = .ok (.goto 20, 3) := by decide +kernel
theorem dX0_handOn_90 : decode cX0_handOn 90 = .ok (.aload_n 0, 1) := by decide +kernel
theorem dX0_handOn_91 : decode cX0_handOn 91 = .ok (.getfield 22, 3) := by decide +kernel
theorem dX0_handOn_94 : decode cX0_handOn 94 = .ok (.iload 12, 2) := by decide +kernel
theorem dX0_handOn_96 : decode cX0_handOn 96 = .ok (.bipush 8, 2) := by decide +kernel
theorem dX0_handOn_98 : decode cX0_handOn 98 = .ok (.imul, 1) := by decide +kernel
theorem dX0_handOn_99 : decode cX0_handOn 99 = .ok (.iload 9, 2) := by decide +kernel
theorem dX0_handOn_101 : decode cX0_handOn 101 = .ok (.iadd, 1) := by decide +kernel
theorem dX0_handOn_102 : decode cX0_handOn 102 = .ok (.lload 10, 2) := by decide +kernel
theorem dX0_handOn_104 : decode cX0_handOn 104 = .ok (.invokevirtual 28, 3) := by decide +kernel
theorem dX0_handOn_107 : decode cX0_handOn 107 = .ok (.iinc 9 1, 3) := by decide +kernel
theorem dX0_handOn_110 : decode cX0_handOn 110 = .ok (.goto (-85), 3) := by decide +kernel
theorem dX0_handOn_113 : decode cX0_handOn 113 = .ok (.return_, 1) := by decide +kernel
set_option maxRecDepth 20000 in
theorem ggX0_meetWeight_X8_power : GoodIn wsX0_meetWeight wsX8_power := goodIn_r _ [6] (by decide +kernel) (by decide +kernel)
set_option maxRecDepth 20000 in
theorem gX0_meetWeight_X8_power_n66 : GoodIn wsX0_meetWeight (wsX8_power) := ggX0_meetWeight_X8_power
set_option maxRecDepth 20000 in
theorem ggX0_meetWeight_X0_startWith : GoodIn wsX0_meetWeight wsX0_startWith := goodIn_r _ [11, 2, 12, 13, 14, 15, 16, 17, 18, 19, 20, 21, 22, 23, 53, 54, 55, 56, 57, 58] (by decide +kernel) (by decide +kernel)
set_option maxRecDepth 20000 in
theorem gX0_meetWeight_X0_startWith : GoodIn wsX0_meetWeight (wsV RX0 32 RX0 yX0_startWith wsX0_startWith) := goodIn_app (goodIn_of _ (by decide +kernel)) ggX0_meetWeight_X0_startWith
set_option maxRecDepth 20000 in
theorem ggX0_meetWeight_X6_stateAt : GoodIn wsX0_meetWeight wsX6_stateAt := goodIn_r _ [27, 17, 18, 56, 57, 58] (by decide +kernel) (by decide +kernel)
set_option maxRecDepth 20000 in
theorem gX0_meetWeight_X6_stateAt : GoodIn wsX0_meetWeight (wsV RX0 40 RX6 yX6_stateAt wsX6_stateAt) := goodIn_app (goodIn_of _ (by decide +kernel)) ggX0_meetWeight_X6_stateAt
set_option maxRecDepth 20000 in
theorem ggX0_meetWeight_X0_handBoth : GoodIn wsX0_meetWeight wsX0_handBoth := goodIn_r _ [31, 2, 32, 33, 34, 35, 36, 15, 37, 19, 38, 39, 40, 41, 42, 43, 44, 45, 46, 47, 48, 20, 21, 22, 23, 17, 18, 53, 54, 55, 59, 60, 61, 62, 63, 64, 56, 57, 58] (by decide +kernel) (by decide +kernel)
set_option maxRecDepth 20000 in
theorem gX0_meetWeight_X0_handBoth : GoodIn wsX0_meetWeight (wsV RX0 76 RX0 yX0_handBoth wsX0_handBoth) := goodIn_app (goodIn_of _ (by decide +kernel)) ggX0_meetWeight_X0_handBoth
set_option maxRecDepth 20000 in
theorem ggX0_meetWeight_X0_stepOn : GoodIn wsX0_meetWeight wsX0_stepOn := goodIn_r _ [52, 2, 33, 12, 13, 14, 15, 16, 17, 18, 19, 53, 54, 55, 56, 57, 58] (by decide +kernel) (by decide +kernel)
set_option maxRecDepth 20000 in
theorem gX0_meetWeight_X0_stepOn : GoodIn wsX0_meetWeight (wsV RX0 57 RX0 yX0_stepOn wsX0_stepOn) := goodIn_app (goodIn_of _ (by decide +kernel)) ggX0_meetWeight_X0_stepOn
theorem dX0_meetWeight_0 : decode cX0_meetWeight 0 = .ok (.iload_n 2, 1) := by decide +kernel
theorem dX0_meetWeight_1 : decode cX0_meetWeight 1 = .ok (.iload_n 3, 1) := by decide +kernel
theorem dX0_meetWeight_2 : decode cX0_meetWeight 2 = .ok (.if_icmp .ne 12, 3) := by decide +kernel
theorem dX0_meetWeight_5 : decode cX0_meetWeight 5 = .ok (.ldc2_w 74, 3) := by decide +kernel
theorem dX0_meetWeight_8 : decode cX0_meetWeight 8 = .ok (.iload 4, 2) := by decide +kernel
theorem dX0_meetWeight_10 : decode cX0_meetWeight 10 = .ok (.invokestatic 66, 3) := by decide +kernel
theorem dX0_meetWeight_13 : decode cX0_meetWeight 13 = .ok (.lreturn, 1) := by decide +kernel
theorem dX0_meetWeight_14 : decode cX0_meetWeight 14 = .ok (.lconst 0, 1) := by decide +kernel
theorem dX0_meetWeight_15 : decode cX0_meetWeight 15 = .ok (.lstore 5, 2) := by decide +kernel
theorem dX0_meetWeight_17 : decode cX0_meetWeight 17 = .ok (.aload_n 0, 1) := by decide +kernel
theorem dX0_meetWeight_18 : decode cX0_meetWeight 18 = .ok (.iload_n 2, 1) := by decide +kernel
theorem dX0_meetWeight_19 : decode cX0_meetWeight 19 = .ok (.bipush 8, 2) := by decide +kernel
theorem dX0_meetWeight_21 : decode cX0_meetWeight 21 = .ok (.imul, 1) := by decide +kernel
theorem dX0_meetWeight_22 : decode cX0_meetWeight 22 = .ok (.iload_n 3, 1) := by decide +kernel
theorem dX0_meetWeight_23 : decode cX0_meetWeight 23 = .ok (.iadd, 1) := by decide +kernel
theorem dX0_meetWeight_24 : decode cX0_meetWeight 24 = .ok (.invokevirtual 32, 3) := by decide +kernel
theorem dX0_meetWeight_27 : decode cX0_meetWeight 27 = .ok (.iconst 1, 1) := by decide +kernel
theorem dX0_meetWeight_28 : decode cX0_meetWeight 28 = .ok (.istore 7, 2) := by decide +kernel
theorem dX0_meetWeight_30 : decode cX0_meetWeight 30 = .ok (.iload 7, 2) := by decide +kernel
theorem dX0_meetWeight_32 : decode cX0_meetWeight 32 = .ok (.iload 4, 2) := by decide +kernel
theorem dX0_meetWeight_34 : decode cX0_meetWeight 34 = .ok (.if_icmp .gt 73, 3) := by decide +kernel
theorem dX0_meetWeight_37 : decode cX0_meetWeight 37 = .ok (.ldc2_w 74, 3) := by decide +kernel
theorem dX0_meetWeight_40 : decode cX0_meetWeight 40 = .ok (.iload 4, 2) := by decide +kernel
theorem dX0_meetWeight_42 : decode cX0_meetWeight 42 = .ok (.iload 7, 2) := by decide +kernel
theorem dX0_meetWeight_44 : decode cX0_meetWeight 44 = .ok (.isub, 1) := by decide +kernel
theorem dX0_meetWeight_45 : decode cX0_meetWeight 45 = .ok (.invokestatic 66, 3) := by decide +kernel
theorem dX0_meetWeight_48 : decode cX0_meetWeight 48 = .ok (.lstore 8, 2) := by decide +kernel
theorem dX0_meetWeight_50 : decode cX0_meetWeight 50 = .ok (.aload_n 0, 1) := by decide +kernel
theorem dX0_meetWeight_51 : decode cX0_meetWeight 51 = .ok (.getfield 18, 3) := by decide +kernel
theorem dX0_meetWeight_54 : decode cX0_meetWeight 54 = .ok (.getfield 36, 3) := by decide +kernel
theorem dX0_meetWeight_57 : decode cX0_meetWeight 57 = .ok (.istore 10, 2) := by decide +kernel
theorem dX0_meetWeight_59 : decode cX0_meetWeight 59 = .ok (.iconst 0, 1) := by decide +kernel
theorem dX0_meetWeight_60 : decode cX0_meetWeight 60 = .ok (.istore 11, 2) := by decide +kernel
theorem dX0_meetWeight_62 : decode cX0_meetWeight 62 = .ok (.iload 11, 2) := by decide +kernel
theorem dX0_meetWeight_64 : decode cX0_meetWeight 64 = .ok (.iload 10, 2) := by decide +kernel
theorem dX0_meetWeight_66 : decode cX0_meetWeight 66 = .ok (.if_icmp .ge 31, 3) := by decide +kernel
theorem dX0_meetWeight_69 : decode cX0_meetWeight 69 = .ok (.lload 5, 2) := by decide +kernel
theorem dX0_meetWeight_71 : decode cX0_meetWeight 71 = .ok (.lload 8, 2) := by decide +kernel
theorem dX0_meetWeight_73 : decode cX0_meetWeight 73 = .ok (.aload_n 0, 1) := by decide +kernel
theorem dX0_meetWeight_74 : decode cX0_meetWeight 74 = .ok (.aload_n 1, 1) := by decide +kernel
theorem dX0_meetWeight_75 : decode cX0_meetWeight 75 = .ok (.aload_n 0, 1) := by decide +kernel
theorem dX0_meetWeight_76 : decode cX0_meetWeight 76 = .ok (.getfield 18, 3) := by decide +kernel
theorem dX0_meetWeight_79 : decode cX0_meetWeight 79 = .ok (.iload 11, 2) := by decide +kernel
theorem dX0_meetWeight_81 : decode cX0_meetWeight 81 = .ok (.invokevirtual 40, 3) := by decide +kernel
theorem dX0_meetWeight_84 : decode cX0_meetWeight 84 = .ok (.invokevirtual 76, 3) := by decide +kernel
theorem dX0_meetWeight_87 : decode cX0_meetWeight 87 = .ok (.lmul, 1) := by decide +kernel
theorem dX0_meetWeight_88 : decode cX0_meetWeight 88 = .ok (.ladd, 1) := by decide +kernel
theorem dX0_meetWeight_89 : decode cX0_meetWeight 89 = .ok (.lstore 5, 2) := by decide +kernel
theorem dX0_meetWeight_91 : decode cX0_meetWeight 91 = .ok (.iinc 11 1, 3) := by decide +kernel
theorem dX0_meetWeight_94 : decode cX0_meetWeight 94 = .ok (.goto (-32), 3) := by decide +kernel
theorem dX0_meetWeight_97 : decode cX0_meetWeight 97 = .ok (.aload_n 0, 1) := by decide +kernel
theorem dX0_meetWeight_98 : decode cX0_meetWeight 98 = .ok (.invokevirtual 57, 3) := by decide +kernel
theorem dX0_meetWeight_101 : decode cX0_meetWeight 101 = .ok (.iinc 7 1, 3) := by decide +kernel
theorem dX0_meetWeight_104 : decode cX0_meetWeight 104 = .ok (.goto (-74), 3) := by decide +kernel
theorem dX0_meetWeight_107 : decode cX0_meetWeight 107 = .ok (.lload 5, 2) := by decide +kernel
theorem dX0_meetWeight_109 : decode cX0_meetWeight 109 = .ok (.lreturn, 1) := by decide +kernel
set_option maxRecDepth 20000 in
theorem ggX0_handBoth_X6_weightOf : GoodIn wsX0_handBoth wsX6_weightOf := goodIn_r _ [8, 9, 36, 37, 38] (by decide +kernel) (by decide +kernel)
set_option maxRecDepth 20000 in
theorem gX0_handBoth_X6_weightOf : GoodIn wsX0_handBoth (wsV RX0 44 RX6 yX6_weightOf wsX6_weightOf) := goodIn_app (goodIn_of _ (by decide +kernel)) ggX0_handBoth_X6_weightOf
set_option maxRecDepth 20000 in
theorem ggX0_handBoth_X3_tenthsOf : GoodIn wsX0_handBoth wsX3_tenthsOf := goodIn_r _ [14, 15, 16, 17, 18, 13, 19, 20, 30, 31, 32, 33, 34, 35] (by decide +kernel) (by decide +kernel)
set_option maxRecDepth 20000 in
theorem gX0_handBoth_X3_tenthsOf : GoodIn wsX0_handBoth (wsV RX0 53 RX3 yX3_tenthsOf wsX3_tenthsOf) := goodIn_app (goodIn_of _ (by decide +kernel)) ggX0_handBoth_X3_tenthsOf
set_option maxRecDepth 20000 in
theorem ggX0_handBoth_X6_add : GoodIn wsX0_handBoth wsX6_add := goodIn_r _ [24, 9, 25, 26, 36, 37, 38] (by decide +kernel) (by decide +kernel)
set_option maxRecDepth 20000 in
theorem gX0_handBoth_X6_add : GoodIn wsX0_handBoth (wsV RX0 28 RX6 yX6_add wsX6_add) := goodIn_app (goodIn_of _ (by decide +kernel)) ggX0_handBoth_X6_add
theorem dX0_handBoth_0 : decode cX0_handBoth 0 = .ok (.iload_n 2, 1) := by decide +kernel
theorem dX0_handBoth_1 : decode cX0_handBoth 1 = .ok (.bipush 8, 2) := by decide +kernel
theorem dX0_handBoth_3 : decode cX0_handBoth 3 = .ok (.idiv, 1) := by decide +kernel
theorem dX0_handBoth_4 : decode cX0_handBoth 4 = .ok (.istore_n 3, 1) := by decide +kernel
theorem dX0_handBoth_5 : decode cX0_handBoth 5 = .ok (.iload_n 2, 1) := by decide +kernel
theorem dX0_handBoth_6 : decode cX0_handBoth 6 = .ok (.bipush 8, 2) := by decide +kernel
theorem dX0_handBoth_8 : decode cX0_handBoth 8 = .ok (.irem, 1) := by decide +kernel
theorem dX0_handBoth_9 : decode cX0_handBoth 9 = .ok (.istore 4, 2) := by decide +kernel
theorem dX0_handBoth_11 : decode cX0_handBoth 11 = .ok (.aload_n 0, 1) := by decide +kernel
theorem dX0_handBoth_12 : decode cX0_handBoth 12 = .ok (.getfield 18, 3) := by decide +kernel
theorem dX0_handBoth_15 : decode cX0_handBoth 15 = .ok (.iload_n 2, 1) := by decide +kernel
theorem dX0_handBoth_16 : decode cX0_handBoth 16 = .ok (.invokevirtual 44, 3) := by decide +kernel
theorem dX0_handBoth_19 : decode cX0_handBoth 19 = .ok (.lstore 5, 2) := by decide +kernel
theorem dX0_handBoth_21 : decode cX0_handBoth 21 = .ok (.lconst 0, 1) := by decide +kernel
theorem dX0_handBoth_22 : decode cX0_handBoth 22 = .ok (.lstore 7, 2) := by decide +kernel
theorem dX0_handBoth_24 : decode cX0_handBoth 24 = .ok (.iconst 0, 1) := by decide +kernel
theorem dX0_handBoth_25 : decode cX0_handBoth 25 = .ok (.istore 9, 2) := by decide +kernel
theorem dX0_handBoth_27 : decode cX0_handBoth 27 = .ok (.iload 9, 2) := by decide +kernel
theorem dX0_handBoth_29 : decode cX0_handBoth 29 = .ok (.aload_n 1, 1) := by decide +kernel
theorem dX0_handBoth_30 : decode cX0_handBoth 30 = .ok (.getfield 48, 3) := by decide +kernel
theorem dX0_handBoth_33 : decode cX0_handBoth 33 = .ok (.if_icmp .ge 95, 3) := by decide +kernel
theorem dX0_handBoth_36 : decode cX0_handBoth 36 = .ok (.lload 5, 2) := by decide +kernel
theorem dX0_handBoth_38 : decode cX0_handBoth 38 = .ok (.aload_n 1, 1) := by decide +kernel
theorem dX0_handBoth_39 : decode cX0_handBoth 39 = .ok (.iload_n 3, 1) := by decide +kernel
theorem dX0_handBoth_40 : decode cX0_handBoth 40 = .ok (.iload 9, 2) := by decide +kernel
theorem dX0_handBoth_42 : decode cX0_handBoth 42 = .ok (.invokevirtual 53, 3) := by decide +kernel
theorem dX0_handBoth_45 : decode cX0_handBoth 45 = .ok (.i2l, 1) := by decide +kernel
theorem dX0_handBoth_46 : decode cX0_handBoth 46 = .ok (.lmul, 1) := by decide +kernel
theorem dX0_handBoth_47 : decode cX0_handBoth 47 = .ok (.lstore 10, 2) := by decide +kernel
theorem dX0_handBoth_49 : decode cX0_handBoth 49 = .ok (.iconst 0, 1) := by decide +kernel
theorem dX0_handBoth_50 : decode cX0_handBoth 50 = .ok (.istore 12, 2) := by decide +kernel
theorem dX0_handBoth_52 : decode cX0_handBoth 52 = .ok (.iload 12, 2) := by decide +kernel
theorem dX0_handBoth_54 : decode cX0_handBoth 54 = .ok (.aload_n 1, 1) := by decide +kernel
theorem dX0_handBoth_55 : decode cX0_handBoth 55 = .ok (.getfield 48, 3) := by decide +kernel
theorem dX0_handBoth_58 : decode cX0_handBoth 58 = .ok (.if_icmp .ge 64, 3) := by decide +kernel
theorem dX0_handBoth_61 : decode cX0_handBoth 61 = .ok (.lload 10, 2) := by decide +kernel
theorem dX0_handBoth_63 : decode cX0_handBoth 63 = .ok (.lconst 0, 1) := by decide +kernel
theorem dX0_handBoth_64 : decode cX0_handBoth 64 = .ok (.lcmp, 1) := by decide +kernel
theorem dX0_handBoth_65 : decode cX0_handBoth 65 = .ok (.ifCond .eq 57, 3) := by decide +kernel
theorem dX0_handBoth_68 : decode cX0_handBoth 68 = .ok (.lload 10, 2) := by decide +kernel
theorem dX0_handBoth_70 : decode cX0_handBoth 70 = .ok (.aload_n 1, 1) := by decide +kernel
theorem dX0_handBoth_71 : decode cX0_handBoth 71 = .ok (.iload 4, 2) := by decide +kernel
theorem dX0_handBoth_73 : decode cX0_handBoth 73 = .ok (.iload 12, 2) := by decide +kernel
theorem dX0_handBoth_75 : decode cX0_handBoth 75 = .ok (.invokevirtual 53, 3) := by decide +kernel
theorem dX0_handBoth_78 : decode cX0_handBoth 78 = .ok (.i2l, 1) := by decide +kernel
theorem dX0_handBoth_79 : decode cX0_handBoth 79 = .ok (.lmul, 1) := by decide +kernel
theorem dX0_handBoth_80 : decode cX0_handBoth 80 = .ok (.lstore 13, 2) := by decide +kernel
theorem dX0_handBoth_82 : decode cX0_handBoth 82 = .ok (.iload 9, 2) := by decide +kernel
theorem dX0_handBoth_84 : decode cX0_handBoth 84 = .ok (.iload 12, 2) := by decide +kernel
theorem dX0_handBoth_86 : decode cX0_handBoth 86 = .ok (.if_icmp .ne 13, 3) := by decide +kernel
theorem dX0_handBoth_89 : decode cX0_handBoth 89 = .ok (.lload 7, 2) := by decide +kernel
theorem dX0_handBoth_91 : decode cX0_handBoth 91 = .ok (.lload 13, 2) := by decide +kernel
theorem dX0_handBoth_93 : decode cX0_handBoth 93 = .ok (.ladd, 1) := by decide +kernel
theorem dX0_handBoth_94 : decode cX0_handBoth 94 = .ok (.lstore 7, 2) := by decide +kernel
theorem dX0_handBoth_96 : decode cX0_handBoth 96 = .ok (.goto 20, 3) := by decide +kernel
theorem dX0_handBoth_99 : decode cX0_handBoth 99 = .ok (.aload_n 0, 1) := by decide +kernel
theorem dX0_handBoth_100 : decode cX0_handBoth 100 = .ok (.getfield 22, 3) := by decide +kernel
theorem dX0_handBoth_103 : decode cX0_handBoth 103 = .ok (.iload 9, 2) := by decide +kernel
theorem dX0_handBoth_105 : decode cX0_handBoth 105 = .ok (.bipush 8, 2) := by decide +kernel
theorem dX0_handBoth_107 : decode cX0_handBoth 107 = .ok (.imul, 1) := by decide +kernel
theorem dX0_handBoth_108 : decode cX0_handBoth 108 = .ok (.iload 12, 2) := by decide +kernel
theorem dX0_handBoth_110 : decode cX0_handBoth 110 = .ok (.iadd, 1) := by decide +kernel
theorem dX0_handBoth_111 : decode cX0_handBoth 111 = .ok (.lload 13, 2) := by decide +kernel
theorem dX0_handBoth_113 : decode cX0_handBoth 113 = .ok (.invokevirtual 28, 3) := by decide +kernel
theorem dX0_handBoth_116 : decode cX0_handBoth 116 = .ok (.iinc 12 1, 3) := by decide +kernel
theorem dX0_handBoth_119 : decode cX0_handBoth 119 = .ok (.goto (-67), 3) := by decide +kernel
theorem dX0_handBoth_122 : decode cX0_handBoth 122 = .ok (.iinc 9 1, 3) := by decide +kernel
theorem dX0_handBoth_125 : decode cX0_handBoth 125 = .ok (.goto (-98), 3) := by decide +kernel
theorem dX0_handBoth_128 : decode cX0_handBoth 128 = .ok (.lload 7, 2) := by decide +kernel
theorem dX0_handBoth_130 : decode cX0_handBoth 130 = .ok (.lreturn, 1) := by decide +kernel
set_option maxRecDepth 20000 in
theorem ggX0_waysOf_X0_startWith : GoodIn wsX0_waysOf wsX0_startWith := goodIn_r _ [10, 2, 11, 12, 13, 14, 15, 16, 17, 18, 19, 20, 21, 22, 64, 65, 66, 67, 68, 69] (by decide +kernel) (by decide +kernel)
set_option maxRecDepth 20000 in
theorem gX0_waysOf_X0_startWith : GoodIn wsX0_waysOf (wsV RX0 32 RX0 yX0_startWith wsX0_startWith) := goodIn_app (goodIn_of _ (by decide +kernel)) ggX0_waysOf_X0_startWith
set_option maxRecDepth 20000 in
theorem ggX0_waysOf_X6_stateAt : GoodIn wsX0_waysOf wsX6_stateAt := goodIn_r _ [26, 16, 17, 67, 68, 69] (by decide +kernel) (by decide +kernel)
set_option maxRecDepth 20000 in
theorem gX0_waysOf_X6_stateAt : GoodIn wsX0_waysOf (wsV RX0 40 RX6 yX6_stateAt wsX6_stateAt) := goodIn_app (goodIn_of _ (by decide +kernel)) ggX0_waysOf_X6_stateAt
set_option maxRecDepth 20000 in
theorem ggX0_waysOf_X6_weightOf : GoodIn wsX0_waysOf wsX6_weightOf := goodIn_r _ [30, 18, 67, 68, 69] (by decide +kernel) (by decide +kernel)
set_option maxRecDepth 20000 in
theorem gX0_waysOf_X6_weightOf : GoodIn wsX0_waysOf (wsV RX0 44 RX6 yX6_weightOf wsX6_weightOf) := goodIn_app (goodIn_of _ (by decide +kernel)) ggX0_waysOf_X6_weightOf
set_option maxRecDepth 20000 in
theorem ggX0_waysOf_X3_tenthsOf : GoodIn wsX0_waysOf wsX3_tenthsOf := goodIn_r _ [35, 36, 37, 38, 39, 34, 40, 41, 70, 71, 72, 73, 74, 75] (by decide +kernel) (by decide +kernel)
set_option maxRecDepth 20000 in
theorem gX0_waysOf_X3_tenthsOf : GoodIn wsX0_waysOf (wsV RX0 53 RX3 yX3_tenthsOf wsX3_tenthsOf) := goodIn_app (goodIn_of _ (by decide +kernel)) ggX0_waysOf_X3_tenthsOf
set_option maxRecDepth 20000 in
theorem ggX0_waysOf_X4_fits : GoodIn wsX0_waysOf wsX4_fits := goodIn_r _ [46, 47, 48, 49, 54, 55, 56, 57, 58, 59, 60, 61, 62, 63] (by decide +kernel) (by decide +kernel)
set_option maxRecDepth 20000 in
theorem gX0_waysOf_X4_fits : GoodIn wsX0_waysOf (wsV RX0 85 RX4 yX4_fits wsX4_fits) := goodIn_app (goodIn_of _ (by decide +kernel)) ggX0_waysOf_X4_fits
set_option maxRecDepth 20000 in
theorem ggX0_waysOf_X6_add : GoodIn wsX0_waysOf wsX6_add := goodIn_r _ [22, 18, 16, 17, 67, 68, 69] (by decide +kernel) (by decide +kernel)
set_option maxRecDepth 20000 in
theorem gX0_waysOf_X6_add : GoodIn wsX0_waysOf (wsV RX0 28 RX6 yX6_add wsX6_add) := goodIn_app (goodIn_of _ (by decide +kernel)) ggX0_waysOf_X6_add
set_option maxRecDepth 20000 in
theorem ggX0_waysOf_X0_stepOn : GoodIn wsX0_waysOf wsX0_stepOn := goodIn_r _ [53, 2, 5, 11, 12, 13, 14, 15, 16, 17, 18, 64, 65, 66, 67, 68, 69] (by decide +kernel) (by decide +kernel)
set_option maxRecDepth 20000 in
theorem gX0_waysOf_X0_stepOn : GoodIn wsX0_waysOf (wsV RX0 57 RX0 yX0_stepOn wsX0_stepOn) := goodIn_app (goodIn_of _ (by decide +kernel)) ggX0_waysOf_X0_stepOn
theorem dX0_waysOf_0 : decode cX0_waysOf 0 = .ok (.aload_n 0, 1) := by decide +kernel
theorem dX0_waysOf_1 : decode cX0_waysOf 1 = .ok (.aload_n 2, 1) := by decide +kernel
theorem dX0_waysOf_2 : decode cX0_waysOf 2 = .ok (.getfield 80, 3) := by decide +kernel
theorem dX0_waysOf_5 : decode cX0_waysOf 5 = .ok (.invokevirtual 32, 3) := by decide +kernel
theorem dX0_waysOf_8 : decode cX0_waysOf 8 = .ok (.iconst 1, 1) := by decide +kernel
theorem dX0_waysOf_9 : decode cX0_waysOf 9 = .ok (.istore 4, 2) := by decide +kernel
theorem dX0_waysOf_11 : decode cX0_waysOf 11 = .ok (.iload 4, 2) := by decide +kernel
theorem dX0_waysOf_13 : decode cX0_waysOf 13 = .ok (.iload_n 3, 1) := by decide +kernel
theorem dX0_waysOf_14 : decode cX0_waysOf 14 = .ok (.if_icmp .gt 111, 3) := by decide +kernel
theorem dX0_waysOf_17 : decode cX0_waysOf 17 = .ok (.aload_n 0, 1) := by decide +kernel
theorem dX0_waysOf_18 : decode cX0_waysOf 18 = .ok (.getfield 18, 3) := by decide +kernel
theorem dX0_waysOf_21 : decode cX0_waysOf 21 = .ok (.getfield 36, 3) := by decide +kernel
theorem dX0_waysOf_24 : decode cX0_waysOf 24 = .ok (.istore 5, 2) := by decide +kernel
theorem dX0_waysOf_26 : decode cX0_waysOf 26 = .ok (.iconst 0, 1) := by decide +kernel
theorem dX0_waysOf_27 : decode cX0_waysOf 27 = .ok (.istore 6, 2) := by decide +kernel
theorem dX0_waysOf_29 : decode cX0_waysOf 29 = .ok (.iload 6, 2) := by decide +kernel
theorem dX0_waysOf_31 : decode cX0_waysOf 31 = .ok (.iload 5, 2) := by decide +kernel
theorem dX0_waysOf_33 : decode cX0_waysOf 33 = .ok (.if_icmp .ge 82, 3) := by decide +kernel
theorem dX0_waysOf_36 : decode cX0_waysOf 36 = .ok (.aload_n 0, 1) := by decide +kernel
theorem dX0_waysOf_37 : decode cX0_waysOf 37 = .ok (.getfield 18, 3) := by decide +kernel
theorem dX0_waysOf_40 : decode cX0_waysOf 40 = .ok (.iload 6, 2) := by decide +kernel
theorem dX0_waysOf_42 : decode cX0_waysOf 42 = .ok (.invokevirtual 40, 3) := by decide +kernel
theorem dX0_waysOf_45 : decode cX0_waysOf 45 = .ok (.istore 7, 2) := by decide +kernel
theorem dX0_waysOf_47 : decode cX0_waysOf 47 = .ok (.aload_n 0, 1) := by decide +kernel
theorem dX0_waysOf_48 : decode cX0_waysOf 48 = .ok (.getfield 18, 3) := by decide +kernel
theorem dX0_waysOf_51 : decode cX0_waysOf 51 = .ok (.iload 7, 2) := by decide +kernel
theorem dX0_waysOf_53 : decode cX0_waysOf 53 = .ok (.invokevirtual 44, 3) := by decide +kernel
theorem dX0_waysOf_56 : decode cX0_waysOf 56 = .ok (.lstore 8, 2) := by decide +kernel
theorem dX0_waysOf_58 : decode cX0_waysOf 58 = .ok (.iconst 0, 1) := by decide +kernel
theorem dX0_waysOf_59 : decode cX0_waysOf 59 = .ok (.istore 10, 2) := by decide +kernel
theorem dX0_waysOf_61 : decode cX0_waysOf 61 = .ok (.iload 10, 2) := by decide +kernel
theorem dX0_waysOf_63 : decode cX0_waysOf 63 = .ok (.aload_n 1, 1) := by decide +kernel
theorem dX0_waysOf_64 : decode cX0_waysOf 64 = .ok (.getfield 48, 3) := by decide +kernel
theorem dX0_waysOf_67 : decode cX0_waysOf 67 = .ok (.if_icmp .ge 42, 3) := by decide +kernel
theorem dX0_waysOf_70 : decode cX0_waysOf 70 = .ok (.aload_n 1, 1) := by decide +kernel
theorem dX0_waysOf_71 : decode cX0_waysOf 71 = .ok (.iload 7, 2) := by decide +kernel
theorem dX0_waysOf_73 : decode cX0_waysOf 73 = .ok (.iload 10, 2) := by decide +kernel
theorem dX0_waysOf_75 : decode cX0_waysOf 75 = .ok (.invokevirtual 53, 3) := by decide +kernel
theorem dX0_waysOf_78 : decode cX0_waysOf 78 = .ok (.ifCond .le 25, 3) := by decide +kernel
theorem dX0_waysOf_81 : decode cX0_waysOf 81 = .ok (.aload_n 2, 1) := by decide +kernel
theorem dX0_waysOf_82 : decode cX0_waysOf 82 = .ok (.iload 4, 2) := by decide +kernel
theorem dX0_waysOf_84 : decode cX0_waysOf 84 = .ok (.iload 10, 2) := by decide +kernel
theorem dX0_waysOf_86 : decode cX0_waysOf 86 = .ok (.invokevirtual 85, 3) := by decide +kernel
theorem dX0_waysOf_89 : decode cX0_waysOf 89 = .ok (.ifCond .eq 14, 3) := by decide +kernel
theorem dX0_waysOf_92 : decode cX0_waysOf 92 = .ok (.aload_n 0, 1) := by decide +kernel
theorem dX0_waysOf_93 : decode cX0_waysOf 93 = .ok (.getfield 22, 3) := by decide +kernel
theorem dX0_waysOf_96 : decode cX0_waysOf 96 = .ok (.iload 10, 2) := by decide +kernel
theorem dX0_waysOf_98 : decode cX0_waysOf 98 = .ok (.lload 8, 2) := by decide +kernel
theorem dX0_waysOf_100 : decode cX0_waysOf 100 = .ok (.invokevirtual 28, 3) := by decide +kernel
theorem dX0_waysOf_103 : decode cX0_waysOf 103 = .ok (.iinc 10 1, 3) := by decide +kernel
theorem dX0_waysOf_106 : decode cX0_waysOf 106 = .ok (.goto (-45), 3) := by decide +kernel
theorem dX0_waysOf_109 : decode cX0_waysOf 109 = .ok (.iinc 6 1, 3) := by decide +kernel
theorem dX0_waysOf_112 : decode cX0_waysOf 112 = .ok (.goto (-83), 3) := by decide +kernel
theorem dX0_waysOf_115 : decode cX0_waysOf 115 = .ok (.aload_n 0, 1) := by decide +kernel
theorem dX0_waysOf_116 : decode cX0_waysOf 116 = .ok (.invokevirtual 57, 3) := by decide +kernel
theorem dX0_waysOf_119 : decode cX0_waysOf 119 = .ok (.iinc 4 1, 3) := by decide +kernel
theorem dX0_waysOf_122 : decode cX0_waysOf 122 = .ok (.goto (-111), 3) := by decide +kernel
theorem dX0_waysOf_125 : decode cX0_waysOf 125 = .ok (.lconst 0, 1) := by decide +kernel
theorem dX0_waysOf_126 : decode cX0_waysOf 126 = .ok (.lstore 4, 2) := by decide +kernel
theorem dX0_waysOf_128 : decode cX0_waysOf 128 = .ok (.iconst 0, 1) := by decide +kernel
theorem dX0_waysOf_129 : decode cX0_waysOf 129 = .ok (.istore 6, 2) := by decide +kernel
theorem dX0_waysOf_131 : decode cX0_waysOf 131 = .ok (.iload 6, 2) := by decide +kernel
theorem dX0_waysOf_133 : decode cX0_waysOf 133 = .ok (.aload_n 1, 1) := by decide +kernel
theorem dX0_waysOf_134 : decode cX0_waysOf 134 = .ok (.getfield 48, 3) := by decide +kernel
theorem dX0_waysOf_137 : decode cX0_waysOf 137 = .ok (.if_icmp .ge 23, 3) := by decide +kernel
theorem dX0_waysOf_140 : decode cX0_waysOf 140 = .ok (.lload 4, 2) := by decide +kernel
theorem dX0_waysOf_142 : decode cX0_waysOf 142 = .ok (.aload_n 0, 1) := by decide +kernel
theorem dX0_waysOf_143 : decode cX0_waysOf 143 = .ok (.getfield 18, 3) := by decide +kernel
theorem dX0_waysOf_146 : decode cX0_waysOf 146 = .ok (.iload 6, 2) := by decide +kernel
theorem dX0_waysOf_148 : decode cX0_waysOf 148 = .ok (.invokevirtual 44, 3) := by decide +kernel
theorem dX0_waysOf_151 : decode cX0_waysOf 151 = .ok (.ladd, 1) := by decide +kernel
theorem dX0_waysOf_152 : decode cX0_waysOf 152 = .ok (.lstore 4, 2) := by decide +kernel
theorem dX0_waysOf_154 : decode cX0_waysOf 154 = .ok (.iinc 6 1, 3) := by decide +kernel
theorem dX0_waysOf_157 : decode cX0_waysOf 157 = .ok (.goto (-26), 3) := by decide +kernel
theorem dX0_waysOf_160 : decode cX0_waysOf 160 = .ok (.lload 4, 2) := by decide +kernel
theorem dX0_waysOf_162 : decode cX0_waysOf 162 = .ok (.l2i, 1) := by decide +kernel
theorem dX0_waysOf_163 : decode cX0_waysOf 163 = .ok (.ireturn, 1) := by decide +kernel
theorem dX1_init_0 : decode cX1_init 0 = .ok (.aload_n 0, 1) := by decide +kernel
theorem dX1_init_1 : decode cX1_init 1 = .ok (.invokespecial 3, 3) := by decide +kernel
theorem dX1_init_4 : decode cX1_init 4 = .ok (.aload_n 0, 1) := by decide +kernel
theorem dX1_init_5 : decode cX1_init 5 = .ok (.bipush 8, 2) := by decide +kernel
theorem dX1_init_7 : decode cX1_init 7 = .ok (.newarray .int, 2) := by decide +kernel
theorem dX1_init_9 : decode cX1_init 9 = .ok (.putfield 9, 3) := by decide +kernel
theorem dX1_init_12 : decode cX1_init 12 = .ok (.return_, 1) := by decide +kernel
set_option maxRecDepth 20000 in
theorem ggX1_handsByRule_X1_leastHad : GoodIn wsX1_handsByRule wsX1_leastHad := goodIn_r _ [6, 7, 1, 8, 9, 10, 11, 12, 13, 14, 15, 16, 17, 18, 25, 26, 27, 28, 29, 30, 24] (by decide +kernel) (by decide +kernel)
set_option maxRecDepth 20000 in
theorem gX1_handsByRule_X1_leastHad : GoodIn wsX1_handsByRule (wsV RX1 15 RX1 yX1_leastHad wsX1_leastHad) := goodIn_app (goodIn_of _ (by decide +kernel)) ggX1_handsByRule_X1_leastHad
set_option maxRecDepth 20000 in
theorem ggX1_handsByRule_X3_has : GoodIn wsX1_handsByRule wsX3_has := goodIn_r _ [17, 18, 25, 26, 27, 28, 29, 30] (by decide +kernel) (by decide +kernel)
set_option maxRecDepth 20000 in
theorem gX1_handsByRule_X3_has : GoodIn wsX1_handsByRule (wsV RX1 19 RX3 yX3_has wsX3_has) := goodIn_app (goodIn_of _ (by decide +kernel)) ggX1_handsByRule_X3_has
set_option maxRecDepth 20000 in
theorem ggX1_handsByRule_X3_allBits : GoodIn wsX1_handsByRule wsX3_allBits := goodIn_r _ [23, 18, 25, 26, 27, 28, 29, 30] (by decide +kernel) (by decide +kernel)
set_option maxRecDepth 20000 in
theorem gX1_handsByRule_X3_allBits : GoodIn wsX1_handsByRule (wsV RX1 25 RX3 yX3_allBits wsX3_allBits) := goodIn_app (goodIn_of _ (by decide +kernel)) ggX1_handsByRule_X3_allBits
theorem dX1_handsByRule_0 : decode cX1_handsByRule 0 = .ok (.iconst 0, 1) := by decide +kernel
theorem dX1_handsByRule_1 : decode cX1_handsByRule 1 = .ok (.istore_n 3, 1) := by decide +kernel
theorem dX1_handsByRule_2 : decode cX1_handsByRule 2 = .ok (.iload_n 3, 1) := by decide +kernel
theorem dX1_handsByRule_3 : decode cX1_handsByRule 3 = .ok (.bipush 8, 2) := by decide +kernel
theorem dX1_handsByRule_5 : decode cX1_handsByRule 5 = .ok (.if_icmp .ge 25, 3) := by decide +kernel
theorem dX1_handsByRule_8 : decode cX1_handsByRule 8 = .ok (.aload_n 0, 1) := by decide +kernel
theorem dX1_handsByRule_9 : decode cX1_handsByRule 9 = .ok (.getfield 9, 3) := by decide +kernel
theorem dX1_handsByRule_12 : decode cX1_handsByRule 12 = .ok (.iload_n 3, 1) := by decide +kernel
theorem dX1_handsByRule_13 : decode cX1_handsByRule 13 = .ok (.iload_n 3, 1) := by decide +kernel
theorem dX1_handsByRule_14 : decode cX1_handsByRule 14 = .ok (.iload_n 2, 1) := by decide +kernel
theorem dX1_handsByRule_15 : decode cX1_handsByRule 15 = .ok (.if_icmp .ne 7, 3) := by decide +kernel
theorem dX1_handsByRule_18 : decode cX1_handsByRule 18 = .ok (.iconst 1, 1) := by decide +kernel
theorem dX1_handsByRule_19 : decode cX1_handsByRule 19 = .ok (.goto 4, 3) := by decide +kernel
theorem dX1_handsByRule_22 : decode cX1_handsByRule 22 = .ok (.iconst 0, 1) := by decide +kernel
theorem dX1_handsByRule_23 : decode cX1_handsByRule 23 = .ok (.iastore, 1) := by decide +kernel
theorem dX1_handsByRule_24 : decode cX1_handsByRule 24 = .ok (.iinc 3 1, 3) := by decide +kernel
theorem dX1_handsByRule_27 : decode cX1_handsByRule 27 = .ok (.goto (-25), 3) := by decide +kernel
theorem dX1_handsByRule_30 : decode cX1_handsByRule 30 = .ok (.iload_n 2, 1) := by decide +kernel
theorem dX1_handsByRule_31 : decode cX1_handsByRule 31 = .ok (.istore_n 3, 1) := by decide +kernel
theorem dX1_handsByRule_32 : decode cX1_handsByRule 32 = .ok (.iconst 1, 1) := by decide +kernel
theorem dX1_handsByRule_33 : decode cX1_handsByRule 33 = .ok (.iload_n 2, 1) := by decide +kernel
theorem dX1_handsByRule_34 : decode cX1_handsByRule 34 = .ok (.ishl, 1) := by decide +kernel
theorem dX1_handsByRule_35 : decode cX1_handsByRule 35 = .ok (.istore 4, 2) := by decide +kernel
theorem dX1_handsByRule_37 : decode cX1_handsByRule 37 = .ok (.iconst 1, 1) := by decide +kernel
theorem dX1_handsByRule_38 : decode cX1_handsByRule 38 = .ok (.istore 5, 2) := by decide +kernel
theorem dX1_handsByRule_40 : decode cX1_handsByRule 40 = .ok (.iload 5, 2) := by decide +kernel
theorem dX1_handsByRule_42 : decode cX1_handsByRule 42 = .ok (.bipush 99, 2) := by decide +kernel
theorem dX1_handsByRule_44 : decode cX1_handsByRule 44 = .ok (.if_icmp .gt 57, 3) := by decide +kernel
theorem dX1_handsByRule_47 : decode cX1_handsByRule 47 = .ok (.aload_n 0, 1) := by decide +kernel
theorem dX1_handsByRule_48 : decode cX1_handsByRule 48 = .ok (.aload_n 1, 1) := by decide +kernel
theorem dX1_handsByRule_49 : decode cX1_handsByRule 49 = .ok (.iload_n 3, 1) := by decide +kernel
theorem dX1_handsByRule_50 : decode cX1_handsByRule 50 = .ok (.invokevirtual 15, 3) := by decide +kernel
theorem dX1_handsByRule_53 : decode cX1_handsByRule 53 = .ok (.istore_n 3, 1) := by decide +kernel
theorem dX1_handsByRule_54 : decode cX1_handsByRule 54 = .ok (.aload_n 1, 1) := by decide +kernel
theorem dX1_handsByRule_55 : decode cX1_handsByRule 55 = .ok (.iload_n 3, 1) := by decide +kernel
theorem dX1_handsByRule_56 : decode cX1_handsByRule 56 = .ok (.invokevirtual 19, 3) := by decide +kernel
theorem dX1_handsByRule_59 : decode cX1_handsByRule 59 = .ok (.ifCond .ne 6, 3) := by decide +kernel
theorem dX1_handsByRule_62 : decode cX1_handsByRule 62 = .ok (.bipush (-9), 2) := by decide +kernel
theorem dX1_handsByRule_64 : decode cX1_handsByRule 64 = .ok (.ireturn, 1) := by decide +kernel
theorem dX1_handsByRule_65 : decode cX1_handsByRule 65 = .ok (.aload_n 0, 1) := by decide +kernel
theorem dX1_handsByRule_66 : decode cX1_handsByRule 66 = .ok (.getfield 9, 3) := by decide +kernel
theorem dX1_handsByRule_69 : decode cX1_handsByRule 69 = .ok (.iload_n 3, 1) := by decide +kernel
theorem dX1_handsByRule_70 : decode cX1_handsByRule 70 = .ok (.dup2, 1) := by decide +kernel
theorem dX1_handsByRule_71 : decode cX1_handsByRule 71 = .ok (.iaload, 1) := by decide +kernel
theorem dX1_handsByRule_72 : decode cX1_handsByRule 72 = .ok (.iconst 1, 1) := by decide +kernel
theorem dX1_handsByRule_73 : decode cX1_handsByRule 73 = .ok (.iadd, 1) := by decide +kernel
theorem dX1_handsByRule_74 : decode cX1_handsByRule 74 = .ok (.iastore, 1) := by decide +kernel
theorem dX1_handsByRule_75 : decode cX1_handsByRule 75 = .ok (.iload 4, 2) := by decide +kernel
theorem dX1_handsByRule_77 : decode cX1_handsByRule 77 = .ok (.iconst 1, 1) := by decide +kernel
theorem dX1_handsByRule_78 : decode cX1_handsByRule 78 = .ok (.iload_n 3, 1) := by decide +kernel
theorem dX1_handsByRule_79 : decode cX1_handsByRule 79 = .ok (.ishl, 1) := by decide +kernel
theorem dX1_handsByRule_80 : decode cX1_handsByRule 80 = .ok (.ior, 1) := by decide +kernel
theorem dX1_handsByRule_81 : decode cX1_handsByRule 81 = .ok (.istore 4, 2) := by decide +kernel
theorem dX1_handsByRule_83 : decode cX1_handsByRule 83 = .ok (.iload 4, 2) := by decide +kernel
theorem dX1_handsByRule_85 : decode cX1_handsByRule 85 = .ok (.aload_n 1, 1) := by decide +kernel
theorem dX1_handsByRule_86 : decode cX1_handsByRule 86 = .ok (.invokevirtual 25, 3) := by decide +kernel
theorem dX1_handsByRule_89 : decode cX1_handsByRule 89 = .ok (.if_icmp .ne 6, 3) := by decide +kernel
theorem dX1_handsByRule_92 : decode cX1_handsByRule 92 = .ok (.iload 5, 2) := by decide +kernel
theorem dX1_handsByRule_94 : decode cX1_handsByRule 94 = .ok (.ireturn, 1) := by decide +kernel
theorem dX1_handsByRule_95 : decode cX1_handsByRule 95 = .ok (.iinc 5 1, 3) := by decide +kernel
theorem dX1_handsByRule_98 : decode cX1_handsByRule 98 = .ok (.goto (-58), 3) := by decide +kernel
theorem dX1_handsByRule_101 : decode cX1_handsByRule 101 = .ok (.bipush (-9), 2) := by decide +kernel
theorem dX1_handsByRule_103 : decode cX1_handsByRule 103 = .ok (.ireturn, 1) := by decide +kernel
set_option maxRecDepth 20000 in
theorem ggX1_leastHad_X3_tenthsOf : GoodIn wsX1_leastHad wsX3_tenthsOf := goodIn_r _ [7, 8, 9, 10, 11, 6, 12, 13, 14, 15, 16, 17, 18, 19] (by decide +kernel) (by decide +kernel)
set_option maxRecDepth 20000 in
theorem gX1_leastHad_X3_tenthsOf : GoodIn wsX1_leastHad (wsV RX1 33 RX3 yX3_tenthsOf wsX3_tenthsOf) := goodIn_app (goodIn_of _ (by decide +kernel)) ggX1_leastHad_X3_tenthsOf
theorem dX1_leastHad_0 : decode cX1_leastHad 0 = .ok (.bipush (-9), 2) := by decide +kernel
theorem dX1_leastHad_2 : decode cX1_leastHad 2 = .ok (.istore_n 3, 1) := by decide +kernel
theorem dX1_leastHad_3 : decode cX1_leastHad 3 = .ok (.iconst 0, 1) := by decide +kernel
theorem dX1_leastHad_4 : decode cX1_leastHad 4 = .ok (.istore 4, 2) := by decide +kernel
theorem dX1_leastHad_6 : decode cX1_leastHad 6 = .ok (.iload 4, 2) := by decide +kernel
theorem dX1_leastHad_8 : decode cX1_leastHad 8 = .ok (.aload_n 1, 1) := by decide +kernel
theorem dX1_leastHad_9 : decode cX1_leastHad 9 = .ok (.getfield 29, 3) := by decide +kernel
theorem dX1_leastHad_12 : decode cX1_leastHad 12 = .ok (.if_icmp .ge 49, 3) := by decide +kernel
theorem dX1_leastHad_15 : decode cX1_leastHad 15 = .ok (.iload 4, 2) := by decide +kernel
theorem dX1_leastHad_17 : decode cX1_leastHad 17 = .ok (.bipush 8, 2) := by decide +kernel
theorem dX1_leastHad_19 : decode cX1_leastHad 19 = .ok (.if_icmp .ge 42, 3) := by decide +kernel
theorem dX1_leastHad_22 : decode cX1_leastHad 22 = .ok (.aload_n 1, 1) := by decide +kernel
theorem dX1_leastHad_23 : decode cX1_leastHad 23 = .ok (.iload_n 2, 1) := by decide +kernel
theorem dX1_leastHad_24 : decode cX1_leastHad 24 = .ok (.iload 4, 2) := by decide +kernel
theorem dX1_leastHad_26 : decode cX1_leastHad 26 = .ok (.invokevirtual 33, 3) := by decide +kernel
theorem dX1_leastHad_29 : decode cX1_leastHad 29 = .ok (.ifCond .le 26, 3) := by decide +kernel
theorem dX1_leastHad_32 : decode cX1_leastHad 32 = .ok (.iload_n 3, 1) := by decide +kernel
theorem dX1_leastHad_33 : decode cX1_leastHad 33 = .ok (.ifCond .lt 19, 3) := by decide +kernel
theorem dX1_leastHad_36 : decode cX1_leastHad 36 = .ok (.aload_n 0, 1) := by decide +kernel
theorem dX1_leastHad_37 : decode cX1_leastHad 37 = .ok (.getfield 9, 3) := by decide +kernel
theorem dX1_leastHad_40 : decode cX1_leastHad 40 = .ok (.iload 4, 2) := by decide +kernel
theorem dX1_leastHad_42 : decode cX1_leastHad 42 = .ok (.iaload, 1) := by decide +kernel
theorem dX1_leastHad_43 : decode cX1_leastHad 43 = .ok (.aload_n 0, 1) := by decide +kernel
theorem dX1_leastHad_44 : decode cX1_leastHad 44 = .ok (.getfield 9, 3) := by decide +kernel
theorem dX1_leastHad_47 : decode cX1_leastHad 47 = .ok (.iload_n 3, 1) := by decide +kernel
theorem dX1_leastHad_48 : decode cX1_leastHad 48 = .ok (.iaload, 1) := by decide +kernel
theorem dX1_leastHad_49 : decode cX1_leastHad 49 = .ok (.if_icmp .ge 6, 3) := by decide +kernel
theorem dX1_leastHad_52 : decode cX1_leastHad 52 = .ok (.iload 4, 2) := by decide +kernel
theorem dX1_leastHad_54 : decode cX1_leastHad 54 = .ok (.istore_n 3, 1) := by decide +kernel
theorem dX1_leastHad_55 : decode cX1_leastHad 55 = .ok (.iinc 4 1, 3) := by decide +kernel
theorem dX1_leastHad_58 : decode cX1_leastHad 58 = .ok (.goto (-52), 3) := by decide +kernel
theorem dX1_leastHad_61 : decode cX1_leastHad 61 = .ok (.iload_n 3, 1) := by decide +kernel
theorem dX1_leastHad_62 : decode cX1_leastHad 62 = .ok (.ireturn, 1) := by decide +kernel
set_option maxRecDepth 20000 in
theorem ggX1_drawOne_X3_stays : GoodIn wsX1_drawOne wsX3_stays := goodIn_r _ [10, 11, 12, 13, 9, 14, 15, 16, 17, 18, 19, 20, 42, 43, 44, 45, 46, 47] (by decide +kernel) (by decide +kernel)
set_option maxRecDepth 20000 in
theorem gX1_drawOne_X3_stays : GoodIn wsX1_drawOne (wsV RX1 42 RX3 yX3_stays wsX3_stays) := goodIn_app (goodIn_of _ (by decide +kernel)) ggX1_drawOne_X3_stays
set_option maxRecDepth 20000 in
theorem ggX1_drawOne_X1_drawnSeat : GoodIn wsX1_drawOne wsX1_drawnSeat := goodIn_r _ [25, 26, 27, 12, 13, 9, 14, 15, 16, 17, 18, 19, 20, 42, 43, 44, 45, 46, 47] (by decide +kernel) (by decide +kernel)
set_option maxRecDepth 20000 in
theorem gX1_drawOne_X1_drawnSeat : GoodIn wsX1_drawOne (wsV RX1 55 RX1 yX1_drawnSeat wsX1_drawnSeat) := goodIn_app (goodIn_of _ (by decide +kernel)) ggX1_drawOne_X1_drawnSeat
set_option maxRecDepth 20000 in
theorem ggX1_drawOne_X3_allBits : GoodIn wsX1_drawOne wsX3_allBits := goodIn_r _ [31, 20, 42, 43, 44, 45, 46, 47] (by decide +kernel) (by decide +kernel)
set_option maxRecDepth 20000 in
theorem gX1_drawOne_X3_allBits : GoodIn wsX1_drawOne (wsV RX1 25 RX3 yX3_allBits wsX3_allBits) := goodIn_app (goodIn_of _ (by decide +kernel)) ggX1_drawOne_X3_allBits
theorem dX1_drawOne_0 : decode cX1_drawOne 0 = .ok (.aload_n 2, 1) := by decide +kernel
theorem dX1_drawOne_1 : decode cX1_drawOne 1 = .ok (.getfield 37, 3) := by decide +kernel
theorem dX1_drawOne_4 : decode cX1_drawOne 4 = .ok (.istore_n 3, 1) := by decide +kernel
theorem dX1_drawOne_5 : decode cX1_drawOne 5 = .ok (.iconst 1, 1) := by decide +kernel
theorem dX1_drawOne_6 : decode cX1_drawOne 6 = .ok (.iload_n 3, 1) := by decide +kernel
theorem dX1_drawOne_7 : decode cX1_drawOne 7 = .ok (.ishl, 1) := by decide +kernel
theorem dX1_drawOne_8 : decode cX1_drawOne 8 = .ok (.istore 4, 2) := by decide +kernel
theorem dX1_drawOne_10 : decode cX1_drawOne 10 = .ok (.iconst 1, 1) := by decide +kernel
theorem dX1_drawOne_11 : decode cX1_drawOne 11 = .ok (.istore 5, 2) := by decide +kernel
theorem dX1_drawOne_13 : decode cX1_drawOne 13 = .ok (.iload 5, 2) := by decide +kernel
theorem dX1_drawOne_15 : decode cX1_drawOne 15 = .ok (.sipush 200, 3) := by decide +kernel
theorem dX1_drawOne_18 : decode cX1_drawOne 18 = .ok (.if_icmp .gt 80, 3) := by decide +kernel
theorem dX1_drawOne_21 : decode cX1_drawOne 21 = .ok (.aload_n 1, 1) := by decide +kernel
theorem dX1_drawOne_22 : decode cX1_drawOne 22 = .ok (.iload_n 3, 1) := by decide +kernel
theorem dX1_drawOne_23 : decode cX1_drawOne 23 = .ok (.invokevirtual 42, 3) := by decide +kernel
theorem dX1_drawOne_26 : decode cX1_drawOne 26 = .ok (.ifCond .eq 6, 3) := by decide +kernel
theorem dX1_drawOne_29 : decode cX1_drawOne 29 = .ok (.bipush (-9), 2) := by decide +kernel
theorem dX1_drawOne_31 : decode cX1_drawOne 31 = .ok (.ireturn, 1) := by decide +kernel
theorem dX1_drawOne_32 : decode cX1_drawOne 32 = .ok (.aload_n 2, 1) := by decide +kernel
theorem dX1_drawOne_33 : decode cX1_drawOne 33 = .ok (.aload_n 2, 1) := by decide +kernel
theorem dX1_drawOne_34 : decode cX1_drawOne 34 = .ok (.getfield 45, 3) := by decide +kernel
theorem dX1_drawOne_37 : decode cX1_drawOne 37 = .ok (.ldc2_w 49, 3) := by decide +kernel
theorem dX1_drawOne_40 : decode cX1_drawOne 40 = .ok (.lmul, 1) := by decide +kernel
theorem dX1_drawOne_41 : decode cX1_drawOne 41 = .ok (.ldc2_w 51, 3) := by decide +kernel
theorem dX1_drawOne_44 : decode cX1_drawOne 44 = .ok (.ladd, 1) := by decide +kernel
theorem dX1_drawOne_45 : decode cX1_drawOne 45 = .ok (.putfield 45, 3) := by decide +kernel
theorem dX1_drawOne_48 : decode cX1_drawOne 48 = .ok (.aload_n 0, 1) := by decide +kernel
theorem dX1_drawOne_49 : decode cX1_drawOne 49 = .ok (.aload_n 1, 1) := by decide +kernel
theorem dX1_drawOne_50 : decode cX1_drawOne 50 = .ok (.iload_n 3, 1) := by decide +kernel
theorem dX1_drawOne_51 : decode cX1_drawOne 51 = .ok (.aload_n 2, 1) := by decide +kernel
theorem dX1_drawOne_52 : decode cX1_drawOne 52 = .ok (.getfield 45, 3) := by decide +kernel
theorem dX1_drawOne_55 : decode cX1_drawOne 55 = .ok (.bipush 33, 2) := by decide +kernel
theorem dX1_drawOne_57 : decode cX1_drawOne 57 = .ok (.lushr, 1) := by decide +kernel
theorem dX1_drawOne_58 : decode cX1_drawOne 58 = .ok (.ldc2_w 53, 3) := by decide +kernel
theorem dX1_drawOne_61 : decode cX1_drawOne 61 = .ok (.lrem, 1) := by decide +kernel
theorem dX1_drawOne_62 : decode cX1_drawOne 62 = .ok (.l2i, 1) := by decide +kernel
theorem dX1_drawOne_63 : decode cX1_drawOne 63 = .ok (.invokevirtual 55, 3) := by decide +kernel
theorem dX1_drawOne_66 : decode cX1_drawOne 66 = .ok (.istore_n 3, 1) := by decide +kernel
theorem dX1_drawOne_67 : decode cX1_drawOne 67 = .ok (.iload 4, 2) := by decide +kernel
theorem dX1_drawOne_69 : decode cX1_drawOne 69 = .ok (.iconst 1, 1) := by decide +kernel
theorem dX1_drawOne_70 : decode cX1_drawOne 70 = .ok (.iload_n 3, 1) := by decide +kernel
theorem dX1_drawOne_71 : decode cX1_drawOne 71 = .ok (.ishl, 1) := by decide +kernel
theorem dX1_drawOne_72 : decode cX1_drawOne 72 = .ok (.ior, 1) := by decide +kernel
theorem dX1_drawOne_73 : decode cX1_drawOne 73 = .ok (.istore 4, 2) := by decide +kernel
theorem dX1_drawOne_75 : decode cX1_drawOne 75 = .ok (.iload 4, 2) := by decide +kernel
theorem dX1_drawOne_77 : decode cX1_drawOne 77 = .ok (.aload_n 1, 1) := by decide +kernel
theorem dX1_drawOne_78 : decode cX1_drawOne 78 = .ok (.invokevirtual 25, 3) := by decide +kernel
theorem dX1_drawOne_81 : decode cX1_drawOne 81 = .ok (.if_icmp .ne 11, 3) := by decide +kernel
theorem dX1_drawOne_84 : decode cX1_drawOne 84 = .ok (.iload 5, 2) := by decide +kernel
theorem dX1_drawOne_86 : decode cX1_drawOne 86 = .ok (.bipush 10, 2) := by decide +kernel
theorem dX1_drawOne_88 : decode cX1_drawOne 88 = .ok (.imul, 1) := by decide +kernel
theorem dX1_drawOne_89 : decode cX1_drawOne 89 = .ok (.iload_n 3, 1) := by decide +kernel
theorem dX1_drawOne_90 : decode cX1_drawOne 90 = .ok (.iadd, 1) := by decide +kernel
theorem dX1_drawOne_91 : decode cX1_drawOne 91 = .ok (.ireturn, 1) := by decide +kernel
theorem dX1_drawOne_92 : decode cX1_drawOne 92 = .ok (.iinc 5 1, 3) := by decide +kernel
theorem dX1_drawOne_95 : decode cX1_drawOne 95 = .ok (.goto (-82), 3) := by decide +kernel
theorem dX1_drawOne_98 : decode cX1_drawOne 98 = .ok (.bipush (-9), 2) := by decide +kernel
theorem dX1_drawOne_100 : decode cX1_drawOne 100 = .ok (.ireturn, 1) := by decide +kernel
set_option maxRecDepth 20000 in
theorem ggX1_drawnSeat_X3_tenthsOf : GoodIn wsX1_drawnSeat wsX3_tenthsOf := goodIn_r _ [6, 7, 8, 9, 10, 5, 11, 12, 13, 14, 15, 16, 17, 18] (by decide +kernel) (by decide +kernel)
set_option maxRecDepth 20000 in
theorem gX1_drawnSeat_X3_tenthsOf : GoodIn wsX1_drawnSeat (wsV RX1 33 RX3 yX3_tenthsOf wsX3_tenthsOf) := goodIn_app (goodIn_of _ (by decide +kernel)) ggX1_drawnSeat_X3_tenthsOf
theorem dX1_drawnSeat_0 : decode cX1_drawnSeat 0 = .ok (.iload_n 3, 1) := by decide +kernel
theorem dX1_drawnSeat_1 : decode cX1_drawnSeat 1 = .ok (.istore 4, 2) := by decide +kernel
theorem dX1_drawnSeat_3 : decode cX1_drawnSeat 3 = .ok (.iconst 0, 1) := by decide +kernel
theorem dX1_drawnSeat_4 : decode cX1_drawnSeat 4 = .ok (.istore 5, 2) := by decide +kernel
theorem dX1_drawnSeat_6 : decode cX1_drawnSeat 6 = .ok (.iload 5, 2) := by decide +kernel
theorem dX1_drawnSeat_8 : decode cX1_drawnSeat 8 = .ok (.aload_n 1, 1) := by decide +kernel
theorem dX1_drawnSeat_9 : decode cX1_drawnSeat 9 = .ok (.getfield 29, 3) := by decide +kernel
theorem dX1_drawnSeat_12 : decode cX1_drawnSeat 12 = .ok (.if_icmp .ge 29, 3) := by decide +kernel
theorem dX1_drawnSeat_15 : decode cX1_drawnSeat 15 = .ok (.iload 4, 2) := by decide +kernel
theorem dX1_drawnSeat_17 : decode cX1_drawnSeat 17 = .ok (.aload_n 1, 1) := by decide +kernel
theorem dX1_drawnSeat_18 : decode cX1_drawnSeat 18 = .ok (.iload_n 2, 1) := by decide +kernel
theorem dX1_drawnSeat_19 : decode cX1_drawnSeat 19 = .ok (.iload 5, 2) := by decide +kernel
theorem dX1_drawnSeat_21 : decode cX1_drawnSeat 21 = .ok (.invokevirtual 33, 3) := by decide +kernel
theorem dX1_drawnSeat_24 : decode cX1_drawnSeat 24 = .ok (.isub, 1) := by decide +kernel
theorem dX1_drawnSeat_25 : decode cX1_drawnSeat 25 = .ok (.istore 4, 2) := by decide +kernel
theorem dX1_drawnSeat_27 : decode cX1_drawnSeat 27 = .ok (.iload 4, 2) := by decide +kernel
theorem dX1_drawnSeat_29 : decode cX1_drawnSeat 29 = .ok (.ifCond .ge 6, 3) := by decide +kernel
theorem dX1_drawnSeat_32 : decode cX1_drawnSeat 32 = .ok (.iload 5, 2) := by decide +kernel
theorem dX1_drawnSeat_34 : decode cX1_drawnSeat 34 = .ok (.ireturn, 1) := by decide +kernel
theorem dX1_drawnSeat_35 : decode cX1_drawnSeat 35 = .ok (.iinc 5 1, 3) := by decide +kernel
theorem dX1_drawnSeat_38 : decode cX1_drawnSeat 38 = .ok (.goto (-32), 3) := by decide +kernel
theorem dX1_drawnSeat_41 : decode cX1_drawnSeat 41 = .ok (.iload_n 2, 1) := by decide +kernel
theorem dX1_drawnSeat_42 : decode cX1_drawnSeat 42 = .ok (.ireturn, 1) := by decide +kernel
theorem dX2_init_0 : decode cX2_init 0 = .ok (.aload_n 0, 1) := by decide +kernel
theorem dX2_init_1 : decode cX2_init 1 = .ok (.invokespecial 3, 3) := by decide +kernel
theorem dX2_init_4 : decode cX2_init 4 = .ok (.aload_n 0, 1) := by decide +kernel
theorem dX2_init_5 : decode cX2_init 5 = .ok (.bipush 72, 2) := by decide +kernel
theorem dX2_init_7 : decode cX2_init 7 = .ok (.newarray .long, 2) := by decide +kernel
theorem dX2_init_9 : decode cX2_init 9 = .ok (.putfield 11, 3) := by decide +kernel
theorem dX2_init_12 : decode cX2_init 12 = .ok (.aload_n 0, 1) := by decide +kernel
theorem dX2_init_13 : decode cX2_init 13 = .ok (.bipush 8, 2) := by decide +kernel
theorem dX2_init_15 : decode cX2_init 15 = .ok (.newarray .int, 2) := by decide +kernel
theorem dX2_init_17 : decode cX2_init 17 = .ok (.putfield 15, 3) := by decide +kernel
theorem dX2_init_20 : decode cX2_init 20 = .ok (.return_, 1) := by decide +kernel
set_option maxRecDepth 20000 in
theorem ggX2_solve_X2_seatsMet : GoodIn wsX2_solve wsX2_seatsMet := goodIn_r _ [7, 8, 9, 10, 11, 6, 12, 13, 14, 15, 16, 17, 18, 19, 20, 21, 22, 23, 61, 62, 63, 64, 65, 66] (by decide +kernel) (by decide +kernel)
set_option maxRecDepth 20000 in
theorem gX2_solve_X2_seatsMet : GoodIn wsX2_solve (wsV RX2 26 RX2 yX2_seatsMet wsX2_seatsMet) := goodIn_app (goodIn_of _ (by decide +kernel)) ggX2_solve_X2_seatsMet
set_option maxRecDepth 20000 in
theorem ggX2_solve_X2_seatsLeadingTo : GoodIn wsX2_solve wsX2_seatsLeadingTo := goodIn_r _ [27, 8, 9, 10, 11, 6, 12, 13, 14, 15, 16, 17, 18, 19, 20, 21, 22, 23, 61, 62, 63, 64, 65, 66] (by decide +kernel) (by decide +kernel)
set_option maxRecDepth 20000 in
theorem gX2_solve_X2_seatsLeadingTo : GoodIn wsX2_solve (wsV RX2 30 RX2 yX2_seatsLeadingTo wsX2_seatsLeadingTo) := goodIn_app (goodIn_of _ (by decide +kernel)) ggX2_solve_X2_seatsLeadingTo
set_option maxRecDepth 20000 in
theorem ggX2_solve_X2_putInOrder : GoodIn wsX2_solve wsX2_putInOrder := goodIn_r _ [31, 32, 8, 33, 56, 57, 58, 59, 60, 61, 62, 63, 64, 65, 66] (by decide +kernel) (by decide +kernel)
set_option maxRecDepth 20000 in
theorem gX2_solve_X2_putInOrder : GoodIn wsX2_solve (wsV RX2 34 RX2 yX2_putInOrder wsX2_putInOrder) := goodIn_app (goodIn_of _ (by decide +kernel)) ggX2_solve_X2_putInOrder
set_option maxRecDepth 20000 in
theorem ggX2_solve_X2_fill : GoodIn wsX2_solve wsX2_fill := goodIn_r _ [37, 32, 33, 38, 13, 14, 15, 16, 17, 18, 19, 20, 21, 22, 23, 39, 40, 41, 6, 42, 43, 56, 57, 58, 59, 60, 61, 62, 63, 64, 65, 66] (by decide +kernel) (by decide +kernel)
set_option maxRecDepth 20000 in
theorem gX2_solve_X2_fill : GoodIn wsX2_solve (wsV RX2 38 RX2 yX2_fill wsX2_fill) := goodIn_app (goodIn_of _ (by decide +kernel)) ggX2_solve_X2_fill
set_option maxRecDepth 20000 in
theorem ggX2_solve_X2_eliminate : GoodIn wsX2_solve wsX2_eliminate := goodIn_r _ [47, 32, 1, 2, 48, 49, 50, 6, 51, 52, 53, 54, 55, 43, 39, 40, 41, 42, 56, 57, 58, 59, 60] (by decide +kernel) (by decide +kernel)
set_option maxRecDepth 20000 in
theorem gX2_solve_X2_eliminate : GoodIn wsX2_solve (wsV RX2 42 RX2 yX2_eliminate wsX2_eliminate) := goodIn_app (goodIn_of _ (by decide +kernel)) ggX2_solve_X2_eliminate
theorem dX2_solve_0 : decode cX2_solve 0 = .ok (.aload_n 0, 1) := by decide +kernel
theorem dX2_solve_1 : decode cX2_solve 1 = .ok (.lconst 0, 1) := by decide +kernel
theorem dX2_solve_2 : decode cX2_solve 2 = .ok (.putfield 19, 3) := by decide +kernel
theorem dX2_solve_5 : decode cX2_solve 5 = .ok (.aload_n 0, 1) := by decide +kernel
theorem dX2_solve_6 : decode cX2_solve 6 = .ok (.lconst 1, 1) := by decide +kernel
theorem dX2_solve_7 : decode cX2_solve 7 = .ok (.putfield 23, 3) := by decide +kernel
theorem dX2_solve_10 : decode cX2_solve 10 = .ok (.iload_n 2, 1) := by decide +kernel
theorem dX2_solve_11 : decode cX2_solve 11 = .ok (.iload_n 3, 1) := by decide +kernel
theorem dX2_solve_12 : decode cX2_solve 12 = .ok (.if_icmp .ne 5, 3) := by decide +kernel
theorem dX2_solve_15 : decode cX2_solve 15 = .ok (.iconst 1, 1) := by decide +kernel
theorem dX2_solve_16 : decode cX2_solve 16 = .ok (.ireturn, 1) := by decide +kernel
theorem dX2_solve_17 : decode cX2_solve 17 = .ok (.aload_n 0, 1) := by decide +kernel
theorem dX2_solve_18 : decode cX2_solve 18 = .ok (.aload_n 1, 1) := by decide +kernel
theorem dX2_solve_19 : decode cX2_solve 19 = .ok (.iload_n 2, 1) := by decide +kernel
theorem dX2_solve_20 : decode cX2_solve 20 = .ok (.iload_n 3, 1) := by decide +kernel
theorem dX2_solve_21 : decode cX2_solve 21 = .ok (.invokevirtual 26, 3) := by decide +kernel
theorem dX2_solve_24 : decode cX2_solve 24 = .ok (.istore 4, 2) := by decide +kernel
theorem dX2_solve_26 : decode cX2_solve 26 = .ok (.iload 4, 2) := by decide +kernel
theorem dX2_solve_28 : decode cX2_solve 28 = .ok (.aload_n 0, 1) := by decide +kernel
theorem dX2_solve_29 : decode cX2_solve 29 = .ok (.aload_n 1, 1) := by decide +kernel
theorem dX2_solve_30 : decode cX2_solve 30 = .ok (.iload_n 3, 1) := by decide +kernel
theorem dX2_solve_31 : decode cX2_solve 31 = .ok (.invokevirtual 30, 3) := by decide +kernel
theorem dX2_solve_34 : decode cX2_solve 34 = .ok (.iconst (-1), 1) := by decide +kernel
theorem dX2_solve_35 : decode cX2_solve 35 = .ok (.ixor, 1) := by decide +kernel
theorem dX2_solve_36 : decode cX2_solve 36 = .ok (.iand, 1) := by decide +kernel
theorem dX2_solve_37 : decode cX2_solve 37 = .ok (.ifCond .eq 5, 3) := by decide +kernel
theorem dX2_solve_40 : decode cX2_solve 40 = .ok (.iconst 0, 1) := by decide +kernel
theorem dX2_solve_41 : decode cX2_solve 41 = .ok (.ireturn, 1) := by decide +kernel
theorem dX2_solve_42 : decode cX2_solve 42 = .ok (.aload_n 0, 1) := by decide +kernel
theorem dX2_solve_43 : decode cX2_solve 43 = .ok (.aload_n 1, 1) := by decide +kernel
theorem dX2_solve_44 : decode cX2_solve 44 = .ok (.iload 4, 2) := by decide +kernel
theorem dX2_solve_46 : decode cX2_solve 46 = .ok (.iload_n 2, 1) := by decide +kernel
theorem dX2_solve_47 : decode cX2_solve 47 = .ok (.iload_n 3, 1) := by decide +kernel
theorem dX2_solve_48 : decode cX2_solve 48 = .ok (.invokevirtual 34, 3) := by decide +kernel
theorem dX2_solve_51 : decode cX2_solve 51 = .ok (.aload_n 0, 1) := by decide +kernel
theorem dX2_solve_52 : decode cX2_solve 52 = .ok (.aload_n 1, 1) := by decide +kernel
theorem dX2_solve_53 : decode cX2_solve 53 = .ok (.invokevirtual 38, 3) := by decide +kernel
theorem dX2_solve_56 : decode cX2_solve 56 = .ok (.aload_n 0, 1) := by decide +kernel
theorem dX2_solve_57 : decode cX2_solve 57 = .ok (.invokevirtual 42, 3) := by decide +kernel
theorem dX2_solve_60 : decode cX2_solve 60 = .ok (.ireturn, 1) := by decide +kernel
set_option maxRecDepth 20000 in
theorem ggX2_seatsMet_X2_nextBits : GoodIn wsX2_seatsMet wsX2_nextBits := goodIn_r _ [6, 1, 7, 8, 9, 10, 11, 12, 13, 14, 15, 16, 17, 18, 19, 20, 21, 22, 23] (by decide +kernel) (by decide +kernel)
set_option maxRecDepth 20000 in
theorem gX2_seatsMet_X2_nextBits : GoodIn wsX2_seatsMet (wsV RX2 52 RX2 yX2_nextBits wsX2_nextBits) := goodIn_app (goodIn_of _ (by decide +kernel)) ggX2_seatsMet_X2_nextBits
theorem dX2_seatsMet_0 : decode cX2_seatsMet 0 = .ok (.iconst 1, 1) := by decide +kernel
theorem dX2_seatsMet_1 : decode cX2_seatsMet 1 = .ok (.iload_n 2, 1) := by decide +kernel
theorem dX2_seatsMet_2 : decode cX2_seatsMet 2 = .ok (.ishl, 1) := by decide +kernel
theorem dX2_seatsMet_3 : decode cX2_seatsMet 3 = .ok (.istore 4, 2) := by decide +kernel
theorem dX2_seatsMet_5 : decode cX2_seatsMet 5 = .ok (.iconst 0, 1) := by decide +kernel
theorem dX2_seatsMet_6 : decode cX2_seatsMet 6 = .ok (.istore 5, 2) := by decide +kernel
theorem dX2_seatsMet_8 : decode cX2_seatsMet 8 = .ok (.iload 5, 2) := by decide +kernel
theorem dX2_seatsMet_10 : decode cX2_seatsMet 10 = .ok (.aload_n 1, 1) := by decide +kernel
theorem dX2_seatsMet_11 : decode cX2_seatsMet 11 = .ok (.getfield 46, 3) := by decide +kernel
theorem dX2_seatsMet_14 : decode cX2_seatsMet 14 = .ok (.if_icmp .ge 56, 3) := by decide +kernel
theorem dX2_seatsMet_17 : decode cX2_seatsMet 17 = .ok (.iconst 0, 1) := by decide +kernel
theorem dX2_seatsMet_18 : decode cX2_seatsMet 18 = .ok (.istore 6, 2) := by decide +kernel
theorem dX2_seatsMet_20 : decode cX2_seatsMet 20 = .ok (.iload 6, 2) := by decide +kernel
theorem dX2_seatsMet_22 : decode cX2_seatsMet 22 = .ok (.aload_n 1, 1) := by decide +kernel
theorem dX2_seatsMet_23 : decode cX2_seatsMet 23 = .ok (.getfield 46, 3) := by decide +kernel
theorem dX2_seatsMet_26 : decode cX2_seatsMet 26 = .ok (.if_icmp .ge 38, 3) := by decide +kernel
theorem dX2_seatsMet_29 : decode cX2_seatsMet 29 = .ok (.iload 4, 2) := by decide +kernel
theorem dX2_seatsMet_31 : decode cX2_seatsMet 31 = .ok (.iload 6, 2) := by decide +kernel
theorem dX2_seatsMet_33 : decode cX2_seatsMet 33 = .ok (.ishr, 1) := by decide +kernel
theorem dX2_seatsMet_34 : decode cX2_seatsMet 34 = .ok (.iconst 1, 1) := by decide +kernel
theorem dX2_seatsMet_35 : decode cX2_seatsMet 35 = .ok (.iand, 1) := by decide +kernel
theorem dX2_seatsMet_36 : decode cX2_seatsMet 36 = .ok (.iconst 1, 1) := by decide +kernel
theorem dX2_seatsMet_37 : decode cX2_seatsMet 37 = .ok (.if_icmp .ne 21, 3) := by decide +kernel
theorem dX2_seatsMet_40 : decode cX2_seatsMet 40 = .ok (.iload 6, 2) := by decide +kernel
theorem dX2_seatsMet_42 : decode cX2_seatsMet 42 = .ok (.iload_n 3, 1) := by decide +kernel
theorem dX2_seatsMet_43 : decode cX2_seatsMet 43 = .ok (.if_icmp .eq 15, 3) := by decide +kernel
theorem dX2_seatsMet_46 : decode cX2_seatsMet 46 = .ok (.iload 4, 2) := by decide +kernel
theorem dX2_seatsMet_48 : decode cX2_seatsMet 48 = .ok (.aload_n 0, 1) := by decide +kernel
theorem dX2_seatsMet_49 : decode cX2_seatsMet 49 = .ok (.aload_n 1, 1) := by decide +kernel
theorem dX2_seatsMet_50 : decode cX2_seatsMet 50 = .ok (.iload 6, 2) := by decide +kernel
theorem dX2_seatsMet_52 : decode cX2_seatsMet 52 = .ok (.invokevirtual 52, 3) := by decide +kernel
theorem dX2_seatsMet_55 : decode cX2_seatsMet 55 = .ok (.ior, 1) := by decide +kernel
theorem dX2_seatsMet_56 : decode cX2_seatsMet 56 = .ok (.istore 4, 2) := by decide +kernel
theorem dX2_seatsMet_58 : decode cX2_seatsMet 58 = .ok (.iinc 6 1, 3) := by decide +kernel
theorem dX2_seatsMet_61 : decode cX2_seatsMet 61 = .ok (.goto (-41), 3) := by decide +kernel
theorem dX2_seatsMet_64 : decode cX2_seatsMet 64 = .ok (.iinc 5 1, 3) := by decide +kernel
theorem dX2_seatsMet_67 : decode cX2_seatsMet 67 = .ok (.goto (-59), 3) := by decide +kernel
theorem dX2_seatsMet_70 : decode cX2_seatsMet 70 = .ok (.iload 4, 2) := by decide +kernel
theorem dX2_seatsMet_72 : decode cX2_seatsMet 72 = .ok (.ireturn, 1) := by decide +kernel
set_option maxRecDepth 20000 in
theorem ggX2_seatsLeadingTo_X2_nextBits : GoodIn wsX2_seatsLeadingTo wsX2_nextBits := goodIn_r _ [6, 1, 7, 8, 9, 10, 11, 12, 13, 14, 15, 16, 17, 18, 19, 20, 21, 22, 23] (by decide +kernel) (by decide +kernel)
set_option maxRecDepth 20000 in
theorem gX2_seatsLeadingTo_X2_nextBits : GoodIn wsX2_seatsLeadingTo (wsV RX2 52 RX2 yX2_nextBits wsX2_nextBits) := goodIn_app (goodIn_of _ (by decide +kernel)) ggX2_seatsLeadingTo_X2_nextBits
theorem dX2_seatsLeadingTo_0 : decode cX2_seatsLeadingTo 0 = .ok (.iconst 1, 1) := by decide +kernel
theorem dX2_seatsLeadingTo_1 : decode cX2_seatsLeadingTo 1 = .ok (.iload_n 2, 1) := by decide +kernel
theorem dX2_seatsLeadingTo_2 : decode cX2_seatsLeadingTo 2 = .ok (.ishl, 1) := by decide +kernel
theorem dX2_seatsLeadingTo_3 : decode cX2_seatsLeadingTo 3 = .ok (.istore_n 3, 1) := by decide +kernel
theorem dX2_seatsLeadingTo_4 : decode cX2_seatsLeadingTo 4 = .ok (.iconst 0, 1) := by decide +kernel
theorem dX2_seatsLeadingTo_5 : decode cX2_seatsLeadingTo 5 = .ok (.istore 4, 2) := by decide +kernel
theorem dX2_seatsLeadingTo_7 : decode cX2_seatsLeadingTo 7 = .ok (.iload 4, 2) := by decide +kernel
theorem dX2_seatsLeadingTo_9 : decode cX2_seatsLeadingTo 9 = .ok (.aload_n 1, 1) := by decide +kernel
theorem dX2_seatsLeadingTo_10 : decode cX2_seatsLeadingTo 10 = .ok (.getfield 46, 3) := by decide +kernel
theorem dX2_seatsLeadingTo_13 : decode cX2_seatsLeadingTo 13 = .ok (.if_icmp .ge 46, 3) := by decide +kernel
theorem dX2_seatsLeadingTo_16 : decode cX2_seatsLeadingTo 16 = .ok (.iconst 0, 1) := by decide +kernel
theorem dX2_seatsLeadingTo_17 : decode cX2_seatsLeadingTo 17 = .ok (.istore 5, 2) := by decide +kernel
theorem dX2_seatsLeadingTo_19 : decode cX2_seatsLeadingTo 19 = .ok (.iload 5, 2) := by decide +kernel
theorem dX2_seatsLeadingTo_21 : decode cX2_seatsLeadingTo 21 = .ok (.aload_n 1, 1) := by decide +kernel
theorem dX2_seatsLeadingTo_22 : decode cX2_seatsLeadingTo 22 = .ok (.getfield 46, 3) := by decide +kernel
theorem dX2_seatsLeadingTo_25 : decode cX2_seatsLeadingTo 25 = .ok (.if_icmp .ge 28, 3) := by decide +kernel
theorem dX2_seatsLeadingTo_28 : decode cX2_seatsLeadingTo 28 = .ok (.aload_n 0, 1) := by decide +kernel
theorem dX2_seatsLeadingTo_29 : decode cX2_seatsLeadingTo 29 = .ok (.aload_n 1, 1) := by decide +kernel
theorem dX2_seatsLeadingTo_30 : decode cX2_seatsLeadingTo 30 = .ok (.iload 5, 2) := by decide +kernel
theorem dX2_seatsLeadingTo_32 : decode cX2_seatsLeadingTo 32 = .ok (.invokevirtual 52, 3) := by decide +kernel
theorem dX2_seatsLeadingTo_35 : decode cX2_seatsLeadingTo 35 = .ok (.iload_n 3, 1) := by decide +kernel
theorem dX2_seatsLeadingTo_36 : decode cX2_seatsLeadingTo 36 = .ok (.iand, 1) := by decide +kernel
theorem dX2_seatsLeadingTo_37 : decode cX2_seatsLeadingTo 37 = .ok (.ifCond .eq 10, 3) := by decide +kernel
theorem dX2_seatsLeadingTo_40 : decode cX2_seatsLeadingTo 40 = .ok (.iload_n 3, 1) := by decide +kernel
theorem dX2_seatsLeadingTo_41 : decode cX2_seatsLeadingTo 41 = .ok (.iconst 1, 1) := by decide +kernel
theorem dX2_seatsLeadingTo_42 : decode cX2_seatsLeadingTo 42 = .ok (.iload 5, 2) := by decide +kernel
theorem dX2_seatsLeadingTo_44 : decode cX2_seatsLeadingTo 44 = .ok (.ishl, 1) := by decide +kernel
theorem dX2_seatsLeadingTo_45 : decode cX2_seatsLeadingTo 45 = .ok (.ior, 1) := by decide +kernel
theorem dX2_seatsLeadingTo_46 : decode cX2_seatsLeadingTo 46 = .ok (.istore_n 3, 1) := by decide +kernel
theorem dX2_seatsLeadingTo_47 : decode cX2_seatsLeadingTo 47 = .ok (.iinc 5 1, 3) := by decide +kernel
theorem dX2_seatsLeadingTo_50 : decode cX2_seatsLeadingTo 50 = .ok (.goto (-31), 3) := by decide +kernel
theorem dX2_seatsLeadingTo_53 : decode cX2_seatsLeadingTo 53 = .ok (.iinc 4 1, 3) := by decide +kernel
theorem dX2_seatsLeadingTo_56 : decode cX2_seatsLeadingTo 56 = .ok (.goto (-49), 3) := by decide +kernel
theorem dX2_seatsLeadingTo_59 : decode cX2_seatsLeadingTo 59 = .ok (.iload_n 3, 1) := by decide +kernel
theorem dX2_seatsLeadingTo_60 : decode cX2_seatsLeadingTo 60 = .ok (.ireturn, 1) := by decide +kernel
set_option maxRecDepth 20000 in
theorem ggX2_nextBits_X3_tenthsOf : GoodIn wsX2_nextBits wsX3_tenthsOf := goodIn_r _ [6, 7, 8, 9, 10, 5, 11, 12, 13, 14, 15, 16, 17, 18] (by decide +kernel) (by decide +kernel)
set_option maxRecDepth 20000 in
theorem gX2_nextBits_X3_tenthsOf : GoodIn wsX2_nextBits (wsV RX2 55 RX3 yX3_tenthsOf wsX3_tenthsOf) := goodIn_app (goodIn_of _ (by decide +kernel)) ggX2_nextBits_X3_tenthsOf
theorem dX2_nextBits_0 : decode cX2_nextBits 0 = .ok (.iconst 0, 1) := by decide +kernel
theorem dX2_nextBits_1 : decode cX2_nextBits 1 = .ok (.istore_n 3, 1) := by decide +kernel
theorem dX2_nextBits_2 : decode cX2_nextBits 2 = .ok (.iconst 0, 1) := by decide +kernel
theorem dX2_nextBits_3 : decode cX2_nextBits 3 = .ok (.istore 4, 2) := by decide +kernel
theorem dX2_nextBits_5 : decode cX2_nextBits 5 = .ok (.iload 4, 2) := by decide +kernel
theorem dX2_nextBits_7 : decode cX2_nextBits 7 = .ok (.aload_n 1, 1) := by decide +kernel
theorem dX2_nextBits_8 : decode cX2_nextBits 8 = .ok (.getfield 46, 3) := by decide +kernel
theorem dX2_nextBits_11 : decode cX2_nextBits 11 = .ok (.if_icmp .ge 26, 3) := by decide +kernel
theorem dX2_nextBits_14 : decode cX2_nextBits 14 = .ok (.aload_n 1, 1) := by decide +kernel
theorem dX2_nextBits_15 : decode cX2_nextBits 15 = .ok (.iload_n 2, 1) := by decide +kernel
theorem dX2_nextBits_16 : decode cX2_nextBits 16 = .ok (.iload 4, 2) := by decide +kernel
theorem dX2_nextBits_18 : decode cX2_nextBits 18 = .ok (.invokevirtual 55, 3) := by decide +kernel
theorem dX2_nextBits_21 : decode cX2_nextBits 21 = .ok (.ifCond .le 10, 3) := by decide +kernel
theorem dX2_nextBits_24 : decode cX2_nextBits 24 = .ok (.iload_n 3, 1) := by decide +kernel
theorem dX2_nextBits_25 : decode cX2_nextBits 25 = .ok (.iconst 1, 1) := by decide +kernel
theorem dX2_nextBits_26 : decode cX2_nextBits 26 = .ok (.iload 4, 2) := by decide +kernel
theorem dX2_nextBits_28 : decode cX2_nextBits 28 = .ok (.ishl, 1) := by decide +kernel
theorem dX2_nextBits_29 : decode cX2_nextBits 29 = .ok (.ior, 1) := by decide +kernel
theorem dX2_nextBits_30 : decode cX2_nextBits 30 = .ok (.istore_n 3, 1) := by decide +kernel
theorem dX2_nextBits_31 : decode cX2_nextBits 31 = .ok (.iinc 4 1, 3) := by decide +kernel
theorem dX2_nextBits_34 : decode cX2_nextBits 34 = .ok (.goto (-29), 3) := by decide +kernel
theorem dX2_nextBits_37 : decode cX2_nextBits 37 = .ok (.iload_n 3, 1) := by decide +kernel
theorem dX2_nextBits_38 : decode cX2_nextBits 38 = .ok (.ireturn, 1) := by decide +kernel
theorem dX2_putInOrder_0 : decode cX2_putInOrder 0 = .ok (.aload_n 0, 1) := by decide +kernel
theorem dX2_putInOrder_1 : decode cX2_putInOrder 1 = .ok (.iconst 0, 1) := by decide +kernel
theorem dX2_putInOrder_2 : decode cX2_putInOrder 2 = .ok (.putfield 59, 3) := by decide +kernel
theorem dX2_putInOrder_5 : decode cX2_putInOrder 5 = .ok (.iconst 0, 1) := by decide +kernel
theorem dX2_putInOrder_6 : decode cX2_putInOrder 6 = .ok (.istore 5, 2) := by decide +kernel
theorem dX2_putInOrder_8 : decode cX2_putInOrder 8 = .ok (.iload 5, 2) := by decide +kernel
theorem dX2_putInOrder_10 : decode cX2_putInOrder 10 = .ok (.aload_n 1, 1) := by decide +kernel
theorem dX2_putInOrder_11 : decode cX2_putInOrder 11 = .ok (.getfield 46, 3) := by decide +kernel
theorem dX2_putInOrder_14 : decode cX2_putInOrder 14 = .ok (.if_icmp .ge 62, 3) := by decide +kernel
theorem dX2_putInOrder_17 : decode cX2_putInOrder 17 = .ok (.iload_n 2, 1) := by decide +kernel
theorem dX2_putInOrder_18 : decode cX2_putInOrder 18 = .ok (.iload 5, 2) := by decide +kernel
theorem dX2_putInOrder_20 : decode cX2_putInOrder 20 = .ok (.ishr, 1) := by decide +kernel
theorem dX2_putInOrder_21 : decode cX2_putInOrder 21 = .ok (.iconst 1, 1) := by decide +kernel
theorem dX2_putInOrder_22 : decode cX2_putInOrder 22 = .ok (.iand, 1) := by decide +kernel
theorem dX2_putInOrder_23 : decode cX2_putInOrder 23 = .ok (.iconst 1, 1) := by decide +kernel
theorem dX2_putInOrder_24 : decode cX2_putInOrder 24 = .ok (.if_icmp .ne 46, 3) := by decide +kernel
theorem dX2_putInOrder_27 : decode cX2_putInOrder 27 = .ok (.iload 5, 2) := by decide +kernel
theorem dX2_putInOrder_29 : decode cX2_putInOrder 29 = .ok (.iload_n 3, 1) := by decide +kernel
theorem dX2_putInOrder_30 : decode cX2_putInOrder 30 = .ok (.if_icmp .eq 40, 3) := by decide +kernel
theorem dX2_putInOrder_33 : decode cX2_putInOrder 33 = .ok (.iload 5, 2) := by decide +kernel
theorem dX2_putInOrder_35 : decode cX2_putInOrder 35 = .ok (.iload 4, 2) := by decide +kernel
theorem dX2_putInOrder_37 : decode cX2_putInOrder 37 = .ok (.if_icmp .eq 33, 3) := by decide +kernel
theorem dX2_putInOrder_40 : decode cX2_putInOrder 40 = .ok (.aload_n 0, 1) := by decide +kernel
theorem dX2_putInOrder_41 : decode cX2_putInOrder 41 = .ok (.getfield 59, 3) := by decide +kernel
theorem dX2_putInOrder_44 : decode cX2_putInOrder 44 = .ok (.bipush 7, 2) := by decide +kernel
theorem dX2_putInOrder_46 : decode cX2_putInOrder 46 = .ok (.if_icmp .ge 24, 3) := by decide +kernel
theorem dX2_putInOrder_49 : decode cX2_putInOrder 49 = .ok (.aload_n 0, 1) := by decide +kernel
theorem dX2_putInOrder_50 : decode cX2_putInOrder 50 = .ok (.getfield 15, 3) := by decide +kernel
theorem dX2_putInOrder_53 : decode cX2_putInOrder 53 = .ok (.aload_n 0, 1) := by decide +kernel
theorem dX2_putInOrder_54 : decode cX2_putInOrder 54 = .ok (.getfield 59, 3) := by decide +kernel
theorem dX2_putInOrder_57 : decode cX2_putInOrder 57 = .ok (.iload 5, 2) := by decide +kernel
theorem dX2_putInOrder_59 : decode cX2_putInOrder 59 = .ok (.iastore, 1) := by decide +kernel
theorem dX2_putInOrder_60 : decode cX2_putInOrder 60 = .ok (.aload_n 0, 1) := by decide +kernel
theorem dX2_putInOrder_61 : decode cX2_putInOrder 61 = .ok (.dup, 1) := by decide +kernel
theorem dX2_putInOrder_62 : decode cX2_putInOrder 62 = .ok (.getfield 59, 3) := by decide +kernel
theorem dX2_putInOrder_65 : decode cX2_putInOrder 65 = .ok (.iconst 1, 1) := by decide +kernel
theorem dX2_putInOrder_66 : decode cX2_putInOrder 66 = .ok (.iadd, 1) := by decide +kernel
theorem dX2_putInOrder_67 : decode cX2_putInOrder 67 = .ok (.putfield 59, 3) := by decide +kernel
theorem dX2_putInOrder_70 : decode cX2_putInOrder 70 = .ok (.iinc 5 1, 3) := by decide +kernel
theorem dX2_putInOrder_73 : decode cX2_putInOrder 73 = .ok (.goto (-65), 3) := by decide +kernel
theorem dX2_putInOrder_76 : decode cX2_putInOrder 76 = .ok (.aload_n 0, 1) := by decide +kernel
theorem dX2_putInOrder_77 : decode cX2_putInOrder 77 = .ok (.getfield 15, 3) := by decide +kernel
theorem dX2_putInOrder_80 : decode cX2_putInOrder 80 = .ok (.aload_n 0, 1) := by decide +kernel
theorem dX2_putInOrder_81 : decode cX2_putInOrder 81 = .ok (.getfield 59, 3) := by decide +kernel
theorem dX2_putInOrder_84 : decode cX2_putInOrder 84 = .ok (.iload_n 3, 1) := by decide +kernel
theorem dX2_putInOrder_85 : decode cX2_putInOrder 85 = .ok (.iastore, 1) := by decide +kernel
theorem dX2_putInOrder_86 : decode cX2_putInOrder 86 = .ok (.aload_n 0, 1) := by decide +kernel
theorem dX2_putInOrder_87 : decode cX2_putInOrder 87 = .ok (.dup, 1) := by decide +kernel
theorem dX2_putInOrder_88 : decode cX2_putInOrder 88 = .ok (.getfield 59, 3) := by decide +kernel
theorem dX2_putInOrder_91 : decode cX2_putInOrder 91 = .ok (.iconst 1, 1) := by decide +kernel
theorem dX2_putInOrder_92 : decode cX2_putInOrder 92 = .ok (.iadd, 1) := by decide +kernel
theorem dX2_putInOrder_93 : decode cX2_putInOrder 93 = .ok (.putfield 59, 3) := by decide +kernel
theorem dX2_putInOrder_96 : decode cX2_putInOrder 96 = .ok (.return_, 1) := by decide +kernel
set_option maxRecDepth 20000 in
theorem ggX2_fill_X3_tenthsOf : GoodIn wsX2_fill wsX3_tenthsOf := goodIn_r _ [8, 9, 10, 11, 12, 7, 13, 14, 26, 27, 28, 29, 30, 31] (by decide +kernel) (by decide +kernel)
set_option maxRecDepth 20000 in
theorem gX2_fill_X3_tenthsOf : GoodIn wsX2_fill (wsV RX2 55 RX3 yX3_tenthsOf wsX3_tenthsOf) := goodIn_app (goodIn_of _ (by decide +kernel)) ggX2_fill_X3_tenthsOf
set_option maxRecDepth 20000 in
theorem ggX2_fill_X2_setCell : GoodIn wsX2_fill wsX2_setCell := goodIn_r _ [19, 20, 21, 22, 23, 24, 25] (by decide +kernel) (by decide +kernel)
set_option maxRecDepth 20000 in
theorem gX2_fill_X2_setCell : GoodIn wsX2_fill (wsV RX2 62 RX2 yX2_setCell wsX2_setCell) := goodIn_app (goodIn_of _ (by decide +kernel)) ggX2_fill_X2_setCell
theorem dX2_fill_0 : decode cX2_fill 0 = .ok (.iconst 0, 1) := by decide +kernel
theorem dX2_fill_1 : decode cX2_fill 1 = .ok (.istore_n 2, 1) := by decide +kernel
theorem dX2_fill_2 : decode cX2_fill 2 = .ok (.iload_n 2, 1) := by decide +kernel
theorem dX2_fill_3 : decode cX2_fill 3 = .ok (.aload_n 0, 1) := by decide +kernel
theorem dX2_fill_4 : decode cX2_fill 4 = .ok (.getfield 59, 3) := by decide +kernel
theorem dX2_fill_7 : decode cX2_fill 7 = .ok (.if_icmp .ge 88, 3) := by decide +kernel
theorem dX2_fill_10 : decode cX2_fill 10 = .ok (.iload_n 2, 1) := by decide +kernel
theorem dX2_fill_11 : decode cX2_fill 11 = .ok (.bipush 8, 2) := by decide +kernel
theorem dX2_fill_13 : decode cX2_fill 13 = .ok (.if_icmp .ge 82, 3) := by decide +kernel
theorem dX2_fill_16 : decode cX2_fill 16 = .ok (.iconst 0, 1) := by decide +kernel
theorem dX2_fill_17 : decode cX2_fill 17 = .ok (.istore_n 3, 1) := by decide +kernel
theorem dX2_fill_18 : decode cX2_fill 18 = .ok (.iload_n 3, 1) := by decide +kernel
theorem dX2_fill_19 : decode cX2_fill 19 = .ok (.aload_n 0, 1) := by decide +kernel
theorem dX2_fill_20 : decode cX2_fill 20 = .ok (.getfield 59, 3) := by decide +kernel
theorem dX2_fill_23 : decode cX2_fill 23 = .ok (.if_icmp .ge 54, 3) := by decide +kernel
theorem dX2_fill_26 : decode cX2_fill 26 = .ok (.iload_n 3, 1) := by decide +kernel
theorem dX2_fill_27 : decode cX2_fill 27 = .ok (.bipush 8, 2) := by decide +kernel
theorem dX2_fill_29 : decode cX2_fill 29 = .ok (.if_icmp .ge 48, 3) := by decide +kernel
theorem dX2_fill_32 : decode cX2_fill 32 = .ok (.iload_n 2, 1) := by decide +kernel
theorem dX2_fill_33 : decode cX2_fill 33 = .ok (.iload_n 3, 1) := by decide +kernel
theorem dX2_fill_34 : decode cX2_fill 34 = .ok (.if_icmp .ne 8, 3) := by decide +kernel
theorem dX2_fill_37 : decode cX2_fill 37 = .ok (.bipush 10, 2) := by decide +kernel
theorem dX2_fill_39 : decode cX2_fill 39 = .ok (.goto 4, 3) := by decide +kernel
theorem dX2_fill_42 : decode cX2_fill 42 = .ok (.iconst 0, 1) := by decide +kernel
theorem dX2_fill_43 : decode cX2_fill 43 = .ok (.istore 4, 2) := by decide +kernel
theorem dX2_fill_45 : decode cX2_fill 45 = .ok (.aload_n 0, 1) := by decide +kernel
theorem dX2_fill_46 : decode cX2_fill 46 = .ok (.iload_n 2, 1) := by decide +kernel
theorem dX2_fill_47 : decode cX2_fill 47 = .ok (.iload_n 3, 1) := by decide +kernel
theorem dX2_fill_48 : decode cX2_fill 48 = .ok (.iload 4, 2) := by decide +kernel
theorem dX2_fill_50 : decode cX2_fill 50 = .ok (.aload_n 1, 1) := by decide +kernel
theorem dX2_fill_51 : decode cX2_fill 51 = .ok (.aload_n 0, 1) := by decide +kernel
theorem dX2_fill_52 : decode cX2_fill 52 = .ok (.getfield 15, 3) := by decide +kernel
theorem dX2_fill_55 : decode cX2_fill 55 = .ok (.iload_n 2, 1) := by decide +kernel
theorem dX2_fill_56 : decode cX2_fill 56 = .ok (.iaload, 1) := by decide +kernel
theorem dX2_fill_57 : decode cX2_fill 57 = .ok (.aload_n 0, 1) := by decide +kernel
theorem dX2_fill_58 : decode cX2_fill 58 = .ok (.getfield 15, 3) := by decide +kernel
theorem dX2_fill_61 : decode cX2_fill 61 = .ok (.iload_n 3, 1) := by decide +kernel
theorem dX2_fill_62 : decode cX2_fill 62 = .ok (.iaload, 1) := by decide +kernel
theorem dX2_fill_63 : decode cX2_fill 63 = .ok (.invokevirtual 55, 3) := by decide +kernel
theorem dX2_fill_66 : decode cX2_fill 66 = .ok (.isub, 1) := by decide +kernel
theorem dX2_fill_67 : decode cX2_fill 67 = .ok (.i2l, 1) := by decide +kernel
theorem dX2_fill_68 : decode cX2_fill 68 = .ok (.invokevirtual 62, 3) := by decide +kernel
theorem dX2_fill_71 : decode cX2_fill 71 = .ok (.iinc 3 1, 3) := by decide +kernel
theorem dX2_fill_74 : decode cX2_fill 74 = .ok (.goto (-56), 3) := by decide +kernel
theorem dX2_fill_77 : decode cX2_fill 77 = .ok (.aload_n 0, 1) := by decide +kernel
theorem dX2_fill_78 : decode cX2_fill 78 = .ok (.iload_n 2, 1) := by decide +kernel
theorem dX2_fill_79 : decode cX2_fill 79 = .ok (.aload_n 0, 1) := by decide +kernel
theorem dX2_fill_80 : decode cX2_fill 80 = .ok (.getfield 59, 3) := by decide +kernel
theorem dX2_fill_83 : decode cX2_fill 83 = .ok (.ldc2_w 66, 3) := by decide +kernel
theorem dX2_fill_86 : decode cX2_fill 86 = .ok (.invokevirtual 62, 3) := by decide +kernel
theorem dX2_fill_89 : decode cX2_fill 89 = .ok (.iinc 2 1, 3) := by decide +kernel
theorem dX2_fill_92 : decode cX2_fill 92 = .ok (.goto (-90), 3) := by decide +kernel
theorem dX2_fill_95 : decode cX2_fill 95 = .ok (.return_, 1) := by decide +kernel
set_option maxRecDepth 20000 in
theorem ggX2_eliminate_X2_subtract : GoodIn wsX2_eliminate wsX2_subtract := goodIn_r _ [8, 1, 9, 10, 11, 7, 12, 13, 14, 15, 16, 17, 18, 19, 20, 21, 22] (by decide +kernel) (by decide +kernel)
set_option maxRecDepth 20000 in
theorem gX2_eliminate_X2_subtract : GoodIn wsX2_eliminate (wsV RX2 68 RX2 yX2_subtract wsX2_subtract) := goodIn_app (goodIn_of _ (by decide +kernel)) ggX2_eliminate_X2_subtract
set_option maxRecDepth 20000 in
theorem ggX2_eliminate_X2_cellAt : GoodIn wsX2_eliminate wsX2_cellAt := goodIn_r _ [12, 13, 18, 19, 20, 21, 22] (by decide +kernel) (by decide +kernel)
set_option maxRecDepth 20000 in
theorem gX2_eliminate_X2_cellAt : GoodIn wsX2_eliminate (wsV RX2 71 RX2 yX2_cellAt wsX2_cellAt) := goodIn_app (goodIn_of _ (by decide +kernel)) ggX2_eliminate_X2_cellAt
theorem dX2_eliminate_0 : decode cX2_eliminate 0 = .ok (.lconst 1, 1) := by decide +kernel
theorem dX2_eliminate_1 : decode cX2_eliminate 1 = .ok (.lstore_n 1, 1) := by decide +kernel
theorem dX2_eliminate_2 : decode cX2_eliminate 2 = .ok (.iconst 0, 1) := by decide +kernel
theorem dX2_eliminate_3 : decode cX2_eliminate 3 = .ok (.istore_n 3, 1) := by decide +kernel
theorem dX2_eliminate_4 : decode cX2_eliminate 4 = .ok (.iload_n 3, 1) := by decide +kernel
theorem dX2_eliminate_5 : decode cX2_eliminate 5 = .ok (.aload_n 0, 1) := by decide +kernel
theorem dX2_eliminate_6 : decode cX2_eliminate 6 = .ok (.getfield 59, 3) := by decide +kernel
theorem dX2_eliminate_9 : decode cX2_eliminate 9 = .ok (.iconst 1, 1) := by decide +kernel
theorem dX2_eliminate_10 : decode cX2_eliminate 10 = .ok (.isub, 1) := by decide +kernel
theorem dX2_eliminate_11 : decode cX2_eliminate 11 = .ok (.if_icmp .ge 44, 3) := by decide +kernel
theorem dX2_eliminate_14 : decode cX2_eliminate 14 = .ok (.iload_n 3, 1) := by decide +kernel
theorem dX2_eliminate_15 : decode cX2_eliminate 15 = .ok (.iconst 1, 1) := by decide +kernel
theorem dX2_eliminate_16 : decode cX2_eliminate 16 = .ok (.iadd, 1) := by decide +kernel
theorem dX2_eliminate_17 : decode cX2_eliminate 17 = .ok (.istore 4, 2) := by decide +kernel
theorem dX2_eliminate_19 : decode cX2_eliminate 19 = .ok (.iload 4, 2) := by decide +kernel
theorem dX2_eliminate_21 : decode cX2_eliminate 21 = .ok (.aload_n 0, 1) := by decide +kernel
theorem dX2_eliminate_22 : decode cX2_eliminate 22 = .ok (.getfield 59, 3) := by decide +kernel
theorem dX2_eliminate_25 : decode cX2_eliminate 25 = .ok (.if_icmp .ge 17, 3) := by decide +kernel
theorem dX2_eliminate_28 : decode cX2_eliminate 28 = .ok (.aload_n 0, 1) := by decide +kernel
theorem dX2_eliminate_29 : decode cX2_eliminate 29 = .ok (.iload_n 3, 1) := by decide +kernel
theorem dX2_eliminate_30 : decode cX2_eliminate 30 = .ok (.iload 4, 2) := by decide +kernel
theorem dX2_eliminate_32 : decode cX2_eliminate 32 = .ok (.lload_n 1, 1) := by decide +kernel
theorem dX2_eliminate_33 : decode cX2_eliminate 33 = .ok (.invokevirtual 68, 3) := by decide +kernel
theorem dX2_eliminate_36 : decode cX2_eliminate 36 = .ok (.iinc 4 1, 3) := by decide +kernel
theorem dX2_eliminate_39 : decode cX2_eliminate 39 = .ok (.goto (-20), 3) := by decide +kernel
theorem dX2_eliminate_42 : decode cX2_eliminate 42 = .ok (.aload_n 0, 1) := by decide +kernel
theorem dX2_eliminate_43 : decode cX2_eliminate 43 = .ok (.iload_n 3, 1) := by decide +kernel
theorem dX2_eliminate_44 : decode cX2_eliminate 44 = .ok (.iload_n 3, 1) := by decide +kernel
theorem dX2_eliminate_45 : decode cX2_eliminate 45 = .ok (.invokevirtual 71, 3) := by decide +kernel
theorem dX2_eliminate_48 : decode cX2_eliminate 48 = .ok (.lstore_n 1, 1) := by decide +kernel
theorem dX2_eliminate_49 : decode cX2_eliminate 49 = .ok (.iinc 3 1, 3) := by decide +kernel
theorem dX2_eliminate_52 : decode cX2_eliminate 52 = .ok (.goto (-48), 3) := by decide +kernel
theorem dX2_eliminate_55 : decode cX2_eliminate 55 = .ok (.aload_n 0, 1) := by decide +kernel
theorem dX2_eliminate_56 : decode cX2_eliminate 56 = .ok (.aload_n 0, 1) := by decide +kernel
theorem dX2_eliminate_57 : decode cX2_eliminate 57 = .ok (.aload_n 0, 1) := by decide +kernel
theorem dX2_eliminate_58 : decode cX2_eliminate 58 = .ok (.getfield 59, 3) := by decide +kernel
theorem dX2_eliminate_61 : decode cX2_eliminate 61 = .ok (.iconst 1, 1) := by decide +kernel
theorem dX2_eliminate_62 : decode cX2_eliminate 62 = .ok (.isub, 1) := by decide +kernel
theorem dX2_eliminate_63 : decode cX2_eliminate 63 = .ok (.aload_n 0, 1) := by decide +kernel
theorem dX2_eliminate_64 : decode cX2_eliminate 64 = .ok (.getfield 59, 3) := by decide +kernel
theorem dX2_eliminate_67 : decode cX2_eliminate 67 = .ok (.invokevirtual 71, 3) := by decide +kernel
theorem dX2_eliminate_70 : decode cX2_eliminate 70 = .ok (.putfield 19, 3) := by decide +kernel
theorem dX2_eliminate_73 : decode cX2_eliminate 73 = .ok (.aload_n 0, 1) := by decide +kernel
theorem dX2_eliminate_74 : decode cX2_eliminate 74 = .ok (.aload_n 0, 1) := by decide +kernel
theorem dX2_eliminate_75 : decode cX2_eliminate 75 = .ok (.aload_n 0, 1) := by decide +kernel
theorem dX2_eliminate_76 : decode cX2_eliminate 76 = .ok (.getfield 59, 3) := by decide +kernel
theorem dX2_eliminate_79 : decode cX2_eliminate 79 = .ok (.iconst 1, 1) := by decide +kernel
theorem dX2_eliminate_80 : decode cX2_eliminate 80 = .ok (.isub, 1) := by decide +kernel
theorem dX2_eliminate_81 : decode cX2_eliminate 81 = .ok (.aload_n 0, 1) := by decide +kernel
theorem dX2_eliminate_82 : decode cX2_eliminate 82 = .ok (.getfield 59, 3) := by decide +kernel
theorem dX2_eliminate_85 : decode cX2_eliminate 85 = .ok (.iconst 1, 1) := by decide +kernel
theorem dX2_eliminate_86 : decode cX2_eliminate 86 = .ok (.isub, 1) := by decide +kernel
theorem dX2_eliminate_87 : decode cX2_eliminate 87 = .ok (.invokevirtual 71, 3) := by decide +kernel
theorem dX2_eliminate_90 : decode cX2_eliminate 90 = .ok (.putfield 23, 3) := by decide +kernel
theorem dX2_eliminate_93 : decode cX2_eliminate 93 = .ok (.aload_n 0, 1) := by decide +kernel
theorem dX2_eliminate_94 : decode cX2_eliminate 94 = .ok (.getfield 23, 3) := by decide +kernel
theorem dX2_eliminate_97 : decode cX2_eliminate 97 = .ok (.lconst 0, 1) := by decide +kernel
theorem dX2_eliminate_98 : decode cX2_eliminate 98 = .ok (.lcmp, 1) := by decide +kernel
theorem dX2_eliminate_99 : decode cX2_eliminate 99 = .ok (.ifCond .le 7, 3) := by decide +kernel
theorem dX2_eliminate_102 : decode cX2_eliminate 102 = .ok (.iconst 1, 1) := by decide +kernel
theorem dX2_eliminate_103 : decode cX2_eliminate 103 = .ok (.goto 4, 3) := by decide +kernel
theorem dX2_eliminate_106 : decode cX2_eliminate 106 = .ok (.iconst 0, 1) := by decide +kernel
theorem dX2_eliminate_107 : decode cX2_eliminate 107 = .ok (.ireturn, 1) := by decide +kernel
set_option maxRecDepth 20000 in
theorem ggX2_subtract_X2_cellAt : GoodIn wsX2_subtract wsX2_cellAt := goodIn_r _ [6, 7, 12, 13, 14, 15, 16] (by decide +kernel) (by decide +kernel)
set_option maxRecDepth 20000 in
theorem gX2_subtract_X2_cellAt : GoodIn wsX2_subtract (wsV RX2 71 RX2 yX2_cellAt wsX2_cellAt) := goodIn_app (goodIn_of _ (by decide +kernel)) ggX2_subtract_X2_cellAt
set_option maxRecDepth 20000 in
theorem ggX2_subtract_X2_setCell : GoodIn wsX2_subtract wsX2_setCell := goodIn_r _ [11, 7, 12, 13, 14, 15, 16] (by decide +kernel) (by decide +kernel)
set_option maxRecDepth 20000 in
theorem gX2_subtract_X2_setCell : GoodIn wsX2_subtract (wsV RX2 62 RX2 yX2_setCell wsX2_setCell) := goodIn_app (goodIn_of _ (by decide +kernel)) ggX2_subtract_X2_setCell
theorem dX2_subtract_0 : decode cX2_subtract 0 = .ok (.lload_n 3, 1) := by decide +kernel
theorem dX2_subtract_1 : decode cX2_subtract 1 = .ok (.lconst 0, 1) := by decide +kernel
theorem dX2_subtract_2 : decode cX2_subtract 2 = .ok (.lcmp, 1) := by decide +kernel
theorem dX2_subtract_3 : decode cX2_subtract 3 = .ok (.ifCond .ne 4, 3) := by decide +kernel
theorem dX2_subtract_6 : decode cX2_subtract 6 = .ok (.return_, 1) := by decide +kernel
theorem dX2_subtract_7 : decode cX2_subtract 7 = .ok (.aload_n 0, 1) := by decide +kernel
theorem dX2_subtract_8 : decode cX2_subtract 8 = .ok (.iload_n 1, 1) := by decide +kernel
theorem dX2_subtract_9 : decode cX2_subtract 9 = .ok (.iload_n 1, 1) := by decide +kernel
theorem dX2_subtract_10 : decode cX2_subtract 10 = .ok (.invokevirtual 71, 3) := by decide +kernel
theorem dX2_subtract_13 : decode cX2_subtract 13 = .ok (.lstore 5, 2) := by decide +kernel
theorem dX2_subtract_15 : decode cX2_subtract 15 = .ok (.aload_n 0, 1) := by decide +kernel
theorem dX2_subtract_16 : decode cX2_subtract 16 = .ok (.iload_n 2, 1) := by decide +kernel
theorem dX2_subtract_17 : decode cX2_subtract 17 = .ok (.iload_n 1, 1) := by decide +kernel
theorem dX2_subtract_18 : decode cX2_subtract 18 = .ok (.invokevirtual 71, 3) := by decide +kernel
theorem dX2_subtract_21 : decode cX2_subtract 21 = .ok (.lstore 7, 2) := by decide +kernel
theorem dX2_subtract_23 : decode cX2_subtract 23 = .ok (.iload_n 1, 1) := by decide +kernel
theorem dX2_subtract_24 : decode cX2_subtract 24 = .ok (.iconst 1, 1) := by decide +kernel
theorem dX2_subtract_25 : decode cX2_subtract 25 = .ok (.iadd, 1) := by decide +kernel
theorem dX2_subtract_26 : decode cX2_subtract 26 = .ok (.istore 9, 2) := by decide +kernel
theorem dX2_subtract_28 : decode cX2_subtract 28 = .ok (.iload 9, 2) := by decide +kernel
theorem dX2_subtract_30 : decode cX2_subtract 30 = .ok (.aload_n 0, 1) := by decide +kernel
theorem dX2_subtract_31 : decode cX2_subtract 31 = .ok (.getfield 59, 3) := by decide +kernel
theorem dX2_subtract_34 : decode cX2_subtract 34 = .ok (.if_icmp .gt 43, 3) := by decide +kernel
theorem dX2_subtract_37 : decode cX2_subtract 37 = .ok (.aload_n 0, 1) := by decide +kernel
theorem dX2_subtract_38 : decode cX2_subtract 38 = .ok (.iload_n 2, 1) := by decide +kernel
theorem dX2_subtract_39 : decode cX2_subtract 39 = .ok (.iload 9, 2) := by decide +kernel
theorem dX2_subtract_41 : decode cX2_subtract 41 = .ok (.invokevirtual 71, 3) := by decide +kernel
theorem dX2_subtract_44 : decode cX2_subtract 44 = .ok (.lload 5, 2) := by decide +kernel
theorem dX2_subtract_46 : decode cX2_subtract 46 = .ok (.lmul, 1) := by decide +kernel
theorem dX2_subtract_47 : decode cX2_subtract 47 = .ok (.lload 7, 2) := by decide +kernel
theorem dX2_subtract_49 : decode cX2_subtract 49 = .ok (.aload_n 0, 1) := by decide +kernel
theorem dX2_subtract_50 : decode cX2_subtract 50 = .ok (.iload_n 1, 1) := by decide +kernel
theorem dX2_subtract_51 : decode cX2_subtract 51 = .ok (.iload 9, 2) := by decide +kernel
theorem dX2_subtract_53 : decode cX2_subtract 53 = .ok (.invokevirtual 71, 3) := by decide +kernel
theorem dX2_subtract_56 : decode cX2_subtract 56 = .ok (.lmul, 1) := by decide +kernel
theorem dX2_subtract_57 : decode cX2_subtract 57 = .ok (.lsub, 1) := by decide +kernel
theorem dX2_subtract_58 : decode cX2_subtract 58 = .ok (.lstore 10, 2) := by decide +kernel
theorem dX2_subtract_60 : decode cX2_subtract 60 = .ok (.aload_n 0, 1) := by decide +kernel
theorem dX2_subtract_61 : decode cX2_subtract 61 = .ok (.iload_n 2, 1) := by decide +kernel
theorem dX2_subtract_62 : decode cX2_subtract 62 = .ok (.iload 9, 2) := by decide +kernel
theorem dX2_subtract_64 : decode cX2_subtract 64 = .ok (.lload 10, 2) := by decide +kernel
theorem dX2_subtract_66 : decode cX2_subtract 66 = .ok (.lload_n 3, 1) := by decide +kernel
theorem dX2_subtract_67 : decode cX2_subtract 67 = .ok (.ldiv, 1) := by decide +kernel
theorem dX2_subtract_68 : decode cX2_subtract 68 = .ok (.invokevirtual 62, 3) := by decide +kernel
theorem dX2_subtract_71 : decode cX2_subtract 71 = .ok (.iinc 9 1, 3) := by decide +kernel
theorem dX2_subtract_74 : decode cX2_subtract 74 = .ok (.goto (-46), 3) := by decide +kernel
theorem dX2_subtract_77 : decode cX2_subtract 77 = .ok (.return_, 1) := by decide +kernel
theorem dX2_cellAt_0 : decode cX2_cellAt 0 = .ok (.iload_n 1, 1) := by decide +kernel
theorem dX2_cellAt_1 : decode cX2_cellAt 1 = .ok (.bipush 9, 2) := by decide +kernel
theorem dX2_cellAt_3 : decode cX2_cellAt 3 = .ok (.imul, 1) := by decide +kernel
theorem dX2_cellAt_4 : decode cX2_cellAt 4 = .ok (.iload_n 2, 1) := by decide +kernel
theorem dX2_cellAt_5 : decode cX2_cellAt 5 = .ok (.iadd, 1) := by decide +kernel
theorem dX2_cellAt_6 : decode cX2_cellAt 6 = .ok (.istore_n 3, 1) := by decide +kernel
theorem dX2_cellAt_7 : decode cX2_cellAt 7 = .ok (.iload_n 3, 1) := by decide +kernel
theorem dX2_cellAt_8 : decode cX2_cellAt 8 = .ok (.ifCond .lt 21, 3) := by decide +kernel
theorem dX2_cellAt_11 : decode cX2_cellAt 11 = .ok (.iload_n 3, 1) := by decide +kernel
theorem dX2_cellAt_12 : decode cX2_cellAt 12 = .ok (.aload_n 0, 1) := by decide +kernel
theorem dX2_cellAt_13 : decode cX2_cellAt 13 = .ok (.getfield 11, 3) := by decide +kernel
theorem dX2_cellAt_16 : decode cX2_cellAt 16 = .ok (.arraylength, 1) := by decide +kernel
theorem dX2_cellAt_17 : decode cX2_cellAt 17 = .ok (.if_icmp .ge 12, 3) := by decide +kernel
theorem dX2_cellAt_20 : decode cX2_cellAt 20 = .ok (.aload_n 0, 1) := by decide +kernel
theorem dX2_cellAt_21 : decode cX2_cellAt 21 = .ok (.getfield 11, 3) := by decide +kernel
theorem dX2_cellAt_24 : decode cX2_cellAt 24 = .ok (.iload_n 3, 1) := by decide +kernel
theorem dX2_cellAt_25 : decode cX2_cellAt 25 = .ok (.laload, 1) := by decide +kernel
theorem dX2_cellAt_26 : decode cX2_cellAt 26 = .ok (.goto 4, 3) := by decide +kernel
theorem dX2_cellAt_29 : decode cX2_cellAt 29 = .ok (.lconst 0, 1) := by decide +kernel
theorem dX2_cellAt_30 : decode cX2_cellAt 30 = .ok (.lreturn, 1) := by decide +kernel
theorem dX2_setCell_0 : decode cX2_setCell 0 = .ok (.iload_n 1, 1) := by decide +kernel
theorem dX2_setCell_1 : decode cX2_setCell 1 = .ok (.bipush 9, 2) := by decide +kernel
theorem dX2_setCell_3 : decode cX2_setCell 3 = .ok (.imul, 1) := by decide +kernel
theorem dX2_setCell_4 : decode cX2_setCell 4 = .ok (.iload_n 2, 1) := by decide +kernel
theorem dX2_setCell_5 : decode cX2_setCell 5 = .ok (.iadd, 1) := by decide +kernel
theorem dX2_setCell_6 : decode cX2_setCell 6 = .ok (.istore 5, 2) := by decide +kernel
theorem dX2_setCell_8 : decode cX2_setCell 8 = .ok (.iload 5, 2) := by decide +kernel
theorem dX2_setCell_10 : decode cX2_setCell 10 = .ok (.ifCond .lt 21, 3) := by decide +kernel
theorem dX2_setCell_13 : decode cX2_setCell 13 = .ok (.iload 5, 2) := by decide +kernel
theorem dX2_setCell_15 : decode cX2_setCell 15 = .ok (.aload_n 0, 1) := by decide +kernel
theorem dX2_setCell_16 : decode cX2_setCell 16 = .ok (.getfield 11, 3) := by decide +kernel
theorem dX2_setCell_19 : decode cX2_setCell 19 = .ok (.arraylength, 1) := by decide +kernel
theorem dX2_setCell_20 : decode cX2_setCell 20 = .ok (.if_icmp .ge 11, 3) := by decide +kernel
theorem dX2_setCell_23 : decode cX2_setCell 23 = .ok (.aload_n 0, 1) := by decide +kernel
theorem dX2_setCell_24 : decode cX2_setCell 24 = .ok (.getfield 11, 3) := by decide +kernel
theorem dX2_setCell_27 : decode cX2_setCell 27 = .ok (.iload 5, 2) := by decide +kernel
theorem dX2_setCell_29 : decode cX2_setCell 29 = .ok (.lload_n 3, 1) := by decide +kernel
theorem dX2_setCell_30 : decode cX2_setCell 30 = .ok (.lastore, 1) := by decide +kernel
theorem dX2_setCell_31 : decode cX2_setCell 31 = .ok (.return_, 1) := by decide +kernel
theorem dX3_init_0 : decode cX3_init 0 = .ok (.aload_n 0, 1) := by decide +kernel
theorem dX3_init_1 : decode cX3_init 1 = .ok (.invokespecial 3, 3) := by decide +kernel
theorem dX3_init_4 : decode cX3_init 4 = .ok (.aload_n 0, 1) := by decide +kernel
theorem dX3_init_5 : decode cX3_init 5 = .ok (.bipush 64, 2) := by decide +kernel
theorem dX3_init_7 : decode cX3_init 7 = .ok (.newarray .int, 2) := by decide +kernel
theorem dX3_init_9 : decode cX3_init 9 = .ok (.putfield 9, 3) := by decide +kernel
theorem dX3_init_12 : decode cX3_init 12 = .ok (.aload_n 0, 1) := by decide +kernel
theorem dX3_init_13 : decode cX3_init 13 = .ok (.bipush 8, 2) := by decide +kernel
theorem dX3_init_15 : decode cX3_init 15 = .ok (.newarray .int, 2) := by decide +kernel
theorem dX3_init_17 : decode cX3_init 17 = .ok (.putfield 15, 3) := by decide +kernel
theorem dX3_init_20 : decode cX3_init 20 = .ok (.aload_n 0, 1) := by decide +kernel
theorem dX3_init_21 : decode cX3_init 21 = .ok (.bipush 8, 2) := by decide +kernel
theorem dX3_init_23 : decode cX3_init 23 = .ok (.newarray .int, 2) := by decide +kernel
theorem dX3_init_25 : decode cX3_init 25 = .ok (.putfield 18, 3) := by decide +kernel
theorem dX3_init_28 : decode cX3_init 28 = .ok (.return_, 1) := by decide +kernel
theorem dX3_clear_0 : decode cX3_clear 0 = .ok (.aload_n 0, 1) := by decide +kernel
theorem dX3_clear_1 : decode cX3_clear 1 = .ok (.iload_n 1, 1) := by decide +kernel
theorem dX3_clear_2 : decode cX3_clear 2 = .ok (.putfield 21, 3) := by decide +kernel
theorem dX3_clear_5 : decode cX3_clear 5 = .ok (.aload_n 0, 1) := by decide +kernel
theorem dX3_clear_6 : decode cX3_clear 6 = .ok (.iconst 2, 1) := by decide +kernel
theorem dX3_clear_7 : decode cX3_clear 7 = .ok (.putfield 25, 3) := by decide +kernel
theorem dX3_clear_10 : decode cX3_clear 10 = .ok (.aload_n 0, 1) := by decide +kernel
theorem dX3_clear_11 : decode cX3_clear 11 = .ok (.iconst 0, 1) := by decide +kernel
theorem dX3_clear_12 : decode cX3_clear 12 = .ok (.putfield 28, 3) := by decide +kernel
theorem dX3_clear_15 : decode cX3_clear 15 = .ok (.iconst 0, 1) := by decide +kernel
theorem dX3_clear_16 : decode cX3_clear 16 = .ok (.istore_n 2, 1) := by decide +kernel
theorem dX3_clear_17 : decode cX3_clear 17 = .ok (.iload_n 2, 1) := by decide +kernel
theorem dX3_clear_18 : decode cX3_clear 18 = .ok (.bipush 64, 2) := by decide +kernel
theorem dX3_clear_20 : decode cX3_clear 20 = .ok (.if_icmp .ge 16, 3) := by decide +kernel
theorem dX3_clear_23 : decode cX3_clear 23 = .ok (.aload_n 0, 1) := by decide +kernel
theorem dX3_clear_24 : decode cX3_clear 24 = .ok (.getfield 9, 3) := by decide +kernel
theorem dX3_clear_27 : decode cX3_clear 27 = .ok (.iload_n 2, 1) := by decide +kernel
theorem dX3_clear_28 : decode cX3_clear 28 = .ok (.iconst 0, 1) := by decide +kernel
theorem dX3_clear_29 : decode cX3_clear 29 = .ok (.iastore, 1) := by decide +kernel
theorem dX3_clear_30 : decode cX3_clear 30 = .ok (.iinc 2 1, 3) := by decide +kernel
theorem dX3_clear_33 : decode cX3_clear 33 = .ok (.goto (-16), 3) := by decide +kernel
theorem dX3_clear_36 : decode cX3_clear 36 = .ok (.iconst 0, 1) := by decide +kernel
theorem dX3_clear_37 : decode cX3_clear 37 = .ok (.istore_n 2, 1) := by decide +kernel
theorem dX3_clear_38 : decode cX3_clear 38 = .ok (.iload_n 2, 1) := by decide +kernel
theorem dX3_clear_39 : decode cX3_clear 39 = .ok (.bipush 8, 2) := by decide +kernel
theorem dX3_clear_41 : decode cX3_clear 41 = .ok (.if_icmp .ge 23, 3) := by decide +kernel
theorem dX3_clear_44 : decode cX3_clear 44 = .ok (.aload_n 0, 1) := by decide +kernel
theorem dX3_clear_45 : decode cX3_clear 45 = .ok (.getfield 15, 3) := by decide +kernel
theorem dX3_clear_48 : decode cX3_clear 48 = .ok (.iload_n 2, 1) := by decide +kernel
theorem dX3_clear_49 : decode cX3_clear 49 = .ok (.iconst 0, 1) := by decide +kernel
theorem dX3_clear_50 : decode cX3_clear 50 = .ok (.iastore, 1) := by decide +kernel
