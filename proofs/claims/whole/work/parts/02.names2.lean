theorem dX3_clear_51 : decode cX3_clear 51 = .ok (.aload_n 0, 1) := by decide +kernel
theorem dX3_clear_52 : decode cX3_clear 52 = .ok (.getfield 18, 3) := by decide +kernel
theorem dX3_clear_55 : decode cX3_clear 55 = .ok (.iload_n 2, 1) := by decide +kernel
theorem dX3_clear_56 : decode cX3_clear 56 = .ok (.iconst 0, 1) := by decide +kernel
theorem dX3_clear_57 : decode cX3_clear 57 = .ok (.iastore, 1) := by decide +kernel
theorem dX3_clear_58 : decode cX3_clear 58 = .ok (.iinc 2 1, 3) := by decide +kernel
theorem dX3_clear_61 : decode cX3_clear 61 = .ok (.goto (-23), 3) := by decide +kernel
theorem dX3_clear_64 : decode cX3_clear 64 = .ok (.return_, 1) := by decide +kernel
set_option maxRecDepth 20000 in
theorem ggX3_copyFrom_X3_clear : GoodIn wsX3_copyFrom wsX3_clear := goodIn_r _ [9, 1, 2, 3, 4, 10, 11, 12, 13, 14, 15, 16, 17] (by decide +kernel) (by decide +kernel)
set_option maxRecDepth 20000 in
theorem gX3_copyFrom_X3_clear : GoodIn wsX3_copyFrom (wsV RX3 31 RX3 yX3_clear wsX3_clear) := goodIn_app (goodIn_of _ (by decide +kernel)) ggX3_copyFrom_X3_clear
theorem dX3_copyFrom_0 : decode cX3_copyFrom 0 = .ok (.aload_n 0, 1) := by decide +kernel
theorem dX3_copyFrom_1 : decode cX3_copyFrom 1 = .ok (.aload_n 1, 1) := by decide +kernel
theorem dX3_copyFrom_2 : decode cX3_copyFrom 2 = .ok (.getfield 21, 3) := by decide +kernel
theorem dX3_copyFrom_5 : decode cX3_copyFrom 5 = .ok (.invokevirtual 31, 3) := by decide +kernel
theorem dX3_copyFrom_8 : decode cX3_copyFrom 8 = .ok (.aload_n 0, 1) := by decide +kernel
theorem dX3_copyFrom_9 : decode cX3_copyFrom 9 = .ok (.aload_n 1, 1) := by decide +kernel
theorem dX3_copyFrom_10 : decode cX3_copyFrom 10 = .ok (.getfield 25, 3) := by decide +kernel
theorem dX3_copyFrom_13 : decode cX3_copyFrom 13 = .ok (.putfield 25, 3) := by decide +kernel
theorem dX3_copyFrom_16 : decode cX3_copyFrom 16 = .ok (.aload_n 0, 1) := by decide +kernel
theorem dX3_copyFrom_17 : decode cX3_copyFrom 17 = .ok (.aload_n 1, 1) := by decide +kernel
theorem dX3_copyFrom_18 : decode cX3_copyFrom 18 = .ok (.getfield 28, 3) := by decide +kernel
theorem dX3_copyFrom_21 : decode cX3_copyFrom 21 = .ok (.putfield 28, 3) := by decide +kernel
theorem dX3_copyFrom_24 : decode cX3_copyFrom 24 = .ok (.iconst 0, 1) := by decide +kernel
theorem dX3_copyFrom_25 : decode cX3_copyFrom 25 = .ok (.istore_n 2, 1) := by decide +kernel
theorem dX3_copyFrom_26 : decode cX3_copyFrom 26 = .ok (.iload_n 2, 1) := by decide +kernel
theorem dX3_copyFrom_27 : decode cX3_copyFrom 27 = .ok (.bipush 64, 2) := by decide +kernel
theorem dX3_copyFrom_29 : decode cX3_copyFrom 29 = .ok (.if_icmp .ge 21, 3) := by decide +kernel
theorem dX3_copyFrom_32 : decode cX3_copyFrom 32 = .ok (.aload_n 0, 1) := by decide +kernel
theorem dX3_copyFrom_33 : decode cX3_copyFrom 33 = .ok (.getfield 9, 3) := by decide +kernel
theorem dX3_copyFrom_36 : decode cX3_copyFrom 36 = .ok (.iload_n 2, 1) := by decide +kernel
theorem dX3_copyFrom_37 : decode cX3_copyFrom 37 = .ok (.aload_n 1, 1) := by decide +kernel
theorem dX3_copyFrom_38 : decode cX3_copyFrom 38 = .ok (.getfield 9, 3) := by decide +kernel
theorem dX3_copyFrom_41 : decode cX3_copyFrom 41 = .ok (.iload_n 2, 1) := by decide +kernel
theorem dX3_copyFrom_42 : decode cX3_copyFrom 42 = .ok (.iaload, 1) := by decide +kernel
theorem dX3_copyFrom_43 : decode cX3_copyFrom 43 = .ok (.iastore, 1) := by decide +kernel
theorem dX3_copyFrom_44 : decode cX3_copyFrom 44 = .ok (.iinc 2 1, 3) := by decide +kernel
theorem dX3_copyFrom_47 : decode cX3_copyFrom 47 = .ok (.goto (-21), 3) := by decide +kernel
theorem dX3_copyFrom_50 : decode cX3_copyFrom 50 = .ok (.return_, 1) := by decide +kernel
theorem dX3_has_0 : decode cX3_has 0 = .ok (.iload_n 1, 1) := by decide +kernel
theorem dX3_has_1 : decode cX3_has 1 = .ok (.ifCond .lt 21, 3) := by decide +kernel
theorem dX3_has_4 : decode cX3_has 4 = .ok (.iload_n 1, 1) := by decide +kernel
theorem dX3_has_5 : decode cX3_has 5 = .ok (.aload_n 0, 1) := by decide +kernel
theorem dX3_has_6 : decode cX3_has 6 = .ok (.getfield 21, 3) := by decide +kernel
theorem dX3_has_9 : decode cX3_has 9 = .ok (.if_icmp .ge 13, 3) := by decide +kernel
theorem dX3_has_12 : decode cX3_has 12 = .ok (.iload_n 1, 1) := by decide +kernel
theorem dX3_has_13 : decode cX3_has 13 = .ok (.bipush 8, 2) := by decide +kernel
theorem dX3_has_15 : decode cX3_has 15 = .ok (.if_icmp .ge 7, 3) := by decide +kernel
theorem dX3_has_18 : decode cX3_has 18 = .ok (.iconst 1, 1) := by decide +kernel
theorem dX3_has_19 : decode cX3_has 19 = .ok (.goto 4, 3) := by decide +kernel
theorem dX3_has_22 : decode cX3_has 22 = .ok (.iconst 0, 1) := by decide +kernel
theorem dX3_has_23 : decode cX3_has 23 = .ok (.ireturn, 1) := by decide +kernel
theorem dX3_allBits_0 : decode cX3_allBits 0 = .ok (.iconst 1, 1) := by decide +kernel
theorem dX3_allBits_1 : decode cX3_allBits 1 = .ok (.aload_n 0, 1) := by decide +kernel
theorem dX3_allBits_2 : decode cX3_allBits 2 = .ok (.getfield 21, 3) := by decide +kernel
theorem dX3_allBits_5 : decode cX3_allBits 5 = .ok (.ishl, 1) := by decide +kernel
theorem dX3_allBits_6 : decode cX3_allBits 6 = .ok (.iconst 1, 1) := by decide +kernel
theorem dX3_allBits_7 : decode cX3_allBits 7 = .ok (.isub, 1) := by decide +kernel
theorem dX3_allBits_8 : decode cX3_allBits 8 = .ok (.ireturn, 1) := by decide +kernel
set_option maxRecDepth 20000 in
theorem ggX3_tenthsOf_X3_has : GoodIn wsX3_tenthsOf wsX3_has := goodIn_r _ [6, 7, 8, 9, 10, 11, 12, 13] (by decide +kernel) (by decide +kernel)
set_option maxRecDepth 20000 in
theorem gX3_tenthsOf_X3_has : GoodIn wsX3_tenthsOf (wsV RX3 35 RX3 yX3_has wsX3_has) := goodIn_app (goodIn_of _ (by decide +kernel)) ggX3_tenthsOf_X3_has
theorem dX3_tenthsOf_0 : decode cX3_tenthsOf 0 = .ok (.aload_n 0, 1) := by decide +kernel
theorem dX3_tenthsOf_1 : decode cX3_tenthsOf 1 = .ok (.iload_n 1, 1) := by decide +kernel
theorem dX3_tenthsOf_2 : decode cX3_tenthsOf 2 = .ok (.invokevirtual 35, 3) := by decide +kernel
theorem dX3_tenthsOf_5 : decode cX3_tenthsOf 5 = .ok (.ifCond .eq 25, 3) := by decide +kernel
theorem dX3_tenthsOf_8 : decode cX3_tenthsOf 8 = .ok (.aload_n 0, 1) := by decide +kernel
theorem dX3_tenthsOf_9 : decode cX3_tenthsOf 9 = .ok (.iload_n 2, 1) := by decide +kernel
theorem dX3_tenthsOf_10 : decode cX3_tenthsOf 10 = .ok (.invokevirtual 35, 3) := by decide +kernel
theorem dX3_tenthsOf_13 : decode cX3_tenthsOf 13 = .ok (.ifCond .eq 17, 3) := by decide +kernel
theorem dX3_tenthsOf_16 : decode cX3_tenthsOf 16 = .ok (.aload_n 0, 1) := by decide +kernel
theorem dX3_tenthsOf_17 : decode cX3_tenthsOf 17 = .ok (.getfield 9, 3) := by decide +kernel
theorem dX3_tenthsOf_20 : decode cX3_tenthsOf 20 = .ok (.iload_n 1, 1) := by decide +kernel
theorem dX3_tenthsOf_21 : decode cX3_tenthsOf 21 = .ok (.bipush 8, 2) := by decide +kernel
theorem dX3_tenthsOf_23 : decode cX3_tenthsOf 23 = .ok (.imul, 1) := by decide +kernel
theorem dX3_tenthsOf_24 : decode cX3_tenthsOf 24 = .ok (.iload_n 2, 1) := by decide +kernel
theorem dX3_tenthsOf_25 : decode cX3_tenthsOf 25 = .ok (.iadd, 1) := by decide +kernel
theorem dX3_tenthsOf_26 : decode cX3_tenthsOf 26 = .ok (.iaload, 1) := by decide +kernel
theorem dX3_tenthsOf_27 : decode cX3_tenthsOf 27 = .ok (.goto 4, 3) := by decide +kernel
theorem dX3_tenthsOf_30 : decode cX3_tenthsOf 30 = .ok (.iconst 0, 1) := by decide +kernel
theorem dX3_tenthsOf_31 : decode cX3_tenthsOf 31 = .ok (.ireturn, 1) := by decide +kernel
set_option maxRecDepth 20000 in
theorem ggX3_tell_X3_has : GoodIn wsX3_tell wsX3_has := goodIn_r _ [8, 9, 10, 11, 12, 13, 14, 15] (by decide +kernel) (by decide +kernel)
set_option maxRecDepth 20000 in
theorem gX3_tell_X3_has : GoodIn wsX3_tell (wsV RX3 35 RX3 yX3_has wsX3_has) := goodIn_app (goodIn_of _ (by decide +kernel)) ggX3_tell_X3_has
theorem dX3_tell_0 : decode cX3_tell 0 = .ok (.aload_n 0, 1) := by decide +kernel
theorem dX3_tell_1 : decode cX3_tell 1 = .ok (.iload_n 1, 1) := by decide +kernel
theorem dX3_tell_2 : decode cX3_tell 2 = .ok (.invokevirtual 35, 3) := by decide +kernel
theorem dX3_tell_5 : decode cX3_tell 5 = .ok (.ifCond .eq 46, 3) := by decide +kernel
theorem dX3_tell_8 : decode cX3_tell 8 = .ok (.aload_n 0, 1) := by decide +kernel
theorem dX3_tell_9 : decode cX3_tell 9 = .ok (.iload_n 2, 1) := by decide +kernel
theorem dX3_tell_10 : decode cX3_tell 10 = .ok (.invokevirtual 35, 3) := by decide +kernel
theorem dX3_tell_13 : decode cX3_tell 13 = .ok (.ifCond .eq 38, 3) := by decide +kernel
theorem dX3_tell_16 : decode cX3_tell 16 = .ok (.aload_n 0, 1) := by decide +kernel
theorem dX3_tell_17 : decode cX3_tell 17 = .ok (.getfield 9, 3) := by decide +kernel
theorem dX3_tell_20 : decode cX3_tell 20 = .ok (.iload_n 1, 1) := by decide +kernel
theorem dX3_tell_21 : decode cX3_tell 21 = .ok (.bipush 8, 2) := by decide +kernel
theorem dX3_tell_23 : decode cX3_tell 23 = .ok (.imul, 1) := by decide +kernel
theorem dX3_tell_24 : decode cX3_tell 24 = .ok (.iload_n 2, 1) := by decide +kernel
theorem dX3_tell_25 : decode cX3_tell 25 = .ok (.iadd, 1) := by decide +kernel
theorem dX3_tell_26 : decode cX3_tell 26 = .ok (.dup2, 1) := by decide +kernel
theorem dX3_tell_27 : decode cX3_tell 27 = .ok (.iaload, 1) := by decide +kernel
theorem dX3_tell_28 : decode cX3_tell 28 = .ok (.iload_n 3, 1) := by decide +kernel
theorem dX3_tell_29 : decode cX3_tell 29 = .ok (.iadd, 1) := by decide +kernel
theorem dX3_tell_30 : decode cX3_tell 30 = .ok (.iastore, 1) := by decide +kernel
theorem dX3_tell_31 : decode cX3_tell 31 = .ok (.aload_n 0, 1) := by decide +kernel
theorem dX3_tell_32 : decode cX3_tell 32 = .ok (.getfield 15, 3) := by decide +kernel
theorem dX3_tell_35 : decode cX3_tell 35 = .ok (.iload_n 1, 1) := by decide +kernel
theorem dX3_tell_36 : decode cX3_tell 36 = .ok (.dup2, 1) := by decide +kernel
theorem dX3_tell_37 : decode cX3_tell 37 = .ok (.iaload, 1) := by decide +kernel
theorem dX3_tell_38 : decode cX3_tell 38 = .ok (.iload_n 3, 1) := by decide +kernel
theorem dX3_tell_39 : decode cX3_tell 39 = .ok (.iadd, 1) := by decide +kernel
theorem dX3_tell_40 : decode cX3_tell 40 = .ok (.iastore, 1) := by decide +kernel
theorem dX3_tell_41 : decode cX3_tell 41 = .ok (.aload_n 0, 1) := by decide +kernel
theorem dX3_tell_42 : decode cX3_tell 42 = .ok (.getfield 18, 3) := by decide +kernel
theorem dX3_tell_45 : decode cX3_tell 45 = .ok (.iload_n 1, 1) := by decide +kernel
theorem dX3_tell_46 : decode cX3_tell 46 = .ok (.dup2, 1) := by decide +kernel
theorem dX3_tell_47 : decode cX3_tell 47 = .ok (.iaload, 1) := by decide +kernel
theorem dX3_tell_48 : decode cX3_tell 48 = .ok (.iconst 1, 1) := by decide +kernel
theorem dX3_tell_49 : decode cX3_tell 49 = .ok (.iadd, 1) := by decide +kernel
theorem dX3_tell_50 : decode cX3_tell 50 = .ok (.iastore, 1) := by decide +kernel
theorem dX3_tell_51 : decode cX3_tell 51 = .ok (.return_, 1) := by decide +kernel
set_option maxRecDepth 20000 in
theorem ggX3_lay_X3_tell : GoodIn wsX3_lay wsX3_tell := goodIn_r _ [8, 9, 10, 11, 12, 13, 14, 7, 15, 3, 16, 17, 18, 19, 20, 21] (by decide +kernel) (by decide +kernel)
set_option maxRecDepth 20000 in
theorem gX3_lay_X3_tell : GoodIn wsX3_lay (wsV RX3 39 RX3 yX3_tell wsX3_tell) := goodIn_app (goodIn_of _ (by decide +kernel)) ggX3_lay_X3_tell
theorem dX3_lay_0 : decode cX3_lay 0 = .ok (.aload_n 0, 1) := by decide +kernel
theorem dX3_lay_1 : decode cX3_lay 1 = .ok (.iload_n 1, 1) := by decide +kernel
theorem dX3_lay_2 : decode cX3_lay 2 = .ok (.putfield 25, 3) := by decide +kernel
theorem dX3_lay_5 : decode cX3_lay 5 = .ok (.aload_n 0, 1) := by decide +kernel
theorem dX3_lay_6 : decode cX3_lay 6 = .ok (.iload_n 2, 1) := by decide +kernel
theorem dX3_lay_7 : decode cX3_lay 7 = .ok (.putfield 28, 3) := by decide +kernel
theorem dX3_lay_10 : decode cX3_lay 10 = .ok (.aload_n 0, 1) := by decide +kernel
theorem dX3_lay_11 : decode cX3_lay 11 = .ok (.getfield 21, 3) := by decide +kernel
theorem dX3_lay_14 : decode cX3_lay 14 = .ok (.iconst 1, 1) := by decide +kernel
theorem dX3_lay_15 : decode cX3_lay 15 = .ok (.isub, 1) := by decide +kernel
theorem dX3_lay_16 : decode cX3_lay 16 = .ok (.istore_n 3, 1) := by decide +kernel
theorem dX3_lay_17 : decode cX3_lay 17 = .ok (.iconst 0, 1) := by decide +kernel
theorem dX3_lay_18 : decode cX3_lay 18 = .ok (.istore 4, 2) := by decide +kernel
theorem dX3_lay_20 : decode cX3_lay 20 = .ok (.iload 4, 2) := by decide +kernel
theorem dX3_lay_22 : decode cX3_lay 22 = .ok (.iload_n 3, 1) := by decide +kernel
theorem dX3_lay_23 : decode cX3_lay 23 = .ok (.if_icmp .gt 108, 3) := by decide +kernel
theorem dX3_lay_26 : decode cX3_lay 26 = .ok (.iload 4, 2) := by decide +kernel
theorem dX3_lay_28 : decode cX3_lay 28 = .ok (.iload_n 3, 1) := by decide +kernel
theorem dX3_lay_29 : decode cX3_lay 29 = .ok (.if_icmp .ge 10, 3) := by decide +kernel
theorem dX3_lay_32 : decode cX3_lay 32 = .ok (.iload 4, 2) := by decide +kernel
theorem dX3_lay_34 : decode cX3_lay 34 = .ok (.iconst 1, 1) := by decide +kernel
theorem dX3_lay_35 : decode cX3_lay 35 = .ok (.iadd, 1) := by decide +kernel
theorem dX3_lay_36 : decode cX3_lay 36 = .ok (.goto 4, 3) := by decide +kernel
theorem dX3_lay_39 : decode cX3_lay 39 = .ok (.iconst 0, 1) := by decide +kernel
theorem dX3_lay_40 : decode cX3_lay 40 = .ok (.istore 5, 2) := by decide +kernel
theorem dX3_lay_42 : decode cX3_lay 42 = .ok (.iload 4, 2) := by decide +kernel
theorem dX3_lay_44 : decode cX3_lay 44 = .ok (.ifCond .le 10, 3) := by decide +kernel
theorem dX3_lay_47 : decode cX3_lay 47 = .ok (.iload 4, 2) := by decide +kernel
theorem dX3_lay_49 : decode cX3_lay 49 = .ok (.iconst 1, 1) := by decide +kernel
theorem dX3_lay_50 : decode cX3_lay 50 = .ok (.isub, 1) := by decide +kernel
theorem dX3_lay_51 : decode cX3_lay 51 = .ok (.goto 4, 3) := by decide +kernel
theorem dX3_lay_54 : decode cX3_lay 54 = .ok (.iload_n 3, 1) := by decide +kernel
theorem dX3_lay_55 : decode cX3_lay 55 = .ok (.istore 6, 2) := by decide +kernel
theorem dX3_lay_57 : decode cX3_lay 57 = .ok (.iload_n 1, 1) := by decide +kernel
theorem dX3_lay_58 : decode cX3_lay 58 = .ok (.iconst 1, 1) := by decide +kernel
theorem dX3_lay_59 : decode cX3_lay 59 = .ok (.if_icmp .ne 21, 3) := by decide +kernel
theorem dX3_lay_62 : decode cX3_lay 62 = .ok (.iload 4, 2) := by decide +kernel
theorem dX3_lay_64 : decode cX3_lay 64 = .ok (.ifCond .ne 16, 3) := by decide +kernel
theorem dX3_lay_67 : decode cX3_lay 67 = .ok (.aload_n 0, 1) := by decide +kernel
theorem dX3_lay_68 : decode cX3_lay 68 = .ok (.iload 4, 2) := by decide +kernel
theorem dX3_lay_70 : decode cX3_lay 70 = .ok (.iload 5, 2) := by decide +kernel
theorem dX3_lay_72 : decode cX3_lay 72 = .ok (.bipush 10, 2) := by decide +kernel
theorem dX3_lay_74 : decode cX3_lay 74 = .ok (.invokevirtual 39, 3) := by decide +kernel
theorem dX3_lay_77 : decode cX3_lay 77 = .ok (.goto 48, 3) := by decide +kernel
theorem dX3_lay_80 : decode cX3_lay 80 = .ok (.iload_n 1, 1) := by decide +kernel
theorem dX3_lay_81 : decode cX3_lay 81 = .ok (.iconst 1, 1) := by decide +kernel
theorem dX3_lay_82 : decode cX3_lay 82 = .ok (.if_icmp .ne 22, 3) := by decide +kernel
theorem dX3_lay_85 : decode cX3_lay 85 = .ok (.iload 4, 2) := by decide +kernel
theorem dX3_lay_87 : decode cX3_lay 87 = .ok (.iload_n 3, 1) := by decide +kernel
theorem dX3_lay_88 : decode cX3_lay 88 = .ok (.if_icmp .ne 16, 3) := by decide +kernel
theorem dX3_lay_91 : decode cX3_lay 91 = .ok (.aload_n 0, 1) := by decide +kernel
theorem dX3_lay_92 : decode cX3_lay 92 = .ok (.iload 4, 2) := by decide +kernel
theorem dX3_lay_94 : decode cX3_lay 94 = .ok (.iload 6, 2) := by decide +kernel
theorem dX3_lay_96 : decode cX3_lay 96 = .ok (.bipush 10, 2) := by decide +kernel
theorem dX3_lay_98 : decode cX3_lay 98 = .ok (.invokevirtual 39, 3) := by decide +kernel
theorem dX3_lay_101 : decode cX3_lay 101 = .ok (.goto 24, 3) := by decide +kernel
theorem dX3_lay_104 : decode cX3_lay 104 = .ok (.aload_n 0, 1) := by decide +kernel
theorem dX3_lay_105 : decode cX3_lay 105 = .ok (.iload 4, 2) := by decide +kernel
theorem dX3_lay_107 : decode cX3_lay 107 = .ok (.iload 5, 2) := by decide +kernel
theorem dX3_lay_109 : decode cX3_lay 109 = .ok (.iload_n 2, 1) := by decide +kernel
theorem dX3_lay_110 : decode cX3_lay 110 = .ok (.invokevirtual 39, 3) := by decide +kernel
theorem dX3_lay_113 : decode cX3_lay 113 = .ok (.aload_n 0, 1) := by decide +kernel
theorem dX3_lay_114 : decode cX3_lay 114 = .ok (.iload 4, 2) := by decide +kernel
theorem dX3_lay_116 : decode cX3_lay 116 = .ok (.iload 6, 2) := by decide +kernel
theorem dX3_lay_118 : decode cX3_lay 118 = .ok (.bipush 10, 2) := by decide +kernel
theorem dX3_lay_120 : decode cX3_lay 120 = .ok (.iload_n 2, 1) := by decide +kernel
theorem dX3_lay_121 : decode cX3_lay 121 = .ok (.isub, 1) := by decide +kernel
theorem dX3_lay_122 : decode cX3_lay 122 = .ok (.invokevirtual 39, 3) := by decide +kernel
theorem dX3_lay_125 : decode cX3_lay 125 = .ok (.iinc 4 1, 3) := by decide +kernel
theorem dX3_lay_128 : decode cX3_lay 128 = .ok (.goto (-108), 3) := by decide +kernel
theorem dX3_lay_131 : decode cX3_lay 131 = .ok (.return_, 1) := by decide +kernel
set_option maxRecDepth 20000 in
theorem ggX3_layStays_X3_has : GoodIn wsX3_layStays wsX3_has := goodIn_r _ [7, 1, 14, 15, 16, 17, 18, 19] (by decide +kernel) (by decide +kernel)
set_option maxRecDepth 20000 in
theorem gX3_layStays_X3_has : GoodIn wsX3_layStays (wsV RX3 35 RX3 yX3_has wsX3_has) := goodIn_app (goodIn_of _ (by decide +kernel)) ggX3_layStays_X3_has
set_option maxRecDepth 20000 in
theorem ggX3_layStays_X3_tell : GoodIn wsX3_layStays wsX3_tell := goodIn_r _ [11, 12, 2, 13, 3, 4, 5, 6, 7, 1, 14, 15, 16, 17, 18, 19] (by decide +kernel) (by decide +kernel)
set_option maxRecDepth 20000 in
theorem gX3_layStays_X3_tell : GoodIn wsX3_layStays (wsV RX3 39 RX3 yX3_tell wsX3_tell) := goodIn_app (goodIn_of _ (by decide +kernel)) ggX3_layStays_X3_tell
theorem dX3_layStays_0 : decode cX3_layStays 0 = .ok (.iconst 0, 1) := by decide +kernel
theorem dX3_layStays_1 : decode cX3_layStays 1 = .ok (.istore_n 1, 1) := by decide +kernel
theorem dX3_layStays_2 : decode cX3_layStays 2 = .ok (.iload_n 1, 1) := by decide +kernel
theorem dX3_layStays_3 : decode cX3_layStays 3 = .ok (.aload_n 0, 1) := by decide +kernel
theorem dX3_layStays_4 : decode cX3_layStays 4 = .ok (.getfield 21, 3) := by decide +kernel
theorem dX3_layStays_7 : decode cX3_layStays 7 = .ok (.if_icmp .ge 34, 3) := by decide +kernel
theorem dX3_layStays_10 : decode cX3_layStays 10 = .ok (.aload_n 0, 1) := by decide +kernel
theorem dX3_layStays_11 : decode cX3_layStays 11 = .ok (.iload_n 1, 1) := by decide +kernel
theorem dX3_layStays_12 : decode cX3_layStays 12 = .ok (.invokevirtual 35, 3) := by decide +kernel
theorem dX3_layStays_15 : decode cX3_layStays 15 = .ok (.ifCond .eq 20, 3) := by decide +kernel
theorem dX3_layStays_18 : decode cX3_layStays 18 = .ok (.aload_n 0, 1) := by decide +kernel
theorem dX3_layStays_19 : decode cX3_layStays 19 = .ok (.getfield 15, 3) := by decide +kernel
theorem dX3_layStays_22 : decode cX3_layStays 22 = .ok (.iload_n 1, 1) := by decide +kernel
theorem dX3_layStays_23 : decode cX3_layStays 23 = .ok (.iaload, 1) := by decide +kernel
theorem dX3_layStays_24 : decode cX3_layStays 24 = .ok (.ifCond .ne 11, 3) := by decide +kernel
theorem dX3_layStays_27 : decode cX3_layStays 27 = .ok (.aload_n 0, 1) := by decide +kernel
theorem dX3_layStays_28 : decode cX3_layStays 28 = .ok (.iload_n 1, 1) := by decide +kernel
theorem dX3_layStays_29 : decode cX3_layStays 29 = .ok (.iload_n 1, 1) := by decide +kernel
theorem dX3_layStays_30 : decode cX3_layStays 30 = .ok (.bipush 10, 2) := by decide +kernel
theorem dX3_layStays_32 : decode cX3_layStays 32 = .ok (.invokevirtual 39, 3) := by decide +kernel
theorem dX3_layStays_35 : decode cX3_layStays 35 = .ok (.iinc 1 1, 3) := by decide +kernel
theorem dX3_layStays_38 : decode cX3_layStays 38 = .ok (.goto (-36), 3) := by decide +kernel
theorem dX3_layStays_41 : decode cX3_layStays 41 = .ok (.return_, 1) := by decide +kernel
set_option maxRecDepth 20000 in
theorem ggX3_stays_X3_tenthsOf : GoodIn wsX3_stays wsX3_tenthsOf := goodIn_r _ [5, 6, 7, 8, 9, 4, 10, 11, 12, 13, 14, 15, 16, 17] (by decide +kernel) (by decide +kernel)
set_option maxRecDepth 20000 in
theorem gX3_stays_X3_tenthsOf : GoodIn wsX3_stays (wsV RX3 43 RX3 yX3_tenthsOf wsX3_tenthsOf) := goodIn_app (goodIn_of _ (by decide +kernel)) ggX3_stays_X3_tenthsOf
theorem dX3_stays_0 : decode cX3_stays 0 = .ok (.aload_n 0, 1) := by decide +kernel
theorem dX3_stays_1 : decode cX3_stays 1 = .ok (.iload_n 1, 1) := by decide +kernel
theorem dX3_stays_2 : decode cX3_stays 2 = .ok (.iload_n 1, 1) := by decide +kernel
theorem dX3_stays_3 : decode cX3_stays 3 = .ok (.invokevirtual 43, 3) := by decide +kernel
theorem dX3_stays_6 : decode cX3_stays 6 = .ok (.ifCond .le 7, 3) := by decide +kernel
theorem dX3_stays_9 : decode cX3_stays 9 = .ok (.iconst 1, 1) := by decide +kernel
theorem dX3_stays_10 : decode cX3_stays 10 = .ok (.goto 4, 3) := by decide +kernel
theorem dX3_stays_13 : decode cX3_stays 13 = .ok (.iconst 0, 1) := by decide +kernel
theorem dX3_stays_14 : decode cX3_stays 14 = .ok (.ireturn, 1) := by decide +kernel
set_option maxRecDepth 20000 in
theorem ggX3_hasRoom_X3_hasRoomFrom : GoodIn wsX3_hasRoom wsX3_hasRoomFrom := goodIn_r _ [6, 7, 8, 9, 10, 5, 11, 1, 12, 13, 14, 15, 16, 17] (by decide +kernel) (by decide +kernel)
set_option maxRecDepth 20000 in
theorem gX3_hasRoom_X3_hasRoomFrom : GoodIn wsX3_hasRoom (wsV RX3 47 RX3 yX3_hasRoomFrom wsX3_hasRoomFrom) := goodIn_app (goodIn_of _ (by decide +kernel)) ggX3_hasRoom_X3_hasRoomFrom
theorem dX3_hasRoom_0 : decode cX3_hasRoom 0 = .ok (.iconst 0, 1) := by decide +kernel
theorem dX3_hasRoom_1 : decode cX3_hasRoom 1 = .ok (.istore_n 1, 1) := by decide +kernel
theorem dX3_hasRoom_2 : decode cX3_hasRoom 2 = .ok (.iload_n 1, 1) := by decide +kernel
theorem dX3_hasRoom_3 : decode cX3_hasRoom 3 = .ok (.aload_n 0, 1) := by decide +kernel
theorem dX3_hasRoom_4 : decode cX3_hasRoom 4 = .ok (.getfield 21, 3) := by decide +kernel
theorem dX3_hasRoom_7 : decode cX3_hasRoom 7 = .ok (.if_icmp .ge 19, 3) := by decide +kernel
theorem dX3_hasRoom_10 : decode cX3_hasRoom 10 = .ok (.aload_n 0, 1) := by decide +kernel
theorem dX3_hasRoom_11 : decode cX3_hasRoom 11 = .ok (.iload_n 1, 1) := by decide +kernel
theorem dX3_hasRoom_12 : decode cX3_hasRoom 12 = .ok (.invokevirtual 47, 3) := by decide +kernel
theorem dX3_hasRoom_15 : decode cX3_hasRoom 15 = .ok (.ifCond .eq 5, 3) := by decide +kernel
theorem dX3_hasRoom_18 : decode cX3_hasRoom 18 = .ok (.iconst 1, 1) := by decide +kernel
theorem dX3_hasRoom_19 : decode cX3_hasRoom 19 = .ok (.ireturn, 1) := by decide +kernel
theorem dX3_hasRoom_20 : decode cX3_hasRoom 20 = .ok (.iinc 1 1, 3) := by decide +kernel
theorem dX3_hasRoom_23 : decode cX3_hasRoom 23 = .ok (.goto (-21), 3) := by decide +kernel
theorem dX3_hasRoom_26 : decode cX3_hasRoom 26 = .ok (.iconst 0, 1) := by decide +kernel
theorem dX3_hasRoom_27 : decode cX3_hasRoom 27 = .ok (.ireturn, 1) := by decide +kernel
set_option maxRecDepth 20000 in
theorem ggX3_hasRoomFrom_X3_has : GoodIn wsX3_hasRoomFrom wsX3_has := goodIn_r _ [6, 7, 8, 9, 10, 11, 12, 13] (by decide +kernel) (by decide +kernel)
set_option maxRecDepth 20000 in
theorem gX3_hasRoomFrom_X3_has : GoodIn wsX3_hasRoomFrom (wsV RX3 35 RX3 yX3_has wsX3_has) := goodIn_app (goodIn_of _ (by decide +kernel)) ggX3_hasRoomFrom_X3_has
theorem dX3_hasRoomFrom_0 : decode cX3_hasRoomFrom 0 = .ok (.aload_n 0, 1) := by decide +kernel
theorem dX3_hasRoomFrom_1 : decode cX3_hasRoomFrom 1 = .ok (.iload_n 1, 1) := by decide +kernel
theorem dX3_hasRoomFrom_2 : decode cX3_hasRoomFrom 2 = .ok (.invokevirtual 35, 3) := by decide +kernel
theorem dX3_hasRoomFrom_5 : decode cX3_hasRoomFrom 5 = .ok (.ifCond .eq 18, 3) := by decide +kernel
theorem dX3_hasRoomFrom_8 : decode cX3_hasRoomFrom 8 = .ok (.aload_n 0, 1) := by decide +kernel
theorem dX3_hasRoomFrom_9 : decode cX3_hasRoomFrom 9 = .ok (.getfield 15, 3) := by decide +kernel
theorem dX3_hasRoomFrom_12 : decode cX3_hasRoomFrom 12 = .ok (.iload_n 1, 1) := by decide +kernel
theorem dX3_hasRoomFrom_13 : decode cX3_hasRoomFrom 13 = .ok (.iaload, 1) := by decide +kernel
theorem dX3_hasRoomFrom_14 : decode cX3_hasRoomFrom 14 = .ok (.bipush 10, 2) := by decide +kernel
theorem dX3_hasRoomFrom_16 : decode cX3_hasRoomFrom 16 = .ok (.if_icmp .ge 7, 3) := by decide +kernel
theorem dX3_hasRoomFrom_19 : decode cX3_hasRoomFrom 19 = .ok (.iconst 1, 1) := by decide +kernel
theorem dX3_hasRoomFrom_20 : decode cX3_hasRoomFrom 20 = .ok (.goto 4, 3) := by decide +kernel
theorem dX3_hasRoomFrom_23 : decode cX3_hasRoomFrom 23 = .ok (.iconst 0, 1) := by decide +kernel
theorem dX3_hasRoomFrom_24 : decode cX3_hasRoomFrom 24 = .ok (.ireturn, 1) := by decide +kernel
set_option maxRecDepth 20000 in
theorem ggX3_isFree_X3_has : GoodIn wsX3_isFree wsX3_has := goodIn_r _ [5, 6, 12, 13, 14, 15, 16, 17] (by decide +kernel) (by decide +kernel)
set_option maxRecDepth 20000 in
theorem gX3_isFree_X3_has : GoodIn wsX3_isFree (wsV RX3 35 RX3 yX3_has wsX3_has) := goodIn_app (goodIn_of _ (by decide +kernel)) ggX3_isFree_X3_has
set_option maxRecDepth 20000 in
theorem ggX3_isFree_X3_tenthsOf : GoodIn wsX3_isFree wsX3_tenthsOf := goodIn_r _ [10, 11, 1, 2, 3, 4, 5, 6, 12, 13, 14, 15, 16, 17] (by decide +kernel) (by decide +kernel)
set_option maxRecDepth 20000 in
theorem gX3_isFree_X3_tenthsOf : GoodIn wsX3_isFree (wsV RX3 43 RX3 yX3_tenthsOf wsX3_tenthsOf) := goodIn_app (goodIn_of _ (by decide +kernel)) ggX3_isFree_X3_tenthsOf
theorem dX3_isFree_0 : decode cX3_isFree 0 = .ok (.aload_n 0, 1) := by decide +kernel
theorem dX3_isFree_1 : decode cX3_isFree 1 = .ok (.iload_n 1, 1) := by decide +kernel
theorem dX3_isFree_2 : decode cX3_isFree 2 = .ok (.invokevirtual 35, 3) := by decide +kernel
theorem dX3_isFree_5 : decode cX3_isFree 5 = .ok (.ifCond .eq 29, 3) := by decide +kernel
theorem dX3_isFree_8 : decode cX3_isFree 8 = .ok (.aload_n 0, 1) := by decide +kernel
theorem dX3_isFree_9 : decode cX3_isFree 9 = .ok (.iload_n 2, 1) := by decide +kernel
theorem dX3_isFree_10 : decode cX3_isFree 10 = .ok (.invokevirtual 35, 3) := by decide +kernel
theorem dX3_isFree_13 : decode cX3_isFree 13 = .ok (.ifCond .eq 21, 3) := by decide +kernel
theorem dX3_isFree_16 : decode cX3_isFree 16 = .ok (.iload_n 1, 1) := by decide +kernel
theorem dX3_isFree_17 : decode cX3_isFree 17 = .ok (.iload_n 2, 1) := by decide +kernel
theorem dX3_isFree_18 : decode cX3_isFree 18 = .ok (.if_icmp .eq 16, 3) := by decide +kernel
theorem dX3_isFree_21 : decode cX3_isFree 21 = .ok (.aload_n 0, 1) := by decide +kernel
theorem dX3_isFree_22 : decode cX3_isFree 22 = .ok (.iload_n 1, 1) := by decide +kernel
theorem dX3_isFree_23 : decode cX3_isFree 23 = .ok (.iload_n 2, 1) := by decide +kernel
theorem dX3_isFree_24 : decode cX3_isFree 24 = .ok (.invokevirtual 43, 3) := by decide +kernel
theorem dX3_isFree_27 : decode cX3_isFree 27 = .ok (.ifCond .ne 7, 3) := by decide +kernel
theorem dX3_isFree_30 : decode cX3_isFree 30 = .ok (.iconst 1, 1) := by decide +kernel
theorem dX3_isFree_31 : decode cX3_isFree 31 = .ok (.goto 4, 3) := by decide +kernel
theorem dX3_isFree_34 : decode cX3_isFree 34 = .ok (.iconst 0, 1) := by decide +kernel
theorem dX3_isFree_35 : decode cX3_isFree 35 = .ok (.ireturn, 1) := by decide +kernel
set_option maxRecDepth 20000 in
theorem ggX3_canTell_X3_has : GoodIn wsX3_canTell wsX3_has := goodIn_r _ [8, 3, 9, 10, 11, 12, 13, 14] (by decide +kernel) (by decide +kernel)
set_option maxRecDepth 20000 in
theorem gX3_canTell_X3_has : GoodIn wsX3_canTell (wsV RX3 35 RX3 yX3_has wsX3_has) := goodIn_app (goodIn_of _ (by decide +kernel)) ggX3_canTell_X3_has
theorem dX3_canTell_0 : decode cX3_canTell 0 = .ok (.aload_n 0, 1) := by decide +kernel
theorem dX3_canTell_1 : decode cX3_canTell 1 = .ok (.iload_n 1, 1) := by decide +kernel
theorem dX3_canTell_2 : decode cX3_canTell 2 = .ok (.invokevirtual 35, 3) := by decide +kernel
theorem dX3_canTell_5 : decode cX3_canTell 5 = .ok (.ifCond .eq 8, 3) := by decide +kernel
theorem dX3_canTell_8 : decode cX3_canTell 8 = .ok (.iload_n 2, 1) := by decide +kernel
theorem dX3_canTell_9 : decode cX3_canTell 9 = .ok (.iconst 1, 1) := by decide +kernel
theorem dX3_canTell_10 : decode cX3_canTell 10 = .ok (.if_icmp .ge 5, 3) := by decide +kernel
theorem dX3_canTell_13 : decode cX3_canTell 13 = .ok (.iconst 0, 1) := by decide +kernel
theorem dX3_canTell_14 : decode cX3_canTell 14 = .ok (.ireturn, 1) := by decide +kernel
theorem dX3_canTell_15 : decode cX3_canTell 15 = .ok (.aload_n 0, 1) := by decide +kernel
theorem dX3_canTell_16 : decode cX3_canTell 16 = .ok (.getfield 15, 3) := by decide +kernel
theorem dX3_canTell_19 : decode cX3_canTell 19 = .ok (.iload_n 1, 1) := by decide +kernel
theorem dX3_canTell_20 : decode cX3_canTell 20 = .ok (.iaload, 1) := by decide +kernel
theorem dX3_canTell_21 : decode cX3_canTell 21 = .ok (.iload_n 2, 1) := by decide +kernel
theorem dX3_canTell_22 : decode cX3_canTell 22 = .ok (.iadd, 1) := by decide +kernel
theorem dX3_canTell_23 : decode cX3_canTell 23 = .ok (.istore_n 3, 1) := by decide +kernel
theorem dX3_canTell_24 : decode cX3_canTell 24 = .ok (.iload_n 3, 1) := by decide +kernel
theorem dX3_canTell_25 : decode cX3_canTell 25 = .ok (.bipush 10, 2) := by decide +kernel
theorem dX3_canTell_27 : decode cX3_canTell 27 = .ok (.if_icmp .eq 26, 3) := by decide +kernel
theorem dX3_canTell_30 : decode cX3_canTell 30 = .ok (.iload_n 3, 1) := by decide +kernel
theorem dX3_canTell_31 : decode cX3_canTell 31 = .ok (.bipush 10, 2) := by decide +kernel
theorem dX3_canTell_33 : decode cX3_canTell 33 = .ok (.if_icmp .ge 24, 3) := by decide +kernel
theorem dX3_canTell_36 : decode cX3_canTell 36 = .ok (.aload_n 0, 1) := by decide +kernel
theorem dX3_canTell_37 : decode cX3_canTell 37 = .ok (.getfield 18, 3) := by decide +kernel
theorem dX3_canTell_40 : decode cX3_canTell 40 = .ok (.iload_n 1, 1) := by decide +kernel
theorem dX3_canTell_41 : decode cX3_canTell 41 = .ok (.iaload, 1) := by decide +kernel
theorem dX3_canTell_42 : decode cX3_canTell 42 = .ok (.iconst 1, 1) := by decide +kernel
theorem dX3_canTell_43 : decode cX3_canTell 43 = .ok (.iadd, 1) := by decide +kernel
theorem dX3_canTell_44 : decode cX3_canTell 44 = .ok (.aload_n 0, 1) := by decide +kernel
theorem dX3_canTell_45 : decode cX3_canTell 45 = .ok (.getfield 21, 3) := by decide +kernel
theorem dX3_canTell_48 : decode cX3_canTell 48 = .ok (.iconst 1, 1) := by decide +kernel
theorem dX3_canTell_49 : decode cX3_canTell 49 = .ok (.isub, 1) := by decide +kernel
theorem dX3_canTell_50 : decode cX3_canTell 50 = .ok (.if_icmp .ge 7, 3) := by decide +kernel
theorem dX3_canTell_53 : decode cX3_canTell 53 = .ok (.iconst 1, 1) := by decide +kernel
theorem dX3_canTell_54 : decode cX3_canTell 54 = .ok (.goto 4, 3) := by decide +kernel
theorem dX3_canTell_57 : decode cX3_canTell 57 = .ok (.iconst 0, 1) := by decide +kernel
theorem dX3_canTell_58 : decode cX3_canTell 58 = .ok (.ireturn, 1) := by decide +kernel
set_option maxRecDepth 20000 in
theorem ggX3_isWhole_X3_has : GoodIn wsX3_isWhole wsX3_has := goodIn_r _ [7, 1, 8, 9, 10, 11, 12, 13] (by decide +kernel) (by decide +kernel)
set_option maxRecDepth 20000 in
theorem gX3_isWhole_X3_has : GoodIn wsX3_isWhole (wsV RX3 35 RX3 yX3_has wsX3_has) := goodIn_app (goodIn_of _ (by decide +kernel)) ggX3_isWhole_X3_has
theorem dX3_isWhole_0 : decode cX3_isWhole 0 = .ok (.iconst 0, 1) := by decide +kernel
theorem dX3_isWhole_1 : decode cX3_isWhole 1 = .ok (.istore_n 1, 1) := by decide +kernel
theorem dX3_isWhole_2 : decode cX3_isWhole 2 = .ok (.iload_n 1, 1) := by decide +kernel
theorem dX3_isWhole_3 : decode cX3_isWhole 3 = .ok (.aload_n 0, 1) := by decide +kernel
theorem dX3_isWhole_4 : decode cX3_isWhole 4 = .ok (.getfield 21, 3) := by decide +kernel
theorem dX3_isWhole_7 : decode cX3_isWhole 7 = .ok (.if_icmp .ge 39, 3) := by decide +kernel
theorem dX3_isWhole_10 : decode cX3_isWhole 10 = .ok (.aload_n 0, 1) := by decide +kernel
theorem dX3_isWhole_11 : decode cX3_isWhole 11 = .ok (.iload_n 1, 1) := by decide +kernel
theorem dX3_isWhole_12 : decode cX3_isWhole 12 = .ok (.invokevirtual 35, 3) := by decide +kernel
theorem dX3_isWhole_15 : decode cX3_isWhole 15 = .ok (.ifCond .eq 25, 3) := by decide +kernel
theorem dX3_isWhole_18 : decode cX3_isWhole 18 = .ok (.aload_n 0, 1) := by decide +kernel
theorem dX3_isWhole_19 : decode cX3_isWhole 19 = .ok (.getfield 15, 3) := by decide +kernel
theorem dX3_isWhole_22 : decode cX3_isWhole 22 = .ok (.iload_n 1, 1) := by decide +kernel
theorem dX3_isWhole_23 : decode cX3_isWhole 23 = .ok (.iaload, 1) := by decide +kernel
theorem dX3_isWhole_24 : decode cX3_isWhole 24 = .ok (.ifCond .le 16, 3) := by decide +kernel
theorem dX3_isWhole_27 : decode cX3_isWhole 27 = .ok (.aload_n 0, 1) := by decide +kernel
theorem dX3_isWhole_28 : decode cX3_isWhole 28 = .ok (.getfield 15, 3) := by decide +kernel
theorem dX3_isWhole_31 : decode cX3_isWhole 31 = .ok (.iload_n 1, 1) := by decide +kernel
theorem dX3_isWhole_32 : decode cX3_isWhole 32 = .ok (.iaload, 1) := by decide +kernel
theorem dX3_isWhole_33 : decode cX3_isWhole 33 = .ok (.bipush 10, 2) := by decide +kernel
theorem dX3_isWhole_35 : decode cX3_isWhole 35 = .ok (.if_icmp .ge 5, 3) := by decide +kernel
theorem dX3_isWhole_38 : decode cX3_isWhole 38 = .ok (.iconst 0, 1) := by decide +kernel
theorem dX3_isWhole_39 : decode cX3_isWhole 39 = .ok (.ireturn, 1) := by decide +kernel
theorem dX3_isWhole_40 : decode cX3_isWhole 40 = .ok (.iinc 1 1, 3) := by decide +kernel
theorem dX3_isWhole_43 : decode cX3_isWhole 43 = .ok (.goto (-41), 3) := by decide +kernel
theorem dX3_isWhole_46 : decode cX3_isWhole 46 = .ok (.iconst 1, 1) := by decide +kernel
theorem dX3_isWhole_47 : decode cX3_isWhole 47 = .ok (.ireturn, 1) := by decide +kernel
theorem dX4_init_0 : decode cX4_init 0 = .ok (.aload_n 0, 1) := by decide +kernel
theorem dX4_init_1 : decode cX4_init 1 = .ok (.invokespecial 3, 3) := by decide +kernel
theorem dX4_init_4 : decode cX4_init 4 = .ok (.aload_n 0, 1) := by decide +kernel
theorem dX4_init_5 : decode cX4_init 5 = .ok (.bipush 30, 2) := by decide +kernel
theorem dX4_init_7 : decode cX4_init 7 = .ok (.newarray .int, 2) := by decide +kernel
theorem dX4_init_9 : decode cX4_init 9 = .ok (.putfield 9, 3) := by decide +kernel
theorem dX4_init_12 : decode cX4_init 12 = .ok (.aload_n 0, 1) := by decide +kernel
theorem dX4_init_13 : decode cX4_init 13 = .ok (.bipush 8, 2) := by decide +kernel
theorem dX4_init_15 : decode cX4_init 15 = .ok (.newarray .int, 2) := by decide +kernel
theorem dX4_init_17 : decode cX4_init 17 = .ok (.putfield 15, 3) := by decide +kernel
theorem dX4_init_20 : decode cX4_init 20 = .ok (.aload_n 0, 1) := by decide +kernel
theorem dX4_init_21 : decode cX4_init 21 = .ok (.bipush 8, 2) := by decide +kernel
theorem dX4_init_23 : decode cX4_init 23 = .ok (.newarray .int, 2) := by decide +kernel
theorem dX4_init_25 : decode cX4_init 25 = .ok (.putfield 18, 3) := by decide +kernel
theorem dX4_init_28 : decode cX4_init 28 = .ok (.aload_n 0, 1) := by decide +kernel
theorem dX4_init_29 : decode cX4_init 29 = .ok (.iconst 1, 1) := by decide +kernel
theorem dX4_init_30 : decode cX4_init 30 = .ok (.putfield 21, 3) := by decide +kernel
theorem dX4_init_33 : decode cX4_init 33 = .ok (.return_, 1) := by decide +kernel
theorem dX4_copyFrom_0 : decode cX4_copyFrom 0 = .ok (.aload_n 0, 1) := by decide +kernel
theorem dX4_copyFrom_1 : decode cX4_copyFrom 1 = .ok (.aload_n 1, 1) := by decide +kernel
theorem dX4_copyFrom_2 : decode cX4_copyFrom 2 = .ok (.getfield 25, 3) := by decide +kernel
theorem dX4_copyFrom_5 : decode cX4_copyFrom 5 = .ok (.putfield 25, 3) := by decide +kernel
theorem dX4_copyFrom_8 : decode cX4_copyFrom 8 = .ok (.aload_n 0, 1) := by decide +kernel
theorem dX4_copyFrom_9 : decode cX4_copyFrom 9 = .ok (.aload_n 1, 1) := by decide +kernel
theorem dX4_copyFrom_10 : decode cX4_copyFrom 10 = .ok (.getfield 28, 3) := by decide +kernel
theorem dX4_copyFrom_13 : decode cX4_copyFrom 13 = .ok (.putfield 28, 3) := by decide +kernel
theorem dX4_copyFrom_16 : decode cX4_copyFrom 16 = .ok (.aload_n 0, 1) := by decide +kernel
theorem dX4_copyFrom_17 : decode cX4_copyFrom 17 = .ok (.aload_n 1, 1) := by decide +kernel
theorem dX4_copyFrom_18 : decode cX4_copyFrom 18 = .ok (.getfield 21, 3) := by decide +kernel
theorem dX4_copyFrom_21 : decode cX4_copyFrom 21 = .ok (.putfield 21, 3) := by decide +kernel
theorem dX4_copyFrom_24 : decode cX4_copyFrom 24 = .ok (.aload_n 0, 1) := by decide +kernel
theorem dX4_copyFrom_25 : decode cX4_copyFrom 25 = .ok (.aload_n 1, 1) := by decide +kernel
theorem dX4_copyFrom_26 : decode cX4_copyFrom 26 = .ok (.getfield 31, 3) := by decide +kernel
theorem dX4_copyFrom_29 : decode cX4_copyFrom 29 = .ok (.putfield 31, 3) := by decide +kernel
theorem dX4_copyFrom_32 : decode cX4_copyFrom 32 = .ok (.aload_n 0, 1) := by decide +kernel
theorem dX4_copyFrom_33 : decode cX4_copyFrom 33 = .ok (.aload_n 1, 1) := by decide +kernel
theorem dX4_copyFrom_34 : decode cX4_copyFrom 34 = .ok (.getfield 34, 3) := by decide +kernel
theorem dX4_copyFrom_37 : decode cX4_copyFrom 37 = .ok (.putfield 34, 3) := by decide +kernel
theorem dX4_copyFrom_40 : decode cX4_copyFrom 40 = .ok (.aload_n 0, 1) := by decide +kernel
theorem dX4_copyFrom_41 : decode cX4_copyFrom 41 = .ok (.aload_n 1, 1) := by decide +kernel
theorem dX4_copyFrom_42 : decode cX4_copyFrom 42 = .ok (.getfield 37, 3) := by decide +kernel
theorem dX4_copyFrom_45 : decode cX4_copyFrom 45 = .ok (.putfield 37, 3) := by decide +kernel
theorem dX4_copyFrom_48 : decode cX4_copyFrom 48 = .ok (.iconst 0, 1) := by decide +kernel
theorem dX4_copyFrom_49 : decode cX4_copyFrom 49 = .ok (.istore_n 2, 1) := by decide +kernel
theorem dX4_copyFrom_50 : decode cX4_copyFrom 50 = .ok (.iload_n 2, 1) := by decide +kernel
theorem dX4_copyFrom_51 : decode cX4_copyFrom 51 = .ok (.bipush 30, 2) := by decide +kernel
theorem dX4_copyFrom_53 : decode cX4_copyFrom 53 = .ok (.if_icmp .ge 21, 3) := by decide +kernel
theorem dX4_copyFrom_56 : decode cX4_copyFrom 56 = .ok (.aload_n 0, 1) := by decide +kernel
theorem dX4_copyFrom_57 : decode cX4_copyFrom 57 = .ok (.getfield 9, 3) := by decide +kernel
theorem dX4_copyFrom_60 : decode cX4_copyFrom 60 = .ok (.iload_n 2, 1) := by decide +kernel
theorem dX4_copyFrom_61 : decode cX4_copyFrom 61 = .ok (.aload_n 1, 1) := by decide +kernel
theorem dX4_copyFrom_62 : decode cX4_copyFrom 62 = .ok (.getfield 9, 3) := by decide +kernel
theorem dX4_copyFrom_65 : decode cX4_copyFrom 65 = .ok (.iload_n 2, 1) := by decide +kernel
theorem dX4_copyFrom_66 : decode cX4_copyFrom 66 = .ok (.iaload, 1) := by decide +kernel
theorem dX4_copyFrom_67 : decode cX4_copyFrom 67 = .ok (.iastore, 1) := by decide +kernel
theorem dX4_copyFrom_68 : decode cX4_copyFrom 68 = .ok (.iinc 2 1, 3) := by decide +kernel
theorem dX4_copyFrom_71 : decode cX4_copyFrom 71 = .ok (.goto (-21), 3) := by decide +kernel
theorem dX4_copyFrom_74 : decode cX4_copyFrom 74 = .ok (.iconst 0, 1) := by decide +kernel
theorem dX4_copyFrom_75 : decode cX4_copyFrom 75 = .ok (.istore_n 2, 1) := by decide +kernel
theorem dX4_copyFrom_76 : decode cX4_copyFrom 76 = .ok (.iload_n 2, 1) := by decide +kernel
theorem dX4_copyFrom_77 : decode cX4_copyFrom 77 = .ok (.bipush 8, 2) := by decide +kernel
theorem dX4_copyFrom_79 : decode cX4_copyFrom 79 = .ok (.if_icmp .ge 33, 3) := by decide +kernel
theorem dX4_copyFrom_82 : decode cX4_copyFrom 82 = .ok (.aload_n 0, 1) := by decide +kernel
theorem dX4_copyFrom_83 : decode cX4_copyFrom 83 = .ok (.getfield 15, 3) := by decide +kernel
theorem dX4_copyFrom_86 : decode cX4_copyFrom 86 = .ok (.iload_n 2, 1) := by decide +kernel
theorem dX4_copyFrom_87 : decode cX4_copyFrom 87 = .ok (.aload_n 1, 1) := by decide +kernel
theorem dX4_copyFrom_88 : decode cX4_copyFrom 88 = .ok (.getfield 15, 3) := by decide +kernel
theorem dX4_copyFrom_91 : decode cX4_copyFrom 91 = .ok (.iload_n 2, 1) := by decide +kernel
theorem dX4_copyFrom_92 : decode cX4_copyFrom 92 = .ok (.iaload, 1) := by decide +kernel
theorem dX4_copyFrom_93 : decode cX4_copyFrom 93 = .ok (.iastore, 1) := by decide +kernel
theorem dX4_copyFrom_94 : decode cX4_copyFrom 94 = .ok (.aload_n 0, 1) := by decide +kernel
theorem dX4_copyFrom_95 : decode cX4_copyFrom 95 = .ok (.getfield 18, 3) := by decide +kernel
theorem dX4_copyFrom_98 : decode cX4_copyFrom 98 = .ok (.iload_n 2, 1) := by decide +kernel
theorem dX4_copyFrom_99 : decode cX4_copyFrom 99 = .ok (.aload_n 1, 1) := by decide +kernel
theorem dX4_copyFrom_100 : decode cX4_copyFrom 100 = .ok (.getfield 18, 3) := by decide +kernel
theorem dX4_copyFrom_103 : decode cX4_copyFrom 103 = .ok (.iload_n 2, 1) := by decide +kernel
theorem dX4_copyFrom_104 : decode cX4_copyFrom 104 = .ok (.iaload, 1) := by decide +kernel
theorem dX4_copyFrom_105 : decode cX4_copyFrom 105 = .ok (.iastore, 1) := by decide +kernel
theorem dX4_copyFrom_106 : decode cX4_copyFrom 106 = .ok (.iinc 2 1, 3) := by decide +kernel
theorem dX4_copyFrom_109 : decode cX4_copyFrom 109 = .ok (.goto (-33), 3) := by decide +kernel
theorem dX4_copyFrom_112 : decode cX4_copyFrom 112 = .ok (.return_, 1) := by decide +kernel
theorem dX4_startAt_0 : decode cX4_startAt 0 = .ok (.aload_n 0, 1) := by decide +kernel
theorem dX4_startAt_1 : decode cX4_startAt 1 = .ok (.iload_n 1, 1) := by decide +kernel
theorem dX4_startAt_2 : decode cX4_startAt 2 = .ok (.putfield 25, 3) := by decide +kernel
theorem dX4_startAt_5 : decode cX4_startAt 5 = .ok (.aload_n 0, 1) := by decide +kernel
theorem dX4_startAt_6 : decode cX4_startAt 6 = .ok (.iload_n 1, 1) := by decide +kernel
theorem dX4_startAt_7 : decode cX4_startAt 7 = .ok (.putfield 28, 3) := by decide +kernel
theorem dX4_startAt_10 : decode cX4_startAt 10 = .ok (.aload_n 0, 1) := by decide +kernel
theorem dX4_startAt_11 : decode cX4_startAt 11 = .ok (.iconst 1, 1) := by decide +kernel
theorem dX4_startAt_12 : decode cX4_startAt 12 = .ok (.iload_n 1, 1) := by decide +kernel
theorem dX4_startAt_13 : decode cX4_startAt 13 = .ok (.ishl, 1) := by decide +kernel
theorem dX4_startAt_14 : decode cX4_startAt 14 = .ok (.putfield 21, 3) := by decide +kernel
theorem dX4_startAt_17 : decode cX4_startAt 17 = .ok (.aload_n 0, 1) := by decide +kernel
theorem dX4_startAt_18 : decode cX4_startAt 18 = .ok (.iconst 0, 1) := by decide +kernel
theorem dX4_startAt_19 : decode cX4_startAt 19 = .ok (.putfield 31, 3) := by decide +kernel
theorem dX4_startAt_22 : decode cX4_startAt 22 = .ok (.return_, 1) := by decide +kernel
theorem dX4_handTo_0 : decode cX4_handTo 0 = .ok (.aload_n 0, 1) := by decide +kernel
theorem dX4_handTo_1 : decode cX4_handTo 1 = .ok (.getfield 31, 3) := by decide +kernel
theorem dX4_handTo_4 : decode cX4_handTo 4 = .ok (.ifCond .lt 49, 3) := by decide +kernel
theorem dX4_handTo_7 : decode cX4_handTo 7 = .ok (.aload_n 0, 1) := by decide +kernel
theorem dX4_handTo_8 : decode cX4_handTo 8 = .ok (.getfield 31, 3) := by decide +kernel
theorem dX4_handTo_11 : decode cX4_handTo 11 = .ok (.bipush 30, 2) := by decide +kernel
theorem dX4_handTo_13 : decode cX4_handTo 13 = .ok (.if_icmp .ge 40, 3) := by decide +kernel
theorem dX4_handTo_16 : decode cX4_handTo 16 = .ok (.aload_n 0, 1) := by decide +kernel
theorem dX4_handTo_17 : decode cX4_handTo 17 = .ok (.getfield 9, 3) := by decide +kernel
theorem dX4_handTo_20 : decode cX4_handTo 20 = .ok (.aload_n 0, 1) := by decide +kernel
theorem dX4_handTo_21 : decode cX4_handTo 21 = .ok (.getfield 31, 3) := by decide +kernel
theorem dX4_handTo_24 : decode cX4_handTo 24 = .ok (.iload_n 1, 1) := by decide +kernel
theorem dX4_handTo_25 : decode cX4_handTo 25 = .ok (.iastore, 1) := by decide +kernel
theorem dX4_handTo_26 : decode cX4_handTo 26 = .ok (.aload_n 0, 1) := by decide +kernel
theorem dX4_handTo_27 : decode cX4_handTo 27 = .ok (.dup, 1) := by decide +kernel
theorem dX4_handTo_28 : decode cX4_handTo 28 = .ok (.getfield 31, 3) := by decide +kernel
theorem dX4_handTo_31 : decode cX4_handTo 31 = .ok (.iconst 1, 1) := by decide +kernel
theorem dX4_handTo_32 : decode cX4_handTo 32 = .ok (.iadd, 1) := by decide +kernel
theorem dX4_handTo_33 : decode cX4_handTo 33 = .ok (.putfield 31, 3) := by decide +kernel
theorem dX4_handTo_36 : decode cX4_handTo 36 = .ok (.aload_n 0, 1) := by decide +kernel
theorem dX4_handTo_37 : decode cX4_handTo 37 = .ok (.iload_n 1, 1) := by decide +kernel
theorem dX4_handTo_38 : decode cX4_handTo 38 = .ok (.putfield 28, 3) := by decide +kernel
theorem dX4_handTo_41 : decode cX4_handTo 41 = .ok (.aload_n 0, 1) := by decide +kernel
theorem dX4_handTo_42 : decode cX4_handTo 42 = .ok (.dup, 1) := by decide +kernel
theorem dX4_handTo_43 : decode cX4_handTo 43 = .ok (.getfield 21, 3) := by decide +kernel
theorem dX4_handTo_46 : decode cX4_handTo 46 = .ok (.iconst 1, 1) := by decide +kernel
theorem dX4_handTo_47 : decode cX4_handTo 47 = .ok (.iload_n 1, 1) := by decide +kernel
theorem dX4_handTo_48 : decode cX4_handTo 48 = .ok (.ishl, 1) := by decide +kernel
theorem dX4_handTo_49 : decode cX4_handTo 49 = .ok (.ior, 1) := by decide +kernel
theorem dX4_handTo_50 : decode cX4_handTo 50 = .ok (.putfield 21, 3) := by decide +kernel
theorem dX4_handTo_53 : decode cX4_handTo 53 = .ok (.return_, 1) := by decide +kernel
set_option maxRecDepth 20000 in
theorem ggX4_takeBack_X4_startAt : GoodIn wsX4_takeBack wsX4_startAt := goodIn_r _ [8, 2, 9, 10, 1, 15, 16, 17, 18, 19, 20, 21, 22, 23, 24] (by decide +kernel) (by decide +kernel)
set_option maxRecDepth 20000 in
theorem gX4_takeBack_X4_startAt : GoodIn wsX4_takeBack (wsV RX4 41 RX4 yX4_startAt wsX4_startAt) := goodIn_app (goodIn_of _ (by decide +kernel)) ggX4_takeBack_X4_startAt
set_option maxRecDepth 20000 in
theorem ggX4_takeBack_X4_handTo : GoodIn wsX4_takeBack wsX4_handTo := goodIn_r _ [14, 1, 3, 9, 10, 15, 16, 17, 18, 19, 20, 21, 22, 23, 24] (by decide +kernel) (by decide +kernel)
set_option maxRecDepth 20000 in
theorem gX4_takeBack_X4_handTo : GoodIn wsX4_takeBack (wsV RX4 45 RX4 yX4_handTo wsX4_handTo) := goodIn_app (goodIn_of _ (by decide +kernel)) ggX4_takeBack_X4_handTo
theorem dX4_takeBack_0 : decode cX4_takeBack 0 = .ok (.aload_n 0, 1) := by decide +kernel
theorem dX4_takeBack_1 : decode cX4_takeBack 1 = .ok (.getfield 31, 3) := by decide +kernel
theorem dX4_takeBack_4 : decode cX4_takeBack 4 = .ok (.iconst 1, 1) := by decide +kernel
theorem dX4_takeBack_5 : decode cX4_takeBack 5 = .ok (.isub, 1) := by decide +kernel
theorem dX4_takeBack_6 : decode cX4_takeBack 6 = .ok (.istore_n 1, 1) := by decide +kernel
theorem dX4_takeBack_7 : decode cX4_takeBack 7 = .ok (.aload_n 0, 1) := by decide +kernel
theorem dX4_takeBack_8 : decode cX4_takeBack 8 = .ok (.aload_n 0, 1) := by decide +kernel
theorem dX4_takeBack_9 : decode cX4_takeBack 9 = .ok (.getfield 25, 3) := by decide +kernel
theorem dX4_takeBack_12 : decode cX4_takeBack 12 = .ok (.invokevirtual 41, 3) := by decide +kernel
theorem dX4_takeBack_15 : decode cX4_takeBack 15 = .ok (.iconst 0, 1) := by decide +kernel
theorem dX4_takeBack_16 : decode cX4_takeBack 16 = .ok (.istore_n 2, 1) := by decide +kernel
theorem dX4_takeBack_17 : decode cX4_takeBack 17 = .ok (.iload_n 2, 1) := by decide +kernel
theorem dX4_takeBack_18 : decode cX4_takeBack 18 = .ok (.iload_n 1, 1) := by decide +kernel
theorem dX4_takeBack_19 : decode cX4_takeBack 19 = .ok (.if_icmp .ge 25, 3) := by decide +kernel
theorem dX4_takeBack_22 : decode cX4_takeBack 22 = .ok (.iload_n 2, 1) := by decide +kernel
theorem dX4_takeBack_23 : decode cX4_takeBack 23 = .ok (.bipush 30, 2) := by decide +kernel
theorem dX4_takeBack_25 : decode cX4_takeBack 25 = .ok (.if_icmp .ge 19, 3) := by decide +kernel
theorem dX4_takeBack_28 : decode cX4_takeBack 28 = .ok (.aload_n 0, 1) := by decide +kernel
theorem dX4_takeBack_29 : decode cX4_takeBack 29 = .ok (.aload_n 0, 1) := by decide +kernel
theorem dX4_takeBack_30 : decode cX4_takeBack 30 = .ok (.getfield 9, 3) := by decide +kernel
theorem dX4_takeBack_33 : decode cX4_takeBack 33 = .ok (.iload_n 2, 1) := by decide +kernel
theorem dX4_takeBack_34 : decode cX4_takeBack 34 = .ok (.iaload, 1) := by decide +kernel
theorem dX4_takeBack_35 : decode cX4_takeBack 35 = .ok (.invokevirtual 45, 3) := by decide +kernel
theorem dX4_takeBack_38 : decode cX4_takeBack 38 = .ok (.iinc 2 1, 3) := by decide +kernel
theorem dX4_takeBack_41 : decode cX4_takeBack 41 = .ok (.goto (-24), 3) := by decide +kernel
theorem dX4_takeBack_44 : decode cX4_takeBack 44 = .ok (.return_, 1) := by decide +kernel
theorem dX4_addSeen_0 : decode cX4_addSeen 0 = .ok (.aload_n 0, 1) := by decide +kernel
theorem dX4_addSeen_1 : decode cX4_addSeen 1 = .ok (.getfield 34, 3) := by decide +kernel
theorem dX4_addSeen_4 : decode cX4_addSeen 4 = .ok (.ifCond .lt 42, 3) := by decide +kernel
theorem dX4_addSeen_7 : decode cX4_addSeen 7 = .ok (.aload_n 0, 1) := by decide +kernel
theorem dX4_addSeen_8 : decode cX4_addSeen 8 = .ok (.getfield 34, 3) := by decide +kernel
theorem dX4_addSeen_11 : decode cX4_addSeen 11 = .ok (.bipush 8, 2) := by decide +kernel
theorem dX4_addSeen_13 : decode cX4_addSeen 13 = .ok (.if_icmp .ge 33, 3) := by decide +kernel
theorem dX4_addSeen_16 : decode cX4_addSeen 16 = .ok (.aload_n 0, 1) := by decide +kernel
theorem dX4_addSeen_17 : decode cX4_addSeen 17 = .ok (.getfield 15, 3) := by decide +kernel
theorem dX4_addSeen_20 : decode cX4_addSeen 20 = .ok (.aload_n 0, 1) := by decide +kernel
theorem dX4_addSeen_21 : decode cX4_addSeen 21 = .ok (.getfield 34, 3) := by decide +kernel
theorem dX4_addSeen_24 : decode cX4_addSeen 24 = .ok (.iload_n 1, 1) := by decide +kernel
theorem dX4_addSeen_25 : decode cX4_addSeen 25 = .ok (.iastore, 1) := by decide +kernel
theorem dX4_addSeen_26 : decode cX4_addSeen 26 = .ok (.aload_n 0, 1) := by decide +kernel
theorem dX4_addSeen_27 : decode cX4_addSeen 27 = .ok (.getfield 18, 3) := by decide +kernel
theorem dX4_addSeen_30 : decode cX4_addSeen 30 = .ok (.aload_n 0, 1) := by decide +kernel
theorem dX4_addSeen_31 : decode cX4_addSeen 31 = .ok (.getfield 34, 3) := by decide +kernel
theorem dX4_addSeen_34 : decode cX4_addSeen 34 = .ok (.iload_n 2, 1) := by decide +kernel
theorem dX4_addSeen_35 : decode cX4_addSeen 35 = .ok (.iastore, 1) := by decide +kernel
theorem dX4_addSeen_36 : decode cX4_addSeen 36 = .ok (.aload_n 0, 1) := by decide +kernel
theorem dX4_addSeen_37 : decode cX4_addSeen 37 = .ok (.dup, 1) := by decide +kernel
theorem dX4_addSeen_38 : decode cX4_addSeen 38 = .ok (.getfield 34, 3) := by decide +kernel
theorem dX4_addSeen_41 : decode cX4_addSeen 41 = .ok (.iconst 1, 1) := by decide +kernel
theorem dX4_addSeen_42 : decode cX4_addSeen 42 = .ok (.iadd, 1) := by decide +kernel
theorem dX4_addSeen_43 : decode cX4_addSeen 43 = .ok (.putfield 34, 3) := by decide +kernel
theorem dX4_addSeen_46 : decode cX4_addSeen 46 = .ok (.return_, 1) := by decide +kernel
theorem dX4_fits_0 : decode cX4_fits 0 = .ok (.iconst 0, 1) := by decide +kernel
theorem dX4_fits_1 : decode cX4_fits 1 = .ok (.istore_n 3, 1) := by decide +kernel
theorem dX4_fits_2 : decode cX4_fits 2 = .ok (.iload_n 3, 1) := by decide +kernel
theorem dX4_fits_3 : decode cX4_fits 3 = .ok (.aload_n 0, 1) := by decide +kernel
theorem dX4_fits_4 : decode cX4_fits 4 = .ok (.getfield 34, 3) := by decide +kernel
theorem dX4_fits_7 : decode cX4_fits 7 = .ok (.if_icmp .ge 37, 3) := by decide +kernel
theorem dX4_fits_10 : decode cX4_fits 10 = .ok (.iload_n 3, 1) := by decide +kernel
theorem dX4_fits_11 : decode cX4_fits 11 = .ok (.bipush 8, 2) := by decide +kernel
theorem dX4_fits_13 : decode cX4_fits 13 = .ok (.if_icmp .ge 31, 3) := by decide +kernel
theorem dX4_fits_16 : decode cX4_fits 16 = .ok (.aload_n 0, 1) := by decide +kernel
theorem dX4_fits_17 : decode cX4_fits 17 = .ok (.getfield 15, 3) := by decide +kernel
theorem dX4_fits_20 : decode cX4_fits 20 = .ok (.iload_n 3, 1) := by decide +kernel
theorem dX4_fits_21 : decode cX4_fits 21 = .ok (.iaload, 1) := by decide +kernel
theorem dX4_fits_22 : decode cX4_fits 22 = .ok (.iload_n 1, 1) := by decide +kernel
theorem dX4_fits_23 : decode cX4_fits 23 = .ok (.if_icmp .ne 15, 3) := by decide +kernel
theorem dX4_fits_26 : decode cX4_fits 26 = .ok (.aload_n 0, 1) := by decide +kernel
theorem dX4_fits_27 : decode cX4_fits 27 = .ok (.getfield 18, 3) := by decide +kernel
theorem dX4_fits_30 : decode cX4_fits 30 = .ok (.iload_n 3, 1) := by decide +kernel
theorem dX4_fits_31 : decode cX4_fits 31 = .ok (.iaload, 1) := by decide +kernel
theorem dX4_fits_32 : decode cX4_fits 32 = .ok (.iload_n 2, 1) := by decide +kernel
theorem dX4_fits_33 : decode cX4_fits 33 = .ok (.if_icmp .eq 5, 3) := by decide +kernel
theorem dX4_fits_36 : decode cX4_fits 36 = .ok (.iconst 0, 1) := by decide +kernel
theorem dX4_fits_37 : decode cX4_fits 37 = .ok (.ireturn, 1) := by decide +kernel
theorem dX4_fits_38 : decode cX4_fits 38 = .ok (.iinc 3 1, 3) := by decide +kernel
theorem dX4_fits_41 : decode cX4_fits 41 = .ok (.goto (-39), 3) := by decide +kernel
theorem dX4_fits_44 : decode cX4_fits 44 = .ok (.iconst 1, 1) := by decide +kernel
theorem dX4_fits_45 : decode cX4_fits 45 = .ok (.ireturn, 1) := by decide +kernel
theorem dX5_init_0 : decode cX5_init 0 = .ok (.aload_n 0, 1) := by decide +kernel
theorem dX5_init_1 : decode cX5_init 1 = .ok (.invokespecial 3, 3) := by decide +kernel
theorem dX5_init_4 : decode cX5_init 4 = .ok (.aload_n 0, 1) := by decide +kernel
theorem dX5_init_5 : decode cX5_init 5 = .ok (.bipush 80, 2) := by decide +kernel
theorem dX5_init_7 : decode cX5_init 7 = .ok (.newarray .long, 2) := by decide +kernel
theorem dX5_init_9 : decode cX5_init 9 = .ok (.putfield 9, 3) := by decide +kernel
theorem dX5_init_12 : decode cX5_init 12 = .ok (.return_, 1) := by decide +kernel
set_option maxRecDepth 20000 in
theorem ggX5_figureOf_X8_power : GoodIn wsX5_figureOf wsX8_power := goodIn_r _ [4] (by decide +kernel) (by decide +kernel)
set_option maxRecDepth 20000 in
theorem gX5_figureOf_X8_power_n17 : GoodIn wsX5_figureOf (wsX8_power) := ggX5_figureOf_X8_power
theorem dX5_figureOf_0 : decode cX5_figureOf 0 = .ok (.ldc2_w 15, 3) := by decide +kernel
theorem dX5_figureOf_3 : decode cX5_figureOf 3 = .ok (.iload_n 0, 1) := by decide +kernel
theorem dX5_figureOf_4 : decode cX5_figureOf 4 = .ok (.iconst 1, 1) := by decide +kernel
theorem dX5_figureOf_5 : decode cX5_figureOf 5 = .ok (.isub, 1) := by decide +kernel
theorem dX5_figureOf_6 : decode cX5_figureOf 6 = .ok (.iload_n 2, 1) := by decide +kernel
theorem dX5_figureOf_7 : decode cX5_figureOf 7 = .ok (.isub, 1) := by decide +kernel
theorem dX5_figureOf_8 : decode cX5_figureOf 8 = .ok (.invokestatic 17, 3) := by decide +kernel
theorem dX5_figureOf_11 : decode cX5_figureOf 11 = .ok (.lstore_n 3, 1) := by decide +kernel
theorem dX5_figureOf_12 : decode cX5_figureOf 12 = .ok (.lload_n 3, 1) := by decide +kernel
theorem dX5_figureOf_13 : decode cX5_figureOf 13 = .ok (.lconst 1, 1) := by decide +kernel
theorem dX5_figureOf_14 : decode cX5_figureOf 14 = .ok (.lcmp, 1) := by decide +kernel
theorem dX5_figureOf_15 : decode cX5_figureOf 15 = .ok (.ifCond .ge 7, 3) := by decide +kernel
theorem dX5_figureOf_18 : decode cX5_figureOf 18 = .ok (.iconst 0, 1) := by decide +kernel
theorem dX5_figureOf_19 : decode cX5_figureOf 19 = .ok (.goto 12, 3) := by decide +kernel
theorem dX5_figureOf_22 : decode cX5_figureOf 22 = .ok (.iload_n 1, 1) := by decide +kernel
theorem dX5_figureOf_23 : decode cX5_figureOf 23 = .ok (.i2l, 1) := by decide +kernel
theorem dX5_figureOf_24 : decode cX5_figureOf 24 = .ok (.lload_n 3, 1) := by decide +kernel
theorem dX5_figureOf_25 : decode cX5_figureOf 25 = .ok (.ldiv, 1) := by decide +kernel
theorem dX5_figureOf_26 : decode cX5_figureOf 26 = .ok (.ldc2_w 15, 3) := by decide +kernel
theorem dX5_figureOf_29 : decode cX5_figureOf 29 = .ok (.lrem, 1) := by decide +kernel
theorem dX5_figureOf_30 : decode cX5_figureOf 30 = .ok (.l2i, 1) := by decide +kernel
theorem dX5_figureOf_31 : decode cX5_figureOf 31 = .ok (.ireturn, 1) := by decide +kernel
set_option maxRecDepth 20000 in
theorem ggX5_firstWrong_X5_figureOf : GoodIn wsX5_firstWrong wsX5_figureOf := goodIn_r _ [4, 5, 6, 7, 8] (by decide +kernel) (by decide +kernel)
set_option maxRecDepth 20000 in
theorem gX5_firstWrong_X5_figureOf : GoodIn wsX5_firstWrong (va_wsS RX5 21 yX5_figureOf wsX5_figureOf) := goodIn_app (goodIn_of _ (by decide +kernel)) ggX5_firstWrong_X5_figureOf
set_option maxRecDepth 20000 in
theorem ggX5_firstWrong_X3_tenthsOf : GoodIn wsX5_firstWrong wsX3_tenthsOf := goodIn_r _ [13, 14, 15, 16, 17, 12, 18, 19, 20, 21, 22, 23, 24, 25] (by decide +kernel) (by decide +kernel)
set_option maxRecDepth 20000 in
theorem gX5_firstWrong_X3_tenthsOf : GoodIn wsX5_firstWrong (wsV RX5 25 RX3 yX3_tenthsOf wsX3_tenthsOf) := goodIn_app (goodIn_of _ (by decide +kernel)) ggX5_firstWrong_X3_tenthsOf
theorem dX5_firstWrong_0 : decode cX5_firstWrong 0 = .ok (.iload_n 2, 1) := by decide +kernel
theorem dX5_firstWrong_1 : decode cX5_firstWrong 1 = .ok (.istore 5, 2) := by decide +kernel
theorem dX5_firstWrong_3 : decode cX5_firstWrong 3 = .ok (.iconst 0, 1) := by decide +kernel
theorem dX5_firstWrong_4 : decode cX5_firstWrong 4 = .ok (.istore 6, 2) := by decide +kernel
theorem dX5_firstWrong_6 : decode cX5_firstWrong 6 = .ok (.iload 6, 2) := by decide +kernel
theorem dX5_firstWrong_8 : decode cX5_firstWrong 8 = .ok (.iload_n 3, 1) := by decide +kernel
theorem dX5_firstWrong_9 : decode cX5_firstWrong 9 = .ok (.if_icmp .ge 37, 3) := by decide +kernel
theorem dX5_firstWrong_12 : decode cX5_firstWrong 12 = .ok (.iload_n 3, 1) := by decide +kernel
theorem dX5_firstWrong_13 : decode cX5_firstWrong 13 = .ok (.iload 4, 2) := by decide +kernel
theorem dX5_firstWrong_15 : decode cX5_firstWrong 15 = .ok (.iload 6, 2) := by decide +kernel
theorem dX5_firstWrong_17 : decode cX5_firstWrong 17 = .ok (.invokestatic 21, 3) := by decide +kernel
theorem dX5_firstWrong_20 : decode cX5_firstWrong 20 = .ok (.istore 7, 2) := by decide +kernel
theorem dX5_firstWrong_22 : decode cX5_firstWrong 22 = .ok (.aload_n 1, 1) := by decide +kernel
theorem dX5_firstWrong_23 : decode cX5_firstWrong 23 = .ok (.iload 5, 2) := by decide +kernel
theorem dX5_firstWrong_25 : decode cX5_firstWrong 25 = .ok (.iload 7, 2) := by decide +kernel
theorem dX5_firstWrong_27 : decode cX5_firstWrong 27 = .ok (.invokevirtual 25, 3) := by decide +kernel
theorem dX5_firstWrong_30 : decode cX5_firstWrong 30 = .ok (.ifCond .ne 6, 3) := by decide +kernel
theorem dX5_firstWrong_33 : decode cX5_firstWrong 33 = .ok (.iload 6, 2) := by decide +kernel
theorem dX5_firstWrong_35 : decode cX5_firstWrong 35 = .ok (.ireturn, 1) := by decide +kernel
theorem dX5_firstWrong_36 : decode cX5_firstWrong 36 = .ok (.iload 7, 2) := by decide +kernel
theorem dX5_firstWrong_38 : decode cX5_firstWrong 38 = .ok (.istore 5, 2) := by decide +kernel
theorem dX5_firstWrong_40 : decode cX5_firstWrong 40 = .ok (.iinc 6 1, 3) := by decide +kernel
theorem dX5_firstWrong_43 : decode cX5_firstWrong 43 = .ok (.goto (-37), 3) := by decide +kernel
theorem dX5_firstWrong_46 : decode cX5_firstWrong 46 = .ok (.bipush (-9), 2) := by decide +kernel
theorem dX5_firstWrong_48 : decode cX5_firstWrong 48 = .ok (.ireturn, 1) := by decide +kernel
set_option maxRecDepth 20000 in
theorem ggX5_weightOf_X5_figureOf : GoodIn wsX5_weightOf wsX5_figureOf := goodIn_r _ [4, 5, 6, 7, 8] (by decide +kernel) (by decide +kernel)
set_option maxRecDepth 20000 in
theorem gX5_weightOf_X5_figureOf : GoodIn wsX5_weightOf (va_wsS RX5 21 yX5_figureOf wsX5_figureOf) := goodIn_app (goodIn_of _ (by decide +kernel)) ggX5_weightOf_X5_figureOf
set_option maxRecDepth 20000 in
theorem ggX5_weightOf_X3_tenthsOf : GoodIn wsX5_weightOf wsX3_tenthsOf := goodIn_r _ [13, 14, 15, 16, 17, 12, 18, 19, 20, 21, 22, 23, 24, 25] (by decide +kernel) (by decide +kernel)
set_option maxRecDepth 20000 in
theorem gX5_weightOf_X3_tenthsOf : GoodIn wsX5_weightOf (wsV RX5 25 RX3 yX3_tenthsOf wsX3_tenthsOf) := goodIn_app (goodIn_of _ (by decide +kernel)) ggX5_weightOf_X3_tenthsOf
theorem dX5_weightOf_0 : decode cX5_weightOf 0 = .ok (.lconst 1, 1) := by decide +kernel
theorem dX5_weightOf_1 : decode cX5_weightOf 1 = .ok (.lstore 5, 2) := by decide +kernel
theorem dX5_weightOf_3 : decode cX5_weightOf 3 = .ok (.iload_n 2, 1) := by decide +kernel
theorem dX5_weightOf_4 : decode cX5_weightOf 4 = .ok (.istore 7, 2) := by decide +kernel
theorem dX5_weightOf_6 : decode cX5_weightOf 6 = .ok (.iconst 0, 1) := by decide +kernel
theorem dX5_weightOf_7 : decode cX5_weightOf 7 = .ok (.istore 8, 2) := by decide +kernel
theorem dX5_weightOf_9 : decode cX5_weightOf 9 = .ok (.iload 8, 2) := by decide +kernel
theorem dX5_weightOf_11 : decode cX5_weightOf 11 = .ok (.iload_n 3, 1) := by decide +kernel
theorem dX5_weightOf_12 : decode cX5_weightOf 12 = .ok (.if_icmp .ge 37, 3) := by decide +kernel
theorem dX5_weightOf_15 : decode cX5_weightOf 15 = .ok (.iload_n 3, 1) := by decide +kernel
theorem dX5_weightOf_16 : decode cX5_weightOf 16 = .ok (.iload 4, 2) := by decide +kernel
theorem dX5_weightOf_18 : decode cX5_weightOf 18 = .ok (.iload 8, 2) := by decide +kernel
theorem dX5_weightOf_20 : decode cX5_weightOf 20 = .ok (.invokestatic 21, 3) := by decide +kernel
theorem dX5_weightOf_23 : decode cX5_weightOf 23 = .ok (.istore 9, 2) := by decide +kernel
theorem dX5_weightOf_25 : decode cX5_weightOf 25 = .ok (.lload 5, 2) := by decide +kernel
theorem dX5_weightOf_27 : decode cX5_weightOf 27 = .ok (.aload_n 1, 1) := by decide +kernel
theorem dX5_weightOf_28 : decode cX5_weightOf 28 = .ok (.iload 7, 2) := by decide +kernel
theorem dX5_weightOf_30 : decode cX5_weightOf 30 = .ok (.iload 9, 2) := by decide +kernel
theorem dX5_weightOf_32 : decode cX5_weightOf 32 = .ok (.invokevirtual 25, 3) := by decide +kernel
theorem dX5_weightOf_35 : decode cX5_weightOf 35 = .ok (.i2l, 1) := by decide +kernel
theorem dX5_weightOf_36 : decode cX5_weightOf 36 = .ok (.lmul, 1) := by decide +kernel
theorem dX5_weightOf_37 : decode cX5_weightOf 37 = .ok (.lstore 5, 2) := by decide +kernel
theorem dX5_weightOf_39 : decode cX5_weightOf 39 = .ok (.iload 9, 2) := by decide +kernel
theorem dX5_weightOf_41 : decode cX5_weightOf 41 = .ok (.istore 7, 2) := by decide +kernel
theorem dX5_weightOf_43 : decode cX5_weightOf 43 = .ok (.iinc 8 1, 3) := by decide +kernel
theorem dX5_weightOf_46 : decode cX5_weightOf 46 = .ok (.goto (-37), 3) := by decide +kernel
theorem dX5_weightOf_49 : decode cX5_weightOf 49 = .ok (.lload 5, 2) := by decide +kernel
theorem dX5_weightOf_51 : decode cX5_weightOf 51 = .ok (.lreturn, 1) := by decide +kernel
set_option maxRecDepth 20000 in
theorem ggX5_likeliestOf_X5_setBest : GoodIn wsX5_likeliestOf wsX5_setBest := goodIn_r _ [7, 8, 64] (by decide +kernel) (by decide +kernel)
set_option maxRecDepth 20000 in
theorem gX5_likeliestOf_X5_setBest : GoodIn wsX5_likeliestOf (wsV RX5 31 RX5 yX5_setBest wsX5_setBest) := goodIn_app (goodIn_of _ (by decide +kernel)) ggX5_likeliestOf_X5_setBest
set_option maxRecDepth 20000 in
theorem ggX5_likeliestOf_X5_bestFrom : GoodIn wsX5_likeliestOf wsX5_bestFrom := goodIn_r _ [12, 1, 13, 14, 15, 16, 17, 18, 19, 6, 20, 21, 22, 23, 24, 25, 26, 27, 28, 29, 30, 31, 32, 33, 34, 35, 36, 37, 38, 39, 40, 41, 42, 43, 8, 48, 49, 50, 51, 52, 53, 54, 55, 56, 57, 58, 59, 60, 61, 62, 63, 64] (by decide +kernel) (by decide +kernel)
set_option maxRecDepth 20000 in
theorem gX5_likeliestOf_X5_bestFrom : GoodIn wsX5_likeliestOf (wsV RX5 39 RX5 yX5_bestFrom wsX5_bestFrom) := goodIn_app (goodIn_of _ (by decide +kernel)) ggX5_likeliestOf_X5_bestFrom
set_option maxRecDepth 20000 in
theorem ggX5_likeliestOf_X5_bestOf : GoodIn wsX5_likeliestOf wsX5_bestOf := goodIn_r _ [43, 8, 64] (by decide +kernel) (by decide +kernel)
set_option maxRecDepth 20000 in
theorem gX5_likeliestOf_X5_bestOf : GoodIn wsX5_likeliestOf (wsV RX5 48 RX5 yX5_bestOf wsX5_bestOf) := goodIn_app (goodIn_of _ (by decide +kernel)) ggX5_likeliestOf_X5_bestOf
set_option maxRecDepth 20000 in
theorem ggX5_likeliestOf_X5_firstBest : GoodIn wsX5_likeliestOf wsX5_firstBest := goodIn_r _ [47, 1, 40, 41, 42, 6, 43, 8, 17, 18, 19, 20, 21, 22, 23, 24, 25, 26, 27, 28, 29, 30, 31, 32, 33, 34, 35, 36, 37, 38, 39, 48, 49, 50, 51, 52, 53, 64, 54, 55, 56, 57, 58, 59, 60, 61, 62, 63] (by decide +kernel) (by decide +kernel)
set_option maxRecDepth 20000 in
theorem gX5_likeliestOf_X5_firstBest : GoodIn wsX5_likeliestOf (wsV RX5 52 RX5 yX5_firstBest wsX5_firstBest) := goodIn_app (goodIn_of _ (by decide +kernel)) ggX5_likeliestOf_X5_firstBest
theorem dX5_likeliestOf_0 : decode cX5_likeliestOf 0 = .ok (.iconst 0, 1) := by decide +kernel
theorem dX5_likeliestOf_1 : decode cX5_likeliestOf 1 = .ok (.istore 4, 2) := by decide +kernel
theorem dX5_likeliestOf_3 : decode cX5_likeliestOf 3 = .ok (.iload 4, 2) := by decide +kernel
theorem dX5_likeliestOf_5 : decode cX5_likeliestOf 5 = .ok (.bipush 8, 2) := by decide +kernel
theorem dX5_likeliestOf_7 : decode cX5_likeliestOf 7 = .ok (.if_icmp .ge 17, 3) := by decide +kernel
theorem dX5_likeliestOf_10 : decode cX5_likeliestOf 10 = .ok (.aload_n 0, 1) := by decide +kernel
theorem dX5_likeliestOf_11 : decode cX5_likeliestOf 11 = .ok (.iload_n 3, 1) := by decide +kernel
theorem dX5_likeliestOf_12 : decode cX5_likeliestOf 12 = .ok (.iload 4, 2) := by decide +kernel
theorem dX5_likeliestOf_14 : decode cX5_likeliestOf 14 = .ok (.lconst 1, 1) := by decide +kernel
theorem dX5_likeliestOf_15 : decode cX5_likeliestOf 15 = .ok (.invokevirtual 31, 3) := by decide +kernel
theorem dX5_likeliestOf_18 : decode cX5_likeliestOf 18 = .ok (.iinc 4 1, 3) := by decide +kernel
theorem dX5_likeliestOf_21 : decode cX5_likeliestOf 21 = .ok (.goto (-18), 3) := by decide +kernel
theorem dX5_likeliestOf_24 : decode cX5_likeliestOf 24 = .ok (.iload_n 3, 1) := by decide +kernel
theorem dX5_likeliestOf_25 : decode cX5_likeliestOf 25 = .ok (.iconst 1, 1) := by decide +kernel
theorem dX5_likeliestOf_26 : decode cX5_likeliestOf 26 = .ok (.isub, 1) := by decide +kernel
theorem dX5_likeliestOf_27 : decode cX5_likeliestOf 27 = .ok (.istore 4, 2) := by decide +kernel
theorem dX5_likeliestOf_29 : decode cX5_likeliestOf 29 = .ok (.iload 4, 2) := by decide +kernel
theorem dX5_likeliestOf_31 : decode cX5_likeliestOf 31 = .ok (.ifCond .lt 45, 3) := by decide +kernel
theorem dX5_likeliestOf_34 : decode cX5_likeliestOf 34 = .ok (.iconst 0, 1) := by decide +kernel
theorem dX5_likeliestOf_35 : decode cX5_likeliestOf 35 = .ok (.istore 5, 2) := by decide +kernel
theorem dX5_likeliestOf_37 : decode cX5_likeliestOf 37 = .ok (.iload 5, 2) := by decide +kernel
theorem dX5_likeliestOf_39 : decode cX5_likeliestOf 39 = .ok (.aload_n 1, 1) := by decide +kernel
theorem dX5_likeliestOf_40 : decode cX5_likeliestOf 40 = .ok (.getfield 35, 3) := by decide +kernel
theorem dX5_likeliestOf_43 : decode cX5_likeliestOf 43 = .ok (.if_icmp .ge 27, 3) := by decide +kernel
theorem dX5_likeliestOf_46 : decode cX5_likeliestOf 46 = .ok (.aload_n 0, 1) := by decide +kernel
theorem dX5_likeliestOf_47 : decode cX5_likeliestOf 47 = .ok (.iload 4, 2) := by decide +kernel
theorem dX5_likeliestOf_49 : decode cX5_likeliestOf 49 = .ok (.iload 5, 2) := by decide +kernel
theorem dX5_likeliestOf_51 : decode cX5_likeliestOf 51 = .ok (.aload_n 0, 1) := by decide +kernel
theorem dX5_likeliestOf_52 : decode cX5_likeliestOf 52 = .ok (.aload_n 1, 1) := by decide +kernel
theorem dX5_likeliestOf_53 : decode cX5_likeliestOf 53 = .ok (.aload_n 2, 1) := by decide +kernel
theorem dX5_likeliestOf_54 : decode cX5_likeliestOf 54 = .ok (.iload 4, 2) := by decide +kernel
theorem dX5_likeliestOf_56 : decode cX5_likeliestOf 56 = .ok (.iload 5, 2) := by decide +kernel
theorem dX5_likeliestOf_58 : decode cX5_likeliestOf 58 = .ok (.invokevirtual 39, 3) := by decide +kernel
theorem dX5_likeliestOf_61 : decode cX5_likeliestOf 61 = .ok (.invokevirtual 31, 3) := by decide +kernel
theorem dX5_likeliestOf_64 : decode cX5_likeliestOf 64 = .ok (.iinc 5 1, 3) := by decide +kernel
theorem dX5_likeliestOf_67 : decode cX5_likeliestOf 67 = .ok (.goto (-30), 3) := by decide +kernel
theorem dX5_likeliestOf_70 : decode cX5_likeliestOf 70 = .ok (.iinc 4 (-1), 3) := by decide +kernel
theorem dX5_likeliestOf_73 : decode cX5_likeliestOf 73 = .ok (.goto (-44), 3) := by decide +kernel
theorem dX5_likeliestOf_76 : decode cX5_likeliestOf 76 = .ok (.aload_n 0, 1) := by decide +kernel
theorem dX5_likeliestOf_77 : decode cX5_likeliestOf 77 = .ok (.iconst 0, 1) := by decide +kernel
theorem dX5_likeliestOf_78 : decode cX5_likeliestOf 78 = .ok (.aload_n 2, 1) := by decide +kernel
theorem dX5_likeliestOf_79 : decode cX5_likeliestOf 79 = .ok (.getfield 43, 3) := by decide +kernel
theorem dX5_likeliestOf_82 : decode cX5_likeliestOf 82 = .ok (.invokevirtual 48, 3) := by decide +kernel
theorem dX5_likeliestOf_85 : decode cX5_likeliestOf 85 = .ok (.lconst 0, 1) := by decide +kernel
theorem dX5_likeliestOf_86 : decode cX5_likeliestOf 86 = .ok (.lcmp, 1) := by decide +kernel
theorem dX5_likeliestOf_87 : decode cX5_likeliestOf 87 = .ok (.ifCond .ne 6, 3) := by decide +kernel
theorem dX5_likeliestOf_90 : decode cX5_likeliestOf 90 = .ok (.bipush (-9), 2) := by decide +kernel
theorem dX5_likeliestOf_92 : decode cX5_likeliestOf 92 = .ok (.ireturn, 1) := by decide +kernel
theorem dX5_likeliestOf_93 : decode cX5_likeliestOf 93 = .ok (.iconst 0, 1) := by decide +kernel
theorem dX5_likeliestOf_94 : decode cX5_likeliestOf 94 = .ok (.istore 4, 2) := by decide +kernel
theorem dX5_likeliestOf_96 : decode cX5_likeliestOf 96 = .ok (.aload_n 2, 1) := by decide +kernel
theorem dX5_likeliestOf_97 : decode cX5_likeliestOf 97 = .ok (.getfield 43, 3) := by decide +kernel
theorem dX5_likeliestOf_100 : decode cX5_likeliestOf 100 = .ok (.istore 5, 2) := by decide +kernel
theorem dX5_likeliestOf_102 : decode cX5_likeliestOf 102 = .ok (.iconst 0, 1) := by decide +kernel
theorem dX5_likeliestOf_103 : decode cX5_likeliestOf 103 = .ok (.istore 6, 2) := by decide +kernel
theorem dX5_likeliestOf_105 : decode cX5_likeliestOf 105 = .ok (.iload 6, 2) := by decide +kernel
theorem dX5_likeliestOf_107 : decode cX5_likeliestOf 107 = .ok (.iload_n 3, 1) := by decide +kernel
theorem dX5_likeliestOf_108 : decode cX5_likeliestOf 108 = .ok (.if_icmp .ge 31, 3) := by decide +kernel
theorem dX5_likeliestOf_111 : decode cX5_likeliestOf 111 = .ok (.aload_n 0, 1) := by decide +kernel
theorem dX5_likeliestOf_112 : decode cX5_likeliestOf 112 = .ok (.aload_n 1, 1) := by decide +kernel
theorem dX5_likeliestOf_113 : decode cX5_likeliestOf 113 = .ok (.aload_n 2, 1) := by decide +kernel
theorem dX5_likeliestOf_114 : decode cX5_likeliestOf 114 = .ok (.iload 6, 2) := by decide +kernel
theorem dX5_likeliestOf_116 : decode cX5_likeliestOf 116 = .ok (.iload 5, 2) := by decide +kernel
theorem dX5_likeliestOf_118 : decode cX5_likeliestOf 118 = .ok (.invokevirtual 52, 3) := by decide +kernel
theorem dX5_likeliestOf_121 : decode cX5_likeliestOf 121 = .ok (.istore 5, 2) := by decide +kernel
theorem dX5_likeliestOf_123 : decode cX5_likeliestOf 123 = .ok (.iload 4, 2) := by decide +kernel
theorem dX5_likeliestOf_125 : decode cX5_likeliestOf 125 = .ok (.bipush 10, 2) := by decide +kernel
theorem dX5_likeliestOf_127 : decode cX5_likeliestOf 127 = .ok (.imul, 1) := by decide +kernel
theorem dX5_likeliestOf_128 : decode cX5_likeliestOf 128 = .ok (.iload 5, 2) := by decide +kernel
theorem dX5_likeliestOf_130 : decode cX5_likeliestOf 130 = .ok (.iadd, 1) := by decide +kernel
theorem dX5_likeliestOf_131 : decode cX5_likeliestOf 131 = .ok (.istore 4, 2) := by decide +kernel
theorem dX5_likeliestOf_133 : decode cX5_likeliestOf 133 = .ok (.iinc 6 1, 3) := by decide +kernel
theorem dX5_likeliestOf_136 : decode cX5_likeliestOf 136 = .ok (.goto (-31), 3) := by decide +kernel
theorem dX5_likeliestOf_139 : decode cX5_likeliestOf 139 = .ok (.iload 4, 2) := by decide +kernel
theorem dX5_likeliestOf_141 : decode cX5_likeliestOf 141 = .ok (.ireturn, 1) := by decide +kernel
set_option maxRecDepth 20000 in
theorem ggX5_bestFrom_X5_weightBy : GoodIn wsX5_bestFrom wsX5_weightBy := goodIn_r _ [10, 11, 12, 13, 14, 15, 16, 17, 18, 19, 20, 21, 22, 23, 24, 25, 26, 27, 28, 29, 30, 31, 32, 9, 33, 34, 41, 42, 43, 44, 45, 46, 47, 48, 49, 50, 35, 36, 37, 38, 39, 40, 51] (by decide +kernel) (by decide +kernel)
set_option maxRecDepth 20000 in
theorem gX5_bestFrom_X5_weightBy : GoodIn wsX5_bestFrom (wsV RX5 56 RX5 yX5_weightBy wsX5_weightBy) := goodIn_app (goodIn_of _ (by decide +kernel)) ggX5_bestFrom_X5_weightBy
theorem dX5_bestFrom_0 : decode cX5_bestFrom 0 = .ok (.lconst 0, 1) := by decide +kernel
theorem dX5_bestFrom_1 : decode cX5_bestFrom 1 = .ok (.lstore 5, 2) := by decide +kernel
theorem dX5_bestFrom_3 : decode cX5_bestFrom 3 = .ok (.iconst 0, 1) := by decide +kernel
theorem dX5_bestFrom_4 : decode cX5_bestFrom 4 = .ok (.istore 7, 2) := by decide +kernel
theorem dX5_bestFrom_6 : decode cX5_bestFrom 6 = .ok (.iload 7, 2) := by decide +kernel
theorem dX5_bestFrom_8 : decode cX5_bestFrom 8 = .ok (.aload_n 1, 1) := by decide +kernel
theorem dX5_bestFrom_9 : decode cX5_bestFrom 9 = .ok (.getfield 35, 3) := by decide +kernel
theorem dX5_bestFrom_12 : decode cX5_bestFrom 12 = .ok (.if_icmp .ge 27, 3) := by decide +kernel
theorem dX5_bestFrom_15 : decode cX5_bestFrom 15 = .ok (.lload 5, 2) := by decide +kernel
theorem dX5_bestFrom_17 : decode cX5_bestFrom 17 = .ok (.aload_n 0, 1) := by decide +kernel
theorem dX5_bestFrom_18 : decode cX5_bestFrom 18 = .ok (.aload_n 1, 1) := by decide +kernel
theorem dX5_bestFrom_19 : decode cX5_bestFrom 19 = .ok (.aload_n 2, 1) := by decide +kernel
theorem dX5_bestFrom_20 : decode cX5_bestFrom 20 = .ok (.iload_n 3, 1) := by decide +kernel
theorem dX5_bestFrom_21 : decode cX5_bestFrom 21 = .ok (.iload 4, 2) := by decide +kernel
theorem dX5_bestFrom_23 : decode cX5_bestFrom 23 = .ok (.iload 7, 2) := by decide +kernel
theorem dX5_bestFrom_25 : decode cX5_bestFrom 25 = .ok (.invokevirtual 56, 3) := by decide +kernel
theorem dX5_bestFrom_28 : decode cX5_bestFrom 28 = .ok (.invokestatic 60, 3) := by decide +kernel
theorem dX5_bestFrom_31 : decode cX5_bestFrom 31 = .ok (.lstore 5, 2) := by decide +kernel
theorem dX5_bestFrom_33 : decode cX5_bestFrom 33 = .ok (.iinc 7 1, 3) := by decide +kernel
theorem dX5_bestFrom_36 : decode cX5_bestFrom 36 = .ok (.goto (-30), 3) := by decide +kernel
theorem dX5_bestFrom_39 : decode cX5_bestFrom 39 = .ok (.lload 5, 2) := by decide +kernel
theorem dX5_bestFrom_41 : decode cX5_bestFrom 41 = .ok (.lreturn, 1) := by decide +kernel
set_option maxRecDepth 20000 in
theorem ggX5_firstBest_X5_bestOf : GoodIn wsX5_firstBest wsX5_bestOf := goodIn_r _ [6, 7, 37] (by decide +kernel) (by decide +kernel)
set_option maxRecDepth 20000 in
theorem gX5_firstBest_X5_bestOf : GoodIn wsX5_firstBest (wsV RX5 48 RX5 yX5_bestOf wsX5_bestOf) := goodIn_app (goodIn_of _ (by decide +kernel)) ggX5_firstBest_X5_bestOf
set_option maxRecDepth 20000 in
theorem ggX5_firstBest_X5_weightBy : GoodIn wsX5_firstBest wsX5_weightBy := goodIn_r _ [11, 12, 13, 14, 15, 16, 17, 18, 19, 20, 21, 22, 23, 24, 25, 26, 27, 28, 29, 30, 2, 3, 4, 5, 6, 7, 38, 39, 40, 41, 42, 43, 44, 45, 46, 47, 31, 32, 33, 34, 35, 36, 37] (by decide +kernel) (by decide +kernel)
set_option maxRecDepth 20000 in
theorem gX5_firstBest_X5_weightBy : GoodIn wsX5_firstBest (wsV RX5 56 RX5 yX5_weightBy wsX5_weightBy) := goodIn_app (goodIn_of _ (by decide +kernel)) ggX5_firstBest_X5_weightBy
theorem dX5_firstBest_0 : decode cX5_firstBest 0 = .ok (.aload_n 0, 1) := by decide +kernel
theorem dX5_firstBest_1 : decode cX5_firstBest 1 = .ok (.iload_n 3, 1) := by decide +kernel
theorem dX5_firstBest_2 : decode cX5_firstBest 2 = .ok (.iload 4, 2) := by decide +kernel
theorem dX5_firstBest_4 : decode cX5_firstBest 4 = .ok (.invokevirtual 48, 3) := by decide +kernel
theorem dX5_firstBest_7 : decode cX5_firstBest 7 = .ok (.lstore 5, 2) := by decide +kernel
theorem dX5_firstBest_9 : decode cX5_firstBest 9 = .ok (.iconst 0, 1) := by decide +kernel
theorem dX5_firstBest_10 : decode cX5_firstBest 10 = .ok (.istore 7, 2) := by decide +kernel
theorem dX5_firstBest_12 : decode cX5_firstBest 12 = .ok (.iload 7, 2) := by decide +kernel
theorem dX5_firstBest_14 : decode cX5_firstBest 14 = .ok (.aload_n 1, 1) := by decide +kernel
theorem dX5_firstBest_15 : decode cX5_firstBest 15 = .ok (.getfield 35, 3) := by decide +kernel
theorem dX5_firstBest_18 : decode cX5_firstBest 18 = .ok (.if_icmp .ge 29, 3) := by decide +kernel
theorem dX5_firstBest_21 : decode cX5_firstBest 21 = .ok (.aload_n 0, 1) := by decide +kernel
theorem dX5_firstBest_22 : decode cX5_firstBest 22 = .ok (.aload_n 1, 1) := by decide +kernel
theorem dX5_firstBest_23 : decode cX5_firstBest 23 = .ok (.aload_n 2, 1) := by decide +kernel
theorem dX5_firstBest_24 : decode cX5_firstBest 24 = .ok (.iload_n 3, 1) := by decide +kernel
theorem dX5_firstBest_25 : decode cX5_firstBest 25 = .ok (.iload 4, 2) := by decide +kernel
theorem dX5_firstBest_27 : decode cX5_firstBest 27 = .ok (.iload 7, 2) := by decide +kernel
theorem dX5_firstBest_29 : decode cX5_firstBest 29 = .ok (.invokevirtual 56, 3) := by decide +kernel
theorem dX5_firstBest_32 : decode cX5_firstBest 32 = .ok (.lload 5, 2) := by decide +kernel
theorem dX5_firstBest_34 : decode cX5_firstBest 34 = .ok (.lcmp, 1) := by decide +kernel
theorem dX5_firstBest_35 : decode cX5_firstBest 35 = .ok (.ifCond .ne 6, 3) := by decide +kernel
theorem dX5_firstBest_38 : decode cX5_firstBest 38 = .ok (.iload 7, 2) := by decide +kernel
theorem dX5_firstBest_40 : decode cX5_firstBest 40 = .ok (.ireturn, 1) := by decide +kernel
theorem dX5_firstBest_41 : decode cX5_firstBest 41 = .ok (.iinc 7 1, 3) := by decide +kernel
theorem dX5_firstBest_44 : decode cX5_firstBest 44 = .ok (.goto (-32), 3) := by decide +kernel
theorem dX5_firstBest_47 : decode cX5_firstBest 47 = .ok (.iconst 0, 1) := by decide +kernel
theorem dX5_firstBest_48 : decode cX5_firstBest 48 = .ok (.ireturn, 1) := by decide +kernel
set_option maxRecDepth 20000 in
theorem ggX5_weightBy_X4_fits : GoodIn wsX5_weightBy wsX4_fits := goodIn_r _ [5, 6, 7, 8, 26, 27, 28, 29, 30, 31, 32, 33, 34, 35] (by decide +kernel) (by decide +kernel)
set_option maxRecDepth 20000 in
theorem gX5_weightBy_X4_fits : GoodIn wsX5_weightBy (wsV RX5 66 RX4 yX4_fits wsX4_fits) := goodIn_app (goodIn_of _ (by decide +kernel)) ggX5_weightBy_X4_fits
set_option maxRecDepth 20000 in
theorem ggX5_weightBy_X3_tenthsOf : GoodIn wsX5_weightBy wsX3_tenthsOf := goodIn_r _ [13, 14, 15, 16, 17, 12, 18, 19, 36, 37, 38, 39, 40, 41] (by decide +kernel) (by decide +kernel)
set_option maxRecDepth 20000 in
theorem gX5_weightBy_X3_tenthsOf : GoodIn wsX5_weightBy (wsV RX5 25 RX3 yX3_tenthsOf wsX3_tenthsOf) := goodIn_app (goodIn_of _ (by decide +kernel)) ggX5_weightBy_X3_tenthsOf
set_option maxRecDepth 20000 in
theorem ggX5_weightBy_X5_bestOf : GoodIn wsX5_weightBy wsX5_bestOf := goodIn_r _ [24, 25, 42] (by decide +kernel) (by decide +kernel)
set_option maxRecDepth 20000 in
theorem gX5_weightBy_X5_bestOf : GoodIn wsX5_weightBy (wsV RX5 48 RX5 yX5_bestOf wsX5_bestOf) := goodIn_app (goodIn_of _ (by decide +kernel)) ggX5_weightBy_X5_bestOf
theorem dX5_weightBy_0 : decode cX5_weightBy 0 = .ok (.aload_n 2, 1) := by decide +kernel
theorem dX5_weightBy_1 : decode cX5_weightBy 1 = .ok (.iload_n 3, 1) := by decide +kernel
theorem dX5_weightBy_2 : decode cX5_weightBy 2 = .ok (.iconst 1, 1) := by decide +kernel
theorem dX5_weightBy_3 : decode cX5_weightBy 3 = .ok (.iadd, 1) := by decide +kernel
theorem dX5_weightBy_4 : decode cX5_weightBy 4 = .ok (.iload 5, 2) := by decide +kernel
theorem dX5_weightBy_6 : decode cX5_weightBy 6 = .ok (.invokevirtual 66, 3) := by decide +kernel
theorem dX5_weightBy_9 : decode cX5_weightBy 9 = .ok (.ifCond .ne 5, 3) := by decide +kernel
theorem dX5_weightBy_12 : decode cX5_weightBy 12 = .ok (.lconst 0, 1) := by decide +kernel
theorem dX5_weightBy_13 : decode cX5_weightBy 13 = .ok (.lreturn, 1) := by decide +kernel
theorem dX5_weightBy_14 : decode cX5_weightBy 14 = .ok (.aload_n 1, 1) := by decide +kernel
theorem dX5_weightBy_15 : decode cX5_weightBy 15 = .ok (.iload 4, 2) := by decide +kernel
theorem dX5_weightBy_17 : decode cX5_weightBy 17 = .ok (.iload 5, 2) := by decide +kernel
theorem dX5_weightBy_19 : decode cX5_weightBy 19 = .ok (.invokevirtual 25, 3) := by decide +kernel
theorem dX5_weightBy_22 : decode cX5_weightBy 22 = .ok (.i2l, 1) := by decide +kernel
theorem dX5_weightBy_23 : decode cX5_weightBy 23 = .ok (.aload_n 0, 1) := by decide +kernel
theorem dX5_weightBy_24 : decode cX5_weightBy 24 = .ok (.iload_n 3, 1) := by decide +kernel
theorem dX5_weightBy_25 : decode cX5_weightBy 25 = .ok (.iconst 1, 1) := by decide +kernel
theorem dX5_weightBy_26 : decode cX5_weightBy 26 = .ok (.iadd, 1) := by decide +kernel
theorem dX5_weightBy_27 : decode cX5_weightBy 27 = .ok (.iload 5, 2) := by decide +kernel
theorem dX5_weightBy_29 : decode cX5_weightBy 29 = .ok (.invokevirtual 48, 3) := by decide +kernel
theorem dX5_weightBy_32 : decode cX5_weightBy 32 = .ok (.lmul, 1) := by decide +kernel
theorem dX5_weightBy_33 : decode cX5_weightBy 33 = .ok (.lreturn, 1) := by decide +kernel
theorem dX5_bestOf_0 : decode cX5_bestOf 0 = .ok (.iload_n 1, 1) := by decide +kernel
theorem dX5_bestOf_1 : decode cX5_bestOf 1 = .ok (.bipush 8, 2) := by decide +kernel
theorem dX5_bestOf_3 : decode cX5_bestOf 3 = .ok (.imul, 1) := by decide +kernel
theorem dX5_bestOf_4 : decode cX5_bestOf 4 = .ok (.iload_n 2, 1) := by decide +kernel
theorem dX5_bestOf_5 : decode cX5_bestOf 5 = .ok (.iadd, 1) := by decide +kernel
theorem dX5_bestOf_6 : decode cX5_bestOf 6 = .ok (.istore_n 3, 1) := by decide +kernel
theorem dX5_bestOf_7 : decode cX5_bestOf 7 = .ok (.iload_n 3, 1) := by decide +kernel
theorem dX5_bestOf_8 : decode cX5_bestOf 8 = .ok (.ifCond .lt 21, 3) := by decide +kernel
theorem dX5_bestOf_11 : decode cX5_bestOf 11 = .ok (.iload_n 3, 1) := by decide +kernel
theorem dX5_bestOf_12 : decode cX5_bestOf 12 = .ok (.aload_n 0, 1) := by decide +kernel
theorem dX5_bestOf_13 : decode cX5_bestOf 13 = .ok (.getfield 9, 3) := by decide +kernel
theorem dX5_bestOf_16 : decode cX5_bestOf 16 = .ok (.arraylength, 1) := by decide +kernel
theorem dX5_bestOf_17 : decode cX5_bestOf 17 = .ok (.if_icmp .ge 12, 3) := by decide +kernel
theorem dX5_bestOf_20 : decode cX5_bestOf 20 = .ok (.aload_n 0, 1) := by decide +kernel
theorem dX5_bestOf_21 : decode cX5_bestOf 21 = .ok (.getfield 9, 3) := by decide +kernel
theorem dX5_bestOf_24 : decode cX5_bestOf 24 = .ok (.iload_n 3, 1) := by decide +kernel
theorem dX5_bestOf_25 : decode cX5_bestOf 25 = .ok (.laload, 1) := by decide +kernel
theorem dX5_bestOf_26 : decode cX5_bestOf 26 = .ok (.goto 4, 3) := by decide +kernel
theorem dX5_bestOf_29 : decode cX5_bestOf 29 = .ok (.lconst 0, 1) := by decide +kernel
theorem dX5_bestOf_30 : decode cX5_bestOf 30 = .ok (.lreturn, 1) := by decide +kernel
theorem dX5_setBest_0 : decode cX5_setBest 0 = .ok (.iload_n 1, 1) := by decide +kernel
theorem dX5_setBest_1 : decode cX5_setBest 1 = .ok (.bipush 8, 2) := by decide +kernel
theorem dX5_setBest_3 : decode cX5_setBest 3 = .ok (.imul, 1) := by decide +kernel
theorem dX5_setBest_4 : decode cX5_setBest 4 = .ok (.iload_n 2, 1) := by decide +kernel
theorem dX5_setBest_5 : decode cX5_setBest 5 = .ok (.iadd, 1) := by decide +kernel
theorem dX5_setBest_6 : decode cX5_setBest 6 = .ok (.istore 5, 2) := by decide +kernel
theorem dX5_setBest_8 : decode cX5_setBest 8 = .ok (.iload 5, 2) := by decide +kernel
theorem dX5_setBest_10 : decode cX5_setBest 10 = .ok (.ifCond .lt 21, 3) := by decide +kernel
theorem dX5_setBest_13 : decode cX5_setBest 13 = .ok (.iload 5, 2) := by decide +kernel
theorem dX5_setBest_15 : decode cX5_setBest 15 = .ok (.aload_n 0, 1) := by decide +kernel
theorem dX5_setBest_16 : decode cX5_setBest 16 = .ok (.getfield 9, 3) := by decide +kernel
theorem dX5_setBest_19 : decode cX5_setBest 19 = .ok (.arraylength, 1) := by decide +kernel
theorem dX5_setBest_20 : decode cX5_setBest 20 = .ok (.if_icmp .ge 11, 3) := by decide +kernel
theorem dX5_setBest_23 : decode cX5_setBest 23 = .ok (.aload_n 0, 1) := by decide +kernel
theorem dX5_setBest_24 : decode cX5_setBest 24 = .ok (.getfield 9, 3) := by decide +kernel
theorem dX5_setBest_27 : decode cX5_setBest 27 = .ok (.iload 5, 2) := by decide +kernel
theorem dX5_setBest_29 : decode cX5_setBest 29 = .ok (.lload_n 3, 1) := by decide +kernel
theorem dX5_setBest_30 : decode cX5_setBest 30 = .ok (.lastore, 1) := by decide +kernel
theorem dX5_setBest_31 : decode cX5_setBest 31 = .ok (.return_, 1) := by decide +kernel
theorem dX6_init_0 : decode cX6_init 0 = .ok (.aload_n 0, 1) := by decide +kernel
theorem dX6_init_1 : decode cX6_init 1 = .ok (.invokespecial 3, 3) := by decide +kernel
theorem dX6_init_4 : decode cX6_init 4 = .ok (.aload_n 0, 1) := by decide +kernel
theorem dX6_init_5 : decode cX6_init 5 = .ok (.sipush 2048, 3) := by decide +kernel
theorem dX6_init_8 : decode cX6_init 8 = .ok (.newarray .long, 2) := by decide +kernel
theorem dX6_init_10 : decode cX6_init 10 = .ok (.putfield 11, 3) := by decide +kernel
theorem dX6_init_13 : decode cX6_init 13 = .ok (.aload_n 0, 1) := by decide +kernel
theorem dX6_init_14 : decode cX6_init 14 = .ok (.sipush 2048, 3) := by decide +kernel
theorem dX6_init_17 : decode cX6_init 17 = .ok (.newarray .int, 2) := by decide +kernel
theorem dX6_init_19 : decode cX6_init 19 = .ok (.putfield 15, 3) := by decide +kernel
theorem dX6_init_22 : decode cX6_init 22 = .ok (.return_, 1) := by decide +kernel
theorem dX6_clear_0 : decode cX6_clear 0 = .ok (.iconst 0, 1) := by decide +kernel
theorem dX6_clear_1 : decode cX6_clear 1 = .ok (.istore_n 1, 1) := by decide +kernel
theorem dX6_clear_2 : decode cX6_clear 2 = .ok (.iload_n 1, 1) := by decide +kernel
theorem dX6_clear_3 : decode cX6_clear 3 = .ok (.aload_n 0, 1) := by decide +kernel
theorem dX6_clear_4 : decode cX6_clear 4 = .ok (.getfield 19, 3) := by decide +kernel
theorem dX6_clear_7 : decode cX6_clear 7 = .ok (.if_icmp .ge 41, 3) := by decide +kernel
theorem dX6_clear_10 : decode cX6_clear 10 = .ok (.iload_n 1, 1) := by decide +kernel
theorem dX6_clear_11 : decode cX6_clear 11 = .ok (.sipush 2048, 3) := by decide +kernel
theorem dX6_clear_14 : decode cX6_clear 14 = .ok (.if_icmp .ge 34, 3) := by decide +kernel
theorem dX6_clear_17 : decode cX6_clear 17 = .ok (.aload_n 0, 1) := by decide +kernel
theorem dX6_clear_18 : decode cX6_clear 18 = .ok (.getfield 15, 3) := by decide +kernel
theorem dX6_clear_21 : decode cX6_clear 21 = .ok (.iload_n 1, 1) := by decide +kernel
theorem dX6_clear_22 : decode cX6_clear 22 = .ok (.iaload, 1) := by decide +kernel
theorem dX6_clear_23 : decode cX6_clear 23 = .ok (.istore_n 2, 1) := by decide +kernel
theorem dX6_clear_24 : decode cX6_clear 24 = .ok (.iload_n 2, 1) := by decide +kernel
theorem dX6_clear_25 : decode cX6_clear 25 = .ok (.ifCond .lt 17, 3) := by decide +kernel
theorem dX6_clear_28 : decode cX6_clear 28 = .ok (.iload_n 2, 1) := by decide +kernel
theorem dX6_clear_29 : decode cX6_clear 29 = .ok (.sipush 2048, 3) := by decide +kernel
theorem dX6_clear_32 : decode cX6_clear 32 = .ok (.if_icmp .ge 10, 3) := by decide +kernel
theorem dX6_clear_35 : decode cX6_clear 35 = .ok (.aload_n 0, 1) := by decide +kernel
theorem dX6_clear_36 : decode cX6_clear 36 = .ok (.getfield 11, 3) := by decide +kernel
theorem dX6_clear_39 : decode cX6_clear 39 = .ok (.iload_n 2, 1) := by decide +kernel
theorem dX6_clear_40 : decode cX6_clear 40 = .ok (.lconst 0, 1) := by decide +kernel
theorem dX6_clear_41 : decode cX6_clear 41 = .ok (.lastore, 1) := by decide +kernel
theorem dX6_clear_42 : decode cX6_clear 42 = .ok (.iinc 1 1, 3) := by decide +kernel
theorem dX6_clear_45 : decode cX6_clear 45 = .ok (.goto (-43), 3) := by decide +kernel
theorem dX6_clear_48 : decode cX6_clear 48 = .ok (.aload_n 0, 1) := by decide +kernel
theorem dX6_clear_49 : decode cX6_clear 49 = .ok (.iconst 0, 1) := by decide +kernel
theorem dX6_clear_50 : decode cX6_clear 50 = .ok (.putfield 19, 3) := by decide +kernel
theorem dX6_clear_53 : decode cX6_clear 53 = .ok (.return_, 1) := by decide +kernel
theorem dX6_add_0 : decode cX6_add 0 = .ok (.lload_n 2, 1) := by decide +kernel
theorem dX6_add_1 : decode cX6_add 1 = .ok (.lconst 0, 1) := by decide +kernel
theorem dX6_add_2 : decode cX6_add 2 = .ok (.lcmp, 1) := by decide +kernel
theorem dX6_add_3 : decode cX6_add 3 = .ok (.ifCond .eq 14, 3) := by decide +kernel
theorem dX6_add_6 : decode cX6_add 6 = .ok (.iload_n 1, 1) := by decide +kernel
theorem dX6_add_7 : decode cX6_add 7 = .ok (.ifCond .lt 10, 3) := by decide +kernel
theorem dX6_add_10 : decode cX6_add 10 = .ok (.iload_n 1, 1) := by decide +kernel
theorem dX6_add_11 : decode cX6_add 11 = .ok (.sipush 2048, 3) := by decide +kernel
theorem dX6_add_14 : decode cX6_add 14 = .ok (.if_icmp .lt 4, 3) := by decide +kernel
theorem dX6_add_17 : decode cX6_add 17 = .ok (.return_, 1) := by decide +kernel
theorem dX6_add_18 : decode cX6_add 18 = .ok (.aload_n 0, 1) := by decide +kernel
theorem dX6_add_19 : decode cX6_add 19 = .ok (.getfield 11, 3) := by decide +kernel
theorem dX6_add_22 : decode cX6_add 22 = .ok (.iload_n 1, 1) := by decide +kernel
theorem dX6_add_23 : decode cX6_add 23 = .ok (.laload, 1) := by decide +kernel
theorem dX6_add_24 : decode cX6_add 24 = .ok (.lconst 0, 1) := by decide +kernel
theorem dX6_add_25 : decode cX6_add 25 = .ok (.lcmp, 1) := by decide +kernel
theorem dX6_add_26 : decode cX6_add 26 = .ok (.ifCond .ne 40, 3) := by decide +kernel
theorem dX6_add_29 : decode cX6_add 29 = .ok (.aload_n 0, 1) := by decide +kernel
theorem dX6_add_30 : decode cX6_add 30 = .ok (.getfield 19, 3) := by decide +kernel
theorem dX6_add_33 : decode cX6_add 33 = .ok (.ifCond .lt 33, 3) := by decide +kernel
theorem dX6_add_36 : decode cX6_add 36 = .ok (.aload_n 0, 1) := by decide +kernel
theorem dX6_add_37 : decode cX6_add 37 = .ok (.getfield 19, 3) := by decide +kernel
theorem dX6_add_40 : decode cX6_add 40 = .ok (.sipush 2048, 3) := by decide +kernel
theorem dX6_add_43 : decode cX6_add 43 = .ok (.if_icmp .ge 23, 3) := by decide +kernel
theorem dX6_add_46 : decode cX6_add 46 = .ok (.aload_n 0, 1) := by decide +kernel
theorem dX6_add_47 : decode cX6_add 47 = .ok (.getfield 15, 3) := by decide +kernel
theorem dX6_add_50 : decode cX6_add 50 = .ok (.aload_n 0, 1) := by decide +kernel
theorem dX6_add_51 : decode cX6_add 51 = .ok (.getfield 19, 3) := by decide +kernel
theorem dX6_add_54 : decode cX6_add 54 = .ok (.iload_n 1, 1) := by decide +kernel
theorem dX6_add_55 : decode cX6_add 55 = .ok (.iastore, 1) := by decide +kernel
theorem dX6_add_56 : decode cX6_add 56 = .ok (.aload_n 0, 1) := by decide +kernel
theorem dX6_add_57 : decode cX6_add 57 = .ok (.dup, 1) := by decide +kernel
theorem dX6_add_58 : decode cX6_add 58 = .ok (.getfield 19, 3) := by decide +kernel
theorem dX6_add_61 : decode cX6_add 61 = .ok (.iconst 1, 1) := by decide +kernel
theorem dX6_add_62 : decode cX6_add 62 = .ok (.iadd, 1) := by decide +kernel
theorem dX6_add_63 : decode cX6_add 63 = .ok (.putfield 19, 3) := by decide +kernel
theorem dX6_add_66 : decode cX6_add 66 = .ok (.aload_n 0, 1) := by decide +kernel
theorem dX6_add_67 : decode cX6_add 67 = .ok (.getfield 11, 3) := by decide +kernel
theorem dX6_add_70 : decode cX6_add 70 = .ok (.iload_n 1, 1) := by decide +kernel
theorem dX6_add_71 : decode cX6_add 71 = .ok (.dup2, 1) := by decide +kernel
theorem dX6_add_72 : decode cX6_add 72 = .ok (.laload, 1) := by decide +kernel
theorem dX6_add_73 : decode cX6_add 73 = .ok (.lload_n 2, 1) := by decide +kernel
theorem dX6_add_74 : decode cX6_add 74 = .ok (.ladd, 1) := by decide +kernel
theorem dX6_add_75 : decode cX6_add 75 = .ok (.lastore, 1) := by decide +kernel
theorem dX6_add_76 : decode cX6_add 76 = .ok (.return_, 1) := by decide +kernel
theorem dX6_stateAt_0 : decode cX6_stateAt 0 = .ok (.iload_n 1, 1) := by decide +kernel
theorem dX6_stateAt_1 : decode cX6_stateAt 1 = .ok (.ifCond .lt 27, 3) := by decide +kernel
theorem dX6_stateAt_4 : decode cX6_stateAt 4 = .ok (.iload_n 1, 1) := by decide +kernel
theorem dX6_stateAt_5 : decode cX6_stateAt 5 = .ok (.aload_n 0, 1) := by decide +kernel
theorem dX6_stateAt_6 : decode cX6_stateAt 6 = .ok (.getfield 19, 3) := by decide +kernel
theorem dX6_stateAt_9 : decode cX6_stateAt 9 = .ok (.if_icmp .ge 19, 3) := by decide +kernel
theorem dX6_stateAt_12 : decode cX6_stateAt 12 = .ok (.iload_n 1, 1) := by decide +kernel
theorem dX6_stateAt_13 : decode cX6_stateAt 13 = .ok (.sipush 2048, 3) := by decide +kernel
theorem dX6_stateAt_16 : decode cX6_stateAt 16 = .ok (.if_icmp .ge 12, 3) := by decide +kernel
theorem dX6_stateAt_19 : decode cX6_stateAt 19 = .ok (.aload_n 0, 1) := by decide +kernel
theorem dX6_stateAt_20 : decode cX6_stateAt 20 = .ok (.getfield 15, 3) := by decide +kernel
theorem dX6_stateAt_23 : decode cX6_stateAt 23 = .ok (.iload_n 1, 1) := by decide +kernel
theorem dX6_stateAt_24 : decode cX6_stateAt 24 = .ok (.iaload, 1) := by decide +kernel
theorem dX6_stateAt_25 : decode cX6_stateAt 25 = .ok (.goto 4, 3) := by decide +kernel
theorem dX6_stateAt_28 : decode cX6_stateAt 28 = .ok (.iconst 0, 1) := by decide +kernel
theorem dX6_stateAt_29 : decode cX6_stateAt 29 = .ok (.ireturn, 1) := by decide +kernel
theorem dX6_weightOf_0 : decode cX6_weightOf 0 = .ok (.iload_n 1, 1) := by decide +kernel
theorem dX6_weightOf_1 : decode cX6_weightOf 1 = .ok (.ifCond .lt 19, 3) := by decide +kernel
theorem dX6_weightOf_4 : decode cX6_weightOf 4 = .ok (.iload_n 1, 1) := by decide +kernel
theorem dX6_weightOf_5 : decode cX6_weightOf 5 = .ok (.sipush 2048, 3) := by decide +kernel
theorem dX6_weightOf_8 : decode cX6_weightOf 8 = .ok (.if_icmp .ge 12, 3) := by decide +kernel
theorem dX6_weightOf_11 : decode cX6_weightOf 11 = .ok (.aload_n 0, 1) := by decide +kernel
theorem dX6_weightOf_12 : decode cX6_weightOf 12 = .ok (.getfield 11, 3) := by decide +kernel
theorem dX6_weightOf_15 : decode cX6_weightOf 15 = .ok (.iload_n 1, 1) := by decide +kernel
theorem dX6_weightOf_16 : decode cX6_weightOf 16 = .ok (.laload, 1) := by decide +kernel
theorem dX6_weightOf_17 : decode cX6_weightOf 17 = .ok (.goto 4, 3) := by decide +kernel
theorem dX6_weightOf_20 : decode cX6_weightOf 20 = .ok (.lconst 0, 1) := by decide +kernel
theorem dX6_weightOf_21 : decode cX6_weightOf 21 = .ok (.lreturn, 1) := by decide +kernel
theorem dX7_init_0 : decode cX7_init 0 = .ok (.aload_n 0, 1) := by decide +kernel
theorem dX7_init_1 : decode cX7_init 1 = .ok (.invokespecial 3, 3) := by decide +kernel
theorem dX7_init_4 : decode cX7_init 4 = .ok (.aload_n 0, 1) := by decide +kernel
theorem dX7_init_5 : decode cX7_init 5 = .ok (.bipush 98, 2) := by decide +kernel
theorem dX7_init_7 : decode cX7_init 7 = .ok (.newarray .int, 2) := by decide +kernel
theorem dX7_init_9 : decode cX7_init 9 = .ok (.putfield 9, 3) := by decide +kernel
theorem dX7_init_12 : decode cX7_init 12 = .ok (.return_, 1) := by decide +kernel
theorem dX7_add_0 : decode cX7_add 0 = .ok (.aload_n 0, 1) := by decide +kernel
theorem dX7_add_1 : decode cX7_add 1 = .ok (.getfield 15, 3) := by decide +kernel
theorem dX7_add_4 : decode cX7_add 4 = .ok (.ifCond .lt 32, 3) := by decide +kernel
theorem dX7_add_7 : decode cX7_add 7 = .ok (.aload_n 0, 1) := by decide +kernel
theorem dX7_add_8 : decode cX7_add 8 = .ok (.getfield 15, 3) := by decide +kernel
theorem dX7_add_11 : decode cX7_add 11 = .ok (.bipush 98, 2) := by decide +kernel
theorem dX7_add_13 : decode cX7_add 13 = .ok (.if_icmp .ge 23, 3) := by decide +kernel
theorem dX7_add_16 : decode cX7_add 16 = .ok (.aload_n 0, 1) := by decide +kernel
theorem dX7_add_17 : decode cX7_add 17 = .ok (.getfield 9, 3) := by decide +kernel
theorem dX7_add_20 : decode cX7_add 20 = .ok (.aload_n 0, 1) := by decide +kernel
theorem dX7_add_21 : decode cX7_add 21 = .ok (.getfield 15, 3) := by decide +kernel
theorem dX7_add_24 : decode cX7_add 24 = .ok (.iload_n 1, 1) := by decide +kernel
theorem dX7_add_25 : decode cX7_add 25 = .ok (.iastore, 1) := by decide +kernel
theorem dX7_add_26 : decode cX7_add 26 = .ok (.aload_n 0, 1) := by decide +kernel
theorem dX7_add_27 : decode cX7_add 27 = .ok (.dup, 1) := by decide +kernel
theorem dX7_add_28 : decode cX7_add 28 = .ok (.getfield 15, 3) := by decide +kernel
theorem dX7_add_31 : decode cX7_add 31 = .ok (.iconst 1, 1) := by decide +kernel
theorem dX7_add_32 : decode cX7_add 32 = .ok (.iadd, 1) := by decide +kernel
theorem dX7_add_33 : decode cX7_add 33 = .ok (.putfield 15, 3) := by decide +kernel
theorem dX7_add_36 : decode cX7_add 36 = .ok (.return_, 1) := by decide +kernel
theorem dX7_byteAt_0 : decode cX7_byteAt 0 = .ok (.iload_n 1, 1) := by decide +kernel
theorem dX7_byteAt_1 : decode cX7_byteAt 1 = .ok (.ifCond .lt 17, 3) := by decide +kernel
theorem dX7_byteAt_4 : decode cX7_byteAt 4 = .ok (.iload_n 1, 1) := by decide +kernel
theorem dX7_byteAt_5 : decode cX7_byteAt 5 = .ok (.aload_n 0, 1) := by decide +kernel
theorem dX7_byteAt_6 : decode cX7_byteAt 6 = .ok (.getfield 15, 3) := by decide +kernel
theorem dX7_byteAt_9 : decode cX7_byteAt 9 = .ok (.if_icmp .ge 9, 3) := by decide +kernel
theorem dX7_byteAt_12 : decode cX7_byteAt 12 = .ok (.iload_n 1, 1) := by decide +kernel
theorem dX7_byteAt_13 : decode cX7_byteAt 13 = .ok (.bipush 98, 2) := by decide +kernel
theorem dX7_byteAt_15 : decode cX7_byteAt 15 = .ok (.if_icmp .lt 5, 3) := by decide +kernel
theorem dX7_byteAt_18 : decode cX7_byteAt 18 = .ok (.iconst (-1), 1) := by decide +kernel
theorem dX7_byteAt_19 : decode cX7_byteAt 19 = .ok (.ireturn, 1) := by decide +kernel
theorem dX7_byteAt_20 : decode cX7_byteAt 20 = .ok (.aload_n 0, 1) := by decide +kernel
theorem dX7_byteAt_21 : decode cX7_byteAt 21 = .ok (.getfield 9, 3) := by decide +kernel
theorem dX7_byteAt_24 : decode cX7_byteAt 24 = .ok (.iload_n 1, 1) := by decide +kernel
theorem dX7_byteAt_25 : decode cX7_byteAt 25 = .ok (.iaload, 1) := by decide +kernel
theorem dX7_byteAt_26 : decode cX7_byteAt 26 = .ok (.ireturn, 1) := by decide +kernel
set_option maxRecDepth 20000 in
theorem ggX7_figureAt_X7_byteAt : GoodIn wsX7_figureAt wsX7_byteAt := goodIn_r _ [5, 6, 7, 8, 9] (by decide +kernel) (by decide +kernel)
set_option maxRecDepth 20000 in
theorem gX7_figureAt_X7_byteAt : GoodIn wsX7_figureAt (wsV RX7 19 RX7 yX7_byteAt wsX7_byteAt) := goodIn_app (goodIn_of _ (by decide +kernel)) ggX7_figureAt_X7_byteAt
theorem dX7_figureAt_0 : decode cX7_figureAt 0 = .ok (.aload_n 0, 1) := by decide +kernel
theorem dX7_figureAt_1 : decode cX7_figureAt 1 = .ok (.iload_n 1, 1) := by decide +kernel
theorem dX7_figureAt_2 : decode cX7_figureAt 2 = .ok (.invokevirtual 19, 3) := by decide +kernel
theorem dX7_figureAt_5 : decode cX7_figureAt 5 = .ok (.istore_n 2, 1) := by decide +kernel
theorem dX7_figureAt_6 : decode cX7_figureAt 6 = .ok (.iload_n 2, 1) := by decide +kernel
theorem dX7_figureAt_7 : decode cX7_figureAt 7 = .ok (.bipush 48, 2) := by decide +kernel
theorem dX7_figureAt_9 : decode cX7_figureAt 9 = .ok (.if_icmp .lt 16, 3) := by decide +kernel
theorem dX7_figureAt_12 : decode cX7_figureAt 12 = .ok (.iload_n 2, 1) := by decide +kernel
theorem dX7_figureAt_13 : decode cX7_figureAt 13 = .ok (.bipush 57, 2) := by decide +kernel
theorem dX7_figureAt_15 : decode cX7_figureAt 15 = .ok (.if_icmp .gt 10, 3) := by decide +kernel
theorem dX7_figureAt_18 : decode cX7_figureAt 18 = .ok (.iload_n 2, 1) := by decide +kernel
theorem dX7_figureAt_19 : decode cX7_figureAt 19 = .ok (.bipush 48, 2) := by decide +kernel
theorem dX7_figureAt_21 : decode cX7_figureAt 21 = .ok (.isub, 1) := by decide +kernel
theorem dX7_figureAt_22 : decode cX7_figureAt 22 = .ok (.goto 4, 3) := by decide +kernel
theorem dX7_figureAt_25 : decode cX7_figureAt 25 = .ok (.iconst (-1), 1) := by decide +kernel
theorem dX7_figureAt_26 : decode cX7_figureAt 26 = .ok (.ireturn, 1) := by decide +kernel
set_option maxRecDepth 20000 in
theorem ggX7_readInto_X7_byteAt : GoodIn wsX7_readInto wsX7_byteAt := goodIn_r _ [5, 6, 7, 77, 78] (by decide +kernel) (by decide +kernel)
set_option maxRecDepth 20000 in
theorem gX7_readInto_X7_byteAt : GoodIn wsX7_readInto (wsV RX7 19 RX7 yX7_byteAt wsX7_byteAt) := goodIn_app (goodIn_of _ (by decide +kernel)) ggX7_readInto_X7_byteAt
set_option maxRecDepth 20000 in
theorem ggX7_readInto_X7_figureAt : GoodIn wsX7_readInto wsX7_figureAt := goodIn_r _ [11, 1, 2, 3, 4, 5, 6, 7, 77, 78] (by decide +kernel) (by decide +kernel)
set_option maxRecDepth 20000 in
theorem gX7_readInto_X7_figureAt : GoodIn wsX7_readInto (wsV RX7 23 RX7 yX7_figureAt wsX7_figureAt) := goodIn_app (goodIn_of _ (by decide +kernel)) ggX7_readInto_X7_figureAt
set_option maxRecDepth 20000 in
theorem ggX7_readInto_X3_clear : GoodIn wsX7_readInto wsX3_clear := goodIn_r _ [16, 17, 18, 19, 20, 21, 22, 79, 80, 81, 82, 83, 84] (by decide +kernel) (by decide +kernel)
set_option maxRecDepth 20000 in
theorem gX7_readInto_X3_clear : GoodIn wsX7_readInto (wsV RX7 26 RX3 yX3_clear wsX3_clear) := goodIn_app (goodIn_of _ (by decide +kernel)) ggX7_readInto_X3_clear
set_option maxRecDepth 20000 in
theorem ggX7_readInto_X7_readPenny : GoodIn wsX7_readInto wsX7_readPenny := goodIn_r _ [26, 6, 8, 9, 10, 4, 11, 1, 2, 3, 5, 7, 27, 28, 29, 15, 30, 18, 19, 17, 31, 32, 33, 34, 20, 21, 22, 35, 36, 37, 38, 77, 78, 79, 80, 81, 82, 83, 84] (by decide +kernel) (by decide +kernel)
set_option maxRecDepth 20000 in
theorem gX7_readInto_X7_readPenny : GoodIn wsX7_readInto (wsV RX7 32 RX7 yX7_readPenny wsX7_readPenny) := goodIn_app (goodIn_of _ (by decide +kernel)) ggX7_readInto_X7_readPenny
set_option maxRecDepth 20000 in
theorem ggX7_readInto_X7_readFree : GoodIn wsX7_readInto wsX7_readFree := goodIn_r _ [42, 6, 43, 44, 45, 4, 46, 1, 2, 3, 5, 7, 47, 48, 49, 15, 50, 17, 51, 52, 53, 54, 21, 35, 36, 37, 38, 8, 9, 10, 11, 55, 56, 57, 58, 59, 60, 61, 62, 63, 20, 64, 65, 66, 67, 22, 68, 32, 33, 34, 69, 70, 71, 72, 73, 74, 75, 76, 31, 77, 78, 79, 80, 81, 82, 83, 84] (by decide +kernel) (by decide +kernel)
set_option maxRecDepth 20000 in
theorem gX7_readInto_X7_readFree : GoodIn wsX7_readInto (wsV RX7 36 RX7 yX7_readFree wsX7_readFree) := goodIn_app (goodIn_of _ (by decide +kernel)) ggX7_readInto_X7_readFree
theorem dX7_readInto_0 : decode cX7_readInto 0 = .ok (.aload_n 0, 1) := by decide +kernel
theorem dX7_readInto_1 : decode cX7_readInto 1 = .ok (.iconst 0, 1) := by decide +kernel
theorem dX7_readInto_2 : decode cX7_readInto 2 = .ok (.invokevirtual 19, 3) := by decide +kernel
theorem dX7_readInto_5 : decode cX7_readInto 5 = .ok (.bipush 84, 2) := by decide +kernel
theorem dX7_readInto_7 : decode cX7_readInto 7 = .ok (.if_icmp .eq 5, 3) := by decide +kernel
theorem dX7_readInto_10 : decode cX7_readInto 10 = .ok (.iconst 0, 1) := by decide +kernel
theorem dX7_readInto_11 : decode cX7_readInto 11 = .ok (.ireturn, 1) := by decide +kernel
theorem dX7_readInto_12 : decode cX7_readInto 12 = .ok (.aload_n 0, 1) := by decide +kernel
theorem dX7_readInto_13 : decode cX7_readInto 13 = .ok (.iconst 1, 1) := by decide +kernel
theorem dX7_readInto_14 : decode cX7_readInto 14 = .ok (.invokevirtual 23, 3) := by decide +kernel
theorem dX7_readInto_17 : decode cX7_readInto 17 = .ok (.istore_n 2, 1) := by decide +kernel
theorem dX7_readInto_18 : decode cX7_readInto 18 = .ok (.iload_n 2, 1) := by decide +kernel
theorem dX7_readInto_19 : decode cX7_readInto 19 = .ok (.iconst 2, 1) := by decide +kernel
theorem dX7_readInto_20 : decode cX7_readInto 20 = .ok (.if_icmp .lt 9, 3) := by decide +kernel
theorem dX7_readInto_23 : decode cX7_readInto 23 = .ok (.iload_n 2, 1) := by decide +kernel
theorem dX7_readInto_24 : decode cX7_readInto 24 = .ok (.bipush 8, 2) := by decide +kernel
theorem dX7_readInto_26 : decode cX7_readInto 26 = .ok (.if_icmp .le 5, 3) := by decide +kernel
theorem dX7_readInto_29 : decode cX7_readInto 29 = .ok (.iconst 1, 1) := by decide +kernel
theorem dX7_readInto_30 : decode cX7_readInto 30 = .ok (.ireturn, 1) := by decide +kernel
theorem dX7_readInto_31 : decode cX7_readInto 31 = .ok (.aload_n 1, 1) := by decide +kernel
theorem dX7_readInto_32 : decode cX7_readInto 32 = .ok (.iload_n 2, 1) := by decide +kernel
theorem dX7_readInto_33 : decode cX7_readInto 33 = .ok (.invokevirtual 26, 3) := by decide +kernel
theorem dX7_readInto_36 : decode cX7_readInto 36 = .ok (.aload_n 0, 1) := by decide +kernel
theorem dX7_readInto_37 : decode cX7_readInto 37 = .ok (.iconst 2, 1) := by decide +kernel
theorem dX7_readInto_38 : decode cX7_readInto 38 = .ok (.invokevirtual 19, 3) := by decide +kernel
theorem dX7_readInto_41 : decode cX7_readInto 41 = .ok (.istore_n 3, 1) := by decide +kernel
theorem dX7_readInto_42 : decode cX7_readInto 42 = .ok (.iload_n 3, 1) := by decide +kernel
theorem dX7_readInto_43 : decode cX7_readInto 43 = .ok (.bipush 82, 2) := by decide +kernel
theorem dX7_readInto_45 : decode cX7_readInto 45 = .ok (.if_icmp .ne 10, 3) := by decide +kernel
theorem dX7_readInto_48 : decode cX7_readInto 48 = .ok (.aload_n 0, 1) := by decide +kernel
theorem dX7_readInto_49 : decode cX7_readInto 49 = .ok (.aload_n 1, 1) := by decide +kernel
theorem dX7_readInto_50 : decode cX7_readInto 50 = .ok (.iconst 0, 1) := by decide +kernel
theorem dX7_readInto_51 : decode cX7_readInto 51 = .ok (.invokevirtual 32, 3) := by decide +kernel
theorem dX7_readInto_54 : decode cX7_readInto 54 = .ok (.ireturn, 1) := by decide +kernel
theorem dX7_readInto_55 : decode cX7_readInto 55 = .ok (.iload_n 3, 1) := by decide +kernel
theorem dX7_readInto_56 : decode cX7_readInto 56 = .ok (.bipush 87, 2) := by decide +kernel
theorem dX7_readInto_58 : decode cX7_readInto 58 = .ok (.if_icmp .ne 10, 3) := by decide +kernel
theorem dX7_readInto_61 : decode cX7_readInto 61 = .ok (.aload_n 0, 1) := by decide +kernel
theorem dX7_readInto_62 : decode cX7_readInto 62 = .ok (.aload_n 1, 1) := by decide +kernel
theorem dX7_readInto_63 : decode cX7_readInto 63 = .ok (.iconst 1, 1) := by decide +kernel
theorem dX7_readInto_64 : decode cX7_readInto 64 = .ok (.invokevirtual 32, 3) := by decide +kernel
theorem dX7_readInto_67 : decode cX7_readInto 67 = .ok (.ireturn, 1) := by decide +kernel
theorem dX7_readInto_68 : decode cX7_readInto 68 = .ok (.aload_n 0, 1) := by decide +kernel
theorem dX7_readInto_69 : decode cX7_readInto 69 = .ok (.aload_n 1, 1) := by decide +kernel
theorem dX7_readInto_70 : decode cX7_readInto 70 = .ok (.invokevirtual 36, 3) := by decide +kernel
theorem dX7_readInto_73 : decode cX7_readInto 73 = .ok (.ireturn, 1) := by decide +kernel
set_option maxRecDepth 20000 in
theorem ggX7_readPenny_X7_figureAt : GoodIn wsX7_readPenny wsX7_figureAt := goodIn_r _ [6, 7, 8, 9, 5, 10, 1, 11, 31, 32] (by decide +kernel) (by decide +kernel)
set_option maxRecDepth 20000 in
theorem gX7_readPenny_X7_figureAt : GoodIn wsX7_readPenny (wsV RX7 23 RX7 yX7_figureAt wsX7_figureAt) := goodIn_app (goodIn_of _ (by decide +kernel)) ggX7_readPenny_X7_figureAt
set_option maxRecDepth 20000 in
theorem ggX7_readPenny_X3_lay : GoodIn wsX7_readPenny wsX3_lay := goodIn_r _ [16, 17, 18, 19, 20, 21, 22, 15, 23, 24, 25, 26, 27, 28, 29, 30, 33, 34, 35, 36, 37, 38] (by decide +kernel) (by decide +kernel)
set_option maxRecDepth 20000 in
theorem gX7_readPenny_X3_lay : GoodIn wsX7_readPenny (wsV RX7 40 RX3 yX3_lay wsX3_lay) := goodIn_app (goodIn_of _ (by decide +kernel)) ggX7_readPenny_X3_lay
theorem dX7_readPenny_0 : decode cX7_readPenny 0 = .ok (.aload_n 0, 1) := by decide +kernel
theorem dX7_readPenny_1 : decode cX7_readPenny 1 = .ok (.iconst 3, 1) := by decide +kernel
theorem dX7_readPenny_2 : decode cX7_readPenny 2 = .ok (.invokevirtual 23, 3) := by decide +kernel
theorem dX7_readPenny_5 : decode cX7_readPenny 5 = .ok (.istore_n 3, 1) := by decide +kernel
theorem dX7_readPenny_6 : decode cX7_readPenny 6 = .ok (.iload_n 3, 1) := by decide +kernel
theorem dX7_readPenny_7 : decode cX7_readPenny 7 = .ok (.ifCond .ge 5, 3) := by decide +kernel
theorem dX7_readPenny_10 : decode cX7_readPenny 10 = .ok (.iconst 3, 1) := by decide +kernel
theorem dX7_readPenny_11 : decode cX7_readPenny 11 = .ok (.ireturn, 1) := by decide +kernel
theorem dX7_readPenny_12 : decode cX7_readPenny 12 = .ok (.aload_n 0, 1) := by decide +kernel
theorem dX7_readPenny_13 : decode cX7_readPenny 13 = .ok (.getfield 15, 3) := by decide +kernel
theorem dX7_readPenny_16 : decode cX7_readPenny 16 = .ok (.iconst 4, 1) := by decide +kernel
theorem dX7_readPenny_17 : decode cX7_readPenny 17 = .ok (.if_icmp .le 5, 3) := by decide +kernel
theorem dX7_readPenny_20 : decode cX7_readPenny 20 = .ok (.iconst 4, 1) := by decide +kernel
theorem dX7_readPenny_21 : decode cX7_readPenny 21 = .ok (.ireturn, 1) := by decide +kernel
theorem dX7_readPenny_22 : decode cX7_readPenny 22 = .ok (.aload_n 1, 1) := by decide +kernel
theorem dX7_readPenny_23 : decode cX7_readPenny 23 = .ok (.iload_n 2, 1) := by decide +kernel
theorem dX7_readPenny_24 : decode cX7_readPenny 24 = .ok (.iload_n 3, 1) := by decide +kernel
theorem dX7_readPenny_25 : decode cX7_readPenny 25 = .ok (.invokevirtual 40, 3) := by decide +kernel
theorem dX7_readPenny_28 : decode cX7_readPenny 28 = .ok (.bipush (-9), 2) := by decide +kernel
theorem dX7_readPenny_30 : decode cX7_readPenny 30 = .ok (.ireturn, 1) := by decide +kernel
set_option maxRecDepth 20000 in
theorem ggX7_readFree_X7_readOne : GoodIn wsX7_readFree wsX7_readOne := goodIn_r _ [6, 7, 8, 9, 5, 10, 1, 11, 12, 13, 14, 15, 16, 17, 18, 19, 20, 21, 22, 23, 24, 25, 26, 27, 28, 29, 30, 31, 32, 33, 34, 35, 36, 37, 38, 39, 40, 41, 42, 43, 44, 45, 46, 47, 48, 49, 59, 60, 61, 62, 63, 64, 65, 66] (by decide +kernel) (by decide +kernel)
set_option maxRecDepth 20000 in
theorem gX7_readFree_X7_readOne : GoodIn wsX7_readFree (wsV RX7 44 RX7 yX7_readOne wsX7_readOne) := goodIn_app (goodIn_of _ (by decide +kernel)) ggX7_readFree_X7_readOne
set_option maxRecDepth 20000 in
theorem ggX7_readFree_X3_isWhole : GoodIn wsX7_readFree wsX3_isWhole := goodIn_r _ [53, 17, 22, 23, 24, 25, 15, 26, 61, 62, 63, 64, 65, 66] (by decide +kernel) (by decide +kernel)
set_option maxRecDepth 20000 in
theorem gX7_readFree_X3_isWhole : GoodIn wsX7_readFree (wsV RX7 47 RX3 yX3_isWhole wsX3_isWhole) := goodIn_app (goodIn_of _ (by decide +kernel)) ggX7_readFree_X3_isWhole
set_option maxRecDepth 20000 in
theorem ggX7_readFree_X3_layStays : GoodIn wsX7_readFree wsX3_layStays := goodIn_r _ [57, 17, 22, 23, 24, 25, 15, 26, 58, 47, 48, 49, 40, 45, 61, 62, 63, 64, 65, 66] (by decide +kernel) (by decide +kernel)
set_option maxRecDepth 20000 in
theorem gX7_readFree_X3_layStays : GoodIn wsX7_readFree (wsV RX7 51 RX3 yX3_layStays wsX3_layStays) := goodIn_app (goodIn_of _ (by decide +kernel)) ggX7_readFree_X3_layStays
theorem dX7_readFree_0 : decode cX7_readFree 0 = .ok (.iconst 2, 1) := by decide +kernel
theorem dX7_readFree_1 : decode cX7_readFree 1 = .ok (.istore_n 2, 1) := by decide +kernel
theorem dX7_readFree_2 : decode cX7_readFree 2 = .ok (.iload_n 2, 1) := by decide +kernel
theorem dX7_readFree_3 : decode cX7_readFree 3 = .ok (.aload_n 0, 1) := by decide +kernel
theorem dX7_readFree_4 : decode cX7_readFree 4 = .ok (.getfield 15, 3) := by decide +kernel
theorem dX7_readFree_7 : decode cX7_readFree 7 = .ok (.if_icmp .ge 24, 3) := by decide +kernel
theorem dX7_readFree_10 : decode cX7_readFree 10 = .ok (.aload_n 0, 1) := by decide +kernel
theorem dX7_readFree_11 : decode cX7_readFree 11 = .ok (.aload_n 1, 1) := by decide +kernel
theorem dX7_readFree_12 : decode cX7_readFree 12 = .ok (.iload_n 2, 1) := by decide +kernel
theorem dX7_readFree_13 : decode cX7_readFree 13 = .ok (.invokevirtual 44, 3) := by decide +kernel
theorem dX7_readFree_16 : decode cX7_readFree 16 = .ok (.istore_n 3, 1) := by decide +kernel
theorem dX7_readFree_17 : decode cX7_readFree 17 = .ok (.iload_n 3, 1) := by decide +kernel
theorem dX7_readFree_18 : decode cX7_readFree 18 = .ok (.bipush (-9), 2) := by decide +kernel
theorem dX7_readFree_20 : decode cX7_readFree 20 = .ok (.if_icmp .eq 5, 3) := by decide +kernel
theorem dX7_readFree_23 : decode cX7_readFree 23 = .ok (.iload_n 3, 1) := by decide +kernel
theorem dX7_readFree_24 : decode cX7_readFree 24 = .ok (.ireturn, 1) := by decide +kernel
theorem dX7_readFree_25 : decode cX7_readFree 25 = .ok (.iinc 2 4, 3) := by decide +kernel
theorem dX7_readFree_28 : decode cX7_readFree 28 = .ok (.goto (-26), 3) := by decide +kernel
theorem dX7_readFree_31 : decode cX7_readFree 31 = .ok (.aload_n 1, 1) := by decide +kernel
theorem dX7_readFree_32 : decode cX7_readFree 32 = .ok (.invokevirtual 47, 3) := by decide +kernel
theorem dX7_readFree_35 : decode cX7_readFree 35 = .ok (.ifCond .ne 8, 3) := by decide +kernel
theorem dX7_readFree_38 : decode cX7_readFree 38 = .ok (.aload_n 0, 1) := by decide +kernel
theorem dX7_readFree_39 : decode cX7_readFree 39 = .ok (.getfield 15, 3) := by decide +kernel
theorem dX7_readFree_42 : decode cX7_readFree 42 = .ok (.ireturn, 1) := by decide +kernel
theorem dX7_readFree_43 : decode cX7_readFree 43 = .ok (.aload_n 1, 1) := by decide +kernel
theorem dX7_readFree_44 : decode cX7_readFree 44 = .ok (.invokevirtual 51, 3) := by decide +kernel
theorem dX7_readFree_47 : decode cX7_readFree 47 = .ok (.bipush (-9), 2) := by decide +kernel
theorem dX7_readFree_49 : decode cX7_readFree 49 = .ok (.ireturn, 1) := by decide +kernel
set_option maxRecDepth 20000 in
theorem ggX7_readOne_X7_byteAt : GoodIn wsX7_readOne wsX7_byteAt := goodIn_r _ [5, 6, 7, 46, 47] (by decide +kernel) (by decide +kernel)
set_option maxRecDepth 20000 in
theorem gX7_readOne_X7_byteAt : GoodIn wsX7_readOne (wsV RX7 19 RX7 yX7_byteAt wsX7_byteAt) := goodIn_app (goodIn_of _ (by decide +kernel)) ggX7_readOne_X7_byteAt
set_option maxRecDepth 20000 in
theorem ggX7_readOne_X3_hasRoom : GoodIn wsX7_readOne wsX3_hasRoom := goodIn_r _ [12, 13, 14, 15, 16, 11, 17, 18, 19, 20, 21, 22, 48, 49, 50, 51, 52, 53] (by decide +kernel) (by decide +kernel)
set_option maxRecDepth 20000 in
theorem gX7_readOne_X3_hasRoom : GoodIn wsX7_readOne (wsV RX7 54 RX3 yX3_hasRoom wsX3_hasRoom) := goodIn_app (goodIn_of _ (by decide +kernel)) ggX7_readOne_X3_hasRoom
set_option maxRecDepth 20000 in
theorem ggX7_readOne_X7_figureAt : GoodIn wsX7_readOne wsX7_figureAt := goodIn_r _ [26, 1, 2, 3, 4, 5, 6, 7, 46, 47] (by decide +kernel) (by decide +kernel)
set_option maxRecDepth 20000 in
theorem gX7_readOne_X7_figureAt : GoodIn wsX7_readOne (wsV RX7 23 RX7 yX7_figureAt wsX7_figureAt) := goodIn_app (goodIn_of _ (by decide +kernel)) ggX7_readOne_X7_figureAt
set_option maxRecDepth 20000 in
theorem ggX7_readOne_X3_hasRoomFrom : GoodIn wsX7_readOne wsX3_hasRoomFrom := goodIn_r _ [17, 18, 19, 20, 21, 11, 22, 13, 48, 49, 50, 51, 52, 53] (by decide +kernel) (by decide +kernel)
set_option maxRecDepth 20000 in
theorem gX7_readOne_X3_hasRoomFrom : GoodIn wsX7_readOne (wsV RX7 57 RX3 yX3_hasRoomFrom wsX3_hasRoomFrom) := goodIn_app (goodIn_of _ (by decide +kernel)) ggX7_readOne_X3_hasRoomFrom
set_option maxRecDepth 20000 in
theorem ggX7_readOne_X3_isFree : GoodIn wsX7_readOne wsX3_isFree := goodIn_r _ [31, 19, 20, 21, 11, 22, 13, 32, 33, 34, 35, 36, 48, 49, 50, 51, 52, 53] (by decide +kernel) (by decide +kernel)
set_option maxRecDepth 20000 in
theorem gX7_readOne_X3_isFree : GoodIn wsX7_readOne (wsV RX7 61 RX3 yX3_isFree wsX3_isFree) := goodIn_app (goodIn_of _ (by decide +kernel)) ggX7_readOne_X3_isFree
set_option maxRecDepth 20000 in
theorem ggX7_readOne_X3_canTell : GoodIn wsX7_readOne wsX3_canTell := goodIn_r _ [40, 18, 41, 13, 19, 20, 21, 11, 22, 48, 49, 50, 51, 52, 53] (by decide +kernel) (by decide +kernel)
set_option maxRecDepth 20000 in
theorem gX7_readOne_X3_canTell : GoodIn wsX7_readOne (wsV RX7 65 RX3 yX3_canTell wsX3_canTell) := goodIn_app (goodIn_of _ (by decide +kernel)) ggX7_readOne_X3_canTell
set_option maxRecDepth 20000 in
theorem ggX7_readOne_X3_tell : GoodIn wsX7_readOne wsX3_tell := goodIn_r _ [45, 36, 18, 41, 19, 20, 21, 11, 22, 13, 48, 49, 50, 51, 52, 53] (by decide +kernel) (by decide +kernel)
set_option maxRecDepth 20000 in
theorem gX7_readOne_X3_tell : GoodIn wsX7_readOne (wsV RX7 68 RX3 yX3_tell wsX3_tell) := goodIn_app (goodIn_of _ (by decide +kernel)) ggX7_readOne_X3_tell
theorem dX7_readOne_0 : decode cX7_readOne 0 = .ok (.aload_n 0, 1) := by decide +kernel
theorem dX7_readOne_1 : decode cX7_readOne 1 = .ok (.iload_n 2, 1) := by decide +kernel
theorem dX7_readOne_2 : decode cX7_readOne 2 = .ok (.invokevirtual 19, 3) := by decide +kernel
theorem dX7_readOne_5 : decode cX7_readOne 5 = .ok (.bipush 72, 2) := by decide +kernel
theorem dX7_readOne_7 : decode cX7_readOne 7 = .ok (.if_icmp .ne 10, 3) := by decide +kernel
theorem dX7_readOne_10 : decode cX7_readOne 10 = .ok (.aload_n 1, 1) := by decide +kernel
theorem dX7_readOne_11 : decode cX7_readOne 11 = .ok (.invokevirtual 54, 3) := by decide +kernel
theorem dX7_readOne_14 : decode cX7_readOne 14 = .ok (.ifCond .ne 5, 3) := by decide +kernel
theorem dX7_readOne_17 : decode cX7_readOne 17 = .ok (.iload_n 2, 1) := by decide +kernel
theorem dX7_readOne_18 : decode cX7_readOne 18 = .ok (.ireturn, 1) := by decide +kernel
theorem dX7_readOne_19 : decode cX7_readOne 19 = .ok (.aload_n 0, 1) := by decide +kernel
theorem dX7_readOne_20 : decode cX7_readOne 20 = .ok (.iload_n 2, 1) := by decide +kernel
theorem dX7_readOne_21 : decode cX7_readOne 21 = .ok (.iconst 1, 1) := by decide +kernel
theorem dX7_readOne_22 : decode cX7_readOne 22 = .ok (.iadd, 1) := by decide +kernel
theorem dX7_readOne_23 : decode cX7_readOne 23 = .ok (.invokevirtual 23, 3) := by decide +kernel
theorem dX7_readOne_26 : decode cX7_readOne 26 = .ok (.istore_n 3, 1) := by decide +kernel
theorem dX7_readOne_27 : decode cX7_readOne 27 = .ok (.aload_n 1, 1) := by decide +kernel
theorem dX7_readOne_28 : decode cX7_readOne 28 = .ok (.iload_n 3, 1) := by decide +kernel
theorem dX7_readOne_29 : decode cX7_readOne 29 = .ok (.invokevirtual 57, 3) := by decide +kernel
theorem dX7_readOne_32 : decode cX7_readOne 32 = .ok (.ifCond .ne 7, 3) := by decide +kernel
theorem dX7_readOne_35 : decode cX7_readOne 35 = .ok (.iload_n 2, 1) := by decide +kernel
theorem dX7_readOne_36 : decode cX7_readOne 36 = .ok (.iconst 1, 1) := by decide +kernel
theorem dX7_readOne_37 : decode cX7_readOne 37 = .ok (.iadd, 1) := by decide +kernel
theorem dX7_readOne_38 : decode cX7_readOne 38 = .ok (.ireturn, 1) := by decide +kernel
theorem dX7_readOne_39 : decode cX7_readOne 39 = .ok (.aload_n 0, 1) := by decide +kernel
theorem dX7_readOne_40 : decode cX7_readOne 40 = .ok (.iload_n 2, 1) := by decide +kernel
theorem dX7_readOne_41 : decode cX7_readOne 41 = .ok (.iconst 2, 1) := by decide +kernel
theorem dX7_readOne_42 : decode cX7_readOne 42 = .ok (.iadd, 1) := by decide +kernel
theorem dX7_readOne_43 : decode cX7_readOne 43 = .ok (.invokevirtual 23, 3) := by decide +kernel
theorem dX7_readOne_46 : decode cX7_readOne 46 = .ok (.istore 4, 2) := by decide +kernel
theorem dX7_readOne_48 : decode cX7_readOne 48 = .ok (.aload_n 1, 1) := by decide +kernel
theorem dX7_readOne_49 : decode cX7_readOne 49 = .ok (.iload_n 3, 1) := by decide +kernel
theorem dX7_readOne_50 : decode cX7_readOne 50 = .ok (.iload 4, 2) := by decide +kernel
theorem dX7_readOne_52 : decode cX7_readOne 52 = .ok (.invokevirtual 61, 3) := by decide +kernel
theorem dX7_readOne_55 : decode cX7_readOne 55 = .ok (.ifCond .ne 7, 3) := by decide +kernel
theorem dX7_readOne_58 : decode cX7_readOne 58 = .ok (.iload_n 2, 1) := by decide +kernel
theorem dX7_readOne_59 : decode cX7_readOne 59 = .ok (.iconst 2, 1) := by decide +kernel
theorem dX7_readOne_60 : decode cX7_readOne 60 = .ok (.iadd, 1) := by decide +kernel
theorem dX7_readOne_61 : decode cX7_readOne 61 = .ok (.ireturn, 1) := by decide +kernel
theorem dX7_readOne_62 : decode cX7_readOne 62 = .ok (.aload_n 0, 1) := by decide +kernel
theorem dX7_readOne_63 : decode cX7_readOne 63 = .ok (.iload_n 2, 1) := by decide +kernel
theorem dX7_readOne_64 : decode cX7_readOne 64 = .ok (.iconst 3, 1) := by decide +kernel
theorem dX7_readOne_65 : decode cX7_readOne 65 = .ok (.iadd, 1) := by decide +kernel
theorem dX7_readOne_66 : decode cX7_readOne 66 = .ok (.invokevirtual 23, 3) := by decide +kernel
theorem dX7_readOne_69 : decode cX7_readOne 69 = .ok (.istore 5, 2) := by decide +kernel
theorem dX7_readOne_71 : decode cX7_readOne 71 = .ok (.iload 5, 2) := by decide +kernel
theorem dX7_readOne_73 : decode cX7_readOne 73 = .ok (.ifCond .ne 8, 3) := by decide +kernel
