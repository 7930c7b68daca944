theorem dX9_judge_5 : decode cX9_judge 5 = .ok (.ifCond .ne 6, 3) := by decide +kernel
theorem dX9_judge_8 : decode cX9_judge 8 = .ok (.bipush (-2), 2) := by decide +kernel
theorem dX9_judge_10 : decode cX9_judge 10 = .ok (.ireturn, 1) := by decide +kernel
theorem dX9_judge_11 : decode cX9_judge 11 = .ok (.aload_n 0, 1) := by decide +kernel
theorem dX9_judge_12 : decode cX9_judge 12 = .ok (.getfield 152, 3) := by decide +kernel
theorem dX9_judge_15 : decode cX9_judge 15 = .ok (.istore_n 3, 1) := by decide +kernel
theorem dX9_judge_16 : decode cX9_judge 16 = .ok (.iconst 0, 1) := by decide +kernel
theorem dX9_judge_17 : decode cX9_judge 17 = .ok (.istore 4, 2) := by decide +kernel
theorem dX9_judge_19 : decode cX9_judge 19 = .ok (.iload 4, 2) := by decide +kernel
theorem dX9_judge_21 : decode cX9_judge 21 = .ok (.iload_n 1, 1) := by decide +kernel
theorem dX9_judge_22 : decode cX9_judge 22 = .ok (.if_icmp .ge 60, 3) := by decide +kernel
theorem dX9_judge_25 : decode cX9_judge 25 = .ok (.iload_n 2, 1) := by decide +kernel
theorem dX9_judge_26 : decode cX9_judge 26 = .ok (.i2l, 1) := by decide +kernel
theorem dX9_judge_27 : decode cX9_judge 27 = .ok (.bipush 10, 2) := by decide +kernel
theorem dX9_judge_29 : decode cX9_judge 29 = .ok (.iload_n 1, 1) := by decide +kernel
theorem dX9_judge_30 : decode cX9_judge 30 = .ok (.iconst 1, 1) := by decide +kernel
theorem dX9_judge_31 : decode cX9_judge 31 = .ok (.isub, 1) := by decide +kernel
theorem dX9_judge_32 : decode cX9_judge 32 = .ok (.iload 4, 2) := by decide +kernel
theorem dX9_judge_34 : decode cX9_judge 34 = .ok (.isub, 1) := by decide +kernel
theorem dX9_judge_35 : decode cX9_judge 35 = .ok (.invokestatic 177, 3) := by decide +kernel
theorem dX9_judge_38 : decode cX9_judge 38 = .ok (.ldiv, 1) := by decide +kernel
theorem dX9_judge_39 : decode cX9_judge 39 = .ok (.ldc2_w 165, 3) := by decide +kernel
theorem dX9_judge_42 : decode cX9_judge 42 = .ok (.lrem, 1) := by decide +kernel
theorem dX9_judge_43 : decode cX9_judge 43 = .ok (.l2i, 1) := by decide +kernel
theorem dX9_judge_44 : decode cX9_judge 44 = .ok (.istore 5, 2) := by decide +kernel
theorem dX9_judge_46 : decode cX9_judge 46 = .ok (.aload_n 0, 1) := by decide +kernel
theorem dX9_judge_47 : decode cX9_judge 47 = .ok (.iload 5, 2) := by decide +kernel
theorem dX9_judge_49 : decode cX9_judge 49 = .ok (.invokevirtual 161, 3) := by decide +kernel
theorem dX9_judge_52 : decode cX9_judge 52 = .ok (.ifCond .eq 18, 3) := by decide +kernel
theorem dX9_judge_55 : decode cX9_judge 55 = .ok (.aload_n 0, 1) := by decide +kernel
theorem dX9_judge_56 : decode cX9_judge 56 = .ok (.getfield 13, 3) := by decide +kernel
theorem dX9_judge_59 : decode cX9_judge 59 = .ok (.bipush 8, 2) := by decide +kernel
theorem dX9_judge_61 : decode cX9_judge 61 = .ok (.iload_n 3, 1) := by decide +kernel
theorem dX9_judge_62 : decode cX9_judge 62 = .ok (.imul, 1) := by decide +kernel
theorem dX9_judge_63 : decode cX9_judge 63 = .ok (.iload 5, 2) := by decide +kernel
theorem dX9_judge_65 : decode cX9_judge 65 = .ok (.iadd, 1) := by decide +kernel
theorem dX9_judge_66 : decode cX9_judge 66 = .ok (.iaload, 1) := by decide +kernel
theorem dX9_judge_67 : decode cX9_judge 67 = .ok (.ifCond .ne 6, 3) := by decide +kernel
theorem dX9_judge_70 : decode cX9_judge 70 = .ok (.iload 4, 2) := by decide +kernel
theorem dX9_judge_72 : decode cX9_judge 72 = .ok (.ireturn, 1) := by decide +kernel
theorem dX9_judge_73 : decode cX9_judge 73 = .ok (.iload 5, 2) := by decide +kernel
theorem dX9_judge_75 : decode cX9_judge 75 = .ok (.istore_n 3, 1) := by decide +kernel
theorem dX9_judge_76 : decode cX9_judge 76 = .ok (.iinc 4 1, 3) := by decide +kernel
theorem dX9_judge_79 : decode cX9_judge 79 = .ok (.goto (-60), 3) := by decide +kernel
theorem dX9_judge_82 : decode cX9_judge 82 = .ok (.bipush (-9), 2) := by decide +kernel
theorem dX9_judge_84 : decode cX9_judge 84 = .ok (.ireturn, 1) := by decide +kernel
set_option maxRecDepth 20000 in
theorem ggX9_likely_X9_judge : GoodIn wsX9_likely wsX9_judge := goodIn_r _ [9, 2, 3, 4, 10, 11, 8, 12, 13, 14, 15, 16, 17, 18, 19, 20, 21, 22, 23, 24, 28, 29, 30, 31, 32, 33, 34, 35, 36, 37, 38, 39, 40, 41, 42, 43, 44, 45, 46, 47, 48, 49, 50, 51, 52, 53, 54, 55, 56, 57, 58, 59, 60, 61, 62, 63, 64, 65, 66] (by decide +kernel) (by decide +kernel)
set_option maxRecDepth 20000 in
theorem gX9_likely_X9_judge : GoodIn wsX9_likely (wsV RX9 227 RX9 yX9_judge wsX9_judge) := goodIn_app (goodIn_of _ (by decide +kernel)) ggX9_likely_X9_judge
set_option maxRecDepth 20000 in
theorem ggX9_likely_X9_power : GoodIn wsX9_likely wsX9_power := goodIn_r _ [19] (by decide +kernel) (by decide +kernel)
set_option maxRecDepth 20000 in
theorem gX9_likely_X9_power : GoodIn wsX9_likely (va_wsS RX9 177 yX9_power wsX9_power) := goodIn_app (goodIn_of _ (by decide +kernel)) ggX9_likely_X9_power
set_option maxRecDepth 20000 in
theorem ggX9_likely_X9_part : GoodIn wsX9_likely wsX9_part := goodIn_r _ [27] (by decide +kernel) (by decide +kernel)
set_option maxRecDepth 20000 in
theorem gX9_likely_X9_part : GoodIn wsX9_likely (va_wsS RX9 181 yX9_part wsX9_part) := goodIn_app (goodIn_of _ (by decide +kernel)) ggX9_likely_X9_part
theorem dX9_likely_0 : decode cX9_likely 0 = .ok (.aload_n 0, 1) := by decide +kernel
theorem dX9_likely_1 : decode cX9_likely 1 = .ok (.iload_n 1, 1) := by decide +kernel
theorem dX9_likely_2 : decode cX9_likely 2 = .ok (.iload_n 2, 1) := by decide +kernel
theorem dX9_likely_3 : decode cX9_likely 3 = .ok (.invokevirtual 227, 3) := by decide +kernel
theorem dX9_likely_6 : decode cX9_likely 6 = .ok (.istore 4, 2) := by decide +kernel
theorem dX9_likely_8 : decode cX9_likely 8 = .ok (.iload 4, 2) := by decide +kernel
theorem dX9_likely_10 : decode cX9_likely 10 = .ok (.bipush (-2), 2) := by decide +kernel
theorem dX9_likely_12 : decode cX9_likely 12 = .ok (.if_icmp .ne 7, 3) := by decide +kernel
theorem dX9_likely_15 : decode cX9_likely 15 = .ok (.ldc2_w 171, 3) := by decide +kernel
theorem dX9_likely_18 : decode cX9_likely 18 = .ok (.lreturn, 1) := by decide +kernel
theorem dX9_likely_19 : decode cX9_likely 19 = .ok (.iload 4, 2) := by decide +kernel
theorem dX9_likely_21 : decode cX9_likely 21 = .ok (.bipush (-9), 2) := by decide +kernel
theorem dX9_likely_23 : decode cX9_likely 23 = .ok (.if_icmp .ne 7, 3) := by decide +kernel
theorem dX9_likely_26 : decode cX9_likely 26 = .ok (.lconst 1, 1) := by decide +kernel
theorem dX9_likely_27 : decode cX9_likely 27 = .ok (.goto 4, 3) := by decide +kernel
theorem dX9_likely_30 : decode cX9_likely 30 = .ok (.lconst 0, 1) := by decide +kernel
theorem dX9_likely_31 : decode cX9_likely 31 = .ok (.lstore 5, 2) := by decide +kernel
theorem dX9_likely_33 : decode cX9_likely 33 = .ok (.aload_n 0, 1) := by decide +kernel
theorem dX9_likely_34 : decode cX9_likely 34 = .ok (.getfield 152, 3) := by decide +kernel
theorem dX9_likely_37 : decode cX9_likely 37 = .ok (.istore 7, 2) := by decide +kernel
theorem dX9_likely_39 : decode cX9_likely 39 = .ok (.iconst 0, 1) := by decide +kernel
theorem dX9_likely_40 : decode cX9_likely 40 = .ok (.istore 8, 2) := by decide +kernel
theorem dX9_likely_42 : decode cX9_likely 42 = .ok (.iload 8, 2) := by decide +kernel
theorem dX9_likely_44 : decode cX9_likely 44 = .ok (.iload_n 1, 1) := by decide +kernel
theorem dX9_likely_45 : decode cX9_likely 45 = .ok (.if_icmp .ge 60, 3) := by decide +kernel
theorem dX9_likely_48 : decode cX9_likely 48 = .ok (.iload 4, 2) := by decide +kernel
theorem dX9_likely_50 : decode cX9_likely 50 = .ok (.bipush (-9), 2) := by decide +kernel
theorem dX9_likely_52 : decode cX9_likely 52 = .ok (.if_icmp .ne 53, 3) := by decide +kernel
theorem dX9_likely_55 : decode cX9_likely 55 = .ok (.iload_n 2, 1) := by decide +kernel
theorem dX9_likely_56 : decode cX9_likely 56 = .ok (.i2l, 1) := by decide +kernel
theorem dX9_likely_57 : decode cX9_likely 57 = .ok (.bipush 10, 2) := by decide +kernel
theorem dX9_likely_59 : decode cX9_likely 59 = .ok (.iload_n 1, 1) := by decide +kernel
theorem dX9_likely_60 : decode cX9_likely 60 = .ok (.iconst 1, 1) := by decide +kernel
theorem dX9_likely_61 : decode cX9_likely 61 = .ok (.isub, 1) := by decide +kernel
theorem dX9_likely_62 : decode cX9_likely 62 = .ok (.iload 8, 2) := by decide +kernel
theorem dX9_likely_64 : decode cX9_likely 64 = .ok (.isub, 1) := by decide +kernel
theorem dX9_likely_65 : decode cX9_likely 65 = .ok (.invokestatic 177, 3) := by decide +kernel
theorem dX9_likely_68 : decode cX9_likely 68 = .ok (.ldiv, 1) := by decide +kernel
theorem dX9_likely_69 : decode cX9_likely 69 = .ok (.ldc2_w 165, 3) := by decide +kernel
theorem dX9_likely_72 : decode cX9_likely 72 = .ok (.lrem, 1) := by decide +kernel
theorem dX9_likely_73 : decode cX9_likely 73 = .ok (.l2i, 1) := by decide +kernel
theorem dX9_likely_74 : decode cX9_likely 74 = .ok (.istore 9, 2) := by decide +kernel
theorem dX9_likely_76 : decode cX9_likely 76 = .ok (.lload 5, 2) := by decide +kernel
theorem dX9_likely_78 : decode cX9_likely 78 = .ok (.aload_n 0, 1) := by decide +kernel
theorem dX9_likely_79 : decode cX9_likely 79 = .ok (.getfield 13, 3) := by decide +kernel
theorem dX9_likely_82 : decode cX9_likely 82 = .ok (.bipush 8, 2) := by decide +kernel
theorem dX9_likely_84 : decode cX9_likely 84 = .ok (.iload 7, 2) := by decide +kernel
theorem dX9_likely_86 : decode cX9_likely 86 = .ok (.imul, 1) := by decide +kernel
theorem dX9_likely_87 : decode cX9_likely 87 = .ok (.iload 9, 2) := by decide +kernel
theorem dX9_likely_89 : decode cX9_likely 89 = .ok (.iadd, 1) := by decide +kernel
theorem dX9_likely_90 : decode cX9_likely 90 = .ok (.iaload, 1) := by decide +kernel
theorem dX9_likely_91 : decode cX9_likely 91 = .ok (.i2l, 1) := by decide +kernel
theorem dX9_likely_92 : decode cX9_likely 92 = .ok (.lmul, 1) := by decide +kernel
theorem dX9_likely_93 : decode cX9_likely 93 = .ok (.lstore 5, 2) := by decide +kernel
theorem dX9_likely_95 : decode cX9_likely 95 = .ok (.iload 9, 2) := by decide +kernel
theorem dX9_likely_97 : decode cX9_likely 97 = .ok (.istore 7, 2) := by decide +kernel
theorem dX9_likely_99 : decode cX9_likely 99 = .ok (.iinc 8 1, 3) := by decide +kernel
theorem dX9_likely_102 : decode cX9_likely 102 = .ok (.goto (-60), 3) := by decide +kernel
theorem dX9_likely_105 : decode cX9_likely 105 = .ok (.lload 5, 2) := by decide +kernel
theorem dX9_likely_107 : decode cX9_likely 107 = .ok (.bipush 10, 2) := by decide +kernel
theorem dX9_likely_109 : decode cX9_likely 109 = .ok (.iload_n 1, 1) := by decide +kernel
theorem dX9_likely_110 : decode cX9_likely 110 = .ok (.invokestatic 177, 3) := by decide +kernel
theorem dX9_likely_113 : decode cX9_likely 113 = .ok (.iload_n 3, 1) := by decide +kernel
theorem dX9_likely_114 : decode cX9_likely 114 = .ok (.invokestatic 181, 3) := by decide +kernel
theorem dX9_likely_117 : decode cX9_likely 117 = .ok (.lreturn, 1) := by decide +kernel
set_option maxRecDepth 20000 in
theorem ggX9_see_X9_isSeat : GoodIn wsX9_see wsX9_isSeat := goodIn_r _ [9, 10, 11, 12, 8, 13, 14, 15, 16, 17, 18, 19, 20, 21, 22, 23, 24, 25, 26, 27, 28, 29, 30, 31, 32, 33, 34, 35, 36, 37, 38, 39, 40, 41, 42, 43, 44, 45, 46, 47, 48, 49, 50, 51, 52] (by decide +kernel) (by decide +kernel)
set_option maxRecDepth 20000 in
theorem gX9_see_X9_isSeat : GoodIn wsX9_see (wsV RX9 161 RX9 yX9_isSeat wsX9_isSeat) := goodIn_app (goodIn_of _ (by decide +kernel)) ggX9_see_X9_isSeat
set_option maxRecDepth 20000 in
theorem ggX9_see_X9_in : GoodIn wsX9_see wsX9_in := goodIn_r _ [13] (by decide +kernel) (by decide +kernel)
set_option maxRecDepth 20000 in
theorem gX9_see_X9_in : GoodIn wsX9_see (va_wsS RX9 90 yX9_in wsX9_in) := goodIn_app (goodIn_of _ (by decide +kernel)) ggX9_see_X9_in
theorem dX9_see_0 : decode cX9_see 0 = .ok (.aload_n 0, 1) := by decide +kernel
theorem dX9_see_1 : decode cX9_see 1 = .ok (.iload_n 2, 1) := by decide +kernel
theorem dX9_see_2 : decode cX9_see 2 = .ok (.invokevirtual 161, 3) := by decide +kernel
theorem dX9_see_5 : decode cX9_see 5 = .ok (.ifCond .ne 5, 3) := by decide +kernel
theorem dX9_see_8 : decode cX9_see 8 = .ok (.iconst (-1), 1) := by decide +kernel
theorem dX9_see_9 : decode cX9_see 9 = .ok (.ireturn, 1) := by decide +kernel
theorem dX9_see_10 : decode cX9_see 10 = .ok (.iload_n 1, 1) := by decide +kernel
theorem dX9_see_11 : decode cX9_see 11 = .ok (.i2l, 1) := by decide +kernel
theorem dX9_see_12 : decode cX9_see 12 = .ok (.lconst 1, 1) := by decide +kernel
theorem dX9_see_13 : decode cX9_see 13 = .ok (.ldc2_w 105, 3) := by decide +kernel
theorem dX9_see_16 : decode cX9_see 16 = .ok (.invokestatic 90, 3) := by decide +kernel
theorem dX9_see_19 : decode cX9_see 19 = .ok (.ifCond .ne 6, 3) := by decide +kernel
theorem dX9_see_22 : decode cX9_see 22 = .ok (.bipush (-2), 2) := by decide +kernel
theorem dX9_see_24 : decode cX9_see 24 = .ok (.ireturn, 1) := by decide +kernel
theorem dX9_see_25 : decode cX9_see 25 = .ok (.aload_n 0, 1) := by decide +kernel
theorem dX9_see_26 : decode cX9_see 26 = .ok (.getfield 158, 3) := by decide +kernel
theorem dX9_see_29 : decode cX9_see 29 = .ok (.bipush 8, 2) := by decide +kernel
theorem dX9_see_31 : decode cX9_see 31 = .ok (.if_icmp .ne 6, 3) := by decide +kernel
theorem dX9_see_34 : decode cX9_see 34 = .ok (.bipush (-4), 2) := by decide +kernel
theorem dX9_see_36 : decode cX9_see 36 = .ok (.ireturn, 1) := by decide +kernel
theorem dX9_see_37 : decode cX9_see 37 = .ok (.aload_n 0, 1) := by decide +kernel
theorem dX9_see_38 : decode cX9_see 38 = .ok (.getfield 41, 3) := by decide +kernel
theorem dX9_see_41 : decode cX9_see 41 = .ok (.aload_n 0, 1) := by decide +kernel
theorem dX9_see_42 : decode cX9_see 42 = .ok (.getfield 158, 3) := by decide +kernel
theorem dX9_see_45 : decode cX9_see 45 = .ok (.iload_n 1, 1) := by decide +kernel
theorem dX9_see_46 : decode cX9_see 46 = .ok (.iastore, 1) := by decide +kernel
theorem dX9_see_47 : decode cX9_see 47 = .ok (.aload_n 0, 1) := by decide +kernel
theorem dX9_see_48 : decode cX9_see 48 = .ok (.getfield 44, 3) := by decide +kernel
theorem dX9_see_51 : decode cX9_see 51 = .ok (.aload_n 0, 1) := by decide +kernel
theorem dX9_see_52 : decode cX9_see 52 = .ok (.getfield 158, 3) := by decide +kernel
theorem dX9_see_55 : decode cX9_see 55 = .ok (.iload_n 2, 1) := by decide +kernel
theorem dX9_see_56 : decode cX9_see 56 = .ok (.iastore, 1) := by decide +kernel
theorem dX9_see_57 : decode cX9_see 57 = .ok (.aload_n 0, 1) := by decide +kernel
theorem dX9_see_58 : decode cX9_see 58 = .ok (.dup, 1) := by decide +kernel
theorem dX9_see_59 : decode cX9_see 59 = .ok (.getfield 158, 3) := by decide +kernel
theorem dX9_see_62 : decode cX9_see 62 = .ok (.iconst 1, 1) := by decide +kernel
theorem dX9_see_63 : decode cX9_see 63 = .ok (.iadd, 1) := by decide +kernel
theorem dX9_see_64 : decode cX9_see 64 = .ok (.putfield 158, 3) := by decide +kernel
theorem dX9_see_67 : decode cX9_see 67 = .ok (.aload_n 0, 1) := by decide +kernel
theorem dX9_see_68 : decode cX9_see 68 = .ok (.getfield 158, 3) := by decide +kernel
theorem dX9_see_71 : decode cX9_see 71 = .ok (.ireturn, 1) := by decide +kernel
theorem dX9_unsee_0 : decode cX9_unsee 0 = .ok (.aload_n 0, 1) := by decide +kernel
theorem dX9_unsee_1 : decode cX9_unsee 1 = .ok (.getfield 158, 3) := by decide +kernel
theorem dX9_unsee_4 : decode cX9_unsee 4 = .ok (.istore_n 1, 1) := by decide +kernel
theorem dX9_unsee_5 : decode cX9_unsee 5 = .ok (.aload_n 0, 1) := by decide +kernel
theorem dX9_unsee_6 : decode cX9_unsee 6 = .ok (.iconst 0, 1) := by decide +kernel
theorem dX9_unsee_7 : decode cX9_unsee 7 = .ok (.putfield 158, 3) := by decide +kernel
theorem dX9_unsee_10 : decode cX9_unsee 10 = .ok (.iload_n 1, 1) := by decide +kernel
theorem dX9_unsee_11 : decode cX9_unsee 11 = .ok (.ireturn, 1) := by decide +kernel
theorem dX9_mayBe_0 : decode cX9_mayBe 0 = .ok (.iconst 1, 1) := by decide +kernel
theorem dX9_mayBe_1 : decode cX9_mayBe 1 = .ok (.istore_n 3, 1) := by decide +kernel
theorem dX9_mayBe_2 : decode cX9_mayBe 2 = .ok (.iconst 0, 1) := by decide +kernel
theorem dX9_mayBe_3 : decode cX9_mayBe 3 = .ok (.istore 4, 2) := by decide +kernel
theorem dX9_mayBe_5 : decode cX9_mayBe 5 = .ok (.iload 4, 2) := by decide +kernel
theorem dX9_mayBe_7 : decode cX9_mayBe 7 = .ok (.aload_n 0, 1) := by decide +kernel
theorem dX9_mayBe_8 : decode cX9_mayBe 8 = .ok (.getfield 158, 3) := by decide +kernel
theorem dX9_mayBe_11 : decode cX9_mayBe 11 = .ok (.if_icmp .ge 41, 3) := by decide +kernel
theorem dX9_mayBe_14 : decode cX9_mayBe 14 = .ok (.iload_n 3, 1) := by decide +kernel
theorem dX9_mayBe_15 : decode cX9_mayBe 15 = .ok (.ifCond .eq 29, 3) := by decide +kernel
theorem dX9_mayBe_18 : decode cX9_mayBe 18 = .ok (.aload_n 0, 1) := by decide +kernel
theorem dX9_mayBe_19 : decode cX9_mayBe 19 = .ok (.getfield 41, 3) := by decide +kernel
theorem dX9_mayBe_22 : decode cX9_mayBe 22 = .ok (.iload 4, 2) := by decide +kernel
theorem dX9_mayBe_24 : decode cX9_mayBe 24 = .ok (.iaload, 1) := by decide +kernel
theorem dX9_mayBe_25 : decode cX9_mayBe 25 = .ok (.iload_n 1, 1) := by decide +kernel
theorem dX9_mayBe_26 : decode cX9_mayBe 26 = .ok (.if_icmp .ne 14, 3) := by decide +kernel
theorem dX9_mayBe_29 : decode cX9_mayBe 29 = .ok (.aload_n 0, 1) := by decide +kernel
theorem dX9_mayBe_30 : decode cX9_mayBe 30 = .ok (.getfield 44, 3) := by decide +kernel
theorem dX9_mayBe_33 : decode cX9_mayBe 33 = .ok (.iload 4, 2) := by decide +kernel
theorem dX9_mayBe_35 : decode cX9_mayBe 35 = .ok (.iaload, 1) := by decide +kernel
theorem dX9_mayBe_36 : decode cX9_mayBe 36 = .ok (.iload_n 2, 1) := by decide +kernel
theorem dX9_mayBe_37 : decode cX9_mayBe 37 = .ok (.if_icmp .ne 7, 3) := by decide +kernel
theorem dX9_mayBe_40 : decode cX9_mayBe 40 = .ok (.iconst 1, 1) := by decide +kernel
theorem dX9_mayBe_41 : decode cX9_mayBe 41 = .ok (.goto 4, 3) := by decide +kernel
theorem dX9_mayBe_44 : decode cX9_mayBe 44 = .ok (.iconst 0, 1) := by decide +kernel
theorem dX9_mayBe_45 : decode cX9_mayBe 45 = .ok (.istore_n 3, 1) := by decide +kernel
theorem dX9_mayBe_46 : decode cX9_mayBe 46 = .ok (.iinc 4 1, 3) := by decide +kernel
theorem dX9_mayBe_49 : decode cX9_mayBe 49 = .ok (.goto (-44), 3) := by decide +kernel
theorem dX9_mayBe_52 : decode cX9_mayBe 52 = .ok (.iload_n 3, 1) := by decide +kernel
theorem dX9_mayBe_53 : decode cX9_mayBe 53 = .ok (.ireturn, 1) := by decide +kernel
set_option maxRecDepth 20000 in
theorem ggX9_layRows_X9_mayBe : GoodIn wsX9_layRows wsX9_mayBe := goodIn_r _ [9, 10, 11, 12, 13, 14, 15, 16, 17, 18, 19, 20, 21, 22, 23, 24, 25, 26, 27, 28, 29, 30, 31, 32, 33, 34, 35, 36, 37, 38, 39, 40, 41, 42, 43, 44, 45, 46, 47, 48, 49, 50, 51] (by decide +kernel) (by decide +kernel)
set_option maxRecDepth 20000 in
theorem gX9_layRows_X9_mayBe : GoodIn wsX9_layRows (wsV RX9 230 RX9 yX9_mayBe wsX9_mayBe) := goodIn_app (goodIn_of _ (by decide +kernel)) ggX9_layRows_X9_mayBe
theorem dX9_layRows_0 : decode cX9_layRows 0 = .ok (.iload_n 1, 1) := by decide +kernel
theorem dX9_layRows_1 : decode cX9_layRows 1 = .ok (.istore_n 2, 1) := by decide +kernel
theorem dX9_layRows_2 : decode cX9_layRows 2 = .ok (.iload_n 2, 1) := by decide +kernel
theorem dX9_layRows_3 : decode cX9_layRows 3 = .ok (.ifCond .lt 230, 3) := by decide +kernel
theorem dX9_layRows_6 : decode cX9_layRows 6 = .ok (.iconst 0, 1) := by decide +kernel
theorem dX9_layRows_7 : decode cX9_layRows 7 = .ok (.istore_n 3, 1) := by decide +kernel
theorem dX9_layRows_8 : decode cX9_layRows 8 = .ok (.iload_n 3, 1) := by decide +kernel
theorem dX9_layRows_9 : decode cX9_layRows 9 = .ok (.aload_n 0, 1) := by decide +kernel
theorem dX9_layRows_10 : decode cX9_layRows 10 = .ok (.getfield 78, 3) := by decide +kernel
theorem dX9_layRows_13 : decode cX9_layRows 13 = .ok (.if_icmp .ge 214, 3) := by decide +kernel
theorem dX9_layRows_16 : decode cX9_layRows 16 = .ok (.iload_n 2, 1) := by decide +kernel
theorem dX9_layRows_17 : decode cX9_layRows 17 = .ok (.iload_n 1, 1) := by decide +kernel
theorem dX9_layRows_18 : decode cX9_layRows 18 = .ok (.if_icmp .ne 7, 3) := by decide +kernel
theorem dX9_layRows_21 : decode cX9_layRows 21 = .ok (.iconst 1, 1) := by decide +kernel
theorem dX9_layRows_22 : decode cX9_layRows 22 = .ok (.goto 4, 3) := by decide +kernel
theorem dX9_layRows_25 : decode cX9_layRows 25 = .ok (.iconst 0, 1) := by decide +kernel
theorem dX9_layRows_26 : decode cX9_layRows 26 = .ok (.istore 4, 2) := by decide +kernel
theorem dX9_layRows_28 : decode cX9_layRows 28 = .ok (.iload_n 2, 1) := by decide +kernel
theorem dX9_layRows_29 : decode cX9_layRows 29 = .ok (.iload_n 1, 1) := by decide +kernel
theorem dX9_layRows_30 : decode cX9_layRows 30 = .ok (.if_icmp .ne 7, 3) := by decide +kernel
theorem dX9_layRows_33 : decode cX9_layRows 33 = .ok (.lconst 1, 1) := by decide +kernel
theorem dX9_layRows_34 : decode cX9_layRows 34 = .ok (.goto 4, 3) := by decide +kernel
theorem dX9_layRows_37 : decode cX9_layRows 37 = .ok (.lconst 0, 1) := by decide +kernel
theorem dX9_layRows_38 : decode cX9_layRows 38 = .ok (.lstore 5, 2) := by decide +kernel
theorem dX9_layRows_40 : decode cX9_layRows 40 = .ok (.iconst 0, 1) := by decide +kernel
theorem dX9_layRows_41 : decode cX9_layRows 41 = .ok (.istore 7, 2) := by decide +kernel
theorem dX9_layRows_43 : decode cX9_layRows 43 = .ok (.iload 7, 2) := by decide +kernel
theorem dX9_layRows_45 : decode cX9_layRows 45 = .ok (.aload_n 0, 1) := by decide +kernel
theorem dX9_layRows_46 : decode cX9_layRows 46 = .ok (.getfield 78, 3) := by decide +kernel
theorem dX9_layRows_49 : decode cX9_layRows 49 = .ok (.if_icmp .ge 108, 3) := by decide +kernel
theorem dX9_layRows_52 : decode cX9_layRows 52 = .ok (.iload_n 2, 1) := by decide +kernel
theorem dX9_layRows_53 : decode cX9_layRows 53 = .ok (.iload_n 1, 1) := by decide +kernel
theorem dX9_layRows_54 : decode cX9_layRows 54 = .ok (.if_icmp .ge 103, 3) := by decide +kernel
theorem dX9_layRows_57 : decode cX9_layRows 57 = .ok (.aload_n 0, 1) := by decide +kernel
theorem dX9_layRows_58 : decode cX9_layRows 58 = .ok (.getfield 13, 3) := by decide +kernel
theorem dX9_layRows_61 : decode cX9_layRows 61 = .ok (.bipush 8, 2) := by decide +kernel
theorem dX9_layRows_63 : decode cX9_layRows 63 = .ok (.iload_n 3, 1) := by decide +kernel
theorem dX9_layRows_64 : decode cX9_layRows 64 = .ok (.imul, 1) := by decide +kernel
theorem dX9_layRows_65 : decode cX9_layRows 65 = .ok (.iload 7, 2) := by decide +kernel
theorem dX9_layRows_67 : decode cX9_layRows 67 = .ok (.iadd, 1) := by decide +kernel
theorem dX9_layRows_68 : decode cX9_layRows 68 = .ok (.iaload, 1) := by decide +kernel
theorem dX9_layRows_69 : decode cX9_layRows 69 = .ok (.istore 8, 2) := by decide +kernel
theorem dX9_layRows_71 : decode cX9_layRows 71 = .ok (.iload 4, 2) := by decide +kernel
theorem dX9_layRows_73 : decode cX9_layRows 73 = .ok (.iload 8, 2) := by decide +kernel
theorem dX9_layRows_75 : decode cX9_layRows 75 = .ok (.ifCond .le 21, 3) := by decide +kernel
theorem dX9_layRows_78 : decode cX9_layRows 78 = .ok (.aload_n 0, 1) := by decide +kernel
theorem dX9_layRows_79 : decode cX9_layRows 79 = .ok (.getfield 47, 3) := by decide +kernel
theorem dX9_layRows_82 : decode cX9_layRows 82 = .ok (.bipush 8, 2) := by decide +kernel
theorem dX9_layRows_84 : decode cX9_layRows 84 = .ok (.iload_n 2, 1) := by decide +kernel
theorem dX9_layRows_85 : decode cX9_layRows 85 = .ok (.imul, 1) := by decide +kernel
theorem dX9_layRows_86 : decode cX9_layRows 86 = .ok (.bipush 8, 2) := by decide +kernel
theorem dX9_layRows_88 : decode cX9_layRows 88 = .ok (.iadd, 1) := by decide +kernel
theorem dX9_layRows_89 : decode cX9_layRows 89 = .ok (.iload 7, 2) := by decide +kernel
theorem dX9_layRows_91 : decode cX9_layRows 91 = .ok (.iadd, 1) := by decide +kernel
theorem dX9_layRows_92 : decode cX9_layRows 92 = .ok (.iaload, 1) := by decide +kernel
theorem dX9_layRows_93 : decode cX9_layRows 93 = .ok (.goto 4, 3) := by decide +kernel
theorem dX9_layRows_96 : decode cX9_layRows 96 = .ok (.iconst 0, 1) := by decide +kernel
theorem dX9_layRows_97 : decode cX9_layRows 97 = .ok (.iadd, 1) := by decide +kernel
theorem dX9_layRows_98 : decode cX9_layRows 98 = .ok (.istore 4, 2) := by decide +kernel
theorem dX9_layRows_100 : decode cX9_layRows 100 = .ok (.iload 8, 2) := by decide +kernel
theorem dX9_layRows_102 : decode cX9_layRows 102 = .ok (.i2l, 1) := by decide +kernel
theorem dX9_layRows_103 : decode cX9_layRows 103 = .ok (.aload_n 0, 1) := by decide +kernel
theorem dX9_layRows_104 : decode cX9_layRows 104 = .ok (.getfield 50, 3) := by decide +kernel
theorem dX9_layRows_107 : decode cX9_layRows 107 = .ok (.bipush 8, 2) := by decide +kernel
theorem dX9_layRows_109 : decode cX9_layRows 109 = .ok (.iload_n 2, 1) := by decide +kernel
theorem dX9_layRows_110 : decode cX9_layRows 110 = .ok (.imul, 1) := by decide +kernel
theorem dX9_layRows_111 : decode cX9_layRows 111 = .ok (.bipush 8, 2) := by decide +kernel
theorem dX9_layRows_113 : decode cX9_layRows 113 = .ok (.iadd, 1) := by decide +kernel
theorem dX9_layRows_114 : decode cX9_layRows 114 = .ok (.iload 7, 2) := by decide +kernel
theorem dX9_layRows_116 : decode cX9_layRows 116 = .ok (.iadd, 1) := by decide +kernel
theorem dX9_layRows_117 : decode cX9_layRows 117 = .ok (.laload, 1) := by decide +kernel
theorem dX9_layRows_118 : decode cX9_layRows 118 = .ok (.lmul, 1) := by decide +kernel
theorem dX9_layRows_119 : decode cX9_layRows 119 = .ok (.lload 5, 2) := by decide +kernel
theorem dX9_layRows_121 : decode cX9_layRows 121 = .ok (.lcmp, 1) := by decide +kernel
theorem dX9_layRows_122 : decode cX9_layRows 122 = .ok (.ifCond .le 25, 3) := by decide +kernel
theorem dX9_layRows_125 : decode cX9_layRows 125 = .ok (.iload 8, 2) := by decide +kernel
theorem dX9_layRows_127 : decode cX9_layRows 127 = .ok (.i2l, 1) := by decide +kernel
theorem dX9_layRows_128 : decode cX9_layRows 128 = .ok (.aload_n 0, 1) := by decide +kernel
theorem dX9_layRows_129 : decode cX9_layRows 129 = .ok (.getfield 50, 3) := by decide +kernel
theorem dX9_layRows_132 : decode cX9_layRows 132 = .ok (.bipush 8, 2) := by decide +kernel
theorem dX9_layRows_134 : decode cX9_layRows 134 = .ok (.iload_n 2, 1) := by decide +kernel
theorem dX9_layRows_135 : decode cX9_layRows 135 = .ok (.imul, 1) := by decide +kernel
theorem dX9_layRows_136 : decode cX9_layRows 136 = .ok (.bipush 8, 2) := by decide +kernel
theorem dX9_layRows_138 : decode cX9_layRows 138 = .ok (.iadd, 1) := by decide +kernel
theorem dX9_layRows_139 : decode cX9_layRows 139 = .ok (.iload 7, 2) := by decide +kernel
theorem dX9_layRows_141 : decode cX9_layRows 141 = .ok (.iadd, 1) := by decide +kernel
theorem dX9_layRows_142 : decode cX9_layRows 142 = .ok (.laload, 1) := by decide +kernel
theorem dX9_layRows_143 : decode cX9_layRows 143 = .ok (.lmul, 1) := by decide +kernel
theorem dX9_layRows_144 : decode cX9_layRows 144 = .ok (.goto 5, 3) := by decide +kernel
theorem dX9_layRows_147 : decode cX9_layRows 147 = .ok (.lload 5, 2) := by decide +kernel
theorem dX9_layRows_149 : decode cX9_layRows 149 = .ok (.lstore 5, 2) := by decide +kernel
theorem dX9_layRows_151 : decode cX9_layRows 151 = .ok (.iinc 7 1, 3) := by decide +kernel
theorem dX9_layRows_154 : decode cX9_layRows 154 = .ok (.goto (-111), 3) := by decide +kernel
theorem dX9_layRows_157 : decode cX9_layRows 157 = .ok (.iload_n 2, 1) := by decide +kernel
theorem dX9_layRows_158 : decode cX9_layRows 158 = .ok (.ifCond .eq 12, 3) := by decide +kernel
theorem dX9_layRows_161 : decode cX9_layRows 161 = .ok (.aload_n 0, 1) := by decide +kernel
theorem dX9_layRows_162 : decode cX9_layRows 162 = .ok (.iload_n 2, 1) := by decide +kernel
theorem dX9_layRows_163 : decode cX9_layRows 163 = .ok (.iload_n 3, 1) := by decide +kernel
theorem dX9_layRows_164 : decode cX9_layRows 164 = .ok (.invokevirtual 230, 3) := by decide +kernel
theorem dX9_layRows_167 : decode cX9_layRows 167 = .ok (.ifCond .eq 7, 3) := by decide +kernel
theorem dX9_layRows_170 : decode cX9_layRows 170 = .ok (.iconst 1, 1) := by decide +kernel
theorem dX9_layRows_171 : decode cX9_layRows 171 = .ok (.goto 4, 3) := by decide +kernel
theorem dX9_layRows_174 : decode cX9_layRows 174 = .ok (.iconst 0, 1) := by decide +kernel
theorem dX9_layRows_175 : decode cX9_layRows 175 = .ok (.istore 7, 2) := by decide +kernel
theorem dX9_layRows_177 : decode cX9_layRows 177 = .ok (.aload_n 0, 1) := by decide +kernel
theorem dX9_layRows_178 : decode cX9_layRows 178 = .ok (.getfield 47, 3) := by decide +kernel
theorem dX9_layRows_181 : decode cX9_layRows 181 = .ok (.bipush 8, 2) := by decide +kernel
theorem dX9_layRows_183 : decode cX9_layRows 183 = .ok (.iload_n 2, 1) := by decide +kernel
theorem dX9_layRows_184 : decode cX9_layRows 184 = .ok (.imul, 1) := by decide +kernel
theorem dX9_layRows_185 : decode cX9_layRows 185 = .ok (.iload_n 3, 1) := by decide +kernel
theorem dX9_layRows_186 : decode cX9_layRows 186 = .ok (.iadd, 1) := by decide +kernel
theorem dX9_layRows_187 : decode cX9_layRows 187 = .ok (.iload 7, 2) := by decide +kernel
theorem dX9_layRows_189 : decode cX9_layRows 189 = .ok (.ifCond .eq 8, 3) := by decide +kernel
theorem dX9_layRows_192 : decode cX9_layRows 192 = .ok (.iload 4, 2) := by decide +kernel
theorem dX9_layRows_194 : decode cX9_layRows 194 = .ok (.goto 4, 3) := by decide +kernel
theorem dX9_layRows_197 : decode cX9_layRows 197 = .ok (.iconst 0, 1) := by decide +kernel
theorem dX9_layRows_198 : decode cX9_layRows 198 = .ok (.iastore, 1) := by decide +kernel
theorem dX9_layRows_199 : decode cX9_layRows 199 = .ok (.aload_n 0, 1) := by decide +kernel
theorem dX9_layRows_200 : decode cX9_layRows 200 = .ok (.getfield 50, 3) := by decide +kernel
theorem dX9_layRows_203 : decode cX9_layRows 203 = .ok (.bipush 8, 2) := by decide +kernel
theorem dX9_layRows_205 : decode cX9_layRows 205 = .ok (.iload_n 2, 1) := by decide +kernel
theorem dX9_layRows_206 : decode cX9_layRows 206 = .ok (.imul, 1) := by decide +kernel
theorem dX9_layRows_207 : decode cX9_layRows 207 = .ok (.iload_n 3, 1) := by decide +kernel
theorem dX9_layRows_208 : decode cX9_layRows 208 = .ok (.iadd, 1) := by decide +kernel
theorem dX9_layRows_209 : decode cX9_layRows 209 = .ok (.iload 7, 2) := by decide +kernel
theorem dX9_layRows_211 : decode cX9_layRows 211 = .ok (.ifCond .eq 8, 3) := by decide +kernel
theorem dX9_layRows_214 : decode cX9_layRows 214 = .ok (.lload 5, 2) := by decide +kernel
theorem dX9_layRows_216 : decode cX9_layRows 216 = .ok (.goto 4, 3) := by decide +kernel
theorem dX9_layRows_219 : decode cX9_layRows 219 = .ok (.lconst 0, 1) := by decide +kernel
theorem dX9_layRows_220 : decode cX9_layRows 220 = .ok (.lastore, 1) := by decide +kernel
theorem dX9_layRows_221 : decode cX9_layRows 221 = .ok (.iinc 3 1, 3) := by decide +kernel
theorem dX9_layRows_224 : decode cX9_layRows 224 = .ok (.goto (-216), 3) := by decide +kernel
theorem dX9_layRows_227 : decode cX9_layRows 227 = .ok (.iinc 2 (-1), 3) := by decide +kernel
theorem dX9_layRows_230 : decode cX9_layRows 230 = .ok (.goto (-228), 3) := by decide +kernel
theorem dX9_layRows_233 : decode cX9_layRows 233 = .ok (.return_, 1) := by decide +kernel
set_option maxRecDepth 20000 in
theorem ggX9_ways_X9_in : GoodIn wsX9_ways wsX9_in := goodIn_r _ [7] (by decide +kernel) (by decide +kernel)
set_option maxRecDepth 20000 in
theorem gX9_ways_X9_in : GoodIn wsX9_ways (va_wsS RX9 90 yX9_in wsX9_in) := goodIn_app (goodIn_of _ (by decide +kernel)) ggX9_ways_X9_in
set_option maxRecDepth 20000 in
theorem ggX9_ways_X9_layRows : GoodIn wsX9_ways wsX9_layRows := goodIn_r _ [11, 12, 13, 2, 14, 15, 16, 17, 6, 18, 19, 20, 21, 22, 23, 24, 25, 26, 27, 28, 29, 30, 31, 32, 33, 34, 35, 36, 37, 38, 39, 40, 41, 42, 43, 44, 45, 46, 47, 48, 49, 50, 51, 52, 53, 54, 55, 56, 57, 58, 59, 60] (by decide +kernel) (by decide +kernel)
set_option maxRecDepth 20000 in
theorem gX9_ways_X9_layRows : GoodIn wsX9_ways (wsV RX9 233 RX9 yX9_layRows wsX9_layRows) := goodIn_app (goodIn_of _ (by decide +kernel)) ggX9_ways_X9_layRows
theorem dX9_ways_0 : decode cX9_ways 0 = .ok (.iload_n 1, 1) := by decide +kernel
theorem dX9_ways_1 : decode cX9_ways 1 = .ok (.i2l, 1) := by decide +kernel
theorem dX9_ways_2 : decode cX9_ways 2 = .ok (.lconst 1, 1) := by decide +kernel
theorem dX9_ways_3 : decode cX9_ways 3 = .ok (.ldc2_w 105, 3) := by decide +kernel
theorem dX9_ways_6 : decode cX9_ways 6 = .ok (.invokestatic 90, 3) := by decide +kernel
theorem dX9_ways_9 : decode cX9_ways 9 = .ok (.ifCond .ne 6, 3) := by decide +kernel
theorem dX9_ways_12 : decode cX9_ways 12 = .ok (.bipush (-2), 2) := by decide +kernel
theorem dX9_ways_14 : decode cX9_ways 14 = .ok (.ireturn, 1) := by decide +kernel
theorem dX9_ways_15 : decode cX9_ways 15 = .ok (.aload_n 0, 1) := by decide +kernel
theorem dX9_ways_16 : decode cX9_ways 16 = .ok (.iload_n 1, 1) := by decide +kernel
theorem dX9_ways_17 : decode cX9_ways 17 = .ok (.invokevirtual 233, 3) := by decide +kernel
theorem dX9_ways_20 : decode cX9_ways 20 = .ok (.aload_n 0, 1) := by decide +kernel
theorem dX9_ways_21 : decode cX9_ways 21 = .ok (.getfield 47, 3) := by decide +kernel
theorem dX9_ways_24 : decode cX9_ways 24 = .ok (.aload_n 0, 1) := by decide +kernel
theorem dX9_ways_25 : decode cX9_ways 25 = .ok (.getfield 152, 3) := by decide +kernel
theorem dX9_ways_28 : decode cX9_ways 28 = .ok (.iaload, 1) := by decide +kernel
theorem dX9_ways_29 : decode cX9_ways 29 = .ok (.ireturn, 1) := by decide +kernel
set_option maxRecDepth 20000 in
theorem ggX9_likeliest_X9_in : GoodIn wsX9_likeliest wsX9_in := goodIn_r _ [8] (by decide +kernel) (by decide +kernel)
set_option maxRecDepth 20000 in
theorem gX9_likeliest_X9_in : GoodIn wsX9_likeliest (va_wsS RX9 90 yX9_in wsX9_in) := goodIn_app (goodIn_of _ (by decide +kernel)) ggX9_likeliest_X9_in
set_option maxRecDepth 20000 in
theorem ggX9_likeliest_X9_layRows : GoodIn wsX9_likeliest wsX9_layRows := goodIn_r _ [12, 13, 4, 14, 2, 15, 16, 17, 7, 18, 19, 20, 21, 22, 23, 24, 25, 26, 27, 28, 29, 30, 31, 32, 33, 34, 35, 36, 37, 38, 39, 40, 41, 42, 43, 44, 45, 46, 47, 48, 49, 50, 51, 52, 53, 54, 55, 56, 57, 58, 59, 60] (by decide +kernel) (by decide +kernel)
set_option maxRecDepth 20000 in
theorem gX9_likeliest_X9_layRows : GoodIn wsX9_likeliest (wsV RX9 233 RX9 yX9_layRows wsX9_layRows) := goodIn_app (goodIn_of _ (by decide +kernel)) ggX9_likeliest_X9_layRows
theorem dX9_likeliest_0 : decode cX9_likeliest 0 = .ok (.iload_n 1, 1) := by decide +kernel
theorem dX9_likeliest_1 : decode cX9_likeliest 1 = .ok (.i2l, 1) := by decide +kernel
theorem dX9_likeliest_2 : decode cX9_likeliest 2 = .ok (.lconst 1, 1) := by decide +kernel
theorem dX9_likeliest_3 : decode cX9_likeliest 3 = .ok (.ldc2_w 105, 3) := by decide +kernel
theorem dX9_likeliest_6 : decode cX9_likeliest 6 = .ok (.invokestatic 90, 3) := by decide +kernel
theorem dX9_likeliest_9 : decode cX9_likeliest 9 = .ok (.ifCond .ne 6, 3) := by decide +kernel
theorem dX9_likeliest_12 : decode cX9_likeliest 12 = .ok (.bipush (-2), 2) := by decide +kernel
theorem dX9_likeliest_14 : decode cX9_likeliest 14 = .ok (.ireturn, 1) := by decide +kernel
theorem dX9_likeliest_15 : decode cX9_likeliest 15 = .ok (.aload_n 0, 1) := by decide +kernel
theorem dX9_likeliest_16 : decode cX9_likeliest 16 = .ok (.iload_n 1, 1) := by decide +kernel
theorem dX9_likeliest_17 : decode cX9_likeliest 17 = .ok (.invokevirtual 233, 3) := by decide +kernel
theorem dX9_likeliest_20 : decode cX9_likeliest 20 = .ok (.aload_n 0, 1) := by decide +kernel
theorem dX9_likeliest_21 : decode cX9_likeliest 21 = .ok (.getfield 50, 3) := by decide +kernel
theorem dX9_likeliest_24 : decode cX9_likeliest 24 = .ok (.aload_n 0, 1) := by decide +kernel
theorem dX9_likeliest_25 : decode cX9_likeliest 25 = .ok (.getfield 152, 3) := by decide +kernel
theorem dX9_likeliest_28 : decode cX9_likeliest 28 = .ok (.laload, 1) := by decide +kernel
theorem dX9_likeliest_29 : decode cX9_likeliest 29 = .ok (.lconst 0, 1) := by decide +kernel
theorem dX9_likeliest_30 : decode cX9_likeliest 30 = .ok (.lcmp, 1) := by decide +kernel
theorem dX9_likeliest_31 : decode cX9_likeliest 31 = .ok (.ifCond .ne 6, 3) := by decide +kernel
theorem dX9_likeliest_34 : decode cX9_likeliest 34 = .ok (.bipush (-9), 2) := by decide +kernel
theorem dX9_likeliest_36 : decode cX9_likeliest 36 = .ok (.ireturn, 1) := by decide +kernel
theorem dX9_likeliest_37 : decode cX9_likeliest 37 = .ok (.aload_n 0, 1) := by decide +kernel
theorem dX9_likeliest_38 : decode cX9_likeliest 38 = .ok (.getfield 152, 3) := by decide +kernel
theorem dX9_likeliest_41 : decode cX9_likeliest 41 = .ok (.istore_n 2, 1) := by decide +kernel
theorem dX9_likeliest_42 : decode cX9_likeliest 42 = .ok (.iconst 0, 1) := by decide +kernel
theorem dX9_likeliest_43 : decode cX9_likeliest 43 = .ok (.istore_n 3, 1) := by decide +kernel
theorem dX9_likeliest_44 : decode cX9_likeliest 44 = .ok (.iconst 1, 1) := by decide +kernel
theorem dX9_likeliest_45 : decode cX9_likeliest 45 = .ok (.istore 4, 2) := by decide +kernel
theorem dX9_likeliest_47 : decode cX9_likeliest 47 = .ok (.iload 4, 2) := by decide +kernel
theorem dX9_likeliest_49 : decode cX9_likeliest 49 = .ok (.iload_n 1, 1) := by decide +kernel
theorem dX9_likeliest_50 : decode cX9_likeliest 50 = .ok (.if_icmp .gt 75, 3) := by decide +kernel
theorem dX9_likeliest_53 : decode cX9_likeliest 53 = .ok (.iconst 0, 1) := by decide +kernel
theorem dX9_likeliest_54 : decode cX9_likeliest 54 = .ok (.istore 5, 2) := by decide +kernel
theorem dX9_likeliest_56 : decode cX9_likeliest 56 = .ok (.aload_n 0, 1) := by decide +kernel
theorem dX9_likeliest_57 : decode cX9_likeliest 57 = .ok (.getfield 13, 3) := by decide +kernel
theorem dX9_likeliest_60 : decode cX9_likeliest 60 = .ok (.bipush 8, 2) := by decide +kernel
theorem dX9_likeliest_62 : decode cX9_likeliest 62 = .ok (.iload_n 2, 1) := by decide +kernel
theorem dX9_likeliest_63 : decode cX9_likeliest 63 = .ok (.imul, 1) := by decide +kernel
theorem dX9_likeliest_64 : decode cX9_likeliest 64 = .ok (.iload 5, 2) := by decide +kernel
theorem dX9_likeliest_66 : decode cX9_likeliest 66 = .ok (.iadd, 1) := by decide +kernel
theorem dX9_likeliest_67 : decode cX9_likeliest 67 = .ok (.iaload, 1) := by decide +kernel
theorem dX9_likeliest_68 : decode cX9_likeliest 68 = .ok (.i2l, 1) := by decide +kernel
theorem dX9_likeliest_69 : decode cX9_likeliest 69 = .ok (.aload_n 0, 1) := by decide +kernel
theorem dX9_likeliest_70 : decode cX9_likeliest 70 = .ok (.getfield 50, 3) := by decide +kernel
theorem dX9_likeliest_73 : decode cX9_likeliest 73 = .ok (.bipush 8, 2) := by decide +kernel
theorem dX9_likeliest_75 : decode cX9_likeliest 75 = .ok (.iload 4, 2) := by decide +kernel
theorem dX9_likeliest_77 : decode cX9_likeliest 77 = .ok (.imul, 1) := by decide +kernel
theorem dX9_likeliest_78 : decode cX9_likeliest 78 = .ok (.iload 5, 2) := by decide +kernel
theorem dX9_likeliest_80 : decode cX9_likeliest 80 = .ok (.iadd, 1) := by decide +kernel
theorem dX9_likeliest_81 : decode cX9_likeliest 81 = .ok (.laload, 1) := by decide +kernel
theorem dX9_likeliest_82 : decode cX9_likeliest 82 = .ok (.lmul, 1) := by decide +kernel
theorem dX9_likeliest_83 : decode cX9_likeliest 83 = .ok (.aload_n 0, 1) := by decide +kernel
theorem dX9_likeliest_84 : decode cX9_likeliest 84 = .ok (.getfield 50, 3) := by decide +kernel
theorem dX9_likeliest_87 : decode cX9_likeliest 87 = .ok (.bipush 8, 2) := by decide +kernel
theorem dX9_likeliest_89 : decode cX9_likeliest 89 = .ok (.iload 4, 2) := by decide +kernel
theorem dX9_likeliest_91 : decode cX9_likeliest 91 = .ok (.imul, 1) := by decide +kernel
theorem dX9_likeliest_92 : decode cX9_likeliest 92 = .ok (.bipush 8, 2) := by decide +kernel
theorem dX9_likeliest_94 : decode cX9_likeliest 94 = .ok (.isub, 1) := by decide +kernel
theorem dX9_likeliest_95 : decode cX9_likeliest 95 = .ok (.iload_n 2, 1) := by decide +kernel
theorem dX9_likeliest_96 : decode cX9_likeliest 96 = .ok (.iadd, 1) := by decide +kernel
theorem dX9_likeliest_97 : decode cX9_likeliest 97 = .ok (.laload, 1) := by decide +kernel
theorem dX9_likeliest_98 : decode cX9_likeliest 98 = .ok (.lcmp, 1) := by decide +kernel
theorem dX9_likeliest_99 : decode cX9_likeliest 99 = .ok (.ifCond .eq 9, 3) := by decide +kernel
theorem dX9_likeliest_102 : decode cX9_likeliest 102 = .ok (.iinc 5 1, 3) := by decide +kernel
theorem dX9_likeliest_105 : decode cX9_likeliest 105 = .ok (.goto (-49), 3) := by decide +kernel
theorem dX9_likeliest_108 : decode cX9_likeliest 108 = .ok (.bipush 10, 2) := by decide +kernel
theorem dX9_likeliest_110 : decode cX9_likeliest 110 = .ok (.iload_n 3, 1) := by decide +kernel
theorem dX9_likeliest_111 : decode cX9_likeliest 111 = .ok (.imul, 1) := by decide +kernel
theorem dX9_likeliest_112 : decode cX9_likeliest 112 = .ok (.iload 5, 2) := by decide +kernel
theorem dX9_likeliest_114 : decode cX9_likeliest 114 = .ok (.iadd, 1) := by decide +kernel
theorem dX9_likeliest_115 : decode cX9_likeliest 115 = .ok (.istore_n 3, 1) := by decide +kernel
theorem dX9_likeliest_116 : decode cX9_likeliest 116 = .ok (.iload 5, 2) := by decide +kernel
theorem dX9_likeliest_118 : decode cX9_likeliest 118 = .ok (.istore_n 2, 1) := by decide +kernel
theorem dX9_likeliest_119 : decode cX9_likeliest 119 = .ok (.iinc 4 1, 3) := by decide +kernel
theorem dX9_likeliest_122 : decode cX9_likeliest 122 = .ok (.goto (-75), 3) := by decide +kernel
theorem dX9_likeliest_125 : decode cX9_likeliest 125 = .ok (.iload_n 3, 1) := by decide +kernel
theorem dX9_likeliest_126 : decode cX9_likeliest 126 = .ok (.ireturn, 1) := by decide +kernel
theorem dX9_rule_0 : decode cX9_rule 0 = .ok (.iconst 0, 1) := by decide +kernel
theorem dX9_rule_1 : decode cX9_rule 1 = .ok (.istore_n 1, 1) := by decide +kernel
theorem dX9_rule_2 : decode cX9_rule 2 = .ok (.iload_n 1, 1) := by decide +kernel
theorem dX9_rule_3 : decode cX9_rule 3 = .ok (.bipush 8, 2) := by decide +kernel
theorem dX9_rule_5 : decode cX9_rule 5 = .ok (.if_icmp .ge 28, 3) := by decide +kernel
theorem dX9_rule_8 : decode cX9_rule 8 = .ok (.aload_n 0, 1) := by decide +kernel
theorem dX9_rule_9 : decode cX9_rule 9 = .ok (.getfield 53, 3) := by decide +kernel
theorem dX9_rule_12 : decode cX9_rule 12 = .ok (.iload_n 1, 1) := by decide +kernel
theorem dX9_rule_13 : decode cX9_rule 13 = .ok (.iload_n 1, 1) := by decide +kernel
theorem dX9_rule_14 : decode cX9_rule 14 = .ok (.aload_n 0, 1) := by decide +kernel
theorem dX9_rule_15 : decode cX9_rule 15 = .ok (.getfield 152, 3) := by decide +kernel
theorem dX9_rule_18 : decode cX9_rule 18 = .ok (.if_icmp .ne 7, 3) := by decide +kernel
theorem dX9_rule_21 : decode cX9_rule 21 = .ok (.iconst 1, 1) := by decide +kernel
theorem dX9_rule_22 : decode cX9_rule 22 = .ok (.goto 4, 3) := by decide +kernel
theorem dX9_rule_25 : decode cX9_rule 25 = .ok (.iconst 0, 1) := by decide +kernel
theorem dX9_rule_26 : decode cX9_rule 26 = .ok (.iastore, 1) := by decide +kernel
theorem dX9_rule_27 : decode cX9_rule 27 = .ok (.iinc 1 1, 3) := by decide +kernel
theorem dX9_rule_30 : decode cX9_rule 30 = .ok (.goto (-28), 3) := by decide +kernel
theorem dX9_rule_33 : decode cX9_rule 33 = .ok (.aload_n 0, 1) := by decide +kernel
theorem dX9_rule_34 : decode cX9_rule 34 = .ok (.getfield 152, 3) := by decide +kernel
theorem dX9_rule_37 : decode cX9_rule 37 = .ok (.istore_n 1, 1) := by decide +kernel
theorem dX9_rule_38 : decode cX9_rule 38 = .ok (.iconst 1, 1) := by decide +kernel
theorem dX9_rule_39 : decode cX9_rule 39 = .ok (.aload_n 0, 1) := by decide +kernel
theorem dX9_rule_40 : decode cX9_rule 40 = .ok (.getfield 152, 3) := by decide +kernel
theorem dX9_rule_43 : decode cX9_rule 43 = .ok (.ishl, 1) := by decide +kernel
theorem dX9_rule_44 : decode cX9_rule 44 = .ok (.istore_n 2, 1) := by decide +kernel
theorem dX9_rule_45 : decode cX9_rule 45 = .ok (.iconst 0, 1) := by decide +kernel
theorem dX9_rule_46 : decode cX9_rule 46 = .ok (.istore_n 3, 1) := by decide +kernel
theorem dX9_rule_47 : decode cX9_rule 47 = .ok (.iload_n 2, 1) := by decide +kernel
theorem dX9_rule_48 : decode cX9_rule 48 = .ok (.iconst 1, 1) := by decide +kernel
theorem dX9_rule_49 : decode cX9_rule 49 = .ok (.aload_n 0, 1) := by decide +kernel
theorem dX9_rule_50 : decode cX9_rule 50 = .ok (.getfield 78, 3) := by decide +kernel
theorem dX9_rule_53 : decode cX9_rule 53 = .ok (.ishl, 1) := by decide +kernel
theorem dX9_rule_54 : decode cX9_rule 54 = .ok (.iconst 1, 1) := by decide +kernel
theorem dX9_rule_55 : decode cX9_rule 55 = .ok (.isub, 1) := by decide +kernel
theorem dX9_rule_56 : decode cX9_rule 56 = .ok (.if_icmp .eq 104, 3) := by decide +kernel
theorem dX9_rule_59 : decode cX9_rule 59 = .ok (.iload_n 3, 1) := by decide +kernel
theorem dX9_rule_60 : decode cX9_rule 60 = .ok (.bipush 99, 2) := by decide +kernel
theorem dX9_rule_62 : decode cX9_rule 62 = .ok (.if_icmp .ge 98, 3) := by decide +kernel
theorem dX9_rule_65 : decode cX9_rule 65 = .ok (.bipush (-9), 2) := by decide +kernel
theorem dX9_rule_67 : decode cX9_rule 67 = .ok (.istore 4, 2) := by decide +kernel
theorem dX9_rule_69 : decode cX9_rule 69 = .ok (.iconst 0, 1) := by decide +kernel
theorem dX9_rule_70 : decode cX9_rule 70 = .ok (.istore 5, 2) := by decide +kernel
theorem dX9_rule_72 : decode cX9_rule 72 = .ok (.iload 5, 2) := by decide +kernel
theorem dX9_rule_74 : decode cX9_rule 74 = .ok (.aload_n 0, 1) := by decide +kernel
theorem dX9_rule_75 : decode cX9_rule 75 = .ok (.getfield 78, 3) := by decide +kernel
theorem dX9_rule_78 : decode cX9_rule 78 = .ok (.if_icmp .ge 57, 3) := by decide +kernel
theorem dX9_rule_81 : decode cX9_rule 81 = .ok (.aload_n 0, 1) := by decide +kernel
theorem dX9_rule_82 : decode cX9_rule 82 = .ok (.getfield 13, 3) := by decide +kernel
theorem dX9_rule_85 : decode cX9_rule 85 = .ok (.bipush 8, 2) := by decide +kernel
theorem dX9_rule_87 : decode cX9_rule 87 = .ok (.iload_n 1, 1) := by decide +kernel
theorem dX9_rule_88 : decode cX9_rule 88 = .ok (.imul, 1) := by decide +kernel
theorem dX9_rule_89 : decode cX9_rule 89 = .ok (.iload 5, 2) := by decide +kernel
theorem dX9_rule_91 : decode cX9_rule 91 = .ok (.iadd, 1) := by decide +kernel
theorem dX9_rule_92 : decode cX9_rule 92 = .ok (.iaload, 1) := by decide +kernel
theorem dX9_rule_93 : decode cX9_rule 93 = .ok (.ifCond .le 32, 3) := by decide +kernel
theorem dX9_rule_96 : decode cX9_rule 96 = .ok (.iload 4, 2) := by decide +kernel
theorem dX9_rule_98 : decode cX9_rule 98 = .ok (.bipush (-9), 2) := by decide +kernel
theorem dX9_rule_100 : decode cX9_rule 100 = .ok (.if_icmp .eq 20, 3) := by decide +kernel
theorem dX9_rule_103 : decode cX9_rule 103 = .ok (.aload_n 0, 1) := by decide +kernel
theorem dX9_rule_104 : decode cX9_rule 104 = .ok (.getfield 53, 3) := by decide +kernel
theorem dX9_rule_107 : decode cX9_rule 107 = .ok (.iload 5, 2) := by decide +kernel
theorem dX9_rule_109 : decode cX9_rule 109 = .ok (.iaload, 1) := by decide +kernel
theorem dX9_rule_110 : decode cX9_rule 110 = .ok (.aload_n 0, 1) := by decide +kernel
theorem dX9_rule_111 : decode cX9_rule 111 = .ok (.getfield 53, 3) := by decide +kernel
theorem dX9_rule_114 : decode cX9_rule 114 = .ok (.iload 4, 2) := by decide +kernel
theorem dX9_rule_116 : decode cX9_rule 116 = .ok (.iaload, 1) := by decide +kernel
theorem dX9_rule_117 : decode cX9_rule 117 = .ok (.if_icmp .ge 8, 3) := by decide +kernel
theorem dX9_rule_120 : decode cX9_rule 120 = .ok (.iload 5, 2) := by decide +kernel
theorem dX9_rule_122 : decode cX9_rule 122 = .ok (.goto 5, 3) := by decide +kernel
theorem dX9_rule_125 : decode cX9_rule 125 = .ok (.iload 4, 2) := by decide +kernel
theorem dX9_rule_127 : decode cX9_rule 127 = .ok (.istore 4, 2) := by decide +kernel
theorem dX9_rule_129 : decode cX9_rule 129 = .ok (.iinc 5 1, 3) := by decide +kernel
theorem dX9_rule_132 : decode cX9_rule 132 = .ok (.goto (-60), 3) := by decide +kernel
theorem dX9_rule_135 : decode cX9_rule 135 = .ok (.iload 4, 2) := by decide +kernel
theorem dX9_rule_137 : decode cX9_rule 137 = .ok (.istore_n 1, 1) := by decide +kernel
theorem dX9_rule_138 : decode cX9_rule 138 = .ok (.aload_n 0, 1) := by decide +kernel
theorem dX9_rule_139 : decode cX9_rule 139 = .ok (.getfield 53, 3) := by decide +kernel
theorem dX9_rule_142 : decode cX9_rule 142 = .ok (.iload_n 1, 1) := by decide +kernel
theorem dX9_rule_143 : decode cX9_rule 143 = .ok (.dup2, 1) := by decide +kernel
theorem dX9_rule_144 : decode cX9_rule 144 = .ok (.iaload, 1) := by decide +kernel
theorem dX9_rule_145 : decode cX9_rule 145 = .ok (.iconst 1, 1) := by decide +kernel
theorem dX9_rule_146 : decode cX9_rule 146 = .ok (.iadd, 1) := by decide +kernel
theorem dX9_rule_147 : decode cX9_rule 147 = .ok (.iastore, 1) := by decide +kernel
theorem dX9_rule_148 : decode cX9_rule 148 = .ok (.iload_n 2, 1) := by decide +kernel
theorem dX9_rule_149 : decode cX9_rule 149 = .ok (.iconst 1, 1) := by decide +kernel
theorem dX9_rule_150 : decode cX9_rule 150 = .ok (.iload_n 1, 1) := by decide +kernel
theorem dX9_rule_151 : decode cX9_rule 151 = .ok (.ishl, 1) := by decide +kernel
theorem dX9_rule_152 : decode cX9_rule 152 = .ok (.ior, 1) := by decide +kernel
theorem dX9_rule_153 : decode cX9_rule 153 = .ok (.istore_n 2, 1) := by decide +kernel
theorem dX9_rule_154 : decode cX9_rule 154 = .ok (.iinc 3 1, 3) := by decide +kernel
theorem dX9_rule_157 : decode cX9_rule 157 = .ok (.goto (-110), 3) := by decide +kernel
theorem dX9_rule_160 : decode cX9_rule 160 = .ok (.iload_n 2, 1) := by decide +kernel
theorem dX9_rule_161 : decode cX9_rule 161 = .ok (.iconst 1, 1) := by decide +kernel
theorem dX9_rule_162 : decode cX9_rule 162 = .ok (.aload_n 0, 1) := by decide +kernel
theorem dX9_rule_163 : decode cX9_rule 163 = .ok (.getfield 78, 3) := by decide +kernel
theorem dX9_rule_166 : decode cX9_rule 166 = .ok (.ishl, 1) := by decide +kernel
theorem dX9_rule_167 : decode cX9_rule 167 = .ok (.iconst 1, 1) := by decide +kernel
theorem dX9_rule_168 : decode cX9_rule 168 = .ok (.isub, 1) := by decide +kernel
theorem dX9_rule_169 : decode cX9_rule 169 = .ok (.if_icmp .ne 7, 3) := by decide +kernel
theorem dX9_rule_172 : decode cX9_rule 172 = .ok (.iload_n 3, 1) := by decide +kernel
theorem dX9_rule_173 : decode cX9_rule 173 = .ok (.goto 5, 3) := by decide +kernel
theorem dX9_rule_176 : decode cX9_rule 176 = .ok (.bipush (-9), 2) := by decide +kernel
theorem dX9_rule_178 : decode cX9_rule 178 = .ok (.ireturn, 1) := by decide +kernel
theorem dX9_seed_0 : decode cX9_seed 0 = .ok (.aload_n 0, 1) := by decide +kernel
theorem dX9_seed_1 : decode cX9_seed 1 = .ok (.getfield 237, 3) := by decide +kernel
theorem dX9_seed_4 : decode cX9_seed 4 = .ok (.lstore_n 3, 1) := by decide +kernel
theorem dX9_seed_5 : decode cX9_seed 5 = .ok (.aload_n 0, 1) := by decide +kernel
theorem dX9_seed_6 : decode cX9_seed 6 = .ok (.lload_n 1, 1) := by decide +kernel
theorem dX9_seed_7 : decode cX9_seed 7 = .ok (.putfield 237, 3) := by decide +kernel
theorem dX9_seed_10 : decode cX9_seed 10 = .ok (.lload_n 3, 1) := by decide +kernel
theorem dX9_seed_11 : decode cX9_seed 11 = .ok (.lreturn, 1) := by decide +kernel
theorem dX9_drawn_0 : decode cX9_drawn 0 = .ok (.aload_n 0, 1) := by decide +kernel
theorem dX9_drawn_1 : decode cX9_drawn 1 = .ok (.getfield 13, 3) := by decide +kernel
theorem dX9_drawn_4 : decode cX9_drawn 4 = .ok (.bipush 9, 2) := by decide +kernel
theorem dX9_drawn_6 : decode cX9_drawn 6 = .ok (.iload_n 1, 1) := by decide +kernel
theorem dX9_drawn_7 : decode cX9_drawn 7 = .ok (.imul, 1) := by decide +kernel
theorem dX9_drawn_8 : decode cX9_drawn 8 = .ok (.iaload, 1) := by decide +kernel
theorem dX9_drawn_9 : decode cX9_drawn 9 = .ok (.bipush 10, 2) := by decide +kernel
theorem dX9_drawn_11 : decode cX9_drawn 11 = .ok (.if_icmp .ne 5, 3) := by decide +kernel
theorem dX9_drawn_14 : decode cX9_drawn 14 = .ok (.iload_n 1, 1) := by decide +kernel
theorem dX9_drawn_15 : decode cX9_drawn 15 = .ok (.ireturn, 1) := by decide +kernel
theorem dX9_drawn_16 : decode cX9_drawn 16 = .ok (.aload_n 0, 1) := by decide +kernel
theorem dX9_drawn_17 : decode cX9_drawn 17 = .ok (.aload_n 0, 1) := by decide +kernel
theorem dX9_drawn_18 : decode cX9_drawn 18 = .ok (.getfield 237, 3) := by decide +kernel
theorem dX9_drawn_21 : decode cX9_drawn 21 = .ok (.ldc2_w 240, 3) := by decide +kernel
theorem dX9_drawn_24 : decode cX9_drawn 24 = .ok (.lmul, 1) := by decide +kernel
theorem dX9_drawn_25 : decode cX9_drawn 25 = .ok (.ldc2_w 242, 3) := by decide +kernel
theorem dX9_drawn_28 : decode cX9_drawn 28 = .ok (.ladd, 1) := by decide +kernel
theorem dX9_drawn_29 : decode cX9_drawn 29 = .ok (.putfield 237, 3) := by decide +kernel
theorem dX9_drawn_32 : decode cX9_drawn 32 = .ok (.aload_n 0, 1) := by decide +kernel
theorem dX9_drawn_33 : decode cX9_drawn 33 = .ok (.getfield 237, 3) := by decide +kernel
theorem dX9_drawn_36 : decode cX9_drawn 36 = .ok (.bipush 33, 2) := by decide +kernel
theorem dX9_drawn_38 : decode cX9_drawn 38 = .ok (.lushr, 1) := by decide +kernel
theorem dX9_drawn_39 : decode cX9_drawn 39 = .ok (.ldc2_w 165, 3) := by decide +kernel
theorem dX9_drawn_42 : decode cX9_drawn 42 = .ok (.lrem, 1) := by decide +kernel
theorem dX9_drawn_43 : decode cX9_drawn 43 = .ok (.l2i, 1) := by decide +kernel
theorem dX9_drawn_44 : decode cX9_drawn 44 = .ok (.istore_n 2, 1) := by decide +kernel
theorem dX9_drawn_45 : decode cX9_drawn 45 = .ok (.iconst 0, 1) := by decide +kernel
theorem dX9_drawn_46 : decode cX9_drawn 46 = .ok (.istore_n 3, 1) := by decide +kernel
theorem dX9_drawn_47 : decode cX9_drawn 47 = .ok (.iload_n 2, 1) := by decide +kernel
theorem dX9_drawn_48 : decode cX9_drawn 48 = .ok (.aload_n 0, 1) := by decide +kernel
theorem dX9_drawn_49 : decode cX9_drawn 49 = .ok (.getfield 13, 3) := by decide +kernel
theorem dX9_drawn_52 : decode cX9_drawn 52 = .ok (.bipush 8, 2) := by decide +kernel
theorem dX9_drawn_54 : decode cX9_drawn 54 = .ok (.iload_n 1, 1) := by decide +kernel
theorem dX9_drawn_55 : decode cX9_drawn 55 = .ok (.imul, 1) := by decide +kernel
theorem dX9_drawn_56 : decode cX9_drawn 56 = .ok (.iload_n 3, 1) := by decide +kernel
theorem dX9_drawn_57 : decode cX9_drawn 57 = .ok (.iadd, 1) := by decide +kernel
theorem dX9_drawn_58 : decode cX9_drawn 58 = .ok (.iaload, 1) := by decide +kernel
theorem dX9_drawn_59 : decode cX9_drawn 59 = .ok (.if_icmp .lt 23, 3) := by decide +kernel
theorem dX9_drawn_62 : decode cX9_drawn 62 = .ok (.iload_n 2, 1) := by decide +kernel
theorem dX9_drawn_63 : decode cX9_drawn 63 = .ok (.aload_n 0, 1) := by decide +kernel
theorem dX9_drawn_64 : decode cX9_drawn 64 = .ok (.getfield 13, 3) := by decide +kernel
theorem dX9_drawn_67 : decode cX9_drawn 67 = .ok (.bipush 8, 2) := by decide +kernel
theorem dX9_drawn_69 : decode cX9_drawn 69 = .ok (.iload_n 1, 1) := by decide +kernel
theorem dX9_drawn_70 : decode cX9_drawn 70 = .ok (.imul, 1) := by decide +kernel
theorem dX9_drawn_71 : decode cX9_drawn 71 = .ok (.iload_n 3, 1) := by decide +kernel
theorem dX9_drawn_72 : decode cX9_drawn 72 = .ok (.iadd, 1) := by decide +kernel
theorem dX9_drawn_73 : decode cX9_drawn 73 = .ok (.iaload, 1) := by decide +kernel
theorem dX9_drawn_74 : decode cX9_drawn 74 = .ok (.isub, 1) := by decide +kernel
theorem dX9_drawn_75 : decode cX9_drawn 75 = .ok (.istore_n 2, 1) := by decide +kernel
theorem dX9_drawn_76 : decode cX9_drawn 76 = .ok (.iinc 3 1, 3) := by decide +kernel
theorem dX9_drawn_79 : decode cX9_drawn 79 = .ok (.goto (-32), 3) := by decide +kernel
theorem dX9_drawn_82 : decode cX9_drawn 82 = .ok (.iload_n 3, 1) := by decide +kernel
theorem dX9_drawn_83 : decode cX9_drawn 83 = .ok (.ireturn, 1) := by decide +kernel
set_option maxRecDepth 20000 in
theorem ggX9_goOut_X9_drawn : GoodIn wsX9_goOut wsX9_drawn := goodIn_r _ [7, 8, 9, 10, 11, 12, 13, 14, 15, 16, 17, 18, 19, 20, 21, 22, 23, 24, 25, 26, 27, 28, 29, 30, 31, 32, 33, 34, 35, 36, 37, 38, 39, 40, 41, 42, 43, 44, 45, 46, 47, 48, 49, 50, 51] (by decide +kernel) (by decide +kernel)
set_option maxRecDepth 20000 in
theorem gX9_goOut_X9_drawn : GoodIn wsX9_goOut (wsV RX9 244 RX9 yX9_drawn wsX9_drawn) := goodIn_app (goodIn_of _ (by decide +kernel)) ggX9_goOut_X9_drawn
theorem dX9_goOut_0 : decode cX9_goOut 0 = .ok (.aload_n 0, 1) := by decide +kernel
theorem dX9_goOut_1 : decode cX9_goOut 1 = .ok (.getfield 152, 3) := by decide +kernel
theorem dX9_goOut_4 : decode cX9_goOut 4 = .ok (.istore_n 1, 1) := by decide +kernel
theorem dX9_goOut_5 : decode cX9_goOut 5 = .ok (.iconst 1, 1) := by decide +kernel
theorem dX9_goOut_6 : decode cX9_goOut 6 = .ok (.aload_n 0, 1) := by decide +kernel
theorem dX9_goOut_7 : decode cX9_goOut 7 = .ok (.getfield 152, 3) := by decide +kernel
theorem dX9_goOut_10 : decode cX9_goOut 10 = .ok (.ishl, 1) := by decide +kernel
theorem dX9_goOut_11 : decode cX9_goOut 11 = .ok (.istore_n 2, 1) := by decide +kernel
theorem dX9_goOut_12 : decode cX9_goOut 12 = .ok (.iconst 1, 1) := by decide +kernel
theorem dX9_goOut_13 : decode cX9_goOut 13 = .ok (.istore_n 3, 1) := by decide +kernel
theorem dX9_goOut_14 : decode cX9_goOut 14 = .ok (.iload_n 3, 1) := by decide +kernel
theorem dX9_goOut_15 : decode cX9_goOut 15 = .ok (.sipush 200, 3) := by decide +kernel
theorem dX9_goOut_18 : decode cX9_goOut 18 = .ok (.if_icmp .gt 40, 3) := by decide +kernel
theorem dX9_goOut_21 : decode cX9_goOut 21 = .ok (.aload_n 0, 1) := by decide +kernel
theorem dX9_goOut_22 : decode cX9_goOut 22 = .ok (.iload_n 1, 1) := by decide +kernel
theorem dX9_goOut_23 : decode cX9_goOut 23 = .ok (.invokevirtual 244, 3) := by decide +kernel
theorem dX9_goOut_26 : decode cX9_goOut 26 = .ok (.istore_n 1, 1) := by decide +kernel
theorem dX9_goOut_27 : decode cX9_goOut 27 = .ok (.iload_n 2, 1) := by decide +kernel
theorem dX9_goOut_28 : decode cX9_goOut 28 = .ok (.iconst 1, 1) := by decide +kernel
theorem dX9_goOut_29 : decode cX9_goOut 29 = .ok (.iload_n 1, 1) := by decide +kernel
theorem dX9_goOut_30 : decode cX9_goOut 30 = .ok (.ishl, 1) := by decide +kernel
theorem dX9_goOut_31 : decode cX9_goOut 31 = .ok (.ior, 1) := by decide +kernel
theorem dX9_goOut_32 : decode cX9_goOut 32 = .ok (.istore_n 2, 1) := by decide +kernel
theorem dX9_goOut_33 : decode cX9_goOut 33 = .ok (.iload_n 2, 1) := by decide +kernel
theorem dX9_goOut_34 : decode cX9_goOut 34 = .ok (.iconst 1, 1) := by decide +kernel
theorem dX9_goOut_35 : decode cX9_goOut 35 = .ok (.aload_n 0, 1) := by decide +kernel
theorem dX9_goOut_36 : decode cX9_goOut 36 = .ok (.getfield 78, 3) := by decide +kernel
theorem dX9_goOut_39 : decode cX9_goOut 39 = .ok (.ishl, 1) := by decide +kernel
theorem dX9_goOut_40 : decode cX9_goOut 40 = .ok (.iconst 1, 1) := by decide +kernel
theorem dX9_goOut_41 : decode cX9_goOut 41 = .ok (.isub, 1) := by decide +kernel
theorem dX9_goOut_42 : decode cX9_goOut 42 = .ok (.if_icmp .ne 10, 3) := by decide +kernel
theorem dX9_goOut_45 : decode cX9_goOut 45 = .ok (.bipush 10, 2) := by decide +kernel
theorem dX9_goOut_47 : decode cX9_goOut 47 = .ok (.iload_n 3, 1) := by decide +kernel
theorem dX9_goOut_48 : decode cX9_goOut 48 = .ok (.imul, 1) := by decide +kernel
theorem dX9_goOut_49 : decode cX9_goOut 49 = .ok (.iload_n 1, 1) := by decide +kernel
theorem dX9_goOut_50 : decode cX9_goOut 50 = .ok (.iadd, 1) := by decide +kernel
theorem dX9_goOut_51 : decode cX9_goOut 51 = .ok (.ireturn, 1) := by decide +kernel
theorem dX9_goOut_52 : decode cX9_goOut 52 = .ok (.iinc 3 1, 3) := by decide +kernel
theorem dX9_goOut_55 : decode cX9_goOut 55 = .ok (.goto (-41), 3) := by decide +kernel
theorem dX9_goOut_58 : decode cX9_goOut 58 = .ok (.bipush (-9), 2) := by decide +kernel
theorem dX9_goOut_60 : decode cX9_goOut 60 = .ok (.ireturn, 1) := by decide +kernel
set_option maxRecDepth 20000 in
theorem ggX9_evening_X9_goOut : GoodIn wsX9_evening wsX9_goOut := goodIn_r _ [5, 6, 7, 8, 9, 10, 4, 11, 12, 13, 14, 15, 16, 17, 18, 19, 20, 21, 22, 23, 24, 25, 26, 27, 28, 29, 30, 31, 32, 33, 34, 35, 36, 37, 38, 39, 40, 41, 42, 43, 44, 45, 46, 47, 48, 49, 50, 51, 52, 53, 54, 55] (by decide +kernel) (by decide +kernel)
set_option maxRecDepth 20000 in
theorem gX9_evening_X9_goOut : GoodIn wsX9_evening (wsV RX9 247 RX9 yX9_goOut wsX9_goOut) := goodIn_app (goodIn_of _ (by decide +kernel)) ggX9_evening_X9_goOut
theorem dX9_evening_0 : decode cX9_evening 0 = .ok (.aload_n 0, 1) := by decide +kernel
theorem dX9_evening_1 : decode cX9_evening 1 = .ok (.invokevirtual 247, 3) := by decide +kernel
theorem dX9_evening_4 : decode cX9_evening 4 = .ok (.ireturn, 1) := by decide +kernel
set_option maxRecDepth 20000 in
theorem ggX9_uncle_X9_isSeat : GoodIn wsX9_uncle wsX9_isSeat := goodIn_r _ [6, 7, 8, 9, 5, 10, 25, 26, 27, 28, 29, 30, 31, 32, 33, 34, 35, 36, 37, 38, 39, 40, 41, 42, 43, 44, 45, 46, 47, 48, 49, 50, 51, 52, 53, 54, 55, 56, 57, 58, 59, 60, 61, 62, 63] (by decide +kernel) (by decide +kernel)
set_option maxRecDepth 20000 in
theorem gX9_uncle_X9_isSeat : GoodIn wsX9_uncle (wsV RX9 161 RX9 yX9_isSeat wsX9_isSeat) := goodIn_app (goodIn_of _ (by decide +kernel)) ggX9_uncle_X9_isSeat
set_option maxRecDepth 20000 in
theorem ggX9_uncle_X9_in : GoodIn wsX9_uncle wsX9_in := goodIn_r _ [10] (by decide +kernel) (by decide +kernel)
set_option maxRecDepth 20000 in
theorem gX9_uncle_X9_in : GoodIn wsX9_uncle (va_wsS RX9 90 yX9_in wsX9_in) := goodIn_app (goodIn_of _ (by decide +kernel)) ggX9_uncle_X9_in
set_option maxRecDepth 20000 in
theorem ggX9_uncle_X9_goOut : GoodIn wsX9_uncle wsX9_goOut := goodIn_r _ [14, 15, 7, 16, 17, 18, 5, 19, 20, 21, 22, 23, 24, 25, 26, 27, 28, 29, 30, 31, 32, 33, 34, 35, 36, 37, 38, 39, 40, 41, 42, 43, 44, 45, 46, 47, 48, 49, 50, 51, 52, 53, 54, 55, 56, 57, 58, 59, 60, 61, 62, 63] (by decide +kernel) (by decide +kernel)
set_option maxRecDepth 20000 in
theorem gX9_uncle_X9_goOut : GoodIn wsX9_uncle (wsV RX9 247 RX9 yX9_goOut wsX9_goOut) := goodIn_app (goodIn_of _ (by decide +kernel)) ggX9_uncle_X9_goOut
theorem dX9_uncle_0 : decode cX9_uncle 0 = .ok (.aload_n 0, 1) := by decide +kernel
theorem dX9_uncle_1 : decode cX9_uncle 1 = .ok (.iload_n 2, 1) := by decide +kernel
theorem dX9_uncle_2 : decode cX9_uncle 2 = .ok (.invokevirtual 161, 3) := by decide +kernel
theorem dX9_uncle_5 : decode cX9_uncle 5 = .ok (.ifCond .ne 5, 3) := by decide +kernel
theorem dX9_uncle_8 : decode cX9_uncle 8 = .ok (.iconst (-1), 1) := by decide +kernel
theorem dX9_uncle_9 : decode cX9_uncle 9 = .ok (.ireturn, 1) := by decide +kernel
theorem dX9_uncle_10 : decode cX9_uncle 10 = .ok (.iload_n 1, 1) := by decide +kernel
theorem dX9_uncle_11 : decode cX9_uncle 11 = .ok (.i2l, 1) := by decide +kernel
theorem dX9_uncle_12 : decode cX9_uncle 12 = .ok (.lconst 1, 1) := by decide +kernel
theorem dX9_uncle_13 : decode cX9_uncle 13 = .ok (.ldc2_w 250, 3) := by decide +kernel
theorem dX9_uncle_16 : decode cX9_uncle 16 = .ok (.invokestatic 90, 3) := by decide +kernel
theorem dX9_uncle_19 : decode cX9_uncle 19 = .ok (.ifCond .ne 6, 3) := by decide +kernel
theorem dX9_uncle_22 : decode cX9_uncle 22 = .ok (.bipush (-2), 2) := by decide +kernel
theorem dX9_uncle_24 : decode cX9_uncle 24 = .ok (.ireturn, 1) := by decide +kernel
theorem dX9_uncle_25 : decode cX9_uncle 25 = .ok (.iconst 0, 1) := by decide +kernel
theorem dX9_uncle_26 : decode cX9_uncle 26 = .ok (.istore_n 3, 1) := by decide +kernel
theorem dX9_uncle_27 : decode cX9_uncle 27 = .ok (.iconst 0, 1) := by decide +kernel
theorem dX9_uncle_28 : decode cX9_uncle 28 = .ok (.istore 4, 2) := by decide +kernel
theorem dX9_uncle_30 : decode cX9_uncle 30 = .ok (.iload 4, 2) := by decide +kernel
theorem dX9_uncle_32 : decode cX9_uncle 32 = .ok (.iload_n 1, 1) := by decide +kernel
theorem dX9_uncle_33 : decode cX9_uncle 33 = .ok (.if_icmp .ge 39, 3) := by decide +kernel
theorem dX9_uncle_36 : decode cX9_uncle 36 = .ok (.aload_n 0, 1) := by decide +kernel
theorem dX9_uncle_37 : decode cX9_uncle 37 = .ok (.invokevirtual 247, 3) := by decide +kernel
theorem dX9_uncle_40 : decode cX9_uncle 40 = .ok (.istore 5, 2) := by decide +kernel
theorem dX9_uncle_42 : decode cX9_uncle 42 = .ok (.iload_n 3, 1) := by decide +kernel
theorem dX9_uncle_43 : decode cX9_uncle 43 = .ok (.iload 5, 2) := by decide +kernel
theorem dX9_uncle_45 : decode cX9_uncle 45 = .ok (.bipush (-9), 2) := by decide +kernel
theorem dX9_uncle_47 : decode cX9_uncle 47 = .ok (.if_icmp .eq 16, 3) := by decide +kernel
theorem dX9_uncle_50 : decode cX9_uncle 50 = .ok (.iload 5, 2) := by decide +kernel
theorem dX9_uncle_52 : decode cX9_uncle 52 = .ok (.bipush 10, 2) := by decide +kernel
theorem dX9_uncle_54 : decode cX9_uncle 54 = .ok (.irem, 1) := by decide +kernel
theorem dX9_uncle_55 : decode cX9_uncle 55 = .ok (.iload_n 2, 1) := by decide +kernel
theorem dX9_uncle_56 : decode cX9_uncle 56 = .ok (.if_icmp .ne 7, 3) := by decide +kernel
theorem dX9_uncle_59 : decode cX9_uncle 59 = .ok (.iconst 1, 1) := by decide +kernel
theorem dX9_uncle_60 : decode cX9_uncle 60 = .ok (.goto 4, 3) := by decide +kernel
theorem dX9_uncle_63 : decode cX9_uncle 63 = .ok (.iconst 0, 1) := by decide +kernel
theorem dX9_uncle_64 : decode cX9_uncle 64 = .ok (.iadd, 1) := by decide +kernel
theorem dX9_uncle_65 : decode cX9_uncle 65 = .ok (.istore_n 3, 1) := by decide +kernel
theorem dX9_uncle_66 : decode cX9_uncle 66 = .ok (.iinc 4 1, 3) := by decide +kernel
theorem dX9_uncle_69 : decode cX9_uncle 69 = .ok (.goto (-39), 3) := by decide +kernel
theorem dX9_uncle_72 : decode cX9_uncle 72 = .ok (.iload_n 3, 1) := by decide +kernel
theorem dX9_uncle_73 : decode cX9_uncle 73 = .ok (.ireturn, 1) := by decide +kernel
set_option maxRecDepth 20000 in
theorem ggX9_keep_X9_in : GoodIn wsX9_keep wsX9_in := goodIn_r _ [21] (by decide +kernel) (by decide +kernel)
set_option maxRecDepth 20000 in
theorem gX9_keep_X9_in : GoodIn wsX9_keep (va_wsS RX9 90 yX9_in wsX9_in) := goodIn_app (goodIn_of _ (by decide +kernel)) ggX9_keep_X9_in
theorem dX9_keep_0 : decode cX9_keep 0 = .ok (.iload_n 1, 1) := by decide +kernel
theorem dX9_keep_1 : decode cX9_keep 1 = .ok (.i2l, 1) := by decide +kernel
theorem dX9_keep_2 : decode cX9_keep 2 = .ok (.lconst 0, 1) := by decide +kernel
theorem dX9_keep_3 : decode cX9_keep 3 = .ok (.lconst 1, 1) := by decide +kernel
theorem dX9_keep_4 : decode cX9_keep 4 = .ok (.invokestatic 90, 3) := by decide +kernel
theorem dX9_keep_7 : decode cX9_keep 7 = .ok (.ifCond .ne 5, 3) := by decide +kernel
theorem dX9_keep_10 : decode cX9_keep 10 = .ok (.iconst (-1), 1) := by decide +kernel
theorem dX9_keep_11 : decode cX9_keep 11 = .ok (.ireturn, 1) := by decide +kernel
theorem dX9_keep_12 : decode cX9_keep 12 = .ok (.aload_n 0, 1) := by decide +kernel
theorem dX9_keep_13 : decode cX9_keep 13 = .ok (.getfield 56, 3) := by decide +kernel
theorem dX9_keep_16 : decode cX9_keep 16 = .ok (.iload_n 1, 1) := by decide +kernel
theorem dX9_keep_17 : decode cX9_keep 17 = .ok (.iconst 1, 1) := by decide +kernel
theorem dX9_keep_18 : decode cX9_keep 18 = .ok (.bastore, 1) := by decide +kernel
theorem dX9_keep_19 : decode cX9_keep 19 = .ok (.iconst 0, 1) := by decide +kernel
theorem dX9_keep_20 : decode cX9_keep 20 = .ok (.istore_n 2, 1) := by decide +kernel
theorem dX9_keep_21 : decode cX9_keep 21 = .ok (.iload_n 2, 1) := by decide +kernel
theorem dX9_keep_22 : decode cX9_keep 22 = .ok (.bipush 30, 2) := by decide +kernel
theorem dX9_keep_24 : decode cX9_keep 24 = .ok (.if_icmp .ge 43, 3) := by decide +kernel
theorem dX9_keep_27 : decode cX9_keep 27 = .ok (.aload_n 0, 1) := by decide +kernel
theorem dX9_keep_28 : decode cX9_keep 28 = .ok (.getfield 60, 3) := by decide +kernel
theorem dX9_keep_31 : decode cX9_keep 31 = .ok (.bipush 30, 2) := by decide +kernel
theorem dX9_keep_33 : decode cX9_keep 33 = .ok (.iload_n 1, 1) := by decide +kernel
theorem dX9_keep_34 : decode cX9_keep 34 = .ok (.imul, 1) := by decide +kernel
theorem dX9_keep_35 : decode cX9_keep 35 = .ok (.iload_n 2, 1) := by decide +kernel
theorem dX9_keep_36 : decode cX9_keep 36 = .ok (.iadd, 1) := by decide +kernel
theorem dX9_keep_37 : decode cX9_keep 37 = .ok (.aload_n 0, 1) := by decide +kernel
theorem dX9_keep_38 : decode cX9_keep 38 = .ok (.getfield 19, 3) := by decide +kernel
theorem dX9_keep_41 : decode cX9_keep 41 = .ok (.iload_n 2, 1) := by decide +kernel
theorem dX9_keep_42 : decode cX9_keep 42 = .ok (.iaload, 1) := by decide +kernel
theorem dX9_keep_43 : decode cX9_keep 43 = .ok (.iastore, 1) := by decide +kernel
theorem dX9_keep_44 : decode cX9_keep 44 = .ok (.aload_n 0, 1) := by decide +kernel
theorem dX9_keep_45 : decode cX9_keep 45 = .ok (.getfield 63, 3) := by decide +kernel
theorem dX9_keep_48 : decode cX9_keep 48 = .ok (.bipush 30, 2) := by decide +kernel
theorem dX9_keep_50 : decode cX9_keep 50 = .ok (.iload_n 1, 1) := by decide +kernel
theorem dX9_keep_51 : decode cX9_keep 51 = .ok (.imul, 1) := by decide +kernel
theorem dX9_keep_52 : decode cX9_keep 52 = .ok (.iload_n 2, 1) := by decide +kernel
theorem dX9_keep_53 : decode cX9_keep 53 = .ok (.iadd, 1) := by decide +kernel
theorem dX9_keep_54 : decode cX9_keep 54 = .ok (.aload_n 0, 1) := by decide +kernel
theorem dX9_keep_55 : decode cX9_keep 55 = .ok (.getfield 22, 3) := by decide +kernel
theorem dX9_keep_58 : decode cX9_keep 58 = .ok (.iload_n 2, 1) := by decide +kernel
theorem dX9_keep_59 : decode cX9_keep 59 = .ok (.iaload, 1) := by decide +kernel
theorem dX9_keep_60 : decode cX9_keep 60 = .ok (.iastore, 1) := by decide +kernel
theorem dX9_keep_61 : decode cX9_keep 61 = .ok (.iinc 2 1, 3) := by decide +kernel
theorem dX9_keep_64 : decode cX9_keep 64 = .ok (.goto (-43), 3) := by decide +kernel
theorem dX9_keep_67 : decode cX9_keep 67 = .ok (.iconst 0, 1) := by decide +kernel
theorem dX9_keep_68 : decode cX9_keep 68 = .ok (.istore_n 2, 1) := by decide +kernel
theorem dX9_keep_69 : decode cX9_keep 69 = .ok (.iload_n 2, 1) := by decide +kernel
theorem dX9_keep_70 : decode cX9_keep 70 = .ok (.bipush 8, 2) := by decide +kernel
theorem dX9_keep_72 : decode cX9_keep 72 = .ok (.if_icmp .ge 43, 3) := by decide +kernel
theorem dX9_keep_75 : decode cX9_keep 75 = .ok (.aload_n 0, 1) := by decide +kernel
theorem dX9_keep_76 : decode cX9_keep 76 = .ok (.getfield 66, 3) := by decide +kernel
theorem dX9_keep_79 : decode cX9_keep 79 = .ok (.bipush 8, 2) := by decide +kernel
theorem dX9_keep_81 : decode cX9_keep 81 = .ok (.iload_n 1, 1) := by decide +kernel
theorem dX9_keep_82 : decode cX9_keep 82 = .ok (.imul, 1) := by decide +kernel
theorem dX9_keep_83 : decode cX9_keep 83 = .ok (.iload_n 2, 1) := by decide +kernel
theorem dX9_keep_84 : decode cX9_keep 84 = .ok (.iadd, 1) := by decide +kernel
theorem dX9_keep_85 : decode cX9_keep 85 = .ok (.aload_n 0, 1) := by decide +kernel
theorem dX9_keep_86 : decode cX9_keep 86 = .ok (.getfield 41, 3) := by decide +kernel
theorem dX9_keep_89 : decode cX9_keep 89 = .ok (.iload_n 2, 1) := by decide +kernel
theorem dX9_keep_90 : decode cX9_keep 90 = .ok (.iaload, 1) := by decide +kernel
theorem dX9_keep_91 : decode cX9_keep 91 = .ok (.iastore, 1) := by decide +kernel
theorem dX9_keep_92 : decode cX9_keep 92 = .ok (.aload_n 0, 1) := by decide +kernel
theorem dX9_keep_93 : decode cX9_keep 93 = .ok (.getfield 69, 3) := by decide +kernel
theorem dX9_keep_96 : decode cX9_keep 96 = .ok (.bipush 8, 2) := by decide +kernel
theorem dX9_keep_98 : decode cX9_keep 98 = .ok (.iload_n 1, 1) := by decide +kernel
theorem dX9_keep_99 : decode cX9_keep 99 = .ok (.imul, 1) := by decide +kernel
theorem dX9_keep_100 : decode cX9_keep 100 = .ok (.iload_n 2, 1) := by decide +kernel
theorem dX9_keep_101 : decode cX9_keep 101 = .ok (.iadd, 1) := by decide +kernel
theorem dX9_keep_102 : decode cX9_keep 102 = .ok (.aload_n 0, 1) := by decide +kernel
theorem dX9_keep_103 : decode cX9_keep 103 = .ok (.getfield 44, 3) := by decide +kernel
theorem dX9_keep_106 : decode cX9_keep 106 = .ok (.iload_n 2, 1) := by decide +kernel
theorem dX9_keep_107 : decode cX9_keep 107 = .ok (.iaload, 1) := by decide +kernel
theorem dX9_keep_108 : decode cX9_keep 108 = .ok (.iastore, 1) := by decide +kernel
theorem dX9_keep_109 : decode cX9_keep 109 = .ok (.iinc 2 1, 3) := by decide +kernel
theorem dX9_keep_112 : decode cX9_keep 112 = .ok (.goto (-43), 3) := by decide +kernel
theorem dX9_keep_115 : decode cX9_keep 115 = .ok (.aload_n 0, 1) := by decide +kernel
theorem dX9_keep_116 : decode cX9_keep 116 = .ok (.getfield 72, 3) := by decide +kernel
theorem dX9_keep_119 : decode cX9_keep 119 = .ok (.iconst 5, 1) := by decide +kernel
theorem dX9_keep_120 : decode cX9_keep 120 = .ok (.iload_n 1, 1) := by decide +kernel
theorem dX9_keep_121 : decode cX9_keep 121 = .ok (.imul, 1) := by decide +kernel
theorem dX9_keep_122 : decode cX9_keep 122 = .ok (.aload_n 0, 1) := by decide +kernel
theorem dX9_keep_123 : decode cX9_keep 123 = .ok (.getfield 152, 3) := by decide +kernel
theorem dX9_keep_126 : decode cX9_keep 126 = .ok (.iastore, 1) := by decide +kernel
theorem dX9_keep_127 : decode cX9_keep 127 = .ok (.aload_n 0, 1) := by decide +kernel
theorem dX9_keep_128 : decode cX9_keep 128 = .ok (.getfield 72, 3) := by decide +kernel
theorem dX9_keep_131 : decode cX9_keep 131 = .ok (.iconst 5, 1) := by decide +kernel
theorem dX9_keep_132 : decode cX9_keep 132 = .ok (.iload_n 1, 1) := by decide +kernel
theorem dX9_keep_133 : decode cX9_keep 133 = .ok (.imul, 1) := by decide +kernel
theorem dX9_keep_134 : decode cX9_keep 134 = .ok (.iconst 1, 1) := by decide +kernel
theorem dX9_keep_135 : decode cX9_keep 135 = .ok (.iadd, 1) := by decide +kernel
theorem dX9_keep_136 : decode cX9_keep 136 = .ok (.aload_n 0, 1) := by decide +kernel
theorem dX9_keep_137 : decode cX9_keep 137 = .ok (.getfield 149, 3) := by decide +kernel
theorem dX9_keep_140 : decode cX9_keep 140 = .ok (.iastore, 1) := by decide +kernel
theorem dX9_keep_141 : decode cX9_keep 141 = .ok (.aload_n 0, 1) := by decide +kernel
theorem dX9_keep_142 : decode cX9_keep 142 = .ok (.getfield 72, 3) := by decide +kernel
theorem dX9_keep_145 : decode cX9_keep 145 = .ok (.iconst 5, 1) := by decide +kernel
theorem dX9_keep_146 : decode cX9_keep 146 = .ok (.iload_n 1, 1) := by decide +kernel
theorem dX9_keep_147 : decode cX9_keep 147 = .ok (.imul, 1) := by decide +kernel
theorem dX9_keep_148 : decode cX9_keep 148 = .ok (.iconst 2, 1) := by decide +kernel
theorem dX9_keep_149 : decode cX9_keep 149 = .ok (.iadd, 1) := by decide +kernel
theorem dX9_keep_150 : decode cX9_keep 150 = .ok (.aload_n 0, 1) := by decide +kernel
theorem dX9_keep_151 : decode cX9_keep 151 = .ok (.getfield 85, 3) := by decide +kernel
theorem dX9_keep_154 : decode cX9_keep 154 = .ok (.iastore, 1) := by decide +kernel
theorem dX9_keep_155 : decode cX9_keep 155 = .ok (.aload_n 0, 1) := by decide +kernel
theorem dX9_keep_156 : decode cX9_keep 156 = .ok (.getfield 72, 3) := by decide +kernel
theorem dX9_keep_159 : decode cX9_keep 159 = .ok (.iconst 5, 1) := by decide +kernel
theorem dX9_keep_160 : decode cX9_keep 160 = .ok (.iload_n 1, 1) := by decide +kernel
theorem dX9_keep_161 : decode cX9_keep 161 = .ok (.imul, 1) := by decide +kernel
theorem dX9_keep_162 : decode cX9_keep 162 = .ok (.iconst 3, 1) := by decide +kernel
theorem dX9_keep_163 : decode cX9_keep 163 = .ok (.iadd, 1) := by decide +kernel
theorem dX9_keep_164 : decode cX9_keep 164 = .ok (.aload_n 0, 1) := by decide +kernel
theorem dX9_keep_165 : decode cX9_keep 165 = .ok (.getfield 155, 3) := by decide +kernel
theorem dX9_keep_168 : decode cX9_keep 168 = .ok (.iastore, 1) := by decide +kernel
theorem dX9_keep_169 : decode cX9_keep 169 = .ok (.aload_n 0, 1) := by decide +kernel
theorem dX9_keep_170 : decode cX9_keep 170 = .ok (.getfield 72, 3) := by decide +kernel
theorem dX9_keep_173 : decode cX9_keep 173 = .ok (.iconst 5, 1) := by decide +kernel
theorem dX9_keep_174 : decode cX9_keep 174 = .ok (.iload_n 1, 1) := by decide +kernel
theorem dX9_keep_175 : decode cX9_keep 175 = .ok (.imul, 1) := by decide +kernel
theorem dX9_keep_176 : decode cX9_keep 176 = .ok (.iconst 4, 1) := by decide +kernel
theorem dX9_keep_177 : decode cX9_keep 177 = .ok (.iadd, 1) := by decide +kernel
theorem dX9_keep_178 : decode cX9_keep 178 = .ok (.aload_n 0, 1) := by decide +kernel
theorem dX9_keep_179 : decode cX9_keep 179 = .ok (.getfield 158, 3) := by decide +kernel
theorem dX9_keep_182 : decode cX9_keep 182 = .ok (.iastore, 1) := by decide +kernel
theorem dX9_keep_183 : decode cX9_keep 183 = .ok (.aload_n 0, 1) := by decide +kernel
theorem dX9_keep_184 : decode cX9_keep 184 = .ok (.getfield 75, 3) := by decide +kernel
theorem dX9_keep_187 : decode cX9_keep 187 = .ok (.iload_n 1, 1) := by decide +kernel
theorem dX9_keep_188 : decode cX9_keep 188 = .ok (.aload_n 0, 1) := by decide +kernel
theorem dX9_keep_189 : decode cX9_keep 189 = .ok (.getfield 237, 3) := by decide +kernel
theorem dX9_keep_192 : decode cX9_keep 192 = .ok (.lastore, 1) := by decide +kernel
theorem dX9_keep_193 : decode cX9_keep 193 = .ok (.aload_n 0, 1) := by decide +kernel
theorem dX9_keep_194 : decode cX9_keep 194 = .ok (.getfield 155, 3) := by decide +kernel
theorem dX9_keep_197 : decode cX9_keep 197 = .ok (.ireturn, 1) := by decide +kernel
set_option maxRecDepth 20000 in
theorem ggX9_again_X9_in : GoodIn wsX9_again wsX9_in := goodIn_r _ [21] (by decide +kernel) (by decide +kernel)
set_option maxRecDepth 20000 in
theorem gX9_again_X9_in : GoodIn wsX9_again (va_wsS RX9 90 yX9_in wsX9_in) := goodIn_app (goodIn_of _ (by decide +kernel)) ggX9_again_X9_in
theorem dX9_again_0 : decode cX9_again 0 = .ok (.iload_n 1, 1) := by decide +kernel
theorem dX9_again_1 : decode cX9_again 1 = .ok (.i2l, 1) := by decide +kernel
theorem dX9_again_2 : decode cX9_again 2 = .ok (.lconst 0, 1) := by decide +kernel
theorem dX9_again_3 : decode cX9_again 3 = .ok (.lconst 1, 1) := by decide +kernel
theorem dX9_again_4 : decode cX9_again 4 = .ok (.invokestatic 90, 3) := by decide +kernel
theorem dX9_again_7 : decode cX9_again 7 = .ok (.ifCond .ne 5, 3) := by decide +kernel
theorem dX9_again_10 : decode cX9_again 10 = .ok (.iconst (-1), 1) := by decide +kernel
theorem dX9_again_11 : decode cX9_again 11 = .ok (.ireturn, 1) := by decide +kernel
theorem dX9_again_12 : decode cX9_again 12 = .ok (.aload_n 0, 1) := by decide +kernel
theorem dX9_again_13 : decode cX9_again 13 = .ok (.getfield 56, 3) := by decide +kernel
theorem dX9_again_16 : decode cX9_again 16 = .ok (.iload_n 1, 1) := by decide +kernel
theorem dX9_again_17 : decode cX9_again 17 = .ok (.baload, 1) := by decide +kernel
theorem dX9_again_18 : decode cX9_again 18 = .ok (.ifCond .ne 6, 3) := by decide +kernel
theorem dX9_again_21 : decode cX9_again 21 = .ok (.bipush (-3), 2) := by decide +kernel
theorem dX9_again_23 : decode cX9_again 23 = .ok (.ireturn, 1) := by decide +kernel
theorem dX9_again_24 : decode cX9_again 24 = .ok (.iconst 0, 1) := by decide +kernel
theorem dX9_again_25 : decode cX9_again 25 = .ok (.istore_n 2, 1) := by decide +kernel
theorem dX9_again_26 : decode cX9_again 26 = .ok (.iload_n 2, 1) := by decide +kernel
theorem dX9_again_27 : decode cX9_again 27 = .ok (.bipush 30, 2) := by decide +kernel
theorem dX9_again_29 : decode cX9_again 29 = .ok (.if_icmp .ge 43, 3) := by decide +kernel
theorem dX9_again_32 : decode cX9_again 32 = .ok (.aload_n 0, 1) := by decide +kernel
theorem dX9_again_33 : decode cX9_again 33 = .ok (.getfield 19, 3) := by decide +kernel
theorem dX9_again_36 : decode cX9_again 36 = .ok (.iload_n 2, 1) := by decide +kernel
theorem dX9_again_37 : decode cX9_again 37 = .ok (.aload_n 0, 1) := by decide +kernel
theorem dX9_again_38 : decode cX9_again 38 = .ok (.getfield 60, 3) := by decide +kernel
theorem dX9_again_41 : decode cX9_again 41 = .ok (.bipush 30, 2) := by decide +kernel
theorem dX9_again_43 : decode cX9_again 43 = .ok (.iload_n 1, 1) := by decide +kernel
theorem dX9_again_44 : decode cX9_again 44 = .ok (.imul, 1) := by decide +kernel
theorem dX9_again_45 : decode cX9_again 45 = .ok (.iload_n 2, 1) := by decide +kernel
theorem dX9_again_46 : decode cX9_again 46 = .ok (.iadd, 1) := by decide +kernel
theorem dX9_again_47 : decode cX9_again 47 = .ok (.iaload, 1) := by decide +kernel
theorem dX9_again_48 : decode cX9_again 48 = .ok (.iastore, 1) := by decide +kernel
theorem dX9_again_49 : decode cX9_again 49 = .ok (.aload_n 0, 1) := by decide +kernel
theorem dX9_again_50 : decode cX9_again 50 = .ok (.getfield 22, 3) := by decide +kernel
theorem dX9_again_53 : decode cX9_again 53 = .ok (.iload_n 2, 1) := by decide +kernel
theorem dX9_again_54 : decode cX9_again 54 = .ok (.aload_n 0, 1) := by decide +kernel
theorem dX9_again_55 : decode cX9_again 55 = .ok (.getfield 63, 3) := by decide +kernel
theorem dX9_again_58 : decode cX9_again 58 = .ok (.bipush 30, 2) := by decide +kernel
theorem dX9_again_60 : decode cX9_again 60 = .ok (.iload_n 1, 1) := by decide +kernel
theorem dX9_again_61 : decode cX9_again 61 = .ok (.imul, 1) := by decide +kernel
theorem dX9_again_62 : decode cX9_again 62 = .ok (.iload_n 2, 1) := by decide +kernel
theorem dX9_again_63 : decode cX9_again 63 = .ok (.iadd, 1) := by decide +kernel
theorem dX9_again_64 : decode cX9_again 64 = .ok (.iaload, 1) := by decide +kernel
theorem dX9_again_65 : decode cX9_again 65 = .ok (.iastore, 1) := by decide +kernel
theorem dX9_again_66 : decode cX9_again 66 = .ok (.iinc 2 1, 3) := by decide +kernel
theorem dX9_again_69 : decode cX9_again 69 = .ok (.goto (-43), 3) := by decide +kernel
theorem dX9_again_72 : decode cX9_again 72 = .ok (.iconst 0, 1) := by decide +kernel
theorem dX9_again_73 : decode cX9_again 73 = .ok (.istore_n 2, 1) := by decide +kernel
theorem dX9_again_74 : decode cX9_again 74 = .ok (.iload_n 2, 1) := by decide +kernel
theorem dX9_again_75 : decode cX9_again 75 = .ok (.bipush 8, 2) := by decide +kernel
theorem dX9_again_77 : decode cX9_again 77 = .ok (.if_icmp .ge 43, 3) := by decide +kernel
theorem dX9_again_80 : decode cX9_again 80 = .ok (.aload_n 0, 1) := by decide +kernel
theorem dX9_again_81 : decode cX9_again 81 = .ok (.getfield 41, 3) := by decide +kernel
theorem dX9_again_84 : decode cX9_again 84 = .ok (.iload_n 2, 1) := by decide +kernel
theorem dX9_again_85 : decode cX9_again 85 = .ok (.aload_n 0, 1) := by decide +kernel
theorem dX9_again_86 : decode cX9_again 86 = .ok (.getfield 66, 3) := by decide +kernel
theorem dX9_again_89 : decode cX9_again 89 = .ok (.bipush 8, 2) := by decide +kernel
theorem dX9_again_91 : decode cX9_again 91 = .ok (.iload_n 1, 1) := by decide +kernel
theorem dX9_again_92 : decode cX9_again 92 = .ok (.imul, 1) := by decide +kernel
theorem dX9_again_93 : decode cX9_again 93 = .ok (.iload_n 2, 1) := by decide +kernel
theorem dX9_again_94 : decode cX9_again 94 = .ok (.iadd, 1) := by decide +kernel
theorem dX9_again_95 : decode cX9_again 95 = .ok (.iaload, 1) := by decide +kernel
theorem dX9_again_96 : decode cX9_again 96 = .ok (.iastore, 1) := by decide +kernel
theorem dX9_again_97 : decode cX9_again 97 = .ok (.aload_n 0, 1) := by decide +kernel
theorem dX9_again_98 : decode cX9_again 98 = .ok (.getfield 44, 3) := by decide +kernel
theorem dX9_again_101 : decode cX9_again 101 = .ok (.iload_n 2, 1) := by decide +kernel
theorem dX9_again_102 : decode cX9_again 102 = .ok (.aload_n 0, 1) := by decide +kernel
theorem dX9_again_103 : decode cX9_again 103 = .ok (.getfield 69, 3) := by decide +kernel
theorem dX9_again_106 : decode cX9_again 106 = .ok (.bipush 8, 2) := by decide +kernel
theorem dX9_again_108 : decode cX9_again 108 = .ok (.iload_n 1, 1) := by decide +kernel
theorem dX9_again_109 : decode cX9_again 109 = .ok (.imul, 1) := by decide +kernel
theorem dX9_again_110 : decode cX9_again 110 = .ok (.iload_n 2, 1) := by decide +kernel
theorem dX9_again_111 : decode cX9_again 111 = .ok (.iadd, 1) := by decide +kernel
theorem dX9_again_112 : decode cX9_again 112 = .ok (.iaload, 1) := by decide +kernel
theorem dX9_again_113 : decode cX9_again 113 = .ok (.iastore, 1) := by decide +kernel
theorem dX9_again_114 : decode cX9_again 114 = .ok (.iinc 2 1, 3) := by decide +kernel
theorem dX9_again_117 : decode cX9_again 117 = .ok (.goto (-43), 3) := by decide +kernel
theorem dX9_again_120 : decode cX9_again 120 = .ok (.aload_n 0, 1) := by decide +kernel
theorem dX9_again_121 : decode cX9_again 121 = .ok (.aload_n 0, 1) := by decide +kernel
theorem dX9_again_122 : decode cX9_again 122 = .ok (.getfield 72, 3) := by decide +kernel
theorem dX9_again_125 : decode cX9_again 125 = .ok (.iconst 5, 1) := by decide +kernel
theorem dX9_again_126 : decode cX9_again 126 = .ok (.iload_n 1, 1) := by decide +kernel
theorem dX9_again_127 : decode cX9_again 127 = .ok (.imul, 1) := by decide +kernel
theorem dX9_again_128 : decode cX9_again 128 = .ok (.iaload, 1) := by decide +kernel
theorem dX9_again_129 : decode cX9_again 129 = .ok (.putfield 152, 3) := by decide +kernel
theorem dX9_again_132 : decode cX9_again 132 = .ok (.aload_n 0, 1) := by decide +kernel
theorem dX9_again_133 : decode cX9_again 133 = .ok (.aload_n 0, 1) := by decide +kernel
theorem dX9_again_134 : decode cX9_again 134 = .ok (.getfield 72, 3) := by decide +kernel
theorem dX9_again_137 : decode cX9_again 137 = .ok (.iconst 5, 1) := by decide +kernel
theorem dX9_again_138 : decode cX9_again 138 = .ok (.iload_n 1, 1) := by decide +kernel
theorem dX9_again_139 : decode cX9_again 139 = .ok (.imul, 1) := by decide +kernel
theorem dX9_again_140 : decode cX9_again 140 = .ok (.iconst 1, 1) := by decide +kernel
theorem dX9_again_141 : decode cX9_again 141 = .ok (.iadd, 1) := by decide +kernel
theorem dX9_again_142 : decode cX9_again 142 = .ok (.iaload, 1) := by decide +kernel
theorem dX9_again_143 : decode cX9_again 143 = .ok (.putfield 149, 3) := by decide +kernel
theorem dX9_again_146 : decode cX9_again 146 = .ok (.aload_n 0, 1) := by decide +kernel
theorem dX9_again_147 : decode cX9_again 147 = .ok (.aload_n 0, 1) := by decide +kernel
theorem dX9_again_148 : decode cX9_again 148 = .ok (.getfield 72, 3) := by decide +kernel
theorem dX9_again_151 : decode cX9_again 151 = .ok (.iconst 5, 1) := by decide +kernel
theorem dX9_again_152 : decode cX9_again 152 = .ok (.iload_n 1, 1) := by decide +kernel
theorem dX9_again_153 : decode cX9_again 153 = .ok (.imul, 1) := by decide +kernel
theorem dX9_again_154 : decode cX9_again 154 = .ok (.iconst 2, 1) := by decide +kernel
theorem dX9_again_155 : decode cX9_again 155 = .ok (.iadd, 1) := by decide +kernel
theorem dX9_again_156 : decode cX9_again 156 = .ok (.iaload, 1) := by decide +kernel
theorem dX9_again_157 : decode cX9_again 157 = .ok (.putfield 85, 3) := by decide +kernel
theorem dX9_again_160 : decode cX9_again 160 = .ok (.aload_n 0, 1) := by decide +kernel
theorem dX9_again_161 : decode cX9_again 161 = .ok (.aload_n 0, 1) := by decide +kernel
theorem dX9_again_162 : decode cX9_again 162 = .ok (.getfield 72, 3) := by decide +kernel
theorem dX9_again_165 : decode cX9_again 165 = .ok (.iconst 5, 1) := by decide +kernel
theorem dX9_again_166 : decode cX9_again 166 = .ok (.iload_n 1, 1) := by decide +kernel
theorem dX9_again_167 : decode cX9_again 167 = .ok (.imul, 1) := by decide +kernel
theorem dX9_again_168 : decode cX9_again 168 = .ok (.iconst 3, 1) := by decide +kernel
theorem dX9_again_169 : decode cX9_again 169 = .ok (.iadd, 1) := by decide +kernel
theorem dX9_again_170 : decode cX9_again 170 = .ok (.iaload, 1) := by decide +kernel
theorem dX9_again_171 : decode cX9_again 171 = .ok (.putfield 155, 3) := by decide +kernel
theorem dX9_again_174 : decode cX9_again 174 = .ok (.aload_n 0, 1) := by decide +kernel
theorem dX9_again_175 : decode cX9_again 175 = .ok (.aload_n 0, 1) := by decide +kernel
theorem dX9_again_176 : decode cX9_again 176 = .ok (.getfield 72, 3) := by decide +kernel
theorem dX9_again_179 : decode cX9_again 179 = .ok (.iconst 5, 1) := by decide +kernel
theorem dX9_again_180 : decode cX9_again 180 = .ok (.iload_n 1, 1) := by decide +kernel
theorem dX9_again_181 : decode cX9_again 181 = .ok (.imul, 1) := by decide +kernel
theorem dX9_again_182 : decode cX9_again 182 = .ok (.iconst 4, 1) := by decide +kernel
theorem dX9_again_183 : decode cX9_again 183 = .ok (.iadd, 1) := by decide +kernel
theorem dX9_again_184 : decode cX9_again 184 = .ok (.iaload, 1) := by decide +kernel
theorem dX9_again_185 : decode cX9_again 185 = .ok (.putfield 158, 3) := by decide +kernel
theorem dX9_again_188 : decode cX9_again 188 = .ok (.aload_n 0, 1) := by decide +kernel
theorem dX9_again_189 : decode cX9_again 189 = .ok (.aload_n 0, 1) := by decide +kernel
theorem dX9_again_190 : decode cX9_again 190 = .ok (.getfield 75, 3) := by decide +kernel
theorem dX9_again_193 : decode cX9_again 193 = .ok (.iload_n 1, 1) := by decide +kernel
theorem dX9_again_194 : decode cX9_again 194 = .ok (.laload, 1) := by decide +kernel
theorem dX9_again_195 : decode cX9_again 195 = .ok (.putfield 237, 3) := by decide +kernel
theorem dX9_again_198 : decode cX9_again 198 = .ok (.aload_n 0, 1) := by decide +kernel
theorem dX9_again_199 : decode cX9_again 199 = .ok (.getfield 155, 3) := by decide +kernel
theorem dX9_again_202 : decode cX9_again 202 = .ok (.ireturn, 1) := by decide +kernel
theorem dX9_count_0 : decode cX9_count 0 = .ok (.iload_n 1, 1) := by decide +kernel
theorem dX9_count_1 : decode cX9_count 1 = .ok (.tableswitch 87 0 7 #[47, 52, 57, 62, 67, 72, 77, 82], 47) := by decide +kernel
theorem dX9_count_48 : decode cX9_count 48 = .ok (.aload_n 0, 1) := by decide +kernel
theorem dX9_count_49 : decode cX9_count 49 = .ok (.getfield 94, 3) := by decide +kernel
theorem dX9_count_52 : decode cX9_count 52 = .ok (.ireturn, 1) := by decide +kernel
theorem dX9_count_53 : decode cX9_count 53 = .ok (.aload_n 0, 1) := by decide +kernel
theorem dX9_count_54 : decode cX9_count 54 = .ok (.getfield 78, 3) := by decide +kernel
theorem dX9_count_57 : decode cX9_count 57 = .ok (.ireturn, 1) := by decide +kernel
theorem dX9_count_58 : decode cX9_count 58 = .ok (.aload_n 0, 1) := by decide +kernel
theorem dX9_count_59 : decode cX9_count 59 = .ok (.getfield 152, 3) := by decide +kernel
theorem dX9_count_62 : decode cX9_count 62 = .ok (.ireturn, 1) := by decide +kernel
theorem dX9_count_63 : decode cX9_count 63 = .ok (.aload_n 0, 1) := by decide +kernel
theorem dX9_count_64 : decode cX9_count 64 = .ok (.getfield 149, 3) := by decide +kernel
theorem dX9_count_67 : decode cX9_count 67 = .ok (.ireturn, 1) := by decide +kernel
theorem dX9_count_68 : decode cX9_count 68 = .ok (.aload_n 0, 1) := by decide +kernel
theorem dX9_count_69 : decode cX9_count 69 = .ok (.getfield 85, 3) := by decide +kernel
theorem dX9_count_72 : decode cX9_count 72 = .ok (.ireturn, 1) := by decide +kernel
theorem dX9_count_73 : decode cX9_count 73 = .ok (.aload_n 0, 1) := by decide +kernel
theorem dX9_count_74 : decode cX9_count 74 = .ok (.getfield 155, 3) := by decide +kernel
theorem dX9_count_77 : decode cX9_count 77 = .ok (.ireturn, 1) := by decide +kernel
theorem dX9_count_78 : decode cX9_count 78 = .ok (.aload_n 0, 1) := by decide +kernel
theorem dX9_count_79 : decode cX9_count 79 = .ok (.getfield 158, 3) := by decide +kernel
theorem dX9_count_82 : decode cX9_count 82 = .ok (.ireturn, 1) := by decide +kernel
theorem dX9_count_83 : decode cX9_count 83 = .ok (.aload_n 0, 1) := by decide +kernel
theorem dX9_count_84 : decode cX9_count 84 = .ok (.getfield 140, 3) := by decide +kernel
theorem dX9_count_87 : decode cX9_count 87 = .ok (.ireturn, 1) := by decide +kernel
theorem dX9_count_88 : decode cX9_count 88 = .ok (.bipush (-2), 2) := by decide +kernel
theorem dX9_count_90 : decode cX9_count 90 = .ok (.ireturn, 1) := by decide +kernel
theorem dJ9_max_f86c9_0 : decode cJ9_max_f86c9 0 = .ok (.lload_n 0, 1) := by decide +kernel
theorem dJ9_max_f86c9_1 : decode cJ9_max_f86c9 1 = .ok (.lload_n 2, 1) := by decide +kernel
theorem dJ9_max_f86c9_2 : decode cJ9_max_f86c9 2 = .ok (.lcmp, 1) := by decide +kernel
theorem dJ9_max_f86c9_3 : decode cJ9_max_f86c9 3 = .ok (.ifCond .lt 7, 3) := by decide +kernel
theorem dJ9_max_f86c9_6 : decode cJ9_max_f86c9 6 = .ok (.lload_n 0, 1) := by decide +kernel
theorem dJ9_max_f86c9_7 : decode cJ9_max_f86c9 7 = .ok (.goto 4, 3) := by decide +kernel
theorem dJ9_max_f86c9_10 : decode cJ9_max_f86c9 10 = .ok (.lload_n 2, 1) := by decide +kernel
theorem dJ9_max_f86c9_11 : decode cJ9_max_f86c9 11 = .ok (.lreturn, 1) := by decide +kernel
abbrev vwCl : List vw_C := [(RX0, TX0, 3), (RX1, TX1, 1), (RX2, TX2, 5), (RX3, TX3, 6), (RX4, TX4, 10), (RX5, TX5, 1), (RX6, TX6, 3), (RX7, TX7, 2), (RX8, TX8, 9), (RX9, TX9, 39)]
