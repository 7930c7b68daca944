theorem dX9_at_11 : decode cX9_at 11 = .ok (.lreturn, 1) := by decide +kernel
theorem dX9_at_12 : decode cX9_at 12 = .ok (.iload_n 1, 1) := by decide +kernel
theorem dX9_at_13 : decode cX9_at 13 = .ok (.i2l, 1) := by decide +kernel
theorem dX9_at_14 : decode cX9_at 14 = .ok (.lconst 0, 1) := by decide +kernel
theorem dX9_at_15 : decode cX9_at 15 = .ok (.ldc2_w 169, 3) := by decide +kernel
theorem dX9_at_18 : decode cX9_at 18 = .ok (.invokestatic 90, 3) := by decide +kernel
theorem dX9_at_21 : decode cX9_at 21 = .ok (.ifCond .ne 7, 3) := by decide +kernel
theorem dX9_at_24 : decode cX9_at 24 = .ok (.ldc2_w 171, 3) := by decide +kernel
theorem dX9_at_27 : decode cX9_at 27 = .ok (.lreturn, 1) := by decide +kernel
theorem dX9_at_28 : decode cX9_at 28 = .ok (.aload_n 0, 1) := by decide +kernel
theorem dX9_at_29 : decode cX9_at 29 = .ok (.iload_n 1, 1) := by decide +kernel
theorem dX9_at_30 : decode cX9_at 30 = .ok (.aload_n 0, 1) := by decide +kernel
theorem dX9_at_31 : decode cX9_at 31 = .ok (.getfield 149, 3) := by decide +kernel
theorem dX9_at_34 : decode cX9_at 34 = .ok (.aload_n 0, 1) := by decide +kernel
theorem dX9_at_35 : decode cX9_at 35 = .ok (.getfield 85, 3) := by decide +kernel
theorem dX9_at_38 : decode cX9_at 38 = .ok (.invokevirtual 173, 3) := by decide +kernel
theorem dX9_at_41 : decode cX9_at 41 = .ok (.lconst 0, 1) := by decide +kernel
theorem dX9_at_42 : decode cX9_at 42 = .ok (.lstore 4, 2) := by decide +kernel
theorem dX9_at_44 : decode cX9_at 44 = .ok (.iconst 0, 1) := by decide +kernel
theorem dX9_at_45 : decode cX9_at 45 = .ok (.istore 6, 2) := by decide +kernel
theorem dX9_at_47 : decode cX9_at 47 = .ok (.iload 6, 2) := by decide +kernel
theorem dX9_at_49 : decode cX9_at 49 = .ok (.sipush 256, 3) := by decide +kernel
theorem dX9_at_52 : decode cX9_at 52 = .ok (.if_icmp .ge 26, 3) := by decide +kernel
theorem dX9_at_55 : decode cX9_at 55 = .ok (.lload 4, 2) := by decide +kernel
theorem dX9_at_57 : decode cX9_at 57 = .ok (.aload_n 0, 1) := by decide +kernel
theorem dX9_at_58 : decode cX9_at 58 = .ok (.getfield 25, 3) := by decide +kernel
theorem dX9_at_61 : decode cX9_at 61 = .ok (.bipush 8, 2) := by decide +kernel
theorem dX9_at_63 : decode cX9_at 63 = .ok (.iload 6, 2) := by decide +kernel
theorem dX9_at_65 : decode cX9_at 65 = .ok (.imul, 1) := by decide +kernel
theorem dX9_at_66 : decode cX9_at 66 = .ok (.iload_n 2, 1) := by decide +kernel
theorem dX9_at_67 : decode cX9_at 67 = .ok (.iadd, 1) := by decide +kernel
theorem dX9_at_68 : decode cX9_at 68 = .ok (.laload, 1) := by decide +kernel
theorem dX9_at_69 : decode cX9_at 69 = .ok (.ladd, 1) := by decide +kernel
theorem dX9_at_70 : decode cX9_at 70 = .ok (.lstore 4, 2) := by decide +kernel
theorem dX9_at_72 : decode cX9_at 72 = .ok (.iinc 6 1, 3) := by decide +kernel
theorem dX9_at_75 : decode cX9_at 75 = .ok (.goto (-28), 3) := by decide +kernel
theorem dX9_at_78 : decode cX9_at 78 = .ok (.lload 4, 2) := by decide +kernel
theorem dX9_at_80 : decode cX9_at 80 = .ok (.bipush 10, 2) := by decide +kernel
theorem dX9_at_82 : decode cX9_at 82 = .ok (.iload_n 1, 1) := by decide +kernel
theorem dX9_at_83 : decode cX9_at 83 = .ok (.invokestatic 177, 3) := by decide +kernel
theorem dX9_at_86 : decode cX9_at 86 = .ok (.iload_n 3, 1) := by decide +kernel
theorem dX9_at_87 : decode cX9_at 87 = .ok (.invokestatic 181, 3) := by decide +kernel
theorem dX9_at_90 : decode cX9_at 90 = .ok (.lreturn, 1) := by decide +kernel
set_option maxRecDepth 20000 in
theorem ggX9_all_X9_in : GoodIn wsX9_all wsX9_in := goodIn_r _ [10] (by decide +kernel) (by decide +kernel)
set_option maxRecDepth 20000 in
theorem gX9_all_X9_in : GoodIn wsX9_all (va_wsS RX9 90 yX9_in wsX9_in) := goodIn_app (goodIn_of _ (by decide +kernel)) ggX9_all_X9_in
set_option maxRecDepth 20000 in
theorem ggX9_all_X9_lay : GoodIn wsX9_all wsX9_lay := goodIn_r _ [14, 5, 6, 15, 16, 17, 18, 25, 26, 27, 28, 29, 30, 31, 32, 33, 34, 35, 36, 37, 38, 39, 40, 41, 42, 43, 44, 45, 46, 47, 48, 49, 50, 51, 52, 53, 54, 55, 56, 57, 58, 59, 60, 61, 62, 63] (by decide +kernel) (by decide +kernel)
set_option maxRecDepth 20000 in
theorem gX9_all_X9_lay : GoodIn wsX9_all (wsV RX9 173 RX9 yX9_lay wsX9_lay) := goodIn_app (goodIn_of _ (by decide +kernel)) ggX9_all_X9_lay
set_option maxRecDepth 20000 in
theorem ggX9_all_X9_power : GoodIn wsX9_all wsX9_power := goodIn_r _ [21] (by decide +kernel) (by decide +kernel)
set_option maxRecDepth 20000 in
theorem gX9_all_X9_power : GoodIn wsX9_all (va_wsS RX9 177 yX9_power wsX9_power) := goodIn_app (goodIn_of _ (by decide +kernel)) ggX9_all_X9_power
set_option maxRecDepth 20000 in
theorem ggX9_all_X9_part : GoodIn wsX9_all wsX9_part := goodIn_r _ [24] (by decide +kernel) (by decide +kernel)
set_option maxRecDepth 20000 in
theorem gX9_all_X9_part : GoodIn wsX9_all (va_wsS RX9 181 yX9_part wsX9_part) := goodIn_app (goodIn_of _ (by decide +kernel)) ggX9_all_X9_part
theorem dX9_all_0 : decode cX9_all 0 = .ok (.iload_n 1, 1) := by decide +kernel
theorem dX9_all_1 : decode cX9_all 1 = .ok (.i2l, 1) := by decide +kernel
theorem dX9_all_2 : decode cX9_all 2 = .ok (.lconst 0, 1) := by decide +kernel
theorem dX9_all_3 : decode cX9_all 3 = .ok (.ldc2_w 169, 3) := by decide +kernel
theorem dX9_all_6 : decode cX9_all 6 = .ok (.invokestatic 90, 3) := by decide +kernel
theorem dX9_all_9 : decode cX9_all 9 = .ok (.ifCond .ne 7, 3) := by decide +kernel
theorem dX9_all_12 : decode cX9_all 12 = .ok (.ldc2_w 171, 3) := by decide +kernel
theorem dX9_all_15 : decode cX9_all 15 = .ok (.lreturn, 1) := by decide +kernel
theorem dX9_all_16 : decode cX9_all 16 = .ok (.aload_n 0, 1) := by decide +kernel
theorem dX9_all_17 : decode cX9_all 17 = .ok (.iload_n 1, 1) := by decide +kernel
theorem dX9_all_18 : decode cX9_all 18 = .ok (.aload_n 0, 1) := by decide +kernel
theorem dX9_all_19 : decode cX9_all 19 = .ok (.getfield 149, 3) := by decide +kernel
theorem dX9_all_22 : decode cX9_all 22 = .ok (.aload_n 0, 1) := by decide +kernel
theorem dX9_all_23 : decode cX9_all 23 = .ok (.getfield 85, 3) := by decide +kernel
theorem dX9_all_26 : decode cX9_all 26 = .ok (.invokevirtual 173, 3) := by decide +kernel
theorem dX9_all_29 : decode cX9_all 29 = .ok (.lconst 0, 1) := by decide +kernel
theorem dX9_all_30 : decode cX9_all 30 = .ok (.lstore_n 3, 1) := by decide +kernel
theorem dX9_all_31 : decode cX9_all 31 = .ok (.iconst 0, 1) := by decide +kernel
theorem dX9_all_32 : decode cX9_all 32 = .ok (.istore 5, 2) := by decide +kernel
theorem dX9_all_34 : decode cX9_all 34 = .ok (.iload 5, 2) := by decide +kernel
theorem dX9_all_36 : decode cX9_all 36 = .ok (.aload_n 0, 1) := by decide +kernel
theorem dX9_all_37 : decode cX9_all 37 = .ok (.getfield 78, 3) := by decide +kernel
theorem dX9_all_40 : decode cX9_all 40 = .ok (.if_icmp .ge 31, 3) := by decide +kernel
theorem dX9_all_43 : decode cX9_all 43 = .ok (.lload_n 3, 1) := by decide +kernel
theorem dX9_all_44 : decode cX9_all 44 = .ok (.aload_n 0, 1) := by decide +kernel
theorem dX9_all_45 : decode cX9_all 45 = .ok (.getfield 25, 3) := by decide +kernel
theorem dX9_all_48 : decode cX9_all 48 = .ok (.bipush 8, 2) := by decide +kernel
theorem dX9_all_50 : decode cX9_all 50 = .ok (.iconst 1, 1) := by decide +kernel
theorem dX9_all_51 : decode cX9_all 51 = .ok (.aload_n 0, 1) := by decide +kernel
theorem dX9_all_52 : decode cX9_all 52 = .ok (.getfield 78, 3) := by decide +kernel
theorem dX9_all_55 : decode cX9_all 55 = .ok (.ishl, 1) := by decide +kernel
theorem dX9_all_56 : decode cX9_all 56 = .ok (.iconst 1, 1) := by decide +kernel
theorem dX9_all_57 : decode cX9_all 57 = .ok (.isub, 1) := by decide +kernel
theorem dX9_all_58 : decode cX9_all 58 = .ok (.imul, 1) := by decide +kernel
theorem dX9_all_59 : decode cX9_all 59 = .ok (.iload 5, 2) := by decide +kernel
theorem dX9_all_61 : decode cX9_all 61 = .ok (.iadd, 1) := by decide +kernel
theorem dX9_all_62 : decode cX9_all 62 = .ok (.laload, 1) := by decide +kernel
theorem dX9_all_63 : decode cX9_all 63 = .ok (.ladd, 1) := by decide +kernel
theorem dX9_all_64 : decode cX9_all 64 = .ok (.lstore_n 3, 1) := by decide +kernel
theorem dX9_all_65 : decode cX9_all 65 = .ok (.iinc 5 1, 3) := by decide +kernel
theorem dX9_all_68 : decode cX9_all 68 = .ok (.goto (-34), 3) := by decide +kernel
theorem dX9_all_71 : decode cX9_all 71 = .ok (.lload_n 3, 1) := by decide +kernel
theorem dX9_all_72 : decode cX9_all 72 = .ok (.bipush 10, 2) := by decide +kernel
theorem dX9_all_74 : decode cX9_all 74 = .ok (.iload_n 1, 1) := by decide +kernel
theorem dX9_all_75 : decode cX9_all 75 = .ok (.invokestatic 177, 3) := by decide +kernel
theorem dX9_all_78 : decode cX9_all 78 = .ok (.iload_n 2, 1) := by decide +kernel
theorem dX9_all_79 : decode cX9_all 79 = .ok (.invokestatic 181, 3) := by decide +kernel
theorem dX9_all_82 : decode cX9_all 82 = .ok (.lreturn, 1) := by decide +kernel
set_option maxRecDepth 20000 in
theorem ggX9_last_X9_isSeat : GoodIn wsX9_last wsX9_isSeat := goodIn_r _ [11, 12, 13, 14, 10, 15, 30, 31, 32, 33, 34, 35, 36, 37, 38, 39, 40, 41, 42, 43, 44, 45, 46, 47, 48, 49, 50, 51, 52, 53, 54, 55, 56, 57, 58, 59, 60, 61, 62, 63, 64, 65, 66, 67, 68] (by decide +kernel) (by decide +kernel)
set_option maxRecDepth 20000 in
theorem gX9_last_X9_isSeat : GoodIn wsX9_last (wsV RX9 161 RX9 yX9_isSeat wsX9_isSeat) := goodIn_app (goodIn_of _ (by decide +kernel)) ggX9_last_X9_isSeat
set_option maxRecDepth 20000 in
theorem ggX9_last_X9_in : GoodIn wsX9_last wsX9_in := goodIn_r _ [15] (by decide +kernel) (by decide +kernel)
set_option maxRecDepth 20000 in
theorem gX9_last_X9_in : GoodIn wsX9_last (va_wsS RX9 90 yX9_in wsX9_in) := goodIn_app (goodIn_of _ (by decide +kernel)) ggX9_last_X9_in
set_option maxRecDepth 20000 in
theorem ggX9_last_X9_lay : GoodIn wsX9_last wsX9_lay := goodIn_r _ [19, 12, 20, 6, 21, 22, 23, 30, 31, 32, 33, 34, 35, 36, 37, 38, 39, 40, 41, 42, 43, 44, 45, 46, 47, 48, 49, 50, 51, 52, 53, 54, 55, 56, 57, 58, 59, 60, 61, 62, 63, 64, 65, 66, 67, 68] (by decide +kernel) (by decide +kernel)
set_option maxRecDepth 20000 in
theorem gX9_last_X9_lay : GoodIn wsX9_last (wsV RX9 173 RX9 yX9_lay wsX9_lay) := goodIn_app (goodIn_of _ (by decide +kernel)) ggX9_last_X9_lay
set_option maxRecDepth 20000 in
theorem ggX9_last_X9_power : GoodIn wsX9_last wsX9_power := goodIn_r _ [26] (by decide +kernel) (by decide +kernel)
set_option maxRecDepth 20000 in
theorem gX9_last_X9_power : GoodIn wsX9_last (va_wsS RX9 177 yX9_power wsX9_power) := goodIn_app (goodIn_of _ (by decide +kernel)) ggX9_last_X9_power
set_option maxRecDepth 20000 in
theorem ggX9_last_X9_part : GoodIn wsX9_last wsX9_part := goodIn_r _ [29] (by decide +kernel) (by decide +kernel)
set_option maxRecDepth 20000 in
theorem gX9_last_X9_part : GoodIn wsX9_last (va_wsS RX9 181 yX9_part wsX9_part) := goodIn_app (goodIn_of _ (by decide +kernel)) ggX9_last_X9_part
theorem dX9_last_0 : decode cX9_last 0 = .ok (.aload_n 0, 1) := by decide +kernel
theorem dX9_last_1 : decode cX9_last 1 = .ok (.iload_n 2, 1) := by decide +kernel
theorem dX9_last_2 : decode cX9_last 2 = .ok (.invokevirtual 161, 3) := by decide +kernel
theorem dX9_last_5 : decode cX9_last 5 = .ok (.ifCond .ne 7, 3) := by decide +kernel
theorem dX9_last_8 : decode cX9_last 8 = .ok (.ldc2_w 167, 3) := by decide +kernel
theorem dX9_last_11 : decode cX9_last 11 = .ok (.lreturn, 1) := by decide +kernel
theorem dX9_last_12 : decode cX9_last 12 = .ok (.iload_n 1, 1) := by decide +kernel
theorem dX9_last_13 : decode cX9_last 13 = .ok (.i2l, 1) := by decide +kernel
theorem dX9_last_14 : decode cX9_last 14 = .ok (.lconst 0, 1) := by decide +kernel
theorem dX9_last_15 : decode cX9_last 15 = .ok (.ldc2_w 169, 3) := by decide +kernel
theorem dX9_last_18 : decode cX9_last 18 = .ok (.invokestatic 90, 3) := by decide +kernel
theorem dX9_last_21 : decode cX9_last 21 = .ok (.ifCond .ne 7, 3) := by decide +kernel
theorem dX9_last_24 : decode cX9_last 24 = .ok (.ldc2_w 171, 3) := by decide +kernel
theorem dX9_last_27 : decode cX9_last 27 = .ok (.lreturn, 1) := by decide +kernel
theorem dX9_last_28 : decode cX9_last 28 = .ok (.aload_n 0, 1) := by decide +kernel
theorem dX9_last_29 : decode cX9_last 29 = .ok (.iload_n 1, 1) := by decide +kernel
theorem dX9_last_30 : decode cX9_last 30 = .ok (.aload_n 0, 1) := by decide +kernel
theorem dX9_last_31 : decode cX9_last 31 = .ok (.getfield 149, 3) := by decide +kernel
theorem dX9_last_34 : decode cX9_last 34 = .ok (.aload_n 0, 1) := by decide +kernel
theorem dX9_last_35 : decode cX9_last 35 = .ok (.getfield 85, 3) := by decide +kernel
theorem dX9_last_38 : decode cX9_last 38 = .ok (.invokevirtual 173, 3) := by decide +kernel
theorem dX9_last_41 : decode cX9_last 41 = .ok (.aload_n 0, 1) := by decide +kernel
theorem dX9_last_42 : decode cX9_last 42 = .ok (.getfield 32, 3) := by decide +kernel
theorem dX9_last_45 : decode cX9_last 45 = .ok (.iload_n 2, 1) := by decide +kernel
theorem dX9_last_46 : decode cX9_last 46 = .ok (.laload, 1) := by decide +kernel
theorem dX9_last_47 : decode cX9_last 47 = .ok (.bipush 10, 2) := by decide +kernel
theorem dX9_last_49 : decode cX9_last 49 = .ok (.iload_n 1, 1) := by decide +kernel
theorem dX9_last_50 : decode cX9_last 50 = .ok (.invokestatic 177, 3) := by decide +kernel
theorem dX9_last_53 : decode cX9_last 53 = .ok (.iload_n 3, 1) := by decide +kernel
theorem dX9_last_54 : decode cX9_last 54 = .ok (.invokestatic 181, 3) := by decide +kernel
theorem dX9_last_57 : decode cX9_last 57 = .ok (.lreturn, 1) := by decide +kernel
set_option maxRecDepth 20000 in
theorem ggX9_sit_X9_in : GoodIn wsX9_sit wsX9_in := goodIn_r _ [8] (by decide +kernel) (by decide +kernel)
set_option maxRecDepth 20000 in
theorem gX9_sit_X9_in : GoodIn wsX9_sit (va_wsS RX9 90 yX9_in wsX9_in) := goodIn_app (goodIn_of _ (by decide +kernel)) ggX9_sit_X9_in
set_option maxRecDepth 20000 in
theorem ggX9_sit_X9_lay : GoodIn wsX9_sit wsX9_lay := goodIn_r _ [12, 3, 13, 4, 14, 15, 16, 17, 18, 19, 20, 21, 22, 23, 24, 25, 26, 27, 28, 29, 30, 31, 32, 33, 34, 35, 36, 37, 38, 39, 40, 41, 42, 43, 44, 45, 46, 47, 48, 49, 50, 51, 52, 53, 54, 55] (by decide +kernel) (by decide +kernel)
set_option maxRecDepth 20000 in
theorem gX9_sit_X9_lay : GoodIn wsX9_sit (wsV RX9 173 RX9 yX9_lay wsX9_lay) := goodIn_app (goodIn_of _ (by decide +kernel)) ggX9_sit_X9_lay
theorem dX9_sit_0 : decode cX9_sit 0 = .ok (.iload_n 1, 1) := by decide +kernel
theorem dX9_sit_1 : decode cX9_sit 1 = .ok (.i2l, 1) := by decide +kernel
theorem dX9_sit_2 : decode cX9_sit 2 = .ok (.lconst 0, 1) := by decide +kernel
theorem dX9_sit_3 : decode cX9_sit 3 = .ok (.ldc2_w 169, 3) := by decide +kernel
theorem dX9_sit_6 : decode cX9_sit 6 = .ok (.invokestatic 90, 3) := by decide +kernel
theorem dX9_sit_9 : decode cX9_sit 9 = .ok (.ifCond .ne 6, 3) := by decide +kernel
theorem dX9_sit_12 : decode cX9_sit 12 = .ok (.bipush (-2), 2) := by decide +kernel
theorem dX9_sit_14 : decode cX9_sit 14 = .ok (.ireturn, 1) := by decide +kernel
theorem dX9_sit_15 : decode cX9_sit 15 = .ok (.aload_n 0, 1) := by decide +kernel
theorem dX9_sit_16 : decode cX9_sit 16 = .ok (.iload_n 1, 1) := by decide +kernel
theorem dX9_sit_17 : decode cX9_sit 17 = .ok (.aload_n 0, 1) := by decide +kernel
theorem dX9_sit_18 : decode cX9_sit 18 = .ok (.getfield 152, 3) := by decide +kernel
theorem dX9_sit_21 : decode cX9_sit 21 = .ok (.iconst 1, 1) := by decide +kernel
theorem dX9_sit_22 : decode cX9_sit 22 = .ok (.aload_n 0, 1) := by decide +kernel
theorem dX9_sit_23 : decode cX9_sit 23 = .ok (.getfield 152, 3) := by decide +kernel
theorem dX9_sit_26 : decode cX9_sit 26 = .ok (.ishl, 1) := by decide +kernel
theorem dX9_sit_27 : decode cX9_sit 27 = .ok (.invokevirtual 173, 3) := by decide +kernel
theorem dX9_sit_30 : decode cX9_sit 30 = .ok (.bipush (-9), 2) := by decide +kernel
theorem dX9_sit_32 : decode cX9_sit 32 = .ok (.istore_n 2, 1) := by decide +kernel
theorem dX9_sit_33 : decode cX9_sit 33 = .ok (.iconst 0, 1) := by decide +kernel
theorem dX9_sit_34 : decode cX9_sit 34 = .ok (.istore_n 3, 1) := by decide +kernel
theorem dX9_sit_35 : decode cX9_sit 35 = .ok (.iload_n 3, 1) := by decide +kernel
theorem dX9_sit_36 : decode cX9_sit 36 = .ok (.aload_n 0, 1) := by decide +kernel
theorem dX9_sit_37 : decode cX9_sit 37 = .ok (.getfield 78, 3) := by decide +kernel
theorem dX9_sit_40 : decode cX9_sit 40 = .ok (.if_icmp .ge 45, 3) := by decide +kernel
theorem dX9_sit_43 : decode cX9_sit 43 = .ok (.iload_n 3, 1) := by decide +kernel
theorem dX9_sit_44 : decode cX9_sit 44 = .ok (.aload_n 0, 1) := by decide +kernel
theorem dX9_sit_45 : decode cX9_sit 45 = .ok (.getfield 152, 3) := by decide +kernel
theorem dX9_sit_48 : decode cX9_sit 48 = .ok (.if_icmp .eq 29, 3) := by decide +kernel
theorem dX9_sit_51 : decode cX9_sit 51 = .ok (.iload_n 2, 1) := by decide +kernel
theorem dX9_sit_52 : decode cX9_sit 52 = .ok (.bipush (-9), 2) := by decide +kernel
theorem dX9_sit_54 : decode cX9_sit 54 = .ok (.if_icmp .eq 19, 3) := by decide +kernel
theorem dX9_sit_57 : decode cX9_sit 57 = .ok (.aload_n 0, 1) := by decide +kernel
theorem dX9_sit_58 : decode cX9_sit 58 = .ok (.getfield 32, 3) := by decide +kernel
theorem dX9_sit_61 : decode cX9_sit 61 = .ok (.iload_n 3, 1) := by decide +kernel
theorem dX9_sit_62 : decode cX9_sit 62 = .ok (.laload, 1) := by decide +kernel
theorem dX9_sit_63 : decode cX9_sit 63 = .ok (.aload_n 0, 1) := by decide +kernel
theorem dX9_sit_64 : decode cX9_sit 64 = .ok (.getfield 32, 3) := by decide +kernel
theorem dX9_sit_67 : decode cX9_sit 67 = .ok (.iload_n 2, 1) := by decide +kernel
theorem dX9_sit_68 : decode cX9_sit 68 = .ok (.laload, 1) := by decide +kernel
theorem dX9_sit_69 : decode cX9_sit 69 = .ok (.lcmp, 1) := by decide +kernel
theorem dX9_sit_70 : decode cX9_sit 70 = .ok (.ifCond .ge 7, 3) := by decide +kernel
theorem dX9_sit_73 : decode cX9_sit 73 = .ok (.iload_n 3, 1) := by decide +kernel
theorem dX9_sit_74 : decode cX9_sit 74 = .ok (.goto 4, 3) := by decide +kernel
theorem dX9_sit_77 : decode cX9_sit 77 = .ok (.iload_n 2, 1) := by decide +kernel
theorem dX9_sit_78 : decode cX9_sit 78 = .ok (.istore_n 2, 1) := by decide +kernel
theorem dX9_sit_79 : decode cX9_sit 79 = .ok (.iinc 3 1, 3) := by decide +kernel
theorem dX9_sit_82 : decode cX9_sit 82 = .ok (.goto (-47), 3) := by decide +kernel
theorem dX9_sit_85 : decode cX9_sit 85 = .ok (.iload_n 2, 1) := by decide +kernel
theorem dX9_sit_86 : decode cX9_sit 86 = .ok (.ireturn, 1) := by decide +kernel
set_option maxRecDepth 20000 in
theorem ggX9_rises_X9_power : GoodIn wsX9_rises wsX9_power := goodIn_r _ [4] (by decide +kernel) (by decide +kernel)
set_option maxRecDepth 20000 in
theorem gX9_rises_X9_power : GoodIn wsX9_rises (va_wsS RX9 177 yX9_power wsX9_power) := goodIn_app (goodIn_of _ (by decide +kernel)) ggX9_rises_X9_power
theorem dX9_rises_0 : decode cX9_rises 0 = .ok (.lconst 0, 1) := by decide +kernel
theorem dX9_rises_1 : decode cX9_rises 1 = .ok (.lstore_n 3, 1) := by decide +kernel
theorem dX9_rises_2 : decode cX9_rises 2 = .ok (.iconst 0, 1) := by decide +kernel
theorem dX9_rises_3 : decode cX9_rises 3 = .ok (.istore 5, 2) := by decide +kernel
theorem dX9_rises_5 : decode cX9_rises 5 = .ok (.iload 5, 2) := by decide +kernel
theorem dX9_rises_7 : decode cX9_rises 7 = .ok (.iload_n 2, 1) := by decide +kernel
theorem dX9_rises_8 : decode cX9_rises 8 = .ok (.if_icmp .ge 29, 3) := by decide +kernel
theorem dX9_rises_11 : decode cX9_rises 11 = .ok (.lload_n 3, 1) := by decide +kernel
theorem dX9_rises_12 : decode cX9_rises 12 = .ok (.iload_n 0, 1) := by decide +kernel
theorem dX9_rises_13 : decode cX9_rises 13 = .ok (.iload_n 2, 1) := by decide +kernel
theorem dX9_rises_14 : decode cX9_rises 14 = .ok (.iconst 1, 1) := by decide +kernel
theorem dX9_rises_15 : decode cX9_rises 15 = .ok (.isub, 1) := by decide +kernel
theorem dX9_rises_16 : decode cX9_rises 16 = .ok (.iload 5, 2) := by decide +kernel
theorem dX9_rises_18 : decode cX9_rises 18 = .ok (.isub, 1) := by decide +kernel
theorem dX9_rises_19 : decode cX9_rises 19 = .ok (.invokestatic 177, 3) := by decide +kernel
theorem dX9_rises_22 : decode cX9_rises 22 = .ok (.iload_n 1, 1) := by decide +kernel
theorem dX9_rises_23 : decode cX9_rises 23 = .ok (.iload 5, 2) := by decide +kernel
theorem dX9_rises_25 : decode cX9_rises 25 = .ok (.invokestatic 177, 3) := by decide +kernel
theorem dX9_rises_28 : decode cX9_rises 28 = .ok (.lmul, 1) := by decide +kernel
theorem dX9_rises_29 : decode cX9_rises 29 = .ok (.ladd, 1) := by decide +kernel
theorem dX9_rises_30 : decode cX9_rises 30 = .ok (.lstore_n 3, 1) := by decide +kernel
theorem dX9_rises_31 : decode cX9_rises 31 = .ok (.iinc 5 1, 3) := by decide +kernel
theorem dX9_rises_34 : decode cX9_rises 34 = .ok (.goto (-29), 3) := by decide +kernel
theorem dX9_rises_37 : decode cX9_rises 37 = .ok (.lload_n 3, 1) := by decide +kernel
theorem dX9_rises_38 : decode cX9_rises 38 = .ok (.lreturn, 1) := by decide +kernel
set_option maxRecDepth 20000 in
theorem ggX9_end_X9_isSeat : GoodIn wsX9_end wsX9_isSeat := goodIn_r _ [11, 3, 12, 13, 10, 14, 24, 25, 26, 27, 28, 29, 30, 31, 32, 33, 34, 35, 36, 37, 38, 39, 40, 41, 42, 43, 44, 45, 46, 47, 48, 49, 50, 51, 52, 53, 54, 55, 56, 57, 58, 59, 60, 61, 62] (by decide +kernel) (by decide +kernel)
set_option maxRecDepth 20000 in
theorem gX9_end_X9_isSeat : GoodIn wsX9_end (wsV RX9 161 RX9 yX9_isSeat wsX9_isSeat) := goodIn_app (goodIn_of _ (by decide +kernel)) ggX9_end_X9_isSeat
set_option maxRecDepth 20000 in
theorem ggX9_end_X9_rises : GoodIn wsX9_end wsX9_rises := goodIn_r _ [17, 18, 19, 10, 20] (by decide +kernel) (by decide +kernel)
set_option maxRecDepth 20000 in
theorem gX9_end_X9_rises : GoodIn wsX9_end (va_wsS RX9 187 yX9_rises wsX9_rises) := goodIn_app (goodIn_of _ (by decide +kernel)) ggX9_end_X9_rises
set_option maxRecDepth 20000 in
theorem ggX9_end_X9_power : GoodIn wsX9_end wsX9_power := goodIn_r _ [20] (by decide +kernel) (by decide +kernel)
set_option maxRecDepth 20000 in
theorem gX9_end_X9_power : GoodIn wsX9_end (va_wsS RX9 177 yX9_power wsX9_power) := goodIn_app (goodIn_of _ (by decide +kernel)) ggX9_end_X9_power
set_option maxRecDepth 20000 in
theorem ggX9_end_X9_part : GoodIn wsX9_end wsX9_part := goodIn_r _ [23] (by decide +kernel) (by decide +kernel)
set_option maxRecDepth 20000 in
theorem gX9_end_X9_part : GoodIn wsX9_end (va_wsS RX9 181 yX9_part wsX9_part) := goodIn_app (goodIn_of _ (by decide +kernel)) ggX9_end_X9_part
theorem dX9_end_0 : decode cX9_end 0 = .ok (.aload_n 0, 1) := by decide +kernel
theorem dX9_end_1 : decode cX9_end 1 = .ok (.iload_n 1, 1) := by decide +kernel
theorem dX9_end_2 : decode cX9_end 2 = .ok (.invokevirtual 161, 3) := by decide +kernel
theorem dX9_end_5 : decode cX9_end 5 = .ok (.ifCond .ne 7, 3) := by decide +kernel
theorem dX9_end_8 : decode cX9_end 8 = .ok (.ldc2_w 167, 3) := by decide +kernel
theorem dX9_end_11 : decode cX9_end 11 = .ok (.lreturn, 1) := by decide +kernel
theorem dX9_end_12 : decode cX9_end 12 = .ok (.aload_n 0, 1) := by decide +kernel
theorem dX9_end_13 : decode cX9_end 13 = .ok (.getfield 140, 3) := by decide +kernel
theorem dX9_end_16 : decode cX9_end 16 = .ok (.ifCond .ne 18, 3) := by decide +kernel
theorem dX9_end_19 : decode cX9_end 19 = .ok (.aload_n 0, 1) := by decide +kernel
theorem dX9_end_20 : decode cX9_end 20 = .ok (.getfield 78, 3) := by decide +kernel
theorem dX9_end_23 : decode cX9_end 23 = .ok (.iconst 3, 1) := by decide +kernel
theorem dX9_end_24 : decode cX9_end 24 = .ok (.if_icmp .lt 10, 3) := by decide +kernel
theorem dX9_end_27 : decode cX9_end 27 = .ok (.aload_n 0, 1) := by decide +kernel
theorem dX9_end_28 : decode cX9_end 28 = .ok (.getfield 82, 3) := by decide +kernel
theorem dX9_end_31 : decode cX9_end 31 = .ok (.ifCond .ne 7, 3) := by decide +kernel
theorem dX9_end_34 : decode cX9_end 34 = .ok (.ldc2_w 185, 3) := by decide +kernel
theorem dX9_end_37 : decode cX9_end 37 = .ok (.lreturn, 1) := by decide +kernel
theorem dX9_end_38 : decode cX9_end 38 = .ok (.iload_n 1, 1) := by decide +kernel
theorem dX9_end_39 : decode cX9_end 39 = .ok (.aload_n 0, 1) := by decide +kernel
theorem dX9_end_40 : decode cX9_end 40 = .ok (.getfield 78, 3) := by decide +kernel
theorem dX9_end_43 : decode cX9_end 43 = .ok (.iadd, 1) := by decide +kernel
theorem dX9_end_44 : decode cX9_end 44 = .ok (.aload_n 0, 1) := by decide +kernel
theorem dX9_end_45 : decode cX9_end 45 = .ok (.getfield 152, 3) := by decide +kernel
theorem dX9_end_48 : decode cX9_end 48 = .ok (.isub, 1) := by decide +kernel
theorem dX9_end_49 : decode cX9_end 49 = .ok (.aload_n 0, 1) := by decide +kernel
theorem dX9_end_50 : decode cX9_end 50 = .ok (.getfield 78, 3) := by decide +kernel
theorem dX9_end_53 : decode cX9_end 53 = .ok (.irem, 1) := by decide +kernel
theorem dX9_end_54 : decode cX9_end 54 = .ok (.istore_n 3, 1) := by decide +kernel
theorem dX9_end_55 : decode cX9_end 55 = .ok (.iload_n 3, 1) := by decide +kernel
theorem dX9_end_56 : decode cX9_end 56 = .ok (.ifCond .ne 13, 3) := by decide +kernel
theorem dX9_end_59 : decode cX9_end 59 = .ok (.iload_n 2, 1) := by decide +kernel
theorem dX9_end_60 : decode cX9_end 60 = .ok (.ifCond .eq 7, 3) := by decide +kernel
theorem dX9_end_63 : decode cX9_end 63 = .ok (.lconst 0, 1) := by decide +kernel
theorem dX9_end_64 : decode cX9_end 64 = .ok (.goto 4, 3) := by decide +kernel
theorem dX9_end_67 : decode cX9_end 67 = .ok (.lconst 1, 1) := by decide +kernel
theorem dX9_end_68 : decode cX9_end 68 = .ok (.lreturn, 1) := by decide +kernel
theorem dX9_end_69 : decode cX9_end 69 = .ok (.aload_n 0, 1) := by decide +kernel
theorem dX9_end_70 : decode cX9_end 70 = .ok (.getfield 82, 3) := by decide +kernel
theorem dX9_end_73 : decode cX9_end 73 = .ok (.istore 4, 2) := by decide +kernel
theorem dX9_end_75 : decode cX9_end 75 = .ok (.bipush 10, 2) := by decide +kernel
theorem dX9_end_77 : decode cX9_end 77 = .ok (.aload_n 0, 1) := by decide +kernel
theorem dX9_end_78 : decode cX9_end 78 = .ok (.getfield 82, 3) := by decide +kernel
theorem dX9_end_81 : decode cX9_end 81 = .ok (.isub, 1) := by decide +kernel
theorem dX9_end_82 : decode cX9_end 82 = .ok (.istore 5, 2) := by decide +kernel
theorem dX9_end_84 : decode cX9_end 84 = .ok (.iload 4, 2) := by decide +kernel
theorem dX9_end_86 : decode cX9_end 86 = .ok (.iload 5, 2) := by decide +kernel
theorem dX9_end_88 : decode cX9_end 88 = .ok (.aload_n 0, 1) := by decide +kernel
theorem dX9_end_89 : decode cX9_end 89 = .ok (.getfield 78, 3) := by decide +kernel
theorem dX9_end_92 : decode cX9_end 92 = .ok (.iconst 2, 1) := by decide +kernel
theorem dX9_end_93 : decode cX9_end 93 = .ok (.isub, 1) := by decide +kernel
theorem dX9_end_94 : decode cX9_end 94 = .ok (.invokestatic 187, 3) := by decide +kernel
theorem dX9_end_97 : decode cX9_end 97 = .ok (.lstore 6, 2) := by decide +kernel
theorem dX9_end_99 : decode cX9_end 99 = .ok (.iload 4, 2) := by decide +kernel
theorem dX9_end_101 : decode cX9_end 101 = .ok (.iload_n 3, 1) := by decide +kernel
theorem dX9_end_102 : decode cX9_end 102 = .ok (.iconst 1, 1) := by decide +kernel
theorem dX9_end_103 : decode cX9_end 103 = .ok (.isub, 1) := by decide +kernel
theorem dX9_end_104 : decode cX9_end 104 = .ok (.invokestatic 177, 3) := by decide +kernel
theorem dX9_end_107 : decode cX9_end 107 = .ok (.iload 4, 2) := by decide +kernel
theorem dX9_end_109 : decode cX9_end 109 = .ok (.iload 5, 2) := by decide +kernel
theorem dX9_end_111 : decode cX9_end 111 = .ok (.aload_n 0, 1) := by decide +kernel
theorem dX9_end_112 : decode cX9_end 112 = .ok (.getfield 78, 3) := by decide +kernel
theorem dX9_end_115 : decode cX9_end 115 = .ok (.iload_n 3, 1) := by decide +kernel
theorem dX9_end_116 : decode cX9_end 116 = .ok (.isub, 1) := by decide +kernel
theorem dX9_end_117 : decode cX9_end 117 = .ok (.iconst 1, 1) := by decide +kernel
theorem dX9_end_118 : decode cX9_end 118 = .ok (.isub, 1) := by decide +kernel
theorem dX9_end_119 : decode cX9_end 119 = .ok (.invokestatic 187, 3) := by decide +kernel
theorem dX9_end_122 : decode cX9_end 122 = .ok (.lmul, 1) := by decide +kernel
theorem dX9_end_123 : decode cX9_end 123 = .ok (.lstore 8, 2) := by decide +kernel
theorem dX9_end_125 : decode cX9_end 125 = .ok (.lload 8, 2) := by decide +kernel
theorem dX9_end_127 : decode cX9_end 127 = .ok (.iload 5, 2) := by decide +kernel
theorem dX9_end_129 : decode cX9_end 129 = .ok (.aload_n 0, 1) := by decide +kernel
theorem dX9_end_130 : decode cX9_end 130 = .ok (.getfield 78, 3) := by decide +kernel
theorem dX9_end_133 : decode cX9_end 133 = .ok (.iconst 2, 1) := by decide +kernel
theorem dX9_end_134 : decode cX9_end 134 = .ok (.isub, 1) := by decide +kernel
theorem dX9_end_135 : decode cX9_end 135 = .ok (.invokestatic 177, 3) := by decide +kernel
theorem dX9_end_138 : decode cX9_end 138 = .ok (.lmul, 1) := by decide +kernel
theorem dX9_end_139 : decode cX9_end 139 = .ok (.lload 6, 2) := by decide +kernel
theorem dX9_end_141 : decode cX9_end 141 = .ok (.lload 8, 2) := by decide +kernel
theorem dX9_end_143 : decode cX9_end 143 = .ok (.lsub, 1) := by decide +kernel
theorem dX9_end_144 : decode cX9_end 144 = .ok (.iload 4, 2) := by decide +kernel
theorem dX9_end_146 : decode cX9_end 146 = .ok (.aload_n 0, 1) := by decide +kernel
theorem dX9_end_147 : decode cX9_end 147 = .ok (.getfield 78, 3) := by decide +kernel
theorem dX9_end_150 : decode cX9_end 150 = .ok (.iconst 2, 1) := by decide +kernel
theorem dX9_end_151 : decode cX9_end 151 = .ok (.isub, 1) := by decide +kernel
theorem dX9_end_152 : decode cX9_end 152 = .ok (.invokestatic 177, 3) := by decide +kernel
theorem dX9_end_155 : decode cX9_end 155 = .ok (.lmul, 1) := by decide +kernel
theorem dX9_end_156 : decode cX9_end 156 = .ok (.ladd, 1) := by decide +kernel
theorem dX9_end_157 : decode cX9_end 157 = .ok (.lstore 10, 2) := by decide +kernel
theorem dX9_end_159 : decode cX9_end 159 = .ok (.lload 10, 2) := by decide +kernel
theorem dX9_end_161 : decode cX9_end 161 = .ok (.lload 6, 2) := by decide +kernel
theorem dX9_end_163 : decode cX9_end 163 = .ok (.iload 4, 2) := by decide +kernel
theorem dX9_end_165 : decode cX9_end 165 = .ok (.iload 5, 2) := by decide +kernel
theorem dX9_end_167 : decode cX9_end 167 = .ok (.aload_n 0, 1) := by decide +kernel
theorem dX9_end_168 : decode cX9_end 168 = .ok (.getfield 78, 3) := by decide +kernel
theorem dX9_end_171 : decode cX9_end 171 = .ok (.iconst 1, 1) := by decide +kernel
theorem dX9_end_172 : decode cX9_end 172 = .ok (.isub, 1) := by decide +kernel
theorem dX9_end_173 : decode cX9_end 173 = .ok (.invokestatic 187, 3) := by decide +kernel
theorem dX9_end_176 : decode cX9_end 176 = .ok (.lmul, 1) := by decide +kernel
theorem dX9_end_177 : decode cX9_end 177 = .ok (.iload_n 2, 1) := by decide +kernel
theorem dX9_end_178 : decode cX9_end 178 = .ok (.invokestatic 181, 3) := by decide +kernel
theorem dX9_end_181 : decode cX9_end 181 = .ok (.lreturn, 1) := by decide +kernel
theorem dX9_reach_0 : decode cX9_reach 0 = .ok (.iconst 1, 1) := by decide +kernel
theorem dX9_reach_1 : decode cX9_reach 1 = .ok (.iload_n 1, 1) := by decide +kernel
theorem dX9_reach_2 : decode cX9_reach 2 = .ok (.ishl, 1) := by decide +kernel
theorem dX9_reach_3 : decode cX9_reach 3 = .ok (.istore_n 3, 1) := by decide +kernel
theorem dX9_reach_4 : decode cX9_reach 4 = .ok (.iconst 0, 1) := by decide +kernel
theorem dX9_reach_5 : decode cX9_reach 5 = .ok (.istore 4, 2) := by decide +kernel
theorem dX9_reach_7 : decode cX9_reach 7 = .ok (.iload 4, 2) := by decide +kernel
theorem dX9_reach_9 : decode cX9_reach 9 = .ok (.bipush 8, 2) := by decide +kernel
theorem dX9_reach_11 : decode cX9_reach 11 = .ok (.if_icmp .ge 88, 3) := by decide +kernel
theorem dX9_reach_14 : decode cX9_reach 14 = .ok (.iconst 0, 1) := by decide +kernel
theorem dX9_reach_15 : decode cX9_reach 15 = .ok (.istore 5, 2) := by decide +kernel
theorem dX9_reach_17 : decode cX9_reach 17 = .ok (.iload 5, 2) := by decide +kernel
theorem dX9_reach_19 : decode cX9_reach 19 = .ok (.aload_n 0, 1) := by decide +kernel
theorem dX9_reach_20 : decode cX9_reach 20 = .ok (.getfield 78, 3) := by decide +kernel
theorem dX9_reach_23 : decode cX9_reach 23 = .ok (.if_icmp .ge 70, 3) := by decide +kernel
theorem dX9_reach_26 : decode cX9_reach 26 = .ok (.iconst 0, 1) := by decide +kernel
theorem dX9_reach_27 : decode cX9_reach 27 = .ok (.istore 6, 2) := by decide +kernel
theorem dX9_reach_29 : decode cX9_reach 29 = .ok (.iload 6, 2) := by decide +kernel
theorem dX9_reach_31 : decode cX9_reach 31 = .ok (.aload_n 0, 1) := by decide +kernel
theorem dX9_reach_32 : decode cX9_reach 32 = .ok (.getfield 78, 3) := by decide +kernel
theorem dX9_reach_35 : decode cX9_reach 35 = .ok (.if_icmp .ge 52, 3) := by decide +kernel
theorem dX9_reach_38 : decode cX9_reach 38 = .ok (.iload 5, 2) := by decide +kernel
theorem dX9_reach_40 : decode cX9_reach 40 = .ok (.iload_n 2, 1) := by decide +kernel
theorem dX9_reach_41 : decode cX9_reach 41 = .ok (.if_icmp .eq 46, 3) := by decide +kernel
theorem dX9_reach_44 : decode cX9_reach 44 = .ok (.iload_n 3, 1) := by decide +kernel
theorem dX9_reach_45 : decode cX9_reach 45 = .ok (.iload 5, 2) := by decide +kernel
theorem dX9_reach_47 : decode cX9_reach 47 = .ok (.ishr, 1) := by decide +kernel
theorem dX9_reach_48 : decode cX9_reach 48 = .ok (.iconst 1, 1) := by decide +kernel
theorem dX9_reach_49 : decode cX9_reach 49 = .ok (.iand, 1) := by decide +kernel
theorem dX9_reach_50 : decode cX9_reach 50 = .ok (.iconst 1, 1) := by decide +kernel
theorem dX9_reach_51 : decode cX9_reach 51 = .ok (.if_icmp .ne 36, 3) := by decide +kernel
theorem dX9_reach_54 : decode cX9_reach 54 = .ok (.iload_n 3, 1) := by decide +kernel
theorem dX9_reach_55 : decode cX9_reach 55 = .ok (.aload_n 0, 1) := by decide +kernel
theorem dX9_reach_56 : decode cX9_reach 56 = .ok (.getfield 13, 3) := by decide +kernel
theorem dX9_reach_59 : decode cX9_reach 59 = .ok (.bipush 8, 2) := by decide +kernel
theorem dX9_reach_61 : decode cX9_reach 61 = .ok (.iload 5, 2) := by decide +kernel
theorem dX9_reach_63 : decode cX9_reach 63 = .ok (.imul, 1) := by decide +kernel
theorem dX9_reach_64 : decode cX9_reach 64 = .ok (.iload 6, 2) := by decide +kernel
theorem dX9_reach_66 : decode cX9_reach 66 = .ok (.iadd, 1) := by decide +kernel
theorem dX9_reach_67 : decode cX9_reach 67 = .ok (.iaload, 1) := by decide +kernel
theorem dX9_reach_68 : decode cX9_reach 68 = .ok (.ifCond .le 10, 3) := by decide +kernel
theorem dX9_reach_71 : decode cX9_reach 71 = .ok (.iconst 1, 1) := by decide +kernel
theorem dX9_reach_72 : decode cX9_reach 72 = .ok (.iload 6, 2) := by decide +kernel
theorem dX9_reach_74 : decode cX9_reach 74 = .ok (.ishl, 1) := by decide +kernel
theorem dX9_reach_75 : decode cX9_reach 75 = .ok (.goto 4, 3) := by decide +kernel
theorem dX9_reach_78 : decode cX9_reach 78 = .ok (.iconst 0, 1) := by decide +kernel
theorem dX9_reach_79 : decode cX9_reach 79 = .ok (.ior, 1) := by decide +kernel
theorem dX9_reach_80 : decode cX9_reach 80 = .ok (.istore_n 3, 1) := by decide +kernel
theorem dX9_reach_81 : decode cX9_reach 81 = .ok (.iinc 6 1, 3) := by decide +kernel
theorem dX9_reach_84 : decode cX9_reach 84 = .ok (.goto (-55), 3) := by decide +kernel
theorem dX9_reach_87 : decode cX9_reach 87 = .ok (.iinc 5 1, 3) := by decide +kernel
theorem dX9_reach_90 : decode cX9_reach 90 = .ok (.goto (-73), 3) := by decide +kernel
theorem dX9_reach_93 : decode cX9_reach 93 = .ok (.iinc 4 1, 3) := by decide +kernel
theorem dX9_reach_96 : decode cX9_reach 96 = .ok (.goto (-89), 3) := by decide +kernel
theorem dX9_reach_99 : decode cX9_reach 99 = .ok (.iload_n 3, 1) := by decide +kernel
theorem dX9_reach_100 : decode cX9_reach 100 = .ok (.ireturn, 1) := by decide +kernel
set_option maxRecDepth 20000 in
theorem ggX9_layMean_X9_reach : GoodIn wsX9_layMean wsX9_reach := goodIn_r _ [9, 3, 10, 28, 29, 30, 31, 32, 33, 34, 35, 36, 37, 38, 39, 40, 41, 42, 43, 44, 45, 46, 47, 48, 49, 50, 51, 52, 53, 54, 55, 56, 57, 58, 59, 60, 61, 62, 63, 64, 65, 66] (by decide +kernel) (by decide +kernel)
set_option maxRecDepth 20000 in
theorem gX9_layMean_X9_reach : GoodIn wsX9_layMean (wsV RX9 198 RX9 yX9_reach wsX9_reach) := goodIn_app (goodIn_of _ (by decide +kernel)) ggX9_layMean_X9_reach
set_option maxRecDepth 20000 in
theorem ggX9_layMean_X9_layRow : GoodIn wsX9_layMean wsX9_layRow := goodIn_r _ [14, 4, 15, 3, 10, 16, 28, 29, 30, 31, 32, 33, 34, 35, 36, 37, 38, 39, 40, 41, 42, 43, 44, 45, 46, 47, 48, 49, 50, 51, 52, 53, 54, 55, 56, 57, 58, 59, 60, 61, 62, 63, 64, 65, 66] (by decide +kernel) (by decide +kernel)
set_option maxRecDepth 20000 in
theorem gX9_layMean_X9_layRow : GoodIn wsX9_layMean (wsV RX9 202 RX9 yX9_layRow wsX9_layRow) := goodIn_app (goodIn_of _ (by decide +kernel)) ggX9_layMean_X9_layRow
set_option maxRecDepth 20000 in
theorem ggX9_layMean_X9_solveAll : GoodIn wsX9_layMean wsX9_solveAll := goodIn_r _ [20, 15, 1, 2, 21, 22, 23, 8, 24, 25, 26, 27, 28, 29, 30, 31, 32, 33, 34, 35, 36, 37, 38, 39, 40, 41, 42, 43, 44, 45, 46, 47, 48, 49, 50, 51, 52, 53, 54, 55, 56, 57, 58, 59, 60, 61, 62, 63, 64, 65, 66] (by decide +kernel) (by decide +kernel)
set_option maxRecDepth 20000 in
theorem gX9_layMean_X9_solveAll : GoodIn wsX9_layMean (wsV RX9 205 RX9 yX9_solveAll wsX9_solveAll) := goodIn_app (goodIn_of _ (by decide +kernel)) ggX9_layMean_X9_solveAll
theorem dX9_layMean_0 : decode cX9_layMean 0 = .ok (.aload_n 0, 1) := by decide +kernel
theorem dX9_layMean_1 : decode cX9_layMean 1 = .ok (.lconst 0, 1) := by decide +kernel
theorem dX9_layMean_2 : decode cX9_layMean 2 = .ok (.putfield 191, 3) := by decide +kernel
theorem dX9_layMean_5 : decode cX9_layMean 5 = .ok (.aload_n 0, 1) := by decide +kernel
theorem dX9_layMean_6 : decode cX9_layMean 6 = .ok (.lconst 1, 1) := by decide +kernel
theorem dX9_layMean_7 : decode cX9_layMean 7 = .ok (.putfield 195, 3) := by decide +kernel
theorem dX9_layMean_10 : decode cX9_layMean 10 = .ok (.iload_n 1, 1) := by decide +kernel
theorem dX9_layMean_11 : decode cX9_layMean 11 = .ok (.iload_n 2, 1) := by decide +kernel
theorem dX9_layMean_12 : decode cX9_layMean 12 = .ok (.if_icmp .ne 5, 3) := by decide +kernel
theorem dX9_layMean_15 : decode cX9_layMean 15 = .ok (.iconst 1, 1) := by decide +kernel
theorem dX9_layMean_16 : decode cX9_layMean 16 = .ok (.ireturn, 1) := by decide +kernel
theorem dX9_layMean_17 : decode cX9_layMean 17 = .ok (.aload_n 0, 1) := by decide +kernel
theorem dX9_layMean_18 : decode cX9_layMean 18 = .ok (.iload_n 1, 1) := by decide +kernel
theorem dX9_layMean_19 : decode cX9_layMean 19 = .ok (.iload_n 2, 1) := by decide +kernel
theorem dX9_layMean_20 : decode cX9_layMean 20 = .ok (.invokevirtual 198, 3) := by decide +kernel
theorem dX9_layMean_23 : decode cX9_layMean 23 = .ok (.iconst 1, 1) := by decide +kernel
theorem dX9_layMean_24 : decode cX9_layMean 24 = .ok (.iload_n 2, 1) := by decide +kernel
theorem dX9_layMean_25 : decode cX9_layMean 25 = .ok (.ishl, 1) := by decide +kernel
theorem dX9_layMean_26 : decode cX9_layMean 26 = .ok (.iconst (-1), 1) := by decide +kernel
theorem dX9_layMean_27 : decode cX9_layMean 27 = .ok (.ixor, 1) := by decide +kernel
theorem dX9_layMean_28 : decode cX9_layMean 28 = .ok (.iand, 1) := by decide +kernel
theorem dX9_layMean_29 : decode cX9_layMean 29 = .ok (.istore_n 3, 1) := by decide +kernel
theorem dX9_layMean_30 : decode cX9_layMean 30 = .ok (.iconst 0, 1) := by decide +kernel
theorem dX9_layMean_31 : decode cX9_layMean 31 = .ok (.istore 4, 2) := by decide +kernel
theorem dX9_layMean_33 : decode cX9_layMean 33 = .ok (.iconst 1, 1) := by decide +kernel
theorem dX9_layMean_34 : decode cX9_layMean 34 = .ok (.istore 5, 2) := by decide +kernel
theorem dX9_layMean_36 : decode cX9_layMean 36 = .ok (.iconst 0, 1) := by decide +kernel
theorem dX9_layMean_37 : decode cX9_layMean 37 = .ok (.istore 6, 2) := by decide +kernel
theorem dX9_layMean_39 : decode cX9_layMean 39 = .ok (.iload 6, 2) := by decide +kernel
theorem dX9_layMean_41 : decode cX9_layMean 41 = .ok (.aload_n 0, 1) := by decide +kernel
theorem dX9_layMean_42 : decode cX9_layMean 42 = .ok (.getfield 78, 3) := by decide +kernel
theorem dX9_layMean_45 : decode cX9_layMean 45 = .ok (.if_icmp .ge 58, 3) := by decide +kernel
theorem dX9_layMean_48 : decode cX9_layMean 48 = .ok (.iload_n 3, 1) := by decide +kernel
theorem dX9_layMean_49 : decode cX9_layMean 49 = .ok (.iload 6, 2) := by decide +kernel
theorem dX9_layMean_51 : decode cX9_layMean 51 = .ok (.ishr, 1) := by decide +kernel
theorem dX9_layMean_52 : decode cX9_layMean 52 = .ok (.iconst 1, 1) := by decide +kernel
theorem dX9_layMean_53 : decode cX9_layMean 53 = .ok (.iand, 1) := by decide +kernel
theorem dX9_layMean_54 : decode cX9_layMean 54 = .ok (.iconst 1, 1) := by decide +kernel
theorem dX9_layMean_55 : decode cX9_layMean 55 = .ok (.if_icmp .ne 42, 3) := by decide +kernel
theorem dX9_layMean_58 : decode cX9_layMean 58 = .ok (.aload_n 0, 1) := by decide +kernel
theorem dX9_layMean_59 : decode cX9_layMean 59 = .ok (.getfield 35, 3) := by decide +kernel
theorem dX9_layMean_62 : decode cX9_layMean 62 = .ok (.iload 6, 2) := by decide +kernel
theorem dX9_layMean_64 : decode cX9_layMean 64 = .ok (.iload 4, 2) := by decide +kernel
theorem dX9_layMean_66 : decode cX9_layMean 66 = .ok (.iastore, 1) := by decide +kernel
theorem dX9_layMean_67 : decode cX9_layMean 67 = .ok (.iinc 4 1, 3) := by decide +kernel
theorem dX9_layMean_70 : decode cX9_layMean 70 = .ok (.iload 5, 2) := by decide +kernel
theorem dX9_layMean_72 : decode cX9_layMean 72 = .ok (.ifCond .eq 22, 3) := by decide +kernel
theorem dX9_layMean_75 : decode cX9_layMean 75 = .ok (.aload_n 0, 1) := by decide +kernel
theorem dX9_layMean_76 : decode cX9_layMean 76 = .ok (.iload 6, 2) := by decide +kernel
theorem dX9_layMean_78 : decode cX9_layMean 78 = .ok (.iload_n 2, 1) := by decide +kernel
theorem dX9_layMean_79 : decode cX9_layMean 79 = .ok (.invokevirtual 198, 3) := by decide +kernel
theorem dX9_layMean_82 : decode cX9_layMean 82 = .ok (.iload_n 2, 1) := by decide +kernel
theorem dX9_layMean_83 : decode cX9_layMean 83 = .ok (.ishr, 1) := by decide +kernel
theorem dX9_layMean_84 : decode cX9_layMean 84 = .ok (.iconst 1, 1) := by decide +kernel
theorem dX9_layMean_85 : decode cX9_layMean 85 = .ok (.iand, 1) := by decide +kernel
theorem dX9_layMean_86 : decode cX9_layMean 86 = .ok (.iconst 1, 1) := by decide +kernel
theorem dX9_layMean_87 : decode cX9_layMean 87 = .ok (.if_icmp .ne 7, 3) := by decide +kernel
theorem dX9_layMean_90 : decode cX9_layMean 90 = .ok (.iconst 1, 1) := by decide +kernel
theorem dX9_layMean_91 : decode cX9_layMean 91 = .ok (.goto 4, 3) := by decide +kernel
theorem dX9_layMean_94 : decode cX9_layMean 94 = .ok (.iconst 0, 1) := by decide +kernel
theorem dX9_layMean_95 : decode cX9_layMean 95 = .ok (.istore 5, 2) := by decide +kernel
theorem dX9_layMean_97 : decode cX9_layMean 97 = .ok (.iinc 6 1, 3) := by decide +kernel
theorem dX9_layMean_100 : decode cX9_layMean 100 = .ok (.goto (-61), 3) := by decide +kernel
theorem dX9_layMean_103 : decode cX9_layMean 103 = .ok (.iload 5, 2) := by decide +kernel
theorem dX9_layMean_105 : decode cX9_layMean 105 = .ok (.ifCond .ne 5, 3) := by decide +kernel
theorem dX9_layMean_108 : decode cX9_layMean 108 = .ok (.iconst 0, 1) := by decide +kernel
theorem dX9_layMean_109 : decode cX9_layMean 109 = .ok (.ireturn, 1) := by decide +kernel
theorem dX9_layMean_110 : decode cX9_layMean 110 = .ok (.iconst 0, 1) := by decide +kernel
theorem dX9_layMean_111 : decode cX9_layMean 111 = .ok (.istore 6, 2) := by decide +kernel
theorem dX9_layMean_113 : decode cX9_layMean 113 = .ok (.iload 6, 2) := by decide +kernel
theorem dX9_layMean_115 : decode cX9_layMean 115 = .ok (.aload_n 0, 1) := by decide +kernel
theorem dX9_layMean_116 : decode cX9_layMean 116 = .ok (.getfield 78, 3) := by decide +kernel
theorem dX9_layMean_119 : decode cX9_layMean 119 = .ok (.if_icmp .ge 28, 3) := by decide +kernel
theorem dX9_layMean_122 : decode cX9_layMean 122 = .ok (.iload_n 3, 1) := by decide +kernel
theorem dX9_layMean_123 : decode cX9_layMean 123 = .ok (.iload 6, 2) := by decide +kernel
theorem dX9_layMean_125 : decode cX9_layMean 125 = .ok (.ishr, 1) := by decide +kernel
theorem dX9_layMean_126 : decode cX9_layMean 126 = .ok (.iconst 1, 1) := by decide +kernel
theorem dX9_layMean_127 : decode cX9_layMean 127 = .ok (.iand, 1) := by decide +kernel
theorem dX9_layMean_128 : decode cX9_layMean 128 = .ok (.iconst 1, 1) := by decide +kernel
theorem dX9_layMean_129 : decode cX9_layMean 129 = .ok (.if_icmp .ne 12, 3) := by decide +kernel
theorem dX9_layMean_132 : decode cX9_layMean 132 = .ok (.aload_n 0, 1) := by decide +kernel
theorem dX9_layMean_133 : decode cX9_layMean 133 = .ok (.iload 6, 2) := by decide +kernel
theorem dX9_layMean_135 : decode cX9_layMean 135 = .ok (.iload_n 3, 1) := by decide +kernel
theorem dX9_layMean_136 : decode cX9_layMean 136 = .ok (.iload 4, 2) := by decide +kernel
theorem dX9_layMean_138 : decode cX9_layMean 138 = .ok (.invokevirtual 202, 3) := by decide +kernel
theorem dX9_layMean_141 : decode cX9_layMean 141 = .ok (.iinc 6 1, 3) := by decide +kernel
theorem dX9_layMean_144 : decode cX9_layMean 144 = .ok (.goto (-31), 3) := by decide +kernel
theorem dX9_layMean_147 : decode cX9_layMean 147 = .ok (.aload_n 0, 1) := by decide +kernel
theorem dX9_layMean_148 : decode cX9_layMean 148 = .ok (.iload 4, 2) := by decide +kernel
theorem dX9_layMean_150 : decode cX9_layMean 150 = .ok (.aload_n 0, 1) := by decide +kernel
theorem dX9_layMean_151 : decode cX9_layMean 151 = .ok (.getfield 35, 3) := by decide +kernel
theorem dX9_layMean_154 : decode cX9_layMean 154 = .ok (.iload_n 1, 1) := by decide +kernel
theorem dX9_layMean_155 : decode cX9_layMean 155 = .ok (.iaload, 1) := by decide +kernel
theorem dX9_layMean_156 : decode cX9_layMean 156 = .ok (.invokevirtual 205, 3) := by decide +kernel
theorem dX9_layMean_159 : decode cX9_layMean 159 = .ok (.iconst 1, 1) := by decide +kernel
theorem dX9_layMean_160 : decode cX9_layMean 160 = .ok (.ireturn, 1) := by decide +kernel
theorem dX9_layRow_0 : decode cX9_layRow 0 = .ok (.bipush 9, 2) := by decide +kernel
theorem dX9_layRow_2 : decode cX9_layRow 2 = .ok (.aload_n 0, 1) := by decide +kernel
theorem dX9_layRow_3 : decode cX9_layRow 3 = .ok (.getfield 35, 3) := by decide +kernel
theorem dX9_layRow_6 : decode cX9_layRow 6 = .ok (.iload_n 1, 1) := by decide +kernel
theorem dX9_layRow_7 : decode cX9_layRow 7 = .ok (.iaload, 1) := by decide +kernel
theorem dX9_layRow_8 : decode cX9_layRow 8 = .ok (.imul, 1) := by decide +kernel
theorem dX9_layRow_9 : decode cX9_layRow 9 = .ok (.istore 4, 2) := by decide +kernel
theorem dX9_layRow_11 : decode cX9_layRow 11 = .ok (.iconst 0, 1) := by decide +kernel
theorem dX9_layRow_12 : decode cX9_layRow 12 = .ok (.istore 5, 2) := by decide +kernel
theorem dX9_layRow_14 : decode cX9_layRow 14 = .ok (.iload 5, 2) := by decide +kernel
theorem dX9_layRow_16 : decode cX9_layRow 16 = .ok (.bipush 9, 2) := by decide +kernel
theorem dX9_layRow_18 : decode cX9_layRow 18 = .ok (.if_icmp .ge 20, 3) := by decide +kernel
theorem dX9_layRow_21 : decode cX9_layRow 21 = .ok (.aload_n 0, 1) := by decide +kernel
theorem dX9_layRow_22 : decode cX9_layRow 22 = .ok (.getfield 38, 3) := by decide +kernel
theorem dX9_layRow_25 : decode cX9_layRow 25 = .ok (.iload 4, 2) := by decide +kernel
theorem dX9_layRow_27 : decode cX9_layRow 27 = .ok (.iload 5, 2) := by decide +kernel
theorem dX9_layRow_29 : decode cX9_layRow 29 = .ok (.iadd, 1) := by decide +kernel
theorem dX9_layRow_30 : decode cX9_layRow 30 = .ok (.lconst 0, 1) := by decide +kernel
theorem dX9_layRow_31 : decode cX9_layRow 31 = .ok (.lastore, 1) := by decide +kernel
theorem dX9_layRow_32 : decode cX9_layRow 32 = .ok (.iinc 5 1, 3) := by decide +kernel
theorem dX9_layRow_35 : decode cX9_layRow 35 = .ok (.goto (-21), 3) := by decide +kernel
theorem dX9_layRow_38 : decode cX9_layRow 38 = .ok (.iconst 0, 1) := by decide +kernel
theorem dX9_layRow_39 : decode cX9_layRow 39 = .ok (.istore 5, 2) := by decide +kernel
theorem dX9_layRow_41 : decode cX9_layRow 41 = .ok (.iload 5, 2) := by decide +kernel
theorem dX9_layRow_43 : decode cX9_layRow 43 = .ok (.aload_n 0, 1) := by decide +kernel
theorem dX9_layRow_44 : decode cX9_layRow 44 = .ok (.getfield 78, 3) := by decide +kernel
theorem dX9_layRow_47 : decode cX9_layRow 47 = .ok (.if_icmp .ge 50, 3) := by decide +kernel
theorem dX9_layRow_50 : decode cX9_layRow 50 = .ok (.iload_n 2, 1) := by decide +kernel
theorem dX9_layRow_51 : decode cX9_layRow 51 = .ok (.iload 5, 2) := by decide +kernel
theorem dX9_layRow_53 : decode cX9_layRow 53 = .ok (.ishr, 1) := by decide +kernel
theorem dX9_layRow_54 : decode cX9_layRow 54 = .ok (.iconst 1, 1) := by decide +kernel
theorem dX9_layRow_55 : decode cX9_layRow 55 = .ok (.iand, 1) := by decide +kernel
theorem dX9_layRow_56 : decode cX9_layRow 56 = .ok (.iconst 1, 1) := by decide +kernel
theorem dX9_layRow_57 : decode cX9_layRow 57 = .ok (.if_icmp .ne 34, 3) := by decide +kernel
theorem dX9_layRow_60 : decode cX9_layRow 60 = .ok (.aload_n 0, 1) := by decide +kernel
theorem dX9_layRow_61 : decode cX9_layRow 61 = .ok (.getfield 38, 3) := by decide +kernel
theorem dX9_layRow_64 : decode cX9_layRow 64 = .ok (.iload 4, 2) := by decide +kernel
theorem dX9_layRow_66 : decode cX9_layRow 66 = .ok (.aload_n 0, 1) := by decide +kernel
theorem dX9_layRow_67 : decode cX9_layRow 67 = .ok (.getfield 35, 3) := by decide +kernel
theorem dX9_layRow_70 : decode cX9_layRow 70 = .ok (.iload 5, 2) := by decide +kernel
theorem dX9_layRow_72 : decode cX9_layRow 72 = .ok (.iaload, 1) := by decide +kernel
theorem dX9_layRow_73 : decode cX9_layRow 73 = .ok (.iadd, 1) := by decide +kernel
theorem dX9_layRow_74 : decode cX9_layRow 74 = .ok (.dup2, 1) := by decide +kernel
theorem dX9_layRow_75 : decode cX9_layRow 75 = .ok (.laload, 1) := by decide +kernel
theorem dX9_layRow_76 : decode cX9_layRow 76 = .ok (.aload_n 0, 1) := by decide +kernel
theorem dX9_layRow_77 : decode cX9_layRow 77 = .ok (.getfield 13, 3) := by decide +kernel
theorem dX9_layRow_80 : decode cX9_layRow 80 = .ok (.bipush 8, 2) := by decide +kernel
theorem dX9_layRow_82 : decode cX9_layRow 82 = .ok (.iload_n 1, 1) := by decide +kernel
theorem dX9_layRow_83 : decode cX9_layRow 83 = .ok (.imul, 1) := by decide +kernel
theorem dX9_layRow_84 : decode cX9_layRow 84 = .ok (.iload 5, 2) := by decide +kernel
theorem dX9_layRow_86 : decode cX9_layRow 86 = .ok (.iadd, 1) := by decide +kernel
theorem dX9_layRow_87 : decode cX9_layRow 87 = .ok (.iaload, 1) := by decide +kernel
theorem dX9_layRow_88 : decode cX9_layRow 88 = .ok (.i2l, 1) := by decide +kernel
theorem dX9_layRow_89 : decode cX9_layRow 89 = .ok (.lsub, 1) := by decide +kernel
theorem dX9_layRow_90 : decode cX9_layRow 90 = .ok (.lastore, 1) := by decide +kernel
theorem dX9_layRow_91 : decode cX9_layRow 91 = .ok (.iinc 5 1, 3) := by decide +kernel
theorem dX9_layRow_94 : decode cX9_layRow 94 = .ok (.goto (-53), 3) := by decide +kernel
theorem dX9_layRow_97 : decode cX9_layRow 97 = .ok (.aload_n 0, 1) := by decide +kernel
theorem dX9_layRow_98 : decode cX9_layRow 98 = .ok (.getfield 38, 3) := by decide +kernel
theorem dX9_layRow_101 : decode cX9_layRow 101 = .ok (.iload 4, 2) := by decide +kernel
theorem dX9_layRow_103 : decode cX9_layRow 103 = .ok (.aload_n 0, 1) := by decide +kernel
theorem dX9_layRow_104 : decode cX9_layRow 104 = .ok (.getfield 35, 3) := by decide +kernel
theorem dX9_layRow_107 : decode cX9_layRow 107 = .ok (.iload_n 1, 1) := by decide +kernel
theorem dX9_layRow_108 : decode cX9_layRow 108 = .ok (.iaload, 1) := by decide +kernel
theorem dX9_layRow_109 : decode cX9_layRow 109 = .ok (.iadd, 1) := by decide +kernel
theorem dX9_layRow_110 : decode cX9_layRow 110 = .ok (.dup2, 1) := by decide +kernel
theorem dX9_layRow_111 : decode cX9_layRow 111 = .ok (.laload, 1) := by decide +kernel
theorem dX9_layRow_112 : decode cX9_layRow 112 = .ok (.ldc2_w 165, 3) := by decide +kernel
theorem dX9_layRow_115 : decode cX9_layRow 115 = .ok (.ladd, 1) := by decide +kernel
theorem dX9_layRow_116 : decode cX9_layRow 116 = .ok (.lastore, 1) := by decide +kernel
theorem dX9_layRow_117 : decode cX9_layRow 117 = .ok (.aload_n 0, 1) := by decide +kernel
theorem dX9_layRow_118 : decode cX9_layRow 118 = .ok (.getfield 38, 3) := by decide +kernel
theorem dX9_layRow_121 : decode cX9_layRow 121 = .ok (.iload 4, 2) := by decide +kernel
theorem dX9_layRow_123 : decode cX9_layRow 123 = .ok (.iload_n 3, 1) := by decide +kernel
theorem dX9_layRow_124 : decode cX9_layRow 124 = .ok (.iadd, 1) := by decide +kernel
theorem dX9_layRow_125 : decode cX9_layRow 125 = .ok (.ldc2_w 165, 3) := by decide +kernel
theorem dX9_layRow_128 : decode cX9_layRow 128 = .ok (.lastore, 1) := by decide +kernel
theorem dX9_layRow_129 : decode cX9_layRow 129 = .ok (.return_, 1) := by decide +kernel
set_option maxRecDepth 20000 in
theorem ggX9_solveAll_X9_free : GoodIn wsX9_solveAll wsX9_free := goodIn_r _ [8, 1, 9, 10, 7, 11, 12, 13, 14, 15, 16, 17, 18, 19, 20, 21, 22, 23, 24, 25, 26, 27, 28, 29, 30, 31, 32, 33, 34, 35, 36, 37, 38, 39, 40, 41, 42, 43, 44, 45, 46, 47, 48, 49, 50] (by decide +kernel) (by decide +kernel)
set_option maxRecDepth 20000 in
theorem gX9_solveAll_X9_free : GoodIn wsX9_solveAll (wsV RX9 209 RX9 yX9_free wsX9_free) := goodIn_app (goodIn_of _ (by decide +kernel)) ggX9_solveAll_X9_free
set_option maxRecDepth 20000 in
theorem ggX9_solveAll_X9_common : GoodIn wsX9_solveAll wsX9_common := goodIn_r _ [11] (by decide +kernel) (by decide +kernel)
set_option maxRecDepth 20000 in
theorem gX9_solveAll_X9_common : GoodIn wsX9_solveAll (va_wsS RX9 212 yX9_common wsX9_common) := goodIn_app (goodIn_of _ (by decide +kernel)) ggX9_solveAll_X9_common
theorem dX9_solveAll_0 : decode cX9_solveAll 0 = .ok (.iconst 0, 1) := by decide +kernel
theorem dX9_solveAll_1 : decode cX9_solveAll 1 = .ok (.istore_n 3, 1) := by decide +kernel
theorem dX9_solveAll_2 : decode cX9_solveAll 2 = .ok (.iload_n 3, 1) := by decide +kernel
theorem dX9_solveAll_3 : decode cX9_solveAll 3 = .ok (.iload_n 1, 1) := by decide +kernel
theorem dX9_solveAll_4 : decode cX9_solveAll 4 = .ok (.if_icmp .ge 150, 3) := by decide +kernel
theorem dX9_solveAll_7 : decode cX9_solveAll 7 = .ok (.iload_n 3, 1) := by decide +kernel
theorem dX9_solveAll_8 : decode cX9_solveAll 8 = .ok (.istore 4, 2) := by decide +kernel
theorem dX9_solveAll_10 : decode cX9_solveAll 10 = .ok (.aload_n 0, 1) := by decide +kernel
theorem dX9_solveAll_11 : decode cX9_solveAll 11 = .ok (.getfield 38, 3) := by decide +kernel
theorem dX9_solveAll_14 : decode cX9_solveAll 14 = .ok (.bipush 9, 2) := by decide +kernel
theorem dX9_solveAll_16 : decode cX9_solveAll 16 = .ok (.iload 4, 2) := by decide +kernel
theorem dX9_solveAll_18 : decode cX9_solveAll 18 = .ok (.imul, 1) := by decide +kernel
theorem dX9_solveAll_19 : decode cX9_solveAll 19 = .ok (.iload_n 3, 1) := by decide +kernel
theorem dX9_solveAll_20 : decode cX9_solveAll 20 = .ok (.iadd, 1) := by decide +kernel
theorem dX9_solveAll_21 : decode cX9_solveAll 21 = .ok (.laload, 1) := by decide +kernel
theorem dX9_solveAll_22 : decode cX9_solveAll 22 = .ok (.lconst 0, 1) := by decide +kernel
theorem dX9_solveAll_23 : decode cX9_solveAll 23 = .ok (.lcmp, 1) := by decide +kernel
theorem dX9_solveAll_24 : decode cX9_solveAll 24 = .ok (.ifCond .ne 9, 3) := by decide +kernel
theorem dX9_solveAll_27 : decode cX9_solveAll 27 = .ok (.iinc 4 1, 3) := by decide +kernel
theorem dX9_solveAll_30 : decode cX9_solveAll 30 = .ok (.goto (-20), 3) := by decide +kernel
theorem dX9_solveAll_33 : decode cX9_solveAll 33 = .ok (.iconst 0, 1) := by decide +kernel
theorem dX9_solveAll_34 : decode cX9_solveAll 34 = .ok (.istore 5, 2) := by decide +kernel
theorem dX9_solveAll_36 : decode cX9_solveAll 36 = .ok (.iload 5, 2) := by decide +kernel
theorem dX9_solveAll_38 : decode cX9_solveAll 38 = .ok (.iload_n 1, 1) := by decide +kernel
theorem dX9_solveAll_39 : decode cX9_solveAll 39 = .ok (.if_icmp .gt 63, 3) := by decide +kernel
theorem dX9_solveAll_42 : decode cX9_solveAll 42 = .ok (.aload_n 0, 1) := by decide +kernel
theorem dX9_solveAll_43 : decode cX9_solveAll 43 = .ok (.getfield 38, 3) := by decide +kernel
theorem dX9_solveAll_46 : decode cX9_solveAll 46 = .ok (.bipush 9, 2) := by decide +kernel
theorem dX9_solveAll_48 : decode cX9_solveAll 48 = .ok (.iload_n 3, 1) := by decide +kernel
theorem dX9_solveAll_49 : decode cX9_solveAll 49 = .ok (.imul, 1) := by decide +kernel
theorem dX9_solveAll_50 : decode cX9_solveAll 50 = .ok (.iload 5, 2) := by decide +kernel
theorem dX9_solveAll_52 : decode cX9_solveAll 52 = .ok (.iadd, 1) := by decide +kernel
theorem dX9_solveAll_53 : decode cX9_solveAll 53 = .ok (.laload, 1) := by decide +kernel
theorem dX9_solveAll_54 : decode cX9_solveAll 54 = .ok (.lstore 6, 2) := by decide +kernel
theorem dX9_solveAll_56 : decode cX9_solveAll 56 = .ok (.aload_n 0, 1) := by decide +kernel
theorem dX9_solveAll_57 : decode cX9_solveAll 57 = .ok (.getfield 38, 3) := by decide +kernel
theorem dX9_solveAll_60 : decode cX9_solveAll 60 = .ok (.bipush 9, 2) := by decide +kernel
theorem dX9_solveAll_62 : decode cX9_solveAll 62 = .ok (.iload_n 3, 1) := by decide +kernel
theorem dX9_solveAll_63 : decode cX9_solveAll 63 = .ok (.imul, 1) := by decide +kernel
theorem dX9_solveAll_64 : decode cX9_solveAll 64 = .ok (.iload 5, 2) := by decide +kernel
theorem dX9_solveAll_66 : decode cX9_solveAll 66 = .ok (.iadd, 1) := by decide +kernel
theorem dX9_solveAll_67 : decode cX9_solveAll 67 = .ok (.aload_n 0, 1) := by decide +kernel
theorem dX9_solveAll_68 : decode cX9_solveAll 68 = .ok (.getfield 38, 3) := by decide +kernel
theorem dX9_solveAll_71 : decode cX9_solveAll 71 = .ok (.bipush 9, 2) := by decide +kernel
theorem dX9_solveAll_73 : decode cX9_solveAll 73 = .ok (.iload 4, 2) := by decide +kernel
theorem dX9_solveAll_75 : decode cX9_solveAll 75 = .ok (.imul, 1) := by decide +kernel
theorem dX9_solveAll_76 : decode cX9_solveAll 76 = .ok (.iload 5, 2) := by decide +kernel
theorem dX9_solveAll_78 : decode cX9_solveAll 78 = .ok (.iadd, 1) := by decide +kernel
theorem dX9_solveAll_79 : decode cX9_solveAll 79 = .ok (.laload, 1) := by decide +kernel
theorem dX9_solveAll_80 : decode cX9_solveAll 80 = .ok (.lastore, 1) := by decide +kernel
theorem dX9_solveAll_81 : decode cX9_solveAll 81 = .ok (.aload_n 0, 1) := by decide +kernel
theorem dX9_solveAll_82 : decode cX9_solveAll 82 = .ok (.getfield 38, 3) := by decide +kernel
theorem dX9_solveAll_85 : decode cX9_solveAll 85 = .ok (.bipush 9, 2) := by decide +kernel
theorem dX9_solveAll_87 : decode cX9_solveAll 87 = .ok (.iload 4, 2) := by decide +kernel
theorem dX9_solveAll_89 : decode cX9_solveAll 89 = .ok (.imul, 1) := by decide +kernel
theorem dX9_solveAll_90 : decode cX9_solveAll 90 = .ok (.iload 5, 2) := by decide +kernel
theorem dX9_solveAll_92 : decode cX9_solveAll 92 = .ok (.iadd, 1) := by decide +kernel
theorem dX9_solveAll_93 : decode cX9_solveAll 93 = .ok (.lload 6, 2) := by decide +kernel
theorem dX9_solveAll_95 : decode cX9_solveAll 95 = .ok (.lastore, 1) := by decide +kernel
theorem dX9_solveAll_96 : decode cX9_solveAll 96 = .ok (.iinc 5 1, 3) := by decide +kernel
theorem dX9_solveAll_99 : decode cX9_solveAll 99 = .ok (.goto (-63), 3) := by decide +kernel
theorem dX9_solveAll_102 : decode cX9_solveAll 102 = .ok (.iconst 0, 1) := by decide +kernel
theorem dX9_solveAll_103 : decode cX9_solveAll 103 = .ok (.istore 5, 2) := by decide +kernel
theorem dX9_solveAll_105 : decode cX9_solveAll 105 = .ok (.iload 5, 2) := by decide +kernel
theorem dX9_solveAll_107 : decode cX9_solveAll 107 = .ok (.iload_n 1, 1) := by decide +kernel
theorem dX9_solveAll_108 : decode cX9_solveAll 108 = .ok (.if_icmp .ge 40, 3) := by decide +kernel
theorem dX9_solveAll_111 : decode cX9_solveAll 111 = .ok (.iload 5, 2) := by decide +kernel
theorem dX9_solveAll_113 : decode cX9_solveAll 113 = .ok (.iload_n 3, 1) := by decide +kernel
theorem dX9_solveAll_114 : decode cX9_solveAll 114 = .ok (.if_icmp .eq 28, 3) := by decide +kernel
theorem dX9_solveAll_117 : decode cX9_solveAll 117 = .ok (.aload_n 0, 1) := by decide +kernel
theorem dX9_solveAll_118 : decode cX9_solveAll 118 = .ok (.getfield 38, 3) := by decide +kernel
theorem dX9_solveAll_121 : decode cX9_solveAll 121 = .ok (.bipush 9, 2) := by decide +kernel
theorem dX9_solveAll_123 : decode cX9_solveAll 123 = .ok (.iload 5, 2) := by decide +kernel
theorem dX9_solveAll_125 : decode cX9_solveAll 125 = .ok (.imul, 1) := by decide +kernel
theorem dX9_solveAll_126 : decode cX9_solveAll 126 = .ok (.iload_n 3, 1) := by decide +kernel
theorem dX9_solveAll_127 : decode cX9_solveAll 127 = .ok (.iadd, 1) := by decide +kernel
theorem dX9_solveAll_128 : decode cX9_solveAll 128 = .ok (.laload, 1) := by decide +kernel
theorem dX9_solveAll_129 : decode cX9_solveAll 129 = .ok (.lconst 0, 1) := by decide +kernel
theorem dX9_solveAll_130 : decode cX9_solveAll 130 = .ok (.lcmp, 1) := by decide +kernel
theorem dX9_solveAll_131 : decode cX9_solveAll 131 = .ok (.ifCond .eq 11, 3) := by decide +kernel
theorem dX9_solveAll_134 : decode cX9_solveAll 134 = .ok (.aload_n 0, 1) := by decide +kernel
theorem dX9_solveAll_135 : decode cX9_solveAll 135 = .ok (.iload 5, 2) := by decide +kernel
theorem dX9_solveAll_137 : decode cX9_solveAll 137 = .ok (.iload_n 3, 1) := by decide +kernel
theorem dX9_solveAll_138 : decode cX9_solveAll 138 = .ok (.iload_n 1, 1) := by decide +kernel
theorem dX9_solveAll_139 : decode cX9_solveAll 139 = .ok (.invokevirtual 209, 3) := by decide +kernel
theorem dX9_solveAll_142 : decode cX9_solveAll 142 = .ok (.iinc 5 1, 3) := by decide +kernel
theorem dX9_solveAll_145 : decode cX9_solveAll 145 = .ok (.goto (-40), 3) := by decide +kernel
theorem dX9_solveAll_148 : decode cX9_solveAll 148 = .ok (.iinc 3 1, 3) := by decide +kernel
theorem dX9_solveAll_151 : decode cX9_solveAll 151 = .ok (.goto (-149), 3) := by decide +kernel
theorem dX9_solveAll_154 : decode cX9_solveAll 154 = .ok (.aload_n 0, 1) := by decide +kernel
theorem dX9_solveAll_155 : decode cX9_solveAll 155 = .ok (.getfield 38, 3) := by decide +kernel
theorem dX9_solveAll_158 : decode cX9_solveAll 158 = .ok (.bipush 9, 2) := by decide +kernel
theorem dX9_solveAll_160 : decode cX9_solveAll 160 = .ok (.iload_n 2, 1) := by decide +kernel
theorem dX9_solveAll_161 : decode cX9_solveAll 161 = .ok (.imul, 1) := by decide +kernel
theorem dX9_solveAll_162 : decode cX9_solveAll 162 = .ok (.iload_n 1, 1) := by decide +kernel
theorem dX9_solveAll_163 : decode cX9_solveAll 163 = .ok (.iadd, 1) := by decide +kernel
theorem dX9_solveAll_164 : decode cX9_solveAll 164 = .ok (.laload, 1) := by decide +kernel
theorem dX9_solveAll_165 : decode cX9_solveAll 165 = .ok (.lstore_n 3, 1) := by decide +kernel
theorem dX9_solveAll_166 : decode cX9_solveAll 166 = .ok (.aload_n 0, 1) := by decide +kernel
theorem dX9_solveAll_167 : decode cX9_solveAll 167 = .ok (.getfield 38, 3) := by decide +kernel
theorem dX9_solveAll_170 : decode cX9_solveAll 170 = .ok (.bipush 9, 2) := by decide +kernel
theorem dX9_solveAll_172 : decode cX9_solveAll 172 = .ok (.iload_n 2, 1) := by decide +kernel
theorem dX9_solveAll_173 : decode cX9_solveAll 173 = .ok (.imul, 1) := by decide +kernel
theorem dX9_solveAll_174 : decode cX9_solveAll 174 = .ok (.iload_n 2, 1) := by decide +kernel
theorem dX9_solveAll_175 : decode cX9_solveAll 175 = .ok (.iadd, 1) := by decide +kernel
theorem dX9_solveAll_176 : decode cX9_solveAll 176 = .ok (.laload, 1) := by decide +kernel
theorem dX9_solveAll_177 : decode cX9_solveAll 177 = .ok (.lstore 5, 2) := by decide +kernel
theorem dX9_solveAll_179 : decode cX9_solveAll 179 = .ok (.aload_n 0, 1) := by decide +kernel
theorem dX9_solveAll_180 : decode cX9_solveAll 180 = .ok (.lload 5, 2) := by decide +kernel
theorem dX9_solveAll_182 : decode cX9_solveAll 182 = .ok (.lconst 0, 1) := by decide +kernel
theorem dX9_solveAll_183 : decode cX9_solveAll 183 = .ok (.lcmp, 1) := by decide +kernel
theorem dX9_solveAll_184 : decode cX9_solveAll 184 = .ok (.ifCond .ge 8, 3) := by decide +kernel
theorem dX9_solveAll_187 : decode cX9_solveAll 187 = .ok (.lload_n 3, 1) := by decide +kernel
theorem dX9_solveAll_188 : decode cX9_solveAll 188 = .ok (.lneg, 1) := by decide +kernel
theorem dX9_solveAll_189 : decode cX9_solveAll 189 = .ok (.goto 4, 3) := by decide +kernel
theorem dX9_solveAll_192 : decode cX9_solveAll 192 = .ok (.lload_n 3, 1) := by decide +kernel
theorem dX9_solveAll_193 : decode cX9_solveAll 193 = .ok (.putfield 191, 3) := by decide +kernel
theorem dX9_solveAll_196 : decode cX9_solveAll 196 = .ok (.aload_n 0, 1) := by decide +kernel
theorem dX9_solveAll_197 : decode cX9_solveAll 197 = .ok (.lload 5, 2) := by decide +kernel
theorem dX9_solveAll_199 : decode cX9_solveAll 199 = .ok (.lconst 0, 1) := by decide +kernel
theorem dX9_solveAll_200 : decode cX9_solveAll 200 = .ok (.lcmp, 1) := by decide +kernel
theorem dX9_solveAll_201 : decode cX9_solveAll 201 = .ok (.ifCond .ge 9, 3) := by decide +kernel
theorem dX9_solveAll_204 : decode cX9_solveAll 204 = .ok (.lload 5, 2) := by decide +kernel
theorem dX9_solveAll_206 : decode cX9_solveAll 206 = .ok (.lneg, 1) := by decide +kernel
theorem dX9_solveAll_207 : decode cX9_solveAll 207 = .ok (.goto 5, 3) := by decide +kernel
theorem dX9_solveAll_210 : decode cX9_solveAll 210 = .ok (.lload 5, 2) := by decide +kernel
theorem dX9_solveAll_212 : decode cX9_solveAll 212 = .ok (.putfield 195, 3) := by decide +kernel
theorem dX9_solveAll_215 : decode cX9_solveAll 215 = .ok (.aload_n 0, 1) := by decide +kernel
theorem dX9_solveAll_216 : decode cX9_solveAll 216 = .ok (.getfield 191, 3) := by decide +kernel
theorem dX9_solveAll_219 : decode cX9_solveAll 219 = .ok (.aload_n 0, 1) := by decide +kernel
theorem dX9_solveAll_220 : decode cX9_solveAll 220 = .ok (.getfield 195, 3) := by decide +kernel
theorem dX9_solveAll_223 : decode cX9_solveAll 223 = .ok (.invokestatic 212, 3) := by decide +kernel
theorem dX9_solveAll_226 : decode cX9_solveAll 226 = .ok (.lstore 7, 2) := by decide +kernel
theorem dX9_solveAll_228 : decode cX9_solveAll 228 = .ok (.aload_n 0, 1) := by decide +kernel
theorem dX9_solveAll_229 : decode cX9_solveAll 229 = .ok (.dup, 1) := by decide +kernel
theorem dX9_solveAll_230 : decode cX9_solveAll 230 = .ok (.getfield 191, 3) := by decide +kernel
theorem dX9_solveAll_233 : decode cX9_solveAll 233 = .ok (.lload 7, 2) := by decide +kernel
theorem dX9_solveAll_235 : decode cX9_solveAll 235 = .ok (.ldiv, 1) := by decide +kernel
theorem dX9_solveAll_236 : decode cX9_solveAll 236 = .ok (.putfield 191, 3) := by decide +kernel
theorem dX9_solveAll_239 : decode cX9_solveAll 239 = .ok (.aload_n 0, 1) := by decide +kernel
theorem dX9_solveAll_240 : decode cX9_solveAll 240 = .ok (.dup, 1) := by decide +kernel
theorem dX9_solveAll_241 : decode cX9_solveAll 241 = .ok (.getfield 195, 3) := by decide +kernel
theorem dX9_solveAll_244 : decode cX9_solveAll 244 = .ok (.lload 7, 2) := by decide +kernel
theorem dX9_solveAll_246 : decode cX9_solveAll 246 = .ok (.ldiv, 1) := by decide +kernel
theorem dX9_solveAll_247 : decode cX9_solveAll 247 = .ok (.putfield 195, 3) := by decide +kernel
theorem dX9_solveAll_250 : decode cX9_solveAll 250 = .ok (.return_, 1) := by decide +kernel
theorem dX9_common_0 : decode cX9_common 0 = .ok (.lload_n 0, 1) := by decide +kernel
theorem dX9_common_1 : decode cX9_common 1 = .ok (.lconst 0, 1) := by decide +kernel
theorem dX9_common_2 : decode cX9_common 2 = .ok (.lcmp, 1) := by decide +kernel
theorem dX9_common_3 : decode cX9_common 3 = .ok (.ifCond .ge 8, 3) := by decide +kernel
theorem dX9_common_6 : decode cX9_common 6 = .ok (.lload_n 0, 1) := by decide +kernel
theorem dX9_common_7 : decode cX9_common 7 = .ok (.lneg, 1) := by decide +kernel
theorem dX9_common_8 : decode cX9_common 8 = .ok (.goto 4, 3) := by decide +kernel
theorem dX9_common_11 : decode cX9_common 11 = .ok (.lload_n 0, 1) := by decide +kernel
theorem dX9_common_12 : decode cX9_common 12 = .ok (.lstore 4, 2) := by decide +kernel
theorem dX9_common_14 : decode cX9_common 14 = .ok (.lload_n 2, 1) := by decide +kernel
theorem dX9_common_15 : decode cX9_common 15 = .ok (.lconst 0, 1) := by decide +kernel
theorem dX9_common_16 : decode cX9_common 16 = .ok (.lcmp, 1) := by decide +kernel
theorem dX9_common_17 : decode cX9_common 17 = .ok (.ifCond .ge 8, 3) := by decide +kernel
theorem dX9_common_20 : decode cX9_common 20 = .ok (.lload_n 2, 1) := by decide +kernel
theorem dX9_common_21 : decode cX9_common 21 = .ok (.lneg, 1) := by decide +kernel
theorem dX9_common_22 : decode cX9_common 22 = .ok (.goto 4, 3) := by decide +kernel
theorem dX9_common_25 : decode cX9_common 25 = .ok (.lload_n 2, 1) := by decide +kernel
theorem dX9_common_26 : decode cX9_common 26 = .ok (.lstore 6, 2) := by decide +kernel
theorem dX9_common_28 : decode cX9_common 28 = .ok (.lload 6, 2) := by decide +kernel
theorem dX9_common_30 : decode cX9_common 30 = .ok (.lconst 0, 1) := by decide +kernel
theorem dX9_common_31 : decode cX9_common 31 = .ok (.lcmp, 1) := by decide +kernel
theorem dX9_common_32 : decode cX9_common 32 = .ok (.ifCond .eq 21, 3) := by decide +kernel
theorem dX9_common_35 : decode cX9_common 35 = .ok (.lload 4, 2) := by decide +kernel
theorem dX9_common_37 : decode cX9_common 37 = .ok (.lload 6, 2) := by decide +kernel
theorem dX9_common_39 : decode cX9_common 39 = .ok (.lrem, 1) := by decide +kernel
theorem dX9_common_40 : decode cX9_common 40 = .ok (.lstore 8, 2) := by decide +kernel
theorem dX9_common_42 : decode cX9_common 42 = .ok (.lload 6, 2) := by decide +kernel
theorem dX9_common_44 : decode cX9_common 44 = .ok (.lstore 4, 2) := by decide +kernel
theorem dX9_common_46 : decode cX9_common 46 = .ok (.lload 8, 2) := by decide +kernel
theorem dX9_common_48 : decode cX9_common 48 = .ok (.lstore 6, 2) := by decide +kernel
theorem dX9_common_50 : decode cX9_common 50 = .ok (.goto (-22), 3) := by decide +kernel
theorem dX9_common_53 : decode cX9_common 53 = .ok (.lload 4, 2) := by decide +kernel
theorem dX9_common_55 : decode cX9_common 55 = .ok (.lreturn, 1) := by decide +kernel
set_option maxRecDepth 20000 in
theorem ggX9_free_X9_common : GoodIn wsX9_free wsX9_common := goodIn_r _ [5] (by decide +kernel) (by decide +kernel)
set_option maxRecDepth 20000 in
theorem gX9_free_X9_common : GoodIn wsX9_free (va_wsS RX9 212 yX9_common wsX9_common) := goodIn_app (goodIn_of _ (by decide +kernel)) ggX9_free_X9_common
theorem dX9_free_0 : decode cX9_free 0 = .ok (.aload_n 0, 1) := by decide +kernel
theorem dX9_free_1 : decode cX9_free 1 = .ok (.getfield 38, 3) := by decide +kernel
theorem dX9_free_4 : decode cX9_free 4 = .ok (.bipush 9, 2) := by decide +kernel
theorem dX9_free_6 : decode cX9_free 6 = .ok (.iload_n 1, 1) := by decide +kernel
theorem dX9_free_7 : decode cX9_free 7 = .ok (.imul, 1) := by decide +kernel
theorem dX9_free_8 : decode cX9_free 8 = .ok (.iload_n 2, 1) := by decide +kernel
theorem dX9_free_9 : decode cX9_free 9 = .ok (.iadd, 1) := by decide +kernel
theorem dX9_free_10 : decode cX9_free 10 = .ok (.laload, 1) := by decide +kernel
theorem dX9_free_11 : decode cX9_free 11 = .ok (.lstore 4, 2) := by decide +kernel
theorem dX9_free_13 : decode cX9_free 13 = .ok (.aload_n 0, 1) := by decide +kernel
theorem dX9_free_14 : decode cX9_free 14 = .ok (.getfield 38, 3) := by decide +kernel
theorem dX9_free_17 : decode cX9_free 17 = .ok (.bipush 9, 2) := by decide +kernel
theorem dX9_free_19 : decode cX9_free 19 = .ok (.iload_n 2, 1) := by decide +kernel
theorem dX9_free_20 : decode cX9_free 20 = .ok (.imul, 1) := by decide +kernel
theorem dX9_free_21 : decode cX9_free 21 = .ok (.iload_n 2, 1) := by decide +kernel
theorem dX9_free_22 : decode cX9_free 22 = .ok (.iadd, 1) := by decide +kernel
theorem dX9_free_23 : decode cX9_free 23 = .ok (.laload, 1) := by decide +kernel
theorem dX9_free_24 : decode cX9_free 24 = .ok (.lstore 6, 2) := by decide +kernel
theorem dX9_free_26 : decode cX9_free 26 = .ok (.lload 4, 2) := by decide +kernel
theorem dX9_free_28 : decode cX9_free 28 = .ok (.lload 6, 2) := by decide +kernel
theorem dX9_free_30 : decode cX9_free 30 = .ok (.invokestatic 212, 3) := by decide +kernel
theorem dX9_free_33 : decode cX9_free 33 = .ok (.lstore 8, 2) := by decide +kernel
theorem dX9_free_35 : decode cX9_free 35 = .ok (.lconst 0, 1) := by decide +kernel
theorem dX9_free_36 : decode cX9_free 36 = .ok (.lstore 10, 2) := by decide +kernel
theorem dX9_free_38 : decode cX9_free 38 = .ok (.iconst 0, 1) := by decide +kernel
theorem dX9_free_39 : decode cX9_free 39 = .ok (.istore 12, 2) := by decide +kernel
theorem dX9_free_41 : decode cX9_free 41 = .ok (.iload 12, 2) := by decide +kernel
theorem dX9_free_43 : decode cX9_free 43 = .ok (.iload_n 3, 1) := by decide +kernel
theorem dX9_free_44 : decode cX9_free 44 = .ok (.if_icmp .gt 77, 3) := by decide +kernel
theorem dX9_free_47 : decode cX9_free 47 = .ok (.aload_n 0, 1) := by decide +kernel
theorem dX9_free_48 : decode cX9_free 48 = .ok (.getfield 38, 3) := by decide +kernel
theorem dX9_free_51 : decode cX9_free 51 = .ok (.bipush 9, 2) := by decide +kernel
theorem dX9_free_53 : decode cX9_free 53 = .ok (.iload_n 1, 1) := by decide +kernel
theorem dX9_free_54 : decode cX9_free 54 = .ok (.imul, 1) := by decide +kernel
theorem dX9_free_55 : decode cX9_free 55 = .ok (.iload 12, 2) := by decide +kernel
theorem dX9_free_57 : decode cX9_free 57 = .ok (.iadd, 1) := by decide +kernel
theorem dX9_free_58 : decode cX9_free 58 = .ok (.aload_n 0, 1) := by decide +kernel
theorem dX9_free_59 : decode cX9_free 59 = .ok (.getfield 38, 3) := by decide +kernel
theorem dX9_free_62 : decode cX9_free 62 = .ok (.bipush 9, 2) := by decide +kernel
theorem dX9_free_64 : decode cX9_free 64 = .ok (.iload_n 1, 1) := by decide +kernel
theorem dX9_free_65 : decode cX9_free 65 = .ok (.imul, 1) := by decide +kernel
theorem dX9_free_66 : decode cX9_free 66 = .ok (.iload 12, 2) := by decide +kernel
theorem dX9_free_68 : decode cX9_free 68 = .ok (.iadd, 1) := by decide +kernel
theorem dX9_free_69 : decode cX9_free 69 = .ok (.laload, 1) := by decide +kernel
theorem dX9_free_70 : decode cX9_free 70 = .ok (.lload 6, 2) := by decide +kernel
theorem dX9_free_72 : decode cX9_free 72 = .ok (.lload 8, 2) := by decide +kernel
theorem dX9_free_74 : decode cX9_free 74 = .ok (.ldiv, 1) := by decide +kernel
theorem dX9_free_75 : decode cX9_free 75 = .ok (.lmul, 1) := by decide +kernel
theorem dX9_free_76 : decode cX9_free 76 = .ok (.aload_n 0, 1) := by decide +kernel
theorem dX9_free_77 : decode cX9_free 77 = .ok (.getfield 38, 3) := by decide +kernel
theorem dX9_free_80 : decode cX9_free 80 = .ok (.bipush 9, 2) := by decide +kernel
theorem dX9_free_82 : decode cX9_free 82 = .ok (.iload_n 2, 1) := by decide +kernel
theorem dX9_free_83 : decode cX9_free 83 = .ok (.imul, 1) := by decide +kernel
theorem dX9_free_84 : decode cX9_free 84 = .ok (.iload 12, 2) := by decide +kernel
theorem dX9_free_86 : decode cX9_free 86 = .ok (.iadd, 1) := by decide +kernel
theorem dX9_free_87 : decode cX9_free 87 = .ok (.laload, 1) := by decide +kernel
theorem dX9_free_88 : decode cX9_free 88 = .ok (.lload 4, 2) := by decide +kernel
theorem dX9_free_90 : decode cX9_free 90 = .ok (.lload 8, 2) := by decide +kernel
theorem dX9_free_92 : decode cX9_free 92 = .ok (.ldiv, 1) := by decide +kernel
theorem dX9_free_93 : decode cX9_free 93 = .ok (.lmul, 1) := by decide +kernel
theorem dX9_free_94 : decode cX9_free 94 = .ok (.lsub, 1) := by decide +kernel
theorem dX9_free_95 : decode cX9_free 95 = .ok (.lastore, 1) := by decide +kernel
theorem dX9_free_96 : decode cX9_free 96 = .ok (.lload 10, 2) := by decide +kernel
theorem dX9_free_98 : decode cX9_free 98 = .ok (.aload_n 0, 1) := by decide +kernel
theorem dX9_free_99 : decode cX9_free 99 = .ok (.getfield 38, 3) := by decide +kernel
theorem dX9_free_102 : decode cX9_free 102 = .ok (.bipush 9, 2) := by decide +kernel
theorem dX9_free_104 : decode cX9_free 104 = .ok (.iload_n 1, 1) := by decide +kernel
theorem dX9_free_105 : decode cX9_free 105 = .ok (.imul, 1) := by decide +kernel
theorem dX9_free_106 : decode cX9_free 106 = .ok (.iload 12, 2) := by decide +kernel
theorem dX9_free_108 : decode cX9_free 108 = .ok (.iadd, 1) := by decide +kernel
theorem dX9_free_109 : decode cX9_free 109 = .ok (.laload, 1) := by decide +kernel
theorem dX9_free_110 : decode cX9_free 110 = .ok (.invokestatic 212, 3) := by decide +kernel
theorem dX9_free_113 : decode cX9_free 113 = .ok (.lstore 10, 2) := by decide +kernel
theorem dX9_free_115 : decode cX9_free 115 = .ok (.iinc 12 1, 3) := by decide +kernel
theorem dX9_free_118 : decode cX9_free 118 = .ok (.goto (-77), 3) := by decide +kernel
theorem dX9_free_121 : decode cX9_free 121 = .ok (.iconst 0, 1) := by decide +kernel
theorem dX9_free_122 : decode cX9_free 122 = .ok (.istore 12, 2) := by decide +kernel
theorem dX9_free_124 : decode cX9_free 124 = .ok (.iload 12, 2) := by decide +kernel
theorem dX9_free_126 : decode cX9_free 126 = .ok (.iload_n 3, 1) := by decide +kernel
theorem dX9_free_127 : decode cX9_free 127 = .ok (.if_icmp .gt 33, 3) := by decide +kernel
theorem dX9_free_130 : decode cX9_free 130 = .ok (.lload 10, 2) := by decide +kernel
theorem dX9_free_132 : decode cX9_free 132 = .ok (.lconst 1, 1) := by decide +kernel
theorem dX9_free_133 : decode cX9_free 133 = .ok (.lcmp, 1) := by decide +kernel
theorem dX9_free_134 : decode cX9_free 134 = .ok (.ifCond .le 26, 3) := by decide +kernel
theorem dX9_free_137 : decode cX9_free 137 = .ok (.aload_n 0, 1) := by decide +kernel
theorem dX9_free_138 : decode cX9_free 138 = .ok (.getfield 38, 3) := by decide +kernel
theorem dX9_free_141 : decode cX9_free 141 = .ok (.bipush 9, 2) := by decide +kernel
theorem dX9_free_143 : decode cX9_free 143 = .ok (.iload_n 1, 1) := by decide +kernel
theorem dX9_free_144 : decode cX9_free 144 = .ok (.imul, 1) := by decide +kernel
theorem dX9_free_145 : decode cX9_free 145 = .ok (.iload 12, 2) := by decide +kernel
theorem dX9_free_147 : decode cX9_free 147 = .ok (.iadd, 1) := by decide +kernel
theorem dX9_free_148 : decode cX9_free 148 = .ok (.dup2, 1) := by decide +kernel
theorem dX9_free_149 : decode cX9_free 149 = .ok (.laload, 1) := by decide +kernel
theorem dX9_free_150 : decode cX9_free 150 = .ok (.lload 10, 2) := by decide +kernel
theorem dX9_free_152 : decode cX9_free 152 = .ok (.ldiv, 1) := by decide +kernel
theorem dX9_free_153 : decode cX9_free 153 = .ok (.lastore, 1) := by decide +kernel
theorem dX9_free_154 : decode cX9_free 154 = .ok (.iinc 12 1, 3) := by decide +kernel
theorem dX9_free_157 : decode cX9_free 157 = .ok (.goto (-33), 3) := by decide +kernel
theorem dX9_free_160 : decode cX9_free 160 = .ok (.return_, 1) := by decide +kernel
set_option maxRecDepth 20000 in
theorem ggX9_mean_X9_isSeat : GoodIn wsX9_mean wsX9_isSeat := goodIn_r _ [9, 10, 11, 12, 8, 13, 41, 42, 43, 44, 45, 46, 47, 48, 49, 50, 51, 52, 53, 54, 55, 56, 57, 58, 59, 60, 61, 62, 63, 64, 65, 66, 67, 68, 69, 70, 71, 72, 73, 74, 75, 76, 77, 78, 79] (by decide +kernel) (by decide +kernel)
set_option maxRecDepth 20000 in
theorem gX9_mean_X9_isSeat : GoodIn wsX9_mean (wsV RX9 161 RX9 yX9_isSeat wsX9_isSeat) := goodIn_app (goodIn_of _ (by decide +kernel)) ggX9_mean_X9_isSeat
set_option maxRecDepth 20000 in
theorem ggX9_mean_X9_layMean : GoodIn wsX9_mean wsX9_layMean := goodIn_r _ [17, 3, 4, 10, 18, 19, 20, 21, 8, 22, 23, 24, 25, 26, 27, 28, 29, 30, 31, 32, 33, 34, 35, 36, 37, 38, 39, 40, 41, 42, 43, 44, 45, 46, 47, 48, 49, 50, 51, 52, 53, 54, 55, 56, 57, 58, 59, 60, 61, 62, 63, 64, 65, 66, 67, 68, 69, 70, 71, 72, 73, 74, 75, 76, 77, 78, 79] (by decide +kernel) (by decide +kernel)
set_option maxRecDepth 20000 in
theorem gX9_mean_X9_layMean : GoodIn wsX9_mean (wsV RX9 216 RX9 yX9_layMean wsX9_layMean) := goodIn_app (goodIn_of _ (by decide +kernel)) ggX9_mean_X9_layMean
theorem dX9_mean_0 : decode cX9_mean 0 = .ok (.aload_n 0, 1) := by decide +kernel
theorem dX9_mean_1 : decode cX9_mean 1 = .ok (.iload_n 1, 1) := by decide +kernel
theorem dX9_mean_2 : decode cX9_mean 2 = .ok (.invokevirtual 161, 3) := by decide +kernel
theorem dX9_mean_5 : decode cX9_mean 5 = .ok (.ifCond .eq 11, 3) := by decide +kernel
theorem dX9_mean_8 : decode cX9_mean 8 = .ok (.aload_n 0, 1) := by decide +kernel
theorem dX9_mean_9 : decode cX9_mean 9 = .ok (.iload_n 2, 1) := by decide +kernel
theorem dX9_mean_10 : decode cX9_mean 10 = .ok (.invokevirtual 161, 3) := by decide +kernel
theorem dX9_mean_13 : decode cX9_mean 13 = .ok (.ifCond .ne 7, 3) := by decide +kernel
theorem dX9_mean_16 : decode cX9_mean 16 = .ok (.ldc2_w 167, 3) := by decide +kernel
theorem dX9_mean_19 : decode cX9_mean 19 = .ok (.lreturn, 1) := by decide +kernel
theorem dX9_mean_20 : decode cX9_mean 20 = .ok (.aload_n 0, 1) := by decide +kernel
theorem dX9_mean_21 : decode cX9_mean 21 = .ok (.iload_n 1, 1) := by decide +kernel
theorem dX9_mean_22 : decode cX9_mean 22 = .ok (.iload_n 2, 1) := by decide +kernel
theorem dX9_mean_23 : decode cX9_mean 23 = .ok (.invokevirtual 216, 3) := by decide +kernel
theorem dX9_mean_26 : decode cX9_mean 26 = .ok (.ifCond .ne 9, 3) := by decide +kernel
theorem dX9_mean_29 : decode cX9_mean 29 = .ok (.ldc2_w 220, 3) := by decide +kernel
theorem dX9_mean_32 : decode cX9_mean 32 = .ok (.goto 18, 3) := by decide +kernel
theorem dX9_mean_35 : decode cX9_mean 35 = .ok (.iload_n 3, 1) := by decide +kernel
theorem dX9_mean_36 : decode cX9_mean 36 = .ok (.ifCond .eq 10, 3) := by decide +kernel
theorem dX9_mean_39 : decode cX9_mean 39 = .ok (.aload_n 0, 1) := by decide +kernel
theorem dX9_mean_40 : decode cX9_mean 40 = .ok (.getfield 191, 3) := by decide +kernel
theorem dX9_mean_43 : decode cX9_mean 43 = .ok (.goto 7, 3) := by decide +kernel
theorem dX9_mean_46 : decode cX9_mean 46 = .ok (.aload_n 0, 1) := by decide +kernel
theorem dX9_mean_47 : decode cX9_mean 47 = .ok (.getfield 195, 3) := by decide +kernel
theorem dX9_mean_50 : decode cX9_mean 50 = .ok (.lreturn, 1) := by decide +kernel
set_option maxRecDepth 20000 in
theorem ggX9_round_X9_isSeat : GoodIn wsX9_round wsX9_isSeat := goodIn_r _ [9, 10, 11, 12, 8, 13, 44, 45, 46, 47, 48, 49, 50, 51, 52, 53, 54, 55, 56, 57, 58, 59, 60, 61, 62, 63, 64, 65, 66, 67, 68, 69, 70, 71, 72, 73, 74, 75, 76, 77, 78, 79, 80, 81, 82] (by decide +kernel) (by decide +kernel)
set_option maxRecDepth 20000 in
theorem gX9_round_X9_isSeat : GoodIn wsX9_round (wsV RX9 161 RX9 yX9_isSeat wsX9_isSeat) := goodIn_app (goodIn_of _ (by decide +kernel)) ggX9_round_X9_isSeat
set_option maxRecDepth 20000 in
theorem ggX9_round_X9_layMean : GoodIn wsX9_round wsX9_layMean := goodIn_r _ [17, 3, 4, 10, 18, 19, 20, 21, 8, 22, 23, 24, 25, 26, 27, 28, 29, 30, 31, 32, 33, 34, 35, 36, 37, 38, 39, 40, 44, 45, 46, 47, 48, 49, 50, 51, 52, 53, 54, 55, 56, 57, 58, 59, 60, 61, 62, 63, 64, 65, 66, 67, 68, 69, 70, 71, 72, 73, 74, 75, 76, 77, 78, 79, 80, 81, 82] (by decide +kernel) (by decide +kernel)
set_option maxRecDepth 20000 in
theorem gX9_round_X9_layMean : GoodIn wsX9_round (wsV RX9 216 RX9 yX9_layMean wsX9_layMean) := goodIn_app (goodIn_of _ (by decide +kernel)) ggX9_round_X9_layMean
set_option maxRecDepth 20000 in
theorem ggX9_round_X9_common : GoodIn wsX9_round wsX9_common := goodIn_r _ [40] (by decide +kernel) (by decide +kernel)
set_option maxRecDepth 20000 in
theorem gX9_round_X9_common : GoodIn wsX9_round (va_wsS RX9 212 yX9_common wsX9_common) := goodIn_app (goodIn_of _ (by decide +kernel)) ggX9_round_X9_common
set_option maxRecDepth 20000 in
theorem ggX9_round_X9_part : GoodIn wsX9_round wsX9_part := goodIn_r _ [43] (by decide +kernel) (by decide +kernel)
set_option maxRecDepth 20000 in
theorem gX9_round_X9_part : GoodIn wsX9_round (va_wsS RX9 181 yX9_part wsX9_part) := goodIn_app (goodIn_of _ (by decide +kernel)) ggX9_round_X9_part
theorem dX9_round_0 : decode cX9_round 0 = .ok (.aload_n 0, 1) := by decide +kernel
theorem dX9_round_1 : decode cX9_round 1 = .ok (.iload_n 1, 1) := by decide +kernel
theorem dX9_round_2 : decode cX9_round 2 = .ok (.invokevirtual 161, 3) := by decide +kernel
theorem dX9_round_5 : decode cX9_round 5 = .ok (.ifCond .eq 11, 3) := by decide +kernel
theorem dX9_round_8 : decode cX9_round 8 = .ok (.aload_n 0, 1) := by decide +kernel
theorem dX9_round_9 : decode cX9_round 9 = .ok (.iload_n 2, 1) := by decide +kernel
theorem dX9_round_10 : decode cX9_round 10 = .ok (.invokevirtual 161, 3) := by decide +kernel
theorem dX9_round_13 : decode cX9_round 13 = .ok (.ifCond .ne 7, 3) := by decide +kernel
theorem dX9_round_16 : decode cX9_round 16 = .ok (.ldc2_w 167, 3) := by decide +kernel
theorem dX9_round_19 : decode cX9_round 19 = .ok (.lreturn, 1) := by decide +kernel
theorem dX9_round_20 : decode cX9_round 20 = .ok (.aload_n 0, 1) := by decide +kernel
theorem dX9_round_21 : decode cX9_round 21 = .ok (.iload_n 1, 1) := by decide +kernel
theorem dX9_round_22 : decode cX9_round 22 = .ok (.iload_n 2, 1) := by decide +kernel
theorem dX9_round_23 : decode cX9_round 23 = .ok (.invokevirtual 216, 3) := by decide +kernel
theorem dX9_round_26 : decode cX9_round 26 = .ok (.ifCond .ne 7, 3) := by decide +kernel
theorem dX9_round_29 : decode cX9_round 29 = .ok (.ldc2_w 220, 3) := by decide +kernel
theorem dX9_round_32 : decode cX9_round 32 = .ok (.lreturn, 1) := by decide +kernel
theorem dX9_round_33 : decode cX9_round 33 = .ok (.aload_n 0, 1) := by decide +kernel
theorem dX9_round_34 : decode cX9_round 34 = .ok (.getfield 191, 3) := by decide +kernel
theorem dX9_round_37 : decode cX9_round 37 = .ok (.lstore 4, 2) := by decide +kernel
theorem dX9_round_39 : decode cX9_round 39 = .ok (.aload_n 0, 1) := by decide +kernel
theorem dX9_round_40 : decode cX9_round 40 = .ok (.getfield 195, 3) := by decide +kernel
theorem dX9_round_43 : decode cX9_round 43 = .ok (.lstore 6, 2) := by decide +kernel
theorem dX9_round_45 : decode cX9_round 45 = .ok (.aload_n 0, 1) := by decide +kernel
theorem dX9_round_46 : decode cX9_round 46 = .ok (.iload_n 2, 1) := by decide +kernel
theorem dX9_round_47 : decode cX9_round 47 = .ok (.iload_n 1, 1) := by decide +kernel
theorem dX9_round_48 : decode cX9_round 48 = .ok (.invokevirtual 216, 3) := by decide +kernel
theorem dX9_round_51 : decode cX9_round 51 = .ok (.ifCond .ne 7, 3) := by decide +kernel
theorem dX9_round_54 : decode cX9_round 54 = .ok (.ldc2_w 220, 3) := by decide +kernel
theorem dX9_round_57 : decode cX9_round 57 = .ok (.lreturn, 1) := by decide +kernel
theorem dX9_round_58 : decode cX9_round 58 = .ok (.lload 6, 2) := by decide +kernel
theorem dX9_round_60 : decode cX9_round 60 = .ok (.aload_n 0, 1) := by decide +kernel
theorem dX9_round_61 : decode cX9_round 61 = .ok (.getfield 195, 3) := by decide +kernel
theorem dX9_round_64 : decode cX9_round 64 = .ok (.invokestatic 212, 3) := by decide +kernel
theorem dX9_round_67 : decode cX9_round 67 = .ok (.lstore 8, 2) := by decide +kernel
theorem dX9_round_69 : decode cX9_round 69 = .ok (.lload 4, 2) := by decide +kernel
theorem dX9_round_71 : decode cX9_round 71 = .ok (.aload_n 0, 1) := by decide +kernel
theorem dX9_round_72 : decode cX9_round 72 = .ok (.getfield 195, 3) := by decide +kernel
theorem dX9_round_75 : decode cX9_round 75 = .ok (.lload 8, 2) := by decide +kernel
theorem dX9_round_77 : decode cX9_round 77 = .ok (.ldiv, 1) := by decide +kernel
theorem dX9_round_78 : decode cX9_round 78 = .ok (.lmul, 1) := by decide +kernel
theorem dX9_round_79 : decode cX9_round 79 = .ok (.aload_n 0, 1) := by decide +kernel
theorem dX9_round_80 : decode cX9_round 80 = .ok (.getfield 191, 3) := by decide +kernel
theorem dX9_round_83 : decode cX9_round 83 = .ok (.lload 6, 2) := by decide +kernel
theorem dX9_round_85 : decode cX9_round 85 = .ok (.lload 8, 2) := by decide +kernel
theorem dX9_round_87 : decode cX9_round 87 = .ok (.ldiv, 1) := by decide +kernel
theorem dX9_round_88 : decode cX9_round 88 = .ok (.lmul, 1) := by decide +kernel
theorem dX9_round_89 : decode cX9_round 89 = .ok (.ladd, 1) := by decide +kernel
theorem dX9_round_90 : decode cX9_round 90 = .ok (.lload 6, 2) := by decide +kernel
theorem dX9_round_92 : decode cX9_round 92 = .ok (.lload 8, 2) := by decide +kernel
theorem dX9_round_94 : decode cX9_round 94 = .ok (.ldiv, 1) := by decide +kernel
theorem dX9_round_95 : decode cX9_round 95 = .ok (.aload_n 0, 1) := by decide +kernel
theorem dX9_round_96 : decode cX9_round 96 = .ok (.getfield 195, 3) := by decide +kernel
theorem dX9_round_99 : decode cX9_round 99 = .ok (.lmul, 1) := by decide +kernel
theorem dX9_round_100 : decode cX9_round 100 = .ok (.iload_n 3, 1) := by decide +kernel
theorem dX9_round_101 : decode cX9_round 101 = .ok (.invokestatic 181, 3) := by decide +kernel
theorem dX9_round_104 : decode cX9_round 104 = .ok (.lreturn, 1) := by decide +kernel
set_option maxRecDepth 20000 in
theorem ggX9_meet_X9_isSeat : GoodIn wsX9_meet wsX9_isSeat := goodIn_r _ [12, 13, 14, 15, 11, 16, 23, 24, 25, 26, 27, 28, 29, 30, 31, 32, 33, 34, 35, 36, 37, 38, 39, 40, 41, 42, 43, 44, 45, 46, 47, 48, 49, 50, 51, 52, 53, 54, 55, 56, 57, 58, 59, 60, 61] (by decide +kernel) (by decide +kernel)
set_option maxRecDepth 20000 in
theorem gX9_meet_X9_isSeat : GoodIn wsX9_meet (wsV RX9 161 RX9 yX9_isSeat wsX9_isSeat) := goodIn_app (goodIn_of _ (by decide +kernel)) ggX9_meet_X9_isSeat
set_option maxRecDepth 20000 in
theorem ggX9_meet_X9_in : GoodIn wsX9_meet wsX9_in := goodIn_r _ [16] (by decide +kernel) (by decide +kernel)
set_option maxRecDepth 20000 in
theorem gX9_meet_X9_in : GoodIn wsX9_meet (va_wsS RX9 90 yX9_in wsX9_in) := goodIn_app (goodIn_of _ (by decide +kernel)) ggX9_meet_X9_in
set_option maxRecDepth 20000 in
theorem ggX9_meet_X9_power : GoodIn wsX9_meet wsX9_power := goodIn_r _ [19] (by decide +kernel) (by decide +kernel)
set_option maxRecDepth 20000 in
theorem gX9_meet_X9_power : GoodIn wsX9_meet (va_wsS RX9 177 yX9_power wsX9_power) := goodIn_app (goodIn_of _ (by decide +kernel)) ggX9_meet_X9_power
set_option maxRecDepth 20000 in
theorem ggX9_meet_X9_part : GoodIn wsX9_meet wsX9_part := goodIn_r _ [22] (by decide +kernel) (by decide +kernel)
set_option maxRecDepth 20000 in
theorem gX9_meet_X9_part : GoodIn wsX9_meet (va_wsS RX9 181 yX9_part wsX9_part) := goodIn_app (goodIn_of _ (by decide +kernel)) ggX9_meet_X9_part
theorem dX9_meet_0 : decode cX9_meet 0 = .ok (.aload_n 0, 1) := by decide +kernel
theorem dX9_meet_1 : decode cX9_meet 1 = .ok (.iload_n 1, 1) := by decide +kernel
theorem dX9_meet_2 : decode cX9_meet 2 = .ok (.invokevirtual 161, 3) := by decide +kernel
theorem dX9_meet_5 : decode cX9_meet 5 = .ok (.ifCond .eq 11, 3) := by decide +kernel
theorem dX9_meet_8 : decode cX9_meet 8 = .ok (.aload_n 0, 1) := by decide +kernel
theorem dX9_meet_9 : decode cX9_meet 9 = .ok (.iload_n 2, 1) := by decide +kernel
theorem dX9_meet_10 : decode cX9_meet 10 = .ok (.invokevirtual 161, 3) := by decide +kernel
theorem dX9_meet_13 : decode cX9_meet 13 = .ok (.ifCond .ne 7, 3) := by decide +kernel
theorem dX9_meet_16 : decode cX9_meet 16 = .ok (.ldc2_w 167, 3) := by decide +kernel
theorem dX9_meet_19 : decode cX9_meet 19 = .ok (.lreturn, 1) := by decide +kernel
theorem dX9_meet_20 : decode cX9_meet 20 = .ok (.iload_n 3, 1) := by decide +kernel
theorem dX9_meet_21 : decode cX9_meet 21 = .ok (.i2l, 1) := by decide +kernel
theorem dX9_meet_22 : decode cX9_meet 22 = .ok (.lconst 0, 1) := by decide +kernel
theorem dX9_meet_23 : decode cX9_meet 23 = .ok (.ldc2_w 88, 3) := by decide +kernel
theorem dX9_meet_26 : decode cX9_meet 26 = .ok (.invokestatic 90, 3) := by decide +kernel
theorem dX9_meet_29 : decode cX9_meet 29 = .ok (.ifCond .ne 7, 3) := by decide +kernel
theorem dX9_meet_32 : decode cX9_meet 32 = .ok (.ldc2_w 171, 3) := by decide +kernel
theorem dX9_meet_35 : decode cX9_meet 35 = .ok (.lreturn, 1) := by decide +kernel
theorem dX9_meet_36 : decode cX9_meet 36 = .ok (.iload_n 1, 1) := by decide +kernel
theorem dX9_meet_37 : decode cX9_meet 37 = .ok (.iload_n 2, 1) := by decide +kernel
theorem dX9_meet_38 : decode cX9_meet 38 = .ok (.if_icmp .ne 7, 3) := by decide +kernel
theorem dX9_meet_41 : decode cX9_meet 41 = .ok (.lconst 1, 1) := by decide +kernel
theorem dX9_meet_42 : decode cX9_meet 42 = .ok (.goto 4, 3) := by decide +kernel
theorem dX9_meet_45 : decode cX9_meet 45 = .ok (.lconst 0, 1) := by decide +kernel
theorem dX9_meet_46 : decode cX9_meet 46 = .ok (.lstore 5, 2) := by decide +kernel
theorem dX9_meet_48 : decode cX9_meet 48 = .ok (.iconst 0, 1) := by decide +kernel
theorem dX9_meet_49 : decode cX9_meet 49 = .ok (.istore 7, 2) := by decide +kernel
theorem dX9_meet_51 : decode cX9_meet 51 = .ok (.iload 7, 2) := by decide +kernel
theorem dX9_meet_53 : decode cX9_meet 53 = .ok (.bipush 64, 2) := by decide +kernel
theorem dX9_meet_55 : decode cX9_meet 55 = .ok (.if_icmp .ge 39, 3) := by decide +kernel
theorem dX9_meet_58 : decode cX9_meet 58 = .ok (.aload_n 0, 1) := by decide +kernel
theorem dX9_meet_59 : decode cX9_meet 59 = .ok (.getfield 25, 3) := by decide +kernel
theorem dX9_meet_62 : decode cX9_meet 62 = .ok (.iload 7, 2) := by decide +kernel
theorem dX9_meet_64 : decode cX9_meet 64 = .ok (.iload 7, 2) := by decide +kernel
theorem dX9_meet_66 : decode cX9_meet 66 = .ok (.bipush 8, 2) := by decide +kernel
theorem dX9_meet_68 : decode cX9_meet 68 = .ok (.iload_n 1, 1) := by decide +kernel
theorem dX9_meet_69 : decode cX9_meet 69 = .ok (.imul, 1) := by decide +kernel
theorem dX9_meet_70 : decode cX9_meet 70 = .ok (.iload_n 2, 1) := by decide +kernel
theorem dX9_meet_71 : decode cX9_meet 71 = .ok (.iadd, 1) := by decide +kernel
theorem dX9_meet_72 : decode cX9_meet 72 = .ok (.if_icmp .ne 14, 3) := by decide +kernel
theorem dX9_meet_75 : decode cX9_meet 75 = .ok (.lload 5, 2) := by decide +kernel
theorem dX9_meet_77 : decode cX9_meet 77 = .ok (.lconst 0, 1) := by decide +kernel
theorem dX9_meet_78 : decode cX9_meet 78 = .ok (.lcmp, 1) := by decide +kernel
theorem dX9_meet_79 : decode cX9_meet 79 = .ok (.ifCond .ne 7, 3) := by decide +kernel
theorem dX9_meet_82 : decode cX9_meet 82 = .ok (.lconst 1, 1) := by decide +kernel
theorem dX9_meet_83 : decode cX9_meet 83 = .ok (.goto 4, 3) := by decide +kernel
theorem dX9_meet_86 : decode cX9_meet 86 = .ok (.lconst 0, 1) := by decide +kernel
theorem dX9_meet_87 : decode cX9_meet 87 = .ok (.lastore, 1) := by decide +kernel
theorem dX9_meet_88 : decode cX9_meet 88 = .ok (.iinc 7 1, 3) := by decide +kernel
theorem dX9_meet_91 : decode cX9_meet 91 = .ok (.goto (-40), 3) := by decide +kernel
theorem dX9_meet_94 : decode cX9_meet 94 = .ok (.iconst 0, 1) := by decide +kernel
theorem dX9_meet_95 : decode cX9_meet 95 = .ok (.istore 7, 2) := by decide +kernel
theorem dX9_meet_97 : decode cX9_meet 97 = .ok (.iload 7, 2) := by decide +kernel
theorem dX9_meet_99 : decode cX9_meet 99 = .ok (.iload_n 3, 1) := by decide +kernel
theorem dX9_meet_100 : decode cX9_meet 100 = .ok (.if_icmp .ge 210, 3) := by decide +kernel
theorem dX9_meet_103 : decode cX9_meet 103 = .ok (.lload 5, 2) := by decide +kernel
theorem dX9_meet_105 : decode cX9_meet 105 = .ok (.ldc2_w 222, 3) := by decide +kernel
theorem dX9_meet_108 : decode cX9_meet 108 = .ok (.lmul, 1) := by decide +kernel
theorem dX9_meet_109 : decode cX9_meet 109 = .ok (.lstore 5, 2) := by decide +kernel
theorem dX9_meet_111 : decode cX9_meet 111 = .ok (.iconst 0, 1) := by decide +kernel
theorem dX9_meet_112 : decode cX9_meet 112 = .ok (.istore 8, 2) := by decide +kernel
theorem dX9_meet_114 : decode cX9_meet 114 = .ok (.iload 8, 2) := by decide +kernel
theorem dX9_meet_116 : decode cX9_meet 116 = .ok (.bipush 64, 2) := by decide +kernel
theorem dX9_meet_118 : decode cX9_meet 118 = .ok (.if_icmp .ge 17, 3) := by decide +kernel
theorem dX9_meet_121 : decode cX9_meet 121 = .ok (.aload_n 0, 1) := by decide +kernel
theorem dX9_meet_122 : decode cX9_meet 122 = .ok (.getfield 29, 3) := by decide +kernel
theorem dX9_meet_125 : decode cX9_meet 125 = .ok (.iload 8, 2) := by decide +kernel
theorem dX9_meet_127 : decode cX9_meet 127 = .ok (.lconst 0, 1) := by decide +kernel
theorem dX9_meet_128 : decode cX9_meet 128 = .ok (.lastore, 1) := by decide +kernel
theorem dX9_meet_129 : decode cX9_meet 129 = .ok (.iinc 8 1, 3) := by decide +kernel
theorem dX9_meet_132 : decode cX9_meet 132 = .ok (.goto (-18), 3) := by decide +kernel
theorem dX9_meet_135 : decode cX9_meet 135 = .ok (.iconst 0, 1) := by decide +kernel
theorem dX9_meet_136 : decode cX9_meet 136 = .ok (.istore 8, 2) := by decide +kernel
theorem dX9_meet_138 : decode cX9_meet 138 = .ok (.iload 8, 2) := by decide +kernel
theorem dX9_meet_140 : decode cX9_meet 140 = .ok (.bipush 64, 2) := by decide +kernel
theorem dX9_meet_142 : decode cX9_meet 142 = .ok (.if_icmp .ge 96, 3) := by decide +kernel
theorem dX9_meet_145 : decode cX9_meet 145 = .ok (.iconst 0, 1) := by decide +kernel
theorem dX9_meet_146 : decode cX9_meet 146 = .ok (.istore 9, 2) := by decide +kernel
theorem dX9_meet_148 : decode cX9_meet 148 = .ok (.iload 9, 2) := by decide +kernel
theorem dX9_meet_150 : decode cX9_meet 150 = .ok (.bipush 64, 2) := by decide +kernel
theorem dX9_meet_152 : decode cX9_meet 152 = .ok (.if_icmp .ge 80, 3) := by decide +kernel
theorem dX9_meet_155 : decode cX9_meet 155 = .ok (.aload_n 0, 1) := by decide +kernel
theorem dX9_meet_156 : decode cX9_meet 156 = .ok (.getfield 25, 3) := by decide +kernel
theorem dX9_meet_159 : decode cX9_meet 159 = .ok (.iload 8, 2) := by decide +kernel
theorem dX9_meet_161 : decode cX9_meet 161 = .ok (.laload, 1) := by decide +kernel
theorem dX9_meet_162 : decode cX9_meet 162 = .ok (.lconst 0, 1) := by decide +kernel
theorem dX9_meet_163 : decode cX9_meet 163 = .ok (.lcmp, 1) := by decide +kernel
theorem dX9_meet_164 : decode cX9_meet 164 = .ok (.ifCond .le 68, 3) := by decide +kernel
theorem dX9_meet_167 : decode cX9_meet 167 = .ok (.aload_n 0, 1) := by decide +kernel
theorem dX9_meet_168 : decode cX9_meet 168 = .ok (.getfield 29, 3) := by decide +kernel
theorem dX9_meet_171 : decode cX9_meet 171 = .ok (.iload 9, 2) := by decide +kernel
theorem dX9_meet_173 : decode cX9_meet 173 = .ok (.dup2, 1) := by decide +kernel
theorem dX9_meet_174 : decode cX9_meet 174 = .ok (.laload, 1) := by decide +kernel
theorem dX9_meet_175 : decode cX9_meet 175 = .ok (.aload_n 0, 1) := by decide +kernel
theorem dX9_meet_176 : decode cX9_meet 176 = .ok (.getfield 25, 3) := by decide +kernel
theorem dX9_meet_179 : decode cX9_meet 179 = .ok (.iload 8, 2) := by decide +kernel
theorem dX9_meet_181 : decode cX9_meet 181 = .ok (.laload, 1) := by decide +kernel
theorem dX9_meet_182 : decode cX9_meet 182 = .ok (.aload_n 0, 1) := by decide +kernel
theorem dX9_meet_183 : decode cX9_meet 183 = .ok (.getfield 13, 3) := by decide +kernel
theorem dX9_meet_186 : decode cX9_meet 186 = .ok (.bipush 8, 2) := by decide +kernel
theorem dX9_meet_188 : decode cX9_meet 188 = .ok (.iload 8, 2) := by decide +kernel
theorem dX9_meet_190 : decode cX9_meet 190 = .ok (.bipush 8, 2) := by decide +kernel
theorem dX9_meet_192 : decode cX9_meet 192 = .ok (.idiv, 1) := by decide +kernel
theorem dX9_meet_193 : decode cX9_meet 193 = .ok (.imul, 1) := by decide +kernel
theorem dX9_meet_194 : decode cX9_meet 194 = .ok (.iload 9, 2) := by decide +kernel
theorem dX9_meet_196 : decode cX9_meet 196 = .ok (.bipush 8, 2) := by decide +kernel
theorem dX9_meet_198 : decode cX9_meet 198 = .ok (.idiv, 1) := by decide +kernel
theorem dX9_meet_199 : decode cX9_meet 199 = .ok (.iadd, 1) := by decide +kernel
theorem dX9_meet_200 : decode cX9_meet 200 = .ok (.iaload, 1) := by decide +kernel
theorem dX9_meet_201 : decode cX9_meet 201 = .ok (.i2l, 1) := by decide +kernel
theorem dX9_meet_202 : decode cX9_meet 202 = .ok (.lmul, 1) := by decide +kernel
theorem dX9_meet_203 : decode cX9_meet 203 = .ok (.aload_n 0, 1) := by decide +kernel
theorem dX9_meet_204 : decode cX9_meet 204 = .ok (.getfield 13, 3) := by decide +kernel
theorem dX9_meet_207 : decode cX9_meet 207 = .ok (.bipush 8, 2) := by decide +kernel
theorem dX9_meet_209 : decode cX9_meet 209 = .ok (.iload 8, 2) := by decide +kernel
theorem dX9_meet_211 : decode cX9_meet 211 = .ok (.bipush 8, 2) := by decide +kernel
theorem dX9_meet_213 : decode cX9_meet 213 = .ok (.irem, 1) := by decide +kernel
theorem dX9_meet_214 : decode cX9_meet 214 = .ok (.imul, 1) := by decide +kernel
theorem dX9_meet_215 : decode cX9_meet 215 = .ok (.iload 9, 2) := by decide +kernel
theorem dX9_meet_217 : decode cX9_meet 217 = .ok (.bipush 8, 2) := by decide +kernel
theorem dX9_meet_219 : decode cX9_meet 219 = .ok (.irem, 1) := by decide +kernel
theorem dX9_meet_220 : decode cX9_meet 220 = .ok (.iadd, 1) := by decide +kernel
theorem dX9_meet_221 : decode cX9_meet 221 = .ok (.iaload, 1) := by decide +kernel
theorem dX9_meet_222 : decode cX9_meet 222 = .ok (.i2l, 1) := by decide +kernel
theorem dX9_meet_223 : decode cX9_meet 223 = .ok (.lmul, 1) := by decide +kernel
theorem dX9_meet_224 : decode cX9_meet 224 = .ok (.ladd, 1) := by decide +kernel
theorem dX9_meet_225 : decode cX9_meet 225 = .ok (.lastore, 1) := by decide +kernel
theorem dX9_meet_226 : decode cX9_meet 226 = .ok (.iinc 9 1, 3) := by decide +kernel
theorem dX9_meet_229 : decode cX9_meet 229 = .ok (.goto (-81), 3) := by decide +kernel
theorem dX9_meet_232 : decode cX9_meet 232 = .ok (.iinc 8 1, 3) := by decide +kernel
theorem dX9_meet_235 : decode cX9_meet 235 = .ok (.goto (-97), 3) := by decide +kernel
theorem dX9_meet_238 : decode cX9_meet 238 = .ok (.iconst 0, 1) := by decide +kernel
theorem dX9_meet_239 : decode cX9_meet 239 = .ok (.istore 8, 2) := by decide +kernel
theorem dX9_meet_241 : decode cX9_meet 241 = .ok (.iload 8, 2) := by decide +kernel
theorem dX9_meet_243 : decode cX9_meet 243 = .ok (.bipush 64, 2) := by decide +kernel
theorem dX9_meet_245 : decode cX9_meet 245 = .ok (.if_icmp .ge 59, 3) := by decide +kernel
theorem dX9_meet_248 : decode cX9_meet 248 = .ok (.lload 5, 2) := by decide +kernel
theorem dX9_meet_250 : decode cX9_meet 250 = .ok (.iload 8, 2) := by decide +kernel
theorem dX9_meet_252 : decode cX9_meet 252 = .ok (.bipush 9, 2) := by decide +kernel
theorem dX9_meet_254 : decode cX9_meet 254 = .ok (.irem, 1) := by decide +kernel
theorem dX9_meet_255 : decode cX9_meet 255 = .ok (.ifCond .ne 13, 3) := by decide +kernel
theorem dX9_meet_258 : decode cX9_meet 258 = .ok (.aload_n 0, 1) := by decide +kernel
theorem dX9_meet_259 : decode cX9_meet 259 = .ok (.getfield 29, 3) := by decide +kernel
theorem dX9_meet_262 : decode cX9_meet 262 = .ok (.iload 8, 2) := by decide +kernel
theorem dX9_meet_264 : decode cX9_meet 264 = .ok (.laload, 1) := by decide +kernel
theorem dX9_meet_265 : decode cX9_meet 265 = .ok (.goto 4, 3) := by decide +kernel
theorem dX9_meet_268 : decode cX9_meet 268 = .ok (.lconst 0, 1) := by decide +kernel
theorem dX9_meet_269 : decode cX9_meet 269 = .ok (.ladd, 1) := by decide +kernel
theorem dX9_meet_270 : decode cX9_meet 270 = .ok (.lstore 5, 2) := by decide +kernel
theorem dX9_meet_272 : decode cX9_meet 272 = .ok (.aload_n 0, 1) := by decide +kernel
theorem dX9_meet_273 : decode cX9_meet 273 = .ok (.getfield 25, 3) := by decide +kernel
theorem dX9_meet_276 : decode cX9_meet 276 = .ok (.iload 8, 2) := by decide +kernel
theorem dX9_meet_278 : decode cX9_meet 278 = .ok (.iload 8, 2) := by decide +kernel
theorem dX9_meet_280 : decode cX9_meet 280 = .ok (.bipush 9, 2) := by decide +kernel
theorem dX9_meet_282 : decode cX9_meet 282 = .ok (.irem, 1) := by decide +kernel
theorem dX9_meet_283 : decode cX9_meet 283 = .ok (.ifCond .ne 7, 3) := by decide +kernel
theorem dX9_meet_286 : decode cX9_meet 286 = .ok (.lconst 0, 1) := by decide +kernel
theorem dX9_meet_287 : decode cX9_meet 287 = .ok (.goto 10, 3) := by decide +kernel
theorem dX9_meet_290 : decode cX9_meet 290 = .ok (.aload_n 0, 1) := by decide +kernel
theorem dX9_meet_291 : decode cX9_meet 291 = .ok (.getfield 29, 3) := by decide +kernel
theorem dX9_meet_294 : decode cX9_meet 294 = .ok (.iload 8, 2) := by decide +kernel
theorem dX9_meet_296 : decode cX9_meet 296 = .ok (.laload, 1) := by decide +kernel
theorem dX9_meet_297 : decode cX9_meet 297 = .ok (.lastore, 1) := by decide +kernel
theorem dX9_meet_298 : decode cX9_meet 298 = .ok (.iinc 8 1, 3) := by decide +kernel
theorem dX9_meet_301 : decode cX9_meet 301 = .ok (.goto (-60), 3) := by decide +kernel
theorem dX9_meet_304 : decode cX9_meet 304 = .ok (.iinc 7 1, 3) := by decide +kernel
theorem dX9_meet_307 : decode cX9_meet 307 = .ok (.goto (-210), 3) := by decide +kernel
theorem dX9_meet_310 : decode cX9_meet 310 = .ok (.lload 5, 2) := by decide +kernel
theorem dX9_meet_312 : decode cX9_meet 312 = .ok (.bipush 100, 2) := by decide +kernel
theorem dX9_meet_314 : decode cX9_meet 314 = .ok (.iload_n 3, 1) := by decide +kernel
theorem dX9_meet_315 : decode cX9_meet 315 = .ok (.invokestatic 177, 3) := by decide +kernel
theorem dX9_meet_318 : decode cX9_meet 318 = .ok (.iload 4, 2) := by decide +kernel
theorem dX9_meet_320 : decode cX9_meet 320 = .ok (.invokestatic 181, 3) := by decide +kernel
theorem dX9_meet_323 : decode cX9_meet 323 = .ok (.lreturn, 1) := by decide +kernel
set_option maxRecDepth 20000 in
theorem ggX9_penny_X9_in : GoodIn wsX9_penny wsX9_in := goodIn_r _ [7] (by decide +kernel) (by decide +kernel)
set_option maxRecDepth 20000 in
theorem gX9_penny_X9_in : GoodIn wsX9_penny (va_wsS RX9 90 yX9_in wsX9_in) := goodIn_app (goodIn_of _ (by decide +kernel)) ggX9_penny_X9_in
set_option maxRecDepth 20000 in
theorem ggX9_penny_X9_power : GoodIn wsX9_penny wsX9_power := goodIn_r _ [10] (by decide +kernel) (by decide +kernel)
set_option maxRecDepth 20000 in
theorem gX9_penny_X9_power : GoodIn wsX9_penny (va_wsS RX9 177 yX9_power wsX9_power) := goodIn_app (goodIn_of _ (by decide +kernel)) ggX9_penny_X9_power
set_option maxRecDepth 20000 in
theorem ggX9_penny_X9_part : GoodIn wsX9_penny wsX9_part := goodIn_r _ [13] (by decide +kernel) (by decide +kernel)
set_option maxRecDepth 20000 in
theorem gX9_penny_X9_part : GoodIn wsX9_penny (va_wsS RX9 181 yX9_part wsX9_part) := goodIn_app (goodIn_of _ (by decide +kernel)) ggX9_penny_X9_part
theorem dX9_penny_0 : decode cX9_penny 0 = .ok (.iload_n 1, 1) := by decide +kernel
theorem dX9_penny_1 : decode cX9_penny 1 = .ok (.i2l, 1) := by decide +kernel
theorem dX9_penny_2 : decode cX9_penny 2 = .ok (.lconst 1, 1) := by decide +kernel
theorem dX9_penny_3 : decode cX9_penny 3 = .ok (.ldc2_w 105, 3) := by decide +kernel
theorem dX9_penny_6 : decode cX9_penny 6 = .ok (.invokestatic 90, 3) := by decide +kernel
theorem dX9_penny_9 : decode cX9_penny 9 = .ok (.ifCond .eq 27, 3) := by decide +kernel
theorem dX9_penny_12 : decode cX9_penny 12 = .ok (.iload_n 2, 1) := by decide +kernel
theorem dX9_penny_13 : decode cX9_penny 13 = .ok (.i2l, 1) := by decide +kernel
theorem dX9_penny_14 : decode cX9_penny 14 = .ok (.lconst 0, 1) := by decide +kernel
theorem dX9_penny_15 : decode cX9_penny 15 = .ok (.ldc2_w 88, 3) := by decide +kernel
theorem dX9_penny_18 : decode cX9_penny 18 = .ok (.invokestatic 90, 3) := by decide +kernel
theorem dX9_penny_21 : decode cX9_penny 21 = .ok (.ifCond .eq 15, 3) := by decide +kernel
theorem dX9_penny_24 : decode cX9_penny 24 = .ok (.iload_n 3, 1) := by decide +kernel
theorem dX9_penny_25 : decode cX9_penny 25 = .ok (.i2l, 1) := by decide +kernel
theorem dX9_penny_26 : decode cX9_penny 26 = .ok (.lconst 0, 1) := by decide +kernel
theorem dX9_penny_27 : decode cX9_penny 27 = .ok (.ldc2_w 88, 3) := by decide +kernel
theorem dX9_penny_30 : decode cX9_penny 30 = .ok (.invokestatic 90, 3) := by decide +kernel
theorem dX9_penny_33 : decode cX9_penny 33 = .ok (.ifCond .ne 7, 3) := by decide +kernel
theorem dX9_penny_36 : decode cX9_penny 36 = .ok (.ldc2_w 171, 3) := by decide +kernel
theorem dX9_penny_39 : decode cX9_penny 39 = .ok (.lreturn, 1) := by decide +kernel
theorem dX9_penny_40 : decode cX9_penny 40 = .ok (.lconst 0, 1) := by decide +kernel
theorem dX9_penny_41 : decode cX9_penny 41 = .ok (.lstore 5, 2) := by decide +kernel
theorem dX9_penny_43 : decode cX9_penny 43 = .ok (.iconst 1, 1) := by decide +kernel
theorem dX9_penny_44 : decode cX9_penny 44 = .ok (.istore 7, 2) := by decide +kernel
theorem dX9_penny_46 : decode cX9_penny 46 = .ok (.iload 7, 2) := by decide +kernel
theorem dX9_penny_48 : decode cX9_penny 48 = .ok (.bipush 10, 2) := by decide +kernel
theorem dX9_penny_50 : decode cX9_penny 50 = .ok (.if_icmp .ge 30, 3) := by decide +kernel
theorem dX9_penny_53 : decode cX9_penny 53 = .ok (.lload 5, 2) := by decide +kernel
theorem dX9_penny_55 : decode cX9_penny 55 = .ok (.iload 7, 2) := by decide +kernel
theorem dX9_penny_57 : decode cX9_penny 57 = .ok (.iload_n 2, 1) := by decide +kernel
theorem dX9_penny_58 : decode cX9_penny 58 = .ok (.invokestatic 177, 3) := by decide +kernel
theorem dX9_penny_61 : decode cX9_penny 61 = .ok (.bipush 10, 2) := by decide +kernel
theorem dX9_penny_63 : decode cX9_penny 63 = .ok (.iload 7, 2) := by decide +kernel
theorem dX9_penny_65 : decode cX9_penny 65 = .ok (.isub, 1) := by decide +kernel
theorem dX9_penny_66 : decode cX9_penny 66 = .ok (.iload_n 3, 1) := by decide +kernel
theorem dX9_penny_67 : decode cX9_penny 67 = .ok (.invokestatic 177, 3) := by decide +kernel
theorem dX9_penny_70 : decode cX9_penny 70 = .ok (.lmul, 1) := by decide +kernel
theorem dX9_penny_71 : decode cX9_penny 71 = .ok (.ladd, 1) := by decide +kernel
theorem dX9_penny_72 : decode cX9_penny 72 = .ok (.lstore 5, 2) := by decide +kernel
theorem dX9_penny_74 : decode cX9_penny 74 = .ok (.iinc 7 1, 3) := by decide +kernel
theorem dX9_penny_77 : decode cX9_penny 77 = .ok (.goto (-31), 3) := by decide +kernel
theorem dX9_penny_80 : decode cX9_penny 80 = .ok (.iload_n 1, 1) := by decide +kernel
theorem dX9_penny_81 : decode cX9_penny 81 = .ok (.iload_n 2, 1) := by decide +kernel
theorem dX9_penny_82 : decode cX9_penny 82 = .ok (.invokestatic 177, 3) := by decide +kernel
theorem dX9_penny_85 : decode cX9_penny 85 = .ok (.bipush 10, 2) := by decide +kernel
theorem dX9_penny_87 : decode cX9_penny 87 = .ok (.iload_n 1, 1) := by decide +kernel
theorem dX9_penny_88 : decode cX9_penny 88 = .ok (.isub, 1) := by decide +kernel
theorem dX9_penny_89 : decode cX9_penny 89 = .ok (.iload_n 3, 1) := by decide +kernel
theorem dX9_penny_90 : decode cX9_penny 90 = .ok (.invokestatic 177, 3) := by decide +kernel
theorem dX9_penny_93 : decode cX9_penny 93 = .ok (.lmul, 1) := by decide +kernel
theorem dX9_penny_94 : decode cX9_penny 94 = .ok (.lload 5, 2) := by decide +kernel
theorem dX9_penny_96 : decode cX9_penny 96 = .ok (.iload 4, 2) := by decide +kernel
theorem dX9_penny_98 : decode cX9_penny 98 = .ok (.invokestatic 181, 3) := by decide +kernel
theorem dX9_penny_101 : decode cX9_penny 101 = .ok (.lreturn, 1) := by decide +kernel
set_option maxRecDepth 20000 in
theorem ggX9_isRow_X9_in : GoodIn wsX9_isRow wsX9_in := goodIn_r _ [5] (by decide +kernel) (by decide +kernel)
set_option maxRecDepth 20000 in
theorem gX9_isRow_X9_in : GoodIn wsX9_isRow (va_wsS RX9 90 yX9_in wsX9_in) := goodIn_app (goodIn_of _ (by decide +kernel)) ggX9_isRow_X9_in
set_option maxRecDepth 20000 in
theorem ggX9_isRow_X9_power : GoodIn wsX9_isRow wsX9_power := goodIn_r _ [8] (by decide +kernel) (by decide +kernel)
set_option maxRecDepth 20000 in
theorem gX9_isRow_X9_power : GoodIn wsX9_isRow (va_wsS RX9 177 yX9_power wsX9_power) := goodIn_app (goodIn_of _ (by decide +kernel)) ggX9_isRow_X9_power
theorem dX9_isRow_0 : decode cX9_isRow 0 = .ok (.iload_n 0, 1) := by decide +kernel
theorem dX9_isRow_1 : decode cX9_isRow 1 = .ok (.i2l, 1) := by decide +kernel
theorem dX9_isRow_2 : decode cX9_isRow 2 = .ok (.lconst 1, 1) := by decide +kernel
theorem dX9_isRow_3 : decode cX9_isRow 3 = .ok (.ldc2_w 105, 3) := by decide +kernel
theorem dX9_isRow_6 : decode cX9_isRow 6 = .ok (.invokestatic 90, 3) := by decide +kernel
theorem dX9_isRow_9 : decode cX9_isRow 9 = .ok (.ifCond .eq 24, 3) := by decide +kernel
theorem dX9_isRow_12 : decode cX9_isRow 12 = .ok (.iload_n 1, 1) := by decide +kernel
theorem dX9_isRow_13 : decode cX9_isRow 13 = .ok (.i2l, 1) := by decide +kernel
theorem dX9_isRow_14 : decode cX9_isRow 14 = .ok (.lconst 0, 1) := by decide +kernel
theorem dX9_isRow_15 : decode cX9_isRow 15 = .ok (.bipush 10, 2) := by decide +kernel
theorem dX9_isRow_17 : decode cX9_isRow 17 = .ok (.iload_n 0, 1) := by decide +kernel
theorem dX9_isRow_18 : decode cX9_isRow 18 = .ok (.invokestatic 177, 3) := by decide +kernel
theorem dX9_isRow_21 : decode cX9_isRow 21 = .ok (.lconst 1, 1) := by decide +kernel
theorem dX9_isRow_22 : decode cX9_isRow 22 = .ok (.lsub, 1) := by decide +kernel
theorem dX9_isRow_23 : decode cX9_isRow 23 = .ok (.invokestatic 90, 3) := by decide +kernel
theorem dX9_isRow_26 : decode cX9_isRow 26 = .ok (.ifCond .eq 7, 3) := by decide +kernel
theorem dX9_isRow_29 : decode cX9_isRow 29 = .ok (.iconst 1, 1) := by decide +kernel
theorem dX9_isRow_30 : decode cX9_isRow 30 = .ok (.goto 4, 3) := by decide +kernel
theorem dX9_isRow_33 : decode cX9_isRow 33 = .ok (.iconst 0, 1) := by decide +kernel
theorem dX9_isRow_34 : decode cX9_isRow 34 = .ok (.ireturn, 1) := by decide +kernel
set_option maxRecDepth 20000 in
theorem ggX9_judge_X9_isRow : GoodIn wsX9_judge wsX9_isRow := goodIn_r _ [7, 8, 9, 10, 6, 11, 12, 13, 14] (by decide +kernel) (by decide +kernel)
set_option maxRecDepth 20000 in
theorem gX9_judge_X9_isRow : GoodIn wsX9_judge (va_wsS RX9 224 yX9_isRow wsX9_isRow) := goodIn_app (goodIn_of _ (by decide +kernel)) ggX9_judge_X9_isRow
set_option maxRecDepth 20000 in
theorem ggX9_judge_X9_power : GoodIn wsX9_judge wsX9_power := goodIn_r _ [14] (by decide +kernel) (by decide +kernel)
set_option maxRecDepth 20000 in
theorem gX9_judge_X9_power : GoodIn wsX9_judge (va_wsS RX9 177 yX9_power wsX9_power) := goodIn_app (goodIn_of _ (by decide +kernel)) ggX9_judge_X9_power
set_option maxRecDepth 20000 in
theorem ggX9_judge_X9_isSeat : GoodIn wsX9_judge wsX9_isSeat := goodIn_r _ [18, 19, 9, 10, 6, 11, 20, 21, 22, 23, 24, 25, 26, 27, 28, 29, 30, 31, 32, 33, 34, 35, 36, 37, 38, 39, 40, 41, 42, 43, 44, 45, 46, 47, 48, 49, 50, 51, 52, 53, 54, 55, 56, 57, 58] (by decide +kernel) (by decide +kernel)
set_option maxRecDepth 20000 in
theorem gX9_judge_X9_isSeat : GoodIn wsX9_judge (wsV RX9 161 RX9 yX9_isSeat wsX9_isSeat) := goodIn_app (goodIn_of _ (by decide +kernel)) ggX9_judge_X9_isSeat
theorem dX9_judge_0 : decode cX9_judge 0 = .ok (.iload_n 1, 1) := by decide +kernel
theorem dX9_judge_1 : decode cX9_judge 1 = .ok (.iload_n 2, 1) := by decide +kernel
theorem dX9_judge_2 : decode cX9_judge 2 = .ok (.invokestatic 224, 3) := by decide +kernel
