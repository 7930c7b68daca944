set_option maxRecDepth 20000 in
theorem gX8_leastTerms_X8_sharedDivisor : GoodIn wsX8_leastTerms (va_wsS RX8 223 yX8_sharedDivisor wsX8_sharedDivisor) := goodIn_app (goodIn_of _ (by decide +kernel)) ggX8_leastTerms_X8_sharedDivisor
theorem dX8_leastTerms_0 : decode cX8_leastTerms 0 = .ok (.lload_n 0, 1) := by decide +kernel
theorem dX8_leastTerms_1 : decode cX8_leastTerms 1 = .ok (.lload_n 2, 1) := by decide +kernel
theorem dX8_leastTerms_2 : decode cX8_leastTerms 2 = .ok (.invokestatic 223, 3) := by decide +kernel
theorem dX8_leastTerms_5 : decode cX8_leastTerms 5 = .ok (.lstore 5, 2) := by decide +kernel
theorem dX8_leastTerms_7 : decode cX8_leastTerms 7 = .ok (.lload 5, 2) := by decide +kernel
theorem dX8_leastTerms_9 : decode cX8_leastTerms 9 = .ok (.lconst 1, 1) := by decide +kernel
theorem dX8_leastTerms_10 : decode cX8_leastTerms 10 = .ok (.lcmp, 1) := by decide +kernel
theorem dX8_leastTerms_11 : decode cX8_leastTerms 11 = .ok (.ifCond .ge 14, 3) := by decide +kernel
theorem dX8_leastTerms_14 : decode cX8_leastTerms 14 = .ok (.iload 4, 2) := by decide +kernel
theorem dX8_leastTerms_16 : decode cX8_leastTerms 16 = .ok (.ifCond .eq 7, 3) := by decide +kernel
theorem dX8_leastTerms_19 : decode cX8_leastTerms 19 = .ok (.lload_n 0, 1) := by decide +kernel
theorem dX8_leastTerms_20 : decode cX8_leastTerms 20 = .ok (.goto 4, 3) := by decide +kernel
theorem dX8_leastTerms_23 : decode cX8_leastTerms 23 = .ok (.lload_n 2, 1) := by decide +kernel
theorem dX8_leastTerms_24 : decode cX8_leastTerms 24 = .ok (.lreturn, 1) := by decide +kernel
theorem dX8_leastTerms_25 : decode cX8_leastTerms 25 = .ok (.iload 4, 2) := by decide +kernel
theorem dX8_leastTerms_27 : decode cX8_leastTerms 27 = .ok (.ifCond .eq 10, 3) := by decide +kernel
theorem dX8_leastTerms_30 : decode cX8_leastTerms 30 = .ok (.lload_n 0, 1) := by decide +kernel
theorem dX8_leastTerms_31 : decode cX8_leastTerms 31 = .ok (.lload 5, 2) := by decide +kernel
theorem dX8_leastTerms_33 : decode cX8_leastTerms 33 = .ok (.ldiv, 1) := by decide +kernel
theorem dX8_leastTerms_34 : decode cX8_leastTerms 34 = .ok (.goto 7, 3) := by decide +kernel
theorem dX8_leastTerms_37 : decode cX8_leastTerms 37 = .ok (.lload_n 2, 1) := by decide +kernel
theorem dX8_leastTerms_38 : decode cX8_leastTerms 38 = .ok (.lload 5, 2) := by decide +kernel
theorem dX8_leastTerms_40 : decode cX8_leastTerms 40 = .ok (.ldiv, 1) := by decide +kernel
theorem dX8_leastTerms_41 : decode cX8_leastTerms 41 = .ok (.lreturn, 1) := by decide +kernel
theorem dX8_sharedDivisor_0 : decode cX8_sharedDivisor 0 = .ok (.lload_n 0, 1) := by decide +kernel
theorem dX8_sharedDivisor_1 : decode cX8_sharedDivisor 1 = .ok (.lstore 4, 2) := by decide +kernel
theorem dX8_sharedDivisor_3 : decode cX8_sharedDivisor 3 = .ok (.lload_n 2, 1) := by decide +kernel
theorem dX8_sharedDivisor_4 : decode cX8_sharedDivisor 4 = .ok (.lstore 6, 2) := by decide +kernel
theorem dX8_sharedDivisor_6 : decode cX8_sharedDivisor 6 = .ok (.iconst 0, 1) := by decide +kernel
theorem dX8_sharedDivisor_7 : decode cX8_sharedDivisor 7 = .ok (.istore 8, 2) := by decide +kernel
theorem dX8_sharedDivisor_9 : decode cX8_sharedDivisor 9 = .ok (.iload 8, 2) := by decide +kernel
theorem dX8_sharedDivisor_11 : decode cX8_sharedDivisor 11 = .ok (.sipush 200, 3) := by decide +kernel
theorem dX8_sharedDivisor_14 : decode cX8_sharedDivisor 14 = .ok (.if_icmp .ge 31, 3) := by decide +kernel
theorem dX8_sharedDivisor_17 : decode cX8_sharedDivisor 17 = .ok (.lload 6, 2) := by decide +kernel
theorem dX8_sharedDivisor_19 : decode cX8_sharedDivisor 19 = .ok (.lconst 0, 1) := by decide +kernel
theorem dX8_sharedDivisor_20 : decode cX8_sharedDivisor 20 = .ok (.lcmp, 1) := by decide +kernel
theorem dX8_sharedDivisor_21 : decode cX8_sharedDivisor 21 = .ok (.ifCond .eq 24, 3) := by decide +kernel
theorem dX8_sharedDivisor_24 : decode cX8_sharedDivisor 24 = .ok (.lload 4, 2) := by decide +kernel
theorem dX8_sharedDivisor_26 : decode cX8_sharedDivisor 26 = .ok (.lload 6, 2) := by decide +kernel
theorem dX8_sharedDivisor_28 : decode cX8_sharedDivisor 28 = .ok (.lrem, 1) := by decide +kernel
theorem dX8_sharedDivisor_29 : decode cX8_sharedDivisor 29 = .ok (.lstore 9, 2) := by decide +kernel
theorem dX8_sharedDivisor_31 : decode cX8_sharedDivisor 31 = .ok (.lload 6, 2) := by decide +kernel
theorem dX8_sharedDivisor_33 : decode cX8_sharedDivisor 33 = .ok (.lstore 4, 2) := by decide +kernel
theorem dX8_sharedDivisor_35 : decode cX8_sharedDivisor 35 = .ok (.lload 9, 2) := by decide +kernel
theorem dX8_sharedDivisor_37 : decode cX8_sharedDivisor 37 = .ok (.lstore 6, 2) := by decide +kernel
theorem dX8_sharedDivisor_39 : decode cX8_sharedDivisor 39 = .ok (.iinc 8 1, 3) := by decide +kernel
theorem dX8_sharedDivisor_42 : decode cX8_sharedDivisor 42 = .ok (.goto (-33), 3) := by decide +kernel
theorem dX8_sharedDivisor_45 : decode cX8_sharedDivisor 45 = .ok (.lload 4, 2) := by decide +kernel
theorem dX8_sharedDivisor_47 : decode cX8_sharedDivisor 47 = .ok (.lreturn, 1) := by decide +kernel
theorem dX9_init_0 : decode cX9_init 0 = .ok (.aload_n 0, 1) := by decide +kernel
theorem dX9_init_1 : decode cX9_init 1 = .ok (.invokespecial 1, 3) := by decide +kernel
theorem dX9_init_4 : decode cX9_init 4 = .ok (.aload_n 0, 1) := by decide +kernel
theorem dX9_init_5 : decode cX9_init 5 = .ok (.bipush 64, 2) := by decide +kernel
theorem dX9_init_7 : decode cX9_init 7 = .ok (.newarray .int, 2) := by decide +kernel
theorem dX9_init_9 : decode cX9_init 9 = .ok (.putfield 7, 3) := by decide +kernel
theorem dX9_init_12 : decode cX9_init 12 = .ok (.aload_n 0, 1) := by decide +kernel
theorem dX9_init_13 : decode cX9_init 13 = .ok (.bipush 64, 2) := by decide +kernel
theorem dX9_init_15 : decode cX9_init 15 = .ok (.newarray .int, 2) := by decide +kernel
theorem dX9_init_17 : decode cX9_init 17 = .ok (.putfield 13, 3) := by decide +kernel
theorem dX9_init_20 : decode cX9_init 20 = .ok (.aload_n 0, 1) := by decide +kernel
theorem dX9_init_21 : decode cX9_init 21 = .ok (.bipush 98, 2) := by decide +kernel
theorem dX9_init_23 : decode cX9_init 23 = .ok (.newarray .int, 2) := by decide +kernel
theorem dX9_init_25 : decode cX9_init 25 = .ok (.putfield 16, 3) := by decide +kernel
theorem dX9_init_28 : decode cX9_init 28 = .ok (.aload_n 0, 1) := by decide +kernel
theorem dX9_init_29 : decode cX9_init 29 = .ok (.bipush 30, 2) := by decide +kernel
theorem dX9_init_31 : decode cX9_init 31 = .ok (.newarray .int, 2) := by decide +kernel
theorem dX9_init_33 : decode cX9_init 33 = .ok (.putfield 19, 3) := by decide +kernel
theorem dX9_init_36 : decode cX9_init 36 = .ok (.aload_n 0, 1) := by decide +kernel
theorem dX9_init_37 : decode cX9_init 37 = .ok (.bipush 30, 2) := by decide +kernel
theorem dX9_init_39 : decode cX9_init 39 = .ok (.newarray .int, 2) := by decide +kernel
theorem dX9_init_41 : decode cX9_init 41 = .ok (.putfield 22, 3) := by decide +kernel
theorem dX9_init_44 : decode cX9_init 44 = .ok (.aload_n 0, 1) := by decide +kernel
theorem dX9_init_45 : decode cX9_init 45 = .ok (.sipush 2048, 3) := by decide +kernel
theorem dX9_init_48 : decode cX9_init 48 = .ok (.newarray .long, 2) := by decide +kernel
theorem dX9_init_50 : decode cX9_init 50 = .ok (.putfield 25, 3) := by decide +kernel
theorem dX9_init_53 : decode cX9_init 53 = .ok (.aload_n 0, 1) := by decide +kernel
theorem dX9_init_54 : decode cX9_init 54 = .ok (.sipush 2048, 3) := by decide +kernel
theorem dX9_init_57 : decode cX9_init 57 = .ok (.newarray .long, 2) := by decide +kernel
theorem dX9_init_59 : decode cX9_init 59 = .ok (.putfield 29, 3) := by decide +kernel
theorem dX9_init_62 : decode cX9_init 62 = .ok (.aload_n 0, 1) := by decide +kernel
theorem dX9_init_63 : decode cX9_init 63 = .ok (.bipush 8, 2) := by decide +kernel
theorem dX9_init_65 : decode cX9_init 65 = .ok (.newarray .long, 2) := by decide +kernel
theorem dX9_init_67 : decode cX9_init 67 = .ok (.putfield 32, 3) := by decide +kernel
theorem dX9_init_70 : decode cX9_init 70 = .ok (.aload_n 0, 1) := by decide +kernel
theorem dX9_init_71 : decode cX9_init 71 = .ok (.bipush 8, 2) := by decide +kernel
theorem dX9_init_73 : decode cX9_init 73 = .ok (.newarray .int, 2) := by decide +kernel
theorem dX9_init_75 : decode cX9_init 75 = .ok (.putfield 35, 3) := by decide +kernel
theorem dX9_init_78 : decode cX9_init 78 = .ok (.aload_n 0, 1) := by decide +kernel
theorem dX9_init_79 : decode cX9_init 79 = .ok (.bipush 72, 2) := by decide +kernel
theorem dX9_init_81 : decode cX9_init 81 = .ok (.newarray .long, 2) := by decide +kernel
theorem dX9_init_83 : decode cX9_init 83 = .ok (.putfield 38, 3) := by decide +kernel
theorem dX9_init_86 : decode cX9_init 86 = .ok (.aload_n 0, 1) := by decide +kernel
theorem dX9_init_87 : decode cX9_init 87 = .ok (.bipush 8, 2) := by decide +kernel
theorem dX9_init_89 : decode cX9_init 89 = .ok (.newarray .int, 2) := by decide +kernel
theorem dX9_init_91 : decode cX9_init 91 = .ok (.putfield 41, 3) := by decide +kernel
theorem dX9_init_94 : decode cX9_init 94 = .ok (.aload_n 0, 1) := by decide +kernel
theorem dX9_init_95 : decode cX9_init 95 = .ok (.bipush 8, 2) := by decide +kernel
theorem dX9_init_97 : decode cX9_init 97 = .ok (.newarray .int, 2) := by decide +kernel
theorem dX9_init_99 : decode cX9_init 99 = .ok (.putfield 44, 3) := by decide +kernel
theorem dX9_init_102 : decode cX9_init 102 = .ok (.aload_n 0, 1) := by decide +kernel
theorem dX9_init_103 : decode cX9_init 103 = .ok (.bipush 80, 2) := by decide +kernel
theorem dX9_init_105 : decode cX9_init 105 = .ok (.newarray .int, 2) := by decide +kernel
theorem dX9_init_107 : decode cX9_init 107 = .ok (.putfield 47, 3) := by decide +kernel
theorem dX9_init_110 : decode cX9_init 110 = .ok (.aload_n 0, 1) := by decide +kernel
theorem dX9_init_111 : decode cX9_init 111 = .ok (.bipush 80, 2) := by decide +kernel
theorem dX9_init_113 : decode cX9_init 113 = .ok (.newarray .long, 2) := by decide +kernel
theorem dX9_init_115 : decode cX9_init 115 = .ok (.putfield 50, 3) := by decide +kernel
theorem dX9_init_118 : decode cX9_init 118 = .ok (.aload_n 0, 1) := by decide +kernel
theorem dX9_init_119 : decode cX9_init 119 = .ok (.bipush 8, 2) := by decide +kernel
theorem dX9_init_121 : decode cX9_init 121 = .ok (.newarray .int, 2) := by decide +kernel
theorem dX9_init_123 : decode cX9_init 123 = .ok (.putfield 53, 3) := by decide +kernel
theorem dX9_init_126 : decode cX9_init 126 = .ok (.aload_n 0, 1) := by decide +kernel
theorem dX9_init_127 : decode cX9_init 127 = .ok (.iconst 2, 1) := by decide +kernel
theorem dX9_init_128 : decode cX9_init 128 = .ok (.newarray .boolean, 2) := by decide +kernel
theorem dX9_init_130 : decode cX9_init 130 = .ok (.putfield 56, 3) := by decide +kernel
theorem dX9_init_133 : decode cX9_init 133 = .ok (.aload_n 0, 1) := by decide +kernel
theorem dX9_init_134 : decode cX9_init 134 = .ok (.bipush 60, 2) := by decide +kernel
theorem dX9_init_136 : decode cX9_init 136 = .ok (.newarray .int, 2) := by decide +kernel
theorem dX9_init_138 : decode cX9_init 138 = .ok (.putfield 60, 3) := by decide +kernel
theorem dX9_init_141 : decode cX9_init 141 = .ok (.aload_n 0, 1) := by decide +kernel
theorem dX9_init_142 : decode cX9_init 142 = .ok (.bipush 60, 2) := by decide +kernel
theorem dX9_init_144 : decode cX9_init 144 = .ok (.newarray .int, 2) := by decide +kernel
theorem dX9_init_146 : decode cX9_init 146 = .ok (.putfield 63, 3) := by decide +kernel
theorem dX9_init_149 : decode cX9_init 149 = .ok (.aload_n 0, 1) := by decide +kernel
theorem dX9_init_150 : decode cX9_init 150 = .ok (.bipush 16, 2) := by decide +kernel
theorem dX9_init_152 : decode cX9_init 152 = .ok (.newarray .int, 2) := by decide +kernel
theorem dX9_init_154 : decode cX9_init 154 = .ok (.putfield 66, 3) := by decide +kernel
theorem dX9_init_157 : decode cX9_init 157 = .ok (.aload_n 0, 1) := by decide +kernel
theorem dX9_init_158 : decode cX9_init 158 = .ok (.bipush 16, 2) := by decide +kernel
theorem dX9_init_160 : decode cX9_init 160 = .ok (.newarray .int, 2) := by decide +kernel
theorem dX9_init_162 : decode cX9_init 162 = .ok (.putfield 69, 3) := by decide +kernel
theorem dX9_init_165 : decode cX9_init 165 = .ok (.aload_n 0, 1) := by decide +kernel
theorem dX9_init_166 : decode cX9_init 166 = .ok (.bipush 10, 2) := by decide +kernel
theorem dX9_init_168 : decode cX9_init 168 = .ok (.newarray .int, 2) := by decide +kernel
theorem dX9_init_170 : decode cX9_init 170 = .ok (.putfield 72, 3) := by decide +kernel
theorem dX9_init_173 : decode cX9_init 173 = .ok (.aload_n 0, 1) := by decide +kernel
theorem dX9_init_174 : decode cX9_init 174 = .ok (.iconst 2, 1) := by decide +kernel
theorem dX9_init_175 : decode cX9_init 175 = .ok (.newarray .long, 2) := by decide +kernel
theorem dX9_init_177 : decode cX9_init 177 = .ok (.putfield 75, 3) := by decide +kernel
theorem dX9_init_180 : decode cX9_init 180 = .ok (.aload_n 0, 1) := by decide +kernel
theorem dX9_init_181 : decode cX9_init 181 = .ok (.iconst 2, 1) := by decide +kernel
theorem dX9_init_182 : decode cX9_init 182 = .ok (.putfield 78, 3) := by decide +kernel
theorem dX9_init_185 : decode cX9_init 185 = .ok (.aload_n 0, 1) := by decide +kernel
theorem dX9_init_186 : decode cX9_init 186 = .ok (.iconst 5, 1) := by decide +kernel
theorem dX9_init_187 : decode cX9_init 187 = .ok (.putfield 82, 3) := by decide +kernel
theorem dX9_init_190 : decode cX9_init 190 = .ok (.aload_n 0, 1) := by decide +kernel
theorem dX9_init_191 : decode cX9_init 191 = .ok (.getfield 13, 3) := by decide +kernel
theorem dX9_init_194 : decode cX9_init 194 = .ok (.iconst 1, 1) := by decide +kernel
theorem dX9_init_195 : decode cX9_init 195 = .ok (.bipush 10, 2) := by decide +kernel
theorem dX9_init_197 : decode cX9_init 197 = .ok (.iastore, 1) := by decide +kernel
theorem dX9_init_198 : decode cX9_init 198 = .ok (.aload_n 0, 1) := by decide +kernel
theorem dX9_init_199 : decode cX9_init 199 = .ok (.getfield 13, 3) := by decide +kernel
theorem dX9_init_202 : decode cX9_init 202 = .ok (.bipush 8, 2) := by decide +kernel
theorem dX9_init_204 : decode cX9_init 204 = .ok (.bipush 10, 2) := by decide +kernel
theorem dX9_init_206 : decode cX9_init 206 = .ok (.iastore, 1) := by decide +kernel
theorem dX9_init_207 : decode cX9_init 207 = .ok (.aload_n 0, 1) := by decide +kernel
theorem dX9_init_208 : decode cX9_init 208 = .ok (.iconst 1, 1) := by decide +kernel
theorem dX9_init_209 : decode cX9_init 209 = .ok (.putfield 85, 3) := by decide +kernel
theorem dX9_init_212 : decode cX9_init 212 = .ok (.return_, 1) := by decide +kernel
theorem dX9_in_0 : decode cX9_in 0 = .ok (.lload_n 0, 1) := by decide +kernel
theorem dX9_in_1 : decode cX9_in 1 = .ok (.lload_n 2, 1) := by decide +kernel
theorem dX9_in_2 : decode cX9_in 2 = .ok (.lcmp, 1) := by decide +kernel
theorem dX9_in_3 : decode cX9_in 3 = .ok (.ifCond .lt 14, 3) := by decide +kernel
theorem dX9_in_6 : decode cX9_in 6 = .ok (.lload_n 0, 1) := by decide +kernel
theorem dX9_in_7 : decode cX9_in 7 = .ok (.lload 4, 2) := by decide +kernel
theorem dX9_in_9 : decode cX9_in 9 = .ok (.lcmp, 1) := by decide +kernel
theorem dX9_in_10 : decode cX9_in 10 = .ok (.ifCond .gt 7, 3) := by decide +kernel
theorem dX9_in_13 : decode cX9_in 13 = .ok (.iconst 1, 1) := by decide +kernel
theorem dX9_in_14 : decode cX9_in 14 = .ok (.goto 4, 3) := by decide +kernel
theorem dX9_in_17 : decode cX9_in 17 = .ok (.iconst 0, 1) := by decide +kernel
theorem dX9_in_18 : decode cX9_in 18 = .ok (.ireturn, 1) := by decide +kernel
set_option maxRecDepth 20000 in
theorem ggX9_write_X9_in : GoodIn wsX9_write wsX9_in := goodIn_r _ [8] (by decide +kernel) (by decide +kernel)
set_option maxRecDepth 20000 in
theorem gX9_write_X9_in : GoodIn wsX9_write (va_wsS RX9 90 yX9_in wsX9_in) := goodIn_app (goodIn_of _ (by decide +kernel)) ggX9_write_X9_in
theorem dX9_write_0 : decode cX9_write 0 = .ok (.iload_n 1, 1) := by decide +kernel
theorem dX9_write_1 : decode cX9_write 1 = .ok (.i2l, 1) := by decide +kernel
theorem dX9_write_2 : decode cX9_write 2 = .ok (.lconst 1, 1) := by decide +kernel
theorem dX9_write_3 : decode cX9_write 3 = .ok (.ldc2_w 88, 3) := by decide +kernel
theorem dX9_write_6 : decode cX9_write 6 = .ok (.invokestatic 90, 3) := by decide +kernel
theorem dX9_write_9 : decode cX9_write 9 = .ok (.ifCond .ne 6, 3) := by decide +kernel
theorem dX9_write_12 : decode cX9_write 12 = .ok (.bipush (-2), 2) := by decide +kernel
theorem dX9_write_14 : decode cX9_write 14 = .ok (.ireturn, 1) := by decide +kernel
theorem dX9_write_15 : decode cX9_write 15 = .ok (.aload_n 0, 1) := by decide +kernel
theorem dX9_write_16 : decode cX9_write 16 = .ok (.getfield 94, 3) := by decide +kernel
theorem dX9_write_19 : decode cX9_write 19 = .ok (.iload_n 1, 1) := by decide +kernel
theorem dX9_write_20 : decode cX9_write 20 = .ok (.iadd, 1) := by decide +kernel
theorem dX9_write_21 : decode cX9_write 21 = .ok (.bipush 98, 2) := by decide +kernel
theorem dX9_write_23 : decode cX9_write 23 = .ok (.if_icmp .le 6, 3) := by decide +kernel
theorem dX9_write_26 : decode cX9_write 26 = .ok (.bipush (-4), 2) := by decide +kernel
theorem dX9_write_28 : decode cX9_write 28 = .ok (.ireturn, 1) := by decide +kernel
theorem dX9_write_29 : decode cX9_write 29 = .ok (.iload_n 1, 1) := by decide +kernel
theorem dX9_write_30 : decode cX9_write 30 = .ok (.iconst 1, 1) := by decide +kernel
theorem dX9_write_31 : decode cX9_write 31 = .ok (.isub, 1) := by decide +kernel
theorem dX9_write_32 : decode cX9_write 32 = .ok (.istore 4, 2) := by decide +kernel
theorem dX9_write_34 : decode cX9_write 34 = .ok (.iload 4, 2) := by decide +kernel
theorem dX9_write_36 : decode cX9_write 36 = .ok (.ifCond .lt 40, 3) := by decide +kernel
theorem dX9_write_39 : decode cX9_write 39 = .ok (.aload_n 0, 1) := by decide +kernel
theorem dX9_write_40 : decode cX9_write 40 = .ok (.getfield 16, 3) := by decide +kernel
theorem dX9_write_43 : decode cX9_write 43 = .ok (.aload_n 0, 1) := by decide +kernel
theorem dX9_write_44 : decode cX9_write 44 = .ok (.getfield 94, 3) := by decide +kernel
theorem dX9_write_47 : decode cX9_write 47 = .ok (.lload_n 2, 1) := by decide +kernel
theorem dX9_write_48 : decode cX9_write 48 = .ok (.bipush 8, 2) := by decide +kernel
theorem dX9_write_50 : decode cX9_write 50 = .ok (.iload 4, 2) := by decide +kernel
theorem dX9_write_52 : decode cX9_write 52 = .ok (.imul, 1) := by decide +kernel
theorem dX9_write_53 : decode cX9_write 53 = .ok (.lshr, 1) := by decide +kernel
theorem dX9_write_54 : decode cX9_write 54 = .ok (.ldc2_w 97, 3) := by decide +kernel
theorem dX9_write_57 : decode cX9_write 57 = .ok (.land, 1) := by decide +kernel
theorem dX9_write_58 : decode cX9_write 58 = .ok (.l2i, 1) := by decide +kernel
theorem dX9_write_59 : decode cX9_write 59 = .ok (.iastore, 1) := by decide +kernel
theorem dX9_write_60 : decode cX9_write 60 = .ok (.aload_n 0, 1) := by decide +kernel
theorem dX9_write_61 : decode cX9_write 61 = .ok (.dup, 1) := by decide +kernel
theorem dX9_write_62 : decode cX9_write 62 = .ok (.getfield 94, 3) := by decide +kernel
theorem dX9_write_65 : decode cX9_write 65 = .ok (.iconst 1, 1) := by decide +kernel
theorem dX9_write_66 : decode cX9_write 66 = .ok (.iadd, 1) := by decide +kernel
theorem dX9_write_67 : decode cX9_write 67 = .ok (.putfield 94, 3) := by decide +kernel
theorem dX9_write_70 : decode cX9_write 70 = .ok (.iinc 4 (-1), 3) := by decide +kernel
theorem dX9_write_73 : decode cX9_write 73 = .ok (.goto (-39), 3) := by decide +kernel
theorem dX9_write_76 : decode cX9_write 76 = .ok (.aload_n 0, 1) := by decide +kernel
theorem dX9_write_77 : decode cX9_write 77 = .ok (.getfield 94, 3) := by decide +kernel
theorem dX9_write_80 : decode cX9_write 80 = .ok (.ireturn, 1) := by decide +kernel
theorem dX9_wipe_0 : decode cX9_wipe 0 = .ok (.aload_n 0, 1) := by decide +kernel
theorem dX9_wipe_1 : decode cX9_wipe 1 = .ok (.getfield 94, 3) := by decide +kernel
theorem dX9_wipe_4 : decode cX9_wipe 4 = .ok (.istore_n 1, 1) := by decide +kernel
theorem dX9_wipe_5 : decode cX9_wipe 5 = .ok (.aload_n 0, 1) := by decide +kernel
theorem dX9_wipe_6 : decode cX9_wipe 6 = .ok (.iconst 0, 1) := by decide +kernel
theorem dX9_wipe_7 : decode cX9_wipe 7 = .ok (.putfield 94, 3) := by decide +kernel
theorem dX9_wipe_10 : decode cX9_wipe 10 = .ok (.iload_n 1, 1) := by decide +kernel
theorem dX9_wipe_11 : decode cX9_wipe 11 = .ok (.ireturn, 1) := by decide +kernel
set_option maxRecDepth 20000 in
theorem ggX9_figure_X9_in : GoodIn wsX9_figure wsX9_in := goodIn_r _ [9] (by decide +kernel) (by decide +kernel)
set_option maxRecDepth 20000 in
theorem gX9_figure_X9_in : GoodIn wsX9_figure (va_wsS RX9 90 yX9_in wsX9_in) := goodIn_app (goodIn_of _ (by decide +kernel)) ggX9_figure_X9_in
theorem dX9_figure_0 : decode cX9_figure 0 = .ok (.aload_n 0, 1) := by decide +kernel
theorem dX9_figure_1 : decode cX9_figure 1 = .ok (.getfield 99, 3) := by decide +kernel
theorem dX9_figure_4 : decode cX9_figure 4 = .ok (.bipush (-9), 2) := by decide +kernel
theorem dX9_figure_6 : decode cX9_figure 6 = .ok (.if_icmp .ne 29, 3) := by decide +kernel
theorem dX9_figure_9 : decode cX9_figure 9 = .ok (.aload_n 0, 1) := by decide +kernel
theorem dX9_figure_10 : decode cX9_figure 10 = .ok (.getfield 102, 3) := by decide +kernel
theorem dX9_figure_13 : decode cX9_figure 13 = .ok (.aload_n 0, 1) := by decide +kernel
theorem dX9_figure_14 : decode cX9_figure 14 = .ok (.getfield 94, 3) := by decide +kernel
theorem dX9_figure_17 : decode cX9_figure 17 = .ok (.if_icmp .ge 18, 3) := by decide +kernel
theorem dX9_figure_20 : decode cX9_figure 20 = .ok (.aload_n 0, 1) := by decide +kernel
theorem dX9_figure_21 : decode cX9_figure 21 = .ok (.getfield 16, 3) := by decide +kernel
theorem dX9_figure_24 : decode cX9_figure 24 = .ok (.aload_n 0, 1) := by decide +kernel
theorem dX9_figure_25 : decode cX9_figure 25 = .ok (.getfield 102, 3) := by decide +kernel
theorem dX9_figure_28 : decode cX9_figure 28 = .ok (.iaload, 1) := by decide +kernel
theorem dX9_figure_29 : decode cX9_figure 29 = .ok (.bipush 48, 2) := by decide +kernel
theorem dX9_figure_31 : decode cX9_figure 31 = .ok (.isub, 1) := by decide +kernel
theorem dX9_figure_32 : decode cX9_figure 32 = .ok (.goto 4, 3) := by decide +kernel
theorem dX9_figure_35 : decode cX9_figure 35 = .ok (.iconst (-1), 1) := by decide +kernel
theorem dX9_figure_36 : decode cX9_figure 36 = .ok (.istore_n 2, 1) := by decide +kernel
theorem dX9_figure_37 : decode cX9_figure 37 = .ok (.iload_n 2, 1) := by decide +kernel
theorem dX9_figure_38 : decode cX9_figure 38 = .ok (.i2l, 1) := by decide +kernel
theorem dX9_figure_39 : decode cX9_figure 39 = .ok (.lconst 0, 1) := by decide +kernel
theorem dX9_figure_40 : decode cX9_figure 40 = .ok (.ldc2_w 105, 3) := by decide +kernel
theorem dX9_figure_43 : decode cX9_figure 43 = .ok (.invokestatic 90, 3) := by decide +kernel
theorem dX9_figure_46 : decode cX9_figure 46 = .ok (.ifCond .eq 11, 3) := by decide +kernel
theorem dX9_figure_49 : decode cX9_figure 49 = .ok (.iload_n 1, 1) := by decide +kernel
theorem dX9_figure_50 : decode cX9_figure 50 = .ok (.iload_n 2, 1) := by decide +kernel
theorem dX9_figure_51 : decode cX9_figure 51 = .ok (.ishr, 1) := by decide +kernel
theorem dX9_figure_52 : decode cX9_figure 52 = .ok (.iconst 1, 1) := by decide +kernel
theorem dX9_figure_53 : decode cX9_figure 53 = .ok (.iand, 1) := by decide +kernel
theorem dX9_figure_54 : decode cX9_figure 54 = .ok (.ifCond .ne 29, 3) := by decide +kernel
theorem dX9_figure_57 : decode cX9_figure 57 = .ok (.aload_n 0, 1) := by decide +kernel
theorem dX9_figure_58 : decode cX9_figure 58 = .ok (.aload_n 0, 1) := by decide +kernel
theorem dX9_figure_59 : decode cX9_figure 59 = .ok (.getfield 99, 3) := by decide +kernel
theorem dX9_figure_62 : decode cX9_figure 62 = .ok (.bipush (-9), 2) := by decide +kernel
theorem dX9_figure_64 : decode cX9_figure 64 = .ok (.if_icmp .ne 10, 3) := by decide +kernel
theorem dX9_figure_67 : decode cX9_figure 67 = .ok (.aload_n 0, 1) := by decide +kernel
theorem dX9_figure_68 : decode cX9_figure 68 = .ok (.getfield 102, 3) := by decide +kernel
theorem dX9_figure_71 : decode cX9_figure 71 = .ok (.goto 7, 3) := by decide +kernel
theorem dX9_figure_74 : decode cX9_figure 74 = .ok (.aload_n 0, 1) := by decide +kernel
theorem dX9_figure_75 : decode cX9_figure 75 = .ok (.getfield 99, 3) := by decide +kernel
theorem dX9_figure_78 : decode cX9_figure 78 = .ok (.putfield 99, 3) := by decide +kernel
theorem dX9_figure_81 : decode cX9_figure 81 = .ok (.iconst 0, 1) := by decide +kernel
theorem dX9_figure_82 : decode cX9_figure 82 = .ok (.ireturn, 1) := by decide +kernel
theorem dX9_figure_83 : decode cX9_figure 83 = .ok (.aload_n 0, 1) := by decide +kernel
theorem dX9_figure_84 : decode cX9_figure 84 = .ok (.dup, 1) := by decide +kernel
theorem dX9_figure_85 : decode cX9_figure 85 = .ok (.getfield 102, 3) := by decide +kernel
theorem dX9_figure_88 : decode cX9_figure 88 = .ok (.iconst 1, 1) := by decide +kernel
theorem dX9_figure_89 : decode cX9_figure 89 = .ok (.iadd, 1) := by decide +kernel
theorem dX9_figure_90 : decode cX9_figure 90 = .ok (.putfield 102, 3) := by decide +kernel
theorem dX9_figure_93 : decode cX9_figure 93 = .ok (.iload_n 2, 1) := by decide +kernel
theorem dX9_figure_94 : decode cX9_figure 94 = .ok (.ireturn, 1) := by decide +kernel
theorem dX9_sum_0 : decode cX9_sum 0 = .ok (.iconst 0, 1) := by decide +kernel
theorem dX9_sum_1 : decode cX9_sum 1 = .ok (.istore_n 2, 1) := by decide +kernel
theorem dX9_sum_2 : decode cX9_sum 2 = .ok (.iconst 0, 1) := by decide +kernel
theorem dX9_sum_3 : decode cX9_sum 3 = .ok (.istore_n 3, 1) := by decide +kernel
theorem dX9_sum_4 : decode cX9_sum 4 = .ok (.iload_n 3, 1) := by decide +kernel
theorem dX9_sum_5 : decode cX9_sum 5 = .ok (.bipush 8, 2) := by decide +kernel
theorem dX9_sum_7 : decode cX9_sum 7 = .ok (.if_icmp .ge 23, 3) := by decide +kernel
theorem dX9_sum_10 : decode cX9_sum 10 = .ok (.iload_n 2, 1) := by decide +kernel
theorem dX9_sum_11 : decode cX9_sum 11 = .ok (.aload_n 0, 1) := by decide +kernel
theorem dX9_sum_12 : decode cX9_sum 12 = .ok (.getfield 7, 3) := by decide +kernel
theorem dX9_sum_15 : decode cX9_sum 15 = .ok (.bipush 8, 2) := by decide +kernel
theorem dX9_sum_17 : decode cX9_sum 17 = .ok (.iload_n 1, 1) := by decide +kernel
theorem dX9_sum_18 : decode cX9_sum 18 = .ok (.imul, 1) := by decide +kernel
theorem dX9_sum_19 : decode cX9_sum 19 = .ok (.iload_n 3, 1) := by decide +kernel
theorem dX9_sum_20 : decode cX9_sum 20 = .ok (.iadd, 1) := by decide +kernel
theorem dX9_sum_21 : decode cX9_sum 21 = .ok (.iaload, 1) := by decide +kernel
theorem dX9_sum_22 : decode cX9_sum 22 = .ok (.iadd, 1) := by decide +kernel
theorem dX9_sum_23 : decode cX9_sum 23 = .ok (.istore_n 2, 1) := by decide +kernel
theorem dX9_sum_24 : decode cX9_sum 24 = .ok (.iinc 3 1, 3) := by decide +kernel
theorem dX9_sum_27 : decode cX9_sum 27 = .ok (.goto (-23), 3) := by decide +kernel
theorem dX9_sum_30 : decode cX9_sum 30 = .ok (.iload_n 2, 1) := by decide +kernel
theorem dX9_sum_31 : decode cX9_sum 31 = .ok (.ireturn, 1) := by decide +kernel
set_option maxRecDepth 20000 in
theorem ggX9_open_X9_sum : GoodIn wsX9_open wsX9_sum := goodIn_r _ [6, 7, 8, 9, 10, 11, 12, 13, 14, 15, 16, 17, 18, 19, 20, 21, 22, 23, 24, 25, 26, 27, 28, 29, 30, 31, 32, 33, 34, 35, 36, 37, 38, 39, 40, 41, 42, 43, 44, 45, 46] (by decide +kernel) (by decide +kernel)
set_option maxRecDepth 20000 in
theorem gX9_open_X9_sum : GoodIn wsX9_open (wsV RX9 110 RX9 yX9_sum wsX9_sum) := goodIn_app (goodIn_of _ (by decide +kernel)) ggX9_open_X9_sum
theorem dX9_open_0 : decode cX9_open 0 = .ok (.iconst 0, 1) := by decide +kernel
theorem dX9_open_1 : decode cX9_open 1 = .ok (.istore_n 1, 1) := by decide +kernel
theorem dX9_open_2 : decode cX9_open 2 = .ok (.iconst 0, 1) := by decide +kernel
theorem dX9_open_3 : decode cX9_open 3 = .ok (.istore_n 2, 1) := by decide +kernel
theorem dX9_open_4 : decode cX9_open 4 = .ok (.iload_n 2, 1) := by decide +kernel
theorem dX9_open_5 : decode cX9_open 5 = .ok (.aload_n 0, 1) := by decide +kernel
theorem dX9_open_6 : decode cX9_open 6 = .ok (.getfield 107, 3) := by decide +kernel
theorem dX9_open_9 : decode cX9_open 9 = .ok (.if_icmp .ge 29, 3) := by decide +kernel
theorem dX9_open_12 : decode cX9_open 12 = .ok (.iload_n 1, 1) := by decide +kernel
theorem dX9_open_13 : decode cX9_open 13 = .ok (.aload_n 0, 1) := by decide +kernel
theorem dX9_open_14 : decode cX9_open 14 = .ok (.iload_n 2, 1) := by decide +kernel
theorem dX9_open_15 : decode cX9_open 15 = .ok (.invokevirtual 110, 3) := by decide +kernel
theorem dX9_open_18 : decode cX9_open 18 = .ok (.bipush 10, 2) := by decide +kernel
theorem dX9_open_20 : decode cX9_open 20 = .ok (.if_icmp .ge 9, 3) := by decide +kernel
theorem dX9_open_23 : decode cX9_open 23 = .ok (.iconst 1, 1) := by decide +kernel
theorem dX9_open_24 : decode cX9_open 24 = .ok (.iload_n 2, 1) := by decide +kernel
theorem dX9_open_25 : decode cX9_open 25 = .ok (.ishl, 1) := by decide +kernel
theorem dX9_open_26 : decode cX9_open 26 = .ok (.goto 4, 3) := by decide +kernel
theorem dX9_open_29 : decode cX9_open 29 = .ok (.iconst 0, 1) := by decide +kernel
theorem dX9_open_30 : decode cX9_open 30 = .ok (.ior, 1) := by decide +kernel
theorem dX9_open_31 : decode cX9_open 31 = .ok (.istore_n 1, 1) := by decide +kernel
theorem dX9_open_32 : decode cX9_open 32 = .ok (.iinc 2 1, 3) := by decide +kernel
theorem dX9_open_35 : decode cX9_open 35 = .ok (.goto (-31), 3) := by decide +kernel
theorem dX9_open_38 : decode cX9_open 38 = .ok (.iload_n 1, 1) := by decide +kernel
theorem dX9_open_39 : decode cX9_open 39 = .ok (.ireturn, 1) := by decide +kernel
theorem dX9_untold_0 : decode cX9_untold 0 = .ok (.iconst 0, 1) := by decide +kernel
theorem dX9_untold_1 : decode cX9_untold 1 = .ok (.istore_n 2, 1) := by decide +kernel
theorem dX9_untold_2 : decode cX9_untold 2 = .ok (.iconst 0, 1) := by decide +kernel
theorem dX9_untold_3 : decode cX9_untold 3 = .ok (.istore_n 3, 1) := by decide +kernel
theorem dX9_untold_4 : decode cX9_untold 4 = .ok (.iload_n 3, 1) := by decide +kernel
theorem dX9_untold_5 : decode cX9_untold 5 = .ok (.aload_n 0, 1) := by decide +kernel
theorem dX9_untold_6 : decode cX9_untold 6 = .ok (.getfield 107, 3) := by decide +kernel
theorem dX9_untold_9 : decode cX9_untold 9 = .ok (.if_icmp .ge 38, 3) := by decide +kernel
theorem dX9_untold_12 : decode cX9_untold 12 = .ok (.iload_n 2, 1) := by decide +kernel
theorem dX9_untold_13 : decode cX9_untold 13 = .ok (.iload_n 3, 1) := by decide +kernel
theorem dX9_untold_14 : decode cX9_untold 14 = .ok (.iload_n 1, 1) := by decide +kernel
theorem dX9_untold_15 : decode cX9_untold 15 = .ok (.if_icmp .eq 23, 3) := by decide +kernel
theorem dX9_untold_18 : decode cX9_untold 18 = .ok (.aload_n 0, 1) := by decide +kernel
theorem dX9_untold_19 : decode cX9_untold 19 = .ok (.getfield 7, 3) := by decide +kernel
theorem dX9_untold_22 : decode cX9_untold 22 = .ok (.bipush 8, 2) := by decide +kernel
theorem dX9_untold_24 : decode cX9_untold 24 = .ok (.iload_n 1, 1) := by decide +kernel
theorem dX9_untold_25 : decode cX9_untold 25 = .ok (.imul, 1) := by decide +kernel
theorem dX9_untold_26 : decode cX9_untold 26 = .ok (.iload_n 3, 1) := by decide +kernel
theorem dX9_untold_27 : decode cX9_untold 27 = .ok (.iadd, 1) := by decide +kernel
theorem dX9_untold_28 : decode cX9_untold 28 = .ok (.iaload, 1) := by decide +kernel
theorem dX9_untold_29 : decode cX9_untold 29 = .ok (.ifCond .ne 9, 3) := by decide +kernel
theorem dX9_untold_32 : decode cX9_untold 32 = .ok (.iconst 1, 1) := by decide +kernel
theorem dX9_untold_33 : decode cX9_untold 33 = .ok (.iload_n 3, 1) := by decide +kernel
theorem dX9_untold_34 : decode cX9_untold 34 = .ok (.ishl, 1) := by decide +kernel
theorem dX9_untold_35 : decode cX9_untold 35 = .ok (.goto 4, 3) := by decide +kernel
theorem dX9_untold_38 : decode cX9_untold 38 = .ok (.iconst 0, 1) := by decide +kernel
theorem dX9_untold_39 : decode cX9_untold 39 = .ok (.ior, 1) := by decide +kernel
theorem dX9_untold_40 : decode cX9_untold 40 = .ok (.istore_n 2, 1) := by decide +kernel
theorem dX9_untold_41 : decode cX9_untold 41 = .ok (.iinc 3 1, 3) := by decide +kernel
theorem dX9_untold_44 : decode cX9_untold 44 = .ok (.goto (-40), 3) := by decide +kernel
theorem dX9_untold_47 : decode cX9_untold 47 = .ok (.iload_n 2, 1) := by decide +kernel
theorem dX9_untold_48 : decode cX9_untold 48 = .ok (.ireturn, 1) := by decide +kernel
set_option maxRecDepth 20000 in
theorem ggX9_readText_X9_figure : GoodIn wsX9_readText wsX9_figure := goodIn_r _ [13, 2, 1, 6, 7, 14, 15, 16, 12, 17, 38, 39, 40, 41, 42, 43, 44, 45, 46, 47, 48, 49, 50, 51, 52, 53, 54, 55, 56, 57, 58, 59, 60, 61, 62, 63, 64, 65, 66, 67, 68, 69, 70, 71, 72, 73, 74, 75, 76] (by decide +kernel) (by decide +kernel)
set_option maxRecDepth 20000 in
theorem gX9_readText_X9_figure : GoodIn wsX9_readText (wsV RX9 120 RX9 yX9_figure wsX9_figure) := goodIn_app (goodIn_of _ (by decide +kernel)) ggX9_readText_X9_figure
set_option maxRecDepth 20000 in
theorem ggX9_readText_X9_open : GoodIn wsX9_readText wsX9_open := goodIn_r _ [21, 8, 22, 23, 24, 12, 25, 5, 38, 39, 40, 41, 42, 43, 44, 45, 46, 47, 48, 49, 50, 51, 52, 53, 54, 55, 56, 57, 58, 59, 60, 61, 62, 63, 64, 65, 66, 67, 68, 69, 70, 71, 72, 73, 74, 75, 76] (by decide +kernel) (by decide +kernel)
set_option maxRecDepth 20000 in
theorem gX9_readText_X9_open : GoodIn wsX9_readText (wsV RX9 123 RX9 yX9_open wsX9_open) := goodIn_app (goodIn_of _ (by decide +kernel)) ggX9_readText_X9_open
set_option maxRecDepth 20000 in
theorem ggX9_readText_X9_readHand : GoodIn wsX9_readText wsX9_readHand := goodIn_r _ [29, 1, 2, 5, 18, 19, 20, 12, 21, 8, 22, 23, 24, 25, 9, 10, 11, 13, 6, 7, 14, 15, 16, 17, 30, 31, 32, 33, 38, 39, 40, 41, 42, 43, 44, 45, 46, 47, 48, 49, 50, 51, 52, 53, 54, 55, 56, 57, 58, 59, 60, 61, 62, 63, 64, 65, 66, 67, 68, 69, 70, 71, 72, 73, 74, 75, 76] (by decide +kernel) (by decide +kernel)
set_option maxRecDepth 20000 in
theorem gX9_readText_X9_readHand : GoodIn wsX9_readText (wsV RX9 127 RX9 yX9_readHand wsX9_readHand) := goodIn_app (goodIn_of _ (by decide +kernel)) ggX9_readText_X9_readHand
set_option maxRecDepth 20000 in
theorem ggX9_readText_X9_isWhole : GoodIn wsX9_readText wsX9_isWhole := goodIn_r _ [37, 8, 22, 23, 24, 12, 25, 5, 38, 39, 40, 41, 42, 43, 44, 45, 46, 47, 48, 49, 50, 51, 52, 53, 54, 55, 56, 57, 58, 59, 60, 61, 62, 63, 64, 65, 66, 67, 68, 69, 70, 71, 72, 73, 74, 75, 76] (by decide +kernel) (by decide +kernel)
set_option maxRecDepth 20000 in
theorem gX9_readText_X9_isWhole : GoodIn wsX9_readText (wsV RX9 130 RX9 yX9_isWhole wsX9_isWhole) := goodIn_app (goodIn_of _ (by decide +kernel)) ggX9_readText_X9_isWhole
theorem dX9_readText_0 : decode cX9_readText 0 = .ok (.aload_n 0, 1) := by decide +kernel
theorem dX9_readText_1 : decode cX9_readText 1 = .ok (.iconst 0, 1) := by decide +kernel
theorem dX9_readText_2 : decode cX9_readText 2 = .ok (.putfield 102, 3) := by decide +kernel
theorem dX9_readText_5 : decode cX9_readText 5 = .ok (.aload_n 0, 1) := by decide +kernel
theorem dX9_readText_6 : decode cX9_readText 6 = .ok (.bipush (-9), 2) := by decide +kernel
theorem dX9_readText_8 : decode cX9_readText 8 = .ok (.putfield 99, 3) := by decide +kernel
theorem dX9_readText_11 : decode cX9_readText 11 = .ok (.aload_n 0, 1) := by decide +kernel
theorem dX9_readText_12 : decode cX9_readText 12 = .ok (.iconst 2, 1) := by decide +kernel
theorem dX9_readText_13 : decode cX9_readText 13 = .ok (.putfield 114, 3) := by decide +kernel
theorem dX9_readText_16 : decode cX9_readText 16 = .ok (.aload_n 0, 1) := by decide +kernel
theorem dX9_readText_17 : decode cX9_readText 17 = .ok (.iconst 0, 1) := by decide +kernel
theorem dX9_readText_18 : decode cX9_readText 18 = .ok (.putfield 117, 3) := by decide +kernel
theorem dX9_readText_21 : decode cX9_readText 21 = .ok (.iconst 0, 1) := by decide +kernel
theorem dX9_readText_22 : decode cX9_readText 22 = .ok (.istore_n 1, 1) := by decide +kernel
theorem dX9_readText_23 : decode cX9_readText 23 = .ok (.iload_n 1, 1) := by decide +kernel
theorem dX9_readText_24 : decode cX9_readText 24 = .ok (.bipush 64, 2) := by decide +kernel
theorem dX9_readText_26 : decode cX9_readText 26 = .ok (.if_icmp .ge 16, 3) := by decide +kernel
theorem dX9_readText_29 : decode cX9_readText 29 = .ok (.aload_n 0, 1) := by decide +kernel
theorem dX9_readText_30 : decode cX9_readText 30 = .ok (.getfield 7, 3) := by decide +kernel
theorem dX9_readText_33 : decode cX9_readText 33 = .ok (.iload_n 1, 1) := by decide +kernel
theorem dX9_readText_34 : decode cX9_readText 34 = .ok (.iconst 0, 1) := by decide +kernel
theorem dX9_readText_35 : decode cX9_readText 35 = .ok (.iastore, 1) := by decide +kernel
theorem dX9_readText_36 : decode cX9_readText 36 = .ok (.iinc 1 1, 3) := by decide +kernel
theorem dX9_readText_39 : decode cX9_readText 39 = .ok (.goto (-16), 3) := by decide +kernel
theorem dX9_readText_42 : decode cX9_readText 42 = .ok (.aload_n 0, 1) := by decide +kernel
theorem dX9_readText_43 : decode cX9_readText 43 = .ok (.getfield 94, 3) := by decide +kernel
theorem dX9_readText_46 : decode cX9_readText 46 = .ok (.ifCond .eq 14, 3) := by decide +kernel
theorem dX9_readText_49 : decode cX9_readText 49 = .ok (.aload_n 0, 1) := by decide +kernel
theorem dX9_readText_50 : decode cX9_readText 50 = .ok (.getfield 16, 3) := by decide +kernel
theorem dX9_readText_53 : decode cX9_readText 53 = .ok (.iconst 0, 1) := by decide +kernel
theorem dX9_readText_54 : decode cX9_readText 54 = .ok (.iaload, 1) := by decide +kernel
theorem dX9_readText_55 : decode cX9_readText 55 = .ok (.bipush 84, 2) := by decide +kernel
theorem dX9_readText_57 : decode cX9_readText 57 = .ok (.if_icmp .eq 5, 3) := by decide +kernel
theorem dX9_readText_60 : decode cX9_readText 60 = .ok (.iconst 0, 1) := by decide +kernel
theorem dX9_readText_61 : decode cX9_readText 61 = .ok (.ireturn, 1) := by decide +kernel
theorem dX9_readText_62 : decode cX9_readText 62 = .ok (.aload_n 0, 1) := by decide +kernel
theorem dX9_readText_63 : decode cX9_readText 63 = .ok (.iconst 1, 1) := by decide +kernel
theorem dX9_readText_64 : decode cX9_readText 64 = .ok (.putfield 102, 3) := by decide +kernel
theorem dX9_readText_67 : decode cX9_readText 67 = .ok (.aload_n 0, 1) := by decide +kernel
theorem dX9_readText_68 : decode cX9_readText 68 = .ok (.aload_n 0, 1) := by decide +kernel
theorem dX9_readText_69 : decode cX9_readText 69 = .ok (.sipush 508, 3) := by decide +kernel
theorem dX9_readText_72 : decode cX9_readText 72 = .ok (.invokevirtual 120, 3) := by decide +kernel
theorem dX9_readText_75 : decode cX9_readText 75 = .ok (.putfield 107, 3) := by decide +kernel
theorem dX9_readText_78 : decode cX9_readText 78 = .ok (.aload_n 0, 1) := by decide +kernel
theorem dX9_readText_79 : decode cX9_readText 79 = .ok (.getfield 99, 3) := by decide +kernel
theorem dX9_readText_82 : decode cX9_readText 82 = .ok (.bipush (-9), 2) := by decide +kernel
theorem dX9_readText_84 : decode cX9_readText 84 = .ok (.if_icmp .ne 119, 3) := by decide +kernel
theorem dX9_readText_87 : decode cX9_readText 87 = .ok (.aload_n 0, 1) := by decide +kernel
theorem dX9_readText_88 : decode cX9_readText 88 = .ok (.getfield 102, 3) := by decide +kernel
theorem dX9_readText_91 : decode cX9_readText 91 = .ok (.aload_n 0, 1) := by decide +kernel
theorem dX9_readText_92 : decode cX9_readText 92 = .ok (.getfield 94, 3) := by decide +kernel
theorem dX9_readText_95 : decode cX9_readText 95 = .ok (.if_icmp .ge 108, 3) := by decide +kernel
theorem dX9_readText_98 : decode cX9_readText 98 = .ok (.aload_n 0, 1) := by decide +kernel
theorem dX9_readText_99 : decode cX9_readText 99 = .ok (.getfield 16, 3) := by decide +kernel
theorem dX9_readText_102 : decode cX9_readText 102 = .ok (.aload_n 0, 1) := by decide +kernel
theorem dX9_readText_103 : decode cX9_readText 103 = .ok (.getfield 102, 3) := by decide +kernel
theorem dX9_readText_106 : decode cX9_readText 106 = .ok (.iaload, 1) := by decide +kernel
theorem dX9_readText_107 : decode cX9_readText 107 = .ok (.bipush 82, 2) := by decide +kernel
theorem dX9_readText_109 : decode cX9_readText 109 = .ok (.if_icmp .eq 17, 3) := by decide +kernel
theorem dX9_readText_112 : decode cX9_readText 112 = .ok (.aload_n 0, 1) := by decide +kernel
theorem dX9_readText_113 : decode cX9_readText 113 = .ok (.getfield 16, 3) := by decide +kernel
theorem dX9_readText_116 : decode cX9_readText 116 = .ok (.aload_n 0, 1) := by decide +kernel
theorem dX9_readText_117 : decode cX9_readText 117 = .ok (.getfield 102, 3) := by decide +kernel
theorem dX9_readText_120 : decode cX9_readText 120 = .ok (.iaload, 1) := by decide +kernel
theorem dX9_readText_121 : decode cX9_readText 121 = .ok (.bipush 87, 2) := by decide +kernel
theorem dX9_readText_123 : decode cX9_readText 123 = .ok (.if_icmp .ne 80, 3) := by decide +kernel
theorem dX9_readText_126 : decode cX9_readText 126 = .ok (.aload_n 0, 1) := by decide +kernel
theorem dX9_readText_127 : decode cX9_readText 127 = .ok (.aload_n 0, 1) := by decide +kernel
theorem dX9_readText_128 : decode cX9_readText 128 = .ok (.getfield 16, 3) := by decide +kernel
theorem dX9_readText_131 : decode cX9_readText 131 = .ok (.aload_n 0, 1) := by decide +kernel
theorem dX9_readText_132 : decode cX9_readText 132 = .ok (.getfield 102, 3) := by decide +kernel
theorem dX9_readText_135 : decode cX9_readText 135 = .ok (.iaload, 1) := by decide +kernel
theorem dX9_readText_136 : decode cX9_readText 136 = .ok (.bipush 82, 2) := by decide +kernel
theorem dX9_readText_138 : decode cX9_readText 138 = .ok (.if_icmp .ne 7, 3) := by decide +kernel
theorem dX9_readText_141 : decode cX9_readText 141 = .ok (.iconst 0, 1) := by decide +kernel
theorem dX9_readText_142 : decode cX9_readText 142 = .ok (.goto 4, 3) := by decide +kernel
theorem dX9_readText_145 : decode cX9_readText 145 = .ok (.iconst 1, 1) := by decide +kernel
theorem dX9_readText_146 : decode cX9_readText 146 = .ok (.putfield 114, 3) := by decide +kernel
theorem dX9_readText_149 : decode cX9_readText 149 = .ok (.aload_n 0, 1) := by decide +kernel
theorem dX9_readText_150 : decode cX9_readText 150 = .ok (.dup, 1) := by decide +kernel
theorem dX9_readText_151 : decode cX9_readText 151 = .ok (.getfield 102, 3) := by decide +kernel
theorem dX9_readText_154 : decode cX9_readText 154 = .ok (.iconst 1, 1) := by decide +kernel
theorem dX9_readText_155 : decode cX9_readText 155 = .ok (.iadd, 1) := by decide +kernel
theorem dX9_readText_156 : decode cX9_readText 156 = .ok (.putfield 102, 3) := by decide +kernel
theorem dX9_readText_159 : decode cX9_readText 159 = .ok (.aload_n 0, 1) := by decide +kernel
theorem dX9_readText_160 : decode cX9_readText 160 = .ok (.aload_n 0, 1) := by decide +kernel
theorem dX9_readText_161 : decode cX9_readText 161 = .ok (.sipush 1023, 3) := by decide +kernel
theorem dX9_readText_164 : decode cX9_readText 164 = .ok (.invokevirtual 120, 3) := by decide +kernel
theorem dX9_readText_167 : decode cX9_readText 167 = .ok (.putfield 117, 3) := by decide +kernel
theorem dX9_readText_170 : decode cX9_readText 170 = .ok (.aload_n 0, 1) := by decide +kernel
theorem dX9_readText_171 : decode cX9_readText 171 = .ok (.getfield 99, 3) := by decide +kernel
theorem dX9_readText_174 : decode cX9_readText 174 = .ok (.bipush (-9), 2) := by decide +kernel
theorem dX9_readText_176 : decode cX9_readText 176 = .ok (.if_icmp .ne 22, 3) := by decide +kernel
theorem dX9_readText_179 : decode cX9_readText 179 = .ok (.aload_n 0, 1) := by decide +kernel
theorem dX9_readText_180 : decode cX9_readText 180 = .ok (.getfield 102, 3) := by decide +kernel
theorem dX9_readText_183 : decode cX9_readText 183 = .ok (.aload_n 0, 1) := by decide +kernel
theorem dX9_readText_184 : decode cX9_readText 184 = .ok (.getfield 94, 3) := by decide +kernel
theorem dX9_readText_187 : decode cX9_readText 187 = .ok (.if_icmp .ge 11, 3) := by decide +kernel
theorem dX9_readText_190 : decode cX9_readText 190 = .ok (.aload_n 0, 1) := by decide +kernel
theorem dX9_readText_191 : decode cX9_readText 191 = .ok (.aload_n 0, 1) := by decide +kernel
theorem dX9_readText_192 : decode cX9_readText 192 = .ok (.getfield 102, 3) := by decide +kernel
theorem dX9_readText_195 : decode cX9_readText 195 = .ok (.putfield 99, 3) := by decide +kernel
theorem dX9_readText_198 : decode cX9_readText 198 = .ok (.aload_n 0, 1) := by decide +kernel
theorem dX9_readText_199 : decode cX9_readText 199 = .ok (.getfield 99, 3) := by decide +kernel
theorem dX9_readText_202 : decode cX9_readText 202 = .ok (.ireturn, 1) := by decide +kernel
theorem dX9_readText_203 : decode cX9_readText 203 = .ok (.aload_n 0, 1) := by decide +kernel
theorem dX9_readText_204 : decode cX9_readText 204 = .ok (.getfield 99, 3) := by decide +kernel
theorem dX9_readText_207 : decode cX9_readText 207 = .ok (.bipush (-9), 2) := by decide +kernel
theorem dX9_readText_209 : decode cX9_readText 209 = .ok (.if_icmp .ne 53, 3) := by decide +kernel
theorem dX9_readText_212 : decode cX9_readText 212 = .ok (.aload_n 0, 1) := by decide +kernel
theorem dX9_readText_213 : decode cX9_readText 213 = .ok (.getfield 102, 3) := by decide +kernel
theorem dX9_readText_216 : decode cX9_readText 216 = .ok (.aload_n 0, 1) := by decide +kernel
theorem dX9_readText_217 : decode cX9_readText 217 = .ok (.getfield 94, 3) := by decide +kernel
theorem dX9_readText_220 : decode cX9_readText 220 = .ok (.if_icmp .ge 42, 3) := by decide +kernel
theorem dX9_readText_223 : decode cX9_readText 223 = .ok (.aload_n 0, 1) := by decide +kernel
theorem dX9_readText_224 : decode cX9_readText 224 = .ok (.getfield 16, 3) := by decide +kernel
theorem dX9_readText_227 : decode cX9_readText 227 = .ok (.aload_n 0, 1) := by decide +kernel
theorem dX9_readText_228 : decode cX9_readText 228 = .ok (.getfield 102, 3) := by decide +kernel
theorem dX9_readText_231 : decode cX9_readText 231 = .ok (.iaload, 1) := by decide +kernel
theorem dX9_readText_232 : decode cX9_readText 232 = .ok (.bipush 72, 2) := by decide +kernel
theorem dX9_readText_234 : decode cX9_readText 234 = .ok (.if_icmp .ne 17, 3) := by decide +kernel
theorem dX9_readText_237 : decode cX9_readText 237 = .ok (.aload_n 0, 1) := by decide +kernel
theorem dX9_readText_238 : decode cX9_readText 238 = .ok (.invokevirtual 123, 3) := by decide +kernel
theorem dX9_readText_241 : decode cX9_readText 241 = .ok (.ifCond .eq 10, 3) := by decide +kernel
theorem dX9_readText_244 : decode cX9_readText 244 = .ok (.aload_n 0, 1) := by decide +kernel
theorem dX9_readText_245 : decode cX9_readText 245 = .ok (.invokevirtual 127, 3) := by decide +kernel
theorem dX9_readText_248 : decode cX9_readText 248 = .ok (.goto (-45), 3) := by decide +kernel
theorem dX9_readText_251 : decode cX9_readText 251 = .ok (.aload_n 0, 1) := by decide +kernel
theorem dX9_readText_252 : decode cX9_readText 252 = .ok (.aload_n 0, 1) := by decide +kernel
theorem dX9_readText_253 : decode cX9_readText 253 = .ok (.getfield 102, 3) := by decide +kernel
theorem dX9_readText_256 : decode cX9_readText 256 = .ok (.putfield 99, 3) := by decide +kernel
theorem dX9_readText_259 : decode cX9_readText 259 = .ok (.goto (-56), 3) := by decide +kernel
theorem dX9_readText_262 : decode cX9_readText 262 = .ok (.aload_n 0, 1) := by decide +kernel
theorem dX9_readText_263 : decode cX9_readText 263 = .ok (.getfield 99, 3) := by decide +kernel
theorem dX9_readText_266 : decode cX9_readText 266 = .ok (.bipush (-9), 2) := by decide +kernel
theorem dX9_readText_268 : decode cX9_readText 268 = .ok (.if_icmp .eq 10, 3) := by decide +kernel
theorem dX9_readText_271 : decode cX9_readText 271 = .ok (.aload_n 0, 1) := by decide +kernel
theorem dX9_readText_272 : decode cX9_readText 272 = .ok (.getfield 99, 3) := by decide +kernel
theorem dX9_readText_275 : decode cX9_readText 275 = .ok (.goto 19, 3) := by decide +kernel
theorem dX9_readText_278 : decode cX9_readText 278 = .ok (.aload_n 0, 1) := by decide +kernel
theorem dX9_readText_279 : decode cX9_readText 279 = .ok (.invokevirtual 130, 3) := by decide +kernel
theorem dX9_readText_282 : decode cX9_readText 282 = .ok (.ifCond .eq 8, 3) := by decide +kernel
theorem dX9_readText_285 : decode cX9_readText 285 = .ok (.bipush (-9), 2) := by decide +kernel
theorem dX9_readText_287 : decode cX9_readText 287 = .ok (.goto 7, 3) := by decide +kernel
theorem dX9_readText_290 : decode cX9_readText 290 = .ok (.aload_n 0, 1) := by decide +kernel
theorem dX9_readText_291 : decode cX9_readText 291 = .ok (.getfield 94, 3) := by decide +kernel
theorem dX9_readText_294 : decode cX9_readText 294 = .ok (.ireturn, 1) := by decide +kernel
set_option maxRecDepth 20000 in
theorem ggX9_readHand_X9_open : GoodIn wsX9_readHand wsX9_open := goodIn_r _ [8, 9, 10, 11, 12, 7, 13, 3, 28, 29, 30, 31, 32, 33, 34, 35, 36, 37, 38, 39, 40, 41, 42, 43, 44, 45, 46, 47, 48, 49, 50, 51, 52, 53, 54, 55, 56, 57, 58, 59, 60, 61, 62, 63, 64, 65, 66] (by decide +kernel) (by decide +kernel)
set_option maxRecDepth 20000 in
theorem gX9_readHand_X9_open : GoodIn wsX9_readHand (wsV RX9 123 RX9 yX9_open wsX9_open) := goodIn_app (goodIn_of _ (by decide +kernel)) ggX9_readHand_X9_open
set_option maxRecDepth 20000 in
theorem ggX9_readHand_X9_figure : GoodIn wsX9_readHand wsX9_figure := goodIn_r _ [17, 2, 1, 18, 19, 20, 21, 22, 7, 23, 28, 29, 30, 31, 32, 33, 34, 35, 36, 37, 38, 39, 40, 41, 42, 43, 44, 45, 46, 47, 48, 49, 50, 51, 52, 53, 54, 55, 56, 57, 58, 59, 60, 61, 62, 63, 64, 65, 66] (by decide +kernel) (by decide +kernel)
set_option maxRecDepth 20000 in
theorem gX9_readHand_X9_figure : GoodIn wsX9_readHand (wsV RX9 120 RX9 yX9_figure wsX9_figure) := goodIn_app (goodIn_of _ (by decide +kernel)) ggX9_readHand_X9_figure
set_option maxRecDepth 20000 in
theorem ggX9_readHand_X9_untold : GoodIn wsX9_readHand wsX9_untold := goodIn_r _ [27, 9, 3, 28, 29, 30, 31, 32, 33, 34, 35, 36, 37, 38, 39, 40, 41, 42, 43, 44, 45, 46, 47, 48, 49, 50, 51, 52, 53, 54, 55, 56, 57, 58, 59, 60, 61, 62, 63, 64, 65, 66] (by decide +kernel) (by decide +kernel)
set_option maxRecDepth 20000 in
theorem gX9_readHand_X9_untold : GoodIn wsX9_readHand (wsV RX9 134 RX9 yX9_untold wsX9_untold) := goodIn_app (goodIn_of _ (by decide +kernel)) ggX9_readHand_X9_untold
set_option maxRecDepth 20000 in
theorem ggX9_readHand_X9_sum : GoodIn wsX9_readHand wsX9_sum := goodIn_r _ [13, 3, 28, 29, 30, 31, 32, 33, 34, 35, 36, 37, 38, 39, 40, 41, 42, 43, 44, 45, 46, 47, 48, 49, 50, 51, 52, 53, 54, 55, 56, 57, 58, 59, 60, 61, 62, 63, 64, 65, 66] (by decide +kernel) (by decide +kernel)
set_option maxRecDepth 20000 in
theorem gX9_readHand_X9_sum : GoodIn wsX9_readHand (wsV RX9 110 RX9 yX9_sum wsX9_sum) := goodIn_app (goodIn_of _ (by decide +kernel)) ggX9_readHand_X9_sum
theorem dX9_readHand_0 : decode cX9_readHand 0 = .ok (.aload_n 0, 1) := by decide +kernel
theorem dX9_readHand_1 : decode cX9_readHand 1 = .ok (.dup, 1) := by decide +kernel
theorem dX9_readHand_2 : decode cX9_readHand 2 = .ok (.getfield 102, 3) := by decide +kernel
theorem dX9_readHand_5 : decode cX9_readHand 5 = .ok (.iconst 1, 1) := by decide +kernel
theorem dX9_readHand_6 : decode cX9_readHand 6 = .ok (.iadd, 1) := by decide +kernel
theorem dX9_readHand_7 : decode cX9_readHand 7 = .ok (.putfield 102, 3) := by decide +kernel
theorem dX9_readHand_10 : decode cX9_readHand 10 = .ok (.aload_n 0, 1) := by decide +kernel
theorem dX9_readHand_11 : decode cX9_readHand 11 = .ok (.aload_n 0, 1) := by decide +kernel
theorem dX9_readHand_12 : decode cX9_readHand 12 = .ok (.invokevirtual 123, 3) := by decide +kernel
theorem dX9_readHand_15 : decode cX9_readHand 15 = .ok (.invokevirtual 120, 3) := by decide +kernel
theorem dX9_readHand_18 : decode cX9_readHand 18 = .ok (.istore_n 1, 1) := by decide +kernel
theorem dX9_readHand_19 : decode cX9_readHand 19 = .ok (.aload_n 0, 1) := by decide +kernel
theorem dX9_readHand_20 : decode cX9_readHand 20 = .ok (.aload_n 0, 1) := by decide +kernel
theorem dX9_readHand_21 : decode cX9_readHand 21 = .ok (.iload_n 1, 1) := by decide +kernel
theorem dX9_readHand_22 : decode cX9_readHand 22 = .ok (.invokevirtual 134, 3) := by decide +kernel
theorem dX9_readHand_25 : decode cX9_readHand 25 = .ok (.invokevirtual 120, 3) := by decide +kernel
theorem dX9_readHand_28 : decode cX9_readHand 28 = .ok (.istore_n 2, 1) := by decide +kernel
theorem dX9_readHand_29 : decode cX9_readHand 29 = .ok (.bipush 10, 2) := by decide +kernel
theorem dX9_readHand_31 : decode cX9_readHand 31 = .ok (.aload_n 0, 1) := by decide +kernel
theorem dX9_readHand_32 : decode cX9_readHand 32 = .ok (.iload_n 1, 1) := by decide +kernel
theorem dX9_readHand_33 : decode cX9_readHand 33 = .ok (.invokevirtual 110, 3) := by decide +kernel
theorem dX9_readHand_36 : decode cX9_readHand 36 = .ok (.isub, 1) := by decide +kernel
theorem dX9_readHand_37 : decode cX9_readHand 37 = .ok (.istore_n 3, 1) := by decide +kernel
theorem dX9_readHand_38 : decode cX9_readHand 38 = .ok (.aload_n 0, 1) := by decide +kernel
theorem dX9_readHand_39 : decode cX9_readHand 39 = .ok (.iload_n 1, 1) := by decide +kernel
theorem dX9_readHand_40 : decode cX9_readHand 40 = .ok (.invokevirtual 134, 3) := by decide +kernel
theorem dX9_readHand_43 : decode cX9_readHand 43 = .ok (.iconst 1, 1) := by decide +kernel
theorem dX9_readHand_44 : decode cX9_readHand 44 = .ok (.iload_n 2, 1) := by decide +kernel
theorem dX9_readHand_45 : decode cX9_readHand 45 = .ok (.ishl, 1) := by decide +kernel
theorem dX9_readHand_46 : decode cX9_readHand 46 = .ok (.iconst (-1), 1) := by decide +kernel
theorem dX9_readHand_47 : decode cX9_readHand 47 = .ok (.ixor, 1) := by decide +kernel
theorem dX9_readHand_48 : decode cX9_readHand 48 = .ok (.iand, 1) := by decide +kernel
theorem dX9_readHand_49 : decode cX9_readHand 49 = .ok (.ifCond .eq 7, 3) := by decide +kernel
theorem dX9_readHand_52 : decode cX9_readHand 52 = .ok (.iconst 1, 1) := by decide +kernel
theorem dX9_readHand_53 : decode cX9_readHand 53 = .ok (.goto 4, 3) := by decide +kernel
theorem dX9_readHand_56 : decode cX9_readHand 56 = .ok (.iconst 0, 1) := by decide +kernel
theorem dX9_readHand_57 : decode cX9_readHand 57 = .ok (.istore 4, 2) := by decide +kernel
theorem dX9_readHand_59 : decode cX9_readHand 59 = .ok (.iload_n 3, 1) := by decide +kernel
theorem dX9_readHand_60 : decode cX9_readHand 60 = .ok (.bipush 10, 2) := by decide +kernel
theorem dX9_readHand_62 : decode cX9_readHand 62 = .ok (.if_icmp .ne 7, 3) := by decide +kernel
theorem dX9_readHand_65 : decode cX9_readHand 65 = .ok (.iconst 1, 1) := by decide +kernel
theorem dX9_readHand_66 : decode cX9_readHand 66 = .ok (.goto 4, 3) := by decide +kernel
theorem dX9_readHand_69 : decode cX9_readHand 69 = .ok (.iconst 0, 1) := by decide +kernel
theorem dX9_readHand_70 : decode cX9_readHand 70 = .ok (.istore 5, 2) := by decide +kernel
theorem dX9_readHand_72 : decode cX9_readHand 72 = .ok (.iconst 1, 1) := by decide +kernel
theorem dX9_readHand_73 : decode cX9_readHand 73 = .ok (.istore 6, 2) := by decide +kernel
theorem dX9_readHand_75 : decode cX9_readHand 75 = .ok (.iload 6, 2) := by decide +kernel
theorem dX9_readHand_77 : decode cX9_readHand 77 = .ok (.bipush 10, 2) := by decide +kernel
theorem dX9_readHand_79 : decode cX9_readHand 79 = .ok (.if_icmp .ge 39, 3) := by decide +kernel
theorem dX9_readHand_82 : decode cX9_readHand 82 = .ok (.iload 5, 2) := by decide +kernel
theorem dX9_readHand_84 : decode cX9_readHand 84 = .ok (.iload 6, 2) := by decide +kernel
theorem dX9_readHand_86 : decode cX9_readHand 86 = .ok (.iload_n 3, 1) := by decide +kernel
theorem dX9_readHand_87 : decode cX9_readHand 87 = .ok (.if_icmp .eq 14, 3) := by decide +kernel
theorem dX9_readHand_90 : decode cX9_readHand 90 = .ok (.iload 6, 2) := by decide +kernel
theorem dX9_readHand_92 : decode cX9_readHand 92 = .ok (.iload_n 3, 1) := by decide +kernel
theorem dX9_readHand_93 : decode cX9_readHand 93 = .ok (.if_icmp .ge 15, 3) := by decide +kernel
theorem dX9_readHand_96 : decode cX9_readHand 96 = .ok (.iload 4, 2) := by decide +kernel
theorem dX9_readHand_98 : decode cX9_readHand 98 = .ok (.ifCond .eq 10, 3) := by decide +kernel
theorem dX9_readHand_101 : decode cX9_readHand 101 = .ok (.iconst 1, 1) := by decide +kernel
theorem dX9_readHand_102 : decode cX9_readHand 102 = .ok (.iload 6, 2) := by decide +kernel
theorem dX9_readHand_104 : decode cX9_readHand 104 = .ok (.ishl, 1) := by decide +kernel
theorem dX9_readHand_105 : decode cX9_readHand 105 = .ok (.goto 4, 3) := by decide +kernel
theorem dX9_readHand_108 : decode cX9_readHand 108 = .ok (.iconst 0, 1) := by decide +kernel
theorem dX9_readHand_109 : decode cX9_readHand 109 = .ok (.ior, 1) := by decide +kernel
theorem dX9_readHand_110 : decode cX9_readHand 110 = .ok (.istore 5, 2) := by decide +kernel
theorem dX9_readHand_112 : decode cX9_readHand 112 = .ok (.iinc 6 1, 3) := by decide +kernel
theorem dX9_readHand_115 : decode cX9_readHand 115 = .ok (.goto (-40), 3) := by decide +kernel
theorem dX9_readHand_118 : decode cX9_readHand 118 = .ok (.aload_n 0, 1) := by decide +kernel
theorem dX9_readHand_119 : decode cX9_readHand 119 = .ok (.iload 5, 2) := by decide +kernel
theorem dX9_readHand_121 : decode cX9_readHand 121 = .ok (.invokevirtual 120, 3) := by decide +kernel
theorem dX9_readHand_124 : decode cX9_readHand 124 = .ok (.istore 6, 2) := by decide +kernel
theorem dX9_readHand_126 : decode cX9_readHand 126 = .ok (.aload_n 0, 1) := by decide +kernel
theorem dX9_readHand_127 : decode cX9_readHand 127 = .ok (.getfield 99, 3) := by decide +kernel
theorem dX9_readHand_130 : decode cX9_readHand 130 = .ok (.bipush (-9), 2) := by decide +kernel
theorem dX9_readHand_132 : decode cX9_readHand 132 = .ok (.if_icmp .ne 26, 3) := by decide +kernel
theorem dX9_readHand_135 : decode cX9_readHand 135 = .ok (.aload_n 0, 1) := by decide +kernel
theorem dX9_readHand_136 : decode cX9_readHand 136 = .ok (.getfield 7, 3) := by decide +kernel
theorem dX9_readHand_139 : decode cX9_readHand 139 = .ok (.bipush 8, 2) := by decide +kernel
theorem dX9_readHand_141 : decode cX9_readHand 141 = .ok (.iload_n 1, 1) := by decide +kernel
theorem dX9_readHand_142 : decode cX9_readHand 142 = .ok (.imul, 1) := by decide +kernel
theorem dX9_readHand_143 : decode cX9_readHand 143 = .ok (.iload_n 2, 1) := by decide +kernel
theorem dX9_readHand_144 : decode cX9_readHand 144 = .ok (.iadd, 1) := by decide +kernel
theorem dX9_readHand_145 : decode cX9_readHand 145 = .ok (.iload 6, 2) := by decide +kernel
theorem dX9_readHand_147 : decode cX9_readHand 147 = .ok (.ifCond .ne 8, 3) := by decide +kernel
theorem dX9_readHand_150 : decode cX9_readHand 150 = .ok (.bipush 10, 2) := by decide +kernel
theorem dX9_readHand_152 : decode cX9_readHand 152 = .ok (.goto 5, 3) := by decide +kernel
theorem dX9_readHand_155 : decode cX9_readHand 155 = .ok (.iload 6, 2) := by decide +kernel
theorem dX9_readHand_157 : decode cX9_readHand 157 = .ok (.iastore, 1) := by decide +kernel
theorem dX9_readHand_158 : decode cX9_readHand 158 = .ok (.return_, 1) := by decide +kernel
set_option maxRecDepth 20000 in
theorem ggX9_isWhole_X9_sum : GoodIn wsX9_isWhole wsX9_sum := goodIn_r _ [6, 7, 8, 9, 10, 11, 12, 13, 14, 15, 16, 17, 18, 19, 20, 21, 22, 23, 24, 25, 26, 27, 28, 29, 30, 31, 32, 33, 34, 35, 36, 37, 38, 39, 40, 41, 42, 43, 44, 45, 46] (by decide +kernel) (by decide +kernel)
set_option maxRecDepth 20000 in
theorem gX9_isWhole_X9_sum : GoodIn wsX9_isWhole (wsV RX9 110 RX9 yX9_sum wsX9_sum) := goodIn_app (goodIn_of _ (by decide +kernel)) ggX9_isWhole_X9_sum
theorem dX9_isWhole_0 : decode cX9_isWhole 0 = .ok (.iconst 1, 1) := by decide +kernel
theorem dX9_isWhole_1 : decode cX9_isWhole 1 = .ok (.istore_n 1, 1) := by decide +kernel
theorem dX9_isWhole_2 : decode cX9_isWhole 2 = .ok (.iconst 0, 1) := by decide +kernel
theorem dX9_isWhole_3 : decode cX9_isWhole 3 = .ok (.istore_n 2, 1) := by decide +kernel
theorem dX9_isWhole_4 : decode cX9_isWhole 4 = .ok (.iload_n 2, 1) := by decide +kernel
theorem dX9_isWhole_5 : decode cX9_isWhole 5 = .ok (.aload_n 0, 1) := by decide +kernel
theorem dX9_isWhole_6 : decode cX9_isWhole 6 = .ok (.getfield 107, 3) := by decide +kernel
theorem dX9_isWhole_9 : decode cX9_isWhole 9 = .ok (.if_icmp .ge 37, 3) := by decide +kernel
theorem dX9_isWhole_12 : decode cX9_isWhole 12 = .ok (.iload_n 1, 1) := by decide +kernel
theorem dX9_isWhole_13 : decode cX9_isWhole 13 = .ok (.ifCond .eq 25, 3) := by decide +kernel
theorem dX9_isWhole_16 : decode cX9_isWhole 16 = .ok (.aload_n 0, 1) := by decide +kernel
theorem dX9_isWhole_17 : decode cX9_isWhole 17 = .ok (.iload_n 2, 1) := by decide +kernel
theorem dX9_isWhole_18 : decode cX9_isWhole 18 = .ok (.invokevirtual 110, 3) := by decide +kernel
theorem dX9_isWhole_21 : decode cX9_isWhole 21 = .ok (.ifCond .eq 13, 3) := by decide +kernel
theorem dX9_isWhole_24 : decode cX9_isWhole 24 = .ok (.aload_n 0, 1) := by decide +kernel
theorem dX9_isWhole_25 : decode cX9_isWhole 25 = .ok (.iload_n 2, 1) := by decide +kernel
theorem dX9_isWhole_26 : decode cX9_isWhole 26 = .ok (.invokevirtual 110, 3) := by decide +kernel
theorem dX9_isWhole_29 : decode cX9_isWhole 29 = .ok (.bipush 10, 2) := by decide +kernel
theorem dX9_isWhole_31 : decode cX9_isWhole 31 = .ok (.if_icmp .ne 7, 3) := by decide +kernel
theorem dX9_isWhole_34 : decode cX9_isWhole 34 = .ok (.iconst 1, 1) := by decide +kernel
theorem dX9_isWhole_35 : decode cX9_isWhole 35 = .ok (.goto 4, 3) := by decide +kernel
theorem dX9_isWhole_38 : decode cX9_isWhole 38 = .ok (.iconst 0, 1) := by decide +kernel
theorem dX9_isWhole_39 : decode cX9_isWhole 39 = .ok (.istore_n 1, 1) := by decide +kernel
theorem dX9_isWhole_40 : decode cX9_isWhole 40 = .ok (.iinc 2 1, 3) := by decide +kernel
theorem dX9_isWhole_43 : decode cX9_isWhole 43 = .ok (.goto (-39), 3) := by decide +kernel
theorem dX9_isWhole_46 : decode cX9_isWhole 46 = .ok (.iload_n 1, 1) := by decide +kernel
theorem dX9_isWhole_47 : decode cX9_isWhole 47 = .ok (.ireturn, 1) := by decide +kernel
set_option maxRecDepth 20000 in
theorem ggX9_fault_X9_readText : GoodIn wsX9_fault wsX9_readText := goodIn_r _ [5, 6, 7, 8, 9, 10, 11, 12, 13, 14, 15, 16, 4, 17, 18, 19, 20, 21, 22, 23, 24, 25, 26, 27, 28, 29, 30, 31, 32, 33, 34, 35, 36, 37, 38, 39, 40, 41, 42, 43, 44, 45, 46, 47, 48, 49, 50, 51, 52, 53, 54, 55, 56, 57, 58, 59, 60, 61, 62, 63, 64, 65, 66, 67, 68, 69, 70, 71, 72, 73, 74, 75, 76, 77, 78, 79, 80] (by decide +kernel) (by decide +kernel)
set_option maxRecDepth 20000 in
theorem gX9_fault_X9_readText : GoodIn wsX9_fault (wsV RX9 137 RX9 yX9_readText wsX9_readText) := goodIn_app (goodIn_of _ (by decide +kernel)) ggX9_fault_X9_readText
theorem dX9_fault_0 : decode cX9_fault 0 = .ok (.aload_n 0, 1) := by decide +kernel
theorem dX9_fault_1 : decode cX9_fault 1 = .ok (.invokevirtual 137, 3) := by decide +kernel
theorem dX9_fault_4 : decode cX9_fault 4 = .ok (.ireturn, 1) := by decide +kernel
theorem dX9_layNeighbours_0 : decode cX9_layNeighbours 0 = .ok (.iconst 0, 1) := by decide +kernel
theorem dX9_layNeighbours_1 : decode cX9_layNeighbours 1 = .ok (.istore_n 1, 1) := by decide +kernel
theorem dX9_layNeighbours_2 : decode cX9_layNeighbours 2 = .ok (.iload_n 1, 1) := by decide +kernel
theorem dX9_layNeighbours_3 : decode cX9_layNeighbours 3 = .ok (.aload_n 0, 1) := by decide +kernel
theorem dX9_layNeighbours_4 : decode cX9_layNeighbours 4 = .ok (.getfield 78, 3) := by decide +kernel
theorem dX9_layNeighbours_7 : decode cX9_layNeighbours 7 = .ok (.if_icmp .ge 179, 3) := by decide +kernel
theorem dX9_layNeighbours_10 : decode cX9_layNeighbours 10 = .ok (.iload_n 1, 1) := by decide +kernel
theorem dX9_layNeighbours_11 : decode cX9_layNeighbours 11 = .ok (.iconst 1, 1) := by decide +kernel
theorem dX9_layNeighbours_12 : decode cX9_layNeighbours 12 = .ok (.iadd, 1) := by decide +kernel
theorem dX9_layNeighbours_13 : decode cX9_layNeighbours 13 = .ok (.aload_n 0, 1) := by decide +kernel
theorem dX9_layNeighbours_14 : decode cX9_layNeighbours 14 = .ok (.getfield 78, 3) := by decide +kernel
theorem dX9_layNeighbours_17 : decode cX9_layNeighbours 17 = .ok (.irem, 1) := by decide +kernel
theorem dX9_layNeighbours_18 : decode cX9_layNeighbours 18 = .ok (.istore_n 2, 1) := by decide +kernel
theorem dX9_layNeighbours_19 : decode cX9_layNeighbours 19 = .ok (.iload_n 1, 1) := by decide +kernel
theorem dX9_layNeighbours_20 : decode cX9_layNeighbours 20 = .ok (.aload_n 0, 1) := by decide +kernel
theorem dX9_layNeighbours_21 : decode cX9_layNeighbours 21 = .ok (.getfield 78, 3) := by decide +kernel
theorem dX9_layNeighbours_24 : decode cX9_layNeighbours 24 = .ok (.iadd, 1) := by decide +kernel
theorem dX9_layNeighbours_25 : decode cX9_layNeighbours 25 = .ok (.iconst 1, 1) := by decide +kernel
theorem dX9_layNeighbours_26 : decode cX9_layNeighbours 26 = .ok (.isub, 1) := by decide +kernel
theorem dX9_layNeighbours_27 : decode cX9_layNeighbours 27 = .ok (.aload_n 0, 1) := by decide +kernel
theorem dX9_layNeighbours_28 : decode cX9_layNeighbours 28 = .ok (.getfield 78, 3) := by decide +kernel
theorem dX9_layNeighbours_31 : decode cX9_layNeighbours 31 = .ok (.irem, 1) := by decide +kernel
theorem dX9_layNeighbours_32 : decode cX9_layNeighbours 32 = .ok (.istore_n 3, 1) := by decide +kernel
theorem dX9_layNeighbours_33 : decode cX9_layNeighbours 33 = .ok (.aload_n 0, 1) := by decide +kernel
theorem dX9_layNeighbours_34 : decode cX9_layNeighbours 34 = .ok (.getfield 140, 3) := by decide +kernel
theorem dX9_layNeighbours_37 : decode cX9_layNeighbours 37 = .ok (.iconst 1, 1) := by decide +kernel
theorem dX9_layNeighbours_38 : decode cX9_layNeighbours 38 = .ok (.if_icmp .ne 11, 3) := by decide +kernel
theorem dX9_layNeighbours_41 : decode cX9_layNeighbours 41 = .ok (.iload_n 1, 1) := by decide +kernel
theorem dX9_layNeighbours_42 : decode cX9_layNeighbours 42 = .ok (.ifCond .ne 7, 3) := by decide +kernel
theorem dX9_layNeighbours_45 : decode cX9_layNeighbours 45 = .ok (.iconst 1, 1) := by decide +kernel
theorem dX9_layNeighbours_46 : decode cX9_layNeighbours 46 = .ok (.goto 4, 3) := by decide +kernel
theorem dX9_layNeighbours_49 : decode cX9_layNeighbours 49 = .ok (.iconst 0, 1) := by decide +kernel
theorem dX9_layNeighbours_50 : decode cX9_layNeighbours 50 = .ok (.istore 4, 2) := by decide +kernel
theorem dX9_layNeighbours_52 : decode cX9_layNeighbours 52 = .ok (.aload_n 0, 1) := by decide +kernel
theorem dX9_layNeighbours_53 : decode cX9_layNeighbours 53 = .ok (.getfield 140, 3) := by decide +kernel
theorem dX9_layNeighbours_56 : decode cX9_layNeighbours 56 = .ok (.iconst 1, 1) := by decide +kernel
theorem dX9_layNeighbours_57 : decode cX9_layNeighbours 57 = .ok (.if_icmp .ne 17, 3) := by decide +kernel
theorem dX9_layNeighbours_60 : decode cX9_layNeighbours 60 = .ok (.iload_n 1, 1) := by decide +kernel
theorem dX9_layNeighbours_61 : decode cX9_layNeighbours 61 = .ok (.aload_n 0, 1) := by decide +kernel
theorem dX9_layNeighbours_62 : decode cX9_layNeighbours 62 = .ok (.getfield 78, 3) := by decide +kernel
theorem dX9_layNeighbours_65 : decode cX9_layNeighbours 65 = .ok (.iconst 1, 1) := by decide +kernel
theorem dX9_layNeighbours_66 : decode cX9_layNeighbours 66 = .ok (.isub, 1) := by decide +kernel
theorem dX9_layNeighbours_67 : decode cX9_layNeighbours 67 = .ok (.if_icmp .ne 7, 3) := by decide +kernel
theorem dX9_layNeighbours_70 : decode cX9_layNeighbours 70 = .ok (.iconst 1, 1) := by decide +kernel
theorem dX9_layNeighbours_71 : decode cX9_layNeighbours 71 = .ok (.goto 4, 3) := by decide +kernel
theorem dX9_layNeighbours_74 : decode cX9_layNeighbours 74 = .ok (.iconst 0, 1) := by decide +kernel
theorem dX9_layNeighbours_75 : decode cX9_layNeighbours 75 = .ok (.istore 5, 2) := by decide +kernel
theorem dX9_layNeighbours_77 : decode cX9_layNeighbours 77 = .ok (.aload_n 0, 1) := by decide +kernel
theorem dX9_layNeighbours_78 : decode cX9_layNeighbours 78 = .ok (.getfield 13, 3) := by decide +kernel
theorem dX9_layNeighbours_81 : decode cX9_layNeighbours 81 = .ok (.bipush 8, 2) := by decide +kernel
theorem dX9_layNeighbours_83 : decode cX9_layNeighbours 83 = .ok (.iload_n 1, 1) := by decide +kernel
theorem dX9_layNeighbours_84 : decode cX9_layNeighbours 84 = .ok (.imul, 1) := by decide +kernel
theorem dX9_layNeighbours_85 : decode cX9_layNeighbours 85 = .ok (.iload_n 2, 1) := by decide +kernel
theorem dX9_layNeighbours_86 : decode cX9_layNeighbours 86 = .ok (.iadd, 1) := by decide +kernel
theorem dX9_layNeighbours_87 : decode cX9_layNeighbours 87 = .ok (.iload 5, 2) := by decide +kernel
theorem dX9_layNeighbours_89 : decode cX9_layNeighbours 89 = .ok (.ifCond .eq 7, 3) := by decide +kernel
theorem dX9_layNeighbours_92 : decode cX9_layNeighbours 92 = .ok (.iconst 0, 1) := by decide +kernel
theorem dX9_layNeighbours_93 : decode cX9_layNeighbours 93 = .ok (.goto 25, 3) := by decide +kernel
theorem dX9_layNeighbours_96 : decode cX9_layNeighbours 96 = .ok (.aload_n 0, 1) := by decide +kernel
theorem dX9_layNeighbours_97 : decode cX9_layNeighbours 97 = .ok (.getfield 78, 3) := by decide +kernel
theorem dX9_layNeighbours_100 : decode cX9_layNeighbours 100 = .ok (.iconst 2, 1) := by decide +kernel
theorem dX9_layNeighbours_101 : decode cX9_layNeighbours 101 = .ok (.if_icmp .eq 8, 3) := by decide +kernel
theorem dX9_layNeighbours_104 : decode cX9_layNeighbours 104 = .ok (.iload 4, 2) := by decide +kernel
theorem dX9_layNeighbours_106 : decode cX9_layNeighbours 106 = .ok (.ifCond .eq 8, 3) := by decide +kernel
theorem dX9_layNeighbours_109 : decode cX9_layNeighbours 109 = .ok (.bipush 10, 2) := by decide +kernel
theorem dX9_layNeighbours_111 : decode cX9_layNeighbours 111 = .ok (.goto 7, 3) := by decide +kernel
theorem dX9_layNeighbours_114 : decode cX9_layNeighbours 114 = .ok (.aload_n 0, 1) := by decide +kernel
theorem dX9_layNeighbours_115 : decode cX9_layNeighbours 115 = .ok (.getfield 82, 3) := by decide +kernel
theorem dX9_layNeighbours_118 : decode cX9_layNeighbours 118 = .ok (.iastore, 1) := by decide +kernel
theorem dX9_layNeighbours_119 : decode cX9_layNeighbours 119 = .ok (.aload_n 0, 1) := by decide +kernel
theorem dX9_layNeighbours_120 : decode cX9_layNeighbours 120 = .ok (.getfield 78, 3) := by decide +kernel
theorem dX9_layNeighbours_123 : decode cX9_layNeighbours 123 = .ok (.iconst 2, 1) := by decide +kernel
theorem dX9_layNeighbours_124 : decode cX9_layNeighbours 124 = .ok (.if_icmp .le 43, 3) := by decide +kernel
theorem dX9_layNeighbours_127 : decode cX9_layNeighbours 127 = .ok (.aload_n 0, 1) := by decide +kernel
theorem dX9_layNeighbours_128 : decode cX9_layNeighbours 128 = .ok (.getfield 13, 3) := by decide +kernel
theorem dX9_layNeighbours_131 : decode cX9_layNeighbours 131 = .ok (.bipush 8, 2) := by decide +kernel
theorem dX9_layNeighbours_133 : decode cX9_layNeighbours 133 = .ok (.iload_n 1, 1) := by decide +kernel
theorem dX9_layNeighbours_134 : decode cX9_layNeighbours 134 = .ok (.imul, 1) := by decide +kernel
theorem dX9_layNeighbours_135 : decode cX9_layNeighbours 135 = .ok (.iload_n 3, 1) := by decide +kernel
theorem dX9_layNeighbours_136 : decode cX9_layNeighbours 136 = .ok (.iadd, 1) := by decide +kernel
theorem dX9_layNeighbours_137 : decode cX9_layNeighbours 137 = .ok (.iload 4, 2) := by decide +kernel
theorem dX9_layNeighbours_139 : decode cX9_layNeighbours 139 = .ok (.ifCond .eq 7, 3) := by decide +kernel
theorem dX9_layNeighbours_142 : decode cX9_layNeighbours 142 = .ok (.iconst 0, 1) := by decide +kernel
theorem dX9_layNeighbours_143 : decode cX9_layNeighbours 143 = .ok (.goto 20, 3) := by decide +kernel
theorem dX9_layNeighbours_146 : decode cX9_layNeighbours 146 = .ok (.iload 5, 2) := by decide +kernel
theorem dX9_layNeighbours_148 : decode cX9_layNeighbours 148 = .ok (.ifCond .eq 8, 3) := by decide +kernel
theorem dX9_layNeighbours_151 : decode cX9_layNeighbours 151 = .ok (.bipush 10, 2) := by decide +kernel
theorem dX9_layNeighbours_153 : decode cX9_layNeighbours 153 = .ok (.goto 10, 3) := by decide +kernel
theorem dX9_layNeighbours_156 : decode cX9_layNeighbours 156 = .ok (.bipush 10, 2) := by decide +kernel
theorem dX9_layNeighbours_158 : decode cX9_layNeighbours 158 = .ok (.aload_n 0, 1) := by decide +kernel
theorem dX9_layNeighbours_159 : decode cX9_layNeighbours 159 = .ok (.getfield 82, 3) := by decide +kernel
theorem dX9_layNeighbours_162 : decode cX9_layNeighbours 162 = .ok (.isub, 1) := by decide +kernel
theorem dX9_layNeighbours_163 : decode cX9_layNeighbours 163 = .ok (.iastore, 1) := by decide +kernel
theorem dX9_layNeighbours_164 : decode cX9_layNeighbours 164 = .ok (.goto 16, 3) := by decide +kernel
theorem dX9_layNeighbours_167 : decode cX9_layNeighbours 167 = .ok (.aload_n 0, 1) := by decide +kernel
theorem dX9_layNeighbours_168 : decode cX9_layNeighbours 168 = .ok (.getfield 13, 3) := by decide +kernel
theorem dX9_layNeighbours_171 : decode cX9_layNeighbours 171 = .ok (.bipush 8, 2) := by decide +kernel
theorem dX9_layNeighbours_173 : decode cX9_layNeighbours 173 = .ok (.iload_n 1, 1) := by decide +kernel
theorem dX9_layNeighbours_174 : decode cX9_layNeighbours 174 = .ok (.imul, 1) := by decide +kernel
theorem dX9_layNeighbours_175 : decode cX9_layNeighbours 175 = .ok (.iload_n 3, 1) := by decide +kernel
theorem dX9_layNeighbours_176 : decode cX9_layNeighbours 176 = .ok (.iadd, 1) := by decide +kernel
theorem dX9_layNeighbours_177 : decode cX9_layNeighbours 177 = .ok (.bipush 10, 2) := by decide +kernel
theorem dX9_layNeighbours_179 : decode cX9_layNeighbours 179 = .ok (.iastore, 1) := by decide +kernel
theorem dX9_layNeighbours_180 : decode cX9_layNeighbours 180 = .ok (.iinc 1 1, 3) := by decide +kernel
theorem dX9_layNeighbours_183 : decode cX9_layNeighbours 183 = .ok (.goto (-181), 3) := by decide +kernel
theorem dX9_layNeighbours_186 : decode cX9_layNeighbours 186 = .ok (.return_, 1) := by decide +kernel
set_option maxRecDepth 20000 in
theorem ggX9_table_X9_readText : GoodIn wsX9_table wsX9_readText := goodIn_r _ [19, 20, 21, 3, 5, 8, 22, 23, 1, 24, 25, 26, 18, 27, 28, 29, 30, 31, 32, 33, 34, 35, 36, 37, 38, 39, 40, 41, 42, 43, 44, 45, 46, 47, 48, 49, 50, 51, 60, 61, 62, 63, 64, 65, 66, 67, 68, 69, 70, 71, 72, 73, 74, 75, 76, 77, 78, 79, 80, 81, 82, 83, 84, 85, 86, 87, 88, 89, 90, 91, 92, 93, 94, 95, 96, 97, 98] (by decide +kernel) (by decide +kernel)
set_option maxRecDepth 20000 in
theorem gX9_table_X9_readText : GoodIn wsX9_table (wsV RX9 137 RX9 yX9_readText wsX9_readText) := goodIn_app (goodIn_of _ (by decide +kernel)) ggX9_table_X9_readText
set_option maxRecDepth 20000 in
theorem ggX9_table_X9_layNeighbours : GoodIn wsX9_table wsX9_layNeighbours := goodIn_r _ [55, 2, 4, 7, 6, 60, 61, 62, 63, 64, 65, 66, 67, 68, 69, 70, 71, 72, 73, 74, 75, 76, 77, 78, 79, 80, 81, 82, 83, 84, 85, 86, 87, 88, 89, 90, 91, 92, 93, 94, 95, 96, 97, 98] (by decide +kernel) (by decide +kernel)
set_option maxRecDepth 20000 in
theorem gX9_table_X9_layNeighbours : GoodIn wsX9_table (wsV RX9 143 RX9 yX9_layNeighbours wsX9_layNeighbours) := goodIn_app (goodIn_of _ (by decide +kernel)) ggX9_table_X9_layNeighbours
set_option maxRecDepth 20000 in
theorem ggX9_table_X9_sumOf : GoodIn wsX9_table wsX9_sumOf := goodIn_r _ [59, 2, 7, 60, 61, 62, 63, 64, 65, 66, 67, 68, 69, 70, 71, 72, 73, 74, 75, 76, 77, 78, 79, 80, 81, 82, 83, 84, 85, 86, 87, 88, 89, 90, 91, 92, 93, 94, 95, 96, 97, 98] (by decide +kernel) (by decide +kernel)
set_option maxRecDepth 20000 in
theorem gX9_table_X9_sumOf : GoodIn wsX9_table (wsV RX9 146 RX9 yX9_sumOf wsX9_sumOf) := goodIn_app (goodIn_of _ (by decide +kernel)) ggX9_table_X9_sumOf
theorem dX9_table_0 : decode cX9_table 0 = .ok (.aload_n 0, 1) := by decide +kernel
theorem dX9_table_1 : decode cX9_table 1 = .ok (.invokevirtual 137, 3) := by decide +kernel
theorem dX9_table_4 : decode cX9_table 4 = .ok (.bipush (-9), 2) := by decide +kernel
theorem dX9_table_6 : decode cX9_table 6 = .ok (.if_icmp .eq 6, 3) := by decide +kernel
theorem dX9_table_9 : decode cX9_table 9 = .ok (.bipush (-3), 2) := by decide +kernel
theorem dX9_table_11 : decode cX9_table 11 = .ok (.ireturn, 1) := by decide +kernel
theorem dX9_table_12 : decode cX9_table 12 = .ok (.aload_n 0, 1) := by decide +kernel
theorem dX9_table_13 : decode cX9_table 13 = .ok (.aload_n 0, 1) := by decide +kernel
theorem dX9_table_14 : decode cX9_table 14 = .ok (.getfield 107, 3) := by decide +kernel
theorem dX9_table_17 : decode cX9_table 17 = .ok (.putfield 78, 3) := by decide +kernel
theorem dX9_table_20 : decode cX9_table 20 = .ok (.aload_n 0, 1) := by decide +kernel
theorem dX9_table_21 : decode cX9_table 21 = .ok (.aload_n 0, 1) := by decide +kernel
theorem dX9_table_22 : decode cX9_table 22 = .ok (.getfield 114, 3) := by decide +kernel
theorem dX9_table_25 : decode cX9_table 25 = .ok (.putfield 140, 3) := by decide +kernel
theorem dX9_table_28 : decode cX9_table 28 = .ok (.aload_n 0, 1) := by decide +kernel
theorem dX9_table_29 : decode cX9_table 29 = .ok (.aload_n 0, 1) := by decide +kernel
theorem dX9_table_30 : decode cX9_table 30 = .ok (.getfield 117, 3) := by decide +kernel
theorem dX9_table_33 : decode cX9_table 33 = .ok (.putfield 82, 3) := by decide +kernel
theorem dX9_table_36 : decode cX9_table 36 = .ok (.iconst 0, 1) := by decide +kernel
theorem dX9_table_37 : decode cX9_table 37 = .ok (.istore_n 1, 1) := by decide +kernel
theorem dX9_table_38 : decode cX9_table 38 = .ok (.iload_n 1, 1) := by decide +kernel
theorem dX9_table_39 : decode cX9_table 39 = .ok (.bipush 64, 2) := by decide +kernel
theorem dX9_table_41 : decode cX9_table 41 = .ok (.if_icmp .ge 21, 3) := by decide +kernel
theorem dX9_table_44 : decode cX9_table 44 = .ok (.aload_n 0, 1) := by decide +kernel
theorem dX9_table_45 : decode cX9_table 45 = .ok (.getfield 13, 3) := by decide +kernel
theorem dX9_table_48 : decode cX9_table 48 = .ok (.iload_n 1, 1) := by decide +kernel
theorem dX9_table_49 : decode cX9_table 49 = .ok (.aload_n 0, 1) := by decide +kernel
theorem dX9_table_50 : decode cX9_table 50 = .ok (.getfield 7, 3) := by decide +kernel
theorem dX9_table_53 : decode cX9_table 53 = .ok (.iload_n 1, 1) := by decide +kernel
theorem dX9_table_54 : decode cX9_table 54 = .ok (.iaload, 1) := by decide +kernel
theorem dX9_table_55 : decode cX9_table 55 = .ok (.iastore, 1) := by decide +kernel
theorem dX9_table_56 : decode cX9_table 56 = .ok (.iinc 1 1, 3) := by decide +kernel
theorem dX9_table_59 : decode cX9_table 59 = .ok (.goto (-21), 3) := by decide +kernel
theorem dX9_table_62 : decode cX9_table 62 = .ok (.aload_n 0, 1) := by decide +kernel
theorem dX9_table_63 : decode cX9_table 63 = .ok (.getfield 140, 3) := by decide +kernel
theorem dX9_table_66 : decode cX9_table 66 = .ok (.iconst 2, 1) := by decide +kernel
theorem dX9_table_67 : decode cX9_table 67 = .ok (.if_icmp .ge 7, 3) := by decide +kernel
theorem dX9_table_70 : decode cX9_table 70 = .ok (.aload_n 0, 1) := by decide +kernel
theorem dX9_table_71 : decode cX9_table 71 = .ok (.invokevirtual 143, 3) := by decide +kernel
theorem dX9_table_74 : decode cX9_table 74 = .ok (.iconst 0, 1) := by decide +kernel
theorem dX9_table_75 : decode cX9_table 75 = .ok (.istore_n 1, 1) := by decide +kernel
theorem dX9_table_76 : decode cX9_table 76 = .ok (.iload_n 1, 1) := by decide +kernel
theorem dX9_table_77 : decode cX9_table 77 = .ok (.aload_n 0, 1) := by decide +kernel
theorem dX9_table_78 : decode cX9_table 78 = .ok (.getfield 78, 3) := by decide +kernel
theorem dX9_table_81 : decode cX9_table 81 = .ok (.if_icmp .ge 40, 3) := by decide +kernel
theorem dX9_table_84 : decode cX9_table 84 = .ok (.aload_n 0, 1) := by decide +kernel
theorem dX9_table_85 : decode cX9_table 85 = .ok (.getfield 140, 3) := by decide +kernel
theorem dX9_table_88 : decode cX9_table 88 = .ok (.iconst 2, 1) := by decide +kernel
theorem dX9_table_89 : decode cX9_table 89 = .ok (.if_icmp .ne 32, 3) := by decide +kernel
theorem dX9_table_92 : decode cX9_table 92 = .ok (.aload_n 0, 1) := by decide +kernel
theorem dX9_table_93 : decode cX9_table 93 = .ok (.getfield 13, 3) := by decide +kernel
theorem dX9_table_96 : decode cX9_table 96 = .ok (.bipush 9, 2) := by decide +kernel
theorem dX9_table_98 : decode cX9_table 98 = .ok (.iload_n 1, 1) := by decide +kernel
theorem dX9_table_99 : decode cX9_table 99 = .ok (.imul, 1) := by decide +kernel
theorem dX9_table_100 : decode cX9_table 100 = .ok (.aload_n 0, 1) := by decide +kernel
theorem dX9_table_101 : decode cX9_table 101 = .ok (.iload_n 1, 1) := by decide +kernel
theorem dX9_table_102 : decode cX9_table 102 = .ok (.invokevirtual 146, 3) := by decide +kernel
theorem dX9_table_105 : decode cX9_table 105 = .ok (.ifCond .ne 8, 3) := by decide +kernel
theorem dX9_table_108 : decode cX9_table 108 = .ok (.bipush 10, 2) := by decide +kernel
theorem dX9_table_110 : decode cX9_table 110 = .ok (.goto 4, 3) := by decide +kernel
theorem dX9_table_113 : decode cX9_table 113 = .ok (.iconst 0, 1) := by decide +kernel
theorem dX9_table_114 : decode cX9_table 114 = .ok (.iastore, 1) := by decide +kernel
theorem dX9_table_115 : decode cX9_table 115 = .ok (.iinc 1 1, 3) := by decide +kernel
theorem dX9_table_118 : decode cX9_table 118 = .ok (.goto (-42), 3) := by decide +kernel
theorem dX9_table_121 : decode cX9_table 121 = .ok (.aload_n 0, 1) := by decide +kernel
theorem dX9_table_122 : decode cX9_table 122 = .ok (.iconst 0, 1) := by decide +kernel
theorem dX9_table_123 : decode cX9_table 123 = .ok (.putfield 149, 3) := by decide +kernel
theorem dX9_table_126 : decode cX9_table 126 = .ok (.aload_n 0, 1) := by decide +kernel
theorem dX9_table_127 : decode cX9_table 127 = .ok (.iconst 0, 1) := by decide +kernel
theorem dX9_table_128 : decode cX9_table 128 = .ok (.putfield 152, 3) := by decide +kernel
theorem dX9_table_131 : decode cX9_table 131 = .ok (.aload_n 0, 1) := by decide +kernel
theorem dX9_table_132 : decode cX9_table 132 = .ok (.iconst 1, 1) := by decide +kernel
theorem dX9_table_133 : decode cX9_table 133 = .ok (.putfield 85, 3) := by decide +kernel
theorem dX9_table_136 : decode cX9_table 136 = .ok (.aload_n 0, 1) := by decide +kernel
theorem dX9_table_137 : decode cX9_table 137 = .ok (.iconst 0, 1) := by decide +kernel
theorem dX9_table_138 : decode cX9_table 138 = .ok (.putfield 155, 3) := by decide +kernel
theorem dX9_table_141 : decode cX9_table 141 = .ok (.aload_n 0, 1) := by decide +kernel
theorem dX9_table_142 : decode cX9_table 142 = .ok (.iconst 0, 1) := by decide +kernel
theorem dX9_table_143 : decode cX9_table 143 = .ok (.putfield 158, 3) := by decide +kernel
theorem dX9_table_146 : decode cX9_table 146 = .ok (.aload_n 0, 1) := by decide +kernel
theorem dX9_table_147 : decode cX9_table 147 = .ok (.getfield 56, 3) := by decide +kernel
theorem dX9_table_150 : decode cX9_table 150 = .ok (.iconst 0, 1) := by decide +kernel
theorem dX9_table_151 : decode cX9_table 151 = .ok (.iconst 0, 1) := by decide +kernel
theorem dX9_table_152 : decode cX9_table 152 = .ok (.bastore, 1) := by decide +kernel
theorem dX9_table_153 : decode cX9_table 153 = .ok (.aload_n 0, 1) := by decide +kernel
theorem dX9_table_154 : decode cX9_table 154 = .ok (.getfield 56, 3) := by decide +kernel
theorem dX9_table_157 : decode cX9_table 157 = .ok (.iconst 1, 1) := by decide +kernel
theorem dX9_table_158 : decode cX9_table 158 = .ok (.iconst 0, 1) := by decide +kernel
theorem dX9_table_159 : decode cX9_table 159 = .ok (.bastore, 1) := by decide +kernel
theorem dX9_table_160 : decode cX9_table 160 = .ok (.aload_n 0, 1) := by decide +kernel
theorem dX9_table_161 : decode cX9_table 161 = .ok (.getfield 78, 3) := by decide +kernel
theorem dX9_table_164 : decode cX9_table 164 = .ok (.ireturn, 1) := by decide +kernel
theorem dX9_sumOf_0 : decode cX9_sumOf 0 = .ok (.iconst 0, 1) := by decide +kernel
theorem dX9_sumOf_1 : decode cX9_sumOf 1 = .ok (.istore_n 2, 1) := by decide +kernel
theorem dX9_sumOf_2 : decode cX9_sumOf 2 = .ok (.iconst 0, 1) := by decide +kernel
theorem dX9_sumOf_3 : decode cX9_sumOf 3 = .ok (.istore_n 3, 1) := by decide +kernel
theorem dX9_sumOf_4 : decode cX9_sumOf 4 = .ok (.iload_n 3, 1) := by decide +kernel
theorem dX9_sumOf_5 : decode cX9_sumOf 5 = .ok (.aload_n 0, 1) := by decide +kernel
theorem dX9_sumOf_6 : decode cX9_sumOf 6 = .ok (.getfield 78, 3) := by decide +kernel
theorem dX9_sumOf_9 : decode cX9_sumOf 9 = .ok (.if_icmp .ge 23, 3) := by decide +kernel
theorem dX9_sumOf_12 : decode cX9_sumOf 12 = .ok (.iload_n 2, 1) := by decide +kernel
theorem dX9_sumOf_13 : decode cX9_sumOf 13 = .ok (.aload_n 0, 1) := by decide +kernel
theorem dX9_sumOf_14 : decode cX9_sumOf 14 = .ok (.getfield 13, 3) := by decide +kernel
theorem dX9_sumOf_17 : decode cX9_sumOf 17 = .ok (.bipush 8, 2) := by decide +kernel
theorem dX9_sumOf_19 : decode cX9_sumOf 19 = .ok (.iload_n 1, 1) := by decide +kernel
theorem dX9_sumOf_20 : decode cX9_sumOf 20 = .ok (.imul, 1) := by decide +kernel
theorem dX9_sumOf_21 : decode cX9_sumOf 21 = .ok (.iload_n 3, 1) := by decide +kernel
theorem dX9_sumOf_22 : decode cX9_sumOf 22 = .ok (.iadd, 1) := by decide +kernel
theorem dX9_sumOf_23 : decode cX9_sumOf 23 = .ok (.iaload, 1) := by decide +kernel
theorem dX9_sumOf_24 : decode cX9_sumOf 24 = .ok (.iadd, 1) := by decide +kernel
theorem dX9_sumOf_25 : decode cX9_sumOf 25 = .ok (.istore_n 2, 1) := by decide +kernel
theorem dX9_sumOf_26 : decode cX9_sumOf 26 = .ok (.iinc 3 1, 3) := by decide +kernel
theorem dX9_sumOf_29 : decode cX9_sumOf 29 = .ok (.goto (-25), 3) := by decide +kernel
theorem dX9_sumOf_32 : decode cX9_sumOf 32 = .ok (.iload_n 2, 1) := by decide +kernel
theorem dX9_sumOf_33 : decode cX9_sumOf 33 = .ok (.ireturn, 1) := by decide +kernel
set_option maxRecDepth 20000 in
theorem ggX9_isSeat_X9_in : GoodIn wsX9_isSeat wsX9_in := goodIn_r _ [5] (by decide +kernel) (by decide +kernel)
set_option maxRecDepth 20000 in
theorem gX9_isSeat_X9_in : GoodIn wsX9_isSeat (va_wsS RX9 90 yX9_in wsX9_in) := goodIn_app (goodIn_of _ (by decide +kernel)) ggX9_isSeat_X9_in
theorem dX9_isSeat_0 : decode cX9_isSeat 0 = .ok (.iload_n 1, 1) := by decide +kernel
theorem dX9_isSeat_1 : decode cX9_isSeat 1 = .ok (.i2l, 1) := by decide +kernel
theorem dX9_isSeat_2 : decode cX9_isSeat 2 = .ok (.lconst 0, 1) := by decide +kernel
theorem dX9_isSeat_3 : decode cX9_isSeat 3 = .ok (.aload_n 0, 1) := by decide +kernel
theorem dX9_isSeat_4 : decode cX9_isSeat 4 = .ok (.getfield 78, 3) := by decide +kernel
theorem dX9_isSeat_7 : decode cX9_isSeat 7 = .ok (.iconst 1, 1) := by decide +kernel
theorem dX9_isSeat_8 : decode cX9_isSeat 8 = .ok (.isub, 1) := by decide +kernel
theorem dX9_isSeat_9 : decode cX9_isSeat 9 = .ok (.i2l, 1) := by decide +kernel
theorem dX9_isSeat_10 : decode cX9_isSeat 10 = .ok (.invokestatic 90, 3) := by decide +kernel
theorem dX9_isSeat_13 : decode cX9_isSeat 13 = .ok (.ireturn, 1) := by decide +kernel
set_option maxRecDepth 20000 in
theorem ggX9_chance_X9_isSeat : GoodIn wsX9_chance wsX9_isSeat := goodIn_r _ [6, 7, 8, 9, 5, 10, 11, 12, 13, 14, 15, 16, 17, 18, 19, 20, 21, 22, 23, 24, 25, 26, 27, 28, 29, 30, 31, 32, 33, 34, 35, 36, 37, 38, 39, 40, 41, 42, 43, 44, 45, 46, 47, 48, 49] (by decide +kernel) (by decide +kernel)
set_option maxRecDepth 20000 in
theorem gX9_chance_X9_isSeat : GoodIn wsX9_chance (wsV RX9 161 RX9 yX9_isSeat wsX9_isSeat) := goodIn_app (goodIn_of _ (by decide +kernel)) ggX9_chance_X9_isSeat
theorem dX9_chance_0 : decode cX9_chance 0 = .ok (.aload_n 0, 1) := by decide +kernel
theorem dX9_chance_1 : decode cX9_chance 1 = .ok (.iload_n 1, 1) := by decide +kernel
theorem dX9_chance_2 : decode cX9_chance 2 = .ok (.invokevirtual 161, 3) := by decide +kernel
theorem dX9_chance_5 : decode cX9_chance 5 = .ok (.ifCond .eq 25, 3) := by decide +kernel
theorem dX9_chance_8 : decode cX9_chance 8 = .ok (.aload_n 0, 1) := by decide +kernel
theorem dX9_chance_9 : decode cX9_chance 9 = .ok (.iload_n 2, 1) := by decide +kernel
theorem dX9_chance_10 : decode cX9_chance 10 = .ok (.invokevirtual 161, 3) := by decide +kernel
theorem dX9_chance_13 : decode cX9_chance 13 = .ok (.ifCond .eq 17, 3) := by decide +kernel
theorem dX9_chance_16 : decode cX9_chance 16 = .ok (.aload_n 0, 1) := by decide +kernel
theorem dX9_chance_17 : decode cX9_chance 17 = .ok (.getfield 13, 3) := by decide +kernel
theorem dX9_chance_20 : decode cX9_chance 20 = .ok (.bipush 8, 2) := by decide +kernel
theorem dX9_chance_22 : decode cX9_chance 22 = .ok (.iload_n 1, 1) := by decide +kernel
theorem dX9_chance_23 : decode cX9_chance 23 = .ok (.imul, 1) := by decide +kernel
theorem dX9_chance_24 : decode cX9_chance 24 = .ok (.iload_n 2, 1) := by decide +kernel
theorem dX9_chance_25 : decode cX9_chance 25 = .ok (.iadd, 1) := by decide +kernel
theorem dX9_chance_26 : decode cX9_chance 26 = .ok (.iaload, 1) := by decide +kernel
theorem dX9_chance_27 : decode cX9_chance 27 = .ok (.goto 4, 3) := by decide +kernel
theorem dX9_chance_30 : decode cX9_chance 30 = .ok (.iconst (-1), 1) := by decide +kernel
theorem dX9_chance_31 : decode cX9_chance 31 = .ok (.ireturn, 1) := by decide +kernel
set_option maxRecDepth 20000 in
theorem ggX9_begin_X9_isSeat : GoodIn wsX9_begin wsX9_isSeat := goodIn_r _ [9, 10, 11, 12, 8, 13, 14, 15, 16, 17, 18, 19, 20, 21, 22, 23, 24, 25, 26, 27, 28, 29, 30, 31, 32, 33, 34, 35, 36, 37, 38, 39, 40, 41, 42, 43, 44, 45, 46, 47, 48, 49, 50, 51, 52] (by decide +kernel) (by decide +kernel)
set_option maxRecDepth 20000 in
theorem gX9_begin_X9_isSeat : GoodIn wsX9_begin (wsV RX9 161 RX9 yX9_isSeat wsX9_isSeat) := goodIn_app (goodIn_of _ (by decide +kernel)) ggX9_begin_X9_isSeat
theorem dX9_begin_0 : decode cX9_begin 0 = .ok (.aload_n 0, 1) := by decide +kernel
theorem dX9_begin_1 : decode cX9_begin 1 = .ok (.iload_n 1, 1) := by decide +kernel
theorem dX9_begin_2 : decode cX9_begin 2 = .ok (.invokevirtual 161, 3) := by decide +kernel
theorem dX9_begin_5 : decode cX9_begin 5 = .ok (.ifCond .ne 5, 3) := by decide +kernel
theorem dX9_begin_8 : decode cX9_begin 8 = .ok (.iconst (-1), 1) := by decide +kernel
theorem dX9_begin_9 : decode cX9_begin 9 = .ok (.ireturn, 1) := by decide +kernel
theorem dX9_begin_10 : decode cX9_begin 10 = .ok (.aload_n 0, 1) := by decide +kernel
theorem dX9_begin_11 : decode cX9_begin 11 = .ok (.getfield 152, 3) := by decide +kernel
theorem dX9_begin_14 : decode cX9_begin 14 = .ok (.istore_n 2, 1) := by decide +kernel
theorem dX9_begin_15 : decode cX9_begin 15 = .ok (.aload_n 0, 1) := by decide +kernel
theorem dX9_begin_16 : decode cX9_begin 16 = .ok (.iload_n 1, 1) := by decide +kernel
theorem dX9_begin_17 : decode cX9_begin 17 = .ok (.putfield 152, 3) := by decide +kernel
theorem dX9_begin_20 : decode cX9_begin 20 = .ok (.aload_n 0, 1) := by decide +kernel
theorem dX9_begin_21 : decode cX9_begin 21 = .ok (.iload_n 1, 1) := by decide +kernel
theorem dX9_begin_22 : decode cX9_begin 22 = .ok (.putfield 149, 3) := by decide +kernel
theorem dX9_begin_25 : decode cX9_begin 25 = .ok (.aload_n 0, 1) := by decide +kernel
theorem dX9_begin_26 : decode cX9_begin 26 = .ok (.iconst 1, 1) := by decide +kernel
theorem dX9_begin_27 : decode cX9_begin 27 = .ok (.iload_n 1, 1) := by decide +kernel
theorem dX9_begin_28 : decode cX9_begin 28 = .ok (.ishl, 1) := by decide +kernel
theorem dX9_begin_29 : decode cX9_begin 29 = .ok (.putfield 85, 3) := by decide +kernel
theorem dX9_begin_32 : decode cX9_begin 32 = .ok (.aload_n 0, 1) := by decide +kernel
theorem dX9_begin_33 : decode cX9_begin 33 = .ok (.iconst 0, 1) := by decide +kernel
theorem dX9_begin_34 : decode cX9_begin 34 = .ok (.putfield 155, 3) := by decide +kernel
theorem dX9_begin_37 : decode cX9_begin 37 = .ok (.iload_n 2, 1) := by decide +kernel
theorem dX9_begin_38 : decode cX9_begin 38 = .ok (.ireturn, 1) := by decide +kernel
set_option maxRecDepth 20000 in
theorem ggX9_hand_X9_isSeat : GoodIn wsX9_hand wsX9_isSeat := goodIn_r _ [11, 12, 13, 14, 10, 15, 16, 17, 18, 19, 20, 21, 22, 23, 24, 25, 26, 27, 28, 29, 30, 31, 32, 33, 34, 35, 36, 37, 38, 39, 40, 41, 42, 43, 44, 45, 46, 47, 48, 49, 50, 51, 52, 53, 54] (by decide +kernel) (by decide +kernel)
set_option maxRecDepth 20000 in
theorem gX9_hand_X9_isSeat : GoodIn wsX9_hand (wsV RX9 161 RX9 yX9_isSeat wsX9_isSeat) := goodIn_app (goodIn_of _ (by decide +kernel)) ggX9_hand_X9_isSeat
theorem dX9_hand_0 : decode cX9_hand 0 = .ok (.aload_n 0, 1) := by decide +kernel
theorem dX9_hand_1 : decode cX9_hand 1 = .ok (.iload_n 1, 1) := by decide +kernel
theorem dX9_hand_2 : decode cX9_hand 2 = .ok (.invokevirtual 161, 3) := by decide +kernel
theorem dX9_hand_5 : decode cX9_hand 5 = .ok (.ifCond .ne 5, 3) := by decide +kernel
theorem dX9_hand_8 : decode cX9_hand 8 = .ok (.iconst (-1), 1) := by decide +kernel
theorem dX9_hand_9 : decode cX9_hand 9 = .ok (.ireturn, 1) := by decide +kernel
theorem dX9_hand_10 : decode cX9_hand 10 = .ok (.aload_n 0, 1) := by decide +kernel
theorem dX9_hand_11 : decode cX9_hand 11 = .ok (.getfield 13, 3) := by decide +kernel
theorem dX9_hand_14 : decode cX9_hand 14 = .ok (.bipush 8, 2) := by decide +kernel
theorem dX9_hand_16 : decode cX9_hand 16 = .ok (.aload_n 0, 1) := by decide +kernel
theorem dX9_hand_17 : decode cX9_hand 17 = .ok (.getfield 149, 3) := by decide +kernel
theorem dX9_hand_20 : decode cX9_hand 20 = .ok (.imul, 1) := by decide +kernel
theorem dX9_hand_21 : decode cX9_hand 21 = .ok (.iload_n 1, 1) := by decide +kernel
theorem dX9_hand_22 : decode cX9_hand 22 = .ok (.iadd, 1) := by decide +kernel
theorem dX9_hand_23 : decode cX9_hand 23 = .ok (.iaload, 1) := by decide +kernel
theorem dX9_hand_24 : decode cX9_hand 24 = .ok (.ifCond .ne 6, 3) := by decide +kernel
theorem dX9_hand_27 : decode cX9_hand 27 = .ok (.bipush (-3), 2) := by decide +kernel
theorem dX9_hand_29 : decode cX9_hand 29 = .ok (.ireturn, 1) := by decide +kernel
theorem dX9_hand_30 : decode cX9_hand 30 = .ok (.aload_n 0, 1) := by decide +kernel
theorem dX9_hand_31 : decode cX9_hand 31 = .ok (.getfield 155, 3) := by decide +kernel
theorem dX9_hand_34 : decode cX9_hand 34 = .ok (.bipush 30, 2) := by decide +kernel
theorem dX9_hand_36 : decode cX9_hand 36 = .ok (.if_icmp .ne 6, 3) := by decide +kernel
theorem dX9_hand_39 : decode cX9_hand 39 = .ok (.bipush (-4), 2) := by decide +kernel
theorem dX9_hand_41 : decode cX9_hand 41 = .ok (.ireturn, 1) := by decide +kernel
theorem dX9_hand_42 : decode cX9_hand 42 = .ok (.aload_n 0, 1) := by decide +kernel
theorem dX9_hand_43 : decode cX9_hand 43 = .ok (.getfield 19, 3) := by decide +kernel
theorem dX9_hand_46 : decode cX9_hand 46 = .ok (.aload_n 0, 1) := by decide +kernel
theorem dX9_hand_47 : decode cX9_hand 47 = .ok (.getfield 155, 3) := by decide +kernel
theorem dX9_hand_50 : decode cX9_hand 50 = .ok (.aload_n 0, 1) := by decide +kernel
theorem dX9_hand_51 : decode cX9_hand 51 = .ok (.getfield 149, 3) := by decide +kernel
theorem dX9_hand_54 : decode cX9_hand 54 = .ok (.iastore, 1) := by decide +kernel
theorem dX9_hand_55 : decode cX9_hand 55 = .ok (.aload_n 0, 1) := by decide +kernel
theorem dX9_hand_56 : decode cX9_hand 56 = .ok (.getfield 22, 3) := by decide +kernel
theorem dX9_hand_59 : decode cX9_hand 59 = .ok (.aload_n 0, 1) := by decide +kernel
theorem dX9_hand_60 : decode cX9_hand 60 = .ok (.getfield 155, 3) := by decide +kernel
theorem dX9_hand_63 : decode cX9_hand 63 = .ok (.aload_n 0, 1) := by decide +kernel
theorem dX9_hand_64 : decode cX9_hand 64 = .ok (.getfield 85, 3) := by decide +kernel
theorem dX9_hand_67 : decode cX9_hand 67 = .ok (.iastore, 1) := by decide +kernel
theorem dX9_hand_68 : decode cX9_hand 68 = .ok (.aload_n 0, 1) := by decide +kernel
theorem dX9_hand_69 : decode cX9_hand 69 = .ok (.dup, 1) := by decide +kernel
theorem dX9_hand_70 : decode cX9_hand 70 = .ok (.getfield 155, 3) := by decide +kernel
theorem dX9_hand_73 : decode cX9_hand 73 = .ok (.iconst 1, 1) := by decide +kernel
theorem dX9_hand_74 : decode cX9_hand 74 = .ok (.iadd, 1) := by decide +kernel
theorem dX9_hand_75 : decode cX9_hand 75 = .ok (.putfield 155, 3) := by decide +kernel
theorem dX9_hand_78 : decode cX9_hand 78 = .ok (.aload_n 0, 1) := by decide +kernel
theorem dX9_hand_79 : decode cX9_hand 79 = .ok (.iload_n 1, 1) := by decide +kernel
theorem dX9_hand_80 : decode cX9_hand 80 = .ok (.putfield 149, 3) := by decide +kernel
theorem dX9_hand_83 : decode cX9_hand 83 = .ok (.aload_n 0, 1) := by decide +kernel
theorem dX9_hand_84 : decode cX9_hand 84 = .ok (.dup, 1) := by decide +kernel
theorem dX9_hand_85 : decode cX9_hand 85 = .ok (.getfield 85, 3) := by decide +kernel
theorem dX9_hand_88 : decode cX9_hand 88 = .ok (.iconst 1, 1) := by decide +kernel
theorem dX9_hand_89 : decode cX9_hand 89 = .ok (.iload_n 1, 1) := by decide +kernel
theorem dX9_hand_90 : decode cX9_hand 90 = .ok (.ishl, 1) := by decide +kernel
theorem dX9_hand_91 : decode cX9_hand 91 = .ok (.ior, 1) := by decide +kernel
theorem dX9_hand_92 : decode cX9_hand 92 = .ok (.putfield 85, 3) := by decide +kernel
theorem dX9_hand_95 : decode cX9_hand 95 = .ok (.aload_n 0, 1) := by decide +kernel
theorem dX9_hand_96 : decode cX9_hand 96 = .ok (.getfield 85, 3) := by decide +kernel
theorem dX9_hand_99 : decode cX9_hand 99 = .ok (.ireturn, 1) := by decide +kernel
theorem dX9_back_0 : decode cX9_back 0 = .ok (.aload_n 0, 1) := by decide +kernel
theorem dX9_back_1 : decode cX9_back 1 = .ok (.getfield 155, 3) := by decide +kernel
theorem dX9_back_4 : decode cX9_back 4 = .ok (.ifCond .ne 6, 3) := by decide +kernel
theorem dX9_back_7 : decode cX9_back 7 = .ok (.bipush (-3), 2) := by decide +kernel
theorem dX9_back_9 : decode cX9_back 9 = .ok (.ireturn, 1) := by decide +kernel
theorem dX9_back_10 : decode cX9_back 10 = .ok (.aload_n 0, 1) := by decide +kernel
theorem dX9_back_11 : decode cX9_back 11 = .ok (.dup, 1) := by decide +kernel
theorem dX9_back_12 : decode cX9_back 12 = .ok (.getfield 155, 3) := by decide +kernel
theorem dX9_back_15 : decode cX9_back 15 = .ok (.iconst 1, 1) := by decide +kernel
theorem dX9_back_16 : decode cX9_back 16 = .ok (.isub, 1) := by decide +kernel
theorem dX9_back_17 : decode cX9_back 17 = .ok (.putfield 155, 3) := by decide +kernel
theorem dX9_back_20 : decode cX9_back 20 = .ok (.aload_n 0, 1) := by decide +kernel
theorem dX9_back_21 : decode cX9_back 21 = .ok (.aload_n 0, 1) := by decide +kernel
theorem dX9_back_22 : decode cX9_back 22 = .ok (.getfield 19, 3) := by decide +kernel
theorem dX9_back_25 : decode cX9_back 25 = .ok (.aload_n 0, 1) := by decide +kernel
theorem dX9_back_26 : decode cX9_back 26 = .ok (.getfield 155, 3) := by decide +kernel
theorem dX9_back_29 : decode cX9_back 29 = .ok (.iaload, 1) := by decide +kernel
theorem dX9_back_30 : decode cX9_back 30 = .ok (.putfield 149, 3) := by decide +kernel
theorem dX9_back_33 : decode cX9_back 33 = .ok (.aload_n 0, 1) := by decide +kernel
theorem dX9_back_34 : decode cX9_back 34 = .ok (.aload_n 0, 1) := by decide +kernel
theorem dX9_back_35 : decode cX9_back 35 = .ok (.getfield 22, 3) := by decide +kernel
theorem dX9_back_38 : decode cX9_back 38 = .ok (.aload_n 0, 1) := by decide +kernel
theorem dX9_back_39 : decode cX9_back 39 = .ok (.getfield 155, 3) := by decide +kernel
theorem dX9_back_42 : decode cX9_back 42 = .ok (.iaload, 1) := by decide +kernel
theorem dX9_back_43 : decode cX9_back 43 = .ok (.putfield 85, 3) := by decide +kernel
theorem dX9_back_46 : decode cX9_back 46 = .ok (.aload_n 0, 1) := by decide +kernel
theorem dX9_back_47 : decode cX9_back 47 = .ok (.getfield 155, 3) := by decide +kernel
theorem dX9_back_50 : decode cX9_back 50 = .ok (.ireturn, 1) := by decide +kernel
theorem dX9_power_0 : decode cX9_power 0 = .ok (.lconst 1, 1) := by decide +kernel
theorem dX9_power_1 : decode cX9_power 1 = .ok (.lstore_n 2, 1) := by decide +kernel
theorem dX9_power_2 : decode cX9_power 2 = .ok (.iconst 0, 1) := by decide +kernel
theorem dX9_power_3 : decode cX9_power 3 = .ok (.istore 4, 2) := by decide +kernel
theorem dX9_power_5 : decode cX9_power 5 = .ok (.iload 4, 2) := by decide +kernel
theorem dX9_power_7 : decode cX9_power 7 = .ok (.iload_n 1, 1) := by decide +kernel
theorem dX9_power_8 : decode cX9_power 8 = .ok (.if_icmp .ge 14, 3) := by decide +kernel
theorem dX9_power_11 : decode cX9_power 11 = .ok (.lload_n 2, 1) := by decide +kernel
theorem dX9_power_12 : decode cX9_power 12 = .ok (.iload_n 0, 1) := by decide +kernel
theorem dX9_power_13 : decode cX9_power 13 = .ok (.i2l, 1) := by decide +kernel
theorem dX9_power_14 : decode cX9_power 14 = .ok (.lmul, 1) := by decide +kernel
theorem dX9_power_15 : decode cX9_power 15 = .ok (.lstore_n 2, 1) := by decide +kernel
theorem dX9_power_16 : decode cX9_power 16 = .ok (.iinc 4 1, 3) := by decide +kernel
theorem dX9_power_19 : decode cX9_power 19 = .ok (.goto (-14), 3) := by decide +kernel
theorem dX9_power_22 : decode cX9_power 22 = .ok (.lload_n 2, 1) := by decide +kernel
theorem dX9_power_23 : decode cX9_power 23 = .ok (.lreturn, 1) := by decide +kernel
theorem dX9_part_0 : decode cX9_part 0 = .ok (.lload_n 0, 1) := by decide +kernel
theorem dX9_part_1 : decode cX9_part 1 = .ok (.lstore 5, 2) := by decide +kernel
theorem dX9_part_3 : decode cX9_part 3 = .ok (.lload_n 2, 1) := by decide +kernel
theorem dX9_part_4 : decode cX9_part 4 = .ok (.lstore 7, 2) := by decide +kernel
theorem dX9_part_6 : decode cX9_part 6 = .ok (.lload 7, 2) := by decide +kernel
theorem dX9_part_8 : decode cX9_part 8 = .ok (.lconst 0, 1) := by decide +kernel
theorem dX9_part_9 : decode cX9_part 9 = .ok (.lcmp, 1) := by decide +kernel
theorem dX9_part_10 : decode cX9_part 10 = .ok (.ifCond .eq 21, 3) := by decide +kernel
theorem dX9_part_13 : decode cX9_part 13 = .ok (.lload 5, 2) := by decide +kernel
theorem dX9_part_15 : decode cX9_part 15 = .ok (.lload 7, 2) := by decide +kernel
theorem dX9_part_17 : decode cX9_part 17 = .ok (.lrem, 1) := by decide +kernel
theorem dX9_part_18 : decode cX9_part 18 = .ok (.lstore 9, 2) := by decide +kernel
theorem dX9_part_20 : decode cX9_part 20 = .ok (.lload 7, 2) := by decide +kernel
theorem dX9_part_22 : decode cX9_part 22 = .ok (.lstore 5, 2) := by decide +kernel
theorem dX9_part_24 : decode cX9_part 24 = .ok (.lload 9, 2) := by decide +kernel
theorem dX9_part_26 : decode cX9_part 26 = .ok (.lstore 7, 2) := by decide +kernel
theorem dX9_part_28 : decode cX9_part 28 = .ok (.goto (-22), 3) := by decide +kernel
theorem dX9_part_31 : decode cX9_part 31 = .ok (.iload 4, 2) := by decide +kernel
theorem dX9_part_33 : decode cX9_part 33 = .ok (.ifCond .eq 10, 3) := by decide +kernel
theorem dX9_part_36 : decode cX9_part 36 = .ok (.lload_n 0, 1) := by decide +kernel
theorem dX9_part_37 : decode cX9_part 37 = .ok (.lload 5, 2) := by decide +kernel
theorem dX9_part_39 : decode cX9_part 39 = .ok (.ldiv, 1) := by decide +kernel
theorem dX9_part_40 : decode cX9_part 40 = .ok (.goto 7, 3) := by decide +kernel
theorem dX9_part_43 : decode cX9_part 43 = .ok (.lload_n 2, 1) := by decide +kernel
theorem dX9_part_44 : decode cX9_part 44 = .ok (.lload 5, 2) := by decide +kernel
theorem dX9_part_46 : decode cX9_part 46 = .ok (.ldiv, 1) := by decide +kernel
theorem dX9_part_47 : decode cX9_part 47 = .ok (.lreturn, 1) := by decide +kernel
theorem dX9_lay_0 : decode cX9_lay 0 = .ok (.iconst 1, 1) := by decide +kernel
theorem dX9_lay_1 : decode cX9_lay 1 = .ok (.aload_n 0, 1) := by decide +kernel
theorem dX9_lay_2 : decode cX9_lay 2 = .ok (.getfield 78, 3) := by decide +kernel
theorem dX9_lay_5 : decode cX9_lay 5 = .ok (.ishl, 1) := by decide +kernel
theorem dX9_lay_6 : decode cX9_lay 6 = .ok (.iconst 1, 1) := by decide +kernel
theorem dX9_lay_7 : decode cX9_lay 7 = .ok (.isub, 1) := by decide +kernel
theorem dX9_lay_8 : decode cX9_lay 8 = .ok (.istore 4, 2) := by decide +kernel
theorem dX9_lay_10 : decode cX9_lay 10 = .ok (.iconst 0, 1) := by decide +kernel
theorem dX9_lay_11 : decode cX9_lay 11 = .ok (.istore 5, 2) := by decide +kernel
theorem dX9_lay_13 : decode cX9_lay 13 = .ok (.iload 5, 2) := by decide +kernel
theorem dX9_lay_15 : decode cX9_lay 15 = .ok (.sipush 2048, 3) := by decide +kernel
theorem dX9_lay_18 : decode cX9_lay 18 = .ok (.if_icmp .ge 32, 3) := by decide +kernel
theorem dX9_lay_21 : decode cX9_lay 21 = .ok (.aload_n 0, 1) := by decide +kernel
theorem dX9_lay_22 : decode cX9_lay 22 = .ok (.getfield 25, 3) := by decide +kernel
theorem dX9_lay_25 : decode cX9_lay 25 = .ok (.iload 5, 2) := by decide +kernel
theorem dX9_lay_27 : decode cX9_lay 27 = .ok (.iload 5, 2) := by decide +kernel
theorem dX9_lay_29 : decode cX9_lay 29 = .ok (.bipush 8, 2) := by decide +kernel
theorem dX9_lay_31 : decode cX9_lay 31 = .ok (.iload_n 3, 1) := by decide +kernel
theorem dX9_lay_32 : decode cX9_lay 32 = .ok (.imul, 1) := by decide +kernel
theorem dX9_lay_33 : decode cX9_lay 33 = .ok (.iload_n 2, 1) := by decide +kernel
theorem dX9_lay_34 : decode cX9_lay 34 = .ok (.iadd, 1) := by decide +kernel
theorem dX9_lay_35 : decode cX9_lay 35 = .ok (.if_icmp .ne 7, 3) := by decide +kernel
theorem dX9_lay_38 : decode cX9_lay 38 = .ok (.lconst 1, 1) := by decide +kernel
theorem dX9_lay_39 : decode cX9_lay 39 = .ok (.goto 4, 3) := by decide +kernel
theorem dX9_lay_42 : decode cX9_lay 42 = .ok (.lconst 0, 1) := by decide +kernel
theorem dX9_lay_43 : decode cX9_lay 43 = .ok (.lastore, 1) := by decide +kernel
theorem dX9_lay_44 : decode cX9_lay 44 = .ok (.iinc 5 1, 3) := by decide +kernel
theorem dX9_lay_47 : decode cX9_lay 47 = .ok (.goto (-34), 3) := by decide +kernel
theorem dX9_lay_50 : decode cX9_lay 50 = .ok (.iconst 0, 1) := by decide +kernel
theorem dX9_lay_51 : decode cX9_lay 51 = .ok (.istore 5, 2) := by decide +kernel
theorem dX9_lay_53 : decode cX9_lay 53 = .ok (.iload 5, 2) := by decide +kernel
theorem dX9_lay_55 : decode cX9_lay 55 = .ok (.bipush 8, 2) := by decide +kernel
theorem dX9_lay_57 : decode cX9_lay 57 = .ok (.if_icmp .ge 17, 3) := by decide +kernel
theorem dX9_lay_60 : decode cX9_lay 60 = .ok (.aload_n 0, 1) := by decide +kernel
theorem dX9_lay_61 : decode cX9_lay 61 = .ok (.getfield 32, 3) := by decide +kernel
theorem dX9_lay_64 : decode cX9_lay 64 = .ok (.iload 5, 2) := by decide +kernel
theorem dX9_lay_66 : decode cX9_lay 66 = .ok (.lconst 0, 1) := by decide +kernel
theorem dX9_lay_67 : decode cX9_lay 67 = .ok (.lastore, 1) := by decide +kernel
theorem dX9_lay_68 : decode cX9_lay 68 = .ok (.iinc 5 1, 3) := by decide +kernel
theorem dX9_lay_71 : decode cX9_lay 71 = .ok (.goto (-18), 3) := by decide +kernel
theorem dX9_lay_74 : decode cX9_lay 74 = .ok (.iconst 0, 1) := by decide +kernel
theorem dX9_lay_75 : decode cX9_lay 75 = .ok (.istore 5, 2) := by decide +kernel
theorem dX9_lay_77 : decode cX9_lay 77 = .ok (.iload 5, 2) := by decide +kernel
theorem dX9_lay_79 : decode cX9_lay 79 = .ok (.iload_n 1, 1) := by decide +kernel
theorem dX9_lay_80 : decode cX9_lay 80 = .ok (.if_icmp .ge 231, 3) := by decide +kernel
theorem dX9_lay_83 : decode cX9_lay 83 = .ok (.iconst 0, 1) := by decide +kernel
theorem dX9_lay_84 : decode cX9_lay 84 = .ok (.istore 6, 2) := by decide +kernel
theorem dX9_lay_86 : decode cX9_lay 86 = .ok (.iload 6, 2) := by decide +kernel
theorem dX9_lay_88 : decode cX9_lay 88 = .ok (.sipush 2048, 3) := by decide +kernel
theorem dX9_lay_91 : decode cX9_lay 91 = .ok (.if_icmp .ge 17, 3) := by decide +kernel
theorem dX9_lay_94 : decode cX9_lay 94 = .ok (.aload_n 0, 1) := by decide +kernel
theorem dX9_lay_95 : decode cX9_lay 95 = .ok (.getfield 29, 3) := by decide +kernel
theorem dX9_lay_98 : decode cX9_lay 98 = .ok (.iload 6, 2) := by decide +kernel
theorem dX9_lay_100 : decode cX9_lay 100 = .ok (.lconst 0, 1) := by decide +kernel
theorem dX9_lay_101 : decode cX9_lay 101 = .ok (.lastore, 1) := by decide +kernel
theorem dX9_lay_102 : decode cX9_lay 102 = .ok (.iinc 6 1, 3) := by decide +kernel
theorem dX9_lay_105 : decode cX9_lay 105 = .ok (.goto (-19), 3) := by decide +kernel
theorem dX9_lay_108 : decode cX9_lay 108 = .ok (.iconst 0, 1) := by decide +kernel
theorem dX9_lay_109 : decode cX9_lay 109 = .ok (.istore 6, 2) := by decide +kernel
theorem dX9_lay_111 : decode cX9_lay 111 = .ok (.iload 6, 2) := by decide +kernel
theorem dX9_lay_113 : decode cX9_lay 113 = .ok (.bipush 8, 2) := by decide +kernel
theorem dX9_lay_115 : decode cX9_lay 115 = .ok (.if_icmp .ge 22, 3) := by decide +kernel
theorem dX9_lay_118 : decode cX9_lay 118 = .ok (.aload_n 0, 1) := by decide +kernel
theorem dX9_lay_119 : decode cX9_lay 119 = .ok (.getfield 32, 3) := by decide +kernel
theorem dX9_lay_122 : decode cX9_lay 122 = .ok (.iload 6, 2) := by decide +kernel
theorem dX9_lay_124 : decode cX9_lay 124 = .ok (.dup2, 1) := by decide +kernel
theorem dX9_lay_125 : decode cX9_lay 125 = .ok (.laload, 1) := by decide +kernel
theorem dX9_lay_126 : decode cX9_lay 126 = .ok (.ldc2_w 165, 3) := by decide +kernel
theorem dX9_lay_129 : decode cX9_lay 129 = .ok (.lmul, 1) := by decide +kernel
theorem dX9_lay_130 : decode cX9_lay 130 = .ok (.lastore, 1) := by decide +kernel
theorem dX9_lay_131 : decode cX9_lay 131 = .ok (.iinc 6 1, 3) := by decide +kernel
theorem dX9_lay_134 : decode cX9_lay 134 = .ok (.goto (-23), 3) := by decide +kernel
theorem dX9_lay_137 : decode cX9_lay 137 = .ok (.iconst 0, 1) := by decide +kernel
theorem dX9_lay_138 : decode cX9_lay 138 = .ok (.istore 6, 2) := by decide +kernel
theorem dX9_lay_140 : decode cX9_lay 140 = .ok (.iload 6, 2) := by decide +kernel
theorem dX9_lay_142 : decode cX9_lay 142 = .ok (.sipush 2048, 3) := by decide +kernel
theorem dX9_lay_145 : decode cX9_lay 145 = .ok (.if_icmp .ge 129, 3) := by decide +kernel
theorem dX9_lay_148 : decode cX9_lay 148 = .ok (.iconst 0, 1) := by decide +kernel
theorem dX9_lay_149 : decode cX9_lay 149 = .ok (.istore 7, 2) := by decide +kernel
theorem dX9_lay_151 : decode cX9_lay 151 = .ok (.iload 7, 2) := by decide +kernel
theorem dX9_lay_153 : decode cX9_lay 153 = .ok (.aload_n 0, 1) := by decide +kernel
theorem dX9_lay_154 : decode cX9_lay 154 = .ok (.getfield 78, 3) := by decide +kernel
theorem dX9_lay_157 : decode cX9_lay 157 = .ok (.if_icmp .ge 111, 3) := by decide +kernel
theorem dX9_lay_160 : decode cX9_lay 160 = .ok (.aload_n 0, 1) := by decide +kernel
theorem dX9_lay_161 : decode cX9_lay 161 = .ok (.getfield 25, 3) := by decide +kernel
theorem dX9_lay_164 : decode cX9_lay 164 = .ok (.iload 6, 2) := by decide +kernel
theorem dX9_lay_166 : decode cX9_lay 166 = .ok (.laload, 1) := by decide +kernel
theorem dX9_lay_167 : decode cX9_lay 167 = .ok (.lconst 0, 1) := by decide +kernel
theorem dX9_lay_168 : decode cX9_lay 168 = .ok (.lcmp, 1) := by decide +kernel
theorem dX9_lay_169 : decode cX9_lay 169 = .ok (.ifCond .le 99, 3) := by decide +kernel
theorem dX9_lay_172 : decode cX9_lay 172 = .ok (.aload_n 0, 1) := by decide +kernel
theorem dX9_lay_173 : decode cX9_lay 173 = .ok (.getfield 25, 3) := by decide +kernel
theorem dX9_lay_176 : decode cX9_lay 176 = .ok (.iload 6, 2) := by decide +kernel
theorem dX9_lay_178 : decode cX9_lay 178 = .ok (.laload, 1) := by decide +kernel
theorem dX9_lay_179 : decode cX9_lay 179 = .ok (.aload_n 0, 1) := by decide +kernel
theorem dX9_lay_180 : decode cX9_lay 180 = .ok (.getfield 13, 3) := by decide +kernel
theorem dX9_lay_183 : decode cX9_lay 183 = .ok (.bipush 8, 2) := by decide +kernel
theorem dX9_lay_185 : decode cX9_lay 185 = .ok (.iload 6, 2) := by decide +kernel
theorem dX9_lay_187 : decode cX9_lay 187 = .ok (.bipush 8, 2) := by decide +kernel
theorem dX9_lay_189 : decode cX9_lay 189 = .ok (.irem, 1) := by decide +kernel
theorem dX9_lay_190 : decode cX9_lay 190 = .ok (.imul, 1) := by decide +kernel
theorem dX9_lay_191 : decode cX9_lay 191 = .ok (.iload 7, 2) := by decide +kernel
theorem dX9_lay_193 : decode cX9_lay 193 = .ok (.iadd, 1) := by decide +kernel
theorem dX9_lay_194 : decode cX9_lay 194 = .ok (.iaload, 1) := by decide +kernel
theorem dX9_lay_195 : decode cX9_lay 195 = .ok (.i2l, 1) := by decide +kernel
theorem dX9_lay_196 : decode cX9_lay 196 = .ok (.lmul, 1) := by decide +kernel
theorem dX9_lay_197 : decode cX9_lay 197 = .ok (.lstore 8, 2) := by decide +kernel
theorem dX9_lay_199 : decode cX9_lay 199 = .ok (.iload 6, 2) := by decide +kernel
theorem dX9_lay_201 : decode cX9_lay 201 = .ok (.bipush 8, 2) := by decide +kernel
theorem dX9_lay_203 : decode cX9_lay 203 = .ok (.idiv, 1) := by decide +kernel
theorem dX9_lay_204 : decode cX9_lay 204 = .ok (.iconst 1, 1) := by decide +kernel
theorem dX9_lay_205 : decode cX9_lay 205 = .ok (.iload 7, 2) := by decide +kernel
theorem dX9_lay_207 : decode cX9_lay 207 = .ok (.ishl, 1) := by decide +kernel
theorem dX9_lay_208 : decode cX9_lay 208 = .ok (.ior, 1) := by decide +kernel
theorem dX9_lay_209 : decode cX9_lay 209 = .ok (.istore 10, 2) := by decide +kernel
theorem dX9_lay_211 : decode cX9_lay 211 = .ok (.aload_n 0, 1) := by decide +kernel
theorem dX9_lay_212 : decode cX9_lay 212 = .ok (.getfield 29, 3) := by decide +kernel
theorem dX9_lay_215 : decode cX9_lay 215 = .ok (.bipush 8, 2) := by decide +kernel
theorem dX9_lay_217 : decode cX9_lay 217 = .ok (.iload 10, 2) := by decide +kernel
theorem dX9_lay_219 : decode cX9_lay 219 = .ok (.imul, 1) := by decide +kernel
theorem dX9_lay_220 : decode cX9_lay 220 = .ok (.iload 7, 2) := by decide +kernel
theorem dX9_lay_222 : decode cX9_lay 222 = .ok (.iadd, 1) := by decide +kernel
theorem dX9_lay_223 : decode cX9_lay 223 = .ok (.dup2, 1) := by decide +kernel
theorem dX9_lay_224 : decode cX9_lay 224 = .ok (.laload, 1) := by decide +kernel
theorem dX9_lay_225 : decode cX9_lay 225 = .ok (.lload 8, 2) := by decide +kernel
theorem dX9_lay_227 : decode cX9_lay 227 = .ok (.ladd, 1) := by decide +kernel
theorem dX9_lay_228 : decode cX9_lay 228 = .ok (.lastore, 1) := by decide +kernel
theorem dX9_lay_229 : decode cX9_lay 229 = .ok (.aload_n 0, 1) := by decide +kernel
theorem dX9_lay_230 : decode cX9_lay 230 = .ok (.getfield 32, 3) := by decide +kernel
theorem dX9_lay_233 : decode cX9_lay 233 = .ok (.iload 7, 2) := by decide +kernel
theorem dX9_lay_235 : decode cX9_lay 235 = .ok (.dup2, 1) := by decide +kernel
theorem dX9_lay_236 : decode cX9_lay 236 = .ok (.laload, 1) := by decide +kernel
theorem dX9_lay_237 : decode cX9_lay 237 = .ok (.iload 10, 2) := by decide +kernel
theorem dX9_lay_239 : decode cX9_lay 239 = .ok (.iload 4, 2) := by decide +kernel
theorem dX9_lay_241 : decode cX9_lay 241 = .ok (.if_icmp .ne 18, 3) := by decide +kernel
theorem dX9_lay_244 : decode cX9_lay 244 = .ok (.iload 6, 2) := by decide +kernel
theorem dX9_lay_246 : decode cX9_lay 246 = .ok (.bipush 8, 2) := by decide +kernel
theorem dX9_lay_248 : decode cX9_lay 248 = .ok (.idiv, 1) := by decide +kernel
theorem dX9_lay_249 : decode cX9_lay 249 = .ok (.iload 4, 2) := by decide +kernel
theorem dX9_lay_251 : decode cX9_lay 251 = .ok (.if_icmp .eq 8, 3) := by decide +kernel
theorem dX9_lay_254 : decode cX9_lay 254 = .ok (.lload 8, 2) := by decide +kernel
theorem dX9_lay_256 : decode cX9_lay 256 = .ok (.goto 4, 3) := by decide +kernel
theorem dX9_lay_259 : decode cX9_lay 259 = .ok (.lconst 0, 1) := by decide +kernel
theorem dX9_lay_260 : decode cX9_lay 260 = .ok (.ladd, 1) := by decide +kernel
theorem dX9_lay_261 : decode cX9_lay 261 = .ok (.lastore, 1) := by decide +kernel
theorem dX9_lay_262 : decode cX9_lay 262 = .ok (.iinc 7 1, 3) := by decide +kernel
theorem dX9_lay_265 : decode cX9_lay 265 = .ok (.goto (-114), 3) := by decide +kernel
theorem dX9_lay_268 : decode cX9_lay 268 = .ok (.iinc 6 1, 3) := by decide +kernel
theorem dX9_lay_271 : decode cX9_lay 271 = .ok (.goto (-131), 3) := by decide +kernel
theorem dX9_lay_274 : decode cX9_lay 274 = .ok (.iconst 0, 1) := by decide +kernel
theorem dX9_lay_275 : decode cX9_lay 275 = .ok (.istore 6, 2) := by decide +kernel
theorem dX9_lay_277 : decode cX9_lay 277 = .ok (.iload 6, 2) := by decide +kernel
theorem dX9_lay_279 : decode cX9_lay 279 = .ok (.sipush 2048, 3) := by decide +kernel
theorem dX9_lay_282 : decode cX9_lay 282 = .ok (.if_icmp .ge 23, 3) := by decide +kernel
theorem dX9_lay_285 : decode cX9_lay 285 = .ok (.aload_n 0, 1) := by decide +kernel
theorem dX9_lay_286 : decode cX9_lay 286 = .ok (.getfield 25, 3) := by decide +kernel
theorem dX9_lay_289 : decode cX9_lay 289 = .ok (.iload 6, 2) := by decide +kernel
theorem dX9_lay_291 : decode cX9_lay 291 = .ok (.aload_n 0, 1) := by decide +kernel
theorem dX9_lay_292 : decode cX9_lay 292 = .ok (.getfield 29, 3) := by decide +kernel
theorem dX9_lay_295 : decode cX9_lay 295 = .ok (.iload 6, 2) := by decide +kernel
theorem dX9_lay_297 : decode cX9_lay 297 = .ok (.laload, 1) := by decide +kernel
theorem dX9_lay_298 : decode cX9_lay 298 = .ok (.lastore, 1) := by decide +kernel
theorem dX9_lay_299 : decode cX9_lay 299 = .ok (.iinc 6 1, 3) := by decide +kernel
theorem dX9_lay_302 : decode cX9_lay 302 = .ok (.goto (-25), 3) := by decide +kernel
theorem dX9_lay_305 : decode cX9_lay 305 = .ok (.iinc 5 1, 3) := by decide +kernel
theorem dX9_lay_308 : decode cX9_lay 308 = .ok (.goto (-231), 3) := by decide +kernel
theorem dX9_lay_311 : decode cX9_lay 311 = .ok (.return_, 1) := by decide +kernel
set_option maxRecDepth 20000 in
theorem ggX9_at_X9_isSeat : GoodIn wsX9_at wsX9_isSeat := goodIn_r _ [11, 12, 13, 14, 10, 15, 30, 31, 32, 33, 34, 35, 36, 37, 38, 39, 40, 41, 42, 43, 44, 45, 46, 47, 48, 49, 50, 51, 52, 53, 54, 55, 56, 57, 58, 59, 60, 61, 62, 63, 64, 65, 66, 67, 68] (by decide +kernel) (by decide +kernel)
set_option maxRecDepth 20000 in
theorem gX9_at_X9_isSeat : GoodIn wsX9_at (wsV RX9 161 RX9 yX9_isSeat wsX9_isSeat) := goodIn_app (goodIn_of _ (by decide +kernel)) ggX9_at_X9_isSeat
set_option maxRecDepth 20000 in
theorem ggX9_at_X9_in : GoodIn wsX9_at wsX9_in := goodIn_r _ [15] (by decide +kernel) (by decide +kernel)
set_option maxRecDepth 20000 in
theorem gX9_at_X9_in : GoodIn wsX9_at (va_wsS RX9 90 yX9_in wsX9_in) := goodIn_app (goodIn_of _ (by decide +kernel)) ggX9_at_X9_in
set_option maxRecDepth 20000 in
theorem ggX9_at_X9_lay : GoodIn wsX9_at wsX9_lay := goodIn_r _ [19, 12, 6, 20, 21, 22, 23, 30, 31, 32, 33, 34, 35, 36, 37, 38, 39, 40, 41, 42, 43, 44, 45, 46, 47, 48, 49, 50, 51, 52, 53, 54, 55, 56, 57, 58, 59, 60, 61, 62, 63, 64, 65, 66, 67, 68] (by decide +kernel) (by decide +kernel)
set_option maxRecDepth 20000 in
theorem gX9_at_X9_lay : GoodIn wsX9_at (wsV RX9 173 RX9 yX9_lay wsX9_lay) := goodIn_app (goodIn_of _ (by decide +kernel)) ggX9_at_X9_lay
set_option maxRecDepth 20000 in
theorem ggX9_at_X9_power : GoodIn wsX9_at wsX9_power := goodIn_r _ [26] (by decide +kernel) (by decide +kernel)
set_option maxRecDepth 20000 in
theorem gX9_at_X9_power : GoodIn wsX9_at (va_wsS RX9 177 yX9_power wsX9_power) := goodIn_app (goodIn_of _ (by decide +kernel)) ggX9_at_X9_power
set_option maxRecDepth 20000 in
theorem ggX9_at_X9_part : GoodIn wsX9_at wsX9_part := goodIn_r _ [29] (by decide +kernel) (by decide +kernel)
set_option maxRecDepth 20000 in
theorem gX9_at_X9_part : GoodIn wsX9_at (va_wsS RX9 181 yX9_part wsX9_part) := goodIn_app (goodIn_of _ (by decide +kernel)) ggX9_at_X9_part
theorem dX9_at_0 : decode cX9_at 0 = .ok (.aload_n 0, 1) := by decide +kernel
theorem dX9_at_1 : decode cX9_at 1 = .ok (.iload_n 2, 1) := by decide +kernel
theorem dX9_at_2 : decode cX9_at 2 = .ok (.invokevirtual 161, 3) := by decide +kernel
theorem dX9_at_5 : decode cX9_at 5 = .ok (.ifCond .ne 7, 3) := by decide +kernel
theorem dX9_at_8 : decode cX9_at 8 = .ok (.ldc2_w 167, 3) := by decide +kernel
