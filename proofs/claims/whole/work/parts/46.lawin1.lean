set_option maxRecDepth 20000 in
theorem zj_wsL_law_r24 : ∀ w ∈ wsL_law_r24, w ∈ lw_tbl := fun w h => (goodIn_r (big := lw_tbl) wsL_law_r24 [945, 947, 38, 948, 949, 951, 39, 952, 953, 954, 955, 527, 528, 529, 530, 957, 958, 959, 960, 531, 532, 533, 534, 544] (by decide +kernel) (by decide +kernel) w h).1
set_option maxRecDepth 20000 in
theorem zj_wsL_law_r25 : ∀ w ∈ wsL_law_r25, w ∈ lw_tbl := fun w h => (goodIn_r (big := lw_tbl) wsL_law_r25 [535, 536, 537, 538, 539, 540, 542, 16, 543, 961, 962, 963, 964, 965, 545, 546, 547, 548, 966, 967, 968, 969, 549, 550] (by decide +kernel) (by decide +kernel) w h).1
set_option maxRecDepth 20000 in
theorem zj_wsL_law_r26 : ∀ w ∈ wsL_law_r26, w ∈ lw_tbl := fun w h => (goodIn_r (big := lw_tbl) wsL_law_r26 [551, 552, 553, 554, 555, 556, 557, 558, 559, 560, 561, 562, 563, 565, 970, 971, 972, 973, 974, 975, 976, 566, 567, 568] (by decide +kernel) (by decide +kernel) w h).1
set_option maxRecDepth 20000 in
theorem zj_wsL_law_r27 : ∀ w ∈ wsL_law_r27, w ∈ lw_tbl := fun w h => (goodIn_r (big := lw_tbl) wsL_law_r27 [569, 570, 571, 572, 573, 977, 978, 979, 980, 981, 574, 575, 576, 577, 578, 579, 580, 581, 147, 982, 983, 984, 985, 582] (by decide +kernel) (by decide +kernel) w h).1
set_option maxRecDepth 20000 in
theorem zj_wsL_law_r28 : ∀ w ∈ wsL_law_r28, w ∈ lw_tbl := fun w h => (goodIn_r (big := lw_tbl) wsL_law_r28 [583, 584, 585, 986, 987, 988, 989, 586, 587, 588, 589, 590, 591, 592, 593, 140, 594, 595, 596, 597, 990, 991, 992, 993] (by decide +kernel) (by decide +kernel) w h).1
set_option maxRecDepth 20000 in
theorem zj_wsL_law_r29 : ∀ w ∈ wsL_law_r29, w ∈ lw_tbl := fun w h => (goodIn_r (big := lw_tbl) wsL_law_r29 [994, 996, 40, 997, 998, 1000, 41, 1001, 598, 599, 600, 601, 602, 603, 604, 605, 92, 138, 606, 608, 17, 609, 610, 612] (by decide +kernel) (by decide +kernel) w h).1
set_option maxRecDepth 20000 in
theorem zj_wsL_law_r30 : ∀ w ∈ wsL_law_r30, w ∈ lw_tbl := fun w h => (goodIn_r (big := lw_tbl) wsL_law_r30 [18, 613, 623, 624, 55, 625, 614, 616, 19, 617, 618, 619, 621, 20, 622, 626, 628, 21, 629, 1002, 1003, 1004, 1005, 630] (by decide +kernel) (by decide +kernel) w h).1
set_option maxRecDepth 20000 in
theorem zj_wsL_law_r31 : ∀ w ∈ wsL_law_r31, w ∈ lw_tbl := fun w h => (goodIn_r (big := lw_tbl) wsL_law_r31 [631, 632, 633, 634, 635, 636, 637, 638, 640, 22, 641, 89, 642, 643, 644, 1006, 1007, 1008, 1009, 645, 646, 647, 648, 151] (by decide +kernel) (by decide +kernel) w h).1
set_option maxRecDepth 20000 in
theorem zj_wsL_law_r32 : ∀ w ∈ wsL_law_r32, w ∈ lw_tbl := fun w h => (goodIn_r (big := lw_tbl) wsL_law_r32 [1010, 1011, 1012, 1013, 725, 649, 650, 651, 652, 653, 654, 655, 656, 137, 150, 661, 662, 663, 657, 658, 659, 660, 664, 666] (by decide +kernel) (by decide +kernel) w h).1
set_option maxRecDepth 20000 in
theorem zj_wsL_law_r33 : ∀ w ∈ wsL_law_r33, w ∈ lw_tbl := fun w h => (goodIn_r (big := lw_tbl) wsL_law_r33 [23, 667, 1014, 1015, 1016, 1017, 1018, 1020, 42, 1021, 1022, 1024, 43, 1025, 1026, 1027, 668, 669, 670, 671, 1028, 1029, 1030, 1031] (by decide +kernel) (by decide +kernel) w h).1
set_option maxRecDepth 20000 in
theorem zj_wsL_law_r34 : ∀ w ∈ wsL_law_r34, w ∈ lw_tbl := fun w h => (goodIn_r (big := lw_tbl) wsL_law_r34 [1032, 672, 673, 674, 675, 676, 677, 678, 679, 149, 1033, 1034, 1035, 1036, 680, 681, 682, 683, 1037, 1038, 1039, 1040, 684, 685] (by decide +kernel) (by decide +kernel) w h).1
set_option maxRecDepth 20000 in
theorem zj_wsL_law_r35 : ∀ w ∈ wsL_law_r35, w ∈ lw_tbl := fun w h => (goodIn_r (big := lw_tbl) wsL_law_r35 [686, 687, 1041, 1042, 1043, 1044] (by decide +kernel) (by decide +kernel) w h).1
set_option maxRecDepth 20000 in
theorem zj_wsX80 : ∀ w ∈ wsX80, w ∈ lw_tbl := fun w h => (goodIn_r (big := lw_tbl) wsX80 [262, 264, 266, 268, 270, 272, 274, 276, 278] (by decide +kernel) (by decide +kernel) w h).1
set_option maxRecDepth 20000 in
theorem zj_wsX90 : ∀ w ∈ wsX90, w ∈ lw_tbl := fun w h => (goodIn_r (big := lw_tbl) wsX90 [733, 735, 737, 739, 741, 743, 745, 747, 749, 751, 753, 755, 757, 759, 761, 763, 765, 767, 769, 771, 773, 775, 777, 779, 781, 783, 785, 787, 789, 791, 793, 795, 797, 799, 801, 803, 805, 807, 809] (by decide +kernel) (by decide +kernel) w h).1
set_option maxRecDepth 20000 in
theorem zj_wsX70 : ∀ w ∈ wsX70, w ∈ lw_tbl := fun w h => (goodIn_r (big := lw_tbl) wsX70 [73, 75] (by decide +kernel) (by decide +kernel) w h).1
set_option maxRecDepth 20000 in
theorem zj_wsX30 : ∀ w ∈ wsX30, w ∈ lw_tbl := fun w h => (goodIn_r (big := lw_tbl) wsX30 [98, 100, 102, 104, 106, 108] (by decide +kernel) (by decide +kernel) w h).1
set_option maxRecDepth 20000 in
theorem zj_wsX40 : ∀ w ∈ wsX40, w ∈ lw_tbl := fun w h => (goodIn_r (big := lw_tbl) wsX40 [153, 155, 157, 159, 161, 163, 165, 167, 169, 171] (by decide +kernel) (by decide +kernel) w h).1
set_option maxRecDepth 20000 in
theorem zj_wsX00 : ∀ w ∈ wsX00, w ∈ lw_tbl := fun w h => (goodIn_r (big := lw_tbl) wsX00 [202, 204, 206] (by decide +kernel) (by decide +kernel) w h).1
set_option maxRecDepth 20000 in
theorem zj_wsX20 : ∀ w ∈ wsX20, w ∈ lw_tbl := fun w h => (goodIn_r (big := lw_tbl) wsX20 [222, 224, 226, 228, 230] (by decide +kernel) (by decide +kernel) w h).1
set_option maxRecDepth 20000 in
theorem zj_wsX50 : ∀ w ∈ wsX50, w ∈ lw_tbl := fun w h => (goodIn_r (big := lw_tbl) wsX50 [240] (by decide +kernel) (by decide +kernel) w h).1
set_option maxRecDepth 20000 in
theorem zj_wsX10 : ∀ w ∈ wsX10, w ∈ lw_tbl := fun w h => (goodIn_r (big := lw_tbl) wsX10 [250] (by decide +kernel) (by decide +kernel) w h).1
set_option maxRecDepth 20000 in
theorem zj_wsX60 : ∀ w ∈ wsX60, w ∈ lw_tbl := fun w h => (goodIn_r (big := lw_tbl) wsX60 [191, 193, 195] (by decide +kernel) (by decide +kernel) w h).1
theorem zj_app {a b c : List Cond} (ha : ∀ w ∈ a, w ∈ c) (hb : ∀ w ∈ b, w ∈ c) : ∀ w ∈ a ++ b, w ∈ c := fun w h => (List.mem_append.mp h).elim (ha w) (hb w)
set_option maxRecDepth 20000 in
theorem wsL_law_in : ∀ w ∈ wsL_law, w ∈ lw_tbl := zj_app (zj_app (zj_app (zj_app (zj_app (zj_app (zj_app (zj_app (zj_app (zj_app (zj_app (zj_app zj_wsL_law_r1 (zj_app zj_wsL_law_r2 (zj_app zj_wsL_law_r3 (zj_app zj_wsL_law_r4 (zj_app zj_wsL_law_r5 (zj_app zj_wsL_law_r6 (zj_app zj_wsL_law_r7 (zj_app zj_wsL_law_r8 (zj_app zj_wsL_law_r9 (zj_app zj_wsL_law_r10 (zj_app zj_wsL_law_r11 (zj_app zj_wsL_law_r12 (zj_app zj_wsL_law_r13 (zj_app zj_wsL_law_r14 (zj_app zj_wsL_law_r15 (zj_app zj_wsL_law_r16 (zj_app zj_wsL_law_r17 (zj_app zj_wsL_law_r18 (zj_app zj_wsL_law_r19 (zj_app zj_wsL_law_r20 (zj_app zj_wsL_law_r21 (zj_app zj_wsL_law_r22 (zj_app zj_wsL_law_r23 (zj_app zj_wsL_law_r24 (zj_app zj_wsL_law_r25 (zj_app zj_wsL_law_r26 (zj_app zj_wsL_law_r27 (zj_app zj_wsL_law_r28 (zj_app zj_wsL_law_r29 (zj_app zj_wsL_law_r30 (zj_app zj_wsL_law_r31 (zj_app zj_wsL_law_r32 (zj_app zj_wsL_law_r33 (zj_app zj_wsL_law_r34 zj_wsL_law_r35)))))))))))))))))))))))))))))))))) zj_wsX80) zj_wsX90) zj_wsX70) zj_wsX30) zj_wsX40) zj_wsX00) zj_wsX20) zj_wsX50) zj_wsX10) zj_wsX60) (fun _ h => absurd h List.not_mem_nil)
