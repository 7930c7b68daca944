set_option maxRecDepth 20000 in
theorem zj_wsL_law_r1 : ∀ w ∈ wsL_law_r1, w ∈ lw_tbl := fun w h => (goodIn_r (big := lw_tbl) wsL_law_r1 [56, 57, 45, 688, 689, 54, 1045, 58, 59, 60, 61, 62, 63, 64, 65, 46, 253, 79, 80, 47, 254, 255, 127, 128] (by decide +kernel) (by decide +kernel) w h).1
set_option maxRecDepth 20000 in
theorem zj_wsL_law_r2 : ∀ w ∈ wsL_law_r2, w ∈ lw_tbl := fun w h => (goodIn_r (big := lw_tbl) wsL_law_r2 [48, 256, 257, 175, 176, 49, 258, 209, 210, 51, 259, 233, 234, 52, 260, 243, 244, 53, 261, 67, 68, 69, 78, 70] (by decide +kernel) (by decide +kernel) w h).1
set_option maxRecDepth 20000 in
theorem zj_wsL_law_r3 : ∀ w ∈ wsL_law_r3, w ∈ lw_tbl := fun w h => (goodIn_r (big := lw_tbl) wsL_law_r3 [82, 83, 84, 85, 86, 87, 111, 112, 113, 114, 88, 94, 96, 115, 116, 117, 118, 119, 120, 121, 122, 123, 124, 125] (by decide +kernel) (by decide +kernel) w h).1
set_option maxRecDepth 20000 in
theorem zj_wsL_law_r4 : ∀ w ∈ wsL_law_r4, w ∈ lw_tbl := fun w h => (goodIn_r (big := lw_tbl) wsL_law_r4 [126, 130, 131, 132, 133, 134, 135, 143, 178, 179, 180, 198, 199, 181, 182, 50, 200, 201, 184, 185, 186, 187, 188, 212] (by decide +kernel) (by decide +kernel) w h).1
set_option maxRecDepth 20000 in
theorem zj_wsL_law_r5 : ∀ w ∈ wsL_law_r5, w ∈ lw_tbl := fun w h => (goodIn_r (big := lw_tbl) wsL_law_r5 [213, 214, 215, 216, 236, 237, 238, 239, 246, 247, 248, 249, 690, 691, 692, 693, 694, 698, 702, 710, 711, 712, 713, 714] (by decide +kernel) (by decide +kernel) w h).1
set_option maxRecDepth 20000 in
theorem zj_wsL_law_r6 : ∀ w ∈ wsL_law_r6, w ∈ lw_tbl := fun w h => (goodIn_r (big := lw_tbl) wsL_law_r6 [715, 716, 720, 721, 722, 723, 724, 812, 726, 727, 728, 729, 730, 731, 732, 699, 701, 708, 281, 282, 283, 284, 72, 285] (by decide +kernel) (by decide +kernel) w h).1
set_option maxRecDepth 20000 in
theorem zj_wsL_law_r7 : ∀ w ∈ wsL_law_r7, w ∈ lw_tbl := fun w h => (goodIn_r (big := lw_tbl) wsL_law_r7 [286, 287, 288, 289, 71, 813, 814, 815, 816, 817, 703, 821, 818, 819, 820, 290, 291, 292, 293, 822, 823, 824, 825, 294] (by decide +kernel) (by decide +kernel) w h).1
set_option maxRecDepth 20000 in
theorem zj_wsL_law_r8 : ∀ w ∈ wsL_law_r8, w ∈ lw_tbl := fun w h => (goodIn_r (big := lw_tbl) wsL_law_r8 [295, 296, 297, 298, 299, 300, 301, 302, 303, 304, 305, 306, 307, 308, 309, 310, 311, 313, 0, 314, 315, 316, 318, 1] (by decide +kernel) (by decide +kernel) w h).1
set_option maxRecDepth 20000 in
theorem zj_wsL_law_r9 : ∀ w ∈ wsL_law_r9, w ∈ lw_tbl := fun w h => (goodIn_r (big := lw_tbl) wsL_law_r9 [319, 320, 322, 2, 323, 324, 325, 326, 327, 328, 329, 330, 331, 332, 333, 334, 335, 336, 337, 338, 339, 340, 341, 342] (by decide +kernel) (by decide +kernel) w h).1
set_option maxRecDepth 20000 in
theorem zj_wsL_law_r10 : ∀ w ∈ wsL_law_r10, w ∈ lw_tbl := fun w h => (goodIn_r (big := lw_tbl) wsL_law_r10 [343, 344, 345, 346, 347, 348, 349, 350, 351, 352, 353, 826, 827, 828, 829, 830, 832, 24, 833, 704, 705, 696, 697, 695] (by decide +kernel) (by decide +kernel) w h).1
set_option maxRecDepth 20000 in
theorem zj_wsL_law_r11 : ∀ w ∈ wsL_law_r11, w ∈ lw_tbl := fun w h => (goodIn_r (big := lw_tbl) wsL_law_r11 [834, 836, 25, 837, 838, 839, 841, 26, 842, 843, 845, 27, 846, 847, 849, 28, 850, 851, 853, 29, 854, 855, 857, 30] (by decide +kernel) (by decide +kernel) w h).1
set_option maxRecDepth 20000 in
theorem zj_wsL_law_r12 : ∀ w ∈ wsL_law_r12, w ∈ lw_tbl := fun w h => (goodIn_r (big := lw_tbl) wsL_law_r12 [858, 354, 355, 356, 357, 148, 152, 93, 358, 359, 360, 361, 362, 363, 364, 365, 366, 136, 141, 145, 859, 860, 861, 862] (by decide +kernel) (by decide +kernel) w h).1
set_option maxRecDepth 20000 in
theorem zj_wsL_law_r13 : ∀ w ∈ wsL_law_r13, w ∈ lw_tbl := fun w h => (goodIn_r (big := lw_tbl) wsL_law_r13 [700, 706, 707, 709, 719, 863, 865, 31, 866, 867, 869, 32, 870, 367, 368, 369, 370, 371, 372, 871, 872, 873, 874, 875] (by decide +kernel) (by decide +kernel) w h).1
set_option maxRecDepth 20000 in
theorem zj_wsL_law_r14 : ∀ w ∈ wsL_law_r14, w ∈ lw_tbl := fun w h => (goodIn_r (big := lw_tbl) wsL_law_r14 [877, 33, 878, 373, 374, 375, 376, 139, 879, 880, 881, 882, 377, 378, 379, 380, 142, 146, 144, 381, 382, 383, 384, 883] (by decide +kernel) (by decide +kernel) w h).1
set_option maxRecDepth 20000 in
theorem zj_wsL_law_r15 : ∀ w ∈ wsL_law_r15, w ∈ lw_tbl := fun w h => (goodIn_r (big := lw_tbl) wsL_law_r15 [884, 885, 886, 385, 386, 387, 388, 389, 390, 391, 392, 393, 394, 887, 888, 889, 890, 395, 396, 397, 398, 399, 400, 430] (by decide +kernel) (by decide +kernel) w h).1
set_option maxRecDepth 20000 in
theorem zj_wsL_law_r16 : ∀ w ∈ wsL_law_r16, w ∈ lw_tbl := fun w h => (goodIn_r (big := lw_tbl) wsL_law_r16 [401, 402, 403, 404, 190, 91, 405, 407, 3, 408, 409, 410, 411, 412, 189, 413, 414, 415, 416, 417, 418, 419, 420, 421] (by decide +kernel) (by decide +kernel) w h).1
set_option maxRecDepth 20000 in
theorem zj_wsL_law_r17 : ∀ w ∈ wsL_law_r17, w ∈ lw_tbl := fun w h => (goodIn_r (big := lw_tbl) wsL_law_r17 [422, 423, 424, 425, 426, 428, 4, 429, 431, 432, 433, 434, 435, 436, 437, 438, 439, 891, 892, 893, 894, 895, 896, 897] (by decide +kernel) (by decide +kernel) w h).1
set_option maxRecDepth 20000 in
theorem zj_wsL_law_r18 : ∀ w ∈ wsL_law_r18, w ∈ lw_tbl := fun w h => (goodIn_r (big := lw_tbl) wsL_law_r18 [898, 900, 34, 901, 902, 903, 904, 905, 906, 907, 908, 440, 441, 442, 443, 444, 445, 446, 447, 448, 449, 450, 451, 453] (by decide +kernel) (by decide +kernel) w h).1
set_option maxRecDepth 20000 in
theorem zj_wsL_law_r19 : ∀ w ∈ wsL_law_r19, w ∈ lw_tbl := fun w h => (goodIn_r (big := lw_tbl) wsL_law_r19 [452, 455, 457, 5, 458, 459, 460, 461, 462, 909, 910, 911, 912, 463, 464, 465, 466, 913, 914, 915, 916, 467, 468, 469] (by decide +kernel) (by decide +kernel) w h).1
set_option maxRecDepth 20000 in
theorem zj_wsL_law_r20 : ∀ w ∈ wsL_law_r20, w ∈ lw_tbl := fun w h => (goodIn_r (big := lw_tbl) wsL_law_r20 [470, 917, 918, 919, 920, 471, 472, 473, 474, 95, 97, 475, 476, 478, 6, 479, 921, 922, 923, 924, 925, 926, 927, 928] (by decide +kernel) (by decide +kernel) w h).1
set_option maxRecDepth 20000 in
theorem zj_wsL_law_r21 : ∀ w ∈ wsL_law_r21, w ∈ lw_tbl := fun w h => (goodIn_r (big := lw_tbl) wsL_law_r21 [480, 481, 482, 483, 526, 219, 221, 484, 485, 486, 487, 218, 220, 488, 490, 7, 491, 90, 492, 494, 8, 495, 496, 497] (by decide +kernel) (by decide +kernel) w h).1
set_option maxRecDepth 20000 in
theorem zj_wsL_law_r22 : ∀ w ∈ wsL_law_r22, w ∈ lw_tbl := fun w h => (goodIn_r (big := lw_tbl) wsL_law_r22 [499, 9, 500, 501, 503, 10, 504, 217, 505, 507, 11, 508, 513, 509, 511, 12, 512, 514, 516, 13, 517, 518, 520, 14] (by decide +kernel) (by decide +kernel) w h).1
set_option maxRecDepth 20000 in
theorem zj_wsL_law_r23 : ∀ w ∈ wsL_law_r23, w ∈ lw_tbl := fun w h => (goodIn_r (big := lw_tbl) wsL_law_r23 [521, 522, 524, 15, 525, 929, 930, 931, 932, 956, 717, 718, 933, 935, 35, 936, 937, 939, 36, 940, 941, 943, 37, 944] (by decide +kernel) (by decide +kernel) w h).1
