set_option maxRecDepth 20000 in
theorem ggL_law_X8_meet : GoodIn wsL_law wsX8_meet := goodIn_r _ [574, 21, 357, 358, 30, 575, 305, 70, 71, 19, 72, 58, 576, 577, 578, 29, 579, 580, 88, 364, 393, 2, 394, 366, 367, 368, 369, 370, 371, 372, 87, 373, 374, 94, 93, 375, 376, 377, 378, 379, 380, 381, 382, 581, 582, 583, 584, 365, 89, 383, 384, 385, 386, 387, 211, 212, 213, 51, 69, 388, 389, 390, 391, 392, 395, 396, 397, 398, 399, 400, 822, 823, 824, 825, 826, 827, 828, 829, 830, 872, 873, 874, 875, 876, 877, 888, 889, 890, 898, 899, 900] (by decide +kernel) (by decide +kernel)
set_option maxRecDepth 20000 in
theorem gL_law_X8_meet : GoodIn wsL_law (wsV RL 81 RX8 yX8_meet wsX8_meet) := goodIn_app (goodIn_of _ (by decide +kernel)) ggL_law_X8_meet
set_option maxRecDepth 20000 in
theorem ggL_law_X9_meet : GoodIn wsL_law wsX9_meet := goodIn_r _ [588, 405, 153, 407, 117, 589, 118, 113, 311, 312, 313, 5, 314, 135, 156, 157, 158, 413, 414, 415, 416, 417, 418, 831, 832, 833, 834, 835, 836, 837, 838, 839, 840, 841, 842, 843, 844, 845, 846, 847, 848, 849, 850, 851, 852, 853, 854, 855, 856, 857, 858, 859, 860, 861, 862, 863, 864, 865, 866, 867, 868, 869] (by decide +kernel) (by decide +kernel)
set_option maxRecDepth 20000 in
theorem gL_law_X9_meet : GoodIn wsL_law (wsV RL 85 RX9 yX9_meet wsX9_meet) := goodIn_app (goodIn_of _ (by decide +kernel)) ggL_law_X9_meet
set_option maxRecDepth 20000 in
theorem ggL_law_X8_penny : GoodIn wsL_law wsX8_penny := goodIn_r _ [593, 358, 392, 393, 2, 394, 395, 396, 397, 398, 399, 400] (by decide +kernel) (by decide +kernel)
set_option maxRecDepth 20000 in
theorem gL_law_X8_penny : GoodIn wsL_law (wsV RL 86 RX8 yX8_penny wsX8_penny) := goodIn_app (goodIn_of _ (by decide +kernel)) ggL_law_X8_penny
set_option maxRecDepth 20000 in
theorem ggL_law_X9_penny : GoodIn wsL_law wsX9_penny := goodIn_r _ [597, 244, 153, 407, 156, 157, 5, 158, 413, 414, 415, 416, 417, 418] (by decide +kernel) (by decide +kernel)
set_option maxRecDepth 20000 in
theorem gL_law_X9_penny : GoodIn wsL_law (wsV RL 89 RX9 yX9_penny wsX9_penny) := goodIn_app (goodIn_of _ (by decide +kernel)) ggL_law_X9_penny
set_option maxRecDepth 20000 in
theorem ggL_law_X8_judge : GoodIn wsL_law wsX8_judge := goodIn_r _ [601, 38, 21, 25, 319, 602, 603, 2, 604, 359, 392, 393, 394, 605, 606, 607, 37, 608, 609, 610, 611, 612, 613, 211, 212, 19, 213, 51, 69, 70, 71, 72, 58, 822, 823, 824, 825, 826, 827, 828, 829, 830, 878, 879, 880, 881, 882, 883, 884, 885, 886, 887, 872, 873, 874, 875, 876, 877] (by decide +kernel) (by decide +kernel)
set_option maxRecDepth 20000 in
theorem gL_law_X8_judge : GoodIn wsL_law (wsV RL 90 RX8 yX8_judge wsX8_judge) := goodIn_app (goodIn_of _ (by decide +kernel)) ggL_law_X8_judge
set_option maxRecDepth 20000 in
theorem ggL_law_X9_judge : GoodIn wsL_law wsX9_judge := goodIn_r _ [617, 290, 412, 113, 618, 619, 5, 620, 244, 156, 157, 158, 413, 414, 415, 311, 312, 313, 314, 135, 831, 832, 833, 834, 835, 836, 837, 838, 839, 840, 841, 842, 843, 844, 845, 846, 847, 848, 849, 850, 851, 852, 853, 854, 855, 856, 857, 858, 859, 860, 861, 862, 863, 864, 865, 866, 867, 868, 869] (by decide +kernel) (by decide +kernel)
set_option maxRecDepth 20000 in
theorem gL_law_X9_judge : GoodIn wsL_law (wsV RL 93 RX9 yX9_judge wsX9_judge) := goodIn_app (goodIn_of _ (by decide +kernel)) ggL_law_X9_judge
set_option maxRecDepth 20000 in
theorem ggL_law_X8_likely : GoodIn wsL_law wsX8_likely := goodIn_r _ [624, 358, 38, 21, 25, 319, 359, 602, 603, 2, 604, 392, 393, 394, 625, 626, 627, 37, 628, 609, 610, 611, 612, 613, 211, 212, 19, 213, 51, 69, 70, 71, 72, 58, 395, 396, 397, 398, 399, 400, 822, 823, 824, 825, 826, 827, 828, 829, 830, 878, 879, 880, 881, 882, 883, 884, 885, 886, 887, 872, 873, 874, 875, 876, 877] (by decide +kernel) (by decide +kernel)
set_option maxRecDepth 20000 in
theorem gL_law_X8_likely : GoodIn wsL_law (wsV RL 94 RX8 yX8_likely wsX8_likely) := goodIn_app (goodIn_of _ (by decide +kernel)) ggL_law_X8_likely
set_option maxRecDepth 20000 in
theorem ggL_law_X9_likely : GoodIn wsL_law wsX9_likely := goodIn_r _ [632, 407, 290, 412, 113, 633, 615, 616, 5, 617, 618, 619, 620, 244, 156, 157, 158, 413, 414, 415, 311, 312, 313, 314, 135, 416, 417, 418, 831, 832, 833, 834, 835, 836, 837, 838, 839, 840, 841, 842, 843, 844, 845, 846, 847, 848, 849, 850, 851, 852, 853, 854, 855, 856, 857, 858, 859, 860, 861, 862, 863, 864, 865, 866, 867, 868, 869] (by decide +kernel) (by decide +kernel)
set_option maxRecDepth 20000 in
theorem gL_law_X9_likely : GoodIn wsL_law (wsV RL 97 RX9 yX9_likely wsX9_likely) := goodIn_app (goodIn_of _ (by decide +kernel)) ggL_law_X9_likely
set_option maxRecDepth 20000 in
theorem ggL_law_X8_see : GoodIn wsL_law wsX8_see := goodIn_r _ [637, 21, 25, 269, 305, 70, 71, 19, 72, 58, 638, 639, 640, 24, 641, 642, 77, 78, 822, 823, 824, 825, 826, 827, 828, 829, 830, 878, 879, 880, 881, 882, 883, 884, 885, 886, 887, 872, 873, 874, 875, 876, 877] (by decide +kernel) (by decide +kernel)
set_option maxRecDepth 20000 in
theorem gL_law_X8_see : GoodIn wsL_law (wsV RL 98 RX8 yX8_see wsX8_see) := goodIn_app (goodIn_of _ (by decide +kernel)) ggL_law_X8_see
set_option maxRecDepth 20000 in
theorem ggL_law_X9_see : GoodIn wsL_law wsX9_see := goodIn_r _ [646, 244, 292, 122, 123, 311, 312, 313, 5, 314, 135, 156, 157, 158, 831, 832, 833, 834, 835, 836, 837, 838, 839, 840, 841, 842, 843, 844, 845, 846, 847, 848, 849, 850, 851, 852, 853, 854, 855, 856, 857, 858, 859, 860, 861, 862, 863, 864, 865, 866, 867, 868, 869] (by decide +kernel) (by decide +kernel)
set_option maxRecDepth 20000 in
theorem gL_law_X9_see : GoodIn wsL_law (wsV RL 101 RX9 yX9_see wsX9_see) := goodIn_app (goodIn_of _ (by decide +kernel)) ggL_law_X9_see
set_option maxRecDepth 20000 in
theorem ggL_law_X8_unsee : GoodIn wsL_law wsX8_unsee := goodIn_r _ [650, 25, 269, 822, 823, 824, 825, 826, 827, 828, 829, 830, 878, 879, 880, 881, 882, 883, 884, 885, 886, 887] (by decide +kernel) (by decide +kernel)
set_option maxRecDepth 20000 in
theorem gL_law_X8_unsee : GoodIn wsL_law (wsV RL 102 RX8 yX8_unsee wsX8_unsee) := goodIn_app (goodIn_of _ (by decide +kernel)) ggL_law_X8_unsee
set_option maxRecDepth 20000 in
theorem ggL_law_X9_unsee : GoodIn wsL_law wsX9_unsee := goodIn_r _ [654, 292, 831, 832, 833, 834, 835, 836, 837, 838, 839, 840, 841, 842, 843, 844, 845, 846, 847, 848, 849, 850, 851, 852, 853, 854, 855, 856, 857, 858, 859, 860, 861, 862, 863, 864, 865, 866, 867, 868, 869] (by decide +kernel) (by decide +kernel)
set_option maxRecDepth 20000 in
theorem gL_law_X9_unsee : GoodIn wsL_law (wsV RL 105 RX9 yX9_unsee wsX9_unsee) := goodIn_app (goodIn_of _ (by decide +kernel)) ggL_law_X9_unsee
set_option maxRecDepth 20000 in
theorem ggL_law_X8_ways : GoodIn wsL_law wsX8_ways := goodIn_r _ [658, 30, 21, 25, 659, 660, 661, 29, 662, 663, 88, 364, 365, 89, 366, 367, 368, 369, 370, 371, 372, 87, 373, 374, 94, 93, 375, 376, 377, 378, 379, 380, 381, 382, 383, 384, 385, 386, 387, 211, 212, 19, 213, 51, 69, 70, 71, 72, 58, 664, 665, 666, 24, 667, 642, 77, 78, 388, 389, 390, 391, 822, 823, 824, 825, 826, 827, 828, 829, 830, 878, 879, 880, 881, 882, 883, 884, 885, 886, 887, 888, 889, 890, 898, 899, 900, 872, 873, 874, 875, 876, 877] (by decide +kernel) (by decide +kernel)
set_option maxRecDepth 20000 in
theorem gL_law_X8_ways : GoodIn wsL_law (wsV RL 106 RX8 yX8_ways wsX8_ways) := goodIn_app (goodIn_of _ (by decide +kernel)) ggL_law_X8_ways
set_option maxRecDepth 20000 in
theorem ggL_law_X9_ways : GoodIn wsL_law wsX9_ways := goodIn_r _ [671, 244, 124, 290, 156, 157, 5, 158, 672, 673, 674, 675, 135, 113, 125, 676, 677, 678, 679, 292, 122, 123, 831, 832, 833, 834, 835, 836, 837, 838, 839, 840, 841, 842, 843, 844, 845, 846, 847, 848, 849, 850, 851, 852, 853, 854, 855, 856, 857, 858, 859, 860, 861, 862, 863, 864, 865, 866, 867, 868, 869] (by decide +kernel) (by decide +kernel)
set_option maxRecDepth 20000 in
theorem gL_law_X9_ways : GoodIn wsL_law (wsV RL 109 RX9 yX9_ways wsX9_ways) := goodIn_app (goodIn_of _ (by decide +kernel)) ggL_law_X9_ways
set_option maxRecDepth 20000 in
theorem ggL_law_X8_likeliest : GoodIn wsL_law wsX8_likeliest := goodIn_r _ [683, 38, 21, 25, 684, 685, 686, 37, 687, 688, 689, 690, 691, 692, 693, 103, 694, 695, 696, 697, 698, 699, 700, 701, 702, 703, 704, 705, 706, 665, 666, 24, 667, 642, 77, 78, 613, 211, 212, 19, 213, 51, 69, 70, 71, 72, 58, 707, 708, 709, 710, 711, 712, 713, 714, 822, 823, 824, 825, 826, 827, 828, 829, 830, 872, 873, 874, 875, 876, 877, 878, 879, 880, 881, 882, 883, 884, 885, 886, 887, 896] (by decide +kernel) (by decide +kernel)
set_option maxRecDepth 20000 in
theorem gL_law_X8_likeliest : GoodIn wsL_law (wsV RL 110 RX8 yX8_likeliest wsX8_likeliest) := goodIn_app (goodIn_of _ (by decide +kernel)) ggL_law_X8_likeliest
set_option maxRecDepth 20000 in
theorem ggL_law_X9_likeliest : GoodIn wsL_law wsX9_likeliest := goodIn_r _ [718, 244, 125, 290, 113, 156, 157, 5, 158, 672, 673, 674, 675, 135, 124, 676, 677, 678, 679, 292, 122, 123, 831, 832, 833, 834, 835, 836, 837, 838, 839, 840, 841, 842, 843, 844, 845, 846, 847, 848, 849, 850, 851, 852, 853, 854, 855, 856, 857, 858, 859, 860, 861, 862, 863, 864, 865, 866, 867, 868, 869] (by decide +kernel) (by decide +kernel)
set_option maxRecDepth 20000 in
theorem gL_law_X9_likeliest : GoodIn wsL_law (wsV RL 113 RX9 yX9_likeliest wsX9_likeliest) := goodIn_app (goodIn_of _ (by decide +kernel)) ggL_law_X9_likeliest
