set_option maxRecDepth 20000 in
theorem ggL_law_X8_rule : GoodIn wsL_law wsX8_rule := goodIn_r _ [722, 42, 21, 25, 319, 723, 724, 725, 41, 726, 107, 727, 728, 729, 730, 731, 732, 211, 212, 19, 213, 51, 69, 70, 71, 72, 58, 733, 734, 424, 425, 426, 822, 823, 824, 825, 826, 827, 828, 829, 830, 878, 879, 880, 881, 882, 883, 884, 885, 886, 887, 897, 872, 873, 874, 875, 876, 877] (by decide +kernel) (by decide +kernel)
set_option maxRecDepth 20000 in
theorem gL_law_X8_rule : GoodIn wsL_law (wsV RL 114 RX8 yX8_rule wsX8_rule) := goodIn_app (goodIn_of _ (by decide +kernel)) ggL_law_X8_rule
set_option maxRecDepth 20000 in
theorem ggL_law_X9_rule : GoodIn wsL_law wsX9_rule := goodIn_r _ [738, 126, 290, 135, 113, 831, 832, 833, 834, 835, 836, 837, 838, 839, 840, 841, 842, 843, 844, 845, 846, 847, 848, 849, 850, 851, 852, 853, 854, 855, 856, 857, 858, 859, 860, 861, 862, 863, 864, 865, 866, 867, 868, 869] (by decide +kernel) (by decide +kernel)
set_option maxRecDepth 20000 in
theorem gL_law_X9_rule : GoodIn wsL_law (wsV RL 117 RX9 yX9_rule wsX9_rule) := goodIn_app (goodIn_of _ (by decide +kernel)) ggL_law_X9_rule
set_option maxRecDepth 20000 in
theorem ggL_law_X8_seed : GoodIn wsL_law wsX8_seed := goodIn_r _ [742, 25, 743, 822, 823, 824, 825, 826, 827, 828, 829, 830, 878, 879, 880, 881, 882, 883, 884, 885, 886, 887] (by decide +kernel) (by decide +kernel)
set_option maxRecDepth 20000 in
theorem gL_law_X8_seed : GoodIn wsL_law (wsV RL 118 RX8 yX8_seed wsX8_seed) := goodIn_app (goodIn_of _ (by decide +kernel)) ggL_law_X8_seed
set_option maxRecDepth 20000 in
theorem ggL_law_X9_seed : GoodIn wsL_law wsX9_seed := goodIn_r _ [747, 748, 831, 832, 833, 834, 835, 836, 837, 838, 839, 840, 841, 842, 843, 844, 845, 846, 847, 848, 849, 850, 851, 852, 853, 854, 855, 856, 857, 858, 859, 860, 861, 862, 863, 864, 865, 866, 867, 868, 869] (by decide +kernel) (by decide +kernel)
set_option maxRecDepth 20000 in
theorem gL_law_X9_seed : GoodIn wsL_law (wsV RL 122 RX9 yX9_seed wsX9_seed) := goodIn_app (goodIn_of _ (by decide +kernel)) ggL_law_X9_seed
set_option maxRecDepth 20000 in
theorem ggL_law_X8_evening : GoodIn wsL_law wsX8_evening := goodIn_r _ [752, 42, 21, 25, 753, 754, 755, 41, 756, 757, 758, 759, 760, 761, 762, 763, 764, 19, 765, 210, 211, 212, 213, 51, 69, 70, 71, 72, 58, 766, 767, 768, 769, 731, 732, 734, 424, 425, 426, 822, 823, 824, 825, 826, 827, 828, 829, 830, 878, 879, 880, 881, 882, 883, 884, 885, 886, 887, 872, 873, 874, 875, 876, 877] (by decide +kernel) (by decide +kernel)
set_option maxRecDepth 20000 in
theorem gL_law_X8_evening : GoodIn wsL_law (wsV RL 123 RX8 yX8_evening wsX8_evening) := goodIn_app (goodIn_of _ (by decide +kernel)) ggL_law_X8_evening
set_option maxRecDepth 20000 in
theorem ggL_law_X9_evening : GoodIn wsL_law wsX9_evening := goodIn_r _ [773, 774, 775, 776, 5, 777, 290, 135, 778, 779, 780, 781, 113, 748, 782, 783, 412, 831, 832, 833, 834, 835, 836, 837, 838, 839, 840, 841, 842, 843, 844, 845, 846, 847, 848, 849, 850, 851, 852, 853, 854, 855, 856, 857, 858, 859, 860, 861, 862, 863, 864, 865, 866, 867, 868, 869] (by decide +kernel) (by decide +kernel)
set_option maxRecDepth 20000 in
theorem gL_law_X9_evening : GoodIn wsL_law (wsV RL 126 RX9 yX9_evening wsX9_evening) := goodIn_app (goodIn_of _ (by decide +kernel)) ggL_law_X9_evening
set_option maxRecDepth 20000 in
theorem ggL_law_X8_uncle : GoodIn wsL_law wsX8_uncle := goodIn_r _ [787, 21, 42, 25, 305, 70, 71, 19, 72, 58, 753, 754, 755, 41, 756, 757, 758, 759, 760, 761, 762, 763, 764, 765, 210, 211, 212, 213, 51, 69, 766, 767, 768, 769, 731, 732, 734, 424, 425, 426, 822, 823, 824, 825, 826, 827, 828, 829, 830, 872, 873, 874, 875, 876, 877, 878, 879, 880, 881, 882, 883, 884, 885, 886, 887] (by decide +kernel) (by decide +kernel)
set_option maxRecDepth 20000 in
theorem gL_law_X8_uncle : GoodIn wsL_law (wsV RL 127 RX8 yX8_uncle wsX8_uncle) := goodIn_app (goodIn_of _ (by decide +kernel)) ggL_law_X8_uncle
set_option maxRecDepth 20000 in
theorem ggL_law_X9_uncle : GoodIn wsL_law wsX9_uncle := goodIn_r _ [791, 792, 311, 312, 313, 5, 314, 135, 156, 157, 158, 774, 775, 776, 777, 290, 778, 779, 780, 781, 113, 748, 782, 783, 412, 831, 832, 833, 834, 835, 836, 837, 838, 839, 840, 841, 842, 843, 844, 845, 846, 847, 848, 849, 850, 851, 852, 853, 854, 855, 856, 857, 858, 859, 860, 861, 862, 863, 864, 865, 866, 867, 868, 869] (by decide +kernel) (by decide +kernel)
set_option maxRecDepth 20000 in
theorem gL_law_X9_uncle : GoodIn wsL_law (wsV RL 130 RX9 yX9_uncle wsX9_uncle) := goodIn_app (goodIn_of _ (by decide +kernel)) ggL_law_X9_uncle
set_option maxRecDepth 20000 in
theorem ggL_law_X8_keep : GoodIn wsL_law wsX8_keep := goodIn_r _ [796, 26, 25, 270, 329, 797, 798, 799, 24, 800, 281, 282, 79, 283, 642, 801, 76, 77, 78, 822, 823, 824, 825, 826, 827, 828, 829, 830, 878, 879, 880, 881, 882, 883, 884, 885, 886, 887] (by decide +kernel) (by decide +kernel)
set_option maxRecDepth 20000 in
theorem gL_law_X8_keep : GoodIn wsL_law (wsV RL 131 RX8 yX8_keep wsX8_keep) := goodIn_app (goodIn_of _ (by decide +kernel)) ggL_law_X8_keep
set_option maxRecDepth 20000 in
theorem ggL_law_X9_keep : GoodIn wsL_law wsX9_keep := goodIn_r _ [805, 128, 129, 115, 130, 116, 131, 122, 132, 123, 133, 290, 289, 137, 291, 292, 134, 748, 156, 157, 5, 158, 831, 832, 833, 834, 835, 836, 837, 838, 839, 840, 841, 842, 843, 844, 845, 846, 847, 848, 849, 850, 851, 852, 853, 854, 855, 856, 857, 858, 859, 860, 861, 862, 863, 864, 865, 866, 867, 868, 869] (by decide +kernel) (by decide +kernel)
set_option maxRecDepth 20000 in
theorem gL_law_X9_keep : GoodIn wsL_law (wsV RL 134 RX9 yX9_keep wsX9_keep) := goodIn_app (goodIn_of _ (by decide +kernel)) ggL_law_X9_keep
set_option maxRecDepth 20000 in
theorem ggL_law_X8_again : GoodIn wsL_law wsX8_again := goodIn_r _ [809, 26, 270, 25, 329, 797, 798, 799, 24, 800, 281, 282, 79, 283, 642, 801, 76, 77, 78, 822, 823, 824, 825, 826, 827, 828, 829, 830, 878, 879, 880, 881, 882, 883, 884, 885, 886, 887] (by decide +kernel) (by decide +kernel)
set_option maxRecDepth 20000 in
theorem gL_law_X8_again : GoodIn wsL_law (wsV RL 135 RX8 yX8_again wsX8_again) := goodIn_app (goodIn_of _ (by decide +kernel)) ggL_law_X8_again
set_option maxRecDepth 20000 in
theorem ggL_law_X9_again : GoodIn wsL_law wsX9_again := goodIn_r _ [813, 128, 115, 129, 116, 130, 122, 131, 123, 132, 133, 290, 289, 137, 291, 292, 134, 748, 156, 157, 5, 158, 831, 832, 833, 834, 835, 836, 837, 838, 839, 840, 841, 842, 843, 844, 845, 846, 847, 848, 849, 850, 851, 852, 853, 854, 855, 856, 857, 858, 859, 860, 861, 862, 863, 864, 865, 866, 867, 868, 869] (by decide +kernel) (by decide +kernel)
set_option maxRecDepth 20000 in
theorem gL_law_X9_again : GoodIn wsL_law (wsV RL 138 RX9 yX9_again wsX9_again) := goodIn_app (goodIn_of _ (by decide +kernel)) ggL_law_X9_again
set_option maxRecDepth 20000 in
theorem ggL_law_X8_count : GoodIn wsL_law wsX8_count := goodIn_r _ [817, 16, 142, 21, 271, 25, 319, 328, 330, 329, 269, 465, 822, 823, 824, 825, 826, 827, 828, 829, 830, 870, 871, 872, 873, 874, 875, 876, 877, 878, 879, 880, 881, 882, 883, 884, 885, 886, 887] (by decide +kernel) (by decide +kernel)
set_option maxRecDepth 20000 in
theorem gL_law_X8_count : GoodIn wsL_law (wsV RL 139 RX8 yX8_count wsX8_count) := goodIn_app (goodIn_of _ (by decide +kernel)) ggL_law_X8_count
set_option maxRecDepth 20000 in
theorem ggL_law_X9_count : GoodIn wsL_law wsX9_count := goodIn_r _ [821, 154, 135, 290, 289, 137, 291, 292, 288, 831, 832, 833, 834, 835, 836, 837, 838, 839, 840, 841, 842, 843, 844, 845, 846, 847, 848, 849, 850, 851, 852, 853, 854, 855, 856, 857, 858, 859, 860, 861, 862, 863, 864, 865, 866, 867, 868, 869] (by decide +kernel) (by decide +kernel)
set_option maxRecDepth 20000 in
theorem gL_law_X9_count : GoodIn wsL_law (wsV RL 142 RX9 yX9_count wsX9_count) := goodIn_app (goodIn_of _ (by decide +kernel)) ggL_law_X9_count


