set_option maxRecDepth 20000 in
theorem ggL_law_X8_back : GoodIn wsL_law wsX8_back := goodIn_r _ [342, 25, 329, 343, 344, 345, 24, 346, 283, 281, 76, 347, 278, 279, 280, 282, 79, 348, 332, 333, 334, 822, 823, 824, 825, 826, 827, 828, 829, 830, 878, 879, 880, 881, 882, 883, 884, 885, 886, 887] (by decide +kernel) (by decide +kernel)
set_option maxRecDepth 20000 in
theorem gL_law_X8_back : GoodIn wsL_law (wsV RL 47 RX8 yX8_back wsX8_back) := goodIn_app (goodIn_of _ (by decide +kernel)) ggL_law_X8_back
set_option maxRecDepth 20000 in
theorem ggL_law_X9_back : GoodIn wsL_law wsX9_back := goodIn_r _ [352, 291, 115, 289, 116, 137, 831, 832, 833, 834, 835, 836, 837, 838, 839, 840, 841, 842, 843, 844, 845, 846, 847, 848, 849, 850, 851, 852, 853, 854, 855, 856, 857, 858, 859, 860, 861, 862, 863, 864, 865, 866, 867, 868, 869] (by decide +kernel) (by decide +kernel)
set_option maxRecDepth 20000 in
theorem gL_law_X9_back : GoodIn wsL_law (wsV RL 50 RX9 yX9_back wsX9_back) := goodIn_app (goodIn_of _ (by decide +kernel)) ggL_law_X9_back
set_option maxRecDepth 20000 in
theorem ggL_law_X8_at : GoodIn wsL_law wsX8_at := goodIn_r _ [356, 21, 357, 358, 30, 25, 328, 359, 305, 70, 71, 19, 72, 58, 360, 361, 362, 29, 363, 88, 364, 365, 89, 366, 367, 368, 369, 370, 371, 372, 87, 373, 374, 94, 93, 375, 376, 377, 378, 379, 380, 381, 382, 383, 384, 385, 386, 387, 211, 212, 213, 51, 69, 388, 389, 390, 391, 392, 393, 2, 394, 395, 396, 397, 398, 399, 400, 822, 823, 824, 825, 826, 827, 828, 829, 830, 878, 879, 880, 881, 882, 883, 884, 885, 886, 887, 872, 873, 874, 875, 876, 877, 888, 889, 890, 898, 899, 900] (by decide +kernel) (by decide +kernel)
set_option maxRecDepth 20000 in
theorem gL_law_X8_at : GoodIn wsL_law (wsV RL 51 RX8 yX8_at wsX8_at) := goodIn_app (goodIn_of _ (by decide +kernel)) ggL_law_X8_at
set_option maxRecDepth 20000 in
theorem ggL_law_X9_at : GoodIn wsL_law wsX9_at := goodIn_r _ [404, 405, 406, 407, 289, 137, 117, 311, 312, 313, 5, 314, 135, 156, 157, 158, 408, 409, 410, 411, 119, 118, 412, 113, 413, 414, 415, 416, 417, 418, 831, 832, 833, 834, 835, 836, 837, 838, 839, 840, 841, 842, 843, 844, 845, 846, 847, 848, 849, 850, 851, 852, 853, 854, 855, 856, 857, 858, 859, 860, 861, 862, 863, 864, 865, 866, 867, 868, 869] (by decide +kernel) (by decide +kernel)
set_option maxRecDepth 20000 in
theorem gL_law_X9_at : GoodIn wsL_law (wsV RL 55 RX9 yX9_at wsX9_at) := goodIn_app (goodIn_of _ (by decide +kernel)) ggL_law_X9_at
set_option maxRecDepth 20000 in
theorem ggL_law_X8_all : GoodIn wsL_law wsX8_all := goodIn_r _ [422, 358, 25, 330, 21, 30, 328, 271, 359, 423, 424, 425, 19, 426, 58, 427, 428, 429, 29, 430, 84, 431, 88, 364, 432, 366, 367, 368, 369, 370, 371, 372, 87, 373, 374, 94, 93, 375, 376, 377, 378, 393, 2, 394, 379, 380, 381, 382, 433, 434, 435, 436, 365, 89, 383, 384, 385, 386, 387, 211, 212, 213, 51, 69, 70, 71, 72, 388, 389, 390, 391, 437, 438, 439, 440, 392, 395, 396, 397, 398, 399, 400, 822, 823, 824, 825, 826, 827, 828, 829, 830, 878, 879, 880, 881, 882, 883, 884, 885, 886, 887, 872, 873, 874, 875, 876, 877, 888, 889, 890, 898, 899, 900] (by decide +kernel) (by decide +kernel)
set_option maxRecDepth 20000 in
theorem gL_law_X8_all : GoodIn wsL_law (wsV RL 56 RX8 yX8_all wsX8_all) := goodIn_app (goodIn_of _ (by decide +kernel)) ggL_law_X8_all
set_option maxRecDepth 20000 in
theorem ggL_law_X9_all : GoodIn wsL_law wsX9_all := goodIn_r _ [444, 406, 407, 289, 137, 135, 117, 156, 157, 5, 158, 408, 409, 410, 411, 119, 118, 412, 113, 413, 414, 415, 416, 417, 418, 831, 832, 833, 834, 835, 836, 837, 838, 839, 840, 841, 842, 843, 844, 845, 846, 847, 848, 849, 850, 851, 852, 853, 854, 855, 856, 857, 858, 859, 860, 861, 862, 863, 864, 865, 866, 867, 868, 869] (by decide +kernel) (by decide +kernel)
set_option maxRecDepth 20000 in
theorem gL_law_X9_all : GoodIn wsL_law (wsV RL 60 RX9 yX9_all wsX9_all) := goodIn_app (goodIn_of _ (by decide +kernel)) ggL_law_X9_all
set_option maxRecDepth 20000 in
theorem ggL_law_X8_last : GoodIn wsL_law wsX8_last := goodIn_r _ [448, 21, 357, 358, 30, 25, 328, 330, 359, 305, 70, 71, 19, 72, 58, 427, 428, 429, 29, 430, 84, 431, 88, 364, 432, 424, 425, 426, 366, 367, 368, 369, 370, 371, 372, 87, 373, 374, 94, 93, 375, 376, 377, 378, 393, 2, 394, 379, 380, 381, 382, 433, 434, 435, 436, 365, 89, 383, 384, 385, 386, 387, 211, 212, 213, 51, 69, 388, 389, 390, 391, 437, 438, 439, 440, 392, 395, 396, 397, 398, 399, 400, 822, 823, 824, 825, 826, 827, 828, 829, 830, 878, 879, 880, 881, 882, 883, 884, 885, 886, 887, 872, 873, 874, 875, 876, 877, 888, 889, 890, 898, 899, 900] (by decide +kernel) (by decide +kernel)
set_option maxRecDepth 20000 in
theorem gL_law_X8_last : GoodIn wsL_law (wsV RL 61 RX8 yX8_last wsX8_last) := goodIn_app (goodIn_of _ (by decide +kernel)) ggL_law_X8_last
set_option maxRecDepth 20000 in
theorem ggL_law_X9_last : GoodIn wsL_law wsX9_last := goodIn_r _ [452, 405, 406, 407, 289, 137, 119, 311, 312, 313, 5, 314, 135, 156, 157, 158, 408, 409, 410, 411, 117, 118, 412, 113, 413, 414, 415, 416, 417, 418, 831, 832, 833, 834, 835, 836, 837, 838, 839, 840, 841, 842, 843, 844, 845, 846, 847, 848, 849, 850, 851, 852, 853, 854, 855, 856, 857, 858, 859, 860, 861, 862, 863, 864, 865, 866, 867, 868, 869] (by decide +kernel) (by decide +kernel)
set_option maxRecDepth 20000 in
theorem gL_law_X9_last : GoodIn wsL_law (wsV RL 64 RX9 yX9_last wsX9_last) := goodIn_app (goodIn_of _ (by decide +kernel)) ggL_law_X9_last
set_option maxRecDepth 20000 in
theorem ggL_law_X8_sit : GoodIn wsL_law wsX8_sit := goodIn_r _ [456, 30, 21, 25, 319, 271, 427, 428, 429, 29, 430, 84, 431, 88, 364, 432, 424, 425, 19, 426, 58, 366, 367, 368, 369, 370, 371, 372, 87, 373, 374, 94, 93, 375, 376, 377, 378, 393, 2, 394, 379, 380, 381, 382, 433, 434, 435, 436, 365, 89, 383, 384, 385, 386, 387, 211, 212, 213, 51, 69, 70, 71, 72, 388, 389, 390, 391, 437, 438, 439, 440, 822, 823, 824, 825, 826, 827, 828, 829, 830, 878, 879, 880, 881, 882, 883, 884, 885, 886, 887, 872, 873, 874, 875, 876, 877, 888, 889, 890, 898, 899, 900] (by decide +kernel) (by decide +kernel)
set_option maxRecDepth 20000 in
theorem gL_law_X8_sit : GoodIn wsL_law (wsV RL 65 RX8 yX8_sit wsX8_sit) := goodIn_app (goodIn_of _ (by decide +kernel)) ggL_law_X8_sit
set_option maxRecDepth 20000 in
theorem ggL_law_X9_sit : GoodIn wsL_law wsX9_sit := goodIn_r _ [460, 406, 290, 135, 119, 156, 157, 5, 158, 408, 409, 410, 411, 117, 118, 412, 113, 831, 832, 833, 834, 835, 836, 837, 838, 839, 840, 841, 842, 843, 844, 845, 846, 847, 848, 849, 850, 851, 852, 853, 854, 855, 856, 857, 858, 859, 860, 861, 862, 863, 864, 865, 866, 867, 868, 869] (by decide +kernel) (by decide +kernel)
set_option maxRecDepth 20000 in
theorem gL_law_X9_sit : GoodIn wsL_law (wsV RL 68 RX9 yX9_sit wsX9_sit) := goodIn_app (goodIn_of _ (by decide +kernel)) ggL_law_X9_sit
set_option maxRecDepth 20000 in
theorem ggL_law_X8_end : GoodIn wsL_law wsX8_end := goodIn_r _ [464, 21, 357, 465, 466, 271, 467, 25, 319, 305, 70, 71, 19, 72, 58, 468, 469, 470, 2, 471, 392, 393, 394, 395, 396, 397, 398, 399, 400, 822, 823, 824, 825, 826, 827, 828, 829, 830, 872, 873, 874, 875, 876, 877, 878, 879, 880, 881, 882, 883, 884, 885, 886, 887] (by decide +kernel) (by decide +kernel)
set_option maxRecDepth 20000 in
theorem gL_law_X8_end : GoodIn wsL_law (wsV RL 69 RX8 yX8_end wsX8_end) := goodIn_app (goodIn_of _ (by decide +kernel)) ggL_law_X8_end
set_option maxRecDepth 20000 in
theorem ggL_law_X9_end : GoodIn wsL_law wsX9_end := goodIn_r _ [475, 405, 288, 135, 136, 476, 290, 311, 312, 313, 5, 314, 156, 157, 158, 477, 478, 479, 413, 414, 415, 416, 417, 418, 831, 832, 833, 834, 835, 836, 837, 838, 839, 840, 841, 842, 843, 844, 845, 846, 847, 848, 849, 850, 851, 852, 853, 854, 855, 856, 857, 858, 859, 860, 861, 862, 863, 864, 865, 866, 867, 868, 869] (by decide +kernel) (by decide +kernel)
set_option maxRecDepth 20000 in
theorem gL_law_X9_end : GoodIn wsL_law (wsV RL 72 RX9 yX9_end wsX9_end) := goodIn_app (goodIn_of _ (by decide +kernel)) ggL_law_X9_end
set_option maxRecDepth 20000 in
theorem ggL_law_X8_mean : GoodIn wsL_law wsX8_mean := goodIn_r _ [483, 21, 357, 34, 484, 485, 486, 305, 70, 71, 19, 72, 58, 487, 488, 489, 33, 490, 491, 492, 493, 494, 495, 496, 497, 498, 499, 500, 501, 502, 211, 212, 213, 51, 69, 503, 504, 505, 506, 507, 508, 509, 510, 511, 99, 512, 513, 514, 515, 516, 517, 518, 519, 520, 98, 521, 522, 523, 524, 525, 526, 527, 528, 529, 530, 531, 532, 395, 396, 2, 397, 398, 399, 400, 822, 823, 824, 825, 826, 827, 828, 829, 830, 891, 892, 893, 894, 895, 872, 873, 874, 875, 876, 877] (by decide +kernel) (by decide +kernel)
set_option maxRecDepth 20000 in
theorem gL_law_X8_mean : GoodIn wsL_law (wsV RL 73 RX8 yX8_mean wsX8_mean) := goodIn_app (goodIn_of _ (by decide +kernel)) ggL_law_X8_mean
set_option maxRecDepth 20000 in
theorem ggL_law_X9_mean : GoodIn wsL_law wsX9_mean := goodIn_r _ [536, 405, 537, 538, 539, 311, 312, 313, 5, 314, 135, 156, 157, 158, 540, 541, 542, 543, 120, 544, 545, 546, 547, 113, 548, 549, 550, 551, 121, 412, 552, 553, 554, 555, 556, 557, 558, 559, 560, 561, 562, 831, 832, 833, 834, 835, 836, 837, 838, 839, 840, 841, 842, 843, 844, 845, 846, 847, 848, 849, 850, 851, 852, 853, 854, 855, 856, 857, 858, 859, 860, 861, 862, 863, 864, 865, 866, 867, 868, 869] (by decide +kernel) (by decide +kernel)
set_option maxRecDepth 20000 in
theorem gL_law_X9_mean : GoodIn wsL_law (wsV RL 76 RX9 yX9_mean wsX9_mean) := goodIn_app (goodIn_of _ (by decide +kernel)) ggL_law_X9_mean
set_option maxRecDepth 20000 in
theorem ggL_law_X8_round : GoodIn wsL_law wsX8_round := goodIn_r _ [566, 21, 357, 34, 484, 485, 486, 305, 70, 71, 19, 72, 58, 487, 488, 489, 33, 490, 491, 492, 493, 494, 495, 496, 497, 498, 499, 500, 501, 502, 211, 212, 213, 51, 69, 503, 504, 505, 506, 507, 508, 509, 510, 511, 99, 512, 513, 514, 515, 516, 517, 518, 519, 520, 98, 521, 522, 523, 524, 525, 526, 527, 528, 529, 530, 531, 532, 395, 396, 2, 397, 398, 399, 400, 822, 823, 824, 825, 826, 827, 828, 829, 830, 891, 892, 893, 894, 895, 872, 873, 874, 875, 876, 877] (by decide +kernel) (by decide +kernel)
set_option maxRecDepth 20000 in
theorem gL_law_X8_round : GoodIn wsL_law (wsV RL 77 RX8 yX8_round wsX8_round) := goodIn_app (goodIn_of _ (by decide +kernel)) ggL_law_X8_round
set_option maxRecDepth 20000 in
theorem ggL_law_X9_round : GoodIn wsL_law wsX9_round := goodIn_r _ [570, 405, 537, 538, 539, 311, 312, 313, 5, 314, 135, 156, 157, 158, 540, 541, 542, 543, 120, 544, 545, 546, 547, 113, 548, 549, 550, 551, 121, 412, 552, 553, 554, 555, 556, 557, 558, 559, 560, 561, 562, 416, 417, 418, 831, 832, 833, 834, 835, 836, 837, 838, 839, 840, 841, 842, 843, 844, 845, 846, 847, 848, 849, 850, 851, 852, 853, 854, 855, 856, 857, 858, 859, 860, 861, 862, 863, 864, 865, 866, 867, 868, 869] (by decide +kernel) (by decide +kernel)
set_option maxRecDepth 20000 in
theorem gL_law_X9_round : GoodIn wsL_law (wsV RL 80 RX9 yX9_round wsX9_round) := goodIn_app (goodIn_of _ (by decide +kernel)) ggL_law_X9_round
