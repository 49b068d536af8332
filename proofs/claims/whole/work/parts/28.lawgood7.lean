set_option maxRecDepth 20000 in
theorem ggL_law_X8_kinds : GoodIn wsL_law wsX8_kinds := goodIn_r _ [777, 41, 19, 24, 33, 392, 393, 394, 2, 395, 363, 303, 187, 188, 778, 779, 780, 40, 781, 99, 782, 97, 783, 367, 368, 18, 369, 168, 169, 170, 57, 370, 371, 372, 373, 58, 59, 60, 61, 62, 746, 516, 517, 23, 518, 221, 222, 66, 519, 67, 68, 747, 748, 749, 32, 750, 751, 752, 753, 754, 723, 81, 755, 756, 757, 758, 759, 521, 522, 523, 230, 69, 524, 232, 206, 207, 208, 525, 442, 443, 444, 445, 526, 447, 448, 449, 760, 761, 762, 763, 764, 79, 80, 889, 890, 891, 892, 893, 894, 895, 896, 897, 898, 941, 942, 943, 944, 945, 946, 947, 948, 949, 970, 971, 950, 951, 952, 953, 954, 955, 958, 959, 960, 961] (by decide +kernel) (by decide +kernel)
set_option maxRecDepth 20000 in
theorem gL_law_X8_kinds : GoodIn wsL_law (wsV RL 97 RX8 yX8_kinds wsX8_kinds) := goodIn_app (goodIn_of _ (by decide +kernel)) ggL_law_X8_kinds
set_option maxRecDepth 20000 in
theorem ggL_law_X9_kinds : GoodIn wsL_law wsX9_kinds := goodIn_r _ [787, 237, 417, 418, 419, 5, 420, 261, 311, 312, 313, 381, 382, 383, 384, 249, 770, 771, 772, 773, 380, 254, 252, 253, 540, 541, 542, 543, 281, 255, 544, 239, 256, 240, 471, 472, 473, 463, 464, 465, 466, 467, 468, 469, 470, 474, 475, 476, 477, 478, 479, 480, 481, 482, 483, 484, 899, 900, 901, 902, 903, 904, 905, 906, 907, 908, 909, 910, 911, 912, 913, 914, 915, 916, 917, 918, 919, 920, 921, 922, 923, 924, 925, 926, 927, 928, 929, 930, 931, 932, 933, 934, 935, 936] (by decide +kernel) (by decide +kernel)
set_option maxRecDepth 20000 in
theorem gL_law_X9_kinds : GoodIn wsL_law (wsV RL 100 RX9 yX9_kinds wsX9_kinds) := goodIn_app (goodIn_of _ (by decide +kernel)) ggL_law_X9_kinds
set_option maxRecDepth 20000 in
theorem ggL_law_X8_idle : GoodIn wsL_law wsX8_idle := goodIn_r _ [791, 45, 19, 24, 792, 793, 392, 393, 394, 2, 395, 363, 303, 187, 188, 794, 795, 796, 44, 797, 798, 799, 800, 104, 801, 802, 516, 517, 23, 518, 221, 222, 66, 519, 371, 372, 373, 67, 68, 803, 521, 522, 523, 230, 69, 524, 232, 206, 207, 18, 208, 169, 525, 442, 443, 444, 445, 526, 447, 448, 449, 804, 805, 806, 807, 808, 809, 889, 890, 891, 892, 893, 894, 895, 896, 897, 898, 972, 973, 974, 975, 976, 941, 942, 943, 944, 945, 946, 947, 948, 949, 950, 951, 952, 953, 954, 955] (by decide +kernel) (by decide +kernel)
set_option maxRecDepth 20000 in
theorem gL_law_X8_idle : GoodIn wsL_law (wsV RL 101 RX8 yX8_idle wsX8_idle) := goodIn_app (goodIn_of _ (by decide +kernel)) ggL_law_X8_idle
set_option maxRecDepth 20000 in
theorem ggL_law_X9_idle : GoodIn wsL_law wsX9_idle := goodIn_r _ [813, 728, 814, 261, 544, 249, 417, 418, 419, 5, 420, 311, 312, 313, 471, 472, 473, 381, 382, 383, 384, 540, 541, 542, 543, 281, 255, 239, 256, 240, 463, 464, 465, 466, 237, 467, 468, 469, 470, 474, 475, 476, 477, 478, 479, 480, 481, 482, 483, 484, 899, 900, 901, 902, 903, 904, 905, 906, 907, 908, 909, 910, 911, 912, 913, 914, 915, 916, 917, 918, 919, 920, 921, 922, 923, 924, 925, 926, 927, 928, 929, 930, 931, 932, 933, 934, 935, 936] (by decide +kernel) (by decide +kernel)
set_option maxRecDepth 20000 in
theorem gL_law_X9_idle : GoodIn wsL_law (wsV RL 105 RX9 yX9_idle wsX9_idle) := goodIn_app (goodIn_of _ (by decide +kernel)) ggL_law_X9_idle
set_option maxRecDepth 20000 in
theorem ggL_law_X8_year : GoodIn wsL_law wsX8_year := goodIn_r _ [818, 45, 19, 24, 819, 820, 303, 187, 2, 188, 821, 822, 823, 44, 824, 104, 825, 826, 800, 801, 827, 756, 757, 758, 802, 516, 517, 23, 518, 221, 222, 66, 519, 371, 372, 373, 67, 68, 828, 829, 830, 831, 832, 833, 834, 835, 836, 837, 838, 839, 571, 572, 573, 803, 521, 522, 523, 230, 69, 524, 232, 206, 207, 18, 208, 169, 525, 442, 443, 444, 445, 526, 447, 448, 449, 889, 890, 891, 892, 893, 894, 895, 896, 897, 898, 972, 973, 974, 975, 976, 941, 942, 943, 944, 945, 946, 947, 948, 949, 950, 951, 952, 953, 954, 955] (by decide +kernel) (by decide +kernel)
set_option maxRecDepth 20000 in
theorem gL_law_X8_year : GoodIn wsL_law (wsV RL 106 RX8 yX8_year wsX8_year) := goodIn_app (goodIn_of _ (by decide +kernel)) ggL_law_X8_year
set_option maxRecDepth 20000 in
theorem ggL_law_X9_year : GoodIn wsL_law wsX9_year := goodIn_r _ [843, 844, 604, 845, 846, 847, 605, 249, 261, 311, 312, 5, 313, 381, 382, 383, 384, 540, 541, 542, 543, 281, 255, 544, 239, 256, 240, 471, 472, 473, 463, 464, 465, 466, 237, 467, 468, 469, 470, 474, 475, 476, 477, 478, 479, 480, 481, 482, 483, 484, 899, 900, 901, 902, 903, 904, 905, 906, 907, 908, 909, 910, 911, 912, 913, 914, 915, 916, 917, 918, 919, 920, 921, 922, 923, 924, 925, 926, 927, 928, 929, 930, 931, 932, 933, 934, 935, 936] (by decide +kernel) (by decide +kernel)
set_option maxRecDepth 20000 in
theorem gL_law_X9_year : GoodIn wsL_law (wsV RL 109 RX9 yX9_year wsX9_year) := goodIn_app (goodIn_of _ (by decide +kernel)) ggL_law_X9_year
set_option maxRecDepth 20000 in
theorem ggL_law_X8_keep : GoodIn wsL_law wsX8_keep := goodIn_r _ [851, 29, 24, 364, 852, 508, 509, 27, 510, 506, 75, 502, 503, 504, 505, 507, 511, 512, 513, 514, 515, 516, 517, 23, 518, 221, 222, 66, 519, 371, 372, 373, 67, 68, 889, 890, 891, 892, 893, 894, 895, 896, 897, 898, 956, 957, 950, 951, 952, 953, 954, 955] (by decide +kernel) (by decide +kernel)
set_option maxRecDepth 20000 in
theorem gL_law_X8_keep : GoodIn wsL_law (wsV RL 110 RX8 yX8_keep wsX8_keep) := goodIn_app (goodIn_of _ (by decide +kernel)) ggL_law_X8_keep
