set_option maxRecDepth 20000 in
theorem ggL_law_X9_all : GoodIn wsL_law wsX9_all := goodIn_r _ [710, 261, 260, 238, 417, 418, 419, 5, 420, 311, 312, 313, 711, 712, 713, 714, 249, 381, 382, 383, 384, 283, 284, 285, 286, 281, 287, 288, 289, 290, 291, 292, 293, 294, 239, 240, 295, 296, 297, 298, 536, 537, 538, 539, 540, 541, 542, 543, 255, 544, 256, 471, 472, 473, 463, 464, 465, 466, 237, 467, 468, 469, 470, 474, 475, 476, 477, 478, 479, 480, 481, 482, 483, 484, 899, 900, 901, 902, 903, 904, 905, 906, 907, 908, 909, 910, 911, 912, 913, 914, 915, 916, 917, 918, 919, 920, 921, 922, 923, 924, 925, 926, 927, 928, 929, 930, 931, 932, 933, 934, 935, 936] (by decide +kernel) (by decide +kernel)
set_option maxRecDepth 20000 in
theorem gL_law_X9_all : GoodIn wsL_law (wsV RL 84 RX9 yX9_all wsX9_all) := goodIn_app (goodIn_of _ (by decide +kernel)) ggL_law_X9_all
set_option maxRecDepth 20000 in
theorem ggL_law_X8_see : GoodIn wsL_law wsX8_see := goodIn_r _ [718, 33, 365, 436, 437, 438, 2, 439, 19, 440, 303, 187, 188, 719, 720, 721, 32, 722, 723, 79, 80, 81, 889, 890, 891, 892, 893, 894, 895, 896, 897, 898, 958, 959, 960, 961, 941, 942, 943, 944, 945, 946, 947, 948, 949] (by decide +kernel) (by decide +kernel)
set_option maxRecDepth 20000 in
theorem gL_law_X8_see : GoodIn wsL_law (wsV RL 85 RX8 yX8_see wsX8_see) := goodIn_app (goodIn_of _ (by decide +kernel)) ggL_law_X8_see
set_option maxRecDepth 20000 in
theorem ggL_law_X9_see : GoodIn wsL_law wsX9_see := goodIn_r _ [727, 728, 531, 380, 252, 253, 254, 459, 460, 461, 5, 462, 281, 311, 312, 313, 899, 900, 901, 902, 903, 904, 905, 906, 907, 908, 909, 910, 911, 912, 913, 914, 915, 916, 917, 918, 919, 920, 921, 922, 923, 924, 925, 926, 927, 928, 929, 930, 931, 932, 933, 934, 935, 936] (by decide +kernel) (by decide +kernel)
set_option maxRecDepth 20000 in
theorem gL_law_X9_see : GoodIn wsL_law (wsV RL 88 RX9 yX9_see wsX9_see) := goodIn_app (goodIn_of _ (by decide +kernel)) ggL_law_X9_see
set_option maxRecDepth 20000 in
theorem ggL_law_X8_forget : GoodIn wsL_law wsX8_forget := goodIn_r _ [732, 33, 365, 889, 890, 891, 892, 893, 894, 895, 896, 897, 898, 958, 959, 960, 961] (by decide +kernel) (by decide +kernel)
set_option maxRecDepth 20000 in
theorem gL_law_X8_forget : GoodIn wsL_law (wsV RL 89 RX8 yX8_forget wsX8_forget) := goodIn_app (goodIn_of _ (by decide +kernel)) ggL_law_X8_forget
set_option maxRecDepth 20000 in
theorem ggL_law_X9_forget : GoodIn wsL_law wsX9_forget := goodIn_r _ [736, 380, 899, 900, 901, 902, 903, 904, 905, 906, 907, 908, 909, 910, 911, 912, 913, 914, 915, 916, 917, 918, 919, 920, 921, 922, 923, 924, 925, 926, 927, 928, 929, 930, 931, 932, 933, 934, 935, 936] (by decide +kernel) (by decide +kernel)
set_option maxRecDepth 20000 in
theorem gL_law_X9_forget : GoodIn wsL_law (wsV RL 92 RX9 yX9_forget wsX9_forget) := goodIn_app (goodIn_of _ (by decide +kernel)) ggL_law_X9_forget
set_option maxRecDepth 20000 in
theorem ggL_law_X8_whoSick : GoodIn wsL_law wsX8_whoSick := goodIn_r _ [740, 41, 19, 24, 33, 741, 742, 743, 40, 744, 97, 745, 746, 516, 517, 23, 518, 221, 222, 66, 519, 371, 372, 373, 67, 68, 747, 748, 749, 32, 750, 751, 752, 753, 754, 723, 81, 755, 756, 757, 758, 759, 521, 522, 523, 230, 69, 524, 232, 206, 207, 18, 208, 169, 525, 442, 443, 444, 445, 526, 447, 448, 449, 760, 761, 762, 763, 764, 79, 80, 765, 571, 572, 573, 889, 890, 891, 892, 893, 894, 895, 896, 897, 898, 970, 971, 941, 942, 943, 944, 945, 946, 947, 948, 949, 950, 951, 952, 953, 954, 955, 958, 959, 960, 961] (by decide +kernel) (by decide +kernel)
set_option maxRecDepth 20000 in
theorem gL_law_X8_whoSick : GoodIn wsL_law (wsV RL 93 RX8 yX8_whoSick wsX8_whoSick) := goodIn_app (goodIn_of _ (by decide +kernel)) ggL_law_X8_whoSick
set_option maxRecDepth 20000 in
theorem ggL_law_X9_whoSick : GoodIn wsL_law wsX9_whoSick := goodIn_r _ [769, 261, 249, 381, 382, 383, 5, 384, 770, 771, 772, 773, 380, 254, 252, 253, 540, 541, 542, 543, 281, 255, 544, 239, 256, 240, 471, 472, 473, 463, 464, 465, 466, 237, 467, 468, 469, 470, 474, 475, 476, 477, 478, 479, 480, 481, 482, 483, 484, 899, 900, 901, 902, 903, 904, 905, 906, 907, 908, 909, 910, 911, 912, 913, 914, 915, 916, 917, 918, 919, 920, 921, 922, 923, 924, 925, 926, 927, 928, 929, 930, 931, 932, 933, 934, 935, 936] (by decide +kernel) (by decide +kernel)
set_option maxRecDepth 20000 in
theorem gL_law_X9_whoSick : GoodIn wsL_law (wsV RL 96 RX9 yX9_whoSick wsX9_whoSick) := goodIn_app (goodIn_of _ (by decide +kernel)) ggL_law_X9_whoSick
