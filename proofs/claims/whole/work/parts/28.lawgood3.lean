set_option maxRecDepth 20000 in
theorem ggL_law_X8_tree : GoodIn wsL_law wsX8_tree := goodIn_r _ [488, 24, 19, 489, 490, 491, 2, 492, 405, 303, 187, 188, 406, 407, 408, 23, 409, 410, 230, 67, 411, 889, 890, 891, 892, 893, 894, 895, 896, 897, 898, 941, 942, 943, 944, 945, 946, 947, 948, 949, 950, 951, 952, 953, 954, 955] (by decide +kernel) (by decide +kernel)
set_option maxRecDepth 20000 in
theorem gL_law_X8_tree : GoodIn wsL_law (wsV RL 40 RX8 yX8_tree wsX8_tree) := goodIn_app (goodIn_of _ (by decide +kernel)) ggL_law_X8_tree
set_option maxRecDepth 20000 in
theorem ggL_law_X9_tree : GoodIn wsL_law wsX9_tree := goodIn_r _ [496, 282, 311, 312, 5, 313, 425, 426, 427, 428, 249, 241, 242, 239, 240, 899, 900, 901, 902, 903, 904, 905, 906, 907, 908, 909, 910, 911, 912, 913, 914, 915, 916, 917, 918, 919, 920, 921, 922, 923, 924, 925, 926, 927, 928, 929, 930, 931, 932, 933, 934, 935, 936] (by decide +kernel) (by decide +kernel)
set_option maxRecDepth 20000 in
theorem gL_law_X9_tree : GoodIn wsL_law (wsV RL 43 RX9 yX9_tree wsX9_tree) := goodIn_app (goodIn_of _ (by decide +kernel)) ggL_law_X9_tree
set_option maxRecDepth 20000 in
theorem ggL_law_X8_pass : GoodIn wsL_law wsX8_pass := goodIn_r _ [500, 28, 24, 19, 501, 303, 187, 2, 188, 502, 503, 504, 27, 505, 75, 506, 507, 508, 509, 510, 511, 512, 513, 514, 515, 516, 517, 23, 518, 221, 222, 66, 519, 371, 372, 373, 67, 68, 520, 521, 522, 523, 230, 69, 524, 232, 206, 207, 18, 208, 169, 525, 442, 443, 444, 445, 526, 447, 448, 449, 889, 890, 891, 892, 893, 894, 895, 896, 897, 898, 950, 951, 952, 953, 954, 955, 956, 957, 941, 942, 943, 944, 945, 946, 947, 948, 949] (by decide +kernel) (by decide +kernel)
set_option maxRecDepth 20000 in
theorem gL_law_X8_pass : GoodIn wsL_law (wsV RL 44 RX8 yX8_pass wsX8_pass) := goodIn_app (goodIn_of _ (by decide +kernel)) ggL_law_X8_pass
set_option maxRecDepth 20000 in
theorem ggL_law_X9_pass : GoodIn wsL_law wsX9_pass := goodIn_r _ [530, 531, 249, 311, 312, 5, 313, 532, 533, 534, 535, 378, 381, 382, 383, 384, 536, 537, 538, 539, 540, 541, 542, 543, 281, 255, 544, 239, 256, 240, 471, 472, 473, 463, 464, 465, 466, 237, 467, 468, 469, 470, 474, 475, 476, 477, 478, 479, 480, 481, 482, 483, 484, 899, 900, 901, 902, 903, 904, 905, 906, 907, 908, 909, 910, 911, 912, 913, 914, 915, 916, 917, 918, 919, 920, 921, 922, 923, 924, 925, 926, 927, 928, 929, 930, 931, 932, 933, 934, 935, 936] (by decide +kernel) (by decide +kernel)
set_option maxRecDepth 20000 in
theorem gL_law_X9_pass : GoodIn wsL_law (wsV RL 47 RX9 yX9_pass wsX9_pass) := goodIn_app (goodIn_of _ (by decide +kernel)) ggL_law_X9_pass
set_option maxRecDepth 20000 in
theorem ggL_law_X8_share : GoodIn wsL_law wsX8_share := goodIn_r _ [548, 19, 390, 24, 435, 28, 392, 393, 394, 2, 395, 363, 303, 187, 188, 436, 437, 438, 439, 440, 549, 550, 551, 18, 552, 60, 553, 554, 555, 23, 556, 230, 68, 232, 206, 207, 208, 169, 502, 503, 504, 27, 505, 75, 506, 507, 508, 509, 510, 511, 512, 513, 514, 515, 516, 517, 518, 221, 222, 66, 519, 371, 372, 373, 67, 889, 890, 891, 892, 893, 894, 895, 896, 897, 898, 941, 942, 943, 944, 945, 946, 947, 948, 949, 950, 951, 952, 953, 954, 955, 956, 957] (by decide +kernel) (by decide +kernel)
set_option maxRecDepth 20000 in
theorem gL_law_X8_share : GoodIn wsL_law (wsV RL 48 RX8 yX8_share wsX8_share) := goodIn_app (goodIn_of _ (by decide +kernel)) ggL_law_X8_share
set_option maxRecDepth 20000 in
theorem ggL_law_X9_share : GoodIn wsL_law wsX9_share := goodIn_r _ [560, 561, 238, 417, 418, 419, 5, 420, 261, 311, 312, 313, 459, 460, 461, 462, 281, 291, 292, 293, 294, 239, 240, 562, 563, 564, 565, 467, 468, 469, 470, 249, 532, 533, 534, 535, 378, 381, 382, 383, 384, 295, 296, 297, 298, 899, 900, 901, 902, 903, 904, 905, 906, 907, 908, 909, 910, 911, 912, 913, 914, 915, 916, 917, 918, 919, 920, 921, 922, 923, 924, 925, 926, 927, 928, 929, 930, 931, 932, 933, 934, 935, 936] (by decide +kernel) (by decide +kernel)
set_option maxRecDepth 20000 in
theorem gL_law_X9_share : GoodIn wsL_law (wsV RL 52 RX9 yX9_share wsX9_share) := goodIn_app (goodIn_of _ (by decide +kernel)) ggL_law_X9_share
set_option maxRecDepth 20000 in
theorem ggL_law_X8_sick : GoodIn wsL_law wsX8_sick := goodIn_r _ [569, 28, 24, 392, 393, 394, 2, 395, 19, 363, 303, 187, 188, 502, 503, 504, 27, 505, 75, 506, 507, 508, 509, 510, 511, 512, 513, 514, 515, 516, 517, 23, 518, 221, 222, 66, 519, 371, 372, 373, 67, 68, 570, 571, 572, 573, 396, 397, 398, 399, 889, 890, 891, 892, 893, 894, 895, 896, 897, 898, 941, 942, 943, 944, 945, 946, 947, 948, 949, 956, 957, 950, 951, 952, 953, 954, 955] (by decide +kernel) (by decide +kernel)
set_option maxRecDepth 20000 in
theorem gL_law_X8_sick : GoodIn wsL_law (wsV RL 53 RX8 yX8_sick wsX8_sick) := goodIn_app (goodIn_of _ (by decide +kernel)) ggL_law_X8_sick
