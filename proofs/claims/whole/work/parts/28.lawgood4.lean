set_option maxRecDepth 20000 in
theorem ggL_law_X9_sick : GoodIn wsL_law wsX9_sick := goodIn_r _ [577, 249, 417, 418, 419, 5, 420, 261, 311, 312, 313, 532, 533, 534, 535, 378, 381, 382, 383, 384, 899, 900, 901, 902, 903, 904, 905, 906, 907, 908, 909, 910, 911, 912, 913, 914, 915, 916, 917, 918, 919, 920, 921, 922, 923, 924, 925, 926, 927, 928, 929, 930, 931, 932, 933, 934, 935, 936] (by decide +kernel) (by decide +kernel)
set_option maxRecDepth 20000 in
theorem gL_law_X9_sick : GoodIn wsL_law (wsV RL 56 RX9 yX9_sick wsX9_sick) := goodIn_app (goodIn_of _ (by decide +kernel)) ggL_law_X9_sick
set_option maxRecDepth 20000 in
theorem ggL_law_X8_undo : GoodIn wsL_law wsX8_undo := goodIn_r _ [581, 28, 24, 364, 582, 583, 584, 27, 585, 506, 75, 515, 516, 517, 23, 518, 221, 222, 66, 519, 371, 372, 373, 67, 68, 889, 890, 891, 892, 893, 894, 895, 896, 897, 898, 956, 957, 950, 951, 952, 953, 954, 955] (by decide +kernel) (by decide +kernel)
set_option maxRecDepth 20000 in
theorem gL_law_X8_undo : GoodIn wsL_law (wsV RL 57 RX8 yX8_undo wsX8_undo) := goodIn_app (goodIn_of _ (by decide +kernel)) ggL_law_X8_undo
set_option maxRecDepth 20000 in
theorem ggL_law_X9_undo : GoodIn wsL_law wsX9_undo := goodIn_r _ [589, 378, 381, 382, 383, 5, 384, 249, 899, 900, 901, 902, 903, 904, 905, 906, 907, 908, 909, 910, 911, 912, 913, 914, 915, 916, 917, 918, 919, 920, 921, 922, 923, 924, 925, 926, 927, 928, 929, 930, 931, 932, 933, 934, 935, 936] (by decide +kernel) (by decide +kernel)
set_option maxRecDepth 20000 in
theorem gL_law_X9_undo : GoodIn wsL_law (wsV RL 60 RX9 yX9_undo wsX9_undo) := goodIn_app (goodIn_of _ (by decide +kernel)) ggL_law_X9_undo
set_option maxRecDepth 20000 in
theorem ggL_law_X8_behind : GoodIn wsL_law wsX8_behind := goodIn_r _ [593, 37, 19, 24, 391, 434, 303, 187, 2, 188, 392, 393, 394, 395, 363, 594, 595, 596, 36, 597, 90, 598, 516, 517, 23, 518, 221, 222, 66, 519, 371, 372, 373, 67, 68, 599, 521, 522, 523, 230, 69, 524, 232, 206, 207, 18, 208, 169, 525, 442, 443, 444, 445, 526, 447, 448, 449, 436, 437, 438, 439, 440, 489, 490, 491, 492, 405, 406, 407, 408, 409, 410, 411, 889, 890, 891, 892, 893, 894, 895, 896, 897, 898, 950, 951, 952, 953, 954, 955, 941, 942, 943, 944, 945, 946, 947, 948, 949, 962, 963, 964, 965, 966, 967, 968, 969] (by decide +kernel) (by decide +kernel)
set_option maxRecDepth 20000 in
theorem gL_law_X8_behind : GoodIn wsL_law (wsV RL 61 RX8 yX8_behind wsX8_behind) := goodIn_app (goodIn_of _ (by decide +kernel)) ggL_law_X8_behind
set_option maxRecDepth 20000 in
theorem ggL_law_X9_behind : GoodIn wsL_law wsX9_behind := goodIn_r _ [603, 604, 605, 261, 281, 282, 249, 311, 312, 5, 313, 381, 382, 383, 384, 536, 537, 538, 539, 540, 541, 542, 543, 255, 544, 239, 256, 240, 471, 472, 473, 463, 464, 465, 466, 237, 467, 468, 469, 470, 474, 475, 476, 477, 478, 479, 480, 481, 482, 483, 484, 425, 426, 427, 428, 241, 242, 899, 900, 901, 902, 903, 904, 905, 906, 907, 908, 909, 910, 911, 912, 913, 914, 915, 916, 917, 918, 919, 920, 921, 922, 923, 924, 925, 926, 927, 928, 929, 930, 931, 932, 933, 934, 935, 936] (by decide +kernel) (by decide +kernel)
set_option maxRecDepth 20000 in
theorem gL_law_X9_behind : GoodIn wsL_law (wsV RL 64 RX9 yX9_behind wsX9_behind) := goodIn_app (goodIn_of _ (by decide +kernel)) ggL_law_X9_behind
set_option maxRecDepth 20000 in
theorem ggL_law_X8_gone : GoodIn wsL_law wsX8_gone := goodIn_r _ [609, 37, 19, 24, 610, 611, 303, 187, 2, 188, 612, 613, 614, 36, 615, 90, 616, 617, 618, 619, 598, 516, 517, 23, 518, 221, 222, 66, 519, 371, 372, 373, 67, 68, 599, 521, 522, 523, 230, 69, 524, 232, 206, 207, 18, 208, 169, 525, 442, 443, 444, 445, 526, 447, 448, 449, 889, 890, 891, 892, 893, 894, 895, 896, 897, 898, 962, 963, 964, 965, 966, 967, 968, 969, 941, 942, 943, 944, 945, 946, 947, 948, 949, 950, 951, 952, 953, 954, 955] (by decide +kernel) (by decide +kernel)
set_option maxRecDepth 20000 in
theorem gL_law_X8_gone : GoodIn wsL_law (wsV RL 65 RX8 yX8_gone wsX8_gone) := goodIn_app (goodIn_of _ (by decide +kernel)) ggL_law_X8_gone
set_option maxRecDepth 20000 in
theorem ggL_law_X9_gone : GoodIn wsL_law wsX9_gone := goodIn_r _ [623, 261, 249, 311, 312, 5, 313, 381, 382, 383, 384, 540, 541, 542, 543, 281, 255, 544, 239, 256, 240, 471, 472, 473, 463, 464, 465, 466, 237, 467, 468, 469, 470, 474, 475, 476, 477, 478, 479, 480, 481, 482, 483, 484, 899, 900, 901, 902, 903, 904, 905, 906, 907, 908, 909, 910, 911, 912, 913, 914, 915, 916, 917, 918, 919, 920, 921, 922, 923, 924, 925, 926, 927, 928, 929, 930, 931, 932, 933, 934, 935, 936] (by decide +kernel) (by decide +kernel)
set_option maxRecDepth 20000 in
theorem gL_law_X9_gone : GoodIn wsL_law (wsV RL 68 RX9 yX9_gone wsX9_gone) := goodIn_app (goodIn_of _ (by decide +kernel)) ggL_law_X9_gone
