set_option maxRecDepth 20000 in
theorem ggL_law_X9_fault : GoodIn wsL_law wsX9_fault := goodIn_r _ [329, 330, 331, 332, 333, 5, 334, 266, 271, 276, 249, 335, 336, 310, 337, 338, 339, 340, 251, 341, 342, 343, 344, 345, 346, 347, 348, 349, 350, 311, 312, 313, 351, 352, 353, 354, 262, 263, 264, 265, 243, 244, 355, 356, 357, 358, 245, 246, 267, 268, 269, 270, 272, 273, 274, 275, 247, 248, 899, 900, 901, 902, 903, 904, 905, 906, 907, 908, 909, 910, 911, 912, 913, 914, 915, 916, 917, 918, 919, 920, 921, 922, 923, 924, 925, 926, 927, 928, 929, 930, 931, 932, 933, 934, 935, 936] (by decide +kernel) (by decide +kernel)
set_option maxRecDepth 20000 in
theorem gL_law_X9_fault : GoodIn wsL_law (wsV RL 26 RX9 yX9_fault wsX9_fault) := goodIn_app (goodIn_of _ (by decide +kernel)) ggL_law_X9_fault
set_option maxRecDepth 20000 in
theorem ggL_law_X8_lay : GoodIn wsL_law wsX8_lay := goodIn_r _ [362, 15, 20, 363, 19, 24, 28, 364, 29, 33, 365, 159, 160, 161, 14, 162, 163, 158, 164, 165, 166, 18, 167, 168, 169, 170, 171, 172, 173, 174, 53, 175, 176, 177, 178, 51, 179, 180, 181, 182, 183, 184, 185, 186, 187, 2, 188, 189, 190, 191, 192, 57, 58, 59, 193, 194, 195, 196, 197, 198, 199, 200, 201, 202, 203, 204, 60, 205, 206, 207, 208, 209, 210, 211, 212, 213, 214, 215, 216, 61, 62, 366, 367, 368, 369, 370, 371, 372, 373, 217, 218, 219, 23, 220, 221, 222, 67, 68, 223, 66, 224, 225, 226, 227, 228, 229, 230, 231, 232, 889, 890, 891, 892, 893, 894, 895, 896, 897, 898, 941, 942, 943, 944, 945, 946, 947, 948, 949, 956, 957, 958, 959, 960, 961, 937, 938, 939, 940, 950, 951, 952, 953, 954, 955] (by decide +kernel) (by decide +kernel)
set_option maxRecDepth 20000 in
theorem gL_law_X8_lay : GoodIn wsL_law (wsV RL 27 RX8 yX8_lay wsX8_lay) := goodIn_app (goodIn_of _ (by decide +kernel)) ggL_law_X8_lay
set_option maxRecDepth 20000 in
theorem ggL_law_X9_lay : GoodIn wsL_law wsX9_lay := goodIn_r _ [377, 266, 261, 238, 378, 379, 380, 331, 332, 333, 5, 334, 271, 276, 249, 335, 336, 310, 330, 337, 338, 339, 340, 251, 341, 342, 343, 344, 345, 346, 347, 348, 349, 350, 311, 312, 313, 351, 352, 353, 354, 262, 263, 264, 265, 243, 244, 355, 356, 357, 358, 245, 246, 267, 268, 269, 270, 272, 273, 274, 275, 247, 248, 277, 278, 279, 280, 281, 282, 237, 241, 242, 239, 240, 381, 382, 383, 384, 283, 284, 285, 286, 287, 288, 289, 290, 291, 292, 293, 294, 295, 296, 297, 298, 899, 900, 901, 902, 903, 904, 905, 906, 907, 908, 909, 910, 911, 912, 913, 914, 915, 916, 917, 918, 919, 920, 921, 922, 923, 924, 925, 926, 927, 928, 929, 930, 931, 932, 933, 934, 935, 936] (by decide +kernel) (by decide +kernel)
set_option maxRecDepth 20000 in
theorem gL_law_X9_lay : GoodIn wsL_law (wsV RL 30 RX9 yX9_lay wsX9_lay) := goodIn_app (goodIn_of _ (by decide +kernel)) ggL_law_X9_lay
set_option maxRecDepth 20000 in
theorem ggL_law_X8_family : GoodIn wsL_law wsX8_family := goodIn_r _ [388, 19, 389, 390, 24, 391, 392, 393, 394, 2, 395, 363, 303, 187, 188, 396, 397, 398, 23, 399, 222, 400, 202, 203, 18, 204, 60, 205, 206, 207, 208, 169, 401, 402, 403, 404, 405, 406, 407, 408, 409, 410, 230, 67, 411, 889, 890, 891, 892, 893, 894, 895, 896, 897, 898, 941, 942, 943, 944, 945, 946, 947, 948, 949, 950, 951, 952, 953, 954, 955] (by decide +kernel) (by decide +kernel)
set_option maxRecDepth 20000 in
theorem gL_law_X8_family : GoodIn wsL_law (wsV RL 31 RX8 yX8_family wsX8_family) := goodIn_app (goodIn_of _ (by decide +kernel)) ggL_law_X8_family
set_option maxRecDepth 20000 in
theorem ggL_law_X9_family : GoodIn wsL_law wsX9_family := goodIn_r _ [415, 416, 237, 238, 249, 417, 418, 419, 5, 420, 261, 311, 312, 313, 287, 288, 289, 290, 281, 291, 292, 293, 294, 239, 240, 421, 422, 423, 424, 282, 425, 426, 427, 428, 241, 242, 899, 900, 901, 902, 903, 904, 905, 906, 907, 908, 909, 910, 911, 912, 913, 914, 915, 916, 917, 918, 919, 920, 921, 922, 923, 924, 925, 926, 927, 928, 929, 930, 931, 932, 933, 934, 935, 936] (by decide +kernel) (by decide +kernel)
set_option maxRecDepth 20000 in
theorem gL_law_X9_family : GoodIn wsL_law (wsV RL 35 RX9 yX9_family wsX9_family) := goodIn_app (goodIn_of _ (by decide +kernel)) ggL_law_X9_family
set_option maxRecDepth 20000 in
theorem ggL_law_X8_wall : GoodIn wsL_law wsX8_wall := goodIn_r _ [432, 19, 433, 24, 434, 435, 436, 437, 438, 2, 439, 440, 303, 187, 188, 441, 442, 443, 23, 444, 221, 230, 68, 222, 445, 66, 446, 447, 448, 449, 450, 451, 452, 453, 889, 890, 891, 892, 893, 894, 895, 896, 897, 898, 941, 942, 943, 944, 945, 946, 947, 948, 949, 950, 951, 952, 953, 954, 955] (by decide +kernel) (by decide +kernel)
set_option maxRecDepth 20000 in
theorem gL_law_X8_wall : GoodIn wsL_law (wsV RL 36 RX8 yX8_wall wsX8_wall) := goodIn_app (goodIn_of _ (by decide +kernel)) ggL_law_X8_wall
set_option maxRecDepth 20000 in
theorem ggL_law_X9_wall : GoodIn wsL_law wsX9_wall := goodIn_r _ [457, 458, 239, 240, 249, 459, 460, 461, 5, 462, 281, 311, 312, 313, 463, 464, 465, 466, 237, 467, 468, 469, 470, 471, 472, 473, 474, 475, 476, 477, 478, 479, 480, 481, 482, 483, 484, 899, 900, 901, 902, 903, 904, 905, 906, 907, 908, 909, 910, 911, 912, 913, 914, 915, 916, 917, 918, 919, 920, 921, 922, 923, 924, 925, 926, 927, 928, 929, 930, 931, 932, 933, 934, 935, 936] (by decide +kernel) (by decide +kernel)
set_option maxRecDepth 20000 in
theorem gL_law_X9_wall : GoodIn wsL_law (wsV RL 39 RX9 yX9_wall wsX9_wall) := goodIn_app (goodIn_of _ (by decide +kernel)) ggL_law_X9_wall
