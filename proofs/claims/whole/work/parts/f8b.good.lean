/-! printed by program: the law's words hold those of what it calls: b -/
set_option maxRecDepth 20000 in
theorem ggL_law_X8_term : GoodIn wsL_law wsX8_term := goodIn_r _ [326, 22, 40, 21, 278, 279, 280, 2, 281, 39, 38, 282, 65, 66, 67, 23, 283, 112, 113, 17, 114, 55, 60, 61, 62, 14, 63, 46, 64, 68, 69, 70, 115, 77, 78, 79, 88, 89, 90, 91, 107, 108, 109, 110, 54, 284, 285, 286, 287, 27, 288, 289, 290, 26, 291, 130, 292, 293, 294, 295, 296, 297, 298, 97, 98, 99, 45, 299, 101, 102, 103, 75, 104, 300, 72, 73, 74, 76, 327, 328, 329, 330, 331, 847, 848, 849, 850, 851, 852, 853, 854, 855, 856, 889, 890, 887, 888, 896] (by decide +kernel) (by decide +kernel)
set_option maxRecDepth 20000 in
theorem gL_law_X8_term : GoodIn wsL_law (wsV RL 27 RX8 yX8_term wsX8_term) := goodIn_app (goodIn_of _ (by decide +kernel)) ggL_law_X8_term
set_option maxRecDepth 20000 in
theorem ggL_law_X9_term : GoodIn wsL_law wsX9_term := goodIn_r _ [335, 178, 181, 179, 180, 259, 260, 5, 261, 312, 313, 314, 315, 258, 185, 226, 227, 228, 229, 182, 230, 231, 232, 233, 316, 317, 318, 319, 183, 320, 321, 322, 262, 263, 264, 265, 857, 858, 859, 860, 861, 862, 863, 864, 865, 866, 867, 868, 869, 870, 871, 872, 873, 874, 875, 876, 877, 878, 879, 880, 881, 882, 883, 884, 885, 886] (by decide +kernel) (by decide +kernel)
set_option maxRecDepth 20000 in
theorem gL_law_X9_term : GoodIn wsL_law (wsV RL 31 RX9 yX9_term wsX9_term) := goodIn_app (goodIn_of _ (by decide +kernel)) ggL_law_X9_term
set_option maxRecDepth 20000 in
theorem ggL_law_X8_many : GoodIn wsL_law wsX8_many := goodIn_r _ [339, 21, 340, 77, 78, 14, 79, 46, 847, 848, 849, 850, 851, 852, 853, 854, 855, 856, 887, 888] (by decide +kernel) (by decide +kernel)
set_option maxRecDepth 20000 in
theorem gL_law_X8_many : GoodIn wsL_law (wsV RL 32 RX8 yX8_many wsX8_many) := goodIn_app (goodIn_of _ (by decide +kernel)) ggL_law_X8_many
set_option maxRecDepth 20000 in
theorem ggL_law_X9_many : GoodIn wsL_law wsX9_many := goodIn_r _ [344, 259, 260, 5, 261, 230, 231, 232, 233, 178, 857, 858, 859, 860, 861, 862, 863, 864, 865, 866, 867, 868, 869, 870, 871, 872, 873, 874, 875, 876, 877, 878, 879, 880, 881, 882, 883, 884, 885, 886] (by decide +kernel) (by decide +kernel)
set_option maxRecDepth 20000 in
theorem gL_law_X9_many : GoodIn wsL_law (wsV RL 35 RX9 yX9_many wsX9_many) := goodIn_app (goodIn_of _ (by decide +kernel)) ggL_law_X9_many
set_option maxRecDepth 20000 in
theorem ggL_law_X8_empty : GoodIn wsL_law wsX8_empty := goodIn_r _ [348, 28, 349, 350, 351, 20, 352, 353, 354, 355, 356, 357, 358, 124, 359, 360, 361, 362, 363, 364, 365, 2, 366, 32, 36, 367, 368, 369, 31, 370, 371, 372, 373, 374, 35, 375, 173, 376, 847, 848, 849, 850, 851, 852, 853, 854, 855, 856, 891, 892, 893, 894, 895, 897, 898, 899, 900, 901, 902, 903, 904, 905, 906, 907, 908, 909] (by decide +kernel) (by decide +kernel)
set_option maxRecDepth 20000 in
theorem gL_law_X8_empty : GoodIn wsL_law (wsV RL 36 RX8 yX8_empty wsX8_empty) := goodIn_app (goodIn_of _ (by decide +kernel)) ggL_law_X8_empty
set_option maxRecDepth 20000 in
theorem ggL_law_X9_empty : GoodIn wsL_law wsX9_empty := goodIn_r _ [380, 381, 382, 383, 384, 5, 385, 386, 387, 191, 857, 858, 859, 860, 861, 862, 863, 864, 865, 866, 867, 868, 869, 870, 871, 872, 873, 874, 875, 876, 877, 878, 879, 880, 881, 882, 883, 884, 885, 886] (by decide +kernel) (by decide +kernel)
set_option maxRecDepth 20000 in
theorem gL_law_X9_empty : GoodIn wsL_law (wsV RL 39 RX9 yX9_empty wsX9_empty) := goodIn_app (goodIn_of _ (by decide +kernel)) ggL_law_X9_empty
set_option maxRecDepth 20000 in
theorem ggL_law_X8_element : GoodIn wsL_law wsX8_element := goodIn_r _ [391, 28, 349, 350, 351, 20, 352, 353, 363, 364, 365, 2, 366, 32, 36, 367, 368, 369, 31, 370, 371, 372, 373, 374, 35, 375, 173, 376, 360, 361, 362, 392, 393, 394, 395, 123, 358, 847, 848, 849, 850, 851, 852, 853, 854, 855, 856, 891, 892, 893, 894, 895, 897, 898, 899, 900, 901, 902, 903, 904, 905, 906, 907, 908, 909] (by decide +kernel) (by decide +kernel)
set_option maxRecDepth 20000 in
theorem gL_law_X8_element : GoodIn wsL_law (wsV RL 40 RX8 yX8_element wsX8_element) := goodIn_app (goodIn_of _ (by decide +kernel)) ggL_law_X8_element
set_option maxRecDepth 20000 in
theorem ggL_law_X9_element : GoodIn wsL_law wsX9_element := goodIn_r _ [399, 381, 259, 260, 5, 261, 400, 401, 402, 403, 186, 187, 382, 383, 384, 385, 386, 387, 191, 857, 858, 859, 860, 861, 862, 863, 864, 865, 866, 867, 868, 869, 870, 871, 872, 873, 874, 875, 876, 877, 878, 879, 880, 881, 882, 883, 884, 885, 886] (by decide +kernel) (by decide +kernel)
set_option maxRecDepth 20000 in
theorem gL_law_X9_element : GoodIn wsL_law (wsV RL 43 RX9 yX9_element wsX9_element) := goodIn_app (goodIn_of _ (by decide +kernel)) ggL_law_X9_element
