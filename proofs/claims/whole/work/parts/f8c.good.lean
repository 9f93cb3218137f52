/-! printed by program: the law's words hold those of what it calls: c -/
set_option maxRecDepth 20000 in
theorem ggL_law_X8_act : GoodIn wsL_law wsX8_act := goodIn_r _ [407, 28, 408, 409, 410, 20, 411, 353, 412, 413, 414, 415, 123, 416, 417, 418, 419, 420, 421, 422, 423, 424, 425, 124, 426, 427, 428, 429, 358, 363, 364, 365, 2, 366, 32, 36, 367, 368, 369, 31, 370, 371, 372, 373, 374, 35, 375, 173, 376, 360, 361, 362, 847, 848, 849, 850, 851, 852, 853, 854, 855, 856, 891, 892, 893, 894, 895, 897, 898, 899, 900, 901, 902, 903, 904, 905, 906, 907, 908, 909] (by decide +kernel) (by decide +kernel)
set_option maxRecDepth 20000 in
theorem gL_law_X8_act : GoodIn wsL_law (wsV RL 44 RX8 yX8_act wsX8_act) := goodIn_app (goodIn_of _ (by decide +kernel)) ggL_law_X8_act
set_option maxRecDepth 20000 in
theorem ggL_law_X9_act : GoodIn wsL_law wsX9_act := goodIn_r _ [433, 186, 187, 259, 260, 5, 261, 434, 435, 436, 437, 381, 438, 439, 440, 441, 382, 383, 384, 385, 386, 387, 191, 857, 858, 859, 860, 861, 862, 863, 864, 865, 866, 867, 868, 869, 870, 871, 872, 873, 874, 875, 876, 877, 878, 879, 880, 881, 882, 883, 884, 885, 886] (by decide +kernel) (by decide +kernel)
set_option maxRecDepth 20000 in
theorem gL_law_X9_act : GoodIn wsL_law (wsV RL 47 RX9 yX9_act wsX9_act) := goodIn_app (goodIn_of _ (by decide +kernel)) ggL_law_X9_act
set_option maxRecDepth 20000 in
theorem ggL_law_X8_space : GoodIn wsL_law wsX8_space := goodIn_r _ [445, 28, 446, 447, 2, 448, 449, 450, 451, 20, 452, 453, 355, 356, 357, 353, 358, 124, 359, 360, 361, 362, 454, 393, 394, 395, 123, 105, 106, 455, 427, 428, 429, 416, 409, 410, 411, 363, 364, 365, 366, 32, 36, 367, 368, 369, 31, 370, 371, 372, 373, 374, 35, 375, 173, 376, 349, 350, 351, 352, 847, 848, 849, 850, 851, 852, 853, 854, 855, 856, 891, 892, 893, 894, 895, 897, 898, 899, 900, 901, 902, 903, 904, 905, 906, 907, 908, 909] (by decide +kernel) (by decide +kernel)
set_option maxRecDepth 20000 in
theorem gL_law_X8_space : GoodIn wsL_law (wsV RL 48 RX8 yX8_space wsX8_space) := goodIn_app (goodIn_of _ (by decide +kernel)) ggL_law_X8_space
set_option maxRecDepth 20000 in
theorem ggL_law_X9_space : GoodIn wsL_law wsX9_space := goodIn_r _ [459, 381, 187, 259, 260, 5, 261, 400, 401, 402, 403, 186, 223, 224, 225, 382, 383, 384, 385, 386, 387, 191, 857, 858, 859, 860, 861, 862, 863, 864, 865, 866, 867, 868, 869, 870, 871, 872, 873, 874, 875, 876, 877, 878, 879, 880, 881, 882, 883, 884, 885, 886] (by decide +kernel) (by decide +kernel)
set_option maxRecDepth 20000 in
theorem gL_law_X9_space : GoodIn wsL_law (wsV RL 51 RX9 yX9_space wsX9_space) := goodIn_app (goodIn_of _ (by decide +kernel)) ggL_law_X9_space
set_option maxRecDepth 20000 in
theorem ggL_law_X8_does : GoodIn wsL_law wsX8_does := goodIn_r _ [463, 28, 39, 38, 282, 65, 66, 67, 408, 409, 410, 20, 411, 353, 464, 465, 466, 467, 468, 423, 424, 425, 124, 847, 848, 849, 850, 851, 852, 853, 854, 855, 856, 891, 892, 893, 894, 895] (by decide +kernel) (by decide +kernel)
set_option maxRecDepth 20000 in
theorem gL_law_X8_does : GoodIn wsL_law (wsV RL 52 RX8 yX8_does wsX8_does) := goodIn_app (goodIn_of _ (by decide +kernel)) ggL_law_X8_does
set_option maxRecDepth 20000 in
theorem ggL_law_X9_does : GoodIn wsL_law wsX9_does := goodIn_r _ [472, 258, 185, 434, 435, 436, 5, 437, 381, 259, 260, 261, 473, 474, 475, 476, 187, 857, 858, 859, 860, 861, 862, 863, 864, 865, 866, 867, 868, 869, 870, 871, 872, 873, 874, 875, 876, 877, 878, 879, 880, 881, 882, 883, 884, 885, 886] (by decide +kernel) (by decide +kernel)
set_option maxRecDepth 20000 in
theorem gL_law_X9_does : GoodIn wsL_law (wsV RL 55 RX9 yX9_does wsX9_does) := goodIn_app (goodIn_of _ (by decide +kernel)) ggL_law_X9_does
set_option maxRecDepth 20000 in
theorem ggL_law_X8_about : GoodIn wsL_law wsX8_about := goodIn_r _ [480, 28, 408, 409, 410, 20, 411, 353, 412, 413, 414, 415, 123, 416, 422, 423, 424, 425, 124, 847, 848, 849, 850, 851, 852, 853, 854, 855, 856, 891, 892, 893, 894, 895] (by decide +kernel) (by decide +kernel)
set_option maxRecDepth 20000 in
theorem gL_law_X8_about : GoodIn wsL_law (wsV RL 56 RX8 yX8_about wsX8_about) := goodIn_app (goodIn_of _ (by decide +kernel)) ggL_law_X8_about
set_option maxRecDepth 20000 in
theorem ggL_law_X9_about : GoodIn wsL_law wsX9_about := goodIn_r _ [484, 186, 187, 434, 435, 436, 5, 437, 381, 259, 260, 261, 857, 858, 859, 860, 861, 862, 863, 864, 865, 866, 867, 868, 869, 870, 871, 872, 873, 874, 875, 876, 877, 878, 879, 880, 881, 882, 883, 884, 885, 886] (by decide +kernel) (by decide +kernel)
set_option maxRecDepth 20000 in
theorem gL_law_X9_about : GoodIn wsL_law (wsV RL 60 RX9 yX9_about wsX9_about) := goodIn_app (goodIn_of _ (by decide +kernel)) ggL_law_X9_about
