/-! printed by program: the law's words hold those of X8_count -/
set_option maxRecDepth 20000 in
theorem ggL_law_X8_count : GoodIn wsL_law wsX8_count := goodIn_r _ [838, 39, 40, 28, 36, 349, 350, 351, 20, 352, 353, 839, 840, 841, 35, 842, 794, 795, 796, 797, 793, 69, 66, 70, 173, 847, 848, 849, 850, 851, 852, 853, 854, 855, 856, 891, 892, 893, 894, 895, 909] (by decide +kernel) (by decide +kernel)
set_option maxRecDepth 20000 in
theorem gL_law_X8_count : GoodIn wsL_law (wsV RL 86 RX8 yX8_count wsX8_count) := goodIn_app (goodIn_of _ (by decide +kernel)) ggL_law_X8_count
