/-! printed by program: the law's words hold those of X8_fault -/
set_option maxRecDepth 20000 in
theorem ggL_law_X8_fault : GoodIn wsL_law wsX8_fault := goodIn_r _ [488, 28, 489, 490, 491, 20, 492, 358, 125, 493, 494, 495, 496, 353, 359, 360, 361, 362, 468, 423, 424, 425, 124, 497, 465, 466, 467, 498, 499, 500, 501, 105, 2, 106, 847, 848, 849, 850, 851, 852, 853, 854, 855, 856, 891, 892, 893, 894, 895] (by decide +kernel) (by decide +kernel)
set_option maxRecDepth 20000 in
theorem gL_law_X8_fault : GoodIn wsL_law (wsV RL 61 RX8 yX8_fault wsX8_fault) := goodIn_app (goodIn_of _ (by decide +kernel)) ggL_law_X8_fault
