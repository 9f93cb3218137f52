/-! printed by program: the law's words hold those of X8_count -/
theorem goodIn_tdX8_count {big ws : List Cond} (n : Nat) (h1 : GoodIn big (ws.take n)) (h2 : GoodIn big (ws.drop n)) : GoodIn big ws := by
  have h := goodIn_app h1 h2
  rwa [List.take_append_drop] at h
set_option maxRecDepth 20000 in
theorem ggL_law_X8_count_0 : GoodIn wsL_law (wsX8_count.take 25) := goodIn_r _ [838, 39, 40, 28, 36, 349, 350, 351, 20, 352, 353, 839, 840, 841, 35, 842, 794, 795, 796, 797, 793, 69, 66, 70, 173] (by decide +kernel) (by decide +kernel)
set_option maxRecDepth 20000 in
theorem ggL_law_X8_count_1 : GoodIn wsL_law (wsX8_count.drop 25) := goodIn_r _ [847, 848, 849, 850, 851, 852, 853, 854, 855, 856, 891, 892, 893, 894, 895, 909] (by decide +kernel) (by decide +kernel)
theorem ggL_law_X8_count : GoodIn wsL_law wsX8_count := goodIn_tdX8_count 25 ggL_law_X8_count_0 (ggL_law_X8_count_1)
set_option maxRecDepth 20000 in
theorem gL_law_X8_count : GoodIn wsL_law (wsV RL 86 RX8 yX8_count wsX8_count) := goodIn_app (goodIn_of _ (by decide +kernel)) ggL_law_X8_count
