/-! printed by program: the law's words hold those of X9_count -/
theorem goodIn_tdX9_count {big ws : List Cond} (n : Nat) (h1 : GoodIn big (ws.take n)) (h2 : GoodIn big (ws.drop n)) : GoodIn big ws := by
  have h := goodIn_app h1 h2
  rwa [List.take_append_drop] at h
set_option maxRecDepth 20000 in
theorem ggL_law_X9_count_0 : GoodIn wsL_law (wsX9_count.take 25) := goodIn_r _ [846, 258, 381, 387, 262, 263, 264, 5, 265, 185, 857, 858, 859, 860, 861, 862, 863, 864, 865, 866, 867, 868, 869, 870, 871] (by decide +kernel) (by decide +kernel)
set_option maxRecDepth 20000 in
theorem ggL_law_X9_count_1 : GoodIn wsL_law (wsX9_count.drop 25) := goodIn_r _ [872, 873, 874, 875, 876, 877, 878, 879, 880, 881, 882, 883, 884, 885, 886] (by decide +kernel) (by decide +kernel)
theorem ggL_law_X9_count : GoodIn wsL_law wsX9_count := goodIn_tdX9_count 25 ggL_law_X9_count_0 (ggL_law_X9_count_1)
set_option maxRecDepth 20000 in
theorem gL_law_X9_count : GoodIn wsL_law (wsV RL 89 RX9 yX9_count wsX9_count) := goodIn_app (goodIn_of _ (by decide +kernel)) ggL_law_X9_count
