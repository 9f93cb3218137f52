/-! printed by program: the law's words hold those of X9_joins -/
theorem goodIn_tdX9_joins {big ws : List Cond} (n : Nat) (h1 : GoodIn big (ws.take n)) (h2 : GoodIn big (ws.drop n)) : GoodIn big ws := by
  have h := goodIn_app h1 h2
  rwa [List.take_append_drop] at h
set_option maxRecDepth 20000 in
theorem ggL_law_X9_joins_0 : GoodIn wsL_law (wsX9_joins.take 25) := goodIn_r _ [745, 188, 189, 197, 190, 259, 260, 5, 261, 680, 681, 682, 683, 508, 509, 510, 511, 381, 506, 507, 473, 474, 475, 476, 187] (by decide +kernel) (by decide +kernel)
set_option maxRecDepth 20000 in
theorem ggL_law_X9_joins_1 : GoodIn wsL_law ((wsX9_joins.drop 25).take 25) := goodIn_r _ [223, 224, 225, 688, 689, 690, 691, 386, 692, 693, 694, 695, 696, 697, 698, 178, 194, 196, 186, 195, 699, 700, 701, 702, 703] (by decide +kernel) (by decide +kernel)
set_option maxRecDepth 20000 in
theorem ggL_law_X9_joins_2 : GoodIn wsL_law (((wsX9_joins.drop 25).drop 25).take 25) := goodIn_r _ [704, 705, 706, 179, 180, 184, 230, 231, 232, 233, 707, 708, 709, 710, 711, 712, 713, 714, 193, 192, 715, 716, 717, 718, 719] (by decide +kernel) (by decide +kernel)
set_option maxRecDepth 20000 in
theorem ggL_law_X9_joins_3 : GoodIn wsL_law ((((wsX9_joins.drop 25).drop 25).drop 25).take 25) := goodIn_r _ [720, 721, 722, 723, 724, 725, 726, 746, 747, 748, 749, 750, 751, 752, 753, 857, 858, 859, 860, 861, 862, 863, 864, 865, 866] (by decide +kernel) (by decide +kernel)
set_option maxRecDepth 20000 in
theorem ggL_law_X9_joins_4 : GoodIn wsL_law ((((wsX9_joins.drop 25).drop 25).drop 25).drop 25) := goodIn_r _ [867, 868, 869, 870, 871, 872, 873, 874, 875, 876, 877, 878, 879, 880, 881, 882, 883, 884, 885, 886] (by decide +kernel) (by decide +kernel)
theorem ggL_law_X9_joins : GoodIn wsL_law wsX9_joins := goodIn_tdX9_joins 25 ggL_law_X9_joins_0 (goodIn_tdX9_joins 25 ggL_law_X9_joins_1 (goodIn_tdX9_joins 25 ggL_law_X9_joins_2 (goodIn_tdX9_joins 25 ggL_law_X9_joins_3 (ggL_law_X9_joins_4))))
set_option maxRecDepth 20000 in
theorem gL_law_X9_joins : GoodIn wsL_law (wsV RL 72 RX9 yX9_joins wsX9_joins) := goodIn_app (goodIn_of _ (by decide +kernel)) ggL_law_X9_joins
