/-! printed by program: the law's words hold those of X9_differ -/
theorem goodIn_tdX9_differ {big ws : List Cond} (n : Nat) (h1 : GoodIn big (ws.take n)) (h2 : GoodIn big (ws.drop n)) : GoodIn big ws := by
  have h := goodIn_app h1 h2
  rwa [List.take_append_drop] at h
set_option maxRecDepth 20000 in
theorem ggL_law_X9_differ_0 : GoodIn wsL_law (wsX9_differ.take 25) := goodIn_r _ [814, 191, 387, 259, 260, 5, 261, 677, 678, 679, 680, 681, 682, 683, 508, 509, 510, 511, 381, 506, 507, 473, 474, 475, 476] (by decide +kernel) (by decide +kernel)
set_option maxRecDepth 20000 in
theorem ggL_law_X9_differ_1 : GoodIn wsL_law ((wsX9_differ.drop 25).take 25) := goodIn_r _ [187, 223, 224, 225, 815, 816, 817, 818, 819, 820, 821, 822, 823, 824, 825, 826, 684, 685, 686, 687, 188, 189, 688, 689, 690] (by decide +kernel) (by decide +kernel)
set_option maxRecDepth 20000 in
theorem ggL_law_X9_differ_2 : GoodIn wsL_law (((wsX9_differ.drop 25).drop 25).take 25) := goodIn_r _ [691, 386, 692, 693, 694, 695, 696, 697, 698, 178, 194, 196, 186, 195, 190, 699, 700, 701, 702, 703, 704, 705, 706, 179, 180] (by decide +kernel) (by decide +kernel)
set_option maxRecDepth 20000 in
theorem ggL_law_X9_differ_3 : GoodIn wsL_law ((((wsX9_differ.drop 25).drop 25).drop 25).take 25) := goodIn_r _ [184, 230, 231, 232, 233, 707, 708, 709, 710, 711, 712, 713, 714, 193, 192, 715, 716, 717, 718, 719, 720, 721, 722, 723, 724] (by decide +kernel) (by decide +kernel)
set_option maxRecDepth 20000 in
theorem ggL_law_X9_differ_4 : GoodIn wsL_law (((((wsX9_differ.drop 25).drop 25).drop 25).drop 25).take 25) := goodIn_r _ [725, 726, 857, 858, 859, 860, 861, 862, 863, 864, 865, 866, 867, 868, 869, 870, 871, 872, 873, 874, 875, 876, 877, 878, 879] (by decide +kernel) (by decide +kernel)
set_option maxRecDepth 20000 in
theorem ggL_law_X9_differ_5 : GoodIn wsL_law (((((wsX9_differ.drop 25).drop 25).drop 25).drop 25).drop 25) := goodIn_r _ [880, 881, 882, 883, 884, 885, 886] (by decide +kernel) (by decide +kernel)
theorem ggL_law_X9_differ : GoodIn wsL_law wsX9_differ := goodIn_tdX9_differ 25 ggL_law_X9_differ_0 (goodIn_tdX9_differ 25 ggL_law_X9_differ_1 (goodIn_tdX9_differ 25 ggL_law_X9_differ_2 (goodIn_tdX9_differ 25 ggL_law_X9_differ_3 (goodIn_tdX9_differ 25 ggL_law_X9_differ_4 (ggL_law_X9_differ_5)))))
set_option maxRecDepth 20000 in
theorem gL_law_X9_differ : GoodIn wsL_law (wsV RL 81 RX9 yX9_differ wsX9_differ) := goodIn_app (goodIn_of _ (by decide +kernel)) ggL_law_X9_differ
