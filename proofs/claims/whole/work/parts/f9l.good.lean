/-! printed by program: the law's words hold those of X9_page -/
theorem goodIn_tdX9_page {big ws : List Cond} (n : Nat) (h1 : GoodIn big (ws.take n)) (h2 : GoodIn big (ws.drop n)) : GoodIn big ws := by
  have h := goodIn_app h1 h2
  rwa [List.take_append_drop] at h
set_option maxRecDepth 20000 in
theorem ggL_law_X9_page_0 : GoodIn wsL_law (wsX9_page.take 25) := goodIn_r _ [834, 259, 260, 5, 261, 677, 678, 679, 680, 681, 682, 683, 508, 509, 510, 511, 381, 506, 507, 473, 474, 475, 476, 187, 223] (by decide +kernel) (by decide +kernel)
set_option maxRecDepth 20000 in
theorem ggL_law_X9_page_1 : GoodIn wsL_law ((wsX9_page.drop 25).take 25) := goodIn_r _ [224, 225, 823, 824, 825, 826, 684, 685, 686, 687, 188, 189, 688, 689, 690, 691, 386, 692, 693, 694, 695, 696, 697, 698, 178] (by decide +kernel) (by decide +kernel)
set_option maxRecDepth 20000 in
theorem ggL_law_X9_page_2 : GoodIn wsL_law (((wsX9_page.drop 25).drop 25).take 25) := goodIn_r _ [194, 196, 186, 195, 190, 699, 700, 701, 702, 703, 704, 705, 706, 179, 180, 184, 230, 231, 232, 233, 707, 708, 709, 710, 711] (by decide +kernel) (by decide +kernel)
set_option maxRecDepth 20000 in
theorem ggL_law_X9_page_3 : GoodIn wsL_law ((((wsX9_page.drop 25).drop 25).drop 25).take 25) := goodIn_r _ [712, 713, 714, 193, 192, 715, 716, 717, 718, 719, 720, 721, 722, 723, 724, 725, 726, 819, 820, 821, 822, 815, 816, 817, 818] (by decide +kernel) (by decide +kernel)
set_option maxRecDepth 20000 in
theorem ggL_law_X9_page_4 : GoodIn wsL_law (((((wsX9_page.drop 25).drop 25).drop 25).drop 25).take 25) := goodIn_r _ [191, 857, 858, 859, 860, 861, 862, 863, 864, 865, 866, 867, 868, 869, 870, 871, 872, 873, 874, 875, 876, 877, 878, 879, 880] (by decide +kernel) (by decide +kernel)
set_option maxRecDepth 20000 in
theorem ggL_law_X9_page_5 : GoodIn wsL_law (((((wsX9_page.drop 25).drop 25).drop 25).drop 25).drop 25) := goodIn_r _ [881, 882, 883, 884, 885, 886] (by decide +kernel) (by decide +kernel)
theorem ggL_law_X9_page : GoodIn wsL_law wsX9_page := goodIn_tdX9_page 25 ggL_law_X9_page_0 (goodIn_tdX9_page 25 ggL_law_X9_page_1 (goodIn_tdX9_page 25 ggL_law_X9_page_2 (goodIn_tdX9_page 25 ggL_law_X9_page_3 (goodIn_tdX9_page 25 ggL_law_X9_page_4 (ggL_law_X9_page_5)))))
set_option maxRecDepth 20000 in
theorem gL_law_X9_page : GoodIn wsL_law (wsV RL 85 RX9 yX9_page wsX9_page) := goodIn_app (goodIn_of _ (by decide +kernel)) ggL_law_X9_page
