/-! printed by program: the law's words hold those of X9_balance -/
theorem goodIn_tdX9_balance {big ws : List Cond} (n : Nat) (h1 : GoodIn big (ws.take n)) (h2 : GoodIn big (ws.drop n)) : GoodIn big ws := by
  have h := goodIn_app h1 h2
  rwa [List.take_append_drop] at h
set_option maxRecDepth 20000 in
theorem ggL_law_X9_balance_0 : GoodIn wsL_law (wsX9_balance.take 25) := goodIn_r _ [767, 768, 769, 259, 260, 5, 261, 680, 681, 682, 683, 508, 509, 510, 511, 381, 506, 507, 473, 474, 475, 476, 187, 223, 224] (by decide +kernel) (by decide +kernel)
set_option maxRecDepth 20000 in
theorem ggL_law_X9_balance_1 : GoodIn wsL_law ((wsX9_balance.drop 25).take 25) := goodIn_r _ [225, 688, 689, 690, 691, 386, 188, 692, 693, 694, 695, 696, 697, 698, 189, 178, 194, 196, 186, 195, 190, 699, 700, 701, 702] (by decide +kernel) (by decide +kernel)
set_option maxRecDepth 20000 in
theorem ggL_law_X9_balance_2 : GoodIn wsL_law (((wsX9_balance.drop 25).drop 25).take 25) := goodIn_r _ [703, 704, 705, 706, 179, 180, 184, 230, 231, 232, 233, 707, 708, 709, 710, 711, 712, 713, 714, 193, 192, 715, 716, 717, 718] (by decide +kernel) (by decide +kernel)
set_option maxRecDepth 20000 in
theorem ggL_law_X9_balance_3 : GoodIn wsL_law ((((wsX9_balance.drop 25).drop 25).drop 25).take 25) := goodIn_r _ [719, 720, 721, 722, 723, 724, 725, 726, 438, 439, 440, 441, 320, 321, 322, 770, 771, 772, 773, 746, 747, 748, 749, 857, 858] (by decide +kernel) (by decide +kernel)
set_option maxRecDepth 20000 in
theorem ggL_law_X9_balance_4 : GoodIn wsL_law (((((wsX9_balance.drop 25).drop 25).drop 25).drop 25).take 25) := goodIn_r _ [859, 860, 861, 862, 863, 864, 865, 866, 867, 868, 869, 870, 871, 872, 873, 874, 875, 876, 877, 878, 879, 880, 881, 882, 883] (by decide +kernel) (by decide +kernel)
set_option maxRecDepth 20000 in
theorem ggL_law_X9_balance_5 : GoodIn wsL_law (((((wsX9_balance.drop 25).drop 25).drop 25).drop 25).drop 25) := goodIn_r _ [884, 885, 886] (by decide +kernel) (by decide +kernel)
theorem ggL_law_X9_balance : GoodIn wsL_law wsX9_balance := goodIn_tdX9_balance 25 ggL_law_X9_balance_0 (goodIn_tdX9_balance 25 ggL_law_X9_balance_1 (goodIn_tdX9_balance 25 ggL_law_X9_balance_2 (goodIn_tdX9_balance 25 ggL_law_X9_balance_3 (goodIn_tdX9_balance 25 ggL_law_X9_balance_4 (ggL_law_X9_balance_5)))))
set_option maxRecDepth 20000 in
theorem gL_law_X9_balance : GoodIn wsL_law (wsV RL 76 RX9 yX9_balance wsX9_balance) := goodIn_app (goodIn_of _ (by decide +kernel)) ggL_law_X9_balance
