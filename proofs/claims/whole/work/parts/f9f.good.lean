/-! printed by program: the law's words hold those of X9_joins -/
set_option maxRecDepth 20000 in
theorem ggL_law_X9_joins : GoodIn wsL_law wsX9_joins := goodIn_r _ [745, 188, 189, 197, 190, 259, 260, 5, 261, 680, 681, 682, 683, 508, 509, 510, 511, 381, 506, 507, 473, 474, 475, 476, 187, 223, 224, 225, 688, 689, 690, 691, 386, 692, 693, 694, 695, 696, 697, 698, 178, 194, 196, 186, 195, 699, 700, 701, 702, 703, 704, 705, 706, 179, 180, 184, 230, 231, 232, 233, 707, 708, 709, 710, 711, 712, 713, 714, 193, 192, 715, 716, 717, 718, 719, 720, 721, 722, 723, 724, 725, 726, 746, 747, 748, 749, 750, 751, 752, 753, 857, 858, 859, 860, 861, 862, 863, 864, 865, 866, 867, 868, 869, 870, 871, 872, 873, 874, 875, 876, 877, 878, 879, 880, 881, 882, 883, 884, 885, 886] (by decide +kernel) (by decide +kernel)
set_option maxRecDepth 20000 in
theorem gL_law_X9_joins : GoodIn wsL_law (wsV RL 72 RX9 yX9_joins wsX9_joins) := goodIn_app (goodIn_of _ (by decide +kernel)) ggL_law_X9_joins
