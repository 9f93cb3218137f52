/-! printed by program: the law's words hold those of X8_page -/
theorem goodIn_tdX8_page {big ws : List Cond} (n : Nat) (h1 : GoodIn big (ws.take n)) (h2 : GoodIn big (ws.drop n)) : GoodIn big ws := by
  have h := goodIn_app h1 h2
  rwa [List.take_append_drop] at h
set_option maxRecDepth 20000 in
theorem ggL_law_X8_page_0 : GoodIn wsL_law (wsX8_page.take 25) := goodIn_r _ [830, 28, 32, 516, 517, 2, 518, 519, 520, 521, 20, 522, 523, 490, 491, 492, 358, 125, 493, 494, 495, 496, 353, 359, 360] (by decide +kernel) (by decide +kernel)
set_option maxRecDepth 20000 in
theorem ggL_law_X8_page_1 : GoodIn wsL_law ((wsX8_page.drop 25).take 25) := goodIn_r _ [361, 362, 468, 423, 424, 425, 124, 497, 465, 466, 467, 498, 499, 500, 501, 105, 106, 524, 525, 526, 31, 527, 371, 136, 528] (by decide +kernel) (by decide +kernel)
set_option maxRecDepth 20000 in
theorem ggL_law_X8_page_2 : GoodIn wsL_law (((wsX8_page.drop 25).drop 25).take 25) := goodIn_r _ [529, 530, 151, 531, 532, 167, 533, 534, 535, 140, 536, 537, 65, 66, 67, 156, 69, 70, 159, 160, 538, 539, 540, 541, 138] (by decide +kernel) (by decide +kernel)
set_option maxRecDepth 20000 in
theorem ggL_law_X8_page_3 : GoodIn wsL_law ((((wsX8_page.drop 25).drop 25).drop 25).take 25) := goodIn_r _ [149, 141, 142, 143, 542, 543, 418, 419, 420, 421, 413, 414, 415, 123, 416, 409, 410, 411, 544, 545, 546, 547, 548, 549, 550] (by decide +kernel) (by decide +kernel)
set_option maxRecDepth 20000 in
theorem ggL_law_X8_page_4 : GoodIn wsL_law (((((wsX8_page.drop 25).drop 25).drop 25).drop 25).take 25) := goodIn_r _ [551, 158, 552, 553, 554, 555, 556, 557, 558, 559, 560, 561, 562, 563, 564, 565, 566, 567, 168, 568, 569, 570, 571, 165, 572] (by decide +kernel) (by decide +kernel)
set_option maxRecDepth 20000 in
theorem ggL_law_X8_page_5 : GoodIn wsL_law ((((((wsX8_page.drop 25).drop 25).drop 25).drop 25).drop 25).take 25) := goodIn_r _ [77, 78, 14, 79, 46, 573, 574, 575, 576, 577, 578, 579, 580, 581, 582, 147, 583, 584, 585, 586, 587, 588, 589, 590, 591] (by decide +kernel) (by decide +kernel)
set_option maxRecDepth 20000 in
theorem ggL_law_X8_page_6 : GoodIn wsL_law (((((((wsX8_page.drop 25).drop 25).drop 25).drop 25).drop 25).drop 25).take 25) := goodIn_r _ [144, 145, 592, 61, 62, 63, 64, 68, 593, 594, 595, 596, 597, 598, 599, 600, 601, 602, 148, 603, 604, 605, 606, 607, 608] (by decide +kernel) (by decide +kernel)
set_option maxRecDepth 20000 in
theorem ggL_law_X8_page_7 : GoodIn wsL_law ((((((((wsX8_page.drop 25).drop 25).drop 25).drop 25).drop 25).drop 25).drop 25).take 25) := goodIn_r _ [609, 610, 611, 612, 613, 614, 615, 108, 109, 17, 110, 54, 616, 617, 618, 619, 620, 621, 622, 623, 624, 625, 626, 627, 628] (by decide +kernel) (by decide +kernel)
set_option maxRecDepth 20000 in
theorem ggL_law_X8_page_8 : GoodIn wsL_law (((((((((wsX8_page.drop 25).drop 25).drop 25).drop 25).drop 25).drop 25).drop 25).drop 25).take 25) := goodIn_r _ [629, 97, 98, 99, 45, 630, 631, 632, 633, 634, 635, 636, 637, 638, 639, 640, 641, 642, 643, 644, 645, 646, 647, 648, 649] (by decide +kernel) (by decide +kernel)
set_option maxRecDepth 20000 in
theorem ggL_law_X8_page_9 : GoodIn wsL_law ((((((((((wsX8_page.drop 25).drop 25).drop 25).drop 25).drop 25).drop 25).drop 25).drop 25).drop 25).take 25) := goodIn_r _ [650, 651, 652, 653, 654, 655, 656, 657, 658, 659, 660, 661, 662, 663, 664, 803, 804, 805, 806, 36, 665, 666, 667, 668, 669] (by decide +kernel) (by decide +kernel)
set_option maxRecDepth 20000 in
theorem ggL_law_X8_page_10 : GoodIn wsL_law (((((((((((wsX8_page.drop 25).drop 25).drop 25).drop 25).drop 25).drop 25).drop 25).drop 25).drop 25).drop 25).take 25) := goodIn_r _ [670, 671, 672, 798, 799, 800, 35, 801, 802, 783, 784, 785, 173, 786, 787, 788, 847, 848, 849, 850, 851, 852, 853, 854, 855] (by decide +kernel) (by decide +kernel)
set_option maxRecDepth 20000 in
theorem ggL_law_X8_page_11 : GoodIn wsL_law ((((((((((((wsX8_page.drop 25).drop 25).drop 25).drop 25).drop 25).drop 25).drop 25).drop 25).drop 25).drop 25).drop 25).take 25) := goodIn_r _ [856, 891, 892, 893, 894, 895, 897, 898, 899, 900, 901, 902, 903, 904, 905, 906, 907, 908, 913, 914, 915, 916, 910, 911, 912] (by decide +kernel) (by decide +kernel)
set_option maxRecDepth 20000 in
theorem ggL_law_X8_page_12 : GoodIn wsL_law ((((((((((((wsX8_page.drop 25).drop 25).drop 25).drop 25).drop 25).drop 25).drop 25).drop 25).drop 25).drop 25).drop 25).drop 25) := goodIn_r _ [887, 888, 889, 890, 909] (by decide +kernel) (by decide +kernel)
theorem ggL_law_X8_page : GoodIn wsL_law wsX8_page := goodIn_tdX8_page 25 ggL_law_X8_page_0 (goodIn_tdX8_page 25 ggL_law_X8_page_1 (goodIn_tdX8_page 25 ggL_law_X8_page_2 (goodIn_tdX8_page 25 ggL_law_X8_page_3 (goodIn_tdX8_page 25 ggL_law_X8_page_4 (goodIn_tdX8_page 25 ggL_law_X8_page_5 (goodIn_tdX8_page 25 ggL_law_X8_page_6 (goodIn_tdX8_page 25 ggL_law_X8_page_7 (goodIn_tdX8_page 25 ggL_law_X8_page_8 (goodIn_tdX8_page 25 ggL_law_X8_page_9 (goodIn_tdX8_page 25 ggL_law_X8_page_10 (goodIn_tdX8_page 25 ggL_law_X8_page_11 (ggL_law_X8_page_12))))))))))))
set_option maxRecDepth 20000 in
theorem gL_law_X8_page : GoodIn wsL_law (wsV RL 82 RX8 yX8_page wsX8_page) := goodIn_app (goodIn_of _ (by decide +kernel)) ggL_law_X8_page
