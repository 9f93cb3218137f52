set_option maxRecDepth 20000 in
theorem ggX7_init_X1_init : GoodIn wsX7_init wsX1_init := goodIn_r _ [24, 25, 2, 3, 26, 27, 28, 29, 30, 31, 32, 33, 55, 56, 57] (by decide +kernel) (by decide +kernel)
set_option maxRecDepth 20000 in
theorem gX7_init_X1_init : GoodIn wsX7_init (wsX1_init) := ggX7_init_X1_init
set_option maxRecDepth 20000 in
theorem ggX7_init_X3_init : GoodIn wsX7_init wsX3_init := goodIn_r _ [36, 37, 2, 3, 12, 38, 39, 8, 9, 40, 41, 42, 23, 24, 25, 26, 27, 28, 29, 30, 31, 32, 33, 58, 59, 60, 61, 55, 56, 57] (by decide +kernel) (by decide +kernel)
set_option maxRecDepth 20000 in
theorem gX7_init_X3_init : GoodIn wsX7_init (wsX3_init) := ggX7_init_X3_init
set_option maxRecDepth 20000 in
theorem ggX7_generatorsAt_X3_generatorsOf : GoodIn wsX7_generatorsAt wsX3_generatorsOf := goodIn_r _ [6, 7, 8, 9, 10, 5, 11, 12, 25, 26, 27, 28] (by decide +kernel) (by decide +kernel)
set_option maxRecDepth 20000 in
theorem gX7_generatorsAt_X3_generatorsOf : GoodIn wsX7_generatorsAt (wsV RX7 65 RX3 yX3_generatorsOf wsX3_generatorsOf) := goodIn_app (goodIn_of _ (by decide +kernel)) ggX7_generatorsAt_X3_generatorsOf
set_option maxRecDepth 20000 in
theorem ggX7_turnByTurn_X3_places : GoodIn wsX7_turnByTurn wsX3_places := goodIn_r _ [6, 7, 8, 9, 10, 5, 11, 12, 13, 14, 15, 16, 17, 18, 19, 20, 21, 22, 23, 36, 37, 38, 39, 40, 41] (by decide +kernel) (by decide +kernel)
set_option maxRecDepth 20000 in
theorem gX7_turnByTurn_X3_places : GoodIn wsX7_turnByTurn (wsV RX7 69 RX3 yX3_places wsX3_places) := goodIn_app (goodIn_of _ (by decide +kernel)) ggX7_turnByTurn_X3_places
set_option maxRecDepth 20000 in
theorem ggX7_rankOfJoins_X3_generators : GoodIn wsX7_rankOfJoins wsX3_generators := goodIn_r _ [11, 12, 63, 64, 65, 66] (by decide +kernel) (by decide +kernel)
set_option maxRecDepth 20000 in
theorem gX7_rankOfJoins_X3_generators : GoodIn wsX7_rankOfJoins (wsV RX7 72 RX3 yX3_generators wsX3_generators) := goodIn_app (goodIn_of _ (by decide +kernel)) ggX7_rankOfJoins_X3_generators
set_option maxRecDepth 20000 in
theorem ggX7_rankOfJoins_X3_degreeOf : GoodIn wsX7_rankOfJoins wsX3_degreeOf := goodIn_r _ [16, 17, 63, 64, 65, 66] (by decide +kernel) (by decide +kernel)
set_option maxRecDepth 20000 in
theorem gX7_rankOfJoins_X3_degreeOf : GoodIn wsX7_rankOfJoins (wsV RX7 76 RX3 yX3_degreeOf wsX3_degreeOf) := goodIn_app (goodIn_of _ (by decide +kernel)) ggX7_rankOfJoins_X3_degreeOf
set_option maxRecDepth 20000 in
theorem ggX7_rankOfJoins_X3_goals : GoodIn wsX7_rankOfJoins wsX3_goals := goodIn_r _ [21, 22, 63, 64, 65, 66] (by decide +kernel) (by decide +kernel)
set_option maxRecDepth 20000 in
theorem gX7_rankOfJoins_X3_goals : GoodIn wsX7_rankOfJoins (wsV RX7 79 RX3 yX3_goals wsX3_goals) := goodIn_app (goodIn_of _ (by decide +kernel)) ggX7_rankOfJoins_X3_goals
set_option maxRecDepth 20000 in
theorem ggX7_rankOfJoins_X7_joinsOf : GoodIn wsX7_rankOfJoins wsX7_joinsOf := goodIn_r _ [26, 7, 8, 9, 10, 11, 12, 27, 28, 29, 30, 31, 32, 14, 15, 16, 17, 33, 34, 35, 36, 37, 38, 13, 39, 40, 41, 42, 43, 44, 45, 46, 47, 48, 49, 50, 63, 64, 65, 66, 67, 68, 69, 70, 71] (by decide +kernel) (by decide +kernel)
set_option maxRecDepth 20000 in
theorem gX7_rankOfJoins_X7_joinsOf : GoodIn wsX7_rankOfJoins (va_wsS RX7 83 yX7_joinsOf wsX7_joinsOf) := goodIn_app (goodIn_of _ (by decide +kernel)) ggX7_rankOfJoins_X7_joinsOf
set_option maxRecDepth 20000 in
theorem ggX7_joinsOf_X3_generators : GoodIn wsX7_joinsOf wsX3_generators := goodIn_r _ [5, 6, 36, 37, 38, 39] (by decide +kernel) (by decide +kernel)
set_option maxRecDepth 20000 in
theorem gX7_joinsOf_X3_generators : GoodIn wsX7_joinsOf (wsV RX7 72 RX3 yX3_generators wsX3_generators) := goodIn_app (goodIn_of _ (by decide +kernel)) ggX7_joinsOf_X3_generators
set_option maxRecDepth 20000 in
theorem ggX7_joinsOf_X3_width : GoodIn wsX7_joinsOf wsX3_width := goodIn_r _ [10, 11, 12, 13, 14, 4, 15, 16, 17, 18, 19, 20, 21, 22, 36, 37, 38, 39, 40, 41] (by decide +kernel) (by decide +kernel)
set_option maxRecDepth 20000 in
theorem gX7_joinsOf_X3_width : GoodIn wsX7_joinsOf (wsV RX7 93 RX3 yX3_width wsX3_width) := goodIn_app (goodIn_of _ (by decide +kernel)) ggX7_joinsOf_X3_width
set_option maxRecDepth 20000 in
theorem ggX7_joinsOf_X3_degreeOf : GoodIn wsX7_joinsOf wsX3_degreeOf := goodIn_r _ [15, 16, 36, 37, 38, 39] (by decide +kernel) (by decide +kernel)
set_option maxRecDepth 20000 in
theorem gX7_joinsOf_X3_degreeOf : GoodIn wsX7_joinsOf (wsV RX7 76 RX3 yX3_degreeOf wsX3_degreeOf) := goodIn_app (goodIn_of _ (by decide +kernel)) ggX7_joinsOf_X3_degreeOf
set_option maxRecDepth 20000 in
theorem ggX7_joinsOf_X1_bit : GoodIn wsX7_joinsOf wsX1_bit := goodIn_r _ [28, 29, 30, 31, 27, 32, 33, 34, 35, 42, 43, 44] (by decide +kernel) (by decide +kernel)
set_option maxRecDepth 20000 in
theorem gX7_joinsOf_X1_bit : GoodIn wsX7_joinsOf (wsV RX7 96 RX1 yX1_bit wsX1_bit) := goodIn_app (goodIn_of _ (by decide +kernel)) ggX7_joinsOf_X1_bit
set_option maxRecDepth 20000 in
theorem ggX7_build_X3_restart : GoodIn wsX7_build wsX3_restart := goodIn_r _ [7, 8, 9, 10, 11, 12, 13, 14, 15, 16, 17, 18, 19, 20, 21, 22, 23, 218, 219, 220, 221, 222, 223, 224] (by decide +kernel) (by decide +kernel)
set_option maxRecDepth 20000 in
theorem gX7_build_X3_restart : GoodIn wsX7_build (wsV RX7 99 RX3 yX3_restart wsX3_restart) := goodIn_app (goodIn_of _ (by decide +kernel)) ggX7_build_X3_restart
set_option maxRecDepth 20000 in
theorem ggX7_build_X7_buildDegree : GoodIn wsX7_build wsX7_buildDegree := goodIn_r _ [28, 29, 30, 2, 31, 32, 33, 34, 16, 17, 18, 35, 36, 37, 38, 39, 40, 41, 42, 43, 44, 45, 46, 47, 48, 49, 50, 51, 27, 52, 53, 11, 12, 13, 14, 15, 19, 20, 21, 22, 23, 54, 55, 56, 57, 58, 59, 60, 61, 62, 63, 64, 65, 66, 67, 68, 69, 6, 70, 8, 71, 72, 73, 74, 75, 76, 77, 78, 79, 80, 81, 82, 83, 84, 85, 86, 87, 88, 89, 90, 91, 92, 93, 94, 95, 96, 97, 98, 99, 100, 101, 102, 103, 104, 105, 106, 107, 108, 109, 110, 111, 112, 113, 114, 115, 116, 117, 118, 119, 120, 121, 9, 122, 123, 124, 125, 126, 127, 128, 129, 130, 131, 132, 133, 134, 135, 136, 137, 138, 139, 140, 141, 142, 143, 144, 145, 146, 147, 148, 149, 150, 151, 152, 153, 154, 155, 156, 157, 158, 159, 160, 161, 162, 163, 164, 165, 166, 167, 168, 169, 170, 171, 172, 173, 174, 175, 176, 177, 178, 179, 180, 181, 182, 183, 184, 185, 186, 187, 188, 189, 190, 191, 192, 193, 194, 195, 196, 197, 198, 199, 200, 201, 202, 203, 204, 205, 206, 207, 208, 209, 210, 211, 212, 213, 214, 215, 216, 217, 225, 226, 227, 228, 229, 222, 223, 224, 218, 219, 220, 221, 230, 231, 232, 233] (by decide +kernel) (by decide +kernel)
set_option maxRecDepth 20000 in
theorem gX7_build_X7_buildDegree : GoodIn wsX7_build (wsV RX7 102 RX7 yX7_buildDegree wsX7_buildDegree) := goodIn_app (goodIn_of _ (by decide +kernel)) ggX7_build_X7_buildDegree
set_option maxRecDepth 20000 in
theorem ggX7_buildDegree_X5_ofDegree : GoodIn wsX7_buildDegree wsX5_ofDegree := goodIn_r _ [15, 16, 17, 18, 19, 14, 20, 21, 22, 23, 24, 25, 208, 209, 210, 211, 212] (by decide +kernel) (by decide +kernel)
set_option maxRecDepth 20000 in
theorem gX7_buildDegree_X5_ofDegree : GoodIn wsX7_buildDegree (wsV RX7 105 RX5 yX5_ofDegree wsX5_ofDegree) := goodIn_app (goodIn_of _ (by decide +kernel)) ggX7_buildDegree_X5_ofDegree
set_option maxRecDepth 20000 in
theorem ggX7_buildDegree_X7_listElements : GoodIn wsX7_buildDegree wsX7_listElements := goodIn_r _ [29, 30, 31, 32, 33, 34, 35, 8, 9, 10, 36, 37, 38, 39, 40, 41, 42, 43, 44, 45, 46, 47, 48, 49, 50, 51, 52, 53, 213, 214, 215] (by decide +kernel) (by decide +kernel)
set_option maxRecDepth 20000 in
theorem gX7_buildDegree_X7_listElements : GoodIn wsX7_buildDegree (va_wsS RX7 110 yX7_listElements wsX7_listElements) := goodIn_app (goodIn_of _ (by decide +kernel)) ggX7_buildDegree_X7_listElements
set_option maxRecDepth 20000 in
theorem ggX7_buildDegree_X3_places : GoodIn wsX7_buildDegree wsX3_places := goodIn_r _ [58, 59, 60, 61, 62, 57, 63, 64, 65, 66, 67, 68, 69, 70, 71, 72, 73, 74, 75, 216, 217, 218, 219, 220, 221] (by decide +kernel) (by decide +kernel)
set_option maxRecDepth 20000 in
theorem gX7_buildDegree_X3_places : GoodIn wsX7_buildDegree (wsV RX7 69 RX3 yX3_places wsX3_places) := goodIn_app (goodIn_of _ (by decide +kernel)) ggX7_buildDegree_X3_places
set_option maxRecDepth 20000 in
theorem ggX7_buildDegree_X1_restart : GoodIn wsX7_buildDegree wsX1_restart := goodIn_r _ [34, 35, 8, 9, 10, 36, 37, 38, 39, 40, 213, 214, 215] (by decide +kernel) (by decide +kernel)
set_option maxRecDepth 20000 in
theorem gX7_buildDegree_X1_restart : GoodIn wsX7_buildDegree (wsV RX7 114 RX1 yX1_restart wsX1_restart) := goodIn_app (goodIn_of _ (by decide +kernel)) ggX7_buildDegree_X1_restart
set_option maxRecDepth 20000 in
theorem ggX7_buildDegree_J7_fill_fda19 : GoodIn wsX7_buildDegree wsJ7_fill_fda19 := goodIn_r _ [79, 80, 81, 78, 82] (by decide +kernel) (by decide +kernel)
set_option maxRecDepth 20000 in
theorem gX7_buildDegree_J7_fill_fda19 : GoodIn wsX7_buildDegree (va_wsS RX7 116 yJ7_fill_fda19 wsJ7_fill_fda19) := goodIn_app (goodIn_of _ (by decide +kernel)) ggX7_buildDegree_J7_fill_fda19
set_option maxRecDepth 20000 in
theorem ggX7_buildDegree_X7_carryOver : GoodIn wsX7_buildDegree wsX7_carryOver := goodIn_r _ [86, 87, 4, 5, 88, 89, 90, 57, 91, 59, 92, 66, 67, 68, 69, 93, 94, 95, 28, 96, 97, 98, 99, 100, 101, 73, 102, 75, 103, 8, 9, 10, 104, 37, 38, 105, 61, 62, 63, 64, 65, 70, 71, 72, 74, 106, 41, 42, 43, 33, 44, 40, 39, 45, 46, 47, 48, 49, 50, 51, 52, 53, 107, 108, 109, 110, 111, 112, 113, 114, 115, 116, 117, 118, 119, 120, 121, 122, 123, 124, 125, 126, 127, 128, 129, 130, 131, 132, 133, 134, 135, 136, 137, 138, 139, 140, 141, 142, 143, 144, 145, 146, 147, 2, 148, 149, 150, 151, 152, 153, 154, 155, 14, 156, 16, 157, 158, 159, 160, 161, 162, 163, 164, 165, 6, 166, 167, 168, 169, 170, 171, 172, 173, 174, 175, 176, 177, 178, 179, 180, 181, 182, 36, 196, 197, 198, 199, 200, 201, 202, 203, 204, 205, 206, 207, 216, 217, 218, 219, 220, 221, 213, 214, 215, 222, 223, 208, 209, 210, 211, 212] (by decide +kernel) (by decide +kernel)
set_option maxRecDepth 20000 in
theorem gX7_buildDegree_X7_carryOver : GoodIn wsX7_buildDegree (wsV RX7 122 RX7 yX7_carryOver wsX7_carryOver) := goodIn_app (goodIn_of _ (by decide +kernel)) ggX7_buildDegree_X7_carryOver
set_option maxRecDepth 20000 in
theorem ggX7_buildDegree_X7_cover : GoodIn wsX7_buildDegree wsX7_cover := goodIn_r _ [186, 4, 5, 6, 187, 188, 189, 33, 190, 40, 174, 175, 176, 177, 39, 178, 42, 43, 44, 45, 140, 141, 142, 143, 50, 51, 52, 53, 41, 166, 167, 168, 28, 169, 117, 118, 119, 120, 121, 122, 123, 124, 125, 126, 127, 128, 170, 171, 172, 173, 191, 192, 193, 57, 194, 59, 111, 69, 195, 179, 180, 181, 182, 36, 37, 9, 38, 196, 197, 198, 199, 200, 201, 202, 203, 204, 205, 206, 207, 213, 214, 215, 216, 217, 218, 219] (by decide +kernel) (by decide +kernel)
set_option maxRecDepth 20000 in
theorem gX7_buildDegree_X7_cover : GoodIn wsX7_buildDegree (wsV RX7 126 RX7 yX7_cover wsX7_cover) := goodIn_app (goodIn_of _ (by decide +kernel)) ggX7_buildDegree_X7_cover
set_option maxRecDepth 20000 in
theorem ggX7_listElements_X1_restart : GoodIn wsX7_listElements wsX1_restart := goodIn_r _ [5, 6, 7, 8, 9, 10, 11, 12, 13, 14, 28, 29, 30] (by decide +kernel) (by decide +kernel)
set_option maxRecDepth 20000 in
theorem gX7_listElements_X1_restart : GoodIn wsX7_listElements (wsV RX7 114 RX1 yX1_restart wsX1_restart) := goodIn_app (goodIn_of _ (by decide +kernel)) ggX7_listElements_X1_restart
set_option maxRecDepth 20000 in
theorem ggX7_listElements_X1_open : GoodIn wsX7_listElements wsX1_open := goodIn_r _ [18, 14, 13, 19, 28, 29, 30] (by decide +kernel) (by decide +kernel)
set_option maxRecDepth 20000 in
theorem gX7_listElements_X1_open : GoodIn wsX7_listElements (wsV RX7 130 RX1 yX1_open wsX1_open) := goodIn_app (goodIn_of _ (by decide +kernel)) ggX7_listElements_X1_open
set_option maxRecDepth 20000 in
theorem ggX7_listElements_X1_flip : GoodIn wsX7_listElements wsX1_flip := goodIn_r _ [23, 24, 25, 26, 4, 27, 14, 13, 19, 28, 29, 30] (by decide +kernel) (by decide +kernel)
set_option maxRecDepth 20000 in
theorem gX7_listElements_X1_flip : GoodIn wsX7_listElements (wsV RX7 133 RX1 yX1_flip wsX1_flip) := goodIn_app (goodIn_of _ (by decide +kernel)) ggX7_listElements_X1_flip
set_option maxRecDepth 20000 in
theorem ggX7_carryOver_X3_generators : GoodIn wsX7_carryOver wsX3_generators := goodIn_r _ [8, 9, 155, 156, 157, 158] (by decide +kernel) (by decide +kernel)
set_option maxRecDepth 20000 in
theorem gX7_carryOver_X3_generators : GoodIn wsX7_carryOver (wsV RX7 72 RX3 yX3_generators wsX3_generators) := goodIn_app (goodIn_of _ (by decide +kernel)) ggX7_carryOver_X3_generators
set_option maxRecDepth 20000 in
theorem ggX7_carryOver_X3_degreeOf : GoodIn wsX7_carryOver wsX3_degreeOf := goodIn_r _ [13, 14, 155, 156, 157, 158] (by decide +kernel) (by decide +kernel)
set_option maxRecDepth 20000 in
theorem gX7_carryOver_X3_degreeOf : GoodIn wsX7_carryOver (wsV RX7 76 RX3 yX3_degreeOf wsX3_degreeOf) := goodIn_app (goodIn_of _ (by decide +kernel)) ggX7_carryOver_X3_degreeOf
set_option maxRecDepth 20000 in
theorem ggX7_carryOver_X7_listPlaces : GoodIn wsX7_carryOver wsX7_listPlaces := goodIn_r _ [19, 1, 20, 21, 4, 5, 6, 7, 8, 9, 10, 11, 12, 13, 14, 22, 23, 24, 25, 26, 27, 28, 29, 30, 31, 32, 33, 34, 35, 36, 37, 38, 39, 40, 41, 42, 43, 44, 143, 144, 145, 146, 147, 148, 149, 150, 151, 152, 153, 154, 155, 156, 157, 158, 159, 160] (by decide +kernel) (by decide +kernel)
set_option maxRecDepth 20000 in
theorem gX7_carryOver_X7_listPlaces : GoodIn wsX7_carryOver (wsV RX7 137 RX7 yX7_listPlaces wsX7_listPlaces) := goodIn_app (goodIn_of _ (by decide +kernel)) ggX7_carryOver_X7_listPlaces
set_option maxRecDepth 20000 in
theorem ggX7_carryOver_X0_start : GoodIn wsX7_carryOver wsX0_start := goodIn_r _ [26, 27, 28, 29, 30, 31, 32, 33, 34, 159, 160] (by decide +kernel) (by decide +kernel)
set_option maxRecDepth 20000 in
theorem gX7_carryOver_X0_start : GoodIn wsX7_carryOver (wsV RX7 141 RX0 yX0_start wsX0_start) := goodIn_app (goodIn_of _ (by decide +kernel)) ggX7_carryOver_X0_start
set_option maxRecDepth 20000 in
theorem ggX7_carryOver_X0_size : GoodIn wsX7_carryOver wsX0_size := goodIn_r _ [44, 27, 159, 160] (by decide +kernel) (by decide +kernel)
set_option maxRecDepth 20000 in
theorem gX7_carryOver_X0_size : GoodIn wsX7_carryOver (wsV RX7 146 RX0 yX0_size wsX0_size) := goodIn_app (goodIn_of _ (by decide +kernel)) ggX7_carryOver_X0_size
set_option maxRecDepth 20000 in
theorem ggX7_carryOver_X1_open : GoodIn wsX7_carryOver wsX1_open := goodIn_r _ [50, 51, 52, 53, 161, 162, 163] (by decide +kernel) (by decide +kernel)
set_option maxRecDepth 20000 in
theorem gX7_carryOver_X1_open : GoodIn wsX7_carryOver (wsV RX7 130 RX1 yX1_open wsX1_open) := goodIn_app (goodIn_of _ (by decide +kernel)) ggX7_carryOver_X1_open
set_option maxRecDepth 20000 in
theorem ggX7_carryOver_X1_flip : GoodIn wsX7_carryOver wsX1_flip := goodIn_r _ [57, 58, 59, 60, 49, 61, 51, 52, 53, 161, 162, 163] (by decide +kernel) (by decide +kernel)
set_option maxRecDepth 20000 in
theorem gX7_carryOver_X1_flip : GoodIn wsX7_carryOver (wsV RX7 133 RX1 yX1_flip wsX1_flip) := goodIn_app (goodIn_of _ (by decide +kernel)) ggX7_carryOver_X1_flip
set_option maxRecDepth 20000 in
theorem ggX7_carryOver_X3_goals : GoodIn wsX7_carryOver wsX3_goals := goodIn_r _ [65, 66, 155, 156, 157, 158] (by decide +kernel) (by decide +kernel)
set_option maxRecDepth 20000 in
theorem gX7_carryOver_X3_goals : GoodIn wsX7_carryOver (wsV RX7 79 RX3 yX3_goals wsX3_goals) := goodIn_app (goodIn_of _ (by decide +kernel)) ggX7_carryOver_X3_goals
set_option maxRecDepth 20000 in
theorem ggX7_carryOver_X7_putProduct : GoodIn wsX7_carryOver wsX7_putProduct := goodIn_r _ [70, 20, 21, 2, 71, 72, 73, 74, 49, 75, 51, 76, 52, 53, 77, 78, 79, 80, 81, 82, 83, 84, 85, 86, 87, 88, 89, 54, 55, 56, 57, 58, 59, 60, 61, 143, 144, 145, 146, 147, 148, 149, 150, 151, 152, 153, 154, 161, 162, 163, 164, 165] (by decide +kernel) (by decide +kernel)
set_option maxRecDepth 20000 in
theorem gX7_carryOver_X7_putProduct : GoodIn wsX7_carryOver (wsV RX7 149 RX7 yX7_putProduct wsX7_putProduct) := goodIn_app (goodIn_of _ (by decide +kernel)) ggX7_carryOver_X7_putProduct
set_option maxRecDepth 20000 in
theorem ggX7_carryOver_X1_firstBits : GoodIn wsX7_carryOver wsX1_firstBits := goodIn_r _ [93, 94, 95, 96, 97, 49, 98, 51, 52, 53, 161, 162, 163] (by decide +kernel) (by decide +kernel)
set_option maxRecDepth 20000 in
theorem gX7_carryOver_X1_firstBits : GoodIn wsX7_carryOver (wsV RX7 153 RX1 yX1_firstBits wsX1_firstBits) := goodIn_app (goodIn_of _ (by decide +kernel)) ggX7_carryOver_X1_firstBits
set_option maxRecDepth 20000 in
theorem ggX7_carryOver_X7_applyChain : GoodIn wsX7_carryOver wsX7_applyChain := goodIn_r _ [102, 103, 1, 104, 105, 106, 25, 107, 108, 109, 110, 111, 112, 113, 114, 115, 116, 117, 118, 119, 143, 144, 145, 146, 147, 148, 149, 150, 151, 152, 153, 154, 159, 160, 166, 167, 168, 169, 170] (by decide +kernel) (by decide +kernel)
set_option maxRecDepth 20000 in
theorem gX7_carryOver_X7_applyChain : GoodIn wsX7_carryOver (wsV RX7 156 RX7 yX7_applyChain wsX7_applyChain) := goodIn_app (goodIn_of _ (by decide +kernel)) ggX7_carryOver_X7_applyChain
set_option maxRecDepth 20000 in
theorem ggX7_carryOver_X7_keepOrDrop : GoodIn wsX7_carryOver wsX7_keepOrDrop := goodIn_r _ [123, 124, 3, 2, 125, 126, 127, 18, 128, 72, 73, 74, 49, 75, 51, 76, 52, 53, 77, 78, 79, 80, 81, 82, 83, 129, 130, 131, 132, 133, 134, 135, 136, 137, 47, 48, 50, 95, 96, 97, 98, 58, 59, 60, 61, 138, 139, 140, 141, 142, 33, 30, 34, 143, 144, 145, 146, 147, 148, 149, 150, 151, 152, 153, 154, 161, 162, 163] (by decide +kernel) (by decide +kernel)
set_option maxRecDepth 20000 in
theorem gX7_carryOver_X7_keepOrDrop : GoodIn wsX7_carryOver (wsV RX7 159 RX7 yX7_keepOrDrop wsX7_keepOrDrop) := goodIn_app (goodIn_of _ (by decide +kernel)) ggX7_carryOver_X7_keepOrDrop
set_option maxRecDepth 20000 in
theorem ggX7_listPlaces_X3_generators : GoodIn wsX7_listPlaces wsX3_generators := goodIn_r _ [8, 9, 50, 51, 52, 53] (by decide +kernel) (by decide +kernel)
set_option maxRecDepth 20000 in
theorem gX7_listPlaces_X3_generators : GoodIn wsX7_listPlaces (wsV RX7 72 RX3 yX3_generators wsX3_generators) := goodIn_app (goodIn_of _ (by decide +kernel)) ggX7_listPlaces_X3_generators
set_option maxRecDepth 20000 in
theorem ggX7_listPlaces_X3_degreeOf : GoodIn wsX7_listPlaces wsX3_degreeOf := goodIn_r _ [13, 14, 50, 51, 52, 53] (by decide +kernel) (by decide +kernel)
set_option maxRecDepth 20000 in
theorem gX7_listPlaces_X3_degreeOf : GoodIn wsX7_listPlaces (wsV RX7 76 RX3 yX3_degreeOf wsX3_degreeOf) := goodIn_app (goodIn_of _ (by decide +kernel)) ggX7_listPlaces_X3_degreeOf
set_option maxRecDepth 20000 in
theorem ggX7_listPlaces_X0_start : GoodIn wsX7_listPlaces wsX0_start := goodIn_r _ [19, 20, 21, 22, 23, 24, 25, 26, 27, 54, 55] (by decide +kernel) (by decide +kernel)
set_option maxRecDepth 20000 in
theorem gX7_listPlaces_X0_start : GoodIn wsX7_listPlaces (wsV RX7 141 RX0 yX0_start wsX0_start) := goodIn_app (goodIn_of _ (by decide +kernel)) ggX7_listPlaces_X0_start
set_option maxRecDepth 20000 in
theorem ggX7_listPlaces_X3_width : GoodIn wsX7_listPlaces wsX3_width := goodIn_r _ [31, 32, 33, 11, 12, 7, 13, 14, 34, 35, 36, 18, 37, 20, 50, 51, 52, 53, 54, 55] (by decide +kernel) (by decide +kernel)
set_option maxRecDepth 20000 in
theorem gX7_listPlaces_X3_width : GoodIn wsX7_listPlaces (wsV RX7 93 RX3 yX3_width wsX3_width) := goodIn_app (goodIn_of _ (by decide +kernel)) ggX7_listPlaces_X3_width
set_option maxRecDepth 20000 in
theorem ggX7_putProduct_X1_next : GoodIn wsX7_putProduct wsX1_next := goodIn_r _ [9, 10, 11, 12, 13, 14, 15, 16, 17, 18, 19, 20, 47, 48, 49] (by decide +kernel) (by decide +kernel)
set_option maxRecDepth 20000 in
theorem gX7_putProduct_X1_next : GoodIn wsX7_putProduct (wsV RX7 163 RX1 yX1_next wsX1_next) := goodIn_app (goodIn_of _ (by decide +kernel)) ggX7_putProduct_X1_next
set_option maxRecDepth 20000 in
theorem ggX7_putProduct_X6_product : GoodIn wsX7_putProduct wsX6_product := goodIn_r _ [25, 26, 50, 51] (by decide +kernel) (by decide +kernel)
set_option maxRecDepth 20000 in
theorem gX7_putProduct_X6_product : GoodIn wsX7_putProduct (wsV RX7 166 RX6 yX6_product wsX6_product) := goodIn_app (goodIn_of _ (by decide +kernel)) ggX7_putProduct_X6_product
set_option maxRecDepth 20000 in
theorem ggX7_putProduct_X1_flip : GoodIn wsX7_putProduct wsX1_flip := goodIn_r _ [30, 31, 32, 33, 8, 34, 10, 12, 13, 47, 48, 49] (by decide +kernel) (by decide +kernel)
set_option maxRecDepth 20000 in
theorem gX7_putProduct_X1_flip : GoodIn wsX7_putProduct (wsV RX7 133 RX1 yX1_flip wsX1_flip) := goodIn_app (goodIn_of _ (by decide +kernel)) ggX7_putProduct_X1_flip
set_option maxRecDepth 20000 in
theorem ggX7_applyChain_X0_numberAt : GoodIn wsX7_applyChain wsX0_numberAt := goodIn_r _ [7, 8, 32, 33] (by decide +kernel) (by decide +kernel)
set_option maxRecDepth 20000 in
theorem gX7_applyChain_X0_numberAt : GoodIn wsX7_applyChain (wsV RX7 171 RX0 yX0_numberAt wsX0_numberAt) := goodIn_app (goodIn_of _ (by decide +kernel)) ggX7_applyChain_X0_numberAt
set_option maxRecDepth 20000 in
theorem ggX7_applyChain_X5_apply : GoodIn wsX7_applyChain wsX5_apply := goodIn_r _ [13, 14, 15, 16, 17, 12, 18, 19, 34, 35, 36, 37, 38] (by decide +kernel) (by decide +kernel)
set_option maxRecDepth 20000 in
theorem gX7_applyChain_X5_apply : GoodIn wsX7_applyChain (wsV RX7 174 RX5 yX5_apply wsX5_apply) := goodIn_app (goodIn_of _ (by decide +kernel)) ggX7_applyChain_X5_apply
set_option maxRecDepth 20000 in
theorem ggX7_keepOrDrop_X7_reduce : GoodIn wsX7_keepOrDrop wsX7_reduce := goodIn_r _ [8, 1, 3, 2, 9, 10, 11, 12, 13, 14, 15, 16, 17, 18, 19, 20, 21, 22, 23, 24, 25, 26, 27, 28, 53, 54, 55, 56, 57, 58, 59, 60, 61, 62, 63, 64, 65, 66, 67] (by decide +kernel) (by decide +kernel)
set_option maxRecDepth 20000 in
theorem gX7_keepOrDrop_X7_reduce : GoodIn wsX7_keepOrDrop (wsV RX7 177 RX7 yX7_reduce wsX7_reduce) := goodIn_app (goodIn_of _ (by decide +kernel)) ggX7_keepOrDrop_X7_reduce
set_option maxRecDepth 20000 in
theorem ggX7_keepOrDrop_X1_copy : GoodIn wsX7_keepOrDrop wsX1_copy := goodIn_r _ [32, 16, 33, 34, 35, 12, 36, 14, 17, 37, 38, 39, 40, 41, 42, 43, 44, 65, 66, 67] (by decide +kernel) (by decide +kernel)
set_option maxRecDepth 20000 in
theorem gX7_keepOrDrop_X1_copy : GoodIn wsX7_keepOrDrop (wsV RX7 180 RX1 yX1_copy wsX1_copy) := goodIn_app (goodIn_of _ (by decide +kernel)) ggX7_keepOrDrop_X1_copy
set_option maxRecDepth 20000 in
theorem ggX7_keepOrDrop_X1_dropLast : GoodIn wsX7_keepOrDrop wsX1_dropLast := goodIn_r _ [48, 14, 49, 50, 51, 52, 65, 66, 67] (by decide +kernel) (by decide +kernel)
set_option maxRecDepth 20000 in
theorem gX7_keepOrDrop_X1_dropLast : GoodIn wsX7_keepOrDrop (wsV RX7 184 RX1 yX1_dropLast wsX1_dropLast) := goodIn_app (goodIn_of _ (by decide +kernel)) ggX7_keepOrDrop_X1_dropLast
set_option maxRecDepth 20000 in
theorem ggX7_cover_X1_height : GoodIn wsX7_cover wsX1_height := goodIn_r _ [8, 9, 79, 80, 81] (by decide +kernel) (by decide +kernel)
set_option maxRecDepth 20000 in
theorem gX7_cover_X1_height : GoodIn wsX7_cover (wsV RX7 187 RX1 yX1_height wsX1_height) := goodIn_app (goodIn_of _ (by decide +kernel)) ggX7_cover_X1_height
set_option maxRecDepth 20000 in
theorem ggX7_cover_X1_copy : GoodIn wsX7_cover wsX1_copy := goodIn_r _ [13, 14, 15, 16, 17, 7, 18, 9, 19, 20, 21, 22, 23, 24, 25, 26, 27, 79, 80, 81] (by decide +kernel) (by decide +kernel)
set_option maxRecDepth 20000 in
theorem gX7_cover_X1_copy : GoodIn wsX7_cover (wsV RX7 180 RX1 yX1_copy wsX1_copy) := goodIn_app (goodIn_of _ (by decide +kernel)) ggX7_cover_X1_copy
set_option maxRecDepth 20000 in
theorem ggX7_cover_X1_open : GoodIn wsX7_cover wsX1_open := goodIn_r _ [18, 9, 14, 19, 79, 80, 81] (by decide +kernel) (by decide +kernel)
set_option maxRecDepth 20000 in
theorem gX7_cover_X1_open : GoodIn wsX7_cover (wsV RX7 130 RX1 yX1_open wsX1_open) := goodIn_app (goodIn_of _ (by decide +kernel)) ggX7_cover_X1_open
set_option maxRecDepth 20000 in
theorem ggX7_cover_X7_reduce : GoodIn wsX7_cover wsX7_reduce := goodIn_r _ [33, 3, 1, 2, 34, 35, 36, 7, 37, 9, 38, 14, 19, 39, 40, 41, 42, 43, 44, 45, 46, 47, 48, 49, 67, 68, 69, 70, 71, 72, 73, 74, 75, 76, 77, 78, 79, 80, 81] (by decide +kernel) (by decide +kernel)
set_option maxRecDepth 20000 in
theorem gX7_cover_X7_reduce : GoodIn wsX7_cover (wsV RX7 177 RX7 yX7_reduce wsX7_reduce) := goodIn_app (goodIn_of _ (by decide +kernel)) ggX7_cover_X7_reduce
set_option maxRecDepth 20000 in
theorem ggX7_cover_X3_add : GoodIn wsX7_cover wsX3_add := goodIn_r _ [54, 55, 56, 57, 58, 11, 12, 7, 13, 14, 15, 16, 17, 18, 9, 19, 20, 21, 22, 23, 24, 25, 26, 27, 82, 83, 84, 85, 79, 80, 81] (by decide +kernel) (by decide +kernel)
set_option maxRecDepth 20000 in
theorem gX7_cover_X3_add : GoodIn wsX7_cover (wsV RX7 190 RX3 yX3_add wsX3_add) := goodIn_app (goodIn_of _ (by decide +kernel)) ggX7_cover_X3_add
set_option maxRecDepth 20000 in
theorem ggX7_cover_X1_dropLast : GoodIn wsX7_cover wsX1_dropLast := goodIn_r _ [62, 9, 63, 64, 65, 66, 79, 80, 81] (by decide +kernel) (by decide +kernel)
set_option maxRecDepth 20000 in
theorem gX7_cover_X1_dropLast : GoodIn wsX7_cover (wsV RX7 184 RX1 yX1_dropLast wsX1_dropLast) := goodIn_app (goodIn_of _ (by decide +kernel)) ggX7_cover_X1_dropLast
set_option maxRecDepth 20000 in
theorem ggX7_reduce_X1_next : GoodIn wsX7_reduce wsX1_next := goodIn_r _ [8, 9, 10, 11, 12, 13, 14, 15, 16, 17, 18, 19, 36, 37, 38] (by decide +kernel) (by decide +kernel)
set_option maxRecDepth 20000 in
theorem gX7_reduce_X1_next : GoodIn wsX7_reduce (wsV RX7 163 RX1 yX1_next wsX1_next) := goodIn_app (goodIn_of _ (by decide +kernel)) ggX7_reduce_X1_next
set_option maxRecDepth 20000 in
theorem ggX7_reduce_X1_add : GoodIn wsX7_reduce wsX1_add := goodIn_r _ [23, 9, 11, 12, 36, 37, 38] (by decide +kernel) (by decide +kernel)
set_option maxRecDepth 20000 in
theorem gX7_reduce_X1_add : GoodIn wsX7_reduce (wsV RX7 194 RX1 yX1_add wsX1_add) := goodIn_app (goodIn_of _ (by decide +kernel)) ggX7_reduce_X1_add
set_option maxRecDepth 20000 in
theorem ggX8_init_X0_init : GoodIn wsX8_init wsX0_init := goodIn_r _ [35, 36, 2, 3, 29, 37, 38, 39, 40, 6, 41, 167, 168] (by decide +kernel) (by decide +kernel)
set_option maxRecDepth 20000 in
theorem gX8_init_X0_init : GoodIn wsX8_init (wsX0_init) := ggX8_init_X0_init
set_option maxRecDepth 20000 in
theorem ggX8_init_X6_init : GoodIn wsX8_init wsX6_init := goodIn_r _ [44, 45, 2, 3, 29, 46, 47, 48, 49, 50, 9, 51, 52, 53, 54, 6, 55, 38, 56, 57, 58, 59, 60, 61, 62, 63, 64, 65, 66, 67, 68, 69, 70, 71, 72, 73, 74, 75, 76, 77, 78, 79, 80, 81, 82, 83, 84, 85, 86, 87, 88, 89, 90, 91, 37, 92, 93, 94, 95, 96, 97, 98, 99, 100, 101, 102, 103, 104, 105, 106, 107, 108, 109, 110, 111, 112, 169, 170, 167, 168] (by decide +kernel) (by decide +kernel)
set_option maxRecDepth 20000 in
theorem gX8_init_X6_init : GoodIn wsX8_init (wsX6_init) := ggX8_init_X6_init
set_option maxRecDepth 20000 in
theorem ggX8_init_X5_init : GoodIn wsX8_init wsX5_init := goodIn_r _ [114, 115, 2, 3, 29, 116, 117, 118, 171, 172, 173, 174, 175] (by decide +kernel) (by decide +kernel)
set_option maxRecDepth 20000 in
theorem gX8_init_X5_init_n21 : GoodIn wsX8_init (wsX5_init) := ggX8_init_X5_init
set_option maxRecDepth 20000 in
theorem ggX8_init_X4_init : GoodIn wsX8_init wsX4_init := goodIn_r _ [121, 122, 2, 3, 123, 186] (by decide +kernel) (by decide +kernel)
set_option maxRecDepth 20000 in
theorem gX8_init_X4_init : GoodIn wsX8_init (wsX4_init) := ggX8_init_X4_init
set_option maxRecDepth 20000 in
theorem ggX8_init_X7_init : GoodIn wsX8_init wsX7_init := goodIn_r _ [126, 127, 2, 3, 128, 129, 130, 131, 132, 133, 134, 135, 29, 136, 137, 138, 139, 140, 141, 142, 143, 144, 145, 146, 147, 148, 149, 61, 58, 62, 150, 151, 152, 153, 154, 155, 156, 157, 158, 159, 160, 161, 162, 187, 188, 189, 190, 191, 192, 193, 194, 195, 196, 197, 198, 200, 201, 202, 203, 204, 205, 206] (by decide +kernel) (by decide +kernel)
set_option maxRecDepth 20000 in
theorem gX8_init_X7_init : GoodIn wsX8_init (wsX7_init) := ggX8_init_X7_init
set_option maxRecDepth 20000 in
theorem ggX8_init_X2_init : GoodIn wsX8_init wsX2_init := goodIn_r _ [164, 165, 2, 3, 29, 166, 199] (by decide +kernel) (by decide +kernel)
set_option maxRecDepth 20000 in
theorem gX8_init_X2_init_n55 : GoodIn wsX8_init (wsX2_init) := ggX8_init_X2_init
set_option maxRecDepth 20000 in
theorem ggX8_sum_X8_sumOfAllowed : GoodIn wsX8_sum wsX8_sumOfAllowed := goodIn_r _ [5, 6, 7, 8, 9, 10, 11, 12, 13, 14, 15, 16, 17, 18, 19, 20, 21, 22, 23, 24, 25, 26, 27, 28, 29, 30, 31, 32, 33, 34, 35, 36, 37, 38, 39, 40, 41, 82, 83, 84, 85, 86, 87, 88, 89, 90, 91, 92, 93, 94, 95] (by decide +kernel) (by decide +kernel)
set_option maxRecDepth 20000 in
theorem gX8_sum_X8_sumOfAllowed : GoodIn wsX8_sum (wsV RX8 71 RX8 yX8_sumOfAllowed wsX8_sumOfAllowed) := goodIn_app (goodIn_of _ (by decide +kernel)) ggX8_sum_X8_sumOfAllowed
set_option maxRecDepth 20000 in
theorem ggX8_sum_X8_sumOfRows : GoodIn wsX8_sum wsX8_sumOfRows := goodIn_r _ [45, 6, 7, 8, 9, 10, 11, 46, 47, 48, 49, 50, 51, 52, 53, 30, 31, 22, 32, 24, 54, 20, 21, 23, 25, 26, 27, 28, 55, 56, 57, 58, 59, 60, 61, 62, 63, 64, 65, 66, 67, 68, 69, 70, 71, 72, 73, 74, 82, 83, 84, 85, 86, 87, 88, 89, 90, 91, 96, 94, 95] (by decide +kernel) (by decide +kernel)
set_option maxRecDepth 20000 in
theorem gX8_sum_X8_sumOfRows : GoodIn wsX8_sum (wsV RX8 75 RX8 yX8_sumOfRows wsX8_sumOfRows) := goodIn_app (goodIn_of _ (by decide +kernel)) ggX8_sum_X8_sumOfRows
set_option maxRecDepth 20000 in
theorem ggX8_sum_J6_bitCount_0f7a4 : GoodIn wsX8_sum wsJ6_bitCount_0f7a4 := goodIn_r _ [78, 79, 80, 81] (by decide +kernel) (by decide +kernel)
set_option maxRecDepth 20000 in
theorem gX8_sum_J6_bitCount_0f7a4 : GoodIn wsX8_sum (va_wsS RX8 78 yJ6_bitCount_0f7a4 wsJ6_bitCount_0f7a4) := goodIn_app (goodIn_of _ (by decide +kernel)) ggX8_sum_J6_bitCount_0f7a4
set_option maxRecDepth 20000 in
theorem ggX8_term_X8_sumOfAllowed : GoodIn wsX8_term wsX8_sumOfAllowed := goodIn_r _ [8, 9, 10, 11, 12, 13, 14, 15, 16, 17, 18, 19, 20, 21, 22, 23, 24, 25, 26, 27, 28, 29, 30, 31, 32, 33, 34, 35, 36, 37, 38, 39, 40, 41, 42, 43, 44, 83, 84, 85, 86, 87, 88, 89, 90, 91, 92, 93, 94, 95, 96] (by decide +kernel) (by decide +kernel)
set_option maxRecDepth 20000 in
theorem gX8_term_X8_sumOfAllowed : GoodIn wsX8_term (wsV RX8 71 RX8 yX8_sumOfAllowed wsX8_sumOfAllowed) := goodIn_app (goodIn_of _ (by decide +kernel)) ggX8_term_X8_sumOfAllowed
set_option maxRecDepth 20000 in
theorem ggX8_term_X8_sumOfRows : GoodIn wsX8_term wsX8_sumOfRows := goodIn_r _ [48, 9, 10, 11, 12, 13, 14, 49, 50, 51, 52, 53, 54, 55, 56, 33, 34, 25, 35, 27, 57, 23, 24, 26, 28, 29, 30, 31, 58, 59, 60, 61, 62, 63, 64, 65, 66, 67, 68, 69, 70, 71, 72, 73, 74, 75, 76, 77, 83, 84, 85, 86, 87, 88, 89, 90, 91, 92, 97, 95, 96] (by decide +kernel) (by decide +kernel)
set_option maxRecDepth 20000 in
theorem gX8_term_X8_sumOfRows : GoodIn wsX8_term (wsV RX8 75 RX8 yX8_sumOfRows wsX8_sumOfRows) := goodIn_app (goodIn_of _ (by decide +kernel)) ggX8_term_X8_sumOfRows
set_option maxRecDepth 20000 in
theorem ggX8_term_X8_placeOfBit : GoodIn wsX8_term wsX8_placeOfBit := goodIn_r _ [80] (by decide +kernel) (by decide +kernel)
set_option maxRecDepth 20000 in
theorem gX8_term_X8_placeOfBit : GoodIn wsX8_term (va_wsS RX8 84 yX8_placeOfBit wsX8_placeOfBit) := goodIn_app (goodIn_of _ (by decide +kernel)) ggX8_term_X8_placeOfBit
set_option maxRecDepth 20000 in
theorem ggX8_term_X0_start : GoodIn wsX8_term wsX0_start := goodIn_r _ [26, 27, 28, 12, 13, 14, 29, 30, 31, 95, 96] (by decide +kernel) (by decide +kernel)
set_option maxRecDepth 20000 in
theorem gX8_term_X0_start : GoodIn wsX8_term (wsV RX8 88 RX0 yX0_start wsX0_start) := goodIn_app (goodIn_of _ (by decide +kernel)) ggX8_term_X0_start
set_option maxRecDepth 20000 in
theorem ggX8_term_X0_numberAt : GoodIn wsX8_term wsX0_numberAt := goodIn_r _ [65, 66, 95, 96] (by decide +kernel) (by decide +kernel)
set_option maxRecDepth 20000 in
theorem gX8_term_X0_numberAt : GoodIn wsX8_term (wsV RX8 91 RX0 yX0_numberAt wsX0_numberAt) := goodIn_app (goodIn_of _ (by decide +kernel)) ggX8_term_X0_numberAt
set_option maxRecDepth 20000 in
theorem ggX8_many_X0_size : GoodIn wsX8_many wsX0_size := goodIn_r _ [6, 7, 18, 19] (by decide +kernel) (by decide +kernel)
set_option maxRecDepth 20000 in
theorem gX8_many_X0_size : GoodIn wsX8_many (wsV RX8 94 RX0 yX0_size wsX0_size) := goodIn_app (goodIn_of _ (by decide +kernel)) ggX8_many_X0_size
set_option maxRecDepth 20000 in
theorem ggX8_sumOfAllowed_X6_timesSum : GoodIn wsX8_sumOfAllowed wsX6_timesSum := goodIn_r _ [12, 13, 14, 15, 16, 17, 18, 19, 20, 4, 5, 6, 21, 22, 23, 24, 25, 26, 27, 28, 29, 30, 11, 31, 32, 33, 34, 35, 36, 47, 48, 49, 50] (by decide +kernel) (by decide +kernel)
set_option maxRecDepth 20000 in
theorem gX8_sumOfAllowed_X6_timesSum : GoodIn wsX8_sumOfAllowed (wsV RX8 102 RX6 yX6_timesSum wsX6_timesSum) := goodIn_app (goodIn_of _ (by decide +kernel)) ggX8_sumOfAllowed_X6_timesSum
set_option maxRecDepth 20000 in
theorem ggX8_sumOfRows_X4_timesSum : GoodIn wsX8_sumOfRows wsX4_timesSum := goodIn_r _ [12, 13, 14, 15, 16, 17, 18, 19, 20, 21, 22, 23, 24, 4, 5, 6, 25, 26, 27, 28, 29, 30, 11, 31, 32, 33, 34, 35, 36, 37, 38, 39, 40, 41, 42, 43, 44, 45, 46, 47, 58, 59, 60] (by decide +kernel) (by decide +kernel)
set_option maxRecDepth 20000 in
theorem gX8_sumOfRows_X4_timesSum : GoodIn wsX8_sumOfRows (wsV RX8 106 RX4 yX4_timesSum wsX4_timesSum) := goodIn_app (goodIn_of _ (by decide +kernel)) ggX8_sumOfRows_X4_timesSum
set_option maxRecDepth 20000 in
theorem ggX8_empty_X5_size : GoodIn wsX8_empty wsX5_size := goodIn_r _ [6, 7, 48, 49, 50, 51, 52] (by decide +kernel) (by decide +kernel)
set_option maxRecDepth 20000 in
theorem gX8_empty_X5_size : GoodIn wsX8_empty (wsV RX8 107 RX5 yX5_size wsX5_size) := goodIn_app (goodIn_of _ (by decide +kernel)) ggX8_empty_X5_size
set_option maxRecDepth 20000 in
theorem ggX8_empty_X5_restart : GoodIn wsX8_empty wsX5_restart := goodIn_r _ [11, 7, 12, 13, 14, 15, 16, 17, 48, 49, 50, 51, 52] (by decide +kernel) (by decide +kernel)
set_option maxRecDepth 20000 in
theorem gX8_empty_X5_restart : GoodIn wsX8_empty (wsV RX8 109 RX5 yX5_restart wsX5_restart) := goodIn_app (goodIn_of _ (by decide +kernel)) ggX8_empty_X5_restart
set_option maxRecDepth 20000 in
theorem ggX8_empty_X8_spaceHasChanged : GoodIn wsX8_empty wsX8_spaceHasChanged := goodIn_r _ [22, 23, 24, 25, 26, 27, 28, 29, 30, 31, 32, 33, 34, 35, 36, 37, 15, 16, 17, 38, 39, 40, 41, 42, 43, 44, 45, 46, 47, 53, 54, 55, 56, 57, 58, 59, 60, 61, 62, 63, 64, 65] (by decide +kernel) (by decide +kernel)
set_option maxRecDepth 20000 in
theorem gX8_empty_X8_spaceHasChanged : GoodIn wsX8_empty (wsV RX8 112 RX8 yX8_spaceHasChanged wsX8_spaceHasChanged) := goodIn_app (goodIn_of _ (by decide +kernel)) ggX8_empty_X8_spaceHasChanged
set_option maxRecDepth 20000 in
theorem ggX8_element_X5_size : GoodIn wsX8_element wsX5_size := goodIn_r _ [6, 7, 47, 48, 49, 50, 51] (by decide +kernel) (by decide +kernel)
set_option maxRecDepth 20000 in
theorem gX8_element_X5_size : GoodIn wsX8_element (wsV RX8 107 RX5 yX5_size wsX5_size) := goodIn_app (goodIn_of _ (by decide +kernel)) ggX8_element_X5_size
set_option maxRecDepth 20000 in
theorem ggX8_element_X8_spaceHasChanged : GoodIn wsX8_element wsX8_spaceHasChanged := goodIn_r _ [12, 13, 14, 15, 16, 17, 18, 19, 20, 21, 22, 23, 24, 25, 26, 27, 28, 29, 30, 37, 38, 39, 40, 41, 42, 43, 44, 45, 46, 52, 53, 54, 55, 56, 57, 58, 59, 60, 61, 62, 63, 64] (by decide +kernel) (by decide +kernel)
set_option maxRecDepth 20000 in
theorem gX8_element_X8_spaceHasChanged : GoodIn wsX8_element (wsV RX8 112 RX8 yX8_spaceHasChanged wsX8_spaceHasChanged) := goodIn_app (goodIn_of _ (by decide +kernel)) ggX8_element_X8_spaceHasChanged
set_option maxRecDepth 20000 in
theorem ggX8_element_X5_add : GoodIn wsX8_element wsX5_add := goodIn_r _ [34, 7, 35, 36, 47, 48, 49, 50, 51] (by decide +kernel) (by decide +kernel)
set_option maxRecDepth 20000 in
theorem gX8_element_X5_add : GoodIn wsX8_element (wsV RX8 115 RX5 yX5_add wsX5_add) := goodIn_app (goodIn_of _ (by decide +kernel)) ggX8_element_X5_add
set_option maxRecDepth 20000 in
theorem ggX8_act_X5_has : GoodIn wsX8_act wsX5_has := goodIn_r _ [6, 7, 62, 63, 64, 65, 66] (by decide +kernel) (by decide +kernel)
set_option maxRecDepth 20000 in
theorem gX8_act_X5_has : GoodIn wsX8_act (wsV RX8 118 RX5 yX5_has wsX5_has) := goodIn_app (goodIn_of _ (by decide +kernel)) ggX8_act_X5_has
set_option maxRecDepth 20000 in
theorem ggX8_act_X5_degreeOf : GoodIn wsX8_act wsX5_degreeOf := goodIn_r _ [11, 12, 13, 3, 4, 5, 6, 7, 62, 63, 64, 65, 66] (by decide +kernel) (by decide +kernel)
set_option maxRecDepth 20000 in
theorem gX8_act_X5_degreeOf : GoodIn wsX8_act (wsV RX8 122 RX5 yX5_degreeOf wsX5_degreeOf) := goodIn_app (goodIn_of _ (by decide +kernel)) ggX8_act_X5_degreeOf
set_option maxRecDepth 20000 in
theorem ggX8_act_X5_ofDegree : GoodIn wsX8_act wsX5_ofDegree := goodIn_r _ [17, 7, 18, 9, 10, 5, 11, 12, 13, 3, 4, 6, 62, 63, 64, 65, 66] (by decide +kernel) (by decide +kernel)
set_option maxRecDepth 20000 in
theorem gX8_act_X5_ofDegree : GoodIn wsX8_act (wsV RX8 125 RX5 yX5_ofDegree wsX5_ofDegree) := goodIn_app (goodIn_of _ (by decide +kernel)) ggX8_act_X5_ofDegree
set_option maxRecDepth 20000 in
theorem ggX8_act_X5_acted : GoodIn wsX8_act wsX5_acted := goodIn_r _ [22, 23, 62, 63, 64, 65, 66] (by decide +kernel) (by decide +kernel)
set_option maxRecDepth 20000 in
theorem gX8_act_X5_acted : GoodIn wsX8_act (wsV RX8 128 RX5 yX5_acted wsX5_acted) := goodIn_app (goodIn_of _ (by decide +kernel)) ggX8_act_X5_acted
set_option maxRecDepth 20000 in
theorem ggX8_act_X5_setAct : GoodIn wsX8_act wsX5_setAct := goodIn_r _ [27, 23, 28, 13, 3, 4, 5, 6, 7, 62, 63, 64, 65, 66] (by decide +kernel) (by decide +kernel)
set_option maxRecDepth 20000 in
theorem gX8_act_X5_setAct : GoodIn wsX8_act (wsV RX8 131 RX5 yX5_setAct wsX5_setAct) := goodIn_app (goodIn_of _ (by decide +kernel)) ggX8_act_X5_setAct
set_option maxRecDepth 20000 in
theorem ggX8_act_X8_spaceHasChanged : GoodIn wsX8_act wsX8_spaceHasChanged := goodIn_r _ [33, 34, 35, 36, 37, 38, 39, 40, 41, 42, 43, 44, 45, 46, 47, 48, 49, 50, 51, 52, 53, 54, 55, 56, 57, 58, 59, 60, 61, 67, 68, 69, 70, 71, 72, 73, 74, 75, 76, 77, 78, 79] (by decide +kernel) (by decide +kernel)
set_option maxRecDepth 20000 in
theorem gX8_act_X8_spaceHasChanged : GoodIn wsX8_act (wsV RX8 112 RX8 yX8_spaceHasChanged wsX8_spaceHasChanged) := goodIn_app (goodIn_of _ (by decide +kernel)) ggX8_act_X8_spaceHasChanged
set_option maxRecDepth 20000 in
theorem ggX8_space_X8_isName : GoodIn wsX8_space wsX8_isName := goodIn_r _ [5] (by decide +kernel) (by decide +kernel)
set_option maxRecDepth 20000 in
theorem gX8_space_X8_isName : GoodIn wsX8_space (va_wsS RX8 135 yX8_isName wsX8_isName) := goodIn_app (goodIn_of _ (by decide +kernel)) ggX8_space_X8_isName
set_option maxRecDepth 20000 in
theorem ggX8_space_X5_spread : GoodIn wsX8_space wsX5_spread := goodIn_r _ [10, 11, 12, 13, 9, 14, 15, 16, 17, 18, 19, 20, 21, 22, 23, 24, 25, 26, 27, 4, 28, 29, 30, 31, 32, 33, 34, 35, 36, 70, 71, 72, 73, 74] (by decide +kernel) (by decide +kernel)
set_option maxRecDepth 20000 in
theorem gX8_space_X5_spread : GoodIn wsX8_space (wsV RX8 139 RX5 yX5_spread wsX5_spread) := goodIn_app (goodIn_of _ (by decide +kernel)) ggX8_space_X5_spread
set_option maxRecDepth 20000 in
theorem ggX8_space_X8_spaceHasChanged : GoodIn wsX8_space wsX8_spaceHasChanged := goodIn_r _ [40, 41, 42, 43, 44, 45, 46, 47, 48, 49, 50, 51, 52, 53, 54, 55, 19, 20, 21, 60, 61, 62, 63, 64, 65, 66, 67, 68, 69, 75, 76, 77, 78, 79, 80, 81, 82, 83, 84, 85, 86, 87] (by decide +kernel) (by decide +kernel)
set_option maxRecDepth 20000 in
theorem gX8_space_X8_spaceHasChanged : GoodIn wsX8_space (wsV RX8 112 RX8 yX8_spaceHasChanged wsX8_spaceHasChanged) := goodIn_app (goodIn_of _ (by decide +kernel)) ggX8_space_X8_spaceHasChanged
set_option maxRecDepth 20000 in
theorem ggX8_space_X5_size : GoodIn wsX8_space wsX5_size := goodIn_r _ [59, 15, 70, 71, 72, 73, 74] (by decide +kernel) (by decide +kernel)
set_option maxRecDepth 20000 in
theorem gX8_space_X5_size : GoodIn wsX8_space (wsV RX8 107 RX5 yX5_size wsX5_size) := goodIn_app (goodIn_of _ (by decide +kernel)) ggX8_space_X5_size
set_option maxRecDepth 20000 in
theorem ggX8_does_X5_has : GoodIn wsX8_does wsX5_has := goodIn_r _ [12, 13, 33, 34, 35, 36, 37] (by decide +kernel) (by decide +kernel)
set_option maxRecDepth 20000 in
theorem gX8_does_X5_has : GoodIn wsX8_does (wsV RX8 118 RX5 yX5_has wsX5_has) := goodIn_app (goodIn_of _ (by decide +kernel)) ggX8_does_X5_has
set_option maxRecDepth 20000 in
theorem ggX8_does_X5_apply : GoodIn wsX8_does wsX5_apply := goodIn_r _ [17, 13, 18, 19, 20, 11, 21, 22, 33, 34, 35, 36, 37] (by decide +kernel) (by decide +kernel)
set_option maxRecDepth 20000 in
theorem gX8_does_X5_apply : GoodIn wsX8_does (wsV RX8 142 RX5 yX5_apply wsX5_apply) := goodIn_app (goodIn_of _ (by decide +kernel)) ggX8_does_X5_apply
set_option maxRecDepth 20000 in
theorem ggX8_about_X5_has : GoodIn wsX8_about wsX5_has := goodIn_r _ [6, 7, 29, 30, 31, 32, 33] (by decide +kernel) (by decide +kernel)
set_option maxRecDepth 20000 in
theorem gX8_about_X5_has : GoodIn wsX8_about (wsV RX8 118 RX5 yX5_has wsX5_has) := goodIn_app (goodIn_of _ (by decide +kernel)) ggX8_about_X5_has
set_option maxRecDepth 20000 in
theorem ggX8_about_X5_degreeOf : GoodIn wsX8_about wsX5_degreeOf := goodIn_r _ [11, 12, 13, 3, 4, 5, 6, 7, 29, 30, 31, 32, 33] (by decide +kernel) (by decide +kernel)
set_option maxRecDepth 20000 in
theorem gX8_about_X5_degreeOf : GoodIn wsX8_about (wsV RX8 122 RX5 yX5_degreeOf wsX5_degreeOf) := goodIn_app (goodIn_of _ (by decide +kernel)) ggX8_about_X5_degreeOf
set_option maxRecDepth 20000 in
theorem ggX8_about_X5_acted : GoodIn wsX8_about wsX5_acted := goodIn_r _ [17, 18, 29, 30, 31, 32, 33] (by decide +kernel) (by decide +kernel)
set_option maxRecDepth 20000 in
theorem gX8_about_X5_acted : GoodIn wsX8_about (wsV RX8 128 RX5 yX5_acted wsX5_acted) := goodIn_app (goodIn_of _ (by decide +kernel)) ggX8_about_X5_acted
set_option maxRecDepth 20000 in
theorem ggX8_fault_X5_firstFault : GoodIn wsX8_fault wsX5_firstFault := goodIn_r _ [6, 7, 8, 9, 10, 11, 5, 12, 13, 14, 15, 16, 17, 18, 19, 20, 21, 22, 23, 24, 25, 26, 27, 28, 29, 30, 31, 32, 33, 44, 45, 46, 47, 48] (by decide +kernel) (by decide +kernel)
set_option maxRecDepth 20000 in
theorem gX8_fault_X5_firstFault : GoodIn wsX8_fault (wsV RX8 145 RX5 yX5_firstFault wsX5_firstFault) := goodIn_app (goodIn_of _ (by decide +kernel)) ggX8_fault_X5_firstFault
set_option maxRecDepth 20000 in
theorem ggX8_spaceHasChanged_X7_restart : GoodIn wsX8_spaceHasChanged wsX7_restart := goodIn_r _ [7, 8, 29, 30, 31, 32, 33, 34, 35, 36, 37, 38, 39, 40] (by decide +kernel) (by decide +kernel)
set_option maxRecDepth 20000 in
theorem gX8_spaceHasChanged_X7_restart : GoodIn wsX8_spaceHasChanged (wsV RX8 148 RX7 yX7_restart wsX7_restart) := goodIn_app (goodIn_of _ (by decide +kernel)) ggX8_spaceHasChanged_X7_restart
set_option maxRecDepth 20000 in
theorem ggX8_spaceHasChanged_X2_wipe : GoodIn wsX8_spaceHasChanged wsX2_wipe := goodIn_r _ [13, 14, 15, 16, 17, 18, 41] (by decide +kernel) (by decide +kernel)
set_option maxRecDepth 20000 in
theorem gX8_spaceHasChanged_X2_wipe : GoodIn wsX8_spaceHasChanged (wsV RX8 149 RX2 yX2_wipe wsX2_wipe) := goodIn_app (goodIn_of _ (by decide +kernel)) ggX8_spaceHasChanged_X2_wipe
set_option maxRecDepth 20000 in
theorem ggX8_live_X8_isInChart : GoodIn wsX8_live wsX8_isInChart := goodIn_r _ [6] (by decide +kernel) (by decide +kernel)
set_option maxRecDepth 20000 in
theorem gX8_live_X8_isInChart : GoodIn wsX8_live (va_wsS RX8 152 yX8_isInChart wsX8_isInChart) := goodIn_app (goodIn_of _ (by decide +kernel)) ggX8_live_X8_isInChart
set_option maxRecDepth 20000 in
theorem ggX8_live_X5_isSound : GoodIn wsX8_live wsX5_isSound := goodIn_r _ [11, 12, 13, 14, 10, 15, 16, 17, 18, 19, 20, 21, 22, 23, 24, 25, 26, 27, 28, 29, 30, 31, 32, 33, 34, 35, 36, 37, 38, 39, 40, 5, 41, 258, 259, 260, 261, 262] (by decide +kernel) (by decide +kernel)
set_option maxRecDepth 20000 in
theorem gX8_live_X5_isSound : GoodIn wsX8_live (wsV RX8 156 RX5 yX5_isSound wsX5_isSound) := goodIn_app (goodIn_of _ (by decide +kernel)) ggX8_live_X5_isSound
set_option maxRecDepth 20000 in
theorem ggX8_live_X7_build : GoodIn wsX8_live wsX7_build := goodIn_r _ [46, 47, 48, 49, 50, 51, 52, 53, 54, 55, 56, 57, 58, 59, 60, 61, 62, 63, 64, 65, 66, 67, 68, 69, 70, 71, 72, 45, 73, 74, 75, 76, 77, 78, 79, 80, 81, 82, 10, 83, 22, 84, 85, 86, 87, 88, 89, 90, 91, 92, 93, 94, 95, 96, 97, 98, 99, 100, 101, 102, 103, 104, 105, 106, 107, 108, 109, 110, 111, 112, 113, 114, 115, 116, 117, 118, 119, 120, 121, 122, 123, 124, 125, 126, 127, 128, 129, 130, 131, 25, 132, 133, 134, 135, 136, 137, 138, 139, 140, 141, 142, 143, 144, 145, 146, 147, 148, 149, 150, 151, 152, 153, 154, 155, 156, 157, 158, 159, 160, 161, 162, 163, 164, 165, 166, 167, 168, 169, 170, 171, 172, 173, 174, 175, 176, 177, 178, 179, 180, 181, 182, 183, 184, 185, 186, 187, 188, 189, 190, 191, 192, 193, 194, 195, 196, 197, 198, 199, 200, 201, 202, 203, 204, 205, 33, 34, 35, 27, 28, 29, 30, 31, 206, 207, 208, 209, 210, 211, 212, 213, 214, 215, 216, 217, 218, 219, 220, 221, 222, 223, 224, 225, 226, 227, 228, 229, 230, 231, 232, 233, 234, 235, 236, 237, 238, 239, 263, 264, 265, 266, 267, 268, 269, 270, 271, 272, 273, 274, 275, 276, 277, 278, 279, 280, 281, 258, 259, 260, 261, 262, 282, 283, 284, 285] (by decide +kernel) (by decide +kernel)
set_option maxRecDepth 20000 in
theorem gX8_live_X7_build : GoodIn wsX8_live (wsV RX8 160 RX7 yX7_build wsX7_build) := goodIn_app (goodIn_of _ (by decide +kernel)) ggX8_live_X7_build
set_option maxRecDepth 20000 in
theorem ggX8_live_X7_generatorsAt : GoodIn wsX8_live wsX7_generatorsAt := goodIn_r _ [243, 48, 244, 245, 246, 52, 247, 54, 119, 120, 121, 122, 123, 263, 264, 265, 266, 267, 268, 269, 270, 271, 272, 273, 274, 275, 276, 277, 278] (by decide +kernel) (by decide +kernel)
set_option maxRecDepth 20000 in
theorem gX8_live_X7_generatorsAt : GoodIn wsX8_live (wsV RX8 164 RX7 yX7_generatorsAt wsX7_generatorsAt) := goodIn_app (goodIn_of _ (by decide +kernel)) ggX8_live_X7_generatorsAt
set_option maxRecDepth 20000 in
theorem ggX8_joins_X5_isSound : GoodIn wsX8_joins wsX5_isSound := goodIn_r _ [7, 8, 9, 10, 6, 11, 12, 13, 14, 15, 16, 17, 18, 19, 20, 21, 22, 23, 24, 25, 26, 27, 28, 29, 30, 31, 32, 33, 34, 35, 36, 37, 38, 259, 260, 261, 262, 263] (by decide +kernel) (by decide +kernel)
set_option maxRecDepth 20000 in
theorem gX8_joins_X5_isSound : GoodIn wsX8_joins (wsV RX8 156 RX5 yX5_isSound wsX5_isSound) := goodIn_app (goodIn_of _ (by decide +kernel)) ggX8_joins_X5_isSound
set_option maxRecDepth 20000 in
theorem ggX8_joins_X7_build : GoodIn wsX8_joins wsX7_build := goodIn_r _ [43, 44, 45, 46, 47, 48, 49, 50, 51, 52, 53, 54, 55, 56, 57, 58, 59, 60, 61, 62, 63, 64, 65, 66, 67, 68, 69, 42, 70, 71, 72, 73, 74, 75, 76, 77, 78, 79, 6, 80, 18, 81, 82, 83, 84, 85, 86, 87, 88, 89, 90, 91, 92, 93, 94, 95, 96, 97, 98, 99, 100, 101, 102, 103, 104, 105, 106, 107, 108, 109, 110, 111, 112, 113, 114, 115, 116, 117, 118, 119, 120, 121, 122, 123, 124, 125, 126, 127, 128, 21, 129, 130, 131, 132, 133, 134, 135, 136, 137, 138, 139, 140, 141, 142, 143, 144, 145, 146, 147, 148, 149, 150, 151, 152, 153, 154, 155, 156, 157, 158, 159, 160, 161, 162, 163, 164, 165, 166, 167, 168, 169, 170, 171, 172, 173, 174, 175, 176, 177, 178, 179, 180, 181, 182, 183, 184, 185, 186, 187, 188, 189, 190, 191, 192, 193, 194, 195, 196, 197, 198, 199, 200, 201, 202, 29, 30, 31, 23, 24, 25, 26, 27, 203, 204, 205, 206, 207, 208, 209, 210, 211, 212, 213, 214, 215, 216, 217, 218, 219, 220, 221, 222, 223, 224, 225, 226, 227, 228, 229, 230, 231, 232, 233, 234, 235, 236, 264, 265, 266, 267, 268, 269, 270, 271, 272, 273, 274, 275, 276, 277, 278, 279, 280, 281, 282, 259, 260, 261, 262, 263, 283, 284, 285, 286] (by decide +kernel) (by decide +kernel)
set_option maxRecDepth 20000 in
theorem gX8_joins_X7_build : GoodIn wsX8_joins (wsV RX8 160 RX7 yX7_build wsX7_build) := goodIn_app (goodIn_of _ (by decide +kernel)) ggX8_joins_X7_build
set_option maxRecDepth 20000 in
theorem ggX8_joins_X7_rankOfJoins : GoodIn wsX8_joins wsX7_rankOfJoins := goodIn_r _ [240, 45, 241, 76, 59, 60, 61, 138, 139, 140, 49, 141, 51, 142, 117, 118, 119, 120, 157, 158, 159, 160, 52, 242, 243, 42, 244, 155, 112, 113, 114, 115, 116, 121, 122, 123, 124, 125, 126, 245, 246, 247, 56, 248, 189, 190, 191, 192, 66, 65, 98, 264, 265, 266, 267, 268, 269, 270, 271, 272, 273, 274, 275, 276, 277, 278, 279, 283, 284, 280, 281, 282] (by decide +kernel) (by decide +kernel)
set_option maxRecDepth 20000 in
theorem gX8_joins_X7_rankOfJoins : GoodIn wsX8_joins (wsV RX8 167 RX7 yX7_rankOfJoins wsX7_rankOfJoins) := goodIn_app (goodIn_of _ (by decide +kernel)) ggX8_joins_X7_rankOfJoins
set_option maxRecDepth 20000 in
theorem ggX8_balance_X5_isSound : GoodIn wsX8_balance wsX5_isSound := goodIn_r _ [9, 10, 11, 12, 8, 13, 14, 15, 16, 17, 18, 19, 20, 21, 22, 23, 24, 25, 26, 27, 28, 29, 30, 31, 32, 33, 34, 35, 36, 37, 38, 39, 40, 261, 262, 263, 264, 265] (by decide +kernel) (by decide +kernel)
set_option maxRecDepth 20000 in
theorem gX8_balance_X5_isSound : GoodIn wsX8_balance (wsV RX8 156 RX5 yX5_isSound wsX5_isSound) := goodIn_app (goodIn_of _ (by decide +kernel)) ggX8_balance_X5_isSound
set_option maxRecDepth 20000 in
theorem ggX8_balance_X7_build : GoodIn wsX8_balance wsX7_build := goodIn_r _ [45, 46, 47, 48, 49, 50, 51, 52, 53, 54, 55, 56, 57, 58, 59, 60, 61, 62, 63, 64, 65, 66, 67, 68, 69, 70, 71, 44, 72, 73, 74, 75, 76, 77, 78, 79, 80, 81, 8, 82, 20, 83, 84, 85, 86, 87, 88, 89, 90, 91, 92, 93, 94, 95, 96, 97, 98, 99, 100, 101, 102, 103, 104, 105, 106, 107, 108, 109, 110, 111, 112, 113, 114, 115, 116, 117, 118, 119, 120, 121, 122, 123, 124, 125, 126, 127, 128, 129, 130, 23, 131, 132, 133, 134, 135, 136, 137, 138, 139, 140, 141, 142, 143, 144, 145, 146, 147, 148, 149, 150, 151, 152, 153, 154, 155, 156, 157, 158, 159, 160, 161, 162, 163, 164, 165, 166, 167, 168, 169, 170, 171, 172, 173, 174, 175, 176, 177, 178, 179, 180, 181, 182, 183, 184, 185, 186, 187, 188, 189, 190, 191, 192, 193, 194, 195, 196, 197, 198, 199, 200, 201, 202, 203, 204, 31, 32, 33, 25, 26, 27, 28, 29, 205, 206, 207, 208, 209, 210, 211, 212, 213, 214, 215, 216, 217, 218, 219, 220, 221, 222, 223, 224, 225, 226, 227, 228, 229, 230, 231, 232, 233, 234, 235, 236, 237, 238, 266, 267, 268, 269, 270, 271, 272, 273, 274, 275, 276, 277, 278, 279, 280, 281, 282, 283, 284, 261, 262, 263, 264, 265, 285, 286, 287, 288] (by decide +kernel) (by decide +kernel)
set_option maxRecDepth 20000 in
theorem gX8_balance_X7_build : GoodIn wsX8_balance (wsV RX8 160 RX7 yX7_build wsX7_build) := goodIn_app (goodIn_of _ (by decide +kernel)) ggX8_balance_X7_build
set_option maxRecDepth 20000 in
theorem ggX8_balance_X7_turnByTurn : GoodIn wsX8_balance wsX7_turnByTurn := goodIn_r _ [242, 47, 109, 110, 111, 51, 112, 53, 113, 114, 115, 116, 117, 118, 119, 120, 121, 122, 123, 124, 125, 126, 127, 128, 266, 267, 268, 269, 270, 271, 272, 273, 274, 275, 276, 277, 278, 279, 280, 281, 285, 286] (by decide +kernel) (by decide +kernel)
set_option maxRecDepth 20000 in
theorem gX8_balance_X7_turnByTurn : GoodIn wsX8_balance (wsV RX8 172 RX7 yX7_turnByTurn wsX7_turnByTurn) := goodIn_app (goodIn_of _ (by decide +kernel)) ggX8_balance_X7_turnByTurn
set_option maxRecDepth 20000 in
theorem ggX8_balance_X5_ofDegree : GoodIn wsX8_balance wsX5_ofDegree := goodIn_r _ [82, 20, 83, 84, 85, 8, 86, 87, 88, 89, 90, 91, 261, 262, 263, 264, 265] (by decide +kernel) (by decide +kernel)
set_option maxRecDepth 20000 in
theorem gX8_balance_X5_ofDegree : GoodIn wsX8_balance (wsV RX8 125 RX5 yX5_ofDegree wsX5_ofDegree) := goodIn_app (goodIn_of _ (by decide +kernel)) ggX8_balance_X5_ofDegree
set_option maxRecDepth 20000 in
theorem ggX8_balance_J6_bitCount_0f7a4 : GoodIn wsX8_balance wsJ6_bitCount_0f7a4 := goodIn_r _ [247, 248, 249, 250] (by decide +kernel) (by decide +kernel)
set_option maxRecDepth 20000 in
theorem gX8_balance_J6_bitCount_0f7a4 : GoodIn wsX8_balance (va_wsS RX8 78 yJ6_bitCount_0f7a4 wsJ6_bitCount_0f7a4) := goodIn_app (goodIn_of _ (by decide +kernel)) ggX8_balance_J6_bitCount_0f7a4
set_option maxRecDepth 20000 in
theorem ggX8_differ_X8_isInChart : GoodIn wsX8_differ wsX8_isInChart := goodIn_r _ [7] (by decide +kernel) (by decide +kernel)
set_option maxRecDepth 20000 in
theorem gX8_differ_X8_isInChart : GoodIn wsX8_differ (va_wsS RX8 152 yX8_isInChart wsX8_isInChart) := goodIn_app (goodIn_of _ (by decide +kernel)) ggX8_differ_X8_isInChart
set_option maxRecDepth 20000 in
theorem ggX8_differ_X5_isSound : GoodIn wsX8_differ wsX5_isSound := goodIn_r _ [12, 13, 14, 15, 11, 16, 17, 18, 19, 20, 21, 22, 23, 24, 25, 26, 27, 28, 29, 30, 31, 32, 33, 34, 35, 36, 37, 38, 39, 40, 41, 6, 42, 294, 295, 296, 297, 298] (by decide +kernel) (by decide +kernel)
set_option maxRecDepth 20000 in
theorem gX8_differ_X5_isSound : GoodIn wsX8_differ (wsV RX8 156 RX5 yX5_isSound wsX5_isSound) := goodIn_app (goodIn_of _ (by decide +kernel)) ggX8_differ_X5_isSound
set_option maxRecDepth 20000 in
theorem ggX8_differ_X7_build : GoodIn wsX8_differ wsX7_build := goodIn_r _ [47, 48, 49, 50, 51, 52, 53, 54, 55, 56, 57, 58, 59, 60, 61, 62, 63, 64, 65, 66, 67, 68, 69, 70, 71, 72, 73, 46, 74, 75, 76, 77, 78, 79, 80, 81, 82, 83, 11, 84, 23, 85, 86, 87, 88, 89, 90, 91, 92, 93, 94, 95, 96, 97, 98, 99, 100, 101, 102, 103, 104, 105, 106, 107, 108, 109, 110, 111, 112, 113, 114, 115, 116, 117, 118, 119, 120, 121, 122, 123, 124, 125, 126, 127, 128, 129, 130, 131, 132, 26, 133, 134, 135, 136, 137, 138, 139, 140, 141, 142, 143, 144, 145, 146, 147, 148, 149, 150, 151, 152, 153, 154, 155, 156, 157, 158, 159, 160, 161, 162, 163, 164, 165, 166, 167, 168, 169, 170, 171, 172, 173, 174, 175, 176, 177, 178, 179, 180, 181, 182, 183, 184, 185, 186, 187, 188, 189, 190, 191, 192, 193, 194, 195, 196, 197, 198, 199, 200, 201, 202, 203, 204, 205, 206, 34, 35, 36, 28, 29, 30, 31, 32, 207, 208, 209, 210, 211, 212, 213, 214, 215, 216, 217, 218, 219, 220, 221, 222, 223, 224, 225, 226, 227, 228, 229, 230, 231, 232, 233, 234, 235, 236, 237, 238, 239, 240, 299, 300, 301, 302, 303, 304, 305, 306, 307, 308, 309, 310, 311, 312, 313, 314, 315, 316, 317, 294, 295, 296, 297, 298, 318, 319, 320, 321] (by decide +kernel) (by decide +kernel)
set_option maxRecDepth 20000 in
theorem gX8_differ_X7_build : GoodIn wsX8_differ (wsV RX8 160 RX7 yX7_build wsX7_build) := goodIn_app (goodIn_of _ (by decide +kernel)) ggX8_differ_X7_build
set_option maxRecDepth 20000 in
theorem ggX8_differ_X8_mayBeTold : GoodIn wsX8_differ wsX8_mayBeTold := goodIn_r _ [244, 3, 245, 246, 247, 248, 249, 250, 251, 252, 253, 5, 6, 7, 254, 255, 256, 257, 258, 67, 64, 68, 259, 260, 261, 262, 263, 264, 265, 266, 267, 268, 269, 270, 271, 2, 272, 273, 274, 46, 275, 49, 276, 277, 278, 53, 279, 55, 120, 121, 122, 123, 124, 284, 285, 286, 287, 288, 289, 290, 291, 292, 293, 322, 299, 300, 301, 302, 303, 304, 305, 306, 307, 308, 309, 310, 311, 312, 313, 314] (by decide +kernel) (by decide +kernel)
set_option maxRecDepth 20000 in
theorem gX8_differ_X8_mayBeTold : GoodIn wsX8_differ (wsV RX8 175 RX8 yX8_mayBeTold wsX8_mayBeTold) := goodIn_app (goodIn_of _ (by decide +kernel)) ggX8_differ_X8_mayBeTold
set_option maxRecDepth 20000 in
theorem ggX8_differ_X2_tell : GoodIn wsX8_differ wsX2_tell := goodIn_r _ [283, 250, 251, 252, 248, 253, 5, 6, 7, 322] (by decide +kernel) (by decide +kernel)
set_option maxRecDepth 20000 in
theorem gX8_differ_X2_tell : GoodIn wsX8_differ (wsV RX8 179 RX2 yX2_tell wsX2_tell) := goodIn_app (goodIn_of _ (by decide +kernel)) ggX8_differ_X2_tell
set_option maxRecDepth 20000 in
theorem ggX8_page_X8_isInChart : GoodIn wsX8_page wsX8_isInChart := goodIn_r _ [6] (by decide +kernel) (by decide +kernel)
set_option maxRecDepth 20000 in
theorem gX8_page_X8_isInChart : GoodIn wsX8_page (va_wsS RX8 152 yX8_isInChart wsX8_isInChart) := goodIn_app (goodIn_of _ (by decide +kernel)) ggX8_page_X8_isInChart
set_option maxRecDepth 20000 in
theorem ggX8_page_X5_isSound : GoodIn wsX8_page wsX5_isSound := goodIn_r _ [11, 12, 13, 14, 10, 15, 16, 17, 18, 19, 20, 21, 22, 23, 24, 25, 26, 27, 28, 29, 30, 31, 32, 33, 34, 35, 36, 37, 38, 39, 40, 5, 41, 276, 277, 278, 279, 280] (by decide +kernel) (by decide +kernel)
set_option maxRecDepth 20000 in
theorem gX8_page_X5_isSound : GoodIn wsX8_page (wsV RX8 156 RX5 yX5_isSound wsX5_isSound) := goodIn_app (goodIn_of _ (by decide +kernel)) ggX8_page_X5_isSound
set_option maxRecDepth 20000 in
theorem ggX8_page_X7_build : GoodIn wsX8_page wsX7_build := goodIn_r _ [46, 47, 48, 49, 50, 51, 52, 53, 54, 55, 56, 57, 58, 59, 60, 61, 62, 63, 64, 65, 66, 67, 68, 69, 70, 71, 72, 45, 73, 74, 75, 76, 77, 78, 79, 80, 81, 82, 10, 83, 22, 84, 85, 86, 87, 88, 89, 90, 91, 92, 93, 94, 95, 96, 97, 98, 99, 100, 101, 102, 103, 104, 105, 106, 107, 108, 109, 110, 111, 112, 113, 114, 115, 116, 117, 118, 119, 120, 121, 122, 123, 124, 125, 126, 127, 128, 129, 130, 131, 25, 132, 133, 134, 135, 136, 137, 138, 139, 140, 141, 142, 143, 144, 145, 146, 147, 148, 149, 150, 151, 152, 153, 154, 155, 156, 157, 158, 159, 160, 161, 162, 163, 164, 165, 166, 167, 168, 169, 170, 171, 172, 173, 174, 175, 176, 177, 178, 179, 180, 181, 182, 183, 184, 185, 186, 187, 188, 189, 190, 191, 192, 193, 194, 195, 196, 197, 198, 199, 200, 201, 202, 203, 204, 205, 33, 34, 35, 27, 28, 29, 30, 31, 206, 207, 208, 209, 210, 211, 212, 213, 214, 215, 216, 217, 218, 219, 220, 221, 222, 223, 224, 225, 226, 227, 228, 229, 230, 231, 232, 233, 234, 235, 236, 237, 238, 239, 281, 282, 283, 284, 285, 286, 287, 288, 289, 290, 291, 292, 293, 294, 295, 296, 297, 298, 299, 276, 277, 278, 279, 280, 300, 301, 302, 303] (by decide +kernel) (by decide +kernel)
set_option maxRecDepth 20000 in
theorem gX8_page_X7_build : GoodIn wsX8_page (wsV RX8 160 RX7 yX7_build wsX7_build) := goodIn_app (goodIn_of _ (by decide +kernel)) ggX8_page_X7_build
set_option maxRecDepth 20000 in
theorem ggX8_page_X8_leftOnPage : GoodIn wsX8_page wsX8_leftOnPage := goodIn_r _ [243, 2, 244, 245, 246, 247, 45, 248, 48, 249, 250, 251, 52, 252, 54, 119, 120, 121, 122, 123, 253, 254, 255, 256, 257, 258, 259, 260, 261, 262, 263, 264, 265, 4, 5, 6, 266, 267, 268, 269, 270, 271, 272, 273, 274, 275, 281, 282, 283, 284, 285, 286, 287, 288, 289, 290, 291, 292, 293, 294, 295, 296, 304] (by decide +kernel) (by decide +kernel)
set_option maxRecDepth 20000 in
theorem gX8_page_X8_leftOnPage : GoodIn wsX8_page (wsV RX8 183 RX8 yX8_leftOnPage wsX8_leftOnPage) := goodIn_app (goodIn_of _ (by decide +kernel)) ggX8_page_X8_leftOnPage
set_option maxRecDepth 20000 in
theorem ggX8_count_X5_size : GoodIn wsX8_count wsX5_size := goodIn_r _ [9, 10, 35, 36, 37, 38, 39] (by decide +kernel) (by decide +kernel)
set_option maxRecDepth 20000 in
theorem gX8_count_X5_size : GoodIn wsX8_count (wsV RX8 107 RX5 yX5_size wsX5_size) := goodIn_app (goodIn_of _ (by decide +kernel)) ggX8_count_X5_size
set_option maxRecDepth 20000 in
theorem ggX8_count_X2_told : GoodIn wsX8_count wsX2_told := goodIn_r _ [15, 16, 17, 18, 14, 19, 20, 21, 22, 23, 24, 40] (by decide +kernel) (by decide +kernel)
set_option maxRecDepth 20000 in
theorem gX8_count_X2_told : GoodIn wsX8_count (wsV RX8 186 RX2 yX2_told wsX2_told) := goodIn_app (goodIn_of _ (by decide +kernel)) ggX8_count_X2_told
set_option maxRecDepth 20000 in
theorem ggX8_mayBeTold_X2_rankOf : GoodIn wsX8_mayBeTold wsX2_rankOf := goodIn_r _ [6, 7, 8, 9, 5, 10, 11, 12, 13, 63] (by decide +kernel) (by decide +kernel)
set_option maxRecDepth 20000 in
theorem gX8_mayBeTold_X2_rankOf : GoodIn wsX8_mayBeTold (wsV RX8 189 RX2 yX2_rankOf wsX2_rankOf) := goodIn_app (goodIn_of _ (by decide +kernel)) ggX8_mayBeTold_X2_rankOf
set_option maxRecDepth 20000 in
theorem ggX8_mayBeTold_X2_isLongerTold : GoodIn wsX8_mayBeTold wsX2_isLongerTold := goodIn_r _ [17, 18, 19, 20, 21, 8, 9, 5, 10, 11, 12, 13, 22, 23, 24, 25, 7, 63] (by decide +kernel) (by decide +kernel)
set_option maxRecDepth 20000 in
theorem gX8_mayBeTold_X2_isLongerTold : GoodIn wsX8_mayBeTold (wsV RX8 192 RX2 yX2_isLongerTold wsX2_isLongerTold) := goodIn_app (goodIn_of _ (by decide +kernel)) ggX8_mayBeTold_X2_isLongerTold
set_option maxRecDepth 20000 in
theorem ggX8_mayBeTold_X2_spent : GoodIn wsX8_mayBeTold wsX2_spent := goodIn_r _ [29, 30, 3, 4, 5, 6, 7, 8, 9, 10, 11, 12, 13, 63] (by decide +kernel) (by decide +kernel)
set_option maxRecDepth 20000 in
theorem gX8_mayBeTold_X2_spent : GoodIn wsX8_mayBeTold (wsV RX8 195 RX2 yX2_spent wsX2_spent) := goodIn_app (goodIn_of _ (by decide +kernel)) ggX8_mayBeTold_X2_spent
set_option maxRecDepth 20000 in
theorem ggX8_mayBeTold_X8_leftOnPage : GoodIn wsX8_mayBeTold wsX8_leftOnPage := goodIn_r _ [34, 35, 1, 36, 37, 38, 39, 40, 41, 42, 43, 44, 45, 46, 47, 48, 49, 50, 51, 52, 26, 27, 28, 5, 29, 30, 3, 4, 6, 7, 8, 9, 10, 11, 12, 13, 53, 54, 55, 56, 57, 58, 59, 60, 61, 62, 64, 65, 66, 67, 68, 69, 70, 71, 72, 73, 74, 75, 76, 77, 78, 79, 63] (by decide +kernel) (by decide +kernel)
set_option maxRecDepth 20000 in
theorem gX8_mayBeTold_X8_leftOnPage : GoodIn wsX8_mayBeTold (wsV RX8 183 RX8 yX8_leftOnPage wsX8_leftOnPage) := goodIn_app (goodIn_of _ (by decide +kernel)) ggX8_mayBeTold_X8_leftOnPage
set_option maxRecDepth 20000 in
theorem ggX8_leftOnPage_X7_generatorsAt : GoodIn wsX8_leftOnPage wsX7_generatorsAt := goodIn_r _ [7, 8, 9, 10, 11, 12, 13, 14, 15, 16, 17, 18, 19, 46, 47, 48, 49, 50, 51, 52, 53, 54, 55, 56, 57, 58, 59, 60, 61] (by decide +kernel) (by decide +kernel)
set_option maxRecDepth 20000 in
theorem gX8_leftOnPage_X7_generatorsAt : GoodIn wsX8_leftOnPage (wsV RX8 164 RX7 yX7_generatorsAt wsX7_generatorsAt) := goodIn_app (goodIn_of _ (by decide +kernel)) ggX8_leftOnPage_X7_generatorsAt
set_option maxRecDepth 20000 in
theorem ggX8_leftOnPage_X2_spent : GoodIn wsX8_leftOnPage wsX2_spent := goodIn_r _ [24, 25, 26, 27, 23, 28, 29, 30, 31, 32, 33, 34, 35, 62] (by decide +kernel) (by decide +kernel)
set_option maxRecDepth 20000 in
theorem gX8_leftOnPage_X2_spent : GoodIn wsX8_leftOnPage (wsV RX8 195 RX2 yX2_spent wsX2_spent) := goodIn_app (goodIn_of _ (by decide +kernel)) ggX8_leftOnPage_X2_spent
