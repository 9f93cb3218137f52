set_option maxRecDepth 20000 in
theorem ggX0_init_X0_share : GoodIn wsX0_init wsX0_share := goodIn_r _ [10] (by decide +kernel) (by decide +kernel)
set_option maxRecDepth 20000 in
theorem gX0_init_X0_share : GoodIn wsX0_init (va_wsS RX0 18 yX0_share wsX0_share) := goodIn_app (goodIn_of _ (by decide +kernel)) ggX0_init_X0_share
set_option maxRecDepth 20000 in
theorem ggX0_find_X0_start : GoodIn wsX0_find wsX0_start := goodIn_r _ [5, 6, 7, 8, 9, 10, 11, 12, 13, 19, 20] (by decide +kernel) (by decide +kernel)
set_option maxRecDepth 20000 in
theorem gX0_find_X0_start : GoodIn wsX0_find (wsV RX0 30 RX0 yX0_start wsX0_start) := goodIn_app (goodIn_of _ (by decide +kernel)) ggX0_find_X0_start
set_option maxRecDepth 20000 in
theorem ggX0_find_X0_numberAt : GoodIn wsX0_find wsX0_numberAt := goodIn_r _ [17, 18, 19, 20] (by decide +kernel) (by decide +kernel)
set_option maxRecDepth 20000 in
theorem gX0_find_X0_numberAt : GoodIn wsX0_find (wsV RX0 34 RX0 yX0_numberAt wsX0_numberAt) := goodIn_app (goodIn_of _ (by decide +kernel)) ggX0_find_X0_numberAt
set_option maxRecDepth 20000 in
theorem ggX0_bit_X0_start : GoodIn wsX0_bit wsX0_start := goodIn_r _ [5, 6, 7, 8, 9, 10, 11, 12, 13, 18, 19] (by decide +kernel) (by decide +kernel)
set_option maxRecDepth 20000 in
theorem gX0_bit_X0_start : GoodIn wsX0_bit (wsV RX0 30 RX0 yX0_start wsX0_start) := goodIn_app (goodIn_of _ (by decide +kernel)) ggX0_bit_X0_start
set_option maxRecDepth 20000 in
theorem ggX0_bit_X0_size : GoodIn wsX0_bit wsX0_size := goodIn_r _ [17, 6, 18, 19] (by decide +kernel) (by decide +kernel)
set_option maxRecDepth 20000 in
theorem gX0_bit_X0_size : GoodIn wsX0_bit (wsV RX0 37 RX0 yX0_size wsX0_size) := goodIn_app (goodIn_of _ (by decide +kernel)) ggX0_bit_X0_size
set_option maxRecDepth 20000 in
theorem ggX1_bit_X1_word : GoodIn wsX1_bit wsX1_word := goodIn_r _ [5, 6, 7, 8, 9, 10, 11] (by decide +kernel) (by decide +kernel)
set_option maxRecDepth 20000 in
theorem gX1_bit_X1_word : GoodIn wsX1_bit (wsV RX1 31 RX1 yX1_word wsX1_word) := goodIn_app (goodIn_of _ (by decide +kernel)) ggX1_bit_X1_word
set_option maxRecDepth 20000 in
theorem ggX1_firstBits_X1_word : GoodIn wsX1_firstBits wsX1_word := goodIn_r _ [6, 7, 8, 9, 10, 11, 12] (by decide +kernel) (by decide +kernel)
set_option maxRecDepth 20000 in
theorem gX1_firstBits_X1_word : GoodIn wsX1_firstBits (wsV RX1 31 RX1 yX1_word wsX1_word) := goodIn_app (goodIn_of _ (by decide +kernel)) ggX1_firstBits_X1_word
set_option maxRecDepth 20000 in
theorem ggX1_flip_X1_flipWord : GoodIn wsX1_flip wsX1_flipWord := goodIn_r _ [5, 6, 7, 8, 9, 10, 11] (by decide +kernel) (by decide +kernel)
set_option maxRecDepth 20000 in
theorem gX1_flip_X1_flipWord : GoodIn wsX1_flip (wsV RX1 37 RX1 yX1_flipWord wsX1_flipWord) := goodIn_app (goodIn_of _ (by decide +kernel)) ggX1_flip_X1_flipWord
set_option maxRecDepth 20000 in
theorem ggX1_next_J13_bitCount_95d88 : GoodIn wsX1_next wsJ13_bitCount_95d88 := goodIn_r _ [8, 9, 10, 11] (by decide +kernel) (by decide +kernel)
set_option maxRecDepth 20000 in
theorem gX1_next_J13_bitCount_95d88 : GoodIn wsX1_next (va_wsS RX1 43 yJ13_bitCount_95d88 wsJ13_bitCount_95d88) := goodIn_app (goodIn_of _ (by decide +kernel)) ggX1_next_J13_bitCount_95d88
set_option maxRecDepth 20000 in
theorem ggX1_copy_X1_open : GoodIn wsX1_copy wsX1_open := goodIn_r _ [6, 7, 1, 8, 17, 18, 19] (by decide +kernel) (by decide +kernel)
set_option maxRecDepth 20000 in
theorem gX1_copy_X1_open : GoodIn wsX1_copy (wsV RX1 49 RX1 yX1_open wsX1_open) := goodIn_app (goodIn_of _ (by decide +kernel)) ggX1_copy_X1_open
set_option maxRecDepth 20000 in
theorem ggX1_copy_X1_word : GoodIn wsX1_copy wsX1_word := goodIn_r _ [12, 7, 1, 8, 17, 18, 19] (by decide +kernel) (by decide +kernel)
set_option maxRecDepth 20000 in
theorem gX1_copy_X1_word : GoodIn wsX1_copy (wsV RX1 31 RX1 yX1_word wsX1_word) := goodIn_app (goodIn_of _ (by decide +kernel)) ggX1_copy_X1_word
set_option maxRecDepth 20000 in
theorem ggX1_copy_X1_flipWord : GoodIn wsX1_copy wsX1_flipWord := goodIn_r _ [16, 7, 1, 8, 17, 18, 19] (by decide +kernel) (by decide +kernel)
set_option maxRecDepth 20000 in
theorem gX1_copy_X1_flipWord : GoodIn wsX1_copy (wsV RX1 37 RX1 yX1_flipWord wsX1_flipWord) := goodIn_app (goodIn_of _ (by decide +kernel)) ggX1_copy_X1_flipWord
set_option maxRecDepth 20000 in
theorem ggX2_index_X8_isInChart : GoodIn wsX2_index wsX8_isInChart := goodIn_r _ [3] (by decide +kernel) (by decide +kernel)
set_option maxRecDepth 20000 in
theorem gX2_index_X8_isInChart_n15 : GoodIn wsX2_index (wsX8_isInChart) := ggX2_index_X8_isInChart
set_option maxRecDepth 20000 in
theorem ggX2_wipe_J7_fill_53178 : GoodIn wsX2_wipe wsJ7_fill_53178 := goodIn_r _ [5] (by decide +kernel) (by decide +kernel)
set_option maxRecDepth 20000 in
theorem gX2_wipe_J7_fill_53178 : GoodIn wsX2_wipe (va_wsS RX2 19 yJ7_fill_53178 wsJ7_fill_53178) := goodIn_app (goodIn_of _ (by decide +kernel)) ggX2_wipe_J7_fill_53178
set_option maxRecDepth 20000 in
theorem ggX2_tell_X2_index : GoodIn wsX2_tell wsX2_index := goodIn_r _ [5, 6, 7, 8] (by decide +kernel) (by decide +kernel)
set_option maxRecDepth 20000 in
theorem gX2_tell_X2_index : GoodIn wsX2_tell (va_wsS RX2 25 yX2_index wsX2_index) := goodIn_app (goodIn_of _ (by decide +kernel)) ggX2_tell_X2_index
set_option maxRecDepth 20000 in
theorem ggX2_rankOf_X2_index : GoodIn wsX2_rankOf wsX2_index := goodIn_r _ [5, 6, 7, 8] (by decide +kernel) (by decide +kernel)
set_option maxRecDepth 20000 in
theorem gX2_rankOf_X2_index : GoodIn wsX2_rankOf (va_wsS RX2 25 yX2_index wsX2_index) := goodIn_app (goodIn_of _ (by decide +kernel)) ggX2_rankOf_X2_index
set_option maxRecDepth 20000 in
theorem ggX2_spent_X2_rankOf : GoodIn wsX2_spent wsX2_rankOf := goodIn_r _ [5, 6, 7, 8, 4, 9, 10, 11, 12, 13] (by decide +kernel) (by decide +kernel)
set_option maxRecDepth 20000 in
theorem gX2_spent_X2_rankOf : GoodIn wsX2_spent (wsV RX2 29 RX2 yX2_rankOf wsX2_rankOf) := goodIn_app (goodIn_of _ (by decide +kernel)) ggX2_spent_X2_rankOf
set_option maxRecDepth 20000 in
theorem ggX2_told_X2_toldFrom : GoodIn wsX2_told wsX2_toldFrom := goodIn_r _ [5, 6, 7, 8, 9, 10, 11] (by decide +kernel) (by decide +kernel)
set_option maxRecDepth 20000 in
theorem gX2_told_X2_toldFrom : GoodIn wsX2_told (wsV RX2 32 RX2 yX2_toldFrom wsX2_toldFrom) := goodIn_app (goodIn_of _ (by decide +kernel)) ggX2_told_X2_toldFrom
set_option maxRecDepth 20000 in
theorem ggX2_isLongerTold_X2_index : GoodIn wsX2_isLongerTold wsX2_index := goodIn_r _ [8, 9, 10, 11] (by decide +kernel) (by decide +kernel)
set_option maxRecDepth 20000 in
theorem gX2_isLongerTold_X2_index : GoodIn wsX2_isLongerTold (va_wsS RX2 25 yX2_index wsX2_index) := goodIn_app (goodIn_of _ (by decide +kernel)) ggX2_isLongerTold_X2_index
set_option maxRecDepth 20000 in
theorem ggX2_isLongerTold_X2_toldFrom : GoodIn wsX2_isLongerTold wsX2_toldFrom := goodIn_r _ [15, 1, 2, 3, 4, 16, 17] (by decide +kernel) (by decide +kernel)
set_option maxRecDepth 20000 in
theorem gX2_isLongerTold_X2_toldFrom : GoodIn wsX2_isLongerTold (wsV RX2 32 RX2 yX2_toldFrom wsX2_toldFrom) := goodIn_app (goodIn_of _ (by decide +kernel)) ggX2_isLongerTold_X2_toldFrom
set_option maxRecDepth 20000 in
theorem ggX3_init_X1_init : GoodIn wsX3_init wsX1_init := goodIn_r _ [13, 14, 2, 3, 15, 16, 17, 18, 19, 20, 21, 22, 27, 28, 29] (by decide +kernel) (by decide +kernel)
set_option maxRecDepth 20000 in
theorem gX3_init_X1_init : GoodIn wsX3_init (wsX1_init) := ggX3_init_X1_init
set_option maxRecDepth 20000 in
theorem ggX3_restart_X1_restart : GoodIn wsX3_restart wsX1_restart := goodIn_r _ [7, 8, 9, 10, 11, 12, 13, 14, 15, 16, 21, 22, 23] (by decide +kernel) (by decide +kernel)
set_option maxRecDepth 20000 in
theorem gX3_restart_X1_restart : GoodIn wsX3_restart (wsV RX3 32 RX1 yX1_restart wsX1_restart) := goodIn_app (goodIn_of _ (by decide +kernel)) ggX3_restart_X1_restart
set_option maxRecDepth 20000 in
theorem ggX3_add_X1_copy : GoodIn wsX3_add wsX1_copy := goodIn_r _ [8, 9, 10, 11, 12, 7, 13, 14, 15, 16, 17, 18, 19, 20, 21, 22, 23, 28, 29, 30] (by decide +kernel) (by decide +kernel)
set_option maxRecDepth 20000 in
theorem gX3_add_X1_copy : GoodIn wsX3_add (wsV RX3 35 RX1 yX1_copy wsX1_copy) := goodIn_app (goodIn_of _ (by decide +kernel)) ggX3_add_X1_copy
set_option maxRecDepth 20000 in
theorem ggX3_width_X3_degreeOf : GoodIn wsX3_width wsX3_degreeOf := goodIn_r _ [6, 7, 14, 15, 16, 17] (by decide +kernel) (by decide +kernel)
set_option maxRecDepth 20000 in
theorem gX3_width_X3_degreeOf : GoodIn wsX3_width (wsV RX3 39 RX3 yX3_degreeOf wsX3_degreeOf) := goodIn_app (goodIn_of _ (by decide +kernel)) ggX3_width_X3_degreeOf
set_option maxRecDepth 20000 in
theorem ggX3_width_X0_size : GoodIn wsX3_width wsX0_size := goodIn_r _ [12, 13, 18, 19] (by decide +kernel) (by decide +kernel)
set_option maxRecDepth 20000 in
theorem gX3_width_X0_size : GoodIn wsX3_width (wsV RX3 43 RX0 yX0_size wsX0_size) := goodIn_app (goodIn_of _ (by decide +kernel)) ggX3_width_X0_size
set_option maxRecDepth 20000 in
theorem ggX3_places_X3_width : GoodIn wsX3_places wsX3_width := goodIn_r _ [6, 7, 8, 9, 10, 5, 11, 12, 13, 14, 15, 16, 17, 18, 19, 20, 21, 22, 23, 24] (by decide +kernel) (by decide +kernel)
set_option maxRecDepth 20000 in
theorem gX3_places_X3_width : GoodIn wsX3_places (wsV RX3 48 RX3 yX3_width wsX3_width) := goodIn_app (goodIn_of _ (by decide +kernel)) ggX3_places_X3_width
set_option maxRecDepth 20000 in
theorem ggX3_generatorsOf_X3_degreeOf : GoodIn wsX3_generatorsOf wsX3_degreeOf := goodIn_r _ [6, 7, 8, 9, 10, 11] (by decide +kernel) (by decide +kernel)
set_option maxRecDepth 20000 in
theorem gX3_generatorsOf_X3_degreeOf : GoodIn wsX3_generatorsOf (wsV RX3 39 RX3 yX3_degreeOf wsX3_degreeOf) := goodIn_app (goodIn_of _ (by decide +kernel)) ggX3_generatorsOf_X3_degreeOf
set_option maxRecDepth 20000 in
theorem ggX4_timesSum_X0_size : GoodIn wsX4_timesSum wsX0_size := goodIn_r _ [6, 7, 41, 42] (by decide +kernel) (by decide +kernel)
set_option maxRecDepth 20000 in
theorem gX4_timesSum_X0_size : GoodIn wsX4_timesSum (wsV RX4 13 RX0 yX0_size wsX0_size) := goodIn_app (goodIn_of _ (by decide +kernel)) ggX4_timesSum_X0_size
set_option maxRecDepth 20000 in
theorem ggX4_timesSum_X0_start : GoodIn wsX4_timesSum wsX0_start := goodIn_r _ [11, 7, 12, 13, 14, 15, 16, 17, 18, 41, 42] (by decide +kernel) (by decide +kernel)
set_option maxRecDepth 20000 in
theorem gX4_timesSum_X0_start : GoodIn wsX4_timesSum (wsV RX4 19 RX0 yX0_start wsX0_start) := goodIn_app (goodIn_of _ (by decide +kernel)) ggX4_timesSum_X0_start
set_option maxRecDepth 20000 in
theorem ggX4_timesSum_X4_timesRow : GoodIn wsX4_timesSum wsX4_timesRow := goodIn_r _ [23, 1, 24, 25, 26, 5, 27, 28, 29, 30, 31, 32, 33, 9, 10, 11, 7, 12, 13, 14, 15, 16, 17, 18, 34, 35, 36, 37, 38, 39, 3, 4, 6, 40, 41, 42] (by decide +kernel) (by decide +kernel)
set_option maxRecDepth 20000 in
theorem gX4_timesSum_X4_timesRow : GoodIn wsX4_timesSum (wsV RX4 22 RX4 yX4_timesRow wsX4_timesRow) := goodIn_app (goodIn_of _ (by decide +kernel)) ggX4_timesSum_X4_timesRow
set_option maxRecDepth 20000 in
theorem ggX4_timesRow_X0_numberAt : GoodIn wsX4_timesRow wsX0_numberAt := goodIn_r _ [6, 7, 34, 35] (by decide +kernel) (by decide +kernel)
set_option maxRecDepth 20000 in
theorem gX4_timesRow_X0_numberAt : GoodIn wsX4_timesRow (wsV RX4 26 RX0 yX0_numberAt wsX0_numberAt) := goodIn_app (goodIn_of _ (by decide +kernel)) ggX4_timesRow_X0_numberAt
set_option maxRecDepth 20000 in
theorem ggX4_timesRow_X0_find : GoodIn wsX4_timesRow wsX0_find := goodIn_r _ [11, 12, 13, 14, 5, 15, 16, 17, 18, 19, 20, 21, 22, 23, 24, 3, 4, 6, 7, 34, 35] (by decide +kernel) (by decide +kernel)
set_option maxRecDepth 20000 in
theorem gX4_timesRow_X0_find : GoodIn wsX4_timesRow (wsV RX4 30 RX0 yX0_find wsX0_find) := goodIn_app (goodIn_of _ (by decide +kernel)) ggX4_timesRow_X0_find
set_option maxRecDepth 20000 in
theorem ggX4_timesRow_X0_bit : GoodIn wsX4_timesRow wsX0_bit := goodIn_r _ [28, 12, 13, 14, 5, 15, 16, 17, 18, 19, 20, 21, 22, 23, 29, 30, 31, 32, 34, 35] (by decide +kernel) (by decide +kernel)
set_option maxRecDepth 20000 in
theorem gX4_timesRow_X0_bit : GoodIn wsX4_timesRow (wsV RX4 34 RX0 yX0_bit wsX0_bit) := goodIn_app (goodIn_of _ (by decide +kernel)) ggX4_timesRow_X0_bit
set_option maxRecDepth 20000 in
theorem ggX5_degreeOf_X5_has : GoodIn wsX5_degreeOf wsX5_has := goodIn_r _ [6, 7, 8, 9, 10, 11, 12] (by decide +kernel) (by decide +kernel)
set_option maxRecDepth 20000 in
theorem gX5_degreeOf_X5_has : GoodIn wsX5_degreeOf (wsV RX5 25 RX5 yX5_has wsX5_has) := goodIn_app (goodIn_of _ (by decide +kernel)) ggX5_degreeOf_X5_has
set_option maxRecDepth 20000 in
theorem ggX5_setAct_X5_has : GoodIn wsX5_setAct wsX5_has := goodIn_r _ [7, 8, 9, 10, 11, 12, 13] (by decide +kernel) (by decide +kernel)
set_option maxRecDepth 20000 in
theorem gX5_setAct_X5_has : GoodIn wsX5_setAct (wsV RX5 25 RX5 yX5_has wsX5_has) := goodIn_app (goodIn_of _ (by decide +kernel)) ggX5_setAct_X5_has
set_option maxRecDepth 20000 in
theorem ggX5_restart_J7_fill_53178 : GoodIn wsX5_restart wsJ7_fill_53178 := goodIn_r _ [7] (by decide +kernel) (by decide +kernel)
set_option maxRecDepth 20000 in
theorem gX5_restart_J7_fill_53178 : GoodIn wsX5_restart (va_wsS RX5 33 yJ7_fill_53178 wsJ7_fill_53178) := goodIn_app (goodIn_of _ (by decide +kernel)) ggX5_restart_J7_fill_53178
set_option maxRecDepth 20000 in
theorem ggX5_spread_X5_restart : GoodIn wsX5_spread wsX5_restart := goodIn_r _ [5, 6, 7, 8, 9, 10, 11, 12, 29, 30, 31, 32, 33] (by decide +kernel) (by decide +kernel)
set_option maxRecDepth 20000 in
theorem gX5_spread_X5_restart : GoodIn wsX5_spread (wsV RX5 39 RX5 yX5_restart wsX5_restart) := goodIn_app (goodIn_of _ (by decide +kernel)) ggX5_spread_X5_restart
set_option maxRecDepth 20000 in
theorem ggX5_spread_X5_add : GoodIn wsX5_spread wsX5_add := goodIn_r _ [16, 6, 17, 7, 29, 30, 31, 32, 33] (by decide +kernel) (by decide +kernel)
set_option maxRecDepth 20000 in
theorem gX5_spread_X5_add : GoodIn wsX5_spread (wsV RX5 42 RX5 yX5_add wsX5_add) := goodIn_app (goodIn_of _ (by decide +kernel)) ggX5_spread_X5_add
set_option maxRecDepth 20000 in
theorem ggX5_spread_X8_isOdd : GoodIn wsX5_spread wsX8_isOdd := goodIn_r _ [20] (by decide +kernel) (by decide +kernel)
set_option maxRecDepth 20000 in
theorem gX5_spread_X8_isOdd_n46 : GoodIn wsX5_spread (wsX8_isOdd) := ggX5_spread_X8_isOdd
set_option maxRecDepth 20000 in
theorem ggX5_spread_X5_setAct : GoodIn wsX5_spread wsX5_setAct := goodIn_r _ [24, 8, 7, 25, 26, 27, 4, 28, 6, 29, 30, 31, 32, 33] (by decide +kernel) (by decide +kernel)
set_option maxRecDepth 20000 in
theorem gX5_spread_X5_setAct : GoodIn wsX5_spread (wsV RX5 50 RX5 yX5_setAct wsX5_setAct) := goodIn_app (goodIn_of _ (by decide +kernel)) ggX5_spread_X5_setAct
set_option maxRecDepth 20000 in
theorem ggX5_ofDegree_X5_degreeOf : GoodIn wsX5_ofDegree wsX5_degreeOf := goodIn_r _ [6, 7, 8, 9, 10, 5, 11, 1, 12, 13, 14, 15, 16] (by decide +kernel) (by decide +kernel)
set_option maxRecDepth 20000 in
theorem gX5_ofDegree_X5_degreeOf : GoodIn wsX5_ofDegree (wsV RX5 54 RX5 yX5_degreeOf wsX5_degreeOf) := goodIn_app (goodIn_of _ (by decide +kernel)) ggX5_ofDegree_X5_degreeOf
set_option maxRecDepth 20000 in
theorem ggX5_apply_X5_acted : GoodIn wsX5_apply wsX5_acted := goodIn_r _ [6, 7, 8, 9, 10, 11, 12] (by decide +kernel) (by decide +kernel)
set_option maxRecDepth 20000 in
theorem gX5_apply_X5_acted : GoodIn wsX5_apply (wsV RX5 57 RX5 yX5_acted wsX5_acted) := goodIn_app (goodIn_of _ (by decide +kernel)) ggX5_apply_X5_acted
set_option maxRecDepth 20000 in
theorem ggX5_isSound_X5_firstFault : GoodIn wsX5_isSound wsX5_firstFault := goodIn_r _ [5, 6, 7, 8, 9, 10, 4, 11, 12, 13, 14, 15, 16, 17, 18, 19, 20, 21, 22, 23, 24, 25, 26, 27, 28, 29, 30, 31, 32, 33, 34, 35, 36, 37] (by decide +kernel) (by decide +kernel)
set_option maxRecDepth 20000 in
theorem gX5_isSound_X5_firstFault : GoodIn wsX5_isSound (wsV RX5 61 RX5 yX5_firstFault wsX5_firstFault) := goodIn_app (goodIn_of _ (by decide +kernel)) ggX5_isSound_X5_firstFault
set_option maxRecDepth 20000 in
theorem ggX5_firstFault_X5_findFault : GoodIn wsX5_firstFault wsX5_findFault := goodIn_r _ [7, 2, 8, 9, 10, 11, 12, 13, 14, 15, 6, 16, 17, 18, 19, 20, 21, 22, 23, 24, 25, 26, 27, 28, 29, 30, 31, 32, 33] (by decide +kernel) (by decide +kernel)
set_option maxRecDepth 20000 in
theorem gX5_firstFault_X5_findFault : GoodIn wsX5_firstFault (wsV RX5 64 RX5 yX5_findFault wsX5_findFault) := goodIn_app (goodIn_of _ (by decide +kernel)) ggX5_firstFault_X5_findFault
set_option maxRecDepth 20000 in
theorem ggX5_findFault_J7_fill_53178 : GoodIn wsX5_findFault wsJ7_fill_53178 := goodIn_r _ [6] (by decide +kernel) (by decide +kernel)
set_option maxRecDepth 20000 in
theorem gX5_findFault_J7_fill_53178 : GoodIn wsX5_findFault (va_wsS RX5 33 yJ7_fill_53178 wsJ7_fill_53178) := goodIn_app (goodIn_of _ (by decide +kernel)) ggX5_findFault_J7_fill_53178
set_option maxRecDepth 20000 in
theorem ggX5_findFault_X5_acted : GoodIn wsX5_findFault wsX5_acted := goodIn_r _ [11, 12, 24, 25, 26, 27, 28] (by decide +kernel) (by decide +kernel)
set_option maxRecDepth 20000 in
theorem gX5_findFault_X5_acted : GoodIn wsX5_findFault (wsV RX5 57 RX5 yX5_acted wsX5_acted) := goodIn_app (goodIn_of _ (by decide +kernel)) ggX5_findFault_X5_acted
set_option maxRecDepth 20000 in
theorem ggX5_findFault_X5_apply : GoodIn wsX5_findFault wsX5_apply := goodIn_r _ [16, 2, 7, 8, 9, 10, 11, 12, 24, 25, 26, 27, 28] (by decide +kernel) (by decide +kernel)
set_option maxRecDepth 20000 in
theorem gX5_findFault_X5_apply : GoodIn wsX5_findFault (wsV RX5 67 RX5 yX5_apply wsX5_apply) := goodIn_app (goodIn_of _ (by decide +kernel)) ggX5_findFault_X5_apply
set_option maxRecDepth 20000 in
theorem ggX5_findFault_X5_byTheRule : GoodIn wsX5_findFault wsX5_byTheRule := goodIn_r _ [20, 21, 22, 23, 13, 14, 15, 10, 16, 2, 7, 8, 9, 11, 12, 24, 25, 26, 27, 28] (by decide +kernel) (by decide +kernel)
set_option maxRecDepth 20000 in
theorem gX5_findFault_X5_byTheRule : GoodIn wsX5_findFault (wsV RX5 70 RX5 yX5_byTheRule wsX5_byTheRule) := goodIn_app (goodIn_of _ (by decide +kernel)) ggX5_findFault_X5_byTheRule
set_option maxRecDepth 20000 in
theorem ggX5_byTheRule_X8_isOdd : GoodIn wsX5_byTheRule wsX8_isOdd := goodIn_r _ [3] (by decide +kernel) (by decide +kernel)
set_option maxRecDepth 20000 in
theorem gX5_byTheRule_X8_isOdd_n46 : GoodIn wsX5_byTheRule (wsX8_isOdd) := ggX5_byTheRule_X8_isOdd
set_option maxRecDepth 20000 in
theorem ggX5_byTheRule_X5_apply : GoodIn wsX5_byTheRule wsX5_apply := goodIn_r _ [8, 9, 10, 11, 12, 7, 13, 14, 15, 16, 17, 18, 19] (by decide +kernel) (by decide +kernel)
set_option maxRecDepth 20000 in
theorem gX5_byTheRule_X5_apply : GoodIn wsX5_byTheRule (wsV RX5 67 RX5 yX5_apply wsX5_apply) := goodIn_app (goodIn_of _ (by decide +kernel)) ggX5_byTheRule_X5_apply
set_option maxRecDepth 20000 in
theorem ggX6_init_X6_fillUnit : GoodIn wsX6_init wsX6_fillUnit := goodIn_r _ [11, 6, 12, 13, 14, 15, 16, 17, 18, 19, 20, 21, 22, 23, 24, 25, 26, 27, 28, 29, 30, 31, 32, 33, 34, 35, 36, 10, 37, 5, 76, 77, 78, 79] (by decide +kernel) (by decide +kernel)
set_option maxRecDepth 20000 in
theorem gX6_init_X6_fillUnit : GoodIn wsX6_init (wsV RX6 19 RX6 yX6_fillUnit wsX6_fillUnit) := goodIn_app (goodIn_of _ (by decide +kernel)) ggX6_init_X6_fillUnit
set_option maxRecDepth 20000 in
theorem ggX6_init_X6_fillSingles : GoodIn wsX6_init wsX6_fillSingles := goodIn_r _ [41, 6, 12, 13, 14, 15, 16, 17, 18, 19, 20, 21, 22, 23, 24, 42, 43, 44, 10, 45, 46, 47, 48, 49, 50, 51, 52, 53, 54, 55, 56, 57, 58, 29, 59, 25, 26, 27, 28, 30, 31, 32, 33, 60, 61, 62, 63, 64, 65, 66, 5, 67, 68, 69, 70, 71, 34, 35, 36, 37, 76, 77, 78, 79] (by decide +kernel) (by decide +kernel)
set_option maxRecDepth 20000 in
theorem gX6_init_X6_fillSingles : GoodIn wsX6_init (wsV RX6 22 RX6 yX6_fillSingles wsX6_fillSingles) := goodIn_app (goodIn_of _ (by decide +kernel)) ggX6_init_X6_fillSingles
set_option maxRecDepth 20000 in
theorem ggX6_init_X6_fillLonger : GoodIn wsX6_init wsX6_fillLonger := goodIn_r _ [75, 6, 12, 13, 14, 15, 16, 17, 18, 19, 20, 21, 22, 23, 24, 42, 43, 44, 10, 45, 50, 51, 52, 53, 54, 55, 56, 57, 58, 29, 59, 63, 64, 65, 66, 5, 67, 68, 69, 70, 71, 31, 32, 33, 34, 35, 36, 37, 76, 77, 78, 79] (by decide +kernel) (by decide +kernel)
set_option maxRecDepth 20000 in
theorem gX6_init_X6_fillLonger : GoodIn wsX6_init (wsV RX6 25 RX6 yX6_fillLonger wsX6_fillLonger) := goodIn_app (goodIn_of _ (by decide +kernel)) ggX6_init_X6_fillLonger
set_option maxRecDepth 20000 in
theorem ggX6_fillUnit_X0_start : GoodIn wsX6_fillUnit wsX0_start := goodIn_r _ [6, 7, 8, 9, 10, 11, 12, 13, 14, 32, 33] (by decide +kernel) (by decide +kernel)
set_option maxRecDepth 20000 in
theorem gX6_fillUnit_X0_start : GoodIn wsX6_fillUnit (wsV RX6 28 RX0 yX0_start wsX0_start) := goodIn_app (goodIn_of _ (by decide +kernel)) ggX6_fillUnit_X0_start
set_option maxRecDepth 20000 in
theorem ggX6_fillUnit_X0_bit : GoodIn wsX6_fillUnit wsX0_bit := goodIn_r _ [18, 19, 3, 4, 5, 6, 7, 8, 9, 10, 11, 12, 13, 14, 20, 21, 22, 23, 32, 33] (by decide +kernel) (by decide +kernel)
set_option maxRecDepth 20000 in
theorem gX6_fillUnit_X0_bit : GoodIn wsX6_fillUnit (wsV RX6 34 RX0 yX0_bit wsX0_bit) := goodIn_app (goodIn_of _ (by decide +kernel)) ggX6_fillUnit_X0_bit
set_option maxRecDepth 20000 in
theorem ggX6_fillUnit_X6_put : GoodIn wsX6_fillUnit wsX6_put := goodIn_r _ [28, 29, 30, 31] (by decide +kernel) (by decide +kernel)
set_option maxRecDepth 20000 in
theorem gX6_fillUnit_X6_put : GoodIn wsX6_fillUnit (wsV RX6 38 RX6 yX6_put wsX6_put) := goodIn_app (goodIn_of _ (by decide +kernel)) ggX6_fillUnit_X6_put
set_option maxRecDepth 20000 in
theorem ggX6_fillSingles_X0_start : GoodIn wsX6_fillSingles wsX0_start := goodIn_r _ [6, 7, 8, 9, 10, 11, 12, 13, 14, 62, 63] (by decide +kernel) (by decide +kernel)
set_option maxRecDepth 20000 in
theorem gX6_fillSingles_X0_start : GoodIn wsX6_fillSingles (wsV RX6 28 RX0 yX0_start wsX0_start) := goodIn_app (goodIn_of _ (by decide +kernel)) ggX6_fillSingles_X0_start
set_option maxRecDepth 20000 in
theorem ggX6_fillSingles_X6_single : GoodIn wsX6_fillSingles wsX6_single := goodIn_r _ [19, 1, 2, 3, 4, 5, 6, 7, 8, 9, 10, 11, 12, 13, 14, 60, 61, 62, 63] (by decide +kernel) (by decide +kernel)
set_option maxRecDepth 20000 in
theorem gX6_fillSingles_X6_single : GoodIn wsX6_fillSingles (wsV RX6 42 RX6 yX6_single wsX6_single) := goodIn_app (goodIn_of _ (by decide +kernel)) ggX6_fillSingles_X6_single
set_option maxRecDepth 20000 in
theorem ggX6_fillSingles_X6_timesTerm : GoodIn wsX6_fillSingles wsX6_timesTerm := goodIn_r _ [23, 1, 24, 25, 26, 5, 27, 28, 29, 30, 31, 32, 33, 3, 4, 6, 7, 8, 9, 10, 11, 12, 13, 14, 34, 35, 36, 37, 38, 39, 40, 41, 42, 43, 44, 45, 15, 16, 17, 18, 19, 2, 46, 47, 48, 49, 50, 51, 52, 53, 54, 55, 60, 61, 62, 63] (by decide +kernel) (by decide +kernel)
set_option maxRecDepth 20000 in
theorem gX6_fillSingles_X6_timesTerm : GoodIn wsX6_fillSingles (wsV RX6 45 RX6 yX6_timesTerm wsX6_timesTerm) := goodIn_app (goodIn_of _ (by decide +kernel)) ggX6_fillSingles_X6_timesTerm
set_option maxRecDepth 20000 in
theorem ggX6_fillSingles_X6_put : GoodIn wsX6_fillSingles wsX6_put := goodIn_r _ [59, 50, 60, 61] (by decide +kernel) (by decide +kernel)
set_option maxRecDepth 20000 in
theorem gX6_fillSingles_X6_put : GoodIn wsX6_fillSingles (wsV RX6 38 RX6 yX6_put wsX6_put) := goodIn_app (goodIn_of _ (by decide +kernel)) ggX6_fillSingles_X6_put
set_option maxRecDepth 20000 in
theorem ggX6_fillLonger_X0_start : GoodIn wsX6_fillLonger wsX0_start := goodIn_r _ [6, 7, 8, 9, 10, 11, 12, 13, 14, 50, 51] (by decide +kernel) (by decide +kernel)
set_option maxRecDepth 20000 in
theorem gX6_fillLonger_X0_start : GoodIn wsX6_fillLonger (wsV RX6 28 RX0 yX0_start wsX0_start) := goodIn_app (goodIn_of _ (by decide +kernel)) ggX6_fillLonger_X0_start
set_option maxRecDepth 20000 in
theorem ggX6_fillLonger_X6_single : GoodIn wsX6_fillLonger wsX6_single := goodIn_r _ [19, 1, 2, 3, 4, 5, 6, 7, 8, 9, 10, 11, 12, 13, 14, 48, 49, 50, 51] (by decide +kernel) (by decide +kernel)
set_option maxRecDepth 20000 in
theorem gX6_fillLonger_X6_single : GoodIn wsX6_fillLonger (wsV RX6 42 RX6 yX6_single wsX6_single) := goodIn_app (goodIn_of _ (by decide +kernel)) ggX6_fillLonger_X6_single
set_option maxRecDepth 20000 in
theorem ggX6_fillLonger_X0_numberAt : GoodIn wsX6_fillLonger wsX0_numberAt := goodIn_r _ [23, 24, 50, 51] (by decide +kernel) (by decide +kernel)
set_option maxRecDepth 20000 in
theorem gX6_fillLonger_X0_numberAt : GoodIn wsX6_fillLonger (wsV RX6 49 RX0 yX0_numberAt wsX0_numberAt) := goodIn_app (goodIn_of _ (by decide +kernel)) ggX6_fillLonger_X0_numberAt
set_option maxRecDepth 20000 in
theorem ggX6_fillLonger_X0_find : GoodIn wsX6_fillLonger wsX0_find := goodIn_r _ [28, 29, 3, 4, 5, 6, 7, 8, 9, 10, 11, 12, 13, 14, 30, 21, 22, 23, 24, 50, 51] (by decide +kernel) (by decide +kernel)
set_option maxRecDepth 20000 in
theorem gX6_fillLonger_X0_find : GoodIn wsX6_fillLonger (wsV RX6 52 RX0 yX0_find wsX0_find) := goodIn_app (goodIn_of _ (by decide +kernel)) ggX6_fillLonger_X0_find
set_option maxRecDepth 20000 in
theorem ggX6_fillLonger_X6_product : GoodIn wsX6_fillLonger wsX6_product := goodIn_r _ [34, 35, 48, 49] (by decide +kernel) (by decide +kernel)
set_option maxRecDepth 20000 in
theorem gX6_fillLonger_X6_product : GoodIn wsX6_fillLonger (wsV RX6 56 RX6 yX6_product wsX6_product) := goodIn_app (goodIn_of _ (by decide +kernel)) ggX6_fillLonger_X6_product
set_option maxRecDepth 20000 in
theorem ggX6_fillLonger_X6_timesSum : GoodIn wsX6_fillLonger wsX6_timesSum := goodIn_r _ [39, 1, 2, 3, 4, 5, 6, 7, 8, 9, 10, 11, 12, 13, 14, 40, 41, 42, 43, 15, 16, 17, 18, 19, 31, 32, 33, 34, 35, 48, 49, 50, 51] (by decide +kernel) (by decide +kernel)
set_option maxRecDepth 20000 in
theorem gX6_fillLonger_X6_timesSum : GoodIn wsX6_fillLonger (wsV RX6 59 RX6 yX6_timesSum wsX6_timesSum) := goodIn_app (goodIn_of _ (by decide +kernel)) ggX6_fillLonger_X6_timesSum
set_option maxRecDepth 20000 in
theorem ggX6_fillLonger_X6_put : GoodIn wsX6_fillLonger wsX6_put := goodIn_r _ [47, 35, 48, 49] (by decide +kernel) (by decide +kernel)
set_option maxRecDepth 20000 in
theorem gX6_fillLonger_X6_put : GoodIn wsX6_fillLonger (wsV RX6 38 RX6 yX6_put wsX6_put) := goodIn_app (goodIn_of _ (by decide +kernel)) ggX6_fillLonger_X6_put
set_option maxRecDepth 20000 in
theorem ggX6_timesTerm_X0_numberAt : GoodIn wsX6_timesTerm wsX0_numberAt := goodIn_r _ [6, 7, 54, 55] (by decide +kernel) (by decide +kernel)
set_option maxRecDepth 20000 in
theorem gX6_timesTerm_X0_numberAt : GoodIn wsX6_timesTerm (wsV RX6 49 RX0 yX0_numberAt wsX0_numberAt) := goodIn_app (goodIn_of _ (by decide +kernel)) ggX6_timesTerm_X0_numberAt
set_option maxRecDepth 20000 in
theorem ggX6_timesTerm_X0_find : GoodIn wsX6_timesTerm wsX0_find := goodIn_r _ [11, 12, 13, 14, 5, 15, 16, 17, 18, 19, 20, 21, 22, 23, 24, 3, 4, 6, 7, 54, 55] (by decide +kernel) (by decide +kernel)
set_option maxRecDepth 20000 in
theorem gX6_timesTerm_X0_find : GoodIn wsX6_timesTerm (wsV RX6 52 RX0 yX0_find wsX0_find) := goodIn_app (goodIn_of _ (by decide +kernel)) ggX6_timesTerm_X0_find
set_option maxRecDepth 20000 in
theorem ggX6_timesTerm_X0_bit : GoodIn wsX6_timesTerm wsX0_bit := goodIn_r _ [28, 12, 13, 14, 5, 15, 16, 17, 18, 19, 20, 21, 22, 23, 29, 30, 31, 32, 54, 55] (by decide +kernel) (by decide +kernel)
set_option maxRecDepth 20000 in
theorem gX6_timesTerm_X0_bit : GoodIn wsX6_timesTerm (wsV RX6 34 RX0 yX0_bit wsX0_bit) := goodIn_app (goodIn_of _ (by decide +kernel)) ggX6_timesTerm_X0_bit
set_option maxRecDepth 20000 in
theorem ggX6_timesTerm_X8_isOdd : GoodIn wsX6_timesTerm wsX8_isOdd := goodIn_r _ [35] (by decide +kernel) (by decide +kernel)
set_option maxRecDepth 20000 in
theorem gX6_timesTerm_X8_isOdd_n62 : GoodIn wsX6_timesTerm (wsX8_isOdd) := ggX6_timesTerm_X8_isOdd
set_option maxRecDepth 20000 in
theorem ggX6_timesTerm_X6_single : GoodIn wsX6_timesTerm wsX6_single := goodIn_r _ [40, 1, 41, 13, 14, 5, 15, 16, 17, 18, 19, 20, 21, 22, 23, 52, 53, 54, 55] (by decide +kernel) (by decide +kernel)
set_option maxRecDepth 20000 in
theorem gX6_timesTerm_X6_single : GoodIn wsX6_timesTerm (wsV RX6 42 RX6 yX6_single wsX6_single) := goodIn_app (goodIn_of _ (by decide +kernel)) ggX6_timesTerm_X6_single
set_option maxRecDepth 20000 in
theorem ggX6_timesTerm_X6_product : GoodIn wsX6_timesTerm wsX6_product := goodIn_r _ [45, 46, 52, 53] (by decide +kernel) (by decide +kernel)
set_option maxRecDepth 20000 in
theorem gX6_timesTerm_X6_product : GoodIn wsX6_timesTerm (wsV RX6 56 RX6 yX6_product wsX6_product) := goodIn_app (goodIn_of _ (by decide +kernel)) ggX6_timesTerm_X6_product
set_option maxRecDepth 20000 in
theorem ggX6_timesTerm_X6_timesSum : GoodIn wsX6_timesTerm wsX6_timesSum := goodIn_r _ [50, 1, 41, 13, 14, 5, 15, 16, 17, 18, 19, 20, 21, 22, 23, 51, 30, 31, 32, 36, 37, 38, 39, 40, 42, 43, 44, 45, 46, 52, 53, 54, 55] (by decide +kernel) (by decide +kernel)
set_option maxRecDepth 20000 in
theorem gX6_timesTerm_X6_timesSum : GoodIn wsX6_timesTerm (wsV RX6 59 RX6 yX6_timesSum wsX6_timesSum) := goodIn_app (goodIn_of _ (by decide +kernel)) ggX6_timesTerm_X6_timesSum
set_option maxRecDepth 20000 in
theorem ggX6_timesSum_X0_start : GoodIn wsX6_timesSum wsX0_start := goodIn_r _ [6, 7, 8, 9, 10, 11, 12, 13, 14, 31, 32] (by decide +kernel) (by decide +kernel)
set_option maxRecDepth 20000 in
theorem gX6_timesSum_X0_start : GoodIn wsX6_timesSum (wsV RX6 28 RX0 yX0_start wsX0_start) := goodIn_app (goodIn_of _ (by decide +kernel)) ggX6_timesSum_X0_start
set_option maxRecDepth 20000 in
theorem ggX6_timesSum_X0_size : GoodIn wsX6_timesSum wsX0_size := goodIn_r _ [18, 7, 31, 32] (by decide +kernel) (by decide +kernel)
set_option maxRecDepth 20000 in
theorem gX6_timesSum_X0_size : GoodIn wsX6_timesSum (wsV RX6 66 RX0 yX0_size wsX0_size) := goodIn_app (goodIn_of _ (by decide +kernel)) ggX6_timesSum_X0_size
set_option maxRecDepth 20000 in
theorem ggX6_timesSum_X6_single : GoodIn wsX6_timesSum wsX6_single := goodIn_r _ [23, 1, 2, 3, 4, 5, 6, 7, 8, 9, 10, 11, 12, 13, 14, 29, 30, 31, 32] (by decide +kernel) (by decide +kernel)
set_option maxRecDepth 20000 in
theorem gX6_timesSum_X6_single : GoodIn wsX6_timesSum (wsV RX6 42 RX6 yX6_single wsX6_single) := goodIn_app (goodIn_of _ (by decide +kernel)) ggX6_timesSum_X6_single
set_option maxRecDepth 20000 in
theorem ggX6_timesSum_X6_product : GoodIn wsX6_timesSum wsX6_product := goodIn_r _ [27, 28, 29, 30] (by decide +kernel) (by decide +kernel)
set_option maxRecDepth 20000 in
theorem gX6_timesSum_X6_product : GoodIn wsX6_timesSum (wsV RX6 56 RX6 yX6_product wsX6_product) := goodIn_app (goodIn_of _ (by decide +kernel)) ggX6_timesSum_X6_product
set_option maxRecDepth 20000 in
theorem ggX6_single_X0_start : GoodIn wsX6_single wsX0_start := goodIn_r _ [6, 7, 8, 9, 10, 11, 12, 13, 14, 17, 18] (by decide +kernel) (by decide +kernel)
set_option maxRecDepth 20000 in
theorem gX6_single_X0_start : GoodIn wsX6_single (wsV RX6 28 RX0 yX0_start wsX0_start) := goodIn_app (goodIn_of _ (by decide +kernel)) ggX6_single_X0_start
set_option maxRecDepth 20000 in
theorem ggJ7_fill_fda19_J7_rangeCheck_23922 : GoodIn wsJ7_fill_fda19 wsJ7_rangeCheck_23922 := goodIn_r _ [4] (by decide +kernel) (by decide +kernel)
set_option maxRecDepth 20000 in
theorem gJ7_fill_fda19_J7_rangeCheck_23922 : GoodIn wsJ7_fill_fda19 (va_wsS RJ7 13 yJ7_rangeCheck_23922 wsJ7_rangeCheck_23922) := goodIn_app (goodIn_of _ (by decide +kernel)) ggJ7_fill_fda19_J7_rangeCheck_23922
