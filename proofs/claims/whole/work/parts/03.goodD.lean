set_option maxRecDepth 20000 in
theorem ggX9_isSound_X9_findFault : GoodIn wsX9_isSound wsX9_findFault := goodIn_r _ [5, 6, 7, 8, 9, 10, 11, 4, 12, 13, 14, 15, 16, 17, 18, 19, 20, 21, 22, 23, 24, 25, 26, 27, 28, 29, 30, 31, 32, 33, 34, 35, 36, 37, 38, 39, 40, 41, 42, 43, 44, 45, 46] (by decide +kernel) (by decide +kernel)
set_option maxRecDepth 20000 in
theorem gX9_isSound_X9_findFault : GoodIn wsX9_isSound (wsV RX9 172 RX9 yX9_findFault wsX9_findFault) := goodIn_app (goodIn_of _ (by decide +kernel)) ggX9_isSound_X9_findFault
set_option maxRecDepth 20000 in
theorem ggX9_fault_X9_in : GoodIn wsX9_fault wsX9_in := goodIn_r _ [6] (by decide +kernel) (by decide +kernel)
set_option maxRecDepth 20000 in
theorem gX9_fault_X9_in : GoodIn wsX9_fault (va_wsS RX9 122 yX9_in wsX9_in) := goodIn_app (goodIn_of _ (by decide +kernel)) ggX9_fault_X9_in
set_option maxRecDepth 20000 in
theorem ggX9_fault_X9_findFault : GoodIn wsX9_fault wsX9_findFault := goodIn_r _ [10, 11, 1, 2, 12, 13, 14, 5, 15, 16, 17, 18, 19, 20, 21, 22, 23, 24, 25, 26, 27, 28, 29, 30, 31, 32, 33, 34, 35, 36, 37, 38, 39, 40, 41, 42, 43, 44, 45, 46, 47, 48, 49] (by decide +kernel) (by decide +kernel)
set_option maxRecDepth 20000 in
theorem gX9_fault_X9_findFault : GoodIn wsX9_fault (wsV RX9 172 RX9 yX9_findFault wsX9_findFault) := goodIn_app (goodIn_of _ (by decide +kernel)) ggX9_fault_X9_findFault
set_option maxRecDepth 20000 in
theorem ggX9_offset_X9_manyOf : GoodIn wsX9_offset wsX9_manyOf := goodIn_r _ [6, 7, 8, 9, 10, 11, 12, 13, 14, 15, 16, 17, 18, 19, 20, 21, 22, 23, 24, 25, 26, 27, 28, 29, 30, 31, 32, 33, 34, 35, 36, 37] (by decide +kernel) (by decide +kernel)
set_option maxRecDepth 20000 in
theorem gX9_offset_X9_manyOf : GoodIn wsX9_offset (wsV RX9 87 RX9 yX9_manyOf wsX9_manyOf) := goodIn_app (goodIn_of _ (by decide +kernel)) ggX9_offset_X9_manyOf
set_option maxRecDepth 20000 in
theorem ggX9_wide_X9_offset : GoodIn wsX9_wide wsX9_offset := goodIn_r _ [6, 7, 8, 9, 10, 5, 11, 12, 13, 14, 15, 16, 17, 18, 19, 20, 21, 22, 23, 24, 25, 26, 27, 28, 29, 30, 31, 32, 33, 34, 35, 36, 37, 38, 39, 40, 41, 42] (by decide +kernel) (by decide +kernel)
set_option maxRecDepth 20000 in
theorem gX9_wide_X9_offset : GoodIn wsX9_wide (wsV RX9 175 RX9 yX9_offset wsX9_offset) := goodIn_app (goodIn_of _ (by decide +kernel)) ggX9_wide_X9_offset
set_option maxRecDepth 20000 in
theorem ggX9_goes_X9_acted : GoodIn wsX9_goes wsX9_acted := goodIn_r _ [13, 14, 15, 24, 25, 26, 27, 28, 29, 30, 31, 32, 33, 34, 35, 36, 37, 38, 39, 40, 41, 42, 43, 44, 45, 46, 47, 48, 49, 50, 51, 52, 53] (by decide +kernel) (by decide +kernel)
set_option maxRecDepth 20000 in
theorem gX9_goes_X9_acted : GoodIn wsX9_goes (wsV RX9 163 RX9 yX9_acted wsX9_acted) := goodIn_app (goodIn_of _ (by decide +kernel)) ggX9_goes_X9_acted
set_option maxRecDepth 20000 in
theorem ggX9_goes_X9_manyOf : GoodIn wsX9_goes wsX9_manyOf := goodIn_r _ [19, 8, 24, 25, 26, 27, 28, 29, 30, 31, 32, 33, 34, 35, 36, 37, 38, 39, 40, 41, 42, 43, 44, 45, 46, 47, 48, 49, 50, 51, 52, 53] (by decide +kernel) (by decide +kernel)
set_option maxRecDepth 20000 in
theorem gX9_goes_X9_manyOf : GoodIn wsX9_goes (wsV RX9 87 RX9 yX9_manyOf wsX9_manyOf) := goodIn_app (goodIn_of _ (by decide +kernel)) ggX9_goes_X9_manyOf
set_option maxRecDepth 20000 in
theorem ggX9_goes_X9_turns : GoodIn wsX9_goes wsX9_turns := goodIn_r _ [23, 4, 24, 25, 26, 27, 28, 29, 30, 31, 32, 33, 34, 35, 36, 37, 38, 39, 40, 41, 42, 43, 44, 45, 46, 47, 48, 49, 50, 51, 52, 53] (by decide +kernel) (by decide +kernel)
set_option maxRecDepth 20000 in
theorem gX9_goes_X9_turns : GoodIn wsX9_goes (wsV RX9 178 RX9 yX9_turns wsX9_turns) := goodIn_app (goodIn_of _ (by decide +kernel)) ggX9_goes_X9_turns
set_option maxRecDepth 20000 in
theorem ggX9_reduces_X9_lead : GoodIn wsX9_reduces wsX9_lead := goodIn_r _ [9, 3, 10, 11, 12, 13, 14, 15, 16, 17, 18, 19, 20, 21, 22, 23, 24, 25, 26, 27, 28, 29, 30, 31, 32, 33, 34, 35, 36, 37, 38, 39] (by decide +kernel) (by decide +kernel)
set_option maxRecDepth 20000 in
theorem gX9_reduces_X9_lead : GoodIn wsX9_reduces (wsV RX9 184 RX9 yX9_lead wsX9_lead) := goodIn_app (goodIn_of _ (by decide +kernel)) ggX9_reduces_X9_lead
set_option maxRecDepth 20000 in
theorem ggX9_lays_X9_clearNow : GoodIn wsX9_lays wsX9_clearNow := goodIn_r _ [17, 6, 56, 57, 58, 59, 60, 61, 62, 63, 64, 65, 66, 67, 68, 69, 70, 71, 72, 73, 74, 75, 76, 77, 78, 79, 80, 81, 82, 83, 84, 85] (by decide +kernel) (by decide +kernel)
set_option maxRecDepth 20000 in
theorem gX9_lays_X9_clearNow : GoodIn wsX9_lays (wsV RX9 190 RX9 yX9_clearNow wsX9_clearNow) := goodIn_app (goodIn_of _ (by decide +kernel)) ggX9_lays_X9_clearNow
set_option maxRecDepth 20000 in
theorem ggX9_lays_X9_goes : GoodIn wsX9_lays wsX9_goes := goodIn_r _ [21, 12, 22, 23, 6, 4, 3, 24, 5, 25, 26, 27, 16, 28, 8, 29, 30, 31, 32, 33, 34, 35, 36, 37, 56, 57, 58, 59, 60, 61, 62, 63, 64, 65, 66, 67, 68, 69, 70, 71, 72, 73, 74, 75, 76, 77, 78, 79, 80, 81, 82, 83, 84, 85] (by decide +kernel) (by decide +kernel)
set_option maxRecDepth 20000 in
theorem gX9_lays_X9_goes : GoodIn wsX9_lays (wsV RX9 193 RX9 yX9_goes wsX9_goes) := goodIn_app (goodIn_of _ (by decide +kernel)) ggX9_lays_X9_goes
set_option maxRecDepth 20000 in
theorem ggX9_lays_X9_reduces : GoodIn wsX9_lays wsX9_reduces := goodIn_r _ [41, 1, 42, 6, 43, 44, 45, 46, 16, 47, 56, 57, 58, 59, 60, 61, 62, 63, 64, 65, 66, 67, 68, 69, 70, 71, 72, 73, 74, 75, 76, 77, 78, 79, 80, 81, 82, 83, 84, 85] (by decide +kernel) (by decide +kernel)
set_option maxRecDepth 20000 in
theorem gX9_lays_X9_reduces : GoodIn wsX9_lays (wsV RX9 197 RX9 yX9_reduces wsX9_reduces) := goodIn_app (goodIn_of _ (by decide +kernel)) ggX9_lays_X9_reduces
set_option maxRecDepth 20000 in
theorem ggX9_lays_X9_keeps : GoodIn wsX9_lays wsX9_keeps := goodIn_r _ [51, 43, 1, 6, 42, 56, 57, 58, 59, 60, 61, 62, 63, 64, 65, 66, 67, 68, 69, 70, 71, 72, 73, 74, 75, 76, 77, 78, 79, 80, 81, 82, 83, 84, 85] (by decide +kernel) (by decide +kernel)
set_option maxRecDepth 20000 in
theorem gX9_lays_X9_keeps : GoodIn wsX9_lays (wsV RX9 200 RX9 yX9_keeps wsX9_keeps) := goodIn_app (goodIn_of _ (by decide +kernel)) ggX9_lays_X9_keeps
set_option maxRecDepth 20000 in
theorem ggX9_lays_X9_comesGenerator : GoodIn wsX9_lays wsX9_comesGenerator := goodIn_r _ [55, 3, 4, 56, 57, 58, 59, 60, 61, 62, 63, 64, 65, 66, 67, 68, 69, 70, 71, 72, 73, 74, 75, 76, 77, 78, 79, 80, 81, 82, 83, 84, 85] (by decide +kernel) (by decide +kernel)
set_option maxRecDepth 20000 in
theorem gX9_lays_X9_comesGenerator : GoodIn wsX9_lays (wsV RX9 206 RX9 yX9_comesGenerator wsX9_comesGenerator) := goodIn_app (goodIn_of _ (by decide +kernel)) ggX9_lays_X9_comesGenerator
set_option maxRecDepth 20000 in
theorem ggX9_layAll_X9_lays : GoodIn wsX9_layAll wsX9_lays := goodIn_r _ [8, 9, 10, 2, 11, 12, 13, 14, 15, 3, 16, 17, 18, 19, 20, 21, 7, 22, 23, 24, 25, 26, 27, 28, 29, 30, 31, 32, 33, 34, 35, 36, 37, 38, 39, 40, 41, 42, 43, 44, 45, 46, 47, 48, 49, 50, 51, 52, 53, 54, 55, 56, 57, 58, 59, 60, 61, 62, 63, 64, 65, 66, 67, 68, 69, 70, 71, 72, 73, 74, 75, 76, 77, 78, 79, 80, 81, 82, 83, 84, 85, 86, 87, 88, 89, 90] (by decide +kernel) (by decide +kernel)
set_option maxRecDepth 20000 in
theorem gX9_layAll_X9_lays : GoodIn wsX9_layAll (wsV RX9 210 RX9 yX9_lays wsX9_lays) := goodIn_app (goodIn_of _ (by decide +kernel)) ggX9_layAll_X9_lays
set_option maxRecDepth 20000 in
theorem ggX9_isPlace_X9_in : GoodIn wsX9_isPlace wsX9_in := goodIn_r _ [4] (by decide +kernel) (by decide +kernel)
set_option maxRecDepth 20000 in
theorem gX9_isPlace_X9_in : GoodIn wsX9_isPlace (va_wsS RX9 122 yX9_in wsX9_in) := goodIn_app (goodIn_of _ (by decide +kernel)) ggX9_isPlace_X9_in
set_option maxRecDepth 20000 in
theorem ggX9_liveAt_X9_layAll : GoodIn wsX9_liveAt wsX9_layAll := goodIn_r _ [7, 8, 1, 9, 10, 11, 12, 6, 13, 14, 15, 2, 16, 17, 18, 19, 20, 21, 22, 23, 24, 25, 26, 27, 28, 29, 30, 31, 32, 33, 34, 35, 36, 37, 38, 39, 40, 41, 42, 43, 44, 45, 46, 47, 48, 49, 50, 51, 52, 53, 54, 55, 56, 57, 58, 59, 60, 61, 62, 63, 64, 65, 66, 67, 68, 69, 70, 71, 72, 73, 74, 75, 76, 77, 78, 79, 80, 81, 82, 83, 84, 85, 86, 87, 88, 89, 90, 91, 92, 93, 94] (by decide +kernel) (by decide +kernel)
set_option maxRecDepth 20000 in
theorem gX9_liveAt_X9_layAll : GoodIn wsX9_liveAt (wsV RX9 213 RX9 yX9_layAll wsX9_layAll) := goodIn_app (goodIn_of _ (by decide +kernel)) ggX9_liveAt_X9_layAll
set_option maxRecDepth 20000 in
theorem ggX9_live_X9_isPlace : GoodIn wsX9_live wsX9_isPlace := goodIn_r _ [4, 5, 6, 3, 7] (by decide +kernel) (by decide +kernel)
set_option maxRecDepth 20000 in
theorem gX9_live_X9_isPlace : GoodIn wsX9_live (va_wsS RX9 216 yX9_isPlace wsX9_isPlace) := goodIn_app (goodIn_of _ (by decide +kernel)) ggX9_live_X9_isPlace
set_option maxRecDepth 20000 in
theorem ggX9_live_X9_isSound : GoodIn wsX9_live wsX9_isSound := goodIn_r _ [11, 12, 13, 14, 3, 15, 16, 17, 18, 19, 20, 21, 22, 23, 24, 25, 26, 88, 89, 90, 91, 92, 93, 94, 95, 96, 97, 98, 99, 100, 101, 102, 103, 104, 105, 106, 107, 108, 109, 110, 111, 112, 113, 114, 115, 116, 117] (by decide +kernel) (by decide +kernel)
set_option maxRecDepth 20000 in
theorem gX9_live_X9_isSound : GoodIn wsX9_live (wsV RX9 219 RX9 yX9_isSound wsX9_isSound) := goodIn_app (goodIn_of _ (by decide +kernel)) ggX9_live_X9_isSound
set_option maxRecDepth 20000 in
theorem ggX9_live_X9_liveAt : GoodIn wsX9_live wsX9_liveAt := goodIn_r _ [30, 31, 32, 33, 34, 35, 3, 36, 37, 38, 39, 40, 41, 42, 43, 44, 45, 46, 47, 16, 48, 49, 50, 51, 52, 53, 54, 55, 56, 57, 58, 59, 60, 61, 19, 20, 21, 22, 23, 62, 63, 64, 65, 66, 67, 68, 69, 70, 71, 72, 73, 74, 75, 76, 77, 78, 79, 80, 81, 82, 83, 84, 85, 86, 87, 88, 89, 90, 91, 92, 93, 94, 95, 96, 97, 98, 99, 100, 101, 102, 103, 104, 105, 106, 107, 108, 109, 110, 111, 112, 113, 114, 115, 116, 117] (by decide +kernel) (by decide +kernel)
set_option maxRecDepth 20000 in
theorem gX9_live_X9_liveAt : GoodIn wsX9_live (wsV RX9 223 RX9 yX9_liveAt wsX9_liveAt) := goodIn_app (goodIn_of _ (by decide +kernel)) ggX9_live_X9_liveAt
set_option maxRecDepth 20000 in
theorem ggX9_joins_X9_in : GoodIn wsX9_joins wsX9_in := goodIn_r _ [8] (by decide +kernel) (by decide +kernel)
set_option maxRecDepth 20000 in
theorem gX9_joins_X9_in : GoodIn wsX9_joins (va_wsS RX9 122 yX9_in wsX9_in) := goodIn_app (goodIn_of _ (by decide +kernel)) ggX9_joins_X9_in
set_option maxRecDepth 20000 in
theorem ggX9_joins_X9_isSound : GoodIn wsX9_joins wsX9_isSound := goodIn_r _ [12, 13, 14, 15, 7, 16, 17, 18, 19, 20, 21, 22, 23, 24, 25, 26, 27, 90, 91, 92, 93, 94, 95, 96, 97, 98, 99, 100, 101, 102, 103, 104, 105, 106, 107, 108, 109, 110, 111, 112, 113, 114, 115, 116, 117, 118, 119] (by decide +kernel) (by decide +kernel)
set_option maxRecDepth 20000 in
theorem gX9_joins_X9_isSound : GoodIn wsX9_joins (wsV RX9 219 RX9 yX9_isSound wsX9_isSound) := goodIn_app (goodIn_of _ (by decide +kernel)) ggX9_joins_X9_isSound
set_option maxRecDepth 20000 in
theorem ggX9_joins_X9_layAll : GoodIn wsX9_joins wsX9_layAll := goodIn_r _ [31, 32, 1, 33, 34, 35, 36, 7, 37, 38, 39, 2, 40, 41, 42, 17, 43, 44, 4, 45, 46, 47, 48, 49, 50, 51, 52, 53, 54, 55, 20, 21, 22, 23, 24, 56, 57, 58, 59, 60, 61, 62, 63, 64, 65, 66, 67, 68, 69, 70, 71, 72, 73, 74, 75, 76, 77, 78, 79, 80, 81, 90, 91, 92, 93, 94, 95, 96, 97, 98, 99, 100, 101, 102, 103, 104, 105, 106, 107, 108, 109, 110, 111, 112, 113, 114, 115, 116, 117, 118, 119] (by decide +kernel) (by decide +kernel)
set_option maxRecDepth 20000 in
theorem gX9_joins_X9_layAll : GoodIn wsX9_joins (wsV RX9 213 RX9 yX9_layAll wsX9_layAll) := goodIn_app (goodIn_of _ (by decide +kernel)) ggX9_joins_X9_layAll
set_option maxRecDepth 20000 in
theorem ggX9_joins_X9_manyOf : GoodIn wsX9_joins wsX9_manyOf := goodIn_r _ [59, 40, 90, 91, 92, 93, 94, 95, 96, 97, 98, 99, 100, 101, 102, 103, 104, 105, 106, 107, 108, 109, 110, 111, 112, 113, 114, 115, 116, 117, 118, 119] (by decide +kernel) (by decide +kernel)
set_option maxRecDepth 20000 in
theorem gX9_joins_X9_manyOf : GoodIn wsX9_joins (wsV RX9 87 RX9 yX9_manyOf wsX9_manyOf) := goodIn_app (goodIn_of _ (by decide +kernel)) ggX9_joins_X9_manyOf
set_option maxRecDepth 20000 in
theorem ggX9_joins_X9_offset : GoodIn wsX9_joins wsX9_offset := goodIn_r _ [85, 2, 56, 57, 58, 7, 59, 40, 90, 91, 92, 93, 94, 95, 96, 97, 98, 99, 100, 101, 102, 103, 104, 105, 106, 107, 108, 109, 110, 111, 112, 113, 114, 115, 116, 117, 118, 119] (by decide +kernel) (by decide +kernel)
set_option maxRecDepth 20000 in
theorem gX9_joins_X9_offset : GoodIn wsX9_joins (wsV RX9 175 RX9 yX9_offset wsX9_offset) := goodIn_app (goodIn_of _ (by decide +kernel)) ggX9_joins_X9_offset
set_option maxRecDepth 20000 in
theorem ggX9_joins_X9_rankOf : GoodIn wsX9_joins wsX9_rankOf := goodIn_r _ [89] (by decide +kernel) (by decide +kernel)
set_option maxRecDepth 20000 in
theorem gX9_joins_X9_rankOf : GoodIn wsX9_joins (wsV RX9 226 RX9 yX9_rankOf wsX9_rankOf) := goodIn_app (goodIn_of _ (by decide +kernel)) ggX9_joins_X9_rankOf
set_option maxRecDepth 20000 in
theorem ggX9_balance_X9_in : GoodIn wsX9_balance wsX9_in := goodIn_r _ [6] (by decide +kernel) (by decide +kernel)
set_option maxRecDepth 20000 in
theorem gX9_balance_X9_in : GoodIn wsX9_balance (va_wsS RX9 122 yX9_in wsX9_in) := goodIn_app (goodIn_of _ (by decide +kernel)) ggX9_balance_X9_in
set_option maxRecDepth 20000 in
theorem ggX9_balance_X9_isSound : GoodIn wsX9_balance wsX9_isSound := goodIn_r _ [10, 11, 12, 13, 5, 14, 15, 16, 17, 18, 19, 20, 21, 22, 23, 24, 25, 98, 99, 100, 101, 102, 103, 104, 105, 106, 107, 108, 109, 110, 111, 112, 113, 114, 115, 116, 117, 118, 119, 120, 121, 122, 123, 124, 125, 126, 127] (by decide +kernel) (by decide +kernel)
set_option maxRecDepth 20000 in
theorem gX9_balance_X9_isSound : GoodIn wsX9_balance (wsV RX9 219 RX9 yX9_isSound wsX9_isSound) := goodIn_app (goodIn_of _ (by decide +kernel)) ggX9_balance_X9_isSound
set_option maxRecDepth 20000 in
theorem ggX9_balance_X9_layAll : GoodIn wsX9_balance wsX9_layAll := goodIn_r _ [29, 30, 31, 32, 33, 34, 35, 5, 36, 37, 38, 39, 40, 41, 42, 15, 43, 44, 45, 46, 47, 48, 49, 50, 51, 52, 53, 54, 55, 56, 18, 19, 20, 21, 22, 57, 58, 59, 60, 61, 62, 63, 64, 65, 66, 67, 68, 69, 70, 71, 72, 73, 74, 75, 76, 77, 78, 79, 80, 81, 82, 98, 99, 100, 101, 102, 103, 104, 105, 106, 107, 108, 109, 110, 111, 112, 113, 114, 115, 116, 117, 118, 119, 120, 121, 122, 123, 124, 125, 126, 127] (by decide +kernel) (by decide +kernel)
set_option maxRecDepth 20000 in
theorem gX9_balance_X9_layAll : GoodIn wsX9_balance (wsV RX9 213 RX9 yX9_layAll wsX9_layAll) := goodIn_app (goodIn_of _ (by decide +kernel)) ggX9_balance_X9_layAll
set_option maxRecDepth 20000 in
theorem ggX9_balance_X9_ofDegree : GoodIn wsX9_balance wsX9_ofDegree := goodIn_r _ [86, 15, 43, 98, 99, 100, 101, 102, 103, 104, 105, 106, 107, 108, 109, 110, 111, 112, 113, 114, 115, 116, 117, 118, 119, 120, 121, 122, 123, 124, 125, 126, 127] (by decide +kernel) (by decide +kernel)
set_option maxRecDepth 20000 in
theorem gX9_balance_X9_ofDegree : GoodIn wsX9_balance (wsV RX9 160 RX9 yX9_ofDegree wsX9_ofDegree) := goodIn_app (goodIn_of _ (by decide +kernel)) ggX9_balance_X9_ofDegree
set_option maxRecDepth 20000 in
theorem ggX9_balance_X9_ones : GoodIn wsX9_balance wsX9_ones := goodIn_r _ [89] (by decide +kernel) (by decide +kernel)
set_option maxRecDepth 20000 in
theorem gX9_balance_X9_ones : GoodIn wsX9_balance (va_wsS RX9 136 yX9_ones wsX9_ones) := goodIn_app (goodIn_of _ (by decide +kernel)) ggX9_balance_X9_ones
set_option maxRecDepth 20000 in
theorem ggX9_balance_X9_wide : GoodIn wsX9_balance wsX9_wide := goodIn_r _ [93, 31, 94, 95, 96, 5, 97, 39, 57, 58, 59, 60, 40, 98, 99, 100, 101, 102, 103, 104, 105, 106, 107, 108, 109, 110, 111, 112, 113, 114, 115, 116, 117, 118, 119, 120, 121, 122, 123, 124, 125, 126, 127] (by decide +kernel) (by decide +kernel)
set_option maxRecDepth 20000 in
theorem gX9_balance_X9_wide : GoodIn wsX9_balance (wsV RX9 232 RX9 yX9_wide wsX9_wide) := goodIn_app (goodIn_of _ (by decide +kernel)) ggX9_balance_X9_wide
set_option maxRecDepth 20000 in
theorem ggX9_rankAt_X9_isPlace : GoodIn wsX9_rankAt wsX9_isPlace := goodIn_r _ [5, 6, 7, 4, 8] (by decide +kernel) (by decide +kernel)
set_option maxRecDepth 20000 in
theorem gX9_rankAt_X9_isPlace : GoodIn wsX9_rankAt (va_wsS RX9 216 yX9_isPlace wsX9_isPlace) := goodIn_app (goodIn_of _ (by decide +kernel)) ggX9_rankAt_X9_isPlace
set_option maxRecDepth 20000 in
theorem ggX9_rankBoth_X9_rankAt : GoodIn wsX9_rankBoth wsX9_rankAt := goodIn_r _ [5, 6, 7, 8, 4, 9, 10, 11, 12, 13, 14, 15, 16, 17, 18, 19, 20, 21, 22, 23, 24, 25, 26, 27, 28, 29, 30, 31, 32, 33, 34, 35, 36, 37, 38, 39, 40, 41, 42] (by decide +kernel) (by decide +kernel)
set_option maxRecDepth 20000 in
theorem gX9_rankBoth_X9_rankAt : GoodIn wsX9_rankBoth (wsV RX9 235 RX9 yX9_rankAt wsX9_rankAt) := goodIn_app (goodIn_of _ (by decide +kernel)) ggX9_rankBoth_X9_rankAt
set_option maxRecDepth 20000 in
theorem ggX9_pageAt_X9_liveAt : GoodIn wsX9_pageAt wsX9_liveAt := goodIn_r _ [5, 6, 7, 8, 9, 10, 4, 11, 12, 13, 14, 15, 16, 17, 18, 19, 20, 21, 22, 23, 24, 25, 26, 27, 28, 29, 30, 31, 32, 33, 34, 35, 36, 37, 38, 39, 40, 41, 42, 43, 44, 45, 46, 47, 48, 49, 50, 51, 52, 53, 54, 55, 56, 57, 58, 59, 60, 61, 62, 63, 64, 65, 66, 67, 68, 84, 85, 86, 87, 88, 89, 90, 91, 92, 93, 94, 95, 96, 97, 98, 99, 100, 101, 102, 103, 104, 105, 106, 107, 108, 109, 110, 111, 112, 113] (by decide +kernel) (by decide +kernel)
set_option maxRecDepth 20000 in
theorem gX9_pageAt_X9_liveAt : GoodIn wsX9_pageAt (wsV RX9 223 RX9 yX9_liveAt wsX9_liveAt) := goodIn_app (goodIn_of _ (by decide +kernel)) ggX9_pageAt_X9_liveAt
set_option maxRecDepth 20000 in
theorem ggX9_pageAt_X9_rankBoth : GoodIn wsX9_pageAt wsX9_rankBoth := goodIn_r _ [72, 73, 74, 75, 4, 76, 77, 78, 79, 80, 81, 82, 83, 84, 85, 86, 87, 88, 89, 90, 91, 92, 93, 94, 95, 96, 97, 98, 99, 100, 101, 102, 103, 104, 105, 106, 107, 108, 109, 110, 111, 112, 113] (by decide +kernel) (by decide +kernel)
set_option maxRecDepth 20000 in
theorem gX9_pageAt_X9_rankBoth : GoodIn wsX9_pageAt (wsV RX9 238 RX9 yX9_rankBoth wsX9_rankBoth) := goodIn_app (goodIn_of _ (by decide +kernel)) ggX9_pageAt_X9_rankBoth
set_option maxRecDepth 20000 in
theorem ggX9_differ_X9_in : GoodIn wsX9_differ wsX9_in := goodIn_r _ [6] (by decide +kernel) (by decide +kernel)
set_option maxRecDepth 20000 in
theorem gX9_differ_X9_in : GoodIn wsX9_differ (va_wsS RX9 122 yX9_in wsX9_in) := goodIn_app (goodIn_of _ (by decide +kernel)) ggX9_differ_X9_in
set_option maxRecDepth 20000 in
theorem ggX9_differ_X9_isPlace : GoodIn wsX9_differ wsX9_isPlace := goodIn_r _ [9, 3, 4, 5, 6] (by decide +kernel) (by decide +kernel)
set_option maxRecDepth 20000 in
theorem gX9_differ_X9_isPlace : GoodIn wsX9_differ (va_wsS RX9 216 yX9_isPlace wsX9_isPlace) := goodIn_app (goodIn_of _ (by decide +kernel)) ggX9_differ_X9_isPlace
set_option maxRecDepth 20000 in
theorem ggX9_differ_X9_isSound : GoodIn wsX9_differ wsX9_isSound := goodIn_r _ [13, 14, 15, 16, 5, 17, 18, 19, 20, 21, 22, 23, 24, 25, 26, 27, 28, 102, 103, 104, 105, 106, 107, 108, 109, 110, 111, 112, 113, 114, 115, 116, 117, 118, 119, 120, 121, 122, 123, 124, 125, 126, 127, 128, 129, 130, 131] (by decide +kernel) (by decide +kernel)
set_option maxRecDepth 20000 in
theorem gX9_differ_X9_isSound : GoodIn wsX9_differ (wsV RX9 219 RX9 yX9_isSound wsX9_isSound) := goodIn_app (goodIn_of _ (by decide +kernel)) ggX9_differ_X9_isSound
set_option maxRecDepth 20000 in
theorem ggX9_differ_X9_rankAt : GoodIn wsX9_differ wsX9_rankAt := goodIn_r _ [32, 1, 7, 8, 5, 9, 3, 4, 6, 102, 103, 104, 105, 106, 107, 108, 109, 110, 111, 112, 113, 114, 115, 116, 117, 118, 119, 120, 121, 122, 123, 124, 125, 126, 127, 128, 129, 130, 131] (by decide +kernel) (by decide +kernel)
set_option maxRecDepth 20000 in
theorem gX9_differ_X9_rankAt : GoodIn wsX9_differ (wsV RX9 235 RX9 yX9_rankAt wsX9_rankAt) := goodIn_app (goodIn_of _ (by decide +kernel)) ggX9_differ_X9_rankAt
set_option maxRecDepth 20000 in
theorem ggX9_differ_X9_rankBoth : GoodIn wsX9_differ wsX9_rankBoth := goodIn_r _ [36, 29, 30, 31, 5, 32, 1, 7, 8, 9, 3, 4, 6, 102, 103, 104, 105, 106, 107, 108, 109, 110, 111, 112, 113, 114, 115, 116, 117, 118, 119, 120, 121, 122, 123, 124, 125, 126, 127, 128, 129, 130, 131] (by decide +kernel) (by decide +kernel)
set_option maxRecDepth 20000 in
theorem gX9_differ_X9_rankBoth : GoodIn wsX9_differ (wsV RX9 238 RX9 yX9_rankBoth wsX9_rankBoth) := goodIn_app (goodIn_of _ (by decide +kernel)) ggX9_differ_X9_rankBoth
set_option maxRecDepth 20000 in
theorem ggX9_differ_X9_pageAt : GoodIn wsX9_differ wsX9_pageAt := goodIn_r _ [40, 41, 42, 43, 5, 44, 45, 46, 47, 48, 49, 50, 51, 52, 53, 54, 55, 56, 57, 58, 59, 60, 61, 18, 62, 63, 64, 65, 66, 67, 68, 69, 70, 71, 72, 73, 74, 75, 21, 22, 23, 24, 25, 76, 77, 78, 79, 80, 81, 82, 83, 84, 85, 86, 87, 88, 89, 90, 91, 92, 93, 94, 95, 96, 97, 98, 99, 100, 101, 33, 34, 35, 36, 29, 30, 31, 32, 1, 7, 8, 9, 3, 4, 6, 102, 103, 104, 105, 106, 107, 108, 109, 110, 111, 112, 113, 114, 115, 116, 117, 118, 119, 120, 121, 122, 123, 124, 125, 126, 127, 128, 129, 130, 131] (by decide +kernel) (by decide +kernel)
set_option maxRecDepth 20000 in
theorem gX9_differ_X9_pageAt : GoodIn wsX9_differ (wsV RX9 241 RX9 yX9_pageAt wsX9_pageAt) := goodIn_app (goodIn_of _ (by decide +kernel)) ggX9_differ_X9_pageAt
set_option maxRecDepth 20000 in
theorem ggX9_page_X9_in : GoodIn wsX9_page wsX9_in := goodIn_r _ [4] (by decide +kernel) (by decide +kernel)
set_option maxRecDepth 20000 in
theorem gX9_page_X9_in : GoodIn wsX9_page (va_wsS RX9 122 yX9_in wsX9_in) := goodIn_app (goodIn_of _ (by decide +kernel)) ggX9_page_X9_in
set_option maxRecDepth 20000 in
theorem ggX9_page_X9_isPlace : GoodIn wsX9_page wsX9_isPlace := goodIn_r _ [7, 1, 2, 3, 4] (by decide +kernel) (by decide +kernel)
set_option maxRecDepth 20000 in
theorem gX9_page_X9_isPlace : GoodIn wsX9_page (va_wsS RX9 216 yX9_isPlace wsX9_isPlace) := goodIn_app (goodIn_of _ (by decide +kernel)) ggX9_page_X9_isPlace
set_option maxRecDepth 20000 in
theorem ggX9_page_X9_isSound : GoodIn wsX9_page wsX9_isSound := goodIn_r _ [11, 12, 13, 14, 3, 15, 16, 17, 18, 19, 20, 21, 22, 23, 24, 25, 26, 101, 102, 103, 104, 105, 106, 107, 108, 109, 110, 111, 112, 113, 114, 115, 116, 117, 118, 119, 120, 121, 122, 123, 124, 125, 126, 127, 128, 129, 130] (by decide +kernel) (by decide +kernel)
set_option maxRecDepth 20000 in
theorem gX9_page_X9_isSound : GoodIn wsX9_page (wsV RX9 219 RX9 yX9_isSound wsX9_isSound) := goodIn_app (goodIn_of _ (by decide +kernel)) ggX9_page_X9_isSound
set_option maxRecDepth 20000 in
theorem ggX9_page_X9_pageAt : GoodIn wsX9_page wsX9_pageAt := goodIn_r _ [30, 31, 32, 33, 3, 34, 35, 36, 37, 38, 39, 40, 41, 42, 43, 44, 45, 46, 47, 48, 49, 50, 51, 16, 52, 53, 54, 55, 56, 57, 58, 59, 60, 61, 62, 63, 64, 65, 19, 20, 21, 22, 23, 66, 67, 68, 69, 70, 71, 72, 73, 74, 75, 76, 77, 78, 79, 80, 81, 82, 83, 84, 85, 86, 87, 88, 89, 90, 91, 92, 93, 94, 95, 96, 97, 98, 99, 100, 5, 6, 7, 1, 2, 4, 101, 102, 103, 104, 105, 106, 107, 108, 109, 110, 111, 112, 113, 114, 115, 116, 117, 118, 119, 120, 121, 122, 123, 124, 125, 126, 127, 128, 129, 130] (by decide +kernel) (by decide +kernel)
set_option maxRecDepth 20000 in
theorem gX9_page_X9_pageAt : GoodIn wsX9_page (wsV RX9 241 RX9 yX9_pageAt wsX9_pageAt) := goodIn_app (goodIn_of _ (by decide +kernel)) ggX9_page_X9_pageAt
set_option maxRecDepth 20000 in
theorem ggX9_count_X9_wordDegree : GoodIn wsX9_count wsX9_wordDegree := goodIn_r _ [8, 1, 9, 10, 11, 12, 13, 14, 15, 16, 17, 18, 19, 20, 21, 22, 23, 24, 25, 26, 27, 28, 29, 30, 31, 32, 33, 34, 35, 36, 37, 38, 39] (by decide +kernel) (by decide +kernel)
set_option maxRecDepth 20000 in
theorem gX9_count_X9_wordDegree : GoodIn wsX9_count (wsV RX9 126 RX9 yX9_wordDegree wsX9_wordDegree) := goodIn_app (goodIn_of _ (by decide +kernel)) ggX9_count_X9_wordDegree

