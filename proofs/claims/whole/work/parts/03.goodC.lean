set_option maxRecDepth 20000 in
theorem ggX9_init_X9_findWords : GoodIn wsX9_init wsX9_findWords := goodIn_r _ [30, 31, 5, 6, 7, 79, 80, 81, 82, 83, 84, 85, 86, 87, 88, 89, 90, 91, 92, 93, 94, 95, 96, 97, 98, 99, 100, 101, 102, 103, 104, 105, 106, 107, 108] (by decide +kernel) (by decide +kernel)
set_option maxRecDepth 20000 in
theorem gX9_init_X9_findWords : GoodIn wsX9_init (wsV RX9 71 RX9 yX9_findWords wsX9_findWords) := goodIn_app (goodIn_of _ (by decide +kernel)) ggX9_init_X9_findWords
set_option maxRecDepth 20000 in
theorem ggX9_init_X9_findRows : GoodIn wsX9_init wsX9_findRows := goodIn_r _ [35, 8, 79, 80, 81, 82, 83, 84, 85, 86, 87, 88, 89, 90, 91, 92, 93, 94, 95, 96, 97, 98, 99, 100, 101, 102, 103, 104, 105, 106, 107, 108] (by decide +kernel) (by decide +kernel)
set_option maxRecDepth 20000 in
theorem gX9_init_X9_findRows : GoodIn wsX9_init (wsV RX9 74 RX9 yX9_findRows wsX9_findRows) := goodIn_app (goodIn_of _ (by decide +kernel)) ggX9_init_X9_findRows
set_option maxRecDepth 20000 in
theorem ggX9_init_X9_findSquares : GoodIn wsX9_init wsX9_findSquares := goodIn_r _ [39, 5, 9, 10, 40, 41, 42, 29, 43, 7, 6, 44, 45, 46, 47, 48, 49, 50, 51, 52, 53, 54, 55, 56, 57, 58, 59, 60, 61, 62, 63, 64, 65, 66, 8, 67, 68, 69, 70, 79, 80, 81, 82, 83, 84, 85, 86, 87, 88, 89, 90, 91, 92, 93, 94, 95, 96, 97, 98, 99, 100, 101, 102, 103, 104, 105, 106, 107, 108] (by decide +kernel) (by decide +kernel)
set_option maxRecDepth 20000 in
theorem gX9_init_X9_findSquares : GoodIn wsX9_init (wsV RX9 77 RX9 yX9_findSquares wsX9_findSquares) := goodIn_app (goodIn_of _ (by decide +kernel)) ggX9_init_X9_findSquares
set_option maxRecDepth 20000 in
theorem ggX9_init_X9_findProducts : GoodIn wsX9_init wsX9_findProducts := goodIn_r _ [74, 31, 5, 6, 7, 11, 75, 76, 77, 29, 78, 55, 56, 57, 58, 9, 59, 60, 61, 62, 79, 80, 81, 82, 83, 84, 85, 86, 87, 88, 89, 90, 91, 92, 93, 94, 95, 96, 97, 98, 99, 100, 101, 102, 103, 104, 105, 106, 107, 108] (by decide +kernel) (by decide +kernel)
set_option maxRecDepth 20000 in
theorem gX9_init_X9_findProducts : GoodIn wsX9_init (wsV RX9 80 RX9 yX9_findProducts wsX9_findProducts) := goodIn_app (goodIn_of _ (by decide +kernel)) ggX9_init_X9_findProducts
set_option maxRecDepth 20000 in
theorem ggX9_squares_X9_manyOf : GoodIn wsX9_squares wsX9_manyOf := goodIn_r _ [7, 2, 8, 9, 10, 11, 12, 13, 14, 15, 16, 17, 18, 19, 20, 21, 22, 23, 24, 25, 26, 27, 28, 29, 30, 31, 32, 33, 34, 35, 36, 37] (by decide +kernel) (by decide +kernel)
set_option maxRecDepth 20000 in
theorem gX9_squares_X9_manyOf : GoodIn wsX9_squares (wsV RX9 87 RX9 yX9_manyOf wsX9_manyOf) := goodIn_app (goodIn_of _ (by decide +kernel)) ggX9_squares_X9_manyOf
set_option maxRecDepth 20000 in
theorem ggX9_squaresRow_X9_manyOf : GoodIn wsX9_squaresRow wsX9_manyOf := goodIn_r _ [7, 2, 8, 9, 10, 11, 12, 13, 14, 15, 16, 17, 18, 19, 20, 21, 22, 23, 24, 25, 26, 27, 28, 29, 30, 31, 32, 33, 34, 35, 36, 37] (by decide +kernel) (by decide +kernel)
set_option maxRecDepth 20000 in
theorem gX9_squaresRow_X9_manyOf : GoodIn wsX9_squaresRow (wsV RX9 87 RX9 yX9_manyOf wsX9_manyOf) := goodIn_app (goodIn_of _ (by decide +kernel)) ggX9_squaresRow_X9_manyOf
set_option maxRecDepth 20000 in
theorem ggX9_squareOf_X9_placeOf : GoodIn wsX9_squareOf wsX9_placeOf := goodIn_r _ [8, 3, 2, 1, 25, 26, 27, 28, 29, 30, 31, 32, 33, 34, 35, 36, 37, 38, 39, 40, 41, 42, 43, 44, 45, 46, 47, 48, 49, 50, 51, 52, 53, 54] (by decide +kernel) (by decide +kernel)
set_option maxRecDepth 20000 in
theorem gX9_squareOf_X9_placeOf : GoodIn wsX9_squareOf (wsV RX9 91 RX9 yX9_placeOf wsX9_placeOf) := goodIn_app (goodIn_of _ (by decide +kernel)) ggX9_squareOf_X9_placeOf
set_option maxRecDepth 20000 in
theorem ggX9_squareOf_X9_restOf : GoodIn wsX9_squareOf wsX9_restOf := goodIn_r _ [12, 1, 3, 2, 25, 26, 27, 28, 29, 30, 31, 32, 33, 34, 35, 36, 37, 38, 39, 40, 41, 42, 43, 44, 45, 46, 47, 48, 49, 50, 51, 52, 53, 54] (by decide +kernel) (by decide +kernel)
set_option maxRecDepth 20000 in
theorem gX9_squareOf_X9_restOf : GoodIn wsX9_squareOf (wsV RX9 95 RX9 yX9_restOf wsX9_restOf) := goodIn_app (goodIn_of _ (by decide +kernel)) ggX9_squareOf_X9_restOf
set_option maxRecDepth 20000 in
theorem ggX9_squareOf_X9_isOdd : GoodIn wsX9_squareOf wsX9_isOdd := goodIn_r _ [15] (by decide +kernel) (by decide +kernel)
set_option maxRecDepth 20000 in
theorem gX9_squareOf_X9_isOdd : GoodIn wsX9_squareOf (va_wsS RX9 99 yX9_isOdd wsX9_isOdd) := goodIn_app (goodIn_of _ (by decide +kernel)) ggX9_squareOf_X9_isOdd
set_option maxRecDepth 20000 in
theorem ggX9_squareOf_X9_squares : GoodIn wsX9_squareOf wsX9_squares := goodIn_r _ [19, 20, 3, 21, 22, 23, 7, 24, 25, 26, 27, 28, 29, 30, 31, 32, 33, 34, 35, 36, 37, 38, 39, 40, 41, 42, 43, 44, 45, 46, 47, 48, 49, 50, 51, 52, 53, 54] (by decide +kernel) (by decide +kernel)
set_option maxRecDepth 20000 in
theorem gX9_squareOf_X9_squares : GoodIn wsX9_squareOf (wsV RX9 103 RX9 yX9_squares wsX9_squares) := goodIn_app (goodIn_of _ (by decide +kernel)) ggX9_squareOf_X9_squares
set_option maxRecDepth 20000 in
theorem ggX9_squareOfRow_X9_rowAt : GoodIn wsX9_squareOfRow wsX9_rowAt := goodIn_r _ [6, 7, 1, 8, 9, 10, 11, 12, 13, 14, 15, 16, 17, 18, 19, 20, 21, 22, 23, 24, 25, 26, 27, 28, 29, 30, 31, 32, 33, 34, 35, 36, 37] (by decide +kernel) (by decide +kernel)
set_option maxRecDepth 20000 in
theorem gX9_squareOfRow_X9_rowAt : GoodIn wsX9_squareOfRow (wsV RX9 107 RX9 yX9_rowAt wsX9_rowAt) := goodIn_app (goodIn_of _ (by decide +kernel)) ggX9_squareOfRow_X9_rowAt
set_option maxRecDepth 20000 in
theorem ggX9_findSquares_X9_squareOf : GoodIn wsX9_findSquares wsX9_squareOf := goodIn_r _ [8, 9, 10, 1, 11, 12, 13, 7, 14, 15, 16, 17, 18, 19, 20, 21, 22, 23, 24, 25, 2, 26, 27, 28, 29, 39, 40, 41, 42, 43, 44, 45, 46, 47, 48, 49, 50, 51, 52, 53, 54, 55, 56, 57, 58, 59, 60, 61, 62, 63, 64, 65, 66, 67, 68] (by decide +kernel) (by decide +kernel)
set_option maxRecDepth 20000 in
theorem gX9_findSquares_X9_squareOf : GoodIn wsX9_findSquares (wsV RX9 110 RX9 yX9_squareOf wsX9_squareOf) := goodIn_app (goodIn_of _ (by decide +kernel)) ggX9_findSquares_X9_squareOf
set_option maxRecDepth 20000 in
theorem ggX9_findSquares_X9_squareOfRow : GoodIn wsX9_findSquares wsX9_squareOfRow := goodIn_r _ [33, 34, 35, 36, 37, 7, 38, 1, 39, 40, 41, 42, 43, 44, 45, 46, 47, 48, 49, 50, 51, 52, 53, 54, 55, 56, 57, 58, 59, 60, 61, 62, 63, 64, 65, 66, 67, 68] (by decide +kernel) (by decide +kernel)
set_option maxRecDepth 20000 in
theorem gX9_findSquares_X9_squareOfRow : GoodIn wsX9_findSquares (wsV RX9 113 RX9 yX9_squareOfRow wsX9_squareOfRow) := goodIn_app (goodIn_of _ (by decide +kernel)) ggX9_findSquares_X9_squareOfRow
set_option maxRecDepth 20000 in
theorem ggX9_findProducts_X9_degreeOf : GoodIn wsX9_findProducts wsX9_degreeOf := goodIn_r _ [10, 2, 20, 21, 22, 23, 24, 25, 26, 27, 28, 29, 30, 31, 32, 33, 34, 35, 36, 37, 38, 39, 40, 41, 42, 43, 44, 45, 46, 47, 48, 49] (by decide +kernel) (by decide +kernel)
set_option maxRecDepth 20000 in
theorem gX9_findProducts_X9_degreeOf : GoodIn wsX9_findProducts (wsV RX9 116 RX9 yX9_degreeOf wsX9_degreeOf) := goodIn_app (goodIn_of _ (by decide +kernel)) ggX9_findProducts_X9_degreeOf
set_option maxRecDepth 20000 in
theorem ggX9_findProducts_X9_squares : GoodIn wsX9_findProducts wsX9_squares := goodIn_r _ [14, 15, 2, 16, 17, 18, 9, 19, 20, 21, 22, 23, 24, 25, 26, 27, 28, 29, 30, 31, 32, 33, 34, 35, 36, 37, 38, 39, 40, 41, 42, 43, 44, 45, 46, 47, 48, 49] (by decide +kernel) (by decide +kernel)
set_option maxRecDepth 20000 in
theorem gX9_findProducts_X9_squares : GoodIn wsX9_findProducts (wsV RX9 103 RX9 yX9_squares wsX9_squares) := goodIn_app (goodIn_of _ (by decide +kernel)) ggX9_findProducts_X9_squares
set_option maxRecDepth 20000 in
theorem ggX9_square_X9_in : GoodIn wsX9_square wsX9_in := goodIn_r _ [6] (by decide +kernel) (by decide +kernel)
set_option maxRecDepth 20000 in
theorem gX9_square_X9_in : GoodIn wsX9_square (va_wsS RX9 122 yX9_in wsX9_in) := goodIn_app (goodIn_of _ (by decide +kernel)) ggX9_square_X9_in
set_option maxRecDepth 20000 in
theorem ggX9_square_X9_wordDegree : GoodIn wsX9_square wsX9_wordDegree := goodIn_r _ [10, 1, 2, 11, 12, 13, 14, 15, 16, 17, 18, 19, 20, 21, 22, 23, 24, 25, 26, 27, 28, 29, 30, 31, 32, 33, 34, 35, 36, 37, 38, 39, 40] (by decide +kernel) (by decide +kernel)
set_option maxRecDepth 20000 in
theorem gX9_square_X9_wordDegree : GoodIn wsX9_square (wsV RX9 126 RX9 yX9_wordDegree wsX9_wordDegree) := goodIn_app (goodIn_of _ (by decide +kernel)) ggX9_square_X9_wordDegree
set_option maxRecDepth 20000 in
theorem ggX9_sumOf_X9_squares : GoodIn wsX9_sumOf wsX9_squares := goodIn_r _ [7, 8, 9, 10, 11, 12, 6, 13, 19, 20, 21, 22, 23, 24, 25, 26, 27, 28, 29, 30, 31, 32, 33, 34, 35, 36, 37, 38, 39, 40, 41, 42, 43, 44, 45, 46, 47, 48] (by decide +kernel) (by decide +kernel)
set_option maxRecDepth 20000 in
theorem gX9_sumOf_X9_squares : GoodIn wsX9_sumOf (wsV RX9 103 RX9 yX9_squares wsX9_squares) := goodIn_app (goodIn_of _ (by decide +kernel)) ggX9_sumOf_X9_squares
set_option maxRecDepth 20000 in
theorem ggX9_sumOf_X9_squaresRow : GoodIn wsX9_sumOf wsX9_squaresRow := goodIn_r _ [17, 18, 9, 10, 11, 12, 6, 13, 19, 20, 21, 22, 23, 24, 25, 26, 27, 28, 29, 30, 31, 32, 33, 34, 35, 36, 37, 38, 39, 40, 41, 42, 43, 44, 45, 46, 47, 48] (by decide +kernel) (by decide +kernel)
set_option maxRecDepth 20000 in
theorem gX9_sumOf_X9_squaresRow : GoodIn wsX9_sumOf (wsV RX9 130 RX9 yX9_squaresRow wsX9_squaresRow) := goodIn_app (goodIn_of _ (by decide +kernel)) ggX9_sumOf_X9_squaresRow
set_option maxRecDepth 20000 in
theorem ggX9_sum_X9_in : GoodIn wsX9_sum wsX9_in := goodIn_r _ [4] (by decide +kernel) (by decide +kernel)
set_option maxRecDepth 20000 in
theorem gX9_sum_X9_in : GoodIn wsX9_sum (va_wsS RX9 122 yX9_in wsX9_in) := goodIn_app (goodIn_of _ (by decide +kernel)) ggX9_sum_X9_in
set_option maxRecDepth 20000 in
theorem ggX9_sum_X9_sumOf : GoodIn wsX9_sum wsX9_sumOf := goodIn_r _ [8, 9, 10, 11, 12, 13, 3, 14, 15, 16, 17, 18, 19, 20, 21, 22, 23, 24, 25, 29, 30, 31, 32, 33, 34, 35, 36, 37, 38, 39, 40, 41, 42, 43, 44, 45, 46, 47, 48, 49, 50, 51, 52, 53, 54, 55, 56, 57, 58] (by decide +kernel) (by decide +kernel)
set_option maxRecDepth 20000 in
theorem gX9_sum_X9_sumOf : GoodIn wsX9_sum (wsV RX9 133 RX9 yX9_sumOf wsX9_sumOf) := goodIn_app (goodIn_of _ (by decide +kernel)) ggX9_sum_X9_sumOf
set_option maxRecDepth 20000 in
theorem ggX9_sum_X9_ones : GoodIn wsX9_sum wsX9_ones := goodIn_r _ [28] (by decide +kernel) (by decide +kernel)
set_option maxRecDepth 20000 in
theorem gX9_sum_X9_ones : GoodIn wsX9_sum (va_wsS RX9 136 yX9_ones wsX9_ones) := goodIn_app (goodIn_of _ (by decide +kernel)) ggX9_sum_X9_ones
set_option maxRecDepth 20000 in
theorem ggX9_term_X9_in : GoodIn wsX9_term wsX9_in := goodIn_r _ [8] (by decide +kernel) (by decide +kernel)
set_option maxRecDepth 20000 in
theorem gX9_term_X9_in : GoodIn wsX9_term (va_wsS RX9 122 yX9_in wsX9_in) := goodIn_app (goodIn_of _ (by decide +kernel)) ggX9_term_X9_in
set_option maxRecDepth 20000 in
theorem ggX9_term_X9_sumOf : GoodIn wsX9_term wsX9_sumOf := goodIn_r _ [12, 13, 14, 15, 16, 17, 7, 18, 19, 1, 20, 21, 22, 23, 24, 25, 26, 27, 28, 36, 37, 38, 39, 40, 41, 42, 43, 44, 45, 46, 47, 48, 49, 50, 51, 52, 53, 54, 55, 56, 57, 58, 59, 60, 61, 62, 63, 64, 65] (by decide +kernel) (by decide +kernel)
set_option maxRecDepth 20000 in
theorem gX9_term_X9_sumOf : GoodIn wsX9_term (wsV RX9 133 RX9 yX9_sumOf wsX9_sumOf) := goodIn_app (goodIn_of _ (by decide +kernel)) ggX9_term_X9_sumOf
set_option maxRecDepth 20000 in
theorem ggX9_term_X9_ones : GoodIn wsX9_term wsX9_ones := goodIn_r _ [31] (by decide +kernel) (by decide +kernel)
set_option maxRecDepth 20000 in
theorem gX9_term_X9_ones : GoodIn wsX9_term (va_wsS RX9 136 yX9_ones wsX9_ones) := goodIn_app (goodIn_of _ (by decide +kernel)) ggX9_term_X9_ones
set_option maxRecDepth 20000 in
theorem ggX9_term_X9_wordDegree : GoodIn wsX9_term wsX9_wordDegree := goodIn_r _ [35, 13, 14, 36, 37, 38, 39, 40, 41, 42, 43, 44, 45, 46, 47, 48, 49, 50, 51, 52, 53, 54, 55, 56, 57, 58, 59, 60, 61, 62, 63, 64, 65] (by decide +kernel) (by decide +kernel)
set_option maxRecDepth 20000 in
theorem gX9_term_X9_wordDegree : GoodIn wsX9_term (wsV RX9 126 RX9 yX9_wordDegree wsX9_wordDegree) := goodIn_app (goodIn_of _ (by decide +kernel)) ggX9_term_X9_wordDegree
set_option maxRecDepth 20000 in
theorem ggX9_many_X9_in : GoodIn wsX9_many wsX9_in := goodIn_r _ [4] (by decide +kernel) (by decide +kernel)
set_option maxRecDepth 20000 in
theorem gX9_many_X9_in : GoodIn wsX9_many (va_wsS RX9 122 yX9_in wsX9_in) := goodIn_app (goodIn_of _ (by decide +kernel)) ggX9_many_X9_in
set_option maxRecDepth 20000 in
theorem ggX9_many_X9_manyOf : GoodIn wsX9_many wsX9_manyOf := goodIn_r _ [8, 9, 10, 11, 12, 13, 14, 15, 16, 17, 18, 19, 20, 21, 22, 23, 24, 25, 26, 27, 28, 29, 30, 31, 32, 33, 34, 35, 36, 37, 38, 39] (by decide +kernel) (by decide +kernel)
set_option maxRecDepth 20000 in
theorem gX9_many_X9_manyOf : GoodIn wsX9_many (wsV RX9 87 RX9 yX9_manyOf wsX9_manyOf) := goodIn_app (goodIn_of _ (by decide +kernel)) ggX9_many_X9_manyOf
set_option maxRecDepth 20000 in
theorem ggX9_empty_X9_changes : GoodIn wsX9_empty wsX9_changes := goodIn_r _ [6, 7, 8, 9, 10, 11, 12, 13, 14, 15, 16, 17, 18, 19, 20, 21, 22, 23, 24, 25, 26, 27, 28, 29, 30, 31, 32, 33, 34, 35, 36, 37, 38, 39] (by decide +kernel) (by decide +kernel)
set_option maxRecDepth 20000 in
theorem gX9_empty_X9_changes : GoodIn wsX9_empty (wsV RX9 149 RX9 yX9_changes wsX9_changes) := goodIn_app (goodIn_of _ (by decide +kernel)) ggX9_empty_X9_changes
set_option maxRecDepth 20000 in
theorem ggX9_element_X9_in : GoodIn wsX9_element wsX9_in := goodIn_r _ [5] (by decide +kernel) (by decide +kernel)
set_option maxRecDepth 20000 in
theorem gX9_element_X9_in : GoodIn wsX9_element (va_wsS RX9 122 yX9_in wsX9_in) := goodIn_app (goodIn_of _ (by decide +kernel)) ggX9_element_X9_in
set_option maxRecDepth 20000 in
theorem ggX9_element_X9_comes : GoodIn wsX9_element wsX9_comes := goodIn_r _ [9, 10, 1, 11, 19, 20, 21, 22, 23, 24, 25, 26, 27, 28, 29, 30, 31, 32, 33, 34, 35, 36, 37, 38, 39, 40, 41, 42, 43, 44, 45, 46, 47, 48] (by decide +kernel) (by decide +kernel)
set_option maxRecDepth 20000 in
theorem gX9_element_X9_comes : GoodIn wsX9_element (wsV RX9 152 RX9 yX9_comes wsX9_comes) := goodIn_app (goodIn_of _ (by decide +kernel)) ggX9_element_X9_comes
set_option maxRecDepth 20000 in
theorem ggX9_element_X9_changes : GoodIn wsX9_element wsX9_changes := goodIn_r _ [15, 16, 17, 18, 19, 20, 21, 22, 23, 24, 25, 26, 27, 28, 29, 30, 31, 32, 33, 34, 35, 36, 37, 38, 39, 40, 41, 42, 43, 44, 45, 46, 47, 48] (by decide +kernel) (by decide +kernel)
set_option maxRecDepth 20000 in
theorem gX9_element_X9_changes : GoodIn wsX9_element (wsV RX9 149 RX9 yX9_changes wsX9_changes) := goodIn_app (goodIn_of _ (by decide +kernel)) ggX9_element_X9_changes
set_option maxRecDepth 20000 in
theorem ggX9_isElement_X9_in : GoodIn wsX9_isElement wsX9_in := goodIn_r _ [5] (by decide +kernel) (by decide +kernel)
set_option maxRecDepth 20000 in
theorem gX9_isElement_X9_in : GoodIn wsX9_isElement (va_wsS RX9 122 yX9_in wsX9_in) := goodIn_app (goodIn_of _ (by decide +kernel)) ggX9_isElement_X9_in
set_option maxRecDepth 20000 in
theorem ggX9_act_X9_in : GoodIn wsX9_act wsX9_in := goodIn_r _ [6] (by decide +kernel) (by decide +kernel)
set_option maxRecDepth 20000 in
theorem gX9_act_X9_in : GoodIn wsX9_act (va_wsS RX9 122 yX9_in wsX9_in) := goodIn_app (goodIn_of _ (by decide +kernel)) ggX9_act_X9_in
set_option maxRecDepth 20000 in
theorem ggX9_act_X9_isElement : GoodIn wsX9_act wsX9_isElement := goodIn_r _ [10, 11, 3, 4, 5, 6, 23, 24, 25, 26, 27, 28, 29, 30, 31, 32, 33, 34, 35, 36, 37, 38, 39, 40, 41, 42, 43, 44, 45, 46, 47, 48, 49, 50, 51, 52] (by decide +kernel) (by decide +kernel)
set_option maxRecDepth 20000 in
theorem gX9_act_X9_isElement : GoodIn wsX9_act (wsV RX9 156 RX9 yX9_isElement wsX9_isElement) := goodIn_app (goodIn_of _ (by decide +kernel)) ggX9_act_X9_isElement
set_option maxRecDepth 20000 in
theorem ggX9_act_X9_ofDegree : GoodIn wsX9_act wsX9_ofDegree := goodIn_r _ [15, 11, 1, 23, 24, 25, 26, 27, 28, 29, 30, 31, 32, 33, 34, 35, 36, 37, 38, 39, 40, 41, 42, 43, 44, 45, 46, 47, 48, 49, 50, 51, 52] (by decide +kernel) (by decide +kernel)
set_option maxRecDepth 20000 in
theorem gX9_act_X9_ofDegree : GoodIn wsX9_act (wsV RX9 160 RX9 yX9_ofDegree wsX9_ofDegree) := goodIn_app (goodIn_of _ (by decide +kernel)) ggX9_act_X9_ofDegree
set_option maxRecDepth 20000 in
theorem ggX9_act_X9_changes : GoodIn wsX9_act wsX9_changes := goodIn_r _ [19, 20, 21, 22, 23, 24, 25, 26, 27, 28, 29, 30, 31, 32, 33, 34, 35, 36, 37, 38, 39, 40, 41, 42, 43, 44, 45, 46, 47, 48, 49, 50, 51, 52] (by decide +kernel) (by decide +kernel)
set_option maxRecDepth 20000 in
theorem gX9_act_X9_changes : GoodIn wsX9_act (wsV RX9 149 RX9 yX9_changes wsX9_changes) := goodIn_app (goodIn_of _ (by decide +kernel)) ggX9_act_X9_changes
set_option maxRecDepth 20000 in
theorem ggX9_space_X9_in : GoodIn wsX9_space wsX9_in := goodIn_r _ [6] (by decide +kernel) (by decide +kernel)
set_option maxRecDepth 20000 in
theorem gX9_space_X9_in : GoodIn wsX9_space (va_wsS RX9 122 yX9_in wsX9_in) := goodIn_app (goodIn_of _ (by decide +kernel)) ggX9_space_X9_in
set_option maxRecDepth 20000 in
theorem ggX9_space_X9_comes : GoodIn wsX9_space wsX9_comes := goodIn_r _ [10, 11, 1, 2, 22, 23, 24, 25, 26, 27, 28, 29, 30, 31, 32, 33, 34, 35, 36, 37, 38, 39, 40, 41, 42, 43, 44, 45, 46, 47, 48, 49, 50, 51] (by decide +kernel) (by decide +kernel)
set_option maxRecDepth 20000 in
theorem gX9_space_X9_comes : GoodIn wsX9_space (wsV RX9 152 RX9 yX9_comes wsX9_comes) := goodIn_app (goodIn_of _ (by decide +kernel)) ggX9_space_X9_comes
set_option maxRecDepth 20000 in
theorem ggX9_space_X9_isOdd : GoodIn wsX9_space wsX9_isOdd := goodIn_r _ [14] (by decide +kernel) (by decide +kernel)
set_option maxRecDepth 20000 in
theorem gX9_space_X9_isOdd : GoodIn wsX9_space (va_wsS RX9 99 yX9_isOdd wsX9_isOdd) := goodIn_app (goodIn_of _ (by decide +kernel)) ggX9_space_X9_isOdd
set_option maxRecDepth 20000 in
theorem ggX9_space_X9_changes : GoodIn wsX9_space wsX9_changes := goodIn_r _ [18, 19, 20, 21, 22, 23, 24, 25, 26, 27, 28, 29, 30, 31, 32, 33, 34, 35, 36, 37, 38, 39, 40, 41, 42, 43, 44, 45, 46, 47, 48, 49, 50, 51] (by decide +kernel) (by decide +kernel)
set_option maxRecDepth 20000 in
theorem gX9_space_X9_changes : GoodIn wsX9_space (wsV RX9 149 RX9 yX9_changes wsX9_changes) := goodIn_app (goodIn_of _ (by decide +kernel)) ggX9_space_X9_changes
set_option maxRecDepth 20000 in
theorem ggX9_does_X9_isElement : GoodIn wsX9_does wsX9_isElement := goodIn_r _ [7, 8, 9, 10, 6, 11, 17, 18, 19, 20, 21, 22, 23, 24, 25, 26, 27, 28, 29, 30, 31, 32, 33, 34, 35, 36, 37, 38, 39, 40, 41, 42, 43, 44, 45, 46] (by decide +kernel) (by decide +kernel)
set_option maxRecDepth 20000 in
theorem gX9_does_X9_isElement : GoodIn wsX9_does (wsV RX9 156 RX9 yX9_isElement wsX9_isElement) := goodIn_app (goodIn_of _ (by decide +kernel)) ggX9_does_X9_isElement
set_option maxRecDepth 20000 in
theorem ggX9_does_X9_acted : GoodIn wsX9_does wsX9_acted := goodIn_r _ [15, 8, 16, 17, 18, 19, 20, 21, 22, 23, 24, 25, 26, 27, 28, 29, 30, 31, 32, 33, 34, 35, 36, 37, 38, 39, 40, 41, 42, 43, 44, 45, 46] (by decide +kernel) (by decide +kernel)
set_option maxRecDepth 20000 in
theorem gX9_does_X9_acted : GoodIn wsX9_does (wsV RX9 163 RX9 yX9_acted wsX9_acted) := goodIn_app (goodIn_of _ (by decide +kernel)) ggX9_does_X9_acted
set_option maxRecDepth 20000 in
theorem ggX9_about_X9_isElement : GoodIn wsX9_about wsX9_isElement := goodIn_r _ [7, 8, 9, 10, 6, 11, 12, 13, 14, 15, 16, 17, 18, 19, 20, 21, 22, 23, 24, 25, 26, 27, 28, 29, 30, 31, 32, 33, 34, 35, 36, 37, 38, 39, 40, 41] (by decide +kernel) (by decide +kernel)
set_option maxRecDepth 20000 in
theorem gX9_about_X9_isElement : GoodIn wsX9_about (wsV RX9 156 RX9 yX9_isElement wsX9_isElement) := goodIn_app (goodIn_of _ (by decide +kernel)) ggX9_about_X9_isElement
set_option maxRecDepth 20000 in
theorem ggX9_about_X9_in : GoodIn wsX9_about wsX9_in := goodIn_r _ [11] (by decide +kernel) (by decide +kernel)
set_option maxRecDepth 20000 in
theorem gX9_about_X9_in : GoodIn wsX9_about (va_wsS RX9 122 yX9_in wsX9_in) := goodIn_app (goodIn_of _ (by decide +kernel)) ggX9_about_X9_in
set_option maxRecDepth 20000 in
theorem ggX9_findFault_X9_acted : GoodIn wsX9_findFault wsX9_acted := goodIn_r _ [8, 1, 9, 13, 14, 15, 16, 17, 18, 19, 20, 21, 22, 23, 24, 25, 26, 27, 28, 29, 30, 31, 32, 33, 34, 35, 36, 37, 38, 39, 40, 41, 42] (by decide +kernel) (by decide +kernel)
set_option maxRecDepth 20000 in
theorem gX9_findFault_X9_acted : GoodIn wsX9_findFault (wsV RX9 163 RX9 yX9_acted wsX9_acted) := goodIn_app (goodIn_of _ (by decide +kernel)) ggX9_findFault_X9_acted
set_option maxRecDepth 20000 in
theorem ggX9_findFault_X9_isOdd : GoodIn wsX9_findFault wsX9_isOdd := goodIn_r _ [12] (by decide +kernel) (by decide +kernel)
set_option maxRecDepth 20000 in
theorem gX9_findFault_X9_isOdd : GoodIn wsX9_findFault (va_wsS RX9 99 yX9_isOdd wsX9_isOdd) := goodIn_app (goodIn_of _ (by decide +kernel)) ggX9_findFault_X9_isOdd
