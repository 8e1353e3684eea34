set_option maxRecDepth 20000 in
theorem ggL_law_X2_init : GoodIn wsL_law wsX2_init := goodIn_r _ [8, 9, 10, 11, 12, 13, 14, 15, 16, 17, 18, 19, 20, 21, 333, 334, 335, 336, 337, 324, 325, 326, 327] (by decide +kernel) (by decide +kernel)
set_option maxRecDepth 20000 in
theorem gL_law_X2_init : GoodIn wsL_law (wsX2_init) := ggL_law_X2_init
set_option maxRecDepth 20000 in
theorem ggL_law_X3_init : GoodIn wsL_law wsX3_init := goodIn_r _ [24, 25, 10, 11, 19, 26, 27, 28, 29, 30, 328, 329, 330, 331, 332] (by decide +kernel) (by decide +kernel)
set_option maxRecDepth 20000 in
theorem gL_law_X3_init : GoodIn wsL_law (wsX3_init) := ggL_law_X3_init
set_option maxRecDepth 20000 in
theorem ggL_law_X2_put : GoodIn wsL_law wsX2_put := goodIn_r _ [34, 15, 35, 36, 37, 38, 14, 39, 40, 41, 42, 43, 44, 20, 21, 324, 325, 326, 327, 333, 334, 335, 336, 337] (by decide +kernel) (by decide +kernel)
set_option maxRecDepth 20000 in
theorem gL_law_X2_put : GoodIn wsL_law (wsV RL 13 RX2 yX2_put wsX2_put) := goodIn_app (goodIn_of _ (by decide +kernel)) ggL_law_X2_put
set_option maxRecDepth 20000 in
theorem ggL_law_X3_put : GoodIn wsL_law wsX3_put := goodIn_r _ [48, 30, 26, 27, 328, 329, 330, 331, 332] (by decide +kernel) (by decide +kernel)
set_option maxRecDepth 20000 in
theorem gL_law_X3_put : GoodIn wsL_law (wsV RL 17 RX3 yX3_put wsX3_put) := goodIn_app (goodIn_of _ (by decide +kernel)) ggL_law_X3_put
set_option maxRecDepth 20000 in
theorem ggL_law_X2_run : GoodIn wsL_law wsX2_run := goodIn_r _ [52, 15, 35, 36, 37, 38, 14, 39, 40, 41, 42, 43, 44, 20, 21, 324, 325, 326, 327, 333, 334, 335, 336, 337] (by decide +kernel) (by decide +kernel)
set_option maxRecDepth 20000 in
theorem gL_law_X2_run : GoodIn wsL_law (wsV RL 18 RX2 yX2_run wsX2_run) := goodIn_app (goodIn_of _ (by decide +kernel)) ggL_law_X2_run
set_option maxRecDepth 20000 in
theorem ggL_law_X3_run : GoodIn wsL_law wsX3_run := goodIn_r _ [56, 30, 26, 27, 328, 329, 330, 331, 332] (by decide +kernel) (by decide +kernel)
set_option maxRecDepth 20000 in
theorem gL_law_X3_run : GoodIn wsL_law (wsV RL 22 RX3 yX3_run wsX3_run) := goodIn_app (goodIn_of _ (by decide +kernel)) ggL_law_X3_run
set_option maxRecDepth 20000 in
theorem ggL_law_X2_clear : GoodIn wsL_law wsX2_clear := goodIn_r _ [60, 15, 35, 324, 325, 326, 327, 333, 334, 335, 336, 337] (by decide +kernel) (by decide +kernel)
set_option maxRecDepth 20000 in
theorem gL_law_X2_clear : GoodIn wsL_law (wsV RL 23 RX2 yX2_clear wsX2_clear) := goodIn_app (goodIn_of _ (by decide +kernel)) ggL_law_X2_clear
set_option maxRecDepth 20000 in
theorem ggL_law_X3_clear : GoodIn wsL_law wsX3_clear := goodIn_r _ [64, 30, 328, 329, 330, 331, 332] (by decide +kernel) (by decide +kernel)
set_option maxRecDepth 20000 in
theorem gL_law_X3_clear : GoodIn wsL_law (wsV RL 27 RX3 yX3_clear wsX3_clear) := goodIn_app (goodIn_of _ (by decide +kernel)) ggL_law_X3_clear
set_option maxRecDepth 20000 in
theorem ggL_law_X2_sort : GoodIn wsL_law wsX2_sort := goodIn_r _ [68, 15, 35, 69, 70, 71, 2, 72, 73, 74, 75, 76, 77, 78, 79, 14, 80, 40, 81, 82, 83, 84, 85, 86, 87, 88, 89, 90, 91, 92, 93, 94, 95, 96, 97, 98, 99, 100, 101, 102, 103, 104, 105, 20, 106, 107, 108, 109, 110, 111, 112, 113, 114, 115, 116, 117, 118, 119, 120, 121, 21, 122, 123, 124, 125, 126, 127, 128, 129, 130, 324, 325, 326, 327, 333, 334, 335, 336, 337] (by decide +kernel) (by decide +kernel)
set_option maxRecDepth 20000 in
theorem gL_law_X2_sort : GoodIn wsL_law (wsV RL 28 RX2 yX2_sort wsX2_sort) := goodIn_app (goodIn_of _ (by decide +kernel)) ggL_law_X2_sort
set_option maxRecDepth 20000 in
theorem ggL_law_X3_sort : GoodIn wsL_law wsX3_sort := goodIn_r _ [134, 30, 135, 136, 5, 137, 138, 139, 140, 141, 142, 143, 144, 145, 26, 146, 147, 148, 149, 150, 151, 152, 153, 28, 29, 27, 154, 155, 156, 157, 328, 329, 330, 331, 332] (by decide +kernel) (by decide +kernel)
set_option maxRecDepth 20000 in
theorem gL_law_X3_sort : GoodIn wsL_law (wsV RL 32 RX3 yX3_sort wsX3_sort) := goodIn_app (goodIn_of _ (by decide +kernel)) ggL_law_X3_sort
set_option maxRecDepth 20000 in
theorem ggL_law_X2_sortPart : GoodIn wsL_law wsX2_sortPart := goodIn_r _ [72, 15, 73, 74, 75, 76, 77, 78, 79, 14, 80, 40, 81, 82, 83, 84, 85, 86, 87, 88, 89, 90, 91, 92, 93, 94, 95, 96, 97, 98, 99, 100, 101, 102, 103, 104, 105, 20, 106, 107, 108, 109, 110, 111, 112, 113, 114, 115, 116, 117, 118, 119, 120, 121, 21, 122, 123, 124, 2, 125, 126, 127, 128, 129, 130, 324, 325, 326, 327, 333, 334, 335, 336, 337] (by decide +kernel) (by decide +kernel)
set_option maxRecDepth 20000 in
theorem gL_law_X2_sortPart : GoodIn wsL_law (wsV RL 33 RX2 yX2_sortPart wsX2_sortPart) := goodIn_app (goodIn_of _ (by decide +kernel)) ggL_law_X2_sortPart
set_option maxRecDepth 20000 in
theorem ggL_law_X3_sortPart : GoodIn wsL_law wsX3_sortPart := goodIn_r _ [162, 163, 164, 165, 5, 166, 30, 135, 136, 137, 138, 139, 140, 141, 142, 143, 144, 145, 26, 146, 147, 148, 149, 150, 151, 152, 153, 28, 29, 27, 154, 155, 156, 157, 328, 329, 330, 331, 332] (by decide +kernel) (by decide +kernel)
set_option maxRecDepth 20000 in
theorem gL_law_X3_sortPart : GoodIn wsL_law (wsV RL 37 RX3 yX3_sortPart wsX3_sortPart) := goodIn_app (goodIn_of _ (by decide +kernel)) ggL_law_X3_sortPart
set_option maxRecDepth 20000 in
theorem ggL_law_X2_merge : GoodIn wsL_law wsX2_merge := goodIn_r _ [170, 15, 73, 74, 75, 76, 171, 172, 173, 14, 174, 175, 78, 79, 80, 40, 81, 82, 83, 84, 85, 86, 176, 177, 178, 179, 102, 103, 104, 105, 20, 106, 107, 108, 109, 96, 97, 98, 99, 100, 101, 110, 111, 112, 113, 114, 115, 116, 117, 118, 119, 120, 121, 21, 95, 122, 123, 124, 2, 125, 126, 127, 128, 129, 130, 324, 325, 326, 327, 333, 334, 335, 336, 337] (by decide +kernel) (by decide +kernel)
set_option maxRecDepth 20000 in
theorem gL_law_X2_merge : GoodIn wsL_law (wsV RL 38 RX2 yX2_merge wsX2_merge) := goodIn_app (goodIn_of _ (by decide +kernel)) ggL_law_X2_merge
set_option maxRecDepth 20000 in
theorem ggL_law_X3_merge : GoodIn wsL_law wsX3_merge := goodIn_r _ [183, 163, 164, 165, 5, 166, 30, 135, 136, 137, 184, 185, 186, 187, 26, 146, 147, 148, 149, 138, 139, 140, 141, 142, 143, 144, 145, 150, 151, 152, 153, 28, 29, 27, 154, 155, 156, 157, 328, 329, 330, 331, 332] (by decide +kernel) (by decide +kernel)
set_option maxRecDepth 20000 in
theorem gL_law_X3_merge : GoodIn wsL_law (wsV RL 41 RX3 yX3_merge wsX3_merge) := goodIn_app (goodIn_of _ (by decide +kernel)) ggL_law_X3_merge
set_option maxRecDepth 20000 in
theorem ggL_law_X2_rotate : GoodIn wsL_law wsX2_rotate := goodIn_r _ [191, 15, 171, 172, 173, 14, 174, 175, 78, 79, 80, 40, 192, 111, 112, 113, 114, 115, 116, 117, 118, 119, 120, 121, 20, 86, 21, 324, 325, 326, 327, 333, 334, 335, 336, 337] (by decide +kernel) (by decide +kernel)
set_option maxRecDepth 20000 in
theorem gL_law_X2_rotate : GoodIn wsL_law (wsV RL 42 RX2 yX2_rotate wsX2_rotate) := goodIn_app (goodIn_of _ (by decide +kernel)) ggL_law_X2_rotate
set_option maxRecDepth 20000 in
theorem ggL_law_X3_rotate : GoodIn wsL_law wsX3_rotate := goodIn_r _ [196, 163, 164, 165, 5, 166, 30, 150, 151, 152, 153, 28, 26, 29, 27, 154, 155, 156, 157, 328, 329, 330, 331, 332] (by decide +kernel) (by decide +kernel)
set_option maxRecDepth 20000 in
theorem gL_law_X3_rotate : GoodIn wsL_law (wsV RL 45 RX3 yX3_rotate wsX3_rotate) := goodIn_app (goodIn_of _ (by decide +kernel)) ggL_law_X3_rotate
set_option maxRecDepth 20000 in
theorem ggL_law_X2_turn : GoodIn wsL_law wsX2_turn := goodIn_r _ [200, 15, 77, 78, 79, 14, 80, 40, 201, 115, 116, 117, 118, 119, 120, 121, 20, 86, 21, 324, 325, 326, 327, 333, 334, 335, 336, 337] (by decide +kernel) (by decide +kernel)
set_option maxRecDepth 20000 in
theorem gL_law_X2_turn : GoodIn wsL_law (wsV RL 46 RX2 yX2_turn wsX2_turn) := goodIn_app (goodIn_of _ (by decide +kernel)) ggL_law_X2_turn
set_option maxRecDepth 20000 in
theorem ggL_law_X3_turn : GoodIn wsL_law wsX3_turn := goodIn_r _ [205, 163, 164, 165, 5, 166, 30, 150, 151, 152, 153, 28, 26, 29, 27, 154, 155, 156, 157, 328, 329, 330, 331, 332] (by decide +kernel) (by decide +kernel)
set_option maxRecDepth 20000 in
theorem gL_law_X3_turn : GoodIn wsL_law (wsV RL 49 RX3 yX3_turn wsX3_turn) := goodIn_app (goodIn_of _ (by decide +kernel)) ggL_law_X3_turn
set_option maxRecDepth 20000 in
theorem ggL_law_X2_split : GoodIn wsL_law wsX2_split := goodIn_r _ [209, 15, 73, 74, 75, 76, 77, 78, 79, 14, 80, 40, 210, 211, 212, 213, 91, 92, 93, 94, 214, 215, 216, 217, 20, 106, 107, 108, 109, 110, 111, 112, 113, 114, 115, 116, 117, 118, 119, 120, 121, 86, 21, 218, 324, 325, 326, 327, 333, 334, 335, 336, 337] (by decide +kernel) (by decide +kernel)
set_option maxRecDepth 20000 in
theorem gL_law_X2_split : GoodIn wsL_law (wsV RL 50 RX2 yX2_split wsX2_split) := goodIn_app (goodIn_of _ (by decide +kernel)) ggL_law_X2_split
set_option maxRecDepth 20000 in
theorem ggL_law_X3_split : GoodIn wsL_law wsX3_split := goodIn_r _ [222, 26, 163, 164, 165, 5, 166, 30, 135, 136, 137, 146, 147, 148, 149, 150, 151, 152, 153, 28, 29, 27, 154, 155, 156, 157, 328, 329, 330, 331, 332] (by decide +kernel) (by decide +kernel)
set_option maxRecDepth 20000 in
theorem gL_law_X3_split : GoodIn wsL_law (wsV RL 53 RX3 yX3_split wsX3_split) := goodIn_app (goodIn_of _ (by decide +kernel)) ggL_law_X3_split
set_option maxRecDepth 20000 in
theorem ggL_law_X2_thin : GoodIn wsL_law wsX2_thin := goodIn_r _ [226, 15, 35, 73, 74, 75, 76, 176, 177, 178, 14, 179, 102, 103, 104, 105, 85, 20, 106, 107, 108, 109, 227, 228, 229, 230, 40, 21, 324, 325, 326, 327, 333, 334, 335, 336, 337] (by decide +kernel) (by decide +kernel)
set_option maxRecDepth 20000 in
theorem gL_law_X2_thin : GoodIn wsL_law (wsV RL 54 RX2 yX2_thin wsX2_thin) := goodIn_app (goodIn_of _ (by decide +kernel)) ggL_law_X2_thin
set_option maxRecDepth 20000 in
theorem ggL_law_X3_thin : GoodIn wsL_law wsX3_thin := goodIn_r _ [234, 30, 26, 135, 136, 5, 137, 184, 185, 186, 187, 146, 147, 148, 149, 150, 151, 152, 153, 28, 29, 27, 154, 155, 156, 157, 328, 329, 330, 331, 332] (by decide +kernel) (by decide +kernel)
set_option maxRecDepth 20000 in
theorem gL_law_X3_thin : GoodIn wsL_law (wsV RL 57 RX3 yX3_thin wsX3_thin) := goodIn_app (goodIn_of _ (by decide +kernel)) ggL_law_X3_thin
set_option maxRecDepth 20000 in
theorem ggL_law_X2_sorted : GoodIn wsL_law wsX2_sorted := goodIn_r _ [238, 15, 73, 74, 75, 76, 77, 78, 79, 14, 80, 40, 176, 177, 178, 179, 102, 103, 104, 105, 85, 20, 106, 107, 108, 109, 324, 325, 326, 327, 333, 334, 335, 336, 337] (by decide +kernel) (by decide +kernel)
set_option maxRecDepth 20000 in
theorem gL_law_X2_sorted : GoodIn wsL_law (wsV RL 58 RX2 yX2_sorted wsX2_sorted) := goodIn_app (goodIn_of _ (by decide +kernel)) ggL_law_X2_sorted
set_option maxRecDepth 20000 in
theorem ggL_law_X3_sorted : GoodIn wsL_law wsX3_sorted := goodIn_r _ [242, 163, 164, 165, 5, 166, 30, 135, 136, 137, 184, 185, 186, 187, 26, 146, 147, 148, 149, 328, 329, 330, 331, 332] (by decide +kernel) (by decide +kernel)
set_option maxRecDepth 20000 in
theorem gL_law_X3_sorted : GoodIn wsL_law (wsV RL 61 RX3 yX3_sorted wsX3_sorted) := goodIn_app (goodIn_of _ (by decide +kernel)) ggL_law_X3_sorted
set_option maxRecDepth 20000 in
theorem ggL_law_X2_find : GoodIn wsL_law wsX2_find := goodIn_r _ [246, 15, 35, 73, 74, 75, 76, 176, 177, 178, 14, 179, 102, 103, 104, 105, 85, 20, 106, 107, 108, 109, 218, 215, 216, 217, 247, 248, 249, 250, 324, 325, 326, 327, 333, 334, 335, 336, 337] (by decide +kernel) (by decide +kernel)
set_option maxRecDepth 20000 in
theorem gL_law_X2_find : GoodIn wsL_law (wsV RL 62 RX2 yX2_find wsX2_find) := goodIn_app (goodIn_of _ (by decide +kernel)) ggL_law_X2_find
set_option maxRecDepth 20000 in
theorem ggL_law_X3_find : GoodIn wsL_law wsX3_find := goodIn_r _ [254, 30, 26, 135, 136, 5, 137, 184, 185, 186, 187, 146, 147, 148, 149, 328, 329, 330, 331, 332] (by decide +kernel) (by decide +kernel)
set_option maxRecDepth 20000 in
theorem gL_law_X3_find : GoodIn wsL_law (wsV RL 65 RX3 yX3_find wsX3_find) := goodIn_app (goodIn_of _ (by decide +kernel)) ggL_law_X3_find
set_option maxRecDepth 20000 in
theorem ggL_law_X2_rank : GoodIn wsL_law wsX2_rank := goodIn_r _ [258, 15, 259, 35, 73, 74, 75, 76, 260, 261, 262, 14, 263, 40, 247, 248, 249, 250, 20, 106, 107, 108, 109, 218, 215, 216, 217, 324, 325, 326, 327, 333, 334, 335, 336, 337] (by decide +kernel) (by decide +kernel)
set_option maxRecDepth 20000 in
theorem gL_law_X2_rank : GoodIn wsL_law (wsV RL 66 RX2 yX2_rank wsX2_rank) := goodIn_app (goodIn_of _ (by decide +kernel)) ggL_law_X2_rank
set_option maxRecDepth 20000 in
theorem ggL_law_X3_rank : GoodIn wsL_law wsX3_rank := goodIn_r _ [267, 30, 135, 136, 5, 137, 142, 143, 144, 145, 26, 146, 147, 148, 149, 328, 329, 330, 331, 332] (by decide +kernel) (by decide +kernel)
set_option maxRecDepth 20000 in
theorem gL_law_X3_rank : GoodIn wsL_law (wsV RL 69 RX3 yX3_rank wsX3_rank) := goodIn_app (goodIn_of _ (by decide +kernel)) ggL_law_X3_rank
set_option maxRecDepth 20000 in
theorem ggL_law_X2_key : GoodIn wsL_law wsX2_key := goodIn_r _ [271, 15, 259, 260, 261, 262, 14, 263, 40, 324, 325, 326, 327, 333, 334, 335, 336, 337] (by decide +kernel) (by decide +kernel)
set_option maxRecDepth 20000 in
theorem gL_law_X2_key : GoodIn wsL_law (wsV RL 70 RX2 yX2_key wsX2_key) := goodIn_app (goodIn_of _ (by decide +kernel)) ggL_law_X2_key
set_option maxRecDepth 20000 in
theorem ggL_law_X3_key : GoodIn wsL_law wsX3_key := goodIn_r _ [275, 30, 26, 328, 329, 330, 331, 332] (by decide +kernel) (by decide +kernel)
set_option maxRecDepth 20000 in
theorem gL_law_X3_key : GoodIn wsL_law (wsV RL 73 RX3 yX3_key wsX3_key) := goodIn_app (goodIn_of _ (by decide +kernel)) ggL_law_X3_key
set_option maxRecDepth 20000 in
theorem ggL_law_X2_tag : GoodIn wsL_law wsX2_tag := goodIn_r _ [279, 15, 280, 260, 261, 262, 14, 263, 40, 324, 325, 326, 327, 333, 334, 335, 336, 337] (by decide +kernel) (by decide +kernel)
set_option maxRecDepth 20000 in
theorem gL_law_X2_tag : GoodIn wsL_law (wsV RL 74 RX2 yX2_tag wsX2_tag) := goodIn_app (goodIn_of _ (by decide +kernel)) ggL_law_X2_tag
set_option maxRecDepth 20000 in
theorem ggL_law_X3_tag : GoodIn wsL_law wsX3_tag := goodIn_r _ [284, 30, 27, 328, 329, 330, 331, 332] (by decide +kernel) (by decide +kernel)
set_option maxRecDepth 20000 in
theorem gL_law_X3_tag : GoodIn wsL_law (wsV RL 77 RX3 yX3_tag wsX3_tag) := goodIn_app (goodIn_of _ (by decide +kernel)) ggL_law_X3_tag
set_option maxRecDepth 20000 in
theorem ggL_law_X2_count : GoodIn wsL_law wsX2_count := goodIn_r _ [288, 15, 35, 289, 290, 291, 14, 292, 40, 20, 293, 294, 295, 296, 297, 298, 299, 300, 324, 325, 326, 327, 333, 334, 335, 336, 337] (by decide +kernel) (by decide +kernel)
set_option maxRecDepth 20000 in
theorem gL_law_X2_count : GoodIn wsL_law (wsV RL 78 RX2 yX2_count wsX2_count) := goodIn_app (goodIn_of _ (by decide +kernel)) ggL_law_X2_count
set_option maxRecDepth 20000 in
theorem ggL_law_X3_count : GoodIn wsL_law wsX3_count := goodIn_r _ [304, 30, 305, 306, 307, 5, 308, 26, 309, 310, 311, 312, 328, 329, 330, 331, 332] (by decide +kernel) (by decide +kernel)
set_option maxRecDepth 20000 in
theorem gL_law_X3_count : GoodIn wsL_law (wsV RL 81 RX3 yX3_count wsX3_count) := goodIn_app (goodIn_of _ (by decide +kernel)) ggL_law_X3_count
set_option maxRecDepth 20000 in
theorem ggL_law_X2_check : GoodIn wsL_law wsX2_check := goodIn_r _ [316, 126, 128, 130, 317, 318, 2, 319, 324, 325, 326, 327] (by decide +kernel) (by decide +kernel)
set_option maxRecDepth 20000 in
theorem gL_law_X2_check : GoodIn wsL_law (wsV RL 82 RX2 yX2_check wsX2_check) := goodIn_app (goodIn_of _ (by decide +kernel)) ggL_law_X2_check
set_option maxRecDepth 20000 in
theorem ggL_law_X3_check : GoodIn wsL_law wsX3_check := goodIn_r _ [323] (by decide +kernel) (by decide +kernel)
set_option maxRecDepth 20000 in
theorem gL_law_X3_check : GoodIn wsL_law (wsV RL 85 RX3 yX3_check wsX3_check) := goodIn_app (goodIn_of _ (by decide +kernel)) ggL_law_X3_check
