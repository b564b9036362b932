set_option maxRecDepth 20000 in
theorem ggL_law_X3_init : GoodIn wsL_law wsX3_init := goodIn_r _ [9, 10, 11, 12, 13, 14, 15, 16, 17, 18, 19, 20, 21, 22, 23, 24, 25, 26, 27, 28, 29, 30, 31, 32, 33, 34, 35, 36, 37, 38, 39, 40, 41, 42, 43, 44, 45, 46, 47, 6, 48, 49, 50, 51, 52, 53, 54, 55, 56, 504, 505, 506, 507, 508, 509, 510, 480, 481, 482, 483, 484, 485, 486, 487, 511, 512, 513, 514, 515, 516] (by decide +kernel) (by decide +kernel)
set_option maxRecDepth 20000 in
theorem gL_law_X3_init : GoodIn wsL_law (wsX3_init) := ggL_law_X3_init
set_option maxRecDepth 20000 in
theorem ggL_law_X4_init : GoodIn wsL_law wsX4_init := goodIn_r _ [59, 60, 11, 12, 34, 61, 62, 63, 64, 65, 40, 66, 67, 68, 6, 69, 70, 71, 488, 489, 490, 491, 492, 493, 494, 495, 496, 497, 498, 499, 500, 501, 502, 503] (by decide +kernel) (by decide +kernel)
set_option maxRecDepth 20000 in
theorem gL_law_X4_init : GoodIn wsL_law (wsX4_init) := ggL_law_X4_init
set_option maxRecDepth 20000 in
theorem ggL_law_X3_child : GoodIn wsL_law wsX3_child := goodIn_r _ [75, 16, 76, 77, 78, 2, 79, 80, 81, 82, 83, 84, 85, 86, 87, 88, 15, 89, 35, 42, 36, 37, 38, 39, 41, 480, 481, 482, 483, 484, 485, 486, 487, 504, 505, 506, 507, 508, 509, 510] (by decide +kernel) (by decide +kernel)
set_option maxRecDepth 20000 in
theorem gL_law_X3_child : GoodIn wsL_law (wsV RL 19 RX3 yX3_child wsX3_child) := goodIn_app (goodIn_of _ (by decide +kernel)) ggL_law_X3_child
set_option maxRecDepth 20000 in
theorem ggL_law_X4_child : GoodIn wsL_law wsX4_child := goodIn_r _ [93, 94, 95, 67, 96, 97, 5, 98, 488, 489, 490, 491, 492, 493, 494, 495, 496, 497, 498, 499, 500, 501, 502, 503] (by decide +kernel) (by decide +kernel)
set_option maxRecDepth 20000 in
theorem gL_law_X4_child : GoodIn wsL_law (wsV RL 23 RX4 yX4_child wsX4_child) := goodIn_app (goodIn_of _ (by decide +kernel)) ggL_law_X4_child
set_option maxRecDepth 20000 in
theorem ggL_law_X3_close : GoodIn wsL_law wsX3_close := goodIn_r _ [102, 17, 76, 16, 103, 104, 2, 105, 77, 78, 79, 80, 81, 82, 83, 84, 85, 106, 107, 108, 15, 109, 42, 41, 39, 110, 111, 112, 113, 35, 114, 115, 116, 117, 118, 119, 120, 121, 122, 123, 124, 125, 28, 29, 126, 127, 128, 129, 130, 131, 132, 133, 36, 37, 38, 134, 87, 88, 89, 86, 480, 481, 482, 483, 484, 485, 486, 487, 504, 505, 506, 507, 508, 509, 510] (by decide +kernel) (by decide +kernel)
set_option maxRecDepth 20000 in
theorem gL_law_X3_close : GoodIn wsL_law (wsV RL 24 RX3 yX3_close wsX3_close) := goodIn_app (goodIn_of _ (by decide +kernel)) ggL_law_X3_close
set_option maxRecDepth 20000 in
theorem ggL_law_X4_close : GoodIn wsL_law wsX4_close := goodIn_r _ [138, 94, 139, 95, 67, 96, 97, 5, 98, 140, 141, 142, 143, 66, 61, 65, 144, 145, 146, 147, 148, 149, 150, 151, 152, 153, 154, 155, 156, 157, 62, 63, 64, 68, 488, 489, 490, 491, 492, 493, 494, 495, 496, 497, 498, 499, 500, 501, 502, 503] (by decide +kernel) (by decide +kernel)
set_option maxRecDepth 20000 in
theorem gL_law_X4_close : GoodIn wsL_law (wsV RL 27 RX4 yX4_close wsX4_close) := goodIn_app (goodIn_of _ (by decide +kernel)) ggL_law_X4_close
set_option maxRecDepth 20000 in
theorem ggL_law_X3_drop : GoodIn wsL_law wsX3_drop := goodIn_r _ [161, 16, 76, 480, 481, 482, 483, 484, 485, 486, 487, 504, 505, 506, 507, 508, 509, 510] (by decide +kernel) (by decide +kernel)
set_option maxRecDepth 20000 in
theorem gL_law_X3_drop : GoodIn wsL_law (wsV RL 28 RX3 yX3_drop wsX3_drop) := goodIn_app (goodIn_of _ (by decide +kernel)) ggL_law_X3_drop
set_option maxRecDepth 20000 in
theorem ggL_law_X4_drop : GoodIn wsL_law wsX4_drop := goodIn_r _ [165, 94, 95, 488, 489, 490, 491, 492, 493, 494, 495, 496, 497, 498, 499, 500, 501, 502, 503] (by decide +kernel) (by decide +kernel)
set_option maxRecDepth 20000 in
theorem gL_law_X4_drop : GoodIn wsL_law (wsV RL 32 RX4 yX4_drop wsX4_drop) := goodIn_app (goodIn_of _ (by decide +kernel)) ggL_law_X4_drop
set_option maxRecDepth 20000 in
theorem ggL_law_X3_kill : GoodIn wsL_law wsX3_kill := goodIn_r _ [169, 17, 106, 107, 108, 15, 109, 42, 41, 39, 110, 111, 112, 113, 35, 122, 123, 124, 2, 125, 28, 29, 114, 115, 116, 117, 118, 119, 120, 121, 480, 481, 482, 483, 484, 485, 486, 487, 504, 505, 506, 507, 508, 509, 510] (by decide +kernel) (by decide +kernel)
set_option maxRecDepth 20000 in
theorem gL_law_X3_kill : GoodIn wsL_law (wsV RL 33 RX3 yX3_kill wsX3_kill) := goodIn_app (goodIn_of _ (by decide +kernel)) ggL_law_X3_kill
set_option maxRecDepth 20000 in
theorem ggL_law_X4_kill : GoodIn wsL_law wsX4_kill := goodIn_r _ [173, 94, 140, 141, 142, 5, 143, 139, 66, 61, 65, 144, 145, 146, 147, 148, 149, 150, 151, 152, 153, 488, 489, 490, 491, 492, 493, 494, 495, 496, 497, 498, 499, 500, 501, 502, 503] (by decide +kernel) (by decide +kernel)
set_option maxRecDepth 20000 in
theorem gL_law_X4_kill : GoodIn wsL_law (wsV RL 37 RX4 yX4_kill wsX4_kill) := goodIn_app (goodIn_of _ (by decide +kernel)) ggL_law_X4_kill
set_option maxRecDepth 20000 in
theorem ggL_law_X3_merge : GoodIn wsL_law wsX3_merge := goodIn_r _ [177, 17, 76, 178, 179, 180, 15, 181, 42, 41, 130, 131, 132, 133, 35, 36, 37, 38, 39, 134, 87, 88, 89, 122, 123, 124, 2, 125, 28, 29, 480, 481, 482, 483, 484, 485, 486, 487, 504, 505, 506, 507, 508, 509, 510] (by decide +kernel) (by decide +kernel)
set_option maxRecDepth 20000 in
theorem gL_law_X3_merge : GoodIn wsL_law (wsV RL 38 RX3 yX3_merge wsX3_merge) := goodIn_app (goodIn_of _ (by decide +kernel)) ggL_law_X3_merge
set_option maxRecDepth 20000 in
theorem ggL_law_X4_merge : GoodIn wsL_law wsX4_merge := goodIn_r _ [185, 94, 139, 66, 61, 62, 63, 64, 65, 148, 149, 150, 5, 151, 152, 153, 488, 489, 490, 491, 492, 493, 494, 495, 496, 497, 498, 499, 500, 501, 502, 503] (by decide +kernel) (by decide +kernel)
set_option maxRecDepth 20000 in
theorem gL_law_X4_merge : GoodIn wsL_law (wsV RL 41 RX4 yX4_merge wsX4_merge) := goodIn_app (goodIn_of _ (by decide +kernel)) ggL_law_X4_merge
set_option maxRecDepth 20000 in
theorem ggL_law_X3_object : GoodIn wsL_law wsX3_object := goodIn_r _ [189, 17, 190, 191, 192, 193, 194, 195, 196, 197, 198, 15, 199, 42, 200, 111, 112, 113, 35, 201, 202, 203, 204, 205, 119, 120, 121, 480, 481, 482, 483, 484, 485, 486, 487, 504, 505, 506, 507, 508, 509, 510] (by decide +kernel) (by decide +kernel)
set_option maxRecDepth 20000 in
theorem gL_law_X3_object : GoodIn wsL_law (wsV RL 42 RX3 yX3_object wsX3_object) := goodIn_app (goodIn_of _ (by decide +kernel)) ggL_law_X3_object
set_option maxRecDepth 20000 in
theorem ggL_law_X4_object : GoodIn wsL_law wsX4_object := goodIn_r _ [209, 94, 61, 62, 63, 64, 65, 66, 210, 211, 212, 5, 213, 139, 96, 97, 98, 214, 215, 216, 217, 218, 219, 220, 221, 222, 223, 224, 225, 488, 489, 490, 491, 492, 493, 494, 495, 496, 497, 498, 499, 500, 501, 502, 503] (by decide +kernel) (by decide +kernel)
set_option maxRecDepth 20000 in
theorem gL_law_X4_object : GoodIn wsL_law (wsV RL 46 RX4 yX4_object wsX4_object) := goodIn_app (goodIn_of _ (by decide +kernel)) ggL_law_X4_object
set_option maxRecDepth 20000 in
theorem ggL_law_X3_count : GoodIn wsL_law wsX3_count := goodIn_r _ [229, 17, 76, 16, 28, 230, 231, 232, 15, 233, 42, 41, 35, 480, 481, 482, 483, 484, 485, 486, 487, 504, 505, 506, 507, 508, 509, 510] (by decide +kernel) (by decide +kernel)
set_option maxRecDepth 20000 in
theorem gL_law_X3_count : GoodIn wsL_law (wsV RL 47 RX3 yX3_count wsX3_count) := goodIn_app (goodIn_of _ (by decide +kernel)) ggL_law_X3_count
set_option maxRecDepth 20000 in
theorem ggL_law_X4_count : GoodIn wsL_law wsX4_count := goodIn_r _ [237, 94, 139, 66, 61, 95, 152, 96, 97, 5, 98, 488, 489, 490, 491, 492, 493, 494, 495, 496, 497, 498, 499, 500, 501, 502, 503] (by decide +kernel) (by decide +kernel)
set_option maxRecDepth 20000 in
theorem gL_law_X4_count : GoodIn wsL_law (wsV RL 50 RX4 yX4_count wsX4_count) := goodIn_app (goodIn_of _ (by decide +kernel)) ggL_law_X4_count
set_option maxRecDepth 20000 in
theorem ggL_law_X3_root : GoodIn wsL_law wsX3_root := goodIn_r _ [241, 17, 106, 107, 108, 15, 109, 42, 41, 39, 110, 111, 112, 113, 35, 480, 481, 482, 483, 484, 485, 486, 487, 504, 505, 506, 507, 508, 509, 510] (by decide +kernel) (by decide +kernel)
set_option maxRecDepth 20000 in
theorem gL_law_X3_root : GoodIn wsL_law (wsV RL 51 RX3 yX3_root wsX3_root) := goodIn_app (goodIn_of _ (by decide +kernel)) ggL_law_X3_root
set_option maxRecDepth 20000 in
theorem ggL_law_X4_root : GoodIn wsL_law wsX4_root := goodIn_r _ [245, 94, 140, 141, 142, 5, 143, 139, 66, 61, 65, 488, 489, 490, 491, 492, 493, 494, 495, 496, 497, 498, 499, 500, 501, 502, 503] (by decide +kernel) (by decide +kernel)
set_option maxRecDepth 20000 in
theorem gL_law_X4_root : GoodIn wsL_law (wsV RL 54 RX4 yX4_root wsX4_root) := goodIn_app (goodIn_of _ (by decide +kernel)) ggL_law_X4_root
set_option maxRecDepth 20000 in
theorem ggL_law_X3_find : GoodIn wsL_law wsX3_find := goodIn_r _ [249, 28, 19, 17, 76, 195, 250, 251, 252, 2, 253, 77, 78, 79, 83, 84, 85, 103, 104, 105, 254, 255, 256, 21, 257, 47, 49, 258, 259, 260, 261, 192, 191, 190, 194, 193, 200, 111, 112, 15, 113, 35, 262, 263, 264, 265, 266, 267, 268, 269, 270, 271, 272, 273, 274, 275, 276, 48, 480, 481, 482, 483, 484, 485, 486, 487, 504, 505, 506, 507, 508, 509, 510, 511, 512, 513] (by decide +kernel) (by decide +kernel)
set_option maxRecDepth 20000 in
theorem gL_law_X3_find : GoodIn wsL_law (wsV RL 55 RX3 yX3_find wsX3_find) := goodIn_app (goodIn_of _ (by decide +kernel)) ggL_law_X3_find
set_option maxRecDepth 20000 in
theorem ggL_law_X4_find : GoodIn wsL_law wsX4_find := goodIn_r _ [280, 94, 152, 139, 68, 66, 69, 62, 281, 282, 5, 283, 96, 97, 98, 284, 285, 286, 287, 63, 61, 65, 64, 288, 289, 290, 291, 292, 293, 294, 488, 489, 490, 491, 492, 493, 494, 495, 496, 497, 498, 499, 500, 501, 502, 503] (by decide +kernel) (by decide +kernel)
set_option maxRecDepth 20000 in
theorem gL_law_X4_find : GoodIn wsL_law (wsV RL 59 RX4 yX4_find wsX4_find) := goodIn_app (goodIn_of _ (by decide +kernel)) ggL_law_X4_find
set_option maxRecDepth 20000 in
theorem ggL_law_X3_join : GoodIn wsL_law wsX3_join := goodIn_r _ [298, 28, 19, 250, 77, 78, 2, 79, 299, 300, 301, 21, 302, 47, 48, 303, 304, 305, 306, 49, 307, 308, 309, 310, 311, 274, 275, 276, 312, 313, 314, 315, 316, 317, 318, 319, 480, 481, 482, 483, 484, 485, 486, 487, 511, 512, 513] (by decide +kernel) (by decide +kernel)
set_option maxRecDepth 20000 in
theorem gL_law_X3_join : GoodIn wsL_law (wsV RL 60 RX3 yX3_join wsX3_join) := goodIn_app (goodIn_of _ (by decide +kernel)) ggL_law_X3_join
set_option maxRecDepth 20000 in
theorem ggL_law_X4_join : GoodIn wsL_law wsX4_join := goodIn_r _ [323, 94, 152, 139, 68, 69, 96, 97, 5, 98, 291, 292, 293, 294, 488, 489, 490, 491, 492, 493, 494, 495, 496, 497, 498, 499, 500, 501, 502, 503] (by decide +kernel) (by decide +kernel)
set_option maxRecDepth 20000 in
theorem gL_law_X4_join : GoodIn wsL_law (wsV RL 63 RX4 yX4_join wsX4_join) := goodIn_app (goodIn_of _ (by decide +kernel)) ggL_law_X4_join
set_option maxRecDepth 20000 in
theorem ggL_law_X3_up : GoodIn wsL_law wsX3_up := goodIn_r _ [327, 28, 19, 23, 29, 17, 76, 190, 250, 77, 78, 2, 79, 328, 329, 330, 21, 331, 332, 255, 256, 257, 47, 49, 333, 313, 314, 315, 48, 307, 308, 309, 310, 311, 274, 275, 276, 334, 335, 336, 337, 338, 205, 119, 120, 15, 121, 35, 339, 340, 341, 342, 343, 344, 345, 346, 347, 348, 349, 350, 351, 352, 273, 480, 481, 482, 483, 484, 485, 486, 487, 504, 505, 506, 507, 508, 509, 510, 511, 512, 513] (by decide +kernel) (by decide +kernel)
set_option maxRecDepth 20000 in
theorem gL_law_X3_up : GoodIn wsL_law (wsV RL 64 RX3 yX3_up wsX3_up) := goodIn_app (goodIn_of _ (by decide +kernel)) ggL_law_X3_up
set_option maxRecDepth 20000 in
theorem ggL_law_X4_up : GoodIn wsL_law wsX4_up := goodIn_r _ [356, 94, 152, 153, 139, 68, 70, 69, 71, 61, 96, 97, 5, 98, 357, 358, 359, 360, 222, 223, 224, 225, 214, 215, 216, 217, 291, 292, 293, 294, 488, 489, 490, 491, 492, 493, 494, 495, 496, 497, 498, 499, 500, 501, 502, 503] (by decide +kernel) (by decide +kernel)
set_option maxRecDepth 20000 in
theorem gL_law_X4_up : GoodIn wsL_law (wsV RL 67 RX4 yX4_up wsX4_up) := goodIn_app (goodIn_of _ (by decide +kernel)) ggL_law_X4_up
set_option maxRecDepth 20000 in
theorem ggL_law_X3_down : GoodIn wsL_law wsX3_down := goodIn_r _ [364, 28, 19, 22, 17, 76, 250, 77, 78, 2, 79, 328, 329, 330, 21, 331, 332, 255, 256, 257, 47, 49, 333, 313, 314, 315, 48, 307, 308, 309, 310, 311, 274, 275, 276, 339, 340, 341, 342, 365, 366, 367, 368, 190, 338, 205, 119, 120, 15, 121, 35, 369, 480, 481, 482, 483, 484, 485, 486, 487, 504, 505, 506, 507, 508, 509, 510, 511, 512, 513] (by decide +kernel) (by decide +kernel)
set_option maxRecDepth 20000 in
theorem gL_law_X3_down : GoodIn wsL_law (wsV RL 68 RX3 yX3_down wsX3_down) := goodIn_app (goodIn_of _ (by decide +kernel)) ggL_law_X3_down
set_option maxRecDepth 20000 in
theorem ggL_law_X4_down : GoodIn wsL_law wsX4_down := goodIn_r _ [373, 94, 152, 139, 61, 70, 68, 69, 71, 96, 97, 5, 98, 357, 358, 359, 360, 214, 215, 216, 217, 291, 292, 293, 294, 488, 489, 490, 491, 492, 493, 494, 495, 496, 497, 498, 499, 500, 501, 502, 503] (by decide +kernel) (by decide +kernel)
set_option maxRecDepth 20000 in
theorem gL_law_X4_down : GoodIn wsL_law (wsV RL 71 RX4 yX4_down wsX4_down) := goodIn_app (goodIn_of _ (by decide +kernel)) ggL_law_X4_down
set_option maxRecDepth 20000 in
theorem ggL_law_X3_over : GoodIn wsL_law wsX3_over := goodIn_r _ [377, 28, 19, 22, 17, 76, 250, 328, 329, 330, 21, 331, 332, 255, 256, 257, 47, 49, 333, 313, 314, 315, 48, 307, 308, 309, 310, 311, 274, 275, 276, 339, 340, 341, 342, 200, 111, 112, 15, 113, 35, 378, 379, 380, 2, 381, 195, 193, 194, 338, 273, 480, 481, 482, 483, 484, 485, 486, 487, 504, 505, 506, 507, 508, 509, 510, 511, 512, 513] (by decide +kernel) (by decide +kernel)
set_option maxRecDepth 20000 in
theorem gL_law_X3_over : GoodIn wsL_law (wsV RL 72 RX3 yX3_over wsX3_over) := goodIn_app (goodIn_of _ (by decide +kernel)) ggL_law_X3_over
set_option maxRecDepth 20000 in
theorem ggL_law_X4_over : GoodIn wsL_law wsX4_over := goodIn_r _ [385, 94, 152, 139, 70, 61, 66, 64, 65, 68, 69, 71, 357, 358, 359, 5, 360, 291, 292, 293, 294, 488, 489, 490, 491, 492, 493, 494, 495, 496, 497, 498, 499, 500, 501, 502, 503] (by decide +kernel) (by decide +kernel)
set_option maxRecDepth 20000 in
theorem gL_law_X4_over : GoodIn wsL_law (wsV RL 75 RX4 yX4_over wsX4_over) := goodIn_app (goodIn_of _ (by decide +kernel)) ggL_law_X4_over
set_option maxRecDepth 20000 in
theorem ggL_law_X3_again : GoodIn wsL_law wsX3_again := goodIn_r _ [389, 28, 19, 254, 255, 256, 21, 257, 47, 49, 312, 313, 314, 315, 48, 307, 308, 309, 310, 311, 274, 275, 276, 480, 481, 482, 483, 484, 485, 486, 487, 511, 512, 513] (by decide +kernel) (by decide +kernel)
set_option maxRecDepth 20000 in
theorem gL_law_X3_again : GoodIn wsL_law (wsV RL 76 RX3 yX3_again wsX3_again) := goodIn_app (goodIn_of _ (by decide +kernel)) ggL_law_X3_again
set_option maxRecDepth 20000 in
theorem ggL_law_X4_again : GoodIn wsL_law wsX4_again := goodIn_r _ [393, 94, 152, 139, 68, 69, 488, 489, 490, 491, 492, 493, 494, 495, 496, 497, 498, 499, 500, 501, 502, 503] (by decide +kernel) (by decide +kernel)
set_option maxRecDepth 20000 in
theorem gL_law_X4_again : GoodIn wsL_law (wsV RL 79 RX4 yX4_again wsX4_again) := goodIn_app (goodIn_of _ (by decide +kernel)) ggL_law_X4_again
set_option maxRecDepth 20000 in
theorem ggL_law_X3_pop : GoodIn wsL_law wsX3_pop := goodIn_r _ [397, 28, 480, 481, 482, 483, 484, 485, 486, 487] (by decide +kernel) (by decide +kernel)
set_option maxRecDepth 20000 in
theorem gL_law_X3_pop : GoodIn wsL_law (wsV RL 80 RX3 yX3_pop wsX3_pop) := goodIn_app (goodIn_of _ (by decide +kernel)) ggL_law_X3_pop
set_option maxRecDepth 20000 in
theorem ggL_law_X4_pop : GoodIn wsL_law wsX4_pop := goodIn_r _ [401, 94, 152, 488, 489, 490, 491, 492, 493, 494, 495, 496, 497, 498, 499, 500, 501, 502, 503] (by decide +kernel) (by decide +kernel)
set_option maxRecDepth 20000 in
theorem gL_law_X4_pop : GoodIn wsL_law (wsV RL 83 RX4 yX4_pop wsX4_pop) := goodIn_app (goodIn_of _ (by decide +kernel)) ggL_law_X4_pop
set_option maxRecDepth 20000 in
theorem ggL_law_X3_hit : GoodIn wsL_law wsX3_hit := goodIn_r _ [405, 28, 27, 19, 17, 76, 406, 407, 408, 26, 409, 56, 54, 410, 340, 341, 21, 342, 47, 411, 412, 413, 414, 415, 416, 348, 417, 55, 418, 419, 420, 421, 422, 423, 424, 425, 426, 427, 428, 429, 2, 430, 431, 432, 480, 481, 482, 483, 484, 485, 486, 487, 504, 505, 506, 507, 508, 509, 510, 514, 515, 516, 511, 512, 513] (by decide +kernel) (by decide +kernel)
set_option maxRecDepth 20000 in
theorem gL_law_X3_hit : GoodIn wsL_law (wsV RL 84 RX3 yX3_hit wsX3_hit) := goodIn_app (goodIn_of _ (by decide +kernel)) ggL_law_X3_hit
set_option maxRecDepth 20000 in
theorem ggL_law_X4_hit : GoodIn wsL_law wsX4_hit := goodIn_r _ [436, 94, 152, 437, 438, 439, 5, 440, 139, 68, 69, 222, 223, 224, 225, 214, 215, 216, 217, 61, 488, 489, 490, 491, 492, 493, 494, 495, 496, 497, 498, 499, 500, 501, 502, 503] (by decide +kernel) (by decide +kernel)
set_option maxRecDepth 20000 in
theorem gL_law_X4_hit : GoodIn wsL_law (wsV RL 87 RX4 yX4_hit wsX4_hit) := goodIn_app (goodIn_of _ (by decide +kernel)) ggL_law_X4_hit
set_option maxRecDepth 20000 in
theorem ggL_law_X3_score : GoodIn wsL_law wsX3_score := goodIn_r _ [444, 28, 445, 19, 338, 339, 340, 341, 21, 342, 47, 480, 481, 482, 483, 484, 485, 486, 487, 511, 512, 513] (by decide +kernel) (by decide +kernel)
set_option maxRecDepth 20000 in
theorem gL_law_X3_score : GoodIn wsL_law (wsV RL 88 RX3 yX3_score wsX3_score) := goodIn_app (goodIn_of _ (by decide +kernel)) ggL_law_X3_score
set_option maxRecDepth 20000 in
theorem ggL_law_X4_score : GoodIn wsL_law wsX4_score := goodIn_r _ [449, 94, 152, 68, 450, 69, 210, 211, 212, 5, 213, 139, 96, 97, 98, 488, 489, 490, 491, 492, 493, 494, 495, 496, 497, 498, 499, 500, 501, 502, 503] (by decide +kernel) (by decide +kernel)
set_option maxRecDepth 20000 in
theorem gL_law_X4_score : GoodIn wsL_law (wsV RL 92 RX4 yX4_score wsX4_score) := goodIn_app (goodIn_of _ (by decide +kernel)) ggL_law_X4_score
set_option maxRecDepth 20000 in
theorem ggL_law_X3_family : GoodIn wsL_law wsX3_family := goodIn_r _ [454, 29, 17, 27, 23, 196, 197, 198, 15, 199, 42, 205, 119, 120, 121, 35, 406, 407, 408, 26, 409, 56, 54, 410, 340, 341, 21, 342, 47, 411, 412, 413, 414, 415, 416, 348, 417, 55, 418, 419, 420, 421, 422, 423, 424, 425, 426, 427, 428, 429, 2, 430, 431, 432, 480, 481, 482, 483, 484, 485, 486, 487, 504, 505, 506, 507, 508, 509, 510, 514, 515, 516, 511, 512, 513] (by decide +kernel) (by decide +kernel)
set_option maxRecDepth 20000 in
theorem gL_law_X3_family : GoodIn wsL_law (wsV RL 93 RX3 yX3_family wsX3_family) := goodIn_app (goodIn_of _ (by decide +kernel)) ggL_law_X3_family
set_option maxRecDepth 20000 in
theorem ggL_law_X4_family : GoodIn wsL_law wsX4_family := goodIn_r _ [458, 94, 153, 210, 211, 212, 5, 213, 139, 96, 97, 98, 437, 438, 439, 440, 68, 69, 222, 223, 224, 225, 214, 215, 216, 217, 61, 488, 489, 490, 491, 492, 493, 494, 495, 496, 497, 498, 499, 500, 501, 502, 503] (by decide +kernel) (by decide +kernel)
set_option maxRecDepth 20000 in
theorem gL_law_X4_family : GoodIn wsL_law (wsV RL 96 RX4 yX4_family wsX4_family) := goodIn_app (goodIn_of _ (by decide +kernel)) ggL_law_X4_family
set_option maxRecDepth 20000 in
theorem ggL_law_L_share : GoodIn wsL_law wsL_share := goodIn_ca (goodIn_r _ [462, 463, 464, 465, 466, 2, 467, 468, 469, 28, 445, 19, 250, 470, 480, 481, 482, 483, 484, 485, 486, 487, 511, 512, 513] (by decide +kernel) (by decide +kernel)) (goodIn_sub (fun _ h => List.mem_append_right _ h) (by decide +kernel))
set_option maxRecDepth 20000 in
theorem gL_law_L_share : GoodIn wsL_law (va_wsS RL 97 yL_share wsL_share) := goodIn_app (goodIn_of _ (by decide +kernel)) ggL_law_L_share
set_option maxRecDepth 20000 in
theorem ggL_law_X4_share : GoodIn wsL_law wsX4_share := goodIn_r _ [474, 94, 152, 450, 475, 291, 292, 293, 5, 294, 139, 68, 488, 489, 490, 491, 492, 493, 494, 495, 496, 497, 498, 499, 500, 501, 502, 503] (by decide +kernel) (by decide +kernel)
set_option maxRecDepth 20000 in
theorem gL_law_X4_share : GoodIn wsL_law (wsV RL 102 RX4 yX4_share wsX4_share) := goodIn_app (goodIn_of _ (by decide +kernel)) ggL_law_X4_share
set_option maxRecDepth 20000 in
theorem ggL_law_X4_thrown : GoodIn wsL_law wsX4_thrown := goodIn_r _ [479, 94, 488, 489, 490, 491, 492, 493, 494, 495, 496, 497, 498, 499, 500, 501, 502, 503] (by decide +kernel) (by decide +kernel)
set_option maxRecDepth 20000 in
theorem gL_law_X4_thrown : GoodIn wsL_law (wsV RL 103 RX4 yX4_thrown wsX4_thrown) := goodIn_app (goodIn_of _ (by decide +kernel)) ggL_law_X4_thrown
