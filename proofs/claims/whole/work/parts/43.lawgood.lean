set_option maxRecDepth 20000 in
theorem ggL_law_X5_init : GoodIn wsL_law wsX5_init := goodIn_r _ [8, 9, 10, 11, 12, 13, 14, 15, 16, 17, 18, 19, 20, 21, 22, 23, 24, 25, 26, 27, 28, 29, 30, 31, 32, 33, 34, 35, 36, 37, 38, 39, 40, 41, 42, 43, 44, 45, 46, 47, 48, 49, 50, 51, 52, 53, 54, 55, 56, 57, 58, 59, 60, 61, 62, 63, 64, 65, 66, 67, 68, 69, 70, 71, 72, 73, 74, 75, 76, 77, 503, 504, 488, 489, 490, 491, 505, 506, 507, 508, 509, 510, 511, 512, 513, 514, 515, 516, 517, 518, 519, 520, 521, 522, 523, 524, 525, 526, 527, 528, 529, 530, 531] (by decide +kernel) (by decide +kernel)
set_option maxRecDepth 20000 in
theorem gL_law_X5_init : GoodIn wsL_law (wsX5_init) := ggL_law_X5_init
set_option maxRecDepth 20000 in
theorem ggL_law_X6_init : GoodIn wsL_law wsX6_init := goodIn_r _ [80, 81, 10, 11, 39, 82, 83, 84, 85, 86, 87, 88, 89, 90, 91, 92, 492, 493, 494, 495, 496, 497, 498, 499, 500, 501, 502] (by decide +kernel) (by decide +kernel)
set_option maxRecDepth 20000 in
theorem gL_law_X6_init : GoodIn wsL_law (wsX6_init) := ggL_law_X6_init
set_option maxRecDepth 20000 in
theorem ggL_law_X5_rule : GoodIn wsL_law wsX5_rule := goodIn_r _ [96, 97, 98, 2, 99, 100, 101, 102, 103, 104, 105, 106, 107, 108, 109, 110, 111, 112, 113, 114, 115, 15, 116, 117, 118, 14, 119, 34, 35, 120, 121, 122, 33, 123, 40, 124, 125, 126, 127, 128, 129, 130, 131, 41, 132, 133, 134, 135, 136, 137, 138, 23, 27, 139, 140, 141, 22, 142, 68, 143, 144, 145, 26, 146, 75, 488, 489, 490, 491, 503, 504, 529, 530, 531, 512, 513, 514, 515, 516, 517, 518, 519, 520, 521, 522, 523, 524, 525, 526, 527, 528] (by decide +kernel) (by decide +kernel)
set_option maxRecDepth 20000 in
theorem gL_law_X5_rule : GoodIn wsL_law (wsV RL 13 RX5 yX5_rule wsX5_rule) := goodIn_app (goodIn_of _ (by decide +kernel)) ggL_law_X5_rule
set_option maxRecDepth 20000 in
theorem ggL_law_X6_rule : GoodIn wsL_law wsX6_rule := goodIn_r _ [150, 82, 151, 152, 5, 153, 154, 155, 156, 157, 158, 159, 492, 493, 494, 495, 496, 497, 498, 499, 500, 501, 502] (by decide +kernel) (by decide +kernel)
set_option maxRecDepth 20000 in
theorem gL_law_X6_rule : GoodIn wsL_law (wsV RL 17 RX6 yX6_rule wsX6_rule) := goodIn_app (goodIn_of _ (by decide +kernel)) ggL_law_X6_rule
set_option maxRecDepth 20000 in
theorem ggL_law_X5_drop : GoodIn wsL_law wsX5_drop := goodIn_r _ [163, 97, 98, 2, 99, 100, 101, 102, 103, 104, 105, 106, 107, 108, 109, 110, 111, 112, 113, 114, 115, 15, 116, 117, 118, 14, 119, 34, 35, 120, 121, 122, 33, 123, 40, 124, 125, 126, 127, 128, 129, 130, 131, 41, 132, 133, 134, 135, 136, 137, 138, 23, 27, 139, 140, 141, 22, 142, 68, 143, 144, 145, 26, 146, 75, 488, 489, 490, 491, 503, 504, 529, 530, 531, 512, 513, 514, 515, 516, 517, 518, 519, 520, 521, 522, 523, 524, 525, 526, 527, 528] (by decide +kernel) (by decide +kernel)
set_option maxRecDepth 20000 in
theorem gL_law_X5_drop : GoodIn wsL_law (wsV RL 18 RX5 yX5_drop wsX5_drop) := goodIn_app (goodIn_of _ (by decide +kernel)) ggL_law_X5_drop
set_option maxRecDepth 20000 in
theorem ggL_law_X6_drop : GoodIn wsL_law wsX6_drop := goodIn_r _ [167, 82, 151, 152, 5, 153, 154, 155, 156, 157, 158, 159, 492, 493, 494, 495, 496, 497, 498, 499, 500, 501, 502] (by decide +kernel) (by decide +kernel)
set_option maxRecDepth 20000 in
theorem gL_law_X6_drop : GoodIn wsL_law (wsV RL 21 RX6 yX6_drop wsX6_drop) := goodIn_app (goodIn_of _ (by decide +kernel)) ggL_law_X6_drop
set_option maxRecDepth 20000 in
theorem ggL_law_X5_isRule : GoodIn wsL_law wsX5_isRule := goodIn_r _ [171, 15, 116, 117, 118, 14, 119, 34, 35, 97, 98, 2, 99, 100, 101, 102, 103, 104, 105, 106, 107, 108, 109, 110, 111, 120, 121, 122, 33, 123, 40, 488, 489, 490, 491, 503, 504, 529, 530, 531] (by decide +kernel) (by decide +kernel)
set_option maxRecDepth 20000 in
theorem gL_law_X5_isRule : GoodIn wsL_law (wsV RL 22 RX5 yX5_isRule wsX5_isRule) := goodIn_app (goodIn_of _ (by decide +kernel)) ggL_law_X5_isRule
set_option maxRecDepth 20000 in
theorem ggL_law_X6_isRule : GoodIn wsL_law wsX6_isRule := goodIn_r _ [175, 82, 151, 152, 5, 153, 154, 155, 156, 157, 158, 159, 492, 493, 494, 495, 496, 497, 498, 499, 500, 501, 502] (by decide +kernel) (by decide +kernel)
set_option maxRecDepth 20000 in
theorem gL_law_X6_isRule : GoodIn wsL_law (wsV RL 25 RX6 yX6_isRule wsX6_isRule) := goodIn_app (goodIn_of _ (by decide +kernel)) ggL_law_X6_isRule
set_option maxRecDepth 20000 in
theorem ggL_law_X5_goal : GoodIn wsL_law wsX5_goal := goodIn_r _ [179, 15, 116, 117, 118, 14, 119, 34, 35, 109, 110, 2, 111, 180, 181, 182, 33, 183, 42, 184, 185, 186, 187, 488, 489, 490, 491, 503, 504, 529, 530, 531] (by decide +kernel) (by decide +kernel)
set_option maxRecDepth 20000 in
theorem gL_law_X5_goal : GoodIn wsL_law (wsV RL 26 RX5 yX5_goal wsX5_goal) := goodIn_app (goodIn_of _ (by decide +kernel)) ggL_law_X5_goal
set_option maxRecDepth 20000 in
theorem ggL_law_X6_goal : GoodIn wsL_law wsX6_goal := goodIn_r _ [191, 83, 154, 155, 5, 156, 492, 493, 494, 495, 496, 497, 498, 499, 500, 501, 502] (by decide +kernel) (by decide +kernel)
set_option maxRecDepth 20000 in
theorem gL_law_X6_goal : GoodIn wsL_law (wsV RL 30 RX6 yX6_goal wsX6_goal) := goodIn_app (goodIn_of _ (by decide +kernel)) ggL_law_X6_goal
set_option maxRecDepth 20000 in
theorem ggL_law_X5_clear : GoodIn wsL_law wsX5_clear := goodIn_r _ [195, 15, 116, 117, 118, 14, 119, 34, 35, 196, 197, 198, 33, 199, 40, 41, 42, 200, 201, 202, 203, 135, 136, 137, 2, 138, 23, 27, 139, 140, 141, 22, 142, 68, 143, 144, 145, 26, 146, 75, 488, 489, 490, 491, 503, 504, 529, 530, 531, 512, 513, 514, 515, 516, 517, 518, 519, 520, 521, 522, 523, 524, 525, 526, 527, 528] (by decide +kernel) (by decide +kernel)
set_option maxRecDepth 20000 in
theorem gL_law_X5_clear : GoodIn wsL_law (wsV RL 31 RX5 yX5_clear wsX5_clear) := goodIn_app (goodIn_of _ (by decide +kernel)) ggL_law_X5_clear
set_option maxRecDepth 20000 in
theorem ggL_law_X6_clear : GoodIn wsL_law wsX6_clear := goodIn_r _ [207, 82, 83, 154, 155, 5, 156, 492, 493, 494, 495, 496, 497, 498, 499, 500, 501, 502] (by decide +kernel) (by decide +kernel)
set_option maxRecDepth 20000 in
theorem gL_law_X6_clear : GoodIn wsL_law (wsV RL 35 RX6 yX6_clear wsX6_clear) := goodIn_app (goodIn_of _ (by decide +kernel)) ggL_law_X6_clear
set_option maxRecDepth 20000 in
theorem ggL_law_X5_node : GoodIn wsL_law wsX5_node := goodIn_r _ [211, 19, 100, 101, 2, 102, 103, 104, 105, 212, 213, 214, 18, 215, 52, 106, 107, 108, 216, 217, 218, 219, 220, 221, 222, 223, 46, 47, 48, 49, 224, 225, 226, 227, 228, 229, 230, 231, 488, 489, 490, 491, 505, 506, 507, 508, 509, 510, 511] (by decide +kernel) (by decide +kernel)
set_option maxRecDepth 20000 in
theorem gL_law_X5_node : GoodIn wsL_law (wsV RL 36 RX5 yX5_node wsX5_node) := goodIn_app (goodIn_of _ (by decide +kernel)) ggL_law_X5_node
set_option maxRecDepth 20000 in
theorem ggL_law_X6_node : GoodIn wsL_law wsX6_node := goodIn_r _ [235, 236, 84, 85, 86, 154, 155, 5, 156, 157, 158, 159, 492, 493, 494, 495, 496, 497, 498, 499, 500, 501, 502] (by decide +kernel) (by decide +kernel)
set_option maxRecDepth 20000 in
theorem gL_law_X6_node : GoodIn wsL_law (wsV RL 40 RX6 yX6_node wsX6_node) := goodIn_app (goodIn_of _ (by decide +kernel)) ggL_law_X6_node
set_option maxRecDepth 20000 in
theorem ggL_law_X5_nodes : GoodIn wsL_law wsX5_nodes := goodIn_r _ [240, 19, 241, 242, 243, 18, 244, 52, 488, 489, 490, 491, 505, 506, 507, 508, 509, 510, 511] (by decide +kernel) (by decide +kernel)
set_option maxRecDepth 20000 in
theorem gL_law_X5_nodes : GoodIn wsL_law (wsV RL 41 RX5 yX5_nodes wsX5_nodes) := goodIn_app (goodIn_of _ (by decide +kernel)) ggL_law_X5_nodes
set_option maxRecDepth 20000 in
theorem ggL_law_X6_nodes : GoodIn wsL_law wsX6_nodes := goodIn_r _ [248, 236, 492, 493, 494, 495, 496, 497, 498, 499, 500, 501, 502] (by decide +kernel) (by decide +kernel)
set_option maxRecDepth 20000 in
theorem gL_law_X6_nodes : GoodIn wsL_law (wsV RL 45 RX6 yX6_nodes wsX6_nodes) := goodIn_app (goodIn_of _ (by decide +kernel)) ggL_law_X6_nodes
set_option maxRecDepth 20000 in
theorem ggL_law_X5_part : GoodIn wsL_law wsX5_part := goodIn_r _ [252, 19, 212, 213, 214, 18, 215, 52, 253, 254, 255, 256, 46, 257, 258, 259, 260, 47, 261, 262, 263, 264, 48, 488, 489, 490, 491, 505, 506, 507, 508, 509, 510, 511] (by decide +kernel) (by decide +kernel)
set_option maxRecDepth 20000 in
theorem gL_law_X5_part : GoodIn wsL_law (wsV RL 46 RX5 yX5_part wsX5_part) := goodIn_app (goodIn_of _ (by decide +kernel)) ggL_law_X5_part
set_option maxRecDepth 20000 in
theorem ggL_law_X6_part : GoodIn wsL_law wsX6_part := goodIn_r _ [268, 236, 84, 85, 86, 154, 155, 5, 156, 492, 493, 494, 495, 496, 497, 498, 499, 500, 501, 502] (by decide +kernel) (by decide +kernel)
set_option maxRecDepth 20000 in
theorem gL_law_X6_part : GoodIn wsL_law (wsV RL 50 RX6 yX6_part wsX6_part) := goodIn_app (goodIn_of _ (by decide +kernel)) ggL_law_X6_part
set_option maxRecDepth 20000 in
theorem ggL_law_X5_reached : GoodIn wsL_law wsX5_reached := goodIn_r _ [272, 15, 19, 116, 117, 118, 14, 119, 34, 35, 212, 213, 214, 18, 215, 52, 273, 274, 275, 276, 50, 46, 47, 48, 277, 278, 279, 280, 281, 282, 283, 284, 285, 286, 287, 2, 288, 289, 290, 291, 488, 489, 490, 491, 503, 504, 505, 506, 507, 508, 509, 510, 511, 529, 530, 531] (by decide +kernel) (by decide +kernel)
set_option maxRecDepth 20000 in
theorem gL_law_X5_reached : GoodIn wsL_law (wsV RL 51 RX5 yX5_reached wsX5_reached) := goodIn_app (goodIn_of _ (by decide +kernel)) ggL_law_X5_reached
set_option maxRecDepth 20000 in
theorem ggL_law_X6_reached : GoodIn wsL_law wsX6_reached := goodIn_r _ [295, 236, 154, 155, 5, 156, 296, 297, 298, 299, 85, 91, 86, 84, 300, 301, 302, 303, 82, 492, 493, 494, 495, 496, 497, 498, 499, 500, 501, 502] (by decide +kernel) (by decide +kernel)
set_option maxRecDepth 20000 in
theorem gL_law_X6_reached : GoodIn wsL_law (wsV RL 54 RX6 yX6_reached wsX6_reached) := goodIn_app (goodIn_of _ (by decide +kernel)) ggL_law_X6_reached
set_option maxRecDepth 20000 in
theorem ggL_law_X5_place : GoodIn wsL_law wsX5_place := goodIn_r _ [307, 19, 15, 212, 213, 214, 18, 215, 52, 273, 274, 275, 276, 50, 46, 47, 48, 277, 278, 279, 280, 281, 282, 283, 14, 284, 34, 285, 35, 308, 309, 310, 311, 287, 2, 288, 312, 313, 314, 33, 315, 42, 290, 291, 488, 489, 490, 491, 505, 506, 507, 508, 509, 510, 511, 503, 504, 529, 530, 531] (by decide +kernel) (by decide +kernel)
set_option maxRecDepth 20000 in
theorem gL_law_X5_place : GoodIn wsL_law (wsV RL 55 RX5 yX5_place wsX5_place) := goodIn_app (goodIn_of _ (by decide +kernel)) ggL_law_X5_place
set_option maxRecDepth 20000 in
theorem ggL_law_X6_place : GoodIn wsL_law wsX6_place := goodIn_r _ [319, 236, 154, 155, 5, 156, 296, 297, 298, 299, 85, 91, 86, 84, 300, 301, 302, 303, 82, 320, 321, 322, 323, 83, 492, 493, 494, 495, 496, 497, 498, 499, 500, 501, 502] (by decide +kernel) (by decide +kernel)
set_option maxRecDepth 20000 in
theorem gL_law_X6_place : GoodIn wsL_law (wsV RL 59 RX6 yX6_place wsX6_place) := goodIn_app (goodIn_of _ (by decide +kernel)) ggL_law_X6_place
set_option maxRecDepth 20000 in
theorem ggL_law_X5_size : GoodIn wsL_law wsX5_size := goodIn_r _ [327, 19, 212, 213, 214, 18, 215, 52, 328, 329, 330, 331, 49, 488, 489, 490, 491, 505, 506, 507, 508, 509, 510, 511] (by decide +kernel) (by decide +kernel)
set_option maxRecDepth 20000 in
theorem gL_law_X5_size : GoodIn wsL_law (wsV RL 60 RX5 yX5_size wsX5_size) := goodIn_app (goodIn_of _ (by decide +kernel)) ggL_law_X5_size
set_option maxRecDepth 20000 in
theorem ggL_law_X6_size : GoodIn wsL_law wsX6_size := goodIn_r _ [335, 236, 85, 91, 86, 154, 155, 5, 156, 492, 493, 494, 495, 496, 497, 498, 499, 500, 501, 502] (by decide +kernel) (by decide +kernel)
set_option maxRecDepth 20000 in
theorem gL_law_X6_size : GoodIn wsL_law (wsV RL 63 RX6 yX6_size wsX6_size) := goodIn_app (goodIn_of _ (by decide +kernel)) ggL_law_X6_size
set_option maxRecDepth 20000 in
theorem ggL_law_X5_included : GoodIn wsL_law wsX5_included := goodIn_r _ [339, 23, 340, 341, 342, 22, 343, 67, 69, 61, 344, 345, 346, 347, 68, 57, 62, 348, 201, 202, 203, 349, 350, 351, 352, 353, 354, 355, 107, 2, 108, 356, 357, 358, 359, 63, 360, 361, 362, 363, 58, 59, 60, 364, 282, 283, 14, 284, 34, 285, 35, 104, 105, 365, 366, 367, 368, 369, 370, 371, 372, 64, 373, 374, 375, 376, 377, 378, 379, 380, 381, 382, 383, 384, 385, 309, 310, 311, 287, 288, 312, 313, 314, 33, 315, 42, 290, 291, 488, 489, 490, 491, 512, 513, 514, 515, 516, 517, 518, 519, 520, 521, 522, 523, 524, 503, 504, 529, 530, 531] (by decide +kernel) (by decide +kernel)
set_option maxRecDepth 20000 in
theorem gL_law_X5_included : GoodIn wsL_law (wsV RL 64 RX5 yX5_included wsX5_included) := goodIn_app (goodIn_of _ (by decide +kernel)) ggL_law_X5_included
set_option maxRecDepth 20000 in
theorem ggL_law_X6_included : GoodIn wsL_law wsX6_included := goodIn_r _ [389, 390, 391, 392, 5, 393, 87, 89, 394, 395, 396, 397, 398, 157, 158, 159, 399, 400, 401, 402, 90, 403, 404, 405, 406, 300, 301, 302, 303, 82, 320, 321, 322, 323, 83, 492, 493, 494, 495, 496, 497, 498, 499, 500, 501, 502] (by decide +kernel) (by decide +kernel)
set_option maxRecDepth 20000 in
theorem gL_law_X6_included : GoodIn wsL_law (wsV RL 68 RX6 yX6_included wsX6_included) := goodIn_app (goodIn_of _ (by decide +kernel)) ggL_law_X6_included
set_option maxRecDepth 20000 in
theorem ggL_law_X5_least : GoodIn wsL_law wsX5_least := goodIn_r _ [410, 23, 411, 412, 2, 413, 340, 341, 342, 22, 343, 67, 69, 61, 344, 345, 346, 347, 68, 57, 62, 348, 201, 202, 203, 349, 350, 351, 352, 353, 354, 355, 107, 108, 356, 357, 358, 359, 63, 360, 361, 362, 363, 58, 59, 60, 364, 282, 283, 14, 284, 34, 285, 35, 104, 105, 365, 366, 367, 368, 369, 370, 371, 372, 64, 373, 374, 375, 376, 377, 378, 379, 380, 381, 382, 383, 384, 385, 309, 310, 311, 287, 288, 312, 313, 314, 33, 315, 42, 290, 291, 414, 415, 416, 417, 488, 489, 490, 491, 512, 513, 514, 515, 516, 517, 518, 519, 520, 521, 522, 523, 524, 503, 504, 529, 530, 531] (by decide +kernel) (by decide +kernel)
set_option maxRecDepth 20000 in
theorem gL_law_X5_least : GoodIn wsL_law (wsV RL 69 RX5 yX5_least wsX5_least) := goodIn_app (goodIn_of _ (by decide +kernel)) ggL_law_X5_least
set_option maxRecDepth 20000 in
theorem ggL_law_X6_least : GoodIn wsL_law wsX6_least := goodIn_r _ [421, 87, 154, 155, 5, 156, 390, 391, 392, 393, 89, 394, 395, 396, 397, 398, 157, 158, 159, 399, 400, 401, 402, 90, 403, 404, 405, 406, 300, 301, 302, 303, 82, 320, 321, 322, 323, 83, 492, 493, 494, 495, 496, 497, 498, 499, 500, 501, 502] (by decide +kernel) (by decide +kernel)
set_option maxRecDepth 20000 in
theorem gL_law_X6_least : GoodIn wsL_law (wsV RL 72 RX6 yX6_least wsX6_least) := goodIn_app (goodIn_of _ (by decide +kernel)) ggL_law_X6_least
set_option maxRecDepth 20000 in
theorem ggL_law_X5_witness : GoodIn wsL_law wsX5_witness := goodIn_r _ [425, 23, 19, 411, 412, 2, 413, 340, 341, 342, 22, 343, 67, 69, 61, 344, 345, 346, 347, 68, 57, 62, 348, 201, 202, 203, 349, 350, 351, 352, 353, 354, 355, 107, 108, 356, 357, 358, 359, 63, 360, 361, 362, 363, 58, 59, 60, 364, 282, 283, 14, 284, 34, 285, 35, 104, 105, 365, 366, 367, 368, 369, 370, 371, 372, 64, 373, 374, 375, 376, 377, 378, 379, 380, 381, 382, 383, 384, 385, 309, 310, 311, 287, 288, 312, 313, 314, 33, 315, 42, 290, 291, 414, 415, 416, 417, 216, 217, 218, 18, 219, 52, 426, 427, 428, 429, 66, 65, 430, 431, 432, 433, 51, 434, 221, 222, 223, 46, 47, 48, 49, 224, 225, 226, 227, 228, 229, 230, 231, 488, 489, 490, 491, 512, 513, 514, 515, 516, 517, 518, 519, 520, 521, 522, 523, 524, 503, 504, 529, 530, 531, 505, 506, 507, 508, 509, 510, 511] (by decide +kernel) (by decide +kernel)
set_option maxRecDepth 20000 in
theorem gL_law_X5_witness : GoodIn wsL_law (wsV RL 73 RX5 yX5_witness wsX5_witness) := goodIn_app (goodIn_of _ (by decide +kernel)) ggL_law_X5_witness
set_option maxRecDepth 20000 in
theorem ggL_law_X6_witness : GoodIn wsL_law wsX6_witness := goodIn_r _ [438, 87, 236, 89, 92, 154, 155, 5, 156, 390, 391, 392, 393, 394, 395, 396, 397, 398, 157, 158, 159, 399, 400, 401, 402, 90, 403, 404, 405, 406, 300, 301, 302, 303, 82, 320, 321, 322, 323, 83, 439, 233, 234, 235, 84, 85, 86, 492, 493, 494, 495, 496, 497, 498, 499, 500, 501, 502] (by decide +kernel) (by decide +kernel)
set_option maxRecDepth 20000 in
theorem gL_law_X6_witness : GoodIn wsL_law (wsV RL 76 RX6 yX6_witness wsX6_witness) := goodIn_app (goodIn_of _ (by decide +kernel)) ggL_law_X6_witness
set_option maxRecDepth 20000 in
theorem ggL_law_X5_terms : GoodIn wsL_law wsX5_terms := goodIn_r _ [443, 27, 411, 412, 2, 413, 444, 445, 446, 26, 447, 77, 75, 76, 74, 448, 345, 346, 22, 347, 68, 57, 67, 62, 348, 201, 202, 203, 349, 350, 351, 352, 353, 354, 355, 107, 108, 356, 357, 358, 359, 63, 61, 360, 361, 362, 363, 69, 58, 59, 60, 364, 282, 283, 14, 284, 34, 285, 35, 104, 105, 365, 366, 367, 368, 369, 370, 371, 372, 64, 373, 374, 375, 376, 377, 378, 379, 380, 449, 450, 451, 452, 453, 454, 455, 456, 457, 458, 459, 460, 461, 462, 463, 464, 465, 466, 467, 468, 469, 470, 471, 472, 473, 474, 415, 416, 417, 475, 476, 477, 478, 479, 382, 383, 384, 385, 309, 310, 311, 287, 288, 312, 313, 314, 33, 315, 42, 290, 291, 488, 489, 490, 491, 525, 526, 527, 528, 512, 513, 514, 515, 516, 517, 518, 519, 520, 521, 522, 523, 524, 503, 504, 529, 530, 531] (by decide +kernel) (by decide +kernel)
set_option maxRecDepth 20000 in
theorem gL_law_X5_terms : GoodIn wsL_law (wsV RL 77 RX5 yX5_terms wsX5_terms) := goodIn_app (goodIn_of _ (by decide +kernel)) ggL_law_X5_terms
set_option maxRecDepth 20000 in
theorem ggL_law_X6_terms : GoodIn wsL_law wsX6_terms := goodIn_r _ [483, 91, 154, 155, 5, 156, 157, 158, 159, 403, 404, 405, 406, 300, 301, 302, 303, 82, 484, 485, 486, 487, 320, 321, 322, 323, 83, 492, 493, 494, 495, 496, 497, 498, 499, 500, 501, 502] (by decide +kernel) (by decide +kernel)
set_option maxRecDepth 20000 in
theorem gL_law_X6_terms : GoodIn wsL_law (wsV RL 80 RX6 yX6_terms wsX6_terms) := goodIn_app (goodIn_of _ (by decide +kernel)) ggL_law_X6_terms
