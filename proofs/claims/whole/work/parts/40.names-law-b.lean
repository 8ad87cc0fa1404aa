set_option maxRecDepth 20000 in
theorem ggL_law_X3_get : GoodIn wsL_law wsX3_get := goodIn_r _ [336, 166, 47, 281, 282, 283, 5, 284, 49, 168, 169, 170, 171, 184, 185, 186, 187, 632, 633, 634, 635, 636, 637, 638, 639, 640, 641, 642, 643, 644, 645, 646, 647, 648, 649] (by decide +kernel) (by decide +kernel)
set_option maxRecDepth 20000 in
theorem gL_law_X3_get : GoodIn wsL_law (wsV RL 35 RX3 yX3_get wsX3_get) := goodIn_app (goodIn_of _ (by decide +kernel)) ggL_law_X3_get
set_option maxRecDepth 20000 in
theorem ggL_law_X2_root : GoodIn wsL_law wsX2_root := goodIn_r _ [340, 15, 341, 342, 2, 343, 321, 322, 323, 324, 19, 222, 223, 224, 18, 225, 127, 128, 129, 138, 139, 140, 141, 91, 92, 93, 94, 39, 40, 142, 143, 144, 95, 96, 97, 98, 41, 305, 306, 307, 308, 25, 153, 154, 155, 14, 156, 29, 33, 34, 31, 157, 158, 625, 626, 627, 628, 629, 630, 631, 655, 656, 657, 658, 650, 651, 652, 653, 654] (by decide +kernel) (by decide +kernel)
set_option maxRecDepth 20000 in
theorem gL_law_X2_root : GoodIn wsL_law (wsV RL 36 RX2 yX2_root wsX2_root) := goodIn_app (goodIn_of _ (by decide +kernel)) ggL_law_X2_root
set_option maxRecDepth 20000 in
theorem ggL_law_X3_root : GoodIn wsL_law wsX3_root := goodIn_r _ [347, 166, 167, 168, 169, 170, 5, 171, 281, 282, 283, 284, 49, 313, 314, 315, 316, 213, 214, 215, 216, 47, 50, 51, 217, 632, 633, 634, 635, 636, 637, 638, 639, 640, 641, 642, 643, 644, 645, 646, 647, 648, 649] (by decide +kernel) (by decide +kernel)
set_option maxRecDepth 20000 in
theorem gL_law_X3_root : GoodIn wsL_law (wsV RL 40 RX3 yX3_root wsX3_root) := goodIn_app (goodIn_of _ (by decide +kernel)) ggL_law_X3_root
set_option maxRecDepth 20000 in
theorem ggL_law_X2_rootOf : GoodIn wsL_law wsX2_rootOf := goodIn_r _ [351, 15, 341, 342, 2, 343, 234, 235, 236, 14, 237, 29, 157, 158, 625, 626, 627, 628, 629, 630, 631, 650, 651, 652, 653, 654] (by decide +kernel) (by decide +kernel)
set_option maxRecDepth 20000 in
theorem gL_law_X2_rootOf : GoodIn wsL_law (wsV RL 41 RX2 yX2_rootOf wsX2_rootOf) := goodIn_app (goodIn_of _ (by decide +kernel)) ggL_law_X2_rootOf
set_option maxRecDepth 20000 in
theorem ggL_law_X3_rootOf : GoodIn wsL_law wsX3_rootOf := goodIn_r _ [355, 166, 47, 168, 169, 170, 5, 171, 632, 633, 634, 635, 636, 637, 638, 639, 640, 641, 642, 643, 644, 645, 646, 647, 648, 649] (by decide +kernel) (by decide +kernel)
set_option maxRecDepth 20000 in
theorem gL_law_X3_rootOf : GoodIn wsL_law (wsV RL 44 RX3 yX3_rootOf wsX3_rootOf) := goodIn_app (goodIn_of _ (by decide +kernel)) ggL_law_X3_rootOf
set_option maxRecDepth 20000 in
theorem ggL_law_X2_fence : GoodIn wsL_law wsX2_fence := goodIn_r _ [359, 15, 360, 361, 362, 14, 363, 34, 364, 365, 366, 367, 29, 30, 368, 369, 370, 371, 31, 372, 373, 374, 375, 33, 625, 626, 627, 628, 629, 630, 631, 650, 651, 652, 653, 654] (by decide +kernel) (by decide +kernel)
set_option maxRecDepth 20000 in
theorem gL_law_X2_fence : GoodIn wsL_law (wsV RL 45 RX2 yX2_fence wsX2_fence) := goodIn_app (goodIn_of _ (by decide +kernel)) ggL_law_X2_fence
set_option maxRecDepth 20000 in
theorem ggL_law_X3_fence : GoodIn wsL_law wsX3_fence := goodIn_r _ [379, 166, 217, 51, 380, 381, 382, 5, 383, 48, 47, 384, 385, 386, 387, 50, 632, 633, 634, 635, 636, 637, 638, 639, 640, 641, 642, 643, 644, 645, 646, 647, 648, 649] (by decide +kernel) (by decide +kernel)
set_option maxRecDepth 20000 in
theorem gL_law_X3_fence : GoodIn wsL_law (wsV RL 49 RX3 yX3_fence wsX3_fence) := goodIn_app (goodIn_of _ (by decide +kernel)) ggL_law_X3_fence
set_option maxRecDepth 20000 in
theorem ggL_law_X2_crash : GoodIn wsL_law wsX2_crash := goodIn_r _ [391, 15, 24, 22, 392, 365, 366, 14, 367, 34, 29, 30, 368, 369, 370, 371, 31, 372, 373, 374, 375, 33, 393, 394, 395, 2, 396, 19, 23, 21, 397, 398, 399, 18, 400, 39, 41, 401, 402, 403, 404, 405, 406, 407, 408, 234, 235, 236, 237, 157, 158, 321, 322, 323, 324, 222, 223, 224, 225, 127, 128, 129, 138, 139, 140, 141, 91, 92, 93, 94, 40, 142, 143, 144, 95, 96, 97, 98, 409, 410, 411, 412, 262, 263, 264, 265, 266, 267, 268, 251, 252, 253, 254, 255, 256, 257, 63, 64, 65, 145, 146, 147, 148, 149, 150, 151, 152, 413, 414, 415, 416, 74, 75, 76, 116, 117, 118, 119, 81, 82, 83, 84, 85, 86, 99, 100, 101, 120, 121, 122, 106, 107, 112, 113, 114, 115, 123, 124, 125, 126, 130, 131, 132, 133, 134, 135, 136, 137, 417, 418, 419, 420, 153, 154, 155, 156, 247, 248, 249, 250, 159, 160, 161, 625, 626, 627, 628, 629, 630, 631, 650, 651, 652, 653, 654, 655, 656, 657, 658] (by decide +kernel) (by decide +kernel)
set_option maxRecDepth 20000 in
theorem gL_law_X2_crash : GoodIn wsL_law (wsV RL 50 RX2 yX2_crash wsX2_crash) := goodIn_app (goodIn_of _ (by decide +kernel)) ggL_law_X2_crash
set_option maxRecDepth 20000 in
theorem ggL_law_X3_crash : GoodIn wsL_law wsX3_crash := goodIn_r _ [424, 166, 217, 51, 47, 48, 49, 425, 426, 427, 57, 380, 381, 382, 5, 383, 384, 385, 386, 387, 50, 428, 429, 430, 431, 281, 282, 283, 284, 168, 169, 170, 171, 432, 433, 434, 435, 52, 53, 436, 437, 438, 439, 184, 185, 186, 187, 289, 290, 291, 292, 208, 209, 210, 211, 212, 180, 181, 182, 183, 54, 55, 56, 188, 189, 190, 191, 192, 193, 194, 195, 196, 197, 198, 199, 213, 214, 215, 216, 632, 633, 634, 635, 636, 637, 638, 639, 640, 641, 642, 643, 644, 645, 646, 647, 648, 649] (by decide +kernel) (by decide +kernel)
set_option maxRecDepth 20000 in
theorem gL_law_X3_crash : GoodIn wsL_law (wsV RL 53 RX3 yX3_crash wsX3_crash) := goodIn_app (goodIn_of _ (by decide +kernel)) ggL_law_X3_crash
set_option maxRecDepth 20000 in
theorem ggL_law_X2_collect : GoodIn wsL_law wsX2_collect := goodIn_r _ [443, 19, 444, 445, 446, 2, 447, 22, 21, 448, 449, 450, 18, 451, 42, 401, 402, 403, 404, 452, 453, 454, 455, 15, 234, 235, 236, 14, 237, 29, 157, 158, 456, 457, 458, 459, 127, 128, 129, 85, 86, 460, 223, 224, 225, 138, 139, 140, 141, 91, 92, 93, 94, 39, 40, 142, 143, 144, 95, 96, 97, 98, 41, 461, 462, 463, 464, 417, 418, 419, 420, 247, 248, 249, 250, 159, 160, 161, 251, 252, 253, 254, 255, 256, 257, 238, 239, 240, 241, 242, 88, 89, 90, 243, 244, 245, 246, 465, 269, 270, 271, 272, 273, 274, 275, 276, 130, 131, 132, 133, 153, 154, 155, 156, 33, 34, 31, 625, 626, 627, 628, 629, 630, 631, 655, 656, 657, 658, 650, 651, 652, 653, 654] (by decide +kernel) (by decide +kernel)
set_option maxRecDepth 20000 in
theorem gL_law_X2_collect : GoodIn wsL_law (wsV RL 54 RX2 yX2_collect wsX2_collect) := goodIn_app (goodIn_of _ (by decide +kernel)) ggL_law_X2_collect
set_option maxRecDepth 20000 in
theorem ggL_law_X3_collect : GoodIn wsL_law wsX3_collect := goodIn_r _ [469, 166, 58, 427, 47, 57, 49, 470, 471, 472, 5, 473, 281, 282, 283, 284, 168, 169, 170, 171, 289, 290, 291, 292, 293, 294, 295, 296, 184, 185, 186, 187, 213, 214, 215, 216, 50, 51, 217, 632, 633, 634, 635, 636, 637, 638, 639, 640, 641, 642, 643, 644, 645, 646, 647, 648, 649] (by decide +kernel) (by decide +kernel)
set_option maxRecDepth 20000 in
theorem gL_law_X3_collect : GoodIn wsL_law (wsV RL 57 RX3 yX3_collect wsX3_collect) := goodIn_app (goodIn_of _ (by decide +kernel)) ggL_law_X3_collect
