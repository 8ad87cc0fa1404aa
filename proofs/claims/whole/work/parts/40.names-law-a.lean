set_option maxRecDepth 20000 in
theorem ggL_law_X2_init : GoodIn wsL_law wsX2_init := goodIn_r _ [8, 9, 10, 11, 12, 13, 14, 15, 16, 17, 18, 19, 20, 21, 22, 23, 24, 25, 26, 27, 28, 29, 30, 31, 32, 33, 34, 35, 36, 37, 38, 39, 40, 41, 42, 650, 651, 652, 653, 654, 625, 626, 627, 628, 629, 630, 631, 655, 656, 657, 658] (by decide +kernel) (by decide +kernel)
set_option maxRecDepth 20000 in
theorem gL_law_X2_init : GoodIn wsL_law (wsX2_init) := ggL_law_X2_init
set_option maxRecDepth 20000 in
theorem ggL_law_X3_init : GoodIn wsL_law wsX3_init := goodIn_r _ [45, 46, 10, 11, 20, 47, 48, 32, 49, 50, 51, 52, 53, 54, 55, 56, 57, 58, 632, 633, 634, 635, 636, 637, 638, 639, 640, 641, 642, 643, 644, 645, 646, 647, 648, 649] (by decide +kernel) (by decide +kernel)
set_option maxRecDepth 20000 in
theorem gL_law_X3_init : GoodIn wsL_law (wsX3_init) := ggL_law_X3_init
set_option maxRecDepth 20000 in
theorem ggL_law_X2_alloc : GoodIn wsL_law wsX2_alloc := goodIn_r _ [62, 19, 15, 63, 64, 2, 65, 66, 67, 68, 69, 25, 70, 71, 72, 18, 73, 74, 75, 76, 77, 78, 79, 80, 81, 82, 83, 84, 39, 40, 85, 86, 87, 88, 89, 90, 91, 92, 93, 94, 95, 96, 97, 98, 41, 99, 100, 101, 102, 103, 104, 105, 106, 107, 108, 109, 110, 111, 112, 113, 114, 115, 116, 117, 118, 119, 120, 121, 122, 123, 124, 125, 126, 127, 128, 129, 130, 131, 132, 133, 134, 135, 136, 137, 138, 139, 140, 141, 142, 143, 144, 145, 146, 147, 148, 149, 150, 151, 152, 153, 154, 155, 14, 156, 29, 33, 34, 31, 157, 158, 159, 160, 161, 625, 626, 627, 628, 629, 630, 631, 655, 656, 657, 658, 650, 651, 652, 653, 654] (by decide +kernel) (by decide +kernel)
set_option maxRecDepth 20000 in
theorem gL_law_X2_alloc : GoodIn wsL_law (wsV RL 13 RX2 yX2_alloc wsX2_alloc) := goodIn_app (goodIn_of _ (by decide +kernel)) ggL_law_X2_alloc
set_option maxRecDepth 20000 in
theorem ggL_law_X3_alloc : GoodIn wsL_law wsX3_alloc := goodIn_r _ [165, 166, 49, 167, 168, 169, 170, 5, 171, 172, 173, 174, 175, 176, 177, 178, 179, 52, 53, 180, 181, 182, 183, 54, 55, 56, 184, 185, 186, 187, 47, 188, 189, 190, 191, 192, 193, 194, 195, 196, 197, 198, 199, 200, 201, 202, 203, 204, 205, 206, 207, 208, 209, 210, 211, 212, 213, 214, 215, 216, 50, 51, 217, 632, 633, 634, 635, 636, 637, 638, 639, 640, 641, 642, 643, 644, 645, 646, 647, 648, 649] (by decide +kernel) (by decide +kernel)
set_option maxRecDepth 20000 in
theorem gL_law_X3_alloc : GoodIn wsL_law (wsV RL 17 RX3 yX3_alloc wsX3_alloc) := goodIn_app (goodIn_of _ (by decide +kernel)) ggL_law_X3_alloc
set_option maxRecDepth 20000 in
theorem ggL_law_X2_free : GoodIn wsL_law wsX2_free := goodIn_r _ [221, 19, 222, 223, 224, 18, 225, 127, 128, 129, 138, 139, 140, 141, 91, 92, 93, 94, 39, 40, 142, 143, 144, 95, 96, 97, 98, 41, 66, 67, 68, 2, 69, 25, 226, 227, 228, 229, 230, 231, 232, 233, 15, 234, 235, 236, 14, 237, 29, 157, 158, 238, 239, 240, 241, 21, 242, 88, 89, 90, 243, 244, 245, 246, 247, 248, 249, 250, 159, 160, 161, 251, 252, 253, 254, 255, 256, 257, 258, 259, 260, 261, 262, 263, 264, 265, 266, 267, 268, 269, 270, 271, 272, 273, 274, 275, 276, 85, 86, 130, 131, 132, 133, 153, 154, 155, 156, 33, 34, 31, 625, 626, 627, 628, 629, 630, 631, 655, 656, 657, 658, 650, 651, 652, 653, 654] (by decide +kernel) (by decide +kernel)
set_option maxRecDepth 20000 in
theorem gL_law_X2_free : GoodIn wsL_law (wsV RL 18 RX2 yX2_free wsX2_free) := goodIn_app (goodIn_of _ (by decide +kernel)) ggL_law_X2_free
set_option maxRecDepth 20000 in
theorem ggL_law_X3_free : GoodIn wsL_law wsX3_free := goodIn_r _ [280, 166, 167, 281, 282, 283, 5, 284, 49, 168, 169, 170, 171, 172, 173, 174, 175, 285, 286, 287, 288, 47, 289, 290, 291, 292, 293, 294, 295, 296, 184, 185, 186, 187, 213, 214, 215, 216, 50, 51, 217, 632, 633, 634, 635, 636, 637, 638, 639, 640, 641, 642, 643, 644, 645, 646, 647, 648, 649] (by decide +kernel) (by decide +kernel)
set_option maxRecDepth 20000 in
theorem gL_law_X3_free : GoodIn wsL_law (wsV RL 22 RX3 yX3_free wsX3_free) := goodIn_app (goodIn_of _ (by decide +kernel)) ggL_law_X3_free
set_option maxRecDepth 20000 in
theorem ggL_law_X2_put : GoodIn wsL_law wsX2_put := goodIn_r _ [300, 15, 301, 302, 303, 2, 304, 19, 222, 223, 224, 18, 225, 127, 128, 129, 138, 139, 140, 141, 91, 92, 93, 94, 39, 40, 142, 143, 144, 95, 96, 97, 98, 41, 262, 263, 264, 265, 234, 235, 236, 14, 237, 29, 157, 158, 266, 267, 268, 251, 252, 253, 254, 255, 256, 257, 305, 306, 307, 308, 25, 159, 160, 161, 153, 154, 155, 156, 33, 34, 31, 625, 626, 627, 628, 629, 630, 631, 655, 656, 657, 658, 650, 651, 652, 653, 654] (by decide +kernel) (by decide +kernel)
set_option maxRecDepth 20000 in
theorem gL_law_X2_put : GoodIn wsL_law (wsV RL 23 RX2 yX2_put wsX2_put) := goodIn_app (goodIn_of _ (by decide +kernel)) ggL_law_X2_put
set_option maxRecDepth 20000 in
theorem ggL_law_X3_put : GoodIn wsL_law wsX3_put := goodIn_r _ [312, 166, 167, 281, 282, 283, 5, 284, 49, 168, 169, 170, 171, 289, 290, 291, 292, 47, 184, 185, 186, 187, 313, 314, 315, 316, 213, 214, 215, 216, 50, 51, 217, 632, 633, 634, 635, 636, 637, 638, 639, 640, 641, 642, 643, 644, 645, 646, 647, 648, 649] (by decide +kernel) (by decide +kernel)
set_option maxRecDepth 20000 in
theorem gL_law_X3_put : GoodIn wsL_law (wsV RL 27 RX3 yX3_put wsX3_put) := goodIn_app (goodIn_of _ (by decide +kernel)) ggL_law_X3_put
set_option maxRecDepth 20000 in
theorem ggL_law_X2_refer : GoodIn wsL_law wsX2_refer := goodIn_r _ [320, 15, 301, 302, 303, 2, 304, 19, 222, 223, 224, 18, 225, 127, 128, 129, 138, 139, 140, 141, 91, 92, 93, 94, 39, 40, 142, 143, 144, 95, 96, 97, 98, 41, 262, 263, 264, 265, 234, 235, 236, 14, 237, 29, 157, 158, 266, 267, 268, 251, 252, 253, 254, 255, 256, 257, 321, 322, 323, 324, 305, 306, 307, 308, 25, 159, 160, 161, 153, 154, 155, 156, 33, 34, 31, 625, 626, 627, 628, 629, 630, 631, 655, 656, 657, 658, 650, 651, 652, 653, 654] (by decide +kernel) (by decide +kernel)
set_option maxRecDepth 20000 in
theorem gL_law_X2_refer : GoodIn wsL_law (wsV RL 28 RX2 yX2_refer wsX2_refer) := goodIn_app (goodIn_of _ (by decide +kernel)) ggL_law_X2_refer
set_option maxRecDepth 20000 in
theorem ggL_law_X3_refer : GoodIn wsL_law wsX3_refer := goodIn_r _ [328, 166, 167, 281, 282, 283, 5, 284, 49, 168, 169, 170, 171, 289, 290, 291, 292, 47, 313, 314, 315, 316, 213, 214, 215, 216, 50, 51, 217, 632, 633, 634, 635, 636, 637, 638, 639, 640, 641, 642, 643, 644, 645, 646, 647, 648, 649] (by decide +kernel) (by decide +kernel)
set_option maxRecDepth 20000 in
theorem gL_law_X3_refer : GoodIn wsL_law (wsV RL 31 RX3 yX3_refer wsX3_refer) := goodIn_app (goodIn_of _ (by decide +kernel)) ggL_law_X3_refer
set_option maxRecDepth 20000 in
theorem ggL_law_X2_get : GoodIn wsL_law wsX2_get := goodIn_r _ [332, 15, 301, 302, 303, 2, 304, 19, 222, 223, 224, 18, 225, 127, 128, 129, 138, 139, 140, 141, 91, 92, 93, 94, 39, 40, 142, 143, 144, 95, 96, 97, 98, 41, 262, 263, 264, 265, 234, 235, 236, 14, 237, 29, 157, 158, 266, 267, 268, 159, 160, 161, 625, 626, 627, 628, 629, 630, 631, 655, 656, 657, 658, 650, 651, 652, 653, 654] (by decide +kernel) (by decide +kernel)
set_option maxRecDepth 20000 in
theorem gL_law_X2_get : GoodIn wsL_law (wsV RL 32 RX2 yX2_get wsX2_get) := goodIn_app (goodIn_of _ (by decide +kernel)) ggL_law_X2_get
