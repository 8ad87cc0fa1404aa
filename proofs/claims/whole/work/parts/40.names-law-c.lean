set_option maxRecDepth 20000 in
theorem ggL_law_X2_word : GoodIn wsL_law wsX2_word := goodIn_r _ [477, 15, 478, 479, 480, 14, 481, 30, 157, 2, 158, 234, 235, 236, 237, 29, 625, 626, 627, 628, 629, 630, 631, 650, 651, 652, 653, 654] (by decide +kernel) (by decide +kernel)
set_option maxRecDepth 20000 in
theorem gL_law_X2_word : GoodIn wsL_law (wsV RL 58 RX2 yX2_word wsX2_word) := goodIn_app (goodIn_of _ (by decide +kernel)) ggL_law_X2_word
set_option maxRecDepth 20000 in
theorem ggL_law_X3_word : GoodIn wsL_law wsX3_word := goodIn_r _ [485, 166, 48, 47, 168, 169, 170, 5, 171, 632, 633, 634, 635, 636, 637, 638, 639, 640, 641, 642, 643, 644, 645, 646, 647, 648, 649] (by decide +kernel) (by decide +kernel)
set_option maxRecDepth 20000 in
theorem gL_law_X3_word : GoodIn wsL_law (wsV RL 62 RX3 yX3_word wsX3_word) := goodIn_app (goodIn_of _ (by decide +kernel)) ggL_law_X3_word
set_option maxRecDepth 20000 in
theorem ggL_law_X2_scribble : GoodIn wsL_law wsX2_scribble := goodIn_r _ [489, 15, 305, 306, 307, 2, 308, 25, 490, 491, 492, 493, 19, 494, 495, 496, 18, 497, 39, 40, 127, 128, 129, 85, 86, 120, 121, 122, 106, 107, 498, 244, 245, 246, 95, 96, 97, 98, 41, 91, 92, 93, 94, 258, 259, 260, 261, 262, 263, 264, 265, 234, 235, 236, 14, 237, 29, 157, 158, 266, 267, 268, 153, 154, 155, 156, 33, 34, 31, 625, 626, 627, 628, 629, 630, 631, 655, 656, 657, 658, 650, 651, 652, 653, 654] (by decide +kernel) (by decide +kernel)
set_option maxRecDepth 20000 in
theorem gL_law_X2_scribble : GoodIn wsL_law (wsV RL 63 RX2 yX2_scribble wsX2_scribble) := goodIn_app (goodIn_of _ (by decide +kernel)) ggL_law_X2_scribble
set_option maxRecDepth 20000 in
theorem ggL_law_X3_scribble : GoodIn wsL_law wsX3_scribble := goodIn_r _ [502, 166, 49, 167, 168, 169, 170, 5, 171, 313, 314, 315, 316, 184, 185, 186, 187, 47, 213, 214, 215, 216, 50, 51, 217, 632, 633, 634, 635, 636, 637, 638, 639, 640, 641, 642, 643, 644, 645, 646, 647, 648, 649] (by decide +kernel) (by decide +kernel)
set_option maxRecDepth 20000 in
theorem gL_law_X3_scribble : GoodIn wsL_law (wsV RL 66 RX3 yX3_scribble wsX3_scribble) := goodIn_app (goodIn_of _ (by decide +kernel)) ggL_law_X3_scribble
set_option maxRecDepth 20000 in
theorem ggL_law_X2_block : GoodIn wsL_law wsX2_block := goodIn_r _ [506, 19, 222, 223, 224, 18, 225, 127, 128, 129, 138, 139, 140, 141, 91, 92, 93, 94, 39, 40, 142, 143, 144, 95, 96, 97, 98, 41, 262, 263, 264, 2, 265, 15, 234, 235, 236, 14, 237, 29, 157, 158, 266, 267, 268, 251, 252, 253, 254, 255, 256, 257, 101, 74, 75, 76, 507, 99, 100, 226, 227, 228, 229, 230, 231, 232, 233, 238, 239, 240, 241, 21, 242, 88, 89, 90, 243, 244, 245, 246, 247, 248, 249, 250, 159, 160, 161, 625, 626, 627, 628, 629, 630, 631, 655, 656, 657, 658, 650, 651, 652, 653, 654] (by decide +kernel) (by decide +kernel)
set_option maxRecDepth 20000 in
theorem gL_law_X2_block : GoodIn wsL_law (wsV RL 67 RX2 yX2_block wsX2_block) := goodIn_app (goodIn_of _ (by decide +kernel)) ggL_law_X2_block
set_option maxRecDepth 20000 in
theorem ggL_law_X3_block : GoodIn wsL_law wsX3_block := goodIn_r _ [511, 166, 281, 282, 283, 5, 284, 49, 168, 169, 170, 171, 184, 185, 186, 187, 47, 289, 290, 291, 292, 188, 189, 190, 191, 192, 193, 194, 195, 285, 286, 287, 288, 632, 633, 634, 635, 636, 637, 638, 639, 640, 641, 642, 643, 644, 645, 646, 647, 648, 649] (by decide +kernel) (by decide +kernel)
set_option maxRecDepth 20000 in
theorem gL_law_X3_block : GoodIn wsL_law (wsV RL 70 RX3 yX3_block wsX3_block) := goodIn_app (goodIn_of _ (by decide +kernel)) ggL_law_X3_block
set_option maxRecDepth 20000 in
theorem ggL_law_X2_live : GoodIn wsL_law wsX2_live := goodIn_r _ [515, 238, 239, 240, 2, 241, 19, 21, 242, 88, 89, 18, 90, 91, 92, 93, 94, 39, 40, 243, 244, 245, 246, 95, 96, 97, 98, 41, 247, 248, 249, 250, 625, 626, 627, 628, 629, 630, 631, 655, 656, 657, 658] (by decide +kernel) (by decide +kernel)
set_option maxRecDepth 20000 in
theorem gL_law_X2_live : GoodIn wsL_law (wsV RL 71 RX2 yX2_live wsX2_live) := goodIn_app (goodIn_of _ (by decide +kernel)) ggL_law_X2_live
set_option maxRecDepth 20000 in
theorem ggL_law_X3_live : GoodIn wsL_law wsX3_live := goodIn_r _ [519, 166, 49, 632, 633, 634, 635, 636, 637, 638, 639, 640, 641, 642, 643, 644, 645, 646, 647, 648, 649] (by decide +kernel) (by decide +kernel)
set_option maxRecDepth 20000 in
theorem gL_law_X3_live : GoodIn wsL_law (wsV RL 74 RX3 yX3_live wsX3_live) := goodIn_app (goodIn_of _ (by decide +kernel)) ggL_law_X3_live
set_option maxRecDepth 20000 in
theorem ggL_law_X2_page : GoodIn wsL_law wsX2_page := goodIn_r _ [523, 19, 524, 85, 2, 86, 525, 117, 118, 18, 119, 39, 526, 527, 528, 529, 40, 530, 531, 532, 533, 120, 121, 122, 106, 107, 108, 109, 110, 111, 112, 113, 114, 115, 116, 534, 535, 536, 537, 41, 538, 539, 540, 541, 542, 543, 544, 545, 546, 547, 548, 549, 625, 626, 627, 628, 629, 630, 631, 655, 656, 657, 658] (by decide +kernel) (by decide +kernel)
set_option maxRecDepth 20000 in
theorem gL_law_X2_page : GoodIn wsL_law (wsV RL 75 RX2 yX2_page wsX2_page) := goodIn_app (goodIn_of _ (by decide +kernel)) ggL_law_X2_page
set_option maxRecDepth 20000 in
theorem ggL_law_X3_page : GoodIn wsL_law wsX3_page := goodIn_r _ [553, 166, 52, 53, 55, 54, 168, 169, 170, 5, 171, 180, 181, 182, 183, 56, 49, 184, 185, 186, 187, 47, 188, 189, 190, 191, 192, 193, 194, 195, 196, 197, 198, 199, 632, 633, 634, 635, 636, 637, 638, 639, 640, 641, 642, 643, 644, 645, 646, 647, 648, 649] (by decide +kernel) (by decide +kernel)
set_option maxRecDepth 20000 in
theorem gL_law_X3_page : GoodIn wsL_law (wsV RL 78 RX3 yX3_page wsX3_page) := goodIn_app (goodIn_of _ (by decide +kernel)) ggL_law_X3_page
set_option maxRecDepth 20000 in
theorem ggL_law_X2_extents : GoodIn wsL_law wsX2_extents := goodIn_r _ [557, 19, 558, 559, 560, 18, 561, 106, 2, 107, 108, 109, 110, 111, 112, 113, 114, 115, 116, 117, 118, 119, 39, 120, 121, 122, 625, 626, 627, 628, 629, 630, 631, 655, 656, 657, 658] (by decide +kernel) (by decide +kernel)
set_option maxRecDepth 20000 in
theorem gL_law_X2_extents : GoodIn wsL_law (wsV RL 79 RX2 yX2_extents wsX2_extents) := goodIn_app (goodIn_of _ (by decide +kernel)) ggL_law_X2_extents
