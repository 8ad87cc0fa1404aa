set_option maxRecDepth 20000 in
theorem ggL_law_X3_extents : GoodIn wsL_law wsX3_extents := goodIn_r _ [565, 166, 56, 54, 168, 169, 170, 5, 171, 180, 181, 182, 183, 52, 53, 55, 49, 184, 185, 186, 187, 47, 188, 189, 190, 191, 192, 193, 194, 195, 196, 197, 198, 199, 632, 633, 634, 635, 636, 637, 638, 639, 640, 641, 642, 643, 644, 645, 646, 647, 648, 649] (by decide +kernel) (by decide +kernel)
set_option maxRecDepth 20000 in
theorem gL_law_X3_extents : GoodIn wsL_law (wsV RL 82 RX3 yX3_extents wsX3_extents) := goodIn_app (goodIn_of _ (by decide +kernel)) ggL_law_X3_extents
set_option maxRecDepth 20000 in
theorem ggL_law_X2_next : GoodIn wsL_law wsX2_next := goodIn_r _ [569, 19, 570, 103, 104, 18, 105, 106, 2, 107, 108, 109, 110, 111, 112, 113, 114, 115, 116, 117, 118, 119, 39, 120, 121, 122, 625, 626, 627, 628, 629, 630, 631, 655, 656, 657, 658] (by decide +kernel) (by decide +kernel)
set_option maxRecDepth 20000 in
theorem gL_law_X2_next : GoodIn wsL_law (wsV RL 83 RX2 yX2_next wsX2_next) := goodIn_app (goodIn_of _ (by decide +kernel)) ggL_law_X2_next
set_option maxRecDepth 20000 in
theorem ggL_law_X3_next : GoodIn wsL_law wsX3_next := goodIn_r _ [574, 166, 168, 169, 170, 5, 171, 180, 181, 182, 183, 52, 53, 54, 55, 56, 49, 184, 185, 186, 187, 47, 188, 189, 190, 191, 192, 193, 194, 195, 196, 197, 198, 199, 200, 201, 202, 203, 632, 633, 634, 635, 636, 637, 638, 639, 640, 641, 642, 643, 644, 645, 646, 647, 648, 649] (by decide +kernel) (by decide +kernel)
set_option maxRecDepth 20000 in
theorem gL_law_X3_next : GoodIn wsL_law (wsV RL 86 RX3 yX3_next wsX3_next) := goodIn_app (goodIn_of _ (by decide +kernel)) ggL_law_X3_next
set_option maxRecDepth 20000 in
theorem ggL_law_X2_count : GoodIn wsL_law wsX2_count := goodIn_r _ [578, 19, 15, 23, 24, 238, 239, 240, 2, 241, 21, 242, 88, 89, 18, 90, 91, 92, 93, 94, 39, 40, 243, 244, 245, 246, 95, 96, 97, 98, 41, 579, 580, 581, 582, 116, 117, 118, 119, 583, 584, 585, 586, 87, 587, 535, 536, 537, 85, 86, 538, 539, 540, 541, 542, 543, 544, 588, 589, 590, 14, 591, 34, 592, 593, 594, 595, 247, 248, 249, 250, 258, 259, 260, 261, 262, 263, 264, 265, 234, 235, 236, 237, 29, 157, 158, 266, 267, 268, 625, 626, 627, 628, 629, 630, 631, 655, 656, 657, 658, 650, 651, 652, 653, 654] (by decide +kernel) (by decide +kernel)
set_option maxRecDepth 20000 in
theorem gL_law_X2_count : GoodIn wsL_law (wsV RL 87 RX2 yX2_count wsX2_count) := goodIn_app (goodIn_of _ (by decide +kernel)) ggL_law_X2_count
set_option maxRecDepth 20000 in
theorem ggL_law_X3_count : GoodIn wsL_law wsX3_count := goodIn_r _ [599, 166, 49, 52, 55, 217, 426, 425, 180, 181, 182, 5, 183, 53, 54, 56, 184, 185, 186, 187, 47, 188, 189, 190, 191, 192, 193, 194, 195, 196, 197, 198, 199, 204, 205, 206, 207, 632, 633, 634, 635, 636, 637, 638, 639, 640, 641, 642, 643, 644, 645, 646, 647, 648, 649] (by decide +kernel) (by decide +kernel)
set_option maxRecDepth 20000 in
theorem gL_law_X3_count : GoodIn wsL_law (wsV RL 90 RX3 yX3_count wsX3_count) := goodIn_app (goodIn_of _ (by decide +kernel)) ggL_law_X3_count
set_option maxRecDepth 20000 in
theorem ggL_law_X2_head : GoodIn wsL_law wsX2_head := goodIn_r _ [603, 63, 64, 2, 65, 145, 146, 147, 148, 149, 150, 151, 152] (by decide +kernel) (by decide +kernel)
set_option maxRecDepth 20000 in
theorem gL_law_X2_head : GoodIn wsL_law (wsV RL 91 RX2 yX2_head wsX2_head) := goodIn_app (goodIn_of _ (by decide +kernel)) ggL_law_X2_head
set_option maxRecDepth 20000 in
theorem ggL_law_X3_head : GoodIn wsL_law wsX3_head := goodIn_r _ [607, 166, 168, 169, 170, 5, 171, 208, 209, 210, 211, 212, 632, 633, 634, 635, 636, 637, 638, 639, 640, 641, 642, 643, 644, 645, 646, 647, 648, 649] (by decide +kernel) (by decide +kernel)
set_option maxRecDepth 20000 in
theorem gL_law_X3_head : GoodIn wsL_law (wsV RL 95 RX3 yX3_head wsX3_head) := goodIn_app (goodIn_of _ (by decide +kernel)) ggL_law_X3_head
set_option maxRecDepth 20000 in
theorem ggL_law_X2_waits : GoodIn wsL_law wsX2_waits := goodIn_r _ [611, 15, 612, 369, 370, 14, 371, 34, 31, 625, 626, 627, 628, 629, 630, 631, 650, 651, 652, 653, 654] (by decide +kernel) (by decide +kernel)
set_option maxRecDepth 20000 in
theorem gL_law_X2_waits : GoodIn wsL_law (wsV RL 96 RX2 yX2_waits wsX2_waits) := goodIn_app (goodIn_of _ (by decide +kernel)) ggL_law_X2_waits
set_option maxRecDepth 20000 in
theorem ggL_law_X3_waits : GoodIn wsL_law wsX3_waits := goodIn_r _ [616, 166, 217, 51, 168, 169, 170, 5, 171, 632, 633, 634, 635, 636, 637, 638, 639, 640, 641, 642, 643, 644, 645, 646, 647, 648, 649] (by decide +kernel) (by decide +kernel)
set_option maxRecDepth 20000 in
theorem gL_law_X3_waits : GoodIn wsL_law (wsV RL 99 RX3 yX3_waits wsX3_waits) := goodIn_app (goodIn_of _ (by decide +kernel)) ggL_law_X3_waits
set_option maxRecDepth 20000 in
theorem ggL_law_X2_trouble : GoodIn wsL_law wsX2_trouble := goodIn_r _ [620, 25, 625, 626, 627, 628, 629, 630, 631] (by decide +kernel) (by decide +kernel)
set_option maxRecDepth 20000 in
theorem gL_law_X2_trouble : GoodIn wsL_law (wsV RL 100 RX2 yX2_trouble wsX2_trouble) := goodIn_app (goodIn_of _ (by decide +kernel)) ggL_law_X2_trouble
set_option maxRecDepth 20000 in
theorem ggL_law_X3_trouble : GoodIn wsL_law wsX3_trouble := goodIn_r _ [624, 166, 167, 632, 633, 634, 635, 636, 637, 638, 639, 640, 641, 642, 643, 644, 645, 646, 647, 648, 649] (by decide +kernel) (by decide +kernel)
set_option maxRecDepth 20000 in
theorem gL_law_X3_trouble : GoodIn wsL_law (wsV RL 103 RX3 yX3_trouble wsX3_trouble) := goodIn_app (goodIn_of _ (by decide +kernel)) ggL_law_X3_trouble
