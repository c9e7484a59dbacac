set_option maxRecDepth 20000 in
theorem ggL_law_X3_receive : GoodIn wsL_law wsX3_receive := goodIn_r _ [260, 15, 176, 213, 214, 92, 93, 94, 14, 95, 38, 215, 216, 217, 218, 125, 108, 109, 110, 2, 111, 112, 16, 113, 114, 115, 116, 117, 118, 119, 120, 121, 122, 123, 124, 40, 42, 41, 43, 126, 127, 128, 129, 26, 130, 47, 131, 132, 133, 220, 151, 152, 153, 154, 155, 156, 157, 177, 178, 179, 180, 181, 182, 183, 184, 185, 186, 187, 188, 189, 190, 191, 192, 193, 194, 195, 196, 197, 198, 199, 563, 564, 565, 566, 567, 568, 569, 570, 571, 572, 573, 574, 575, 576, 577, 585, 586, 587] (by decide +kernel) (by decide +kernel)
set_option maxRecDepth 20000 in
theorem gL_law_X3_receive : GoodIn wsL_law (wsV RL 113 RX3 yX3_receive wsX3_receive) := goodIn_app (goodIn_of _ (by decide +kernel)) ggL_law_X3_receive
set_option maxRecDepth 20000 in
theorem ggL_law_X3_drop : GoodIn wsL_law wsX3_drop := goodIn_r _ [264, 15, 204, 215, 216, 217, 14, 218, 125, 108, 109, 110, 2, 111, 112, 16, 113, 114, 115, 116, 117, 118, 119, 120, 38, 121, 122, 123, 124, 40, 42, 41, 43, 126, 127, 128, 129, 26, 130, 47, 131, 132, 133, 265, 266, 267, 268, 563, 564, 565, 566, 567, 568, 569, 570, 571, 572, 573, 574, 575, 576, 577, 585, 586, 587] (by decide +kernel) (by decide +kernel)
set_option maxRecDepth 20000 in
theorem gL_law_X3_drop : GoodIn wsL_law (wsV RL 116 RX3 yX3_drop wsX3_drop) := goodIn_app (goodIn_of _ (by decide +kernel)) ggL_law_X3_drop
