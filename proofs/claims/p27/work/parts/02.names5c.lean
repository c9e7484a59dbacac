set_option maxRecDepth 20000 in
theorem ggL_law_X3_ifReceive : GoodIn wsL_law wsX3_ifReceive := goodIn_r _ [212, 15, 213, 214, 27, 32, 92, 93, 94, 14, 95, 38, 215, 216, 217, 218, 125, 219, 128, 129, 26, 130, 47, 131, 122, 123, 124, 132, 133, 220, 151, 152, 153, 154, 155, 156, 157, 221, 182, 183, 184, 185, 186, 187, 188, 189, 190, 191, 192, 193, 194, 195, 222, 223, 224, 225, 226, 227, 228, 229, 230, 231, 232, 233, 234, 235, 236, 237, 238, 239, 240, 241, 242, 243, 244, 245, 246, 247, 563, 564, 565, 566, 567, 568, 569, 570, 571, 572, 573, 574, 575, 576, 577, 585, 586, 587] (by decide +kernel) (by decide +kernel)
set_option maxRecDepth 20000 in
theorem gL_law_X3_ifReceive : GoodIn wsL_law (wsV RL 110 RX3 yX3_ifReceive wsX3_ifReceive) := goodIn_app (goodIn_of _ (by decide +kernel)) ggL_law_X3_ifReceive
set_option maxRecDepth 20000 in
theorem ggL_law_L_order : GoodIn wsL_law wsL_order := goodIn_r _ [250, 161, 162, 77, 163, 164] (by decide +kernel) (by decide +kernel)
set_option maxRecDepth 20000 in
theorem gL_law_L_order : GoodIn wsL_law (va_wsS RL 44 yL_order wsL_order) := goodIn_app (goodIn_of _ (by decide +kernel)) ggL_law_L_order
set_option maxRecDepth 20000 in
theorem ggL_law_L_knots : GoodIn wsL_law wsL_knots := goodIn_r _ [253, 254, 255, 77, 256, 161, 162, 163, 164] (by decide +kernel) (by decide +kernel)
set_option maxRecDepth 20000 in
theorem gL_law_L_knots : GoodIn wsL_law (va_wsS RL 57 yL_knots wsL_knots) := goodIn_app (goodIn_of _ (by decide +kernel)) ggL_law_L_knots
