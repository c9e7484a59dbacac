set_option maxRecDepth 20000 in
theorem ggL_law_X3_event : GoodIn wsL_law wsX3_event := goodIn_r _ [175, 15, 176, 92, 93, 94, 14, 95, 38, 108, 109, 110, 2, 111, 112, 16, 113, 114, 115, 116, 117, 118, 119, 120, 121, 122, 123, 124, 40, 42, 41, 125, 43, 126, 127, 128, 129, 26, 130, 47, 131, 132, 133, 177, 178, 179, 180, 181, 182, 183, 184, 185, 186, 187, 188, 154, 155, 156, 157, 189, 190, 191, 192, 193, 194, 195, 196, 197, 198, 199, 563, 564, 565, 566, 567, 568, 569, 570, 571, 572, 573, 574, 575, 576, 577, 585, 586, 587] (by decide +kernel) (by decide +kernel)
set_option maxRecDepth 20000 in
theorem gL_law_X3_event : GoodIn wsL_law (wsV RL 104 RX3 yX3_event wsX3_event) := goodIn_app (goodIn_of _ (by decide +kernel)) ggL_law_X3_event
set_option maxRecDepth 20000 in
theorem ggL_law_X3_send : GoodIn wsL_law wsX3_send := goodIn_r _ [203, 15, 204, 92, 93, 94, 14, 95, 38, 108, 109, 110, 2, 111, 112, 16, 113, 114, 115, 116, 117, 118, 119, 120, 121, 122, 123, 124, 40, 42, 41, 125, 43, 126, 127, 128, 129, 26, 130, 47, 131, 132, 133, 205, 206, 207, 208, 563, 564, 565, 566, 567, 568, 569, 570, 571, 572, 573, 574, 575, 576, 577, 585, 586, 587] (by decide +kernel) (by decide +kernel)
set_option maxRecDepth 20000 in
theorem gL_law_X3_send : GoodIn wsL_law (wsV RL 107 RX3 yX3_send wsX3_send) := goodIn_app (goodIn_of _ (by decide +kernel)) ggL_law_X3_send
