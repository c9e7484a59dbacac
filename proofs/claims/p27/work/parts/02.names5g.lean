set_option maxRecDepth 20000 in
theorem ggS_L_same_r13 : GoodIn wsL_law wsL_same_r13 := goodIn_r _ [74, 459, 460, 461, 462, 463, 464, 465, 466, 467, 468, 469, 470, 471, 472, 473, 474, 475, 476, 477, 478, 479, 480, 481] (by decide +kernel) (by decide +kernel)
set_option maxRecDepth 20000 in
theorem ggS_L_same_r14 : GoodIn wsL_law wsL_same_r14 := goodIn_r _ [482, 483, 484, 485, 486, 487, 488, 489, 490, 491, 492, 493, 494, 495, 496, 497, 214, 498, 215, 499, 500, 501, 502, 503] (by decide +kernel) (by decide +kernel)
set_option maxRecDepth 20000 in
theorem ggS_L_same_r15 : GoodIn wsL_law wsL_same_r15 := goodIn_r _ [504, 505, 506, 507, 508, 509, 510, 511, 512, 513, 514, 515, 516, 517, 518, 519, 520, 521, 522, 523, 524, 525, 526, 527] (by decide +kernel) (by decide +kernel)
set_option maxRecDepth 20000 in
theorem ggS_L_same_r16 : GoodIn wsL_law wsL_same_r16 := goodIn_r _ [528, 529, 530, 204, 176, 23, 531, 112, 532, 533, 534, 535, 536, 537, 538, 539, 540, 541, 542, 543, 544, 545, 546, 547] (by decide +kernel) (by decide +kernel)
set_option maxRecDepth 20000 in
theorem ggS_L_same_r17 : GoodIn wsL_law wsL_same_r17 := goodIn_r _ [548, 549, 550, 551, 552, 553, 554, 555, 556, 557, 558, 559, 560, 561, 562] (by decide +kernel) (by decide +kernel)
set_option maxRecDepth 20000 in
theorem ggS_X30 : GoodIn wsL_law wsX30 := goodIn_r _ [563, 564, 565, 566, 567, 568, 569, 570] (by decide +kernel) (by decide +kernel)
set_option maxRecDepth 20000 in
theorem ggS_X10 : GoodIn wsL_law wsX10 := goodIn_r _ [585, 586, 587] (by decide +kernel) (by decide +kernel)
set_option maxRecDepth 20000 in
theorem ggS_X20 : GoodIn wsL_law wsX20 := goodIn_r _ [571, 572, 573, 574, 575, 576, 577] (by decide +kernel) (by decide +kernel)
set_option maxRecDepth 20000 in
theorem ggS_J40 : GoodIn wsL_law wsJ40 := goodIn_r _ [588, 589, 590, 591] (by decide +kernel) (by decide +kernel)
set_option maxRecDepth 20000 in
theorem ggS_X00 : GoodIn wsL_law wsX00 := goodIn_r _ [578, 579, 580, 581, 582, 583, 584] (by decide +kernel) (by decide +kernel)
theorem ggL_law_L_same : GoodIn wsL_law wsL_same := (goodIn_app ggS_h (goodIn_app (goodIn_app (goodIn_app (goodIn_app (goodIn_app (goodIn_app ggS_L_same_r1 (goodIn_app ggS_L_same_r2 (goodIn_app ggS_L_same_r3 (goodIn_app ggS_L_same_r4 (goodIn_app ggS_L_same_r5 (goodIn_app ggS_L_same_r6 (goodIn_app ggS_L_same_r7 (goodIn_app ggS_L_same_r8 (goodIn_app ggS_L_same_r9 (goodIn_app ggS_L_same_r10 (goodIn_app ggS_L_same_r11 (goodIn_app ggS_L_same_r12 (goodIn_app ggS_L_same_r13 (goodIn_app ggS_L_same_r14 (goodIn_app ggS_L_same_r15 (goodIn_app ggS_L_same_r16 ggS_L_same_r17)))))))))))))))) ggS_X30) ggS_X10) ggS_X20) ggS_J40) ggS_X00) : GoodIn wsL_law ([.code yL_same cL_same 20 (some .boolean)] ++ ((wsL_same_r1 ++ (wsL_same_r2 ++ (wsL_same_r3 ++ (wsL_same_r4 ++ (wsL_same_r5 ++ (wsL_same_r6 ++ (wsL_same_r7 ++ (wsL_same_r8 ++ (wsL_same_r9 ++ (wsL_same_r10 ++ (wsL_same_r11 ++ (wsL_same_r12 ++ (wsL_same_r13 ++ (wsL_same_r14 ++ (wsL_same_r15 ++ (wsL_same_r16 ++ wsL_same_r17)))))))))))))))) ++ wsX30 ++ wsX10 ++ wsX20 ++ wsJ40 ++ wsX00)))
set_option maxRecDepth 20000 in
theorem gL_law_L_same : GoodIn wsL_law (va_wsS RL 119 yL_same wsL_same) := goodIn_app (goodIn_of _ (by decide +kernel)) ggL_law_L_same
