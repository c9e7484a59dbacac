set_option maxRecDepth 20000 in
theorem ggS_L_same_r7 : GoodIn wsL_law wsL_same_r7 := goodIn_r _ [330, 331, 332, 333, 334, 60, 335, 336, 65, 337, 338, 339, 340, 341, 342, 66, 343, 344, 345, 346, 347, 348, 349, 350] (by decide +kernel) (by decide +kernel)
set_option maxRecDepth 20000 in
theorem ggS_L_same_r8 : GoodIn wsL_law wsL_same_r8 := goodIn_r _ [351, 352, 353, 354, 355, 356, 357, 358, 359, 360, 361, 362, 363, 364, 365, 366, 367, 64, 368, 369, 370, 371, 122, 123] (by decide +kernel) (by decide +kernel)
set_option maxRecDepth 20000 in
theorem ggS_L_same_r9 : GoodIn wsL_law wsL_same_r9 := goodIn_r _ [124, 372, 373, 374, 375, 376, 63, 377, 378, 379, 380, 381, 382, 383, 384, 385, 386, 387, 388, 69, 389, 390, 391, 392] (by decide +kernel) (by decide +kernel)
set_option maxRecDepth 20000 in
theorem ggS_L_same_r10 : GoodIn wsL_law wsL_same_r10 := goodIn_r _ [393, 394, 395, 396, 397, 398, 399, 400, 401, 402, 403, 404, 405, 406, 407, 408, 409, 410, 411, 412, 413, 414, 415, 416] (by decide +kernel) (by decide +kernel)
set_option maxRecDepth 20000 in
theorem ggS_L_same_r11 : GoodIn wsL_law wsL_same_r11 := goodIn_r _ [417, 418, 419, 420, 421, 422, 423, 424, 425, 426, 427, 428, 429, 430, 431, 432, 433, 434, 435, 436, 437, 438, 439, 440] (by decide +kernel) (by decide +kernel)
set_option maxRecDepth 20000 in
theorem ggS_L_same_r12 : GoodIn wsL_law wsL_same_r12 := goodIn_r _ [441, 442, 443, 444, 445, 446, 447, 448, 449, 450, 451, 452, 453, 454, 455, 456, 457, 458, 67, 68, 70, 71, 72, 73] (by decide +kernel) (by decide +kernel)
