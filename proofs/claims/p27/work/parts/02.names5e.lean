theorem ggS_h : GoodIn wsL_law [.code yL_same cL_same 20 (some .boolean)] := goodIn_sub (fun w hw => by rw [List.mem_singleton.mp hw]; exact List.mem_append_left _ (List.mem_append_left _ (List.mem_append_left _ (List.mem_append_left _ (List.mem_append_left _ (List.mem_append_left _ (List.mem_append_right _ (List.mem_append_right _ (List.mem_append_right _ (List.mem_append_right _ (List.mem_append_right _ (List.mem_append_right _ (List.mem_append_right _ (List.mem_append_right _ (List.mem_append_right _ (List.mem_append_right _ (List.mem_append_right _ (List.mem_append_left _ (show _ ∈ wsL_law_r12 from List.Mem.tail _ (List.Mem.tail _ (List.Mem.tail _ (List.Mem.tail _ (List.Mem.tail _ (List.Mem.tail _ (List.Mem.tail _ (List.Mem.head _)))))))))))))))))))))))))) (by decide +kernel)
set_option maxRecDepth 20000 in
theorem ggS_L_same_r1 : GoodIn wsL_law wsL_same_r1 := goodIn_r _ [168, 161, 162, 77, 163, 164, 272, 273, 274, 2, 275, 15, 276, 277, 278, 279, 280, 281, 282, 14, 283, 40, 41, 100] (by decide +kernel) (by decide +kernel)
set_option maxRecDepth 20000 in
theorem ggS_L_same_r2 : GoodIn wsL_law wsL_same_r2 := goodIn_r _ [93, 94, 95, 38, 284, 216, 217, 218, 125, 285, 286, 287, 288, 289, 290, 291, 292, 126, 293, 294, 295, 26, 296, 132] (by decide +kernel) (by decide +kernel)
set_option maxRecDepth 20000 in
theorem ggS_L_same_r3 : GoodIn wsL_law wsL_same_r3 := goodIn_r _ [133, 248, 249, 250, 297, 298, 299, 300, 234, 235, 236, 237, 47, 301, 302, 303, 304, 222, 223, 224, 225, 226, 227, 228] (by decide +kernel) (by decide +kernel)
set_option maxRecDepth 20000 in
theorem ggS_L_same_r4 : GoodIn wsL_law wsL_same_r4 := goodIn_r _ [229, 230, 231, 232, 233, 85, 86, 87, 251, 252, 253, 254, 255, 256, 305, 306, 307, 308, 213, 32, 33, 92, 101, 102] (by decide +kernel) (by decide +kernel)
set_option maxRecDepth 20000 in
theorem ggS_L_same_r5 : GoodIn wsL_law wsL_same_r5 := goodIn_r _ [103, 104, 105, 106, 107, 309, 186, 187, 188, 154, 155, 156, 157, 189, 190, 191, 310, 311, 312, 313, 314, 315, 316, 317] (by decide +kernel) (by decide +kernel)
set_option maxRecDepth 20000 in
theorem ggS_L_same_r6 : GoodIn wsL_law wsL_same_r6 := goodIn_r _ [318, 319, 320, 321, 322, 238, 239, 240, 241, 242, 243, 244, 245, 246, 247, 323, 324, 325, 326, 31, 327, 328, 329, 30] (by decide +kernel) (by decide +kernel)
