theorem dL_text_0 : decode cL_text 0 = .ok (.iconst 0, 1) := by decide +kernel
theorem dL_text_1 : decode cL_text 1 = .ok (.istore_n 3, 1) := by decide +kernel
theorem dL_text_2 : decode cL_text 2 = .ok (.iconst 0, 1) := by decide +kernel
theorem dL_text_3 : decode cL_text 3 = .ok (.istore 4, 2) := by decide +kernel
theorem dL_text_5 : decode cL_text 5 = .ok (.iconst 0, 1) := by decide +kernel
theorem dL_text_6 : decode cL_text 6 = .ok (.istore 5, 2) := by decide +kernel
theorem dL_text_8 : decode cL_text 8 = .ok (.iload 5, 2) := by decide +kernel
theorem dL_text_10 : decode cL_text 10 = .ok (.bipush 16, 2) := by decide +kernel
theorem dL_text_12 : decode cL_text 12 = .ok (.if_icmp .ge 274, 3) := by decide +kernel
theorem dL_text_15 : decode cL_text 15 = .ok (.bipush 16, 2) := by decide +kernel
theorem dL_text_17 : decode cL_text 17 = .ok (.istore 6, 2) := by decide +kernel
theorem dL_text_19 : decode cL_text 19 = .ok (.iload 5, 2) := by decide +kernel
theorem dL_text_21 : decode cL_text 21 = .ok (.iload 6, 2) := by decide +kernel
theorem dL_text_23 : decode cL_text 23 = .ok (.irem, 1) := by decide +kernel
theorem dL_text_24 : decode cL_text 24 = .ok (.ifCond .eq 12, 3) := by decide +kernel
theorem dL_text_27 : decode cL_text 27 = .ok (.iload 6, 2) := by decide +kernel
theorem dL_text_29 : decode cL_text 29 = .ok (.iconst 2, 1) := by decide +kernel
theorem dL_text_30 : decode cL_text 30 = .ok (.idiv, 1) := by decide +kernel
theorem dL_text_31 : decode cL_text 31 = .ok (.istore 6, 2) := by decide +kernel
theorem dL_text_33 : decode cL_text 33 = .ok (.goto (-14), 3) := by decide +kernel
theorem dL_text_36 : decode cL_text 36 = .ok (.iload 6, 2) := by decide +kernel
theorem dL_text_38 : decode cL_text 38 = .ok (.istore 7, 2) := by decide +kernel
theorem dL_text_40 : decode cL_text 40 = .ok (.iload_n 1, 1) := by decide +kernel
theorem dL_text_41 : decode cL_text 41 = .ok (.iload 5, 2) := by decide +kernel
theorem dL_text_43 : decode cL_text 43 = .ok (.iload 7, 2) := by decide +kernel
theorem dL_text_45 : decode cL_text 45 = .ok (.aload_n 2, 1) := by decide +kernel
theorem dL_text_46 : decode cL_text 46 = .ok (.invokestatic 24, 3) := by decide +kernel
theorem dL_text_49 : decode cL_text 49 = .ok (.ifCond .ne 12, 3) := by decide +kernel
theorem dL_text_52 : decode cL_text 52 = .ok (.iload 7, 2) := by decide +kernel
theorem dL_text_54 : decode cL_text 54 = .ok (.iconst 2, 1) := by decide +kernel
theorem dL_text_55 : decode cL_text 55 = .ok (.idiv, 1) := by decide +kernel
theorem dL_text_56 : decode cL_text 56 = .ok (.istore 7, 2) := by decide +kernel
theorem dL_text_58 : decode cL_text 58 = .ok (.goto (-18), 3) := by decide +kernel
theorem dL_text_61 : decode cL_text 61 = .ok (.iload 5, 2) := by decide +kernel
theorem dL_text_63 : decode cL_text 63 = .ok (.ifCond .le 23, 3) := by decide +kernel
theorem dL_text_66 : decode cL_text 66 = .ok (.iload 6, 2) := by decide +kernel
theorem dL_text_68 : decode cL_text 68 = .ok (.bipush 16, 2) := by decide +kernel
theorem dL_text_70 : decode cL_text 70 = .ok (.if_icmp .ge 16, 3) := by decide +kernel
theorem dL_text_73 : decode cL_text 73 = .ok (.iload_n 1, 1) := by decide +kernel
theorem dL_text_74 : decode cL_text 74 = .ok (.iload 5, 2) := by decide +kernel
theorem dL_text_76 : decode cL_text 76 = .ok (.aload_n 2, 1) := by decide +kernel
theorem dL_text_77 : decode cL_text 77 = .ok (.invokestatic 28, 3) := by decide +kernel
theorem dL_text_80 : decode cL_text 80 = .ok (.ifCond .eq 6, 3) := by decide +kernel
theorem dL_text_83 : decode cL_text 83 = .ok (.goto 197, 3) := by decide +kernel
theorem dL_text_86 : decode cL_text 86 = .ok (.iload 6, 2) := by decide +kernel
theorem dL_text_88 : decode cL_text 88 = .ok (.istore 8, 2) := by decide +kernel
theorem dL_text_90 : decode cL_text 90 = .ok (.iload 8, 2) := by decide +kernel
theorem dL_text_92 : decode cL_text 92 = .ok (.iload 7, 2) := by decide +kernel
theorem dL_text_94 : decode cL_text 94 = .ok (.if_icmp .le 31, 3) := by decide +kernel
theorem dL_text_97 : decode cL_text 97 = .ok (.aload_n 0, 1) := by decide +kernel
theorem dL_text_98 : decode cL_text 98 = .ok (.iload_n 1, 1) := by decide +kernel
theorem dL_text_99 : decode cL_text 99 = .ok (.iload_n 3, 1) := by decide +kernel
theorem dL_text_100 : decode cL_text 100 = .ok (.iinc 3 1, 3) := by decide +kernel
theorem dL_text_103 : decode cL_text 103 = .ok (.invokevirtual 32, 3) := by decide +kernel
theorem dL_text_106 : decode cL_text 106 = .ok (.bipush 40, 2) := by decide +kernel
theorem dL_text_108 : decode cL_text 108 = .ok (.if_icmp .eq 5, 3) := by decide +kernel
theorem dL_text_111 : decode cL_text 111 = .ok (.iconst (-1), 1) := by decide +kernel
theorem dL_text_112 : decode cL_text 112 = .ok (.ireturn, 1) := by decide +kernel
theorem dL_text_113 : decode cL_text 113 = .ok (.iinc 4 1, 3) := by decide +kernel
theorem dL_text_116 : decode cL_text 116 = .ok (.iload 8, 2) := by decide +kernel
theorem dL_text_118 : decode cL_text 118 = .ok (.iconst 2, 1) := by decide +kernel
theorem dL_text_119 : decode cL_text 119 = .ok (.idiv, 1) := by decide +kernel
theorem dL_text_120 : decode cL_text 120 = .ok (.istore 8, 2) := by decide +kernel
theorem dL_text_122 : decode cL_text 122 = .ok (.goto (-32), 3) := by decide +kernel
theorem dL_text_125 : decode cL_text 125 = .ok (.iload_n 1, 1) := by decide +kernel
theorem dL_text_126 : decode cL_text 126 = .ok (.iload 5, 2) := by decide +kernel
theorem dL_text_128 : decode cL_text 128 = .ok (.aload_n 2, 1) := by decide +kernel
theorem dL_text_129 : decode cL_text 129 = .ok (.invokestatic 14, 3) := by decide +kernel
theorem dL_text_132 : decode cL_text 132 = .ok (.istore 8, 2) := by decide +kernel
theorem dL_text_134 : decode cL_text 134 = .ok (.iload 8, 2) := by decide +kernel
theorem dL_text_136 : decode cL_text 136 = .ok (.bipush 99, 2) := by decide +kernel
theorem dL_text_138 : decode cL_text 138 = .ok (.if_icmp .le 8, 3) := by decide +kernel
theorem dL_text_141 : decode cL_text 141 = .ok (.bipush 100, 2) := by decide +kernel
theorem dL_text_143 : decode cL_text 143 = .ok (.goto 16, 3) := by decide +kernel
theorem dL_text_146 : decode cL_text 146 = .ok (.iload 8, 2) := by decide +kernel
theorem dL_text_148 : decode cL_text 148 = .ok (.bipush 9, 2) := by decide +kernel
theorem dL_text_150 : decode cL_text 150 = .ok (.if_icmp .le 8, 3) := by decide +kernel
theorem dL_text_153 : decode cL_text 153 = .ok (.bipush 10, 2) := by decide +kernel
theorem dL_text_155 : decode cL_text 155 = .ok (.goto 4, 3) := by decide +kernel
theorem dL_text_158 : decode cL_text 158 = .ok (.iconst 1, 1) := by decide +kernel
theorem dL_text_159 : decode cL_text 159 = .ok (.istore 9, 2) := by decide +kernel
theorem dL_text_161 : decode cL_text 161 = .ok (.iload 9, 2) := by decide +kernel
theorem dL_text_163 : decode cL_text 163 = .ok (.ifCond .le 38, 3) := by decide +kernel
theorem dL_text_166 : decode cL_text 166 = .ok (.aload_n 0, 1) := by decide +kernel
theorem dL_text_167 : decode cL_text 167 = .ok (.iload_n 1, 1) := by decide +kernel
theorem dL_text_168 : decode cL_text 168 = .ok (.iload_n 3, 1) := by decide +kernel
theorem dL_text_169 : decode cL_text 169 = .ok (.iinc 3 1, 3) := by decide +kernel
theorem dL_text_172 : decode cL_text 172 = .ok (.invokevirtual 32, 3) := by decide +kernel
theorem dL_text_175 : decode cL_text 175 = .ok (.bipush 48, 2) := by decide +kernel
theorem dL_text_177 : decode cL_text 177 = .ok (.iload 8, 2) := by decide +kernel
theorem dL_text_179 : decode cL_text 179 = .ok (.iload 9, 2) := by decide +kernel
theorem dL_text_181 : decode cL_text 181 = .ok (.idiv, 1) := by decide +kernel
theorem dL_text_182 : decode cL_text 182 = .ok (.bipush 10, 2) := by decide +kernel
theorem dL_text_184 : decode cL_text 184 = .ok (.irem, 1) := by decide +kernel
theorem dL_text_185 : decode cL_text 185 = .ok (.iadd, 1) := by decide +kernel
theorem dL_text_186 : decode cL_text 186 = .ok (.if_icmp .eq 5, 3) := by decide +kernel
theorem dL_text_189 : decode cL_text 189 = .ok (.iconst (-1), 1) := by decide +kernel
theorem dL_text_190 : decode cL_text 190 = .ok (.ireturn, 1) := by decide +kernel
theorem dL_text_191 : decode cL_text 191 = .ok (.iload 9, 2) := by decide +kernel
theorem dL_text_193 : decode cL_text 193 = .ok (.bipush 10, 2) := by decide +kernel
theorem dL_text_195 : decode cL_text 195 = .ok (.idiv, 1) := by decide +kernel
theorem dL_text_196 : decode cL_text 196 = .ok (.istore 9, 2) := by decide +kernel
theorem dL_text_198 : decode cL_text 198 = .ok (.goto (-37), 3) := by decide +kernel
theorem dL_text_201 : decode cL_text 201 = .ok (.iload 5, 2) := by decide +kernel
theorem dL_text_203 : decode cL_text 203 = .ok (.iload 7, 2) := by decide +kernel
theorem dL_text_205 : decode cL_text 205 = .ok (.iadd, 1) := by decide +kernel
theorem dL_text_206 : decode cL_text 206 = .ok (.istore 9, 2) := by decide +kernel
theorem dL_text_208 : decode cL_text 208 = .ok (.iconst 2, 1) := by decide +kernel
theorem dL_text_209 : decode cL_text 209 = .ok (.iload 7, 2) := by decide +kernel
theorem dL_text_211 : decode cL_text 211 = .ok (.imul, 1) := by decide +kernel
theorem dL_text_212 : decode cL_text 212 = .ok (.istore 10, 2) := by decide +kernel
theorem dL_text_214 : decode cL_text 214 = .ok (.iload 10, 2) := by decide +kernel
theorem dL_text_216 : decode cL_text 216 = .ok (.bipush 16, 2) := by decide +kernel
theorem dL_text_218 : decode cL_text 218 = .ok (.if_icmp .gt 39, 3) := by decide +kernel
theorem dL_text_221 : decode cL_text 221 = .ok (.iload 9, 2) := by decide +kernel
theorem dL_text_223 : decode cL_text 223 = .ok (.iload 10, 2) := by decide +kernel
theorem dL_text_225 : decode cL_text 225 = .ok (.irem, 1) := by decide +kernel
theorem dL_text_226 : decode cL_text 226 = .ok (.ifCond .ne 31, 3) := by decide +kernel
theorem dL_text_229 : decode cL_text 229 = .ok (.aload_n 0, 1) := by decide +kernel
theorem dL_text_230 : decode cL_text 230 = .ok (.iload_n 1, 1) := by decide +kernel
theorem dL_text_231 : decode cL_text 231 = .ok (.iload_n 3, 1) := by decide +kernel
theorem dL_text_232 : decode cL_text 232 = .ok (.iinc 3 1, 3) := by decide +kernel
theorem dL_text_235 : decode cL_text 235 = .ok (.invokevirtual 32, 3) := by decide +kernel
theorem dL_text_238 : decode cL_text 238 = .ok (.bipush 41, 2) := by decide +kernel
theorem dL_text_240 : decode cL_text 240 = .ok (.if_icmp .eq 5, 3) := by decide +kernel
theorem dL_text_243 : decode cL_text 243 = .ok (.iconst (-1), 1) := by decide +kernel
theorem dL_text_244 : decode cL_text 244 = .ok (.ireturn, 1) := by decide +kernel
theorem dL_text_245 : decode cL_text 245 = .ok (.iinc 4 (-1), 3) := by decide +kernel
theorem dL_text_248 : decode cL_text 248 = .ok (.iload 10, 2) := by decide +kernel
theorem dL_text_250 : decode cL_text 250 = .ok (.iconst 2, 1) := by decide +kernel
theorem dL_text_251 : decode cL_text 251 = .ok (.imul, 1) := by decide +kernel
theorem dL_text_252 : decode cL_text 252 = .ok (.istore 10, 2) := by decide +kernel
theorem dL_text_254 : decode cL_text 254 = .ok (.goto (-40), 3) := by decide +kernel
theorem dL_text_257 : decode cL_text 257 = .ok (.iload 9, 2) := by decide +kernel
theorem dL_text_259 : decode cL_text 259 = .ok (.bipush 16, 2) := by decide +kernel
theorem dL_text_261 : decode cL_text 261 = .ok (.if_icmp .ge 19, 3) := by decide +kernel
theorem dL_text_264 : decode cL_text 264 = .ok (.aload_n 0, 1) := by decide +kernel
theorem dL_text_265 : decode cL_text 265 = .ok (.iload_n 1, 1) := by decide +kernel
theorem dL_text_266 : decode cL_text 266 = .ok (.iload_n 3, 1) := by decide +kernel
theorem dL_text_267 : decode cL_text 267 = .ok (.iinc 3 1, 3) := by decide +kernel
theorem dL_text_270 : decode cL_text 270 = .ok (.invokevirtual 32, 3) := by decide +kernel
theorem dL_text_273 : decode cL_text 273 = .ok (.bipush 44, 2) := by decide +kernel
theorem dL_text_275 : decode cL_text 275 = .ok (.if_icmp .eq 5, 3) := by decide +kernel
theorem dL_text_278 : decode cL_text 278 = .ok (.iconst (-1), 1) := by decide +kernel
theorem dL_text_279 : decode cL_text 279 = .ok (.ireturn, 1) := by decide +kernel
theorem dL_text_280 : decode cL_text 280 = .ok (.iinc 5 1, 3) := by decide +kernel
theorem dL_text_283 : decode cL_text 283 = .ok (.goto (-275), 3) := by decide +kernel
theorem dL_text_286 : decode cL_text 286 = .ok (.iload 4, 2) := by decide +kernel
theorem dL_text_288 : decode cL_text 288 = .ok (.ifCond .ne 17, 3) := by decide +kernel
theorem dL_text_291 : decode cL_text 291 = .ok (.aload_n 0, 1) := by decide +kernel
theorem dL_text_292 : decode cL_text 292 = .ok (.iload_n 1, 1) := by decide +kernel
theorem dL_text_293 : decode cL_text 293 = .ok (.iload_n 3, 1) := by decide +kernel
theorem dL_text_294 : decode cL_text 294 = .ok (.invokevirtual 32, 3) := by decide +kernel
theorem dL_text_297 : decode cL_text 297 = .ok (.iconst (-1), 1) := by decide +kernel
theorem dL_text_298 : decode cL_text 298 = .ok (.if_icmp .ne 7, 3) := by decide +kernel
theorem dL_text_301 : decode cL_text 301 = .ok (.iload_n 3, 1) := by decide +kernel
theorem dL_text_302 : decode cL_text 302 = .ok (.goto 4, 3) := by decide +kernel
theorem dL_text_305 : decode cL_text 305 = .ok (.iconst (-1), 1) := by decide +kernel
theorem dL_text_306 : decode cL_text 306 = .ok (.ireturn, 1) := by decide +kernel
set_option maxRecDepth 20000 in
theorem ggL_inside_L_alike : GoodIn wsL_inside wsL_alike := goodIn_r _ [4, 5, 6, 3, 7, 8] (by decide +kernel) (by decide +kernel)
set_option maxRecDepth 20000 in
theorem gL_inside_L_alike : GoodIn wsL_inside (va_wsS RL 24 yL_alike wsL_alike) := goodIn_app (goodIn_of _ (by decide +kernel)) ggL_inside_L_alike
theorem dL_inside_0 : decode cL_inside 0 = .ok (.iconst 2, 1) := by decide +kernel
theorem dL_inside_1 : decode cL_inside 1 = .ok (.istore_n 3, 1) := by decide +kernel
theorem dL_inside_2 : decode cL_inside 2 = .ok (.iload_n 3, 1) := by decide +kernel
theorem dL_inside_3 : decode cL_inside 3 = .ok (.bipush 17, 2) := by decide +kernel
theorem dL_inside_5 : decode cL_inside 5 = .ok (.if_icmp .ge 32, 3) := by decide +kernel
theorem dL_inside_8 : decode cL_inside 8 = .ok (.iload_n 1, 1) := by decide +kernel
theorem dL_inside_9 : decode cL_inside 9 = .ok (.iload_n 3, 1) := by decide +kernel
theorem dL_inside_10 : decode cL_inside 10 = .ok (.irem, 1) := by decide +kernel
theorem dL_inside_11 : decode cL_inside 11 = .ok (.ifCond .eq 19, 3) := by decide +kernel
theorem dL_inside_14 : decode cL_inside 14 = .ok (.iload_n 0, 1) := by decide +kernel
theorem dL_inside_15 : decode cL_inside 15 = .ok (.iload_n 1, 1) := by decide +kernel
theorem dL_inside_16 : decode cL_inside 16 = .ok (.iload_n 1, 1) := by decide +kernel
theorem dL_inside_17 : decode cL_inside 17 = .ok (.iload_n 3, 1) := by decide +kernel
theorem dL_inside_18 : decode cL_inside 18 = .ok (.irem, 1) := by decide +kernel
theorem dL_inside_19 : decode cL_inside 19 = .ok (.isub, 1) := by decide +kernel
theorem dL_inside_20 : decode cL_inside 20 = .ok (.iload_n 3, 1) := by decide +kernel
theorem dL_inside_21 : decode cL_inside 21 = .ok (.aload_n 2, 1) := by decide +kernel
theorem dL_inside_22 : decode cL_inside 22 = .ok (.invokestatic 24, 3) := by decide +kernel
theorem dL_inside_25 : decode cL_inside 25 = .ok (.ifCond .eq 5, 3) := by decide +kernel
theorem dL_inside_28 : decode cL_inside 28 = .ok (.iconst 1, 1) := by decide +kernel
theorem dL_inside_29 : decode cL_inside 29 = .ok (.ireturn, 1) := by decide +kernel
theorem dL_inside_30 : decode cL_inside 30 = .ok (.iload_n 3, 1) := by decide +kernel
theorem dL_inside_31 : decode cL_inside 31 = .ok (.iconst 2, 1) := by decide +kernel
theorem dL_inside_32 : decode cL_inside 32 = .ok (.imul, 1) := by decide +kernel
theorem dL_inside_33 : decode cL_inside 33 = .ok (.istore_n 3, 1) := by decide +kernel
theorem dL_inside_34 : decode cL_inside 34 = .ok (.goto (-32), 3) := by decide +kernel
theorem dL_inside_37 : decode cL_inside 37 = .ok (.iconst 0, 1) := by decide +kernel
theorem dL_inside_38 : decode cL_inside 38 = .ok (.ireturn, 1) := by decide +kernel
set_option maxRecDepth 20000 in
theorem ggL_same_L_height : GoodIn wsL_same wsL_height := goodIn_r _ [5, 6] (by decide +kernel) (by decide +kernel)
set_option maxRecDepth 20000 in
theorem gL_same_L_height : GoodIn wsL_same (va_wsS RL 14 yL_height wsL_height) := goodIn_app (goodIn_of _ (by decide +kernel)) ggL_same_L_height
set_option maxRecDepth 20000 in
theorem ggL_same_X3_height : GoodIn wsL_same wsX3_height := goodIn_r _ [11, 12, 13, 14, 15, 10, 16, 17, 18, 19, 20, 21, 22, 23, 24, 25, 26, 27, 28, 29, 30, 31, 32, 33, 400, 401, 402, 403, 404, 405, 406, 407, 408, 409, 410, 411, 412, 413, 414, 415, 416, 417] (by decide +kernel) (by decide +kernel)
set_option maxRecDepth 20000 in
theorem gL_same_X3_height : GoodIn wsL_same (wsV RL 38 RX3 yX3_height wsX3_height) := goodIn_app (goodIn_of _ (by decide +kernel)) ggL_same_X3_height
set_option maxRecDepth 20000 in
theorem ggL_same_X3_knows : GoodIn wsL_same wsX3_knows := goodIn_r _ [37, 12, 14, 15, 10, 16, 17, 18, 19, 20, 21, 22, 23, 24, 25, 26, 27, 28, 29, 30, 31, 32, 33, 38, 39, 40, 41, 42, 43, 44, 45, 46, 47, 48, 49, 400, 401, 402, 403, 404, 405, 406, 407, 411, 412, 413, 414, 415, 416, 417, 408, 409, 410] (by decide +kernel) (by decide +kernel)
set_option maxRecDepth 20000 in
theorem gL_same_X3_knows : GoodIn wsL_same (wsV RL 41 RX3 yX3_knows wsX3_knows) := goodIn_app (goodIn_of _ (by decide +kernel)) ggL_same_X3_knows
set_option maxRecDepth 20000 in
theorem ggL_same_L_order : GoodIn wsL_same wsL_order := goodIn_r _ [52, 2, 3, 4, 5, 6] (by decide +kernel) (by decide +kernel)
set_option maxRecDepth 20000 in
theorem gL_same_L_order : GoodIn wsL_same (va_wsS RL 44 yL_order wsL_order) := goodIn_app (goodIn_of _ (by decide +kernel)) ggL_same_L_order
set_option maxRecDepth 20000 in
theorem ggL_same_X3_order : GoodIn wsL_same wsX3_order := goodIn_r _ [56, 12, 14, 15, 10, 16, 17, 18, 19, 20, 21, 22, 23, 24, 25, 26, 27, 28, 29, 30, 31, 32, 33, 57, 58, 59, 46, 60, 61, 400, 401, 402, 403, 404, 405, 406, 407, 411, 412, 413, 414, 415, 416, 417, 408, 409, 410] (by decide +kernel) (by decide +kernel)
set_option maxRecDepth 20000 in
theorem gL_same_X3_order : GoodIn wsL_same (wsV RL 47 RX3 yX3_order wsX3_order) := goodIn_app (goodIn_of _ (by decide +kernel)) ggL_same_X3_order
set_option maxRecDepth 20000 in
theorem ggL_same_X3_more : GoodIn wsL_same wsX3_more := goodIn_r _ [65, 12, 14, 15, 10, 16, 17, 18, 19, 20, 21, 22, 23, 24, 25, 26, 27, 28, 29, 30, 31, 32, 33, 66, 67, 68, 46, 69, 48, 70, 49, 71, 72, 73, 74, 75, 76, 77, 400, 401, 402, 403, 404, 405, 406, 407, 411, 412, 413, 414, 415, 416, 417, 408, 409, 410] (by decide +kernel) (by decide +kernel)
set_option maxRecDepth 20000 in
theorem gL_same_X3_more : GoodIn wsL_same (wsV RL 50 RX3 yX3_more wsX3_more) := goodIn_app (goodIn_of _ (by decide +kernel)) ggL_same_X3_more
set_option maxRecDepth 20000 in
theorem ggL_same_L_bits : GoodIn wsL_same wsL_bits := goodIn_r _ [80] (by decide +kernel) (by decide +kernel)
set_option maxRecDepth 20000 in
theorem gL_same_L_bits : GoodIn wsL_same (va_wsS RL 53 yL_bits wsL_bits) := goodIn_app (goodIn_of _ (by decide +kernel)) ggL_same_L_bits
set_option maxRecDepth 20000 in
theorem ggL_same_L_knots : GoodIn wsL_same wsL_knots := goodIn_r _ [83, 84, 85, 4, 86, 2, 3, 5, 6] (by decide +kernel) (by decide +kernel)
set_option maxRecDepth 20000 in
theorem gL_same_L_knots : GoodIn wsL_same (va_wsS RL 57 yL_knots wsL_knots) := goodIn_app (goodIn_of _ (by decide +kernel)) ggL_same_L_knots
set_option maxRecDepth 20000 in
theorem ggL_same_X3_of : GoodIn wsL_same wsX3_of := goodIn_r _ [90, 12, 91, 92, 93, 94, 25, 26, 20, 27, 28, 95, 96, 97, 98, 99, 100, 101, 102, 103, 104, 46, 105, 61, 106, 107, 108, 109, 110, 111, 112, 113, 114, 115, 116, 117, 118, 119, 120, 48, 49, 71, 72, 73, 74, 75, 76, 77, 121, 122, 123, 124, 125, 44, 45, 47, 126, 127, 128, 129, 130, 131, 132, 133, 134, 135, 136, 137, 138, 10, 139, 140, 141, 142, 143, 144, 145, 146, 147, 148, 149, 150, 151, 152, 153, 154, 155, 156, 157, 158, 159, 160, 161, 162, 163, 164, 165, 166, 167, 168, 169, 170, 171, 172, 173, 174, 175, 176, 177, 178, 179, 180, 181, 182, 183, 184, 185, 186, 187, 188, 189, 190, 191, 192, 193, 194, 195, 196, 197, 198, 199, 200, 201, 202, 203, 204, 205, 206, 207, 208, 209, 210, 211, 212, 213, 214, 215, 216, 217, 218, 219, 220, 221, 222, 223, 224, 225, 226, 227, 228, 229, 230, 231, 232, 233, 234, 235, 236, 237, 238, 239, 240, 241, 242, 243, 244, 245, 246, 247, 248, 249, 250, 251, 252, 253, 254, 255, 256, 257, 258, 259, 260, 261, 262, 263, 264, 265, 266, 267, 268, 269, 270, 271, 272, 273, 274, 275, 276, 277, 278, 279, 280, 281, 282, 283, 284, 285, 286, 287, 288, 289, 290, 291, 292, 293, 294, 295, 296, 297, 298, 299, 300, 301, 302, 303, 304, 305, 306, 307, 308, 309, 310, 311, 312, 313, 314, 315, 316, 317, 318, 319, 320, 321, 322, 323, 324, 400, 401, 402, 403, 404, 405, 406, 407, 411, 412, 413, 414, 415, 416, 417, 408, 409, 410, 418, 419, 420, 421] (by decide +kernel) (by decide +kernel)
set_option maxRecDepth 20000 in
theorem gL_same_X3_of : GoodIn wsL_same (wsV RL 61 RX3 yX3_of wsX3_of) := goodIn_app (goodIn_of _ (by decide +kernel)) ggL_same_X3_of
set_option maxRecDepth 20000 in
theorem ggL_same_X3_ofMessage : GoodIn wsL_same wsX3_ofMessage := goodIn_r _ [328, 12, 329, 330, 331, 30, 31, 20, 32, 33, 113, 114, 115, 46, 116, 61, 117, 118, 119, 120, 48, 49, 71, 72, 73, 74, 75, 76, 77, 126, 127, 128, 129, 130, 131, 132, 133, 134, 135, 400, 401, 402, 403, 404, 405, 406, 407, 411, 412, 413, 414, 415, 416, 417, 408, 409, 410] (by decide +kernel) (by decide +kernel)
set_option maxRecDepth 20000 in
theorem gL_same_X3_ofMessage : GoodIn wsL_same (wsV RL 64 RX3 yX3_ofMessage wsX3_ofMessage) := goodIn_app (goodIn_of _ (by decide +kernel)) ggL_same_X3_ofMessage
set_option maxRecDepth 20000 in
theorem ggL_same_X3_whose : GoodIn wsL_same wsX3_whose := goodIn_r _ [335, 12, 336, 38, 39, 40, 20, 41, 42, 400, 401, 402, 403, 404, 405, 406, 407, 411, 412, 413, 414, 415, 416, 417] (by decide +kernel) (by decide +kernel)
set_option maxRecDepth 20000 in
theorem gL_same_X3_whose : GoodIn wsL_same (wsV RL 67 RX3 yX3_whose wsX3_whose) := goodIn_app (goodIn_of _ (by decide +kernel)) ggL_same_X3_whose
set_option maxRecDepth 20000 in
theorem ggL_same_L_text : GoodIn wsL_same wsL_text := goodIn_r _ [339, 84, 85, 4, 86, 2, 3, 5, 6, 340, 341, 342, 343, 344, 345, 10, 346, 12, 91, 94, 25, 26, 20, 27, 28, 136, 137, 138, 139, 140, 141, 142, 143, 144, 145, 146, 147, 148, 149, 150, 151, 152, 153, 154, 155, 156, 157, 158, 159, 160, 161, 162, 163, 164, 165, 166, 167, 168, 169, 170, 171, 107, 108, 109, 172, 173, 174, 175, 176, 177, 178, 179, 180, 181, 182, 183, 184, 185, 186, 187, 188, 189, 190, 191, 192, 193, 194, 195, 196, 197, 198, 199, 200, 201, 202, 203, 204, 205, 206, 207, 208, 209, 210, 211, 212, 213, 214, 215, 216, 217, 46, 218, 61, 219, 220, 221, 133, 134, 135, 222, 223, 224, 225, 226, 227, 228, 229, 230, 231, 97, 232, 233, 234, 235, 236, 237, 238, 239, 240, 241, 242, 243, 244, 245, 246, 247, 248, 249, 250, 251, 252, 253, 254, 255, 256, 257, 258, 259, 260, 261, 262, 263, 264, 265, 266, 267, 268, 269, 270, 271, 272, 273, 274, 275, 276, 277, 278, 279, 280, 281, 282, 283, 284, 285, 286, 287, 288, 289, 290, 291, 292, 293, 294, 295, 296, 297, 298, 299, 300, 301, 302, 303, 304, 305, 306, 307, 308, 309, 310, 311, 312, 313, 314, 315, 316, 317, 318, 319, 320, 321, 322, 323, 324, 347, 348, 349, 350, 351, 352, 353, 354, 355, 356, 357, 358, 359, 400, 401, 402, 403, 404, 405, 406, 407, 411, 412, 413, 414, 415, 416, 417, 418, 419, 420, 421, 408, 409, 410] (by decide +kernel) (by decide +kernel)
set_option maxRecDepth 20000 in
theorem gL_same_L_text : GoodIn wsL_same (va_wsS RL 71 yL_text wsL_text) := goodIn_app (goodIn_of _ (by decide +kernel)) ggL_same_L_text
set_option maxRecDepth 20000 in
theorem ggL_same_X3_count : GoodIn wsL_same wsX3_count := goodIn_r _ [363, 12, 364, 365, 366, 367, 368, 369, 370, 371, 20, 372, 24, 25, 26, 27, 28, 373, 374, 375, 376, 22, 377, 58, 59, 46, 60, 61, 378, 379, 380, 381, 382, 127, 128, 129, 130, 131, 132, 133, 134, 135, 383, 384, 385, 386, 387, 388, 389, 390, 400, 401, 402, 403, 404, 405, 406, 407, 411, 412, 413, 414, 415, 416, 417, 422, 423, 424, 425, 426, 427, 428, 408, 409, 410] (by decide +kernel) (by decide +kernel)
set_option maxRecDepth 20000 in
theorem gL_same_X3_count : GoodIn wsL_same (wsV RL 75 RX3 yX3_count wsX3_count) := goodIn_app (goodIn_of _ (by decide +kernel)) ggL_same_X3_count
set_option maxRecDepth 20000 in
theorem ggL_same_X3_laggard : GoodIn wsL_same wsX3_laggard := goodIn_r _ [394, 12, 365, 91, 395, 396, 397, 20, 398, 22, 24, 25, 26, 27, 28, 399, 118, 119, 46, 120, 48, 49, 71, 72, 73, 74, 75, 76, 77, 117, 400, 401, 402, 403, 404, 405, 406, 407, 411, 412, 413, 414, 415, 416, 417, 408, 409, 410] (by decide +kernel) (by decide +kernel)
set_option maxRecDepth 20000 in
theorem gL_same_X3_laggard : GoodIn wsL_same (wsV RL 78 RX3 yX3_laggard wsX3_laggard) := goodIn_app (goodIn_of _ (by decide +kernel)) ggL_same_X3_laggard
theorem dL_same_0 : decode cL_same 0 = .ok (.iconst 0, 1) := by decide +kernel
theorem dL_same_1 : decode cL_same 1 = .ok (.istore 7, 2) := by decide +kernel
theorem dL_same_3 : decode cL_same 3 = .ok (.iconst 0, 1) := by decide +kernel
theorem dL_same_4 : decode cL_same 4 = .ok (.istore 8, 2) := by decide +kernel
theorem dL_same_6 : decode cL_same 6 = .ok (.iconst 0, 1) := by decide +kernel
theorem dL_same_7 : decode cL_same 7 = .ok (.istore 9, 2) := by decide +kernel
theorem dL_same_9 : decode cL_same 9 = .ok (.bipush (-6), 2) := by decide +kernel
theorem dL_same_11 : decode cL_same 11 = .ok (.istore 10, 2) := by decide +kernel
theorem dL_same_13 : decode cL_same 13 = .ok (.bipush (-6), 2) := by decide +kernel
theorem dL_same_15 : decode cL_same 15 = .ok (.istore 11, 2) := by decide +kernel
theorem dL_same_17 : decode cL_same 17 = .ok (.sipush 999, 3) := by decide +kernel
theorem dL_same_20 : decode cL_same 20 = .ok (.istore 12, 2) := by decide +kernel
theorem dL_same_22 : decode cL_same 22 = .ok (.iconst 0, 1) := by decide +kernel
theorem dL_same_23 : decode cL_same 23 = .ok (.istore 13, 2) := by decide +kernel
theorem dL_same_25 : decode cL_same 25 = .ok (.iload 13, 2) := by decide +kernel
theorem dL_same_27 : decode cL_same 27 = .ok (.bipush 8, 2) := by decide +kernel
theorem dL_same_29 : decode cL_same 29 = .ok (.if_icmp .ge 542, 3) := by decide +kernel
theorem dL_same_32 : decode cL_same 32 = .ok (.aload_n 2, 1) := by decide +kernel
theorem dL_same_33 : decode cL_same 33 = .ok (.iload 13, 2) := by decide +kernel
theorem dL_same_35 : decode cL_same 35 = .ok (.iaload, 1) := by decide +kernel
theorem dL_same_36 : decode cL_same 36 = .ok (.ifCond .ne 6, 3) := by decide +kernel
theorem dL_same_39 : decode cL_same 39 = .ok (.goto 526, 3) := by decide +kernel
theorem dL_same_42 : decode cL_same 42 = .ok (.iload 7, 2) := by decide +kernel
theorem dL_same_44 : decode cL_same 44 = .ok (.iconst 1, 1) := by decide +kernel
theorem dL_same_45 : decode cL_same 45 = .ok (.iload 13, 2) := by decide +kernel
theorem dL_same_47 : decode cL_same 47 = .ok (.ishl, 1) := by decide +kernel
theorem dL_same_48 : decode cL_same 48 = .ok (.ior, 1) := by decide +kernel
theorem dL_same_49 : decode cL_same 49 = .ok (.istore 7, 2) := by decide +kernel
theorem dL_same_51 : decode cL_same 51 = .ok (.iconst 0, 1) := by decide +kernel
theorem dL_same_52 : decode cL_same 52 = .ok (.istore 14, 2) := by decide +kernel
theorem dL_same_54 : decode cL_same 54 = .ok (.iconst 0, 1) := by decide +kernel
theorem dL_same_55 : decode cL_same 55 = .ok (.istore 15, 2) := by decide +kernel
theorem dL_same_57 : decode cL_same 57 = .ok (.bipush (-6), 2) := by decide +kernel
theorem dL_same_59 : decode cL_same 59 = .ok (.istore 16, 2) := by decide +kernel
theorem dL_same_61 : decode cL_same 61 = .ok (.iconst 1, 1) := by decide +kernel
theorem dL_same_62 : decode cL_same 62 = .ok (.istore 17, 2) := by decide +kernel
theorem dL_same_64 : decode cL_same 64 = .ok (.iconst 0, 1) := by decide +kernel
theorem dL_same_65 : decode cL_same 65 = .ok (.istore 18, 2) := by decide +kernel
theorem dL_same_67 : decode cL_same 67 = .ok (.iload 18, 2) := by decide +kernel
theorem dL_same_69 : decode cL_same 69 = .ok (.bipush 16, 2) := by decide +kernel
theorem dL_same_71 : decode cL_same 71 = .ok (.if_icmp .ge 58, 3) := by decide +kernel
theorem dL_same_74 : decode cL_same 74 = .ok (.iload 13, 2) := by decide +kernel
theorem dL_same_76 : decode cL_same 76 = .ok (.iload 18, 2) := by decide +kernel
theorem dL_same_78 : decode cL_same 78 = .ok (.aload_n 3, 1) := by decide +kernel
theorem dL_same_79 : decode cL_same 79 = .ok (.invokestatic 14, 3) := by decide +kernel
theorem dL_same_82 : decode cL_same 82 = .ok (.istore 19, 2) := by decide +kernel
theorem dL_same_84 : decode cL_same 84 = .ok (.iload 14, 2) := by decide +kernel
theorem dL_same_86 : decode cL_same 86 = .ok (.iload 19, 2) := by decide +kernel
theorem dL_same_88 : decode cL_same 88 = .ok (.iadd, 1) := by decide +kernel
theorem dL_same_89 : decode cL_same 89 = .ok (.istore 14, 2) := by decide +kernel
theorem dL_same_91 : decode cL_same 91 = .ok (.iload 19, 2) := by decide +kernel
theorem dL_same_93 : decode cL_same 93 = .ok (.iload 15, 2) := by decide +kernel
theorem dL_same_95 : decode cL_same 95 = .ok (.if_icmp .le 8, 3) := by decide +kernel
theorem dL_same_98 : decode cL_same 98 = .ok (.iload 19, 2) := by decide +kernel
theorem dL_same_100 : decode cL_same 100 = .ok (.goto 5, 3) := by decide +kernel
theorem dL_same_103 : decode cL_same 103 = .ok (.iload 15, 2) := by decide +kernel
theorem dL_same_105 : decode cL_same 105 = .ok (.istore 15, 2) := by decide +kernel
theorem dL_same_107 : decode cL_same 107 = .ok (.aload_n 0, 1) := by decide +kernel
theorem dL_same_108 : decode cL_same 108 = .ok (.iconst 0, 1) := by decide +kernel
theorem dL_same_109 : decode cL_same 109 = .ok (.iload 13, 2) := by decide +kernel
theorem dL_same_111 : decode cL_same 111 = .ok (.iload 18, 2) := by decide +kernel
theorem dL_same_113 : decode cL_same 113 = .ok (.invokevirtual 38, 3) := by decide +kernel
theorem dL_same_116 : decode cL_same 116 = .ok (.iload 19, 2) := by decide +kernel
theorem dL_same_118 : decode cL_same 118 = .ok (.if_icmp .eq 5, 3) := by decide +kernel
theorem dL_same_121 : decode cL_same 121 = .ok (.iconst 0, 1) := by decide +kernel
theorem dL_same_122 : decode cL_same 122 = .ok (.ireturn, 1) := by decide +kernel
theorem dL_same_123 : decode cL_same 123 = .ok (.iinc 18 1, 3) := by decide +kernel
theorem dL_same_126 : decode cL_same 126 = .ok (.goto (-59), 3) := by decide +kernel
theorem dL_same_129 : decode cL_same 129 = .ok (.iconst 0, 1) := by decide +kernel
theorem dL_same_130 : decode cL_same 130 = .ok (.istore 18, 2) := by decide +kernel
theorem dL_same_132 : decode cL_same 132 = .ok (.iload 18, 2) := by decide +kernel
theorem dL_same_134 : decode cL_same 134 = .ok (.aload 5, 2) := by decide +kernel
theorem dL_same_136 : decode cL_same 136 = .ok (.iconst 1, 1) := by decide +kernel
theorem dL_same_137 : decode cL_same 137 = .ok (.iaload, 1) := by decide +kernel
theorem dL_same_138 : decode cL_same 138 = .ok (.if_icmp .ge 58, 3) := by decide +kernel
theorem dL_same_141 : decode cL_same 141 = .ok (.aload_n 0, 1) := by decide +kernel
theorem dL_same_142 : decode cL_same 142 = .ok (.iconst 0, 1) := by decide +kernel
theorem dL_same_143 : decode cL_same 143 = .ok (.iload 13, 2) := by decide +kernel
theorem dL_same_145 : decode cL_same 145 = .ok (.iload 18, 2) := by decide +kernel
theorem dL_same_147 : decode cL_same 147 = .ok (.invokevirtual 41, 3) := by decide +kernel
theorem dL_same_150 : decode cL_same 150 = .ok (.aload 4, 2) := by decide +kernel
theorem dL_same_152 : decode cL_same 152 = .ok (.iload 13, 2) := by decide +kernel
theorem dL_same_154 : decode cL_same 154 = .ok (.laload, 1) := by decide +kernel
theorem dL_same_155 : decode cL_same 155 = .ok (.iload 18, 2) := by decide +kernel
theorem dL_same_157 : decode cL_same 157 = .ok (.lushr, 1) := by decide +kernel
theorem dL_same_158 : decode cL_same 158 = .ok (.lconst 1, 1) := by decide +kernel
theorem dL_same_159 : decode cL_same 159 = .ok (.land, 1) := by decide +kernel
theorem dL_same_160 : decode cL_same 160 = .ok (.l2i, 1) := by decide +kernel
theorem dL_same_161 : decode cL_same 161 = .ok (.if_icmp .eq 5, 3) := by decide +kernel
theorem dL_same_164 : decode cL_same 164 = .ok (.iconst 0, 1) := by decide +kernel
theorem dL_same_165 : decode cL_same 165 = .ok (.ireturn, 1) := by decide +kernel
theorem dL_same_166 : decode cL_same 166 = .ok (.aload 4, 2) := by decide +kernel
theorem dL_same_168 : decode cL_same 168 = .ok (.iload 13, 2) := by decide +kernel
theorem dL_same_170 : decode cL_same 170 = .ok (.laload, 1) := by decide +kernel
theorem dL_same_171 : decode cL_same 171 = .ok (.iload 18, 2) := by decide +kernel
theorem dL_same_173 : decode cL_same 173 = .ok (.lushr, 1) := by decide +kernel
theorem dL_same_174 : decode cL_same 174 = .ok (.lconst 1, 1) := by decide +kernel
theorem dL_same_175 : decode cL_same 175 = .ok (.land, 1) := by decide +kernel
theorem dL_same_176 : decode cL_same 176 = .ok (.lconst 1, 1) := by decide +kernel
theorem dL_same_177 : decode cL_same 177 = .ok (.lcmp, 1) := by decide +kernel
theorem dL_same_178 : decode cL_same 178 = .ok (.ifCond .ne 8, 3) := by decide +kernel
theorem dL_same_181 : decode cL_same 181 = .ok (.iload 18, 2) := by decide +kernel
theorem dL_same_183 : decode cL_same 183 = .ok (.goto 5, 3) := by decide +kernel
theorem dL_same_186 : decode cL_same 186 = .ok (.iload 16, 2) := by decide +kernel
theorem dL_same_188 : decode cL_same 188 = .ok (.istore 16, 2) := by decide +kernel
theorem dL_same_190 : decode cL_same 190 = .ok (.iinc 18 1, 3) := by decide +kernel
theorem dL_same_193 : decode cL_same 193 = .ok (.goto (-61), 3) := by decide +kernel
theorem dL_same_196 : decode cL_same 196 = .ok (.iconst 0, 1) := by decide +kernel
theorem dL_same_197 : decode cL_same 197 = .ok (.istore 18, 2) := by decide +kernel
theorem dL_same_199 : decode cL_same 199 = .ok (.iload 18, 2) := by decide +kernel
theorem dL_same_201 : decode cL_same 201 = .ok (.bipush 8, 2) := by decide +kernel
theorem dL_same_203 : decode cL_same 203 = .ok (.if_icmp .ge 130, 3) := by decide +kernel
theorem dL_same_206 : decode cL_same 206 = .ok (.aload_n 2, 1) := by decide +kernel
theorem dL_same_207 : decode cL_same 207 = .ok (.iload 18, 2) := by decide +kernel
theorem dL_same_209 : decode cL_same 209 = .ok (.iaload, 1) := by decide +kernel
theorem dL_same_210 : decode cL_same 210 = .ok (.ifCond .eq 117, 3) := by decide +kernel
theorem dL_same_213 : decode cL_same 213 = .ok (.iload 18, 2) := by decide +kernel
theorem dL_same_215 : decode cL_same 215 = .ok (.iload 13, 2) := by decide +kernel
theorem dL_same_217 : decode cL_same 217 = .ok (.if_icmp .ne 6, 3) := by decide +kernel
theorem dL_same_220 : decode cL_same 220 = .ok (.goto 107, 3) := by decide +kernel
theorem dL_same_223 : decode cL_same 223 = .ok (.iload 13, 2) := by decide +kernel
theorem dL_same_225 : decode cL_same 225 = .ok (.iload 18, 2) := by decide +kernel
theorem dL_same_227 : decode cL_same 227 = .ok (.aload_n 3, 1) := by decide +kernel
theorem dL_same_228 : decode cL_same 228 = .ok (.invokestatic 44, 3) := by decide +kernel
theorem dL_same_231 : decode cL_same 231 = .ok (.istore 19, 2) := by decide +kernel
theorem dL_same_233 : decode cL_same 233 = .ok (.iload 8, 2) := by decide +kernel
theorem dL_same_235 : decode cL_same 235 = .ok (.iload 18, 2) := by decide +kernel
theorem dL_same_237 : decode cL_same 237 = .ok (.iload 13, 2) := by decide +kernel
theorem dL_same_239 : decode cL_same 239 = .ok (.if_icmp .le 13, 3) := by decide +kernel
theorem dL_same_242 : decode cL_same 242 = .ok (.iload 19, 2) := by decide +kernel
theorem dL_same_244 : decode cL_same 244 = .ok (.iconst 3, 1) := by decide +kernel
theorem dL_same_245 : decode cL_same 245 = .ok (.if_icmp .ne 7, 3) := by decide +kernel
theorem dL_same_248 : decode cL_same 248 = .ok (.iconst 1, 1) := by decide +kernel
theorem dL_same_249 : decode cL_same 249 = .ok (.goto 4, 3) := by decide +kernel
theorem dL_same_252 : decode cL_same 252 = .ok (.iconst 0, 1) := by decide +kernel
theorem dL_same_253 : decode cL_same 253 = .ok (.iadd, 1) := by decide +kernel
theorem dL_same_254 : decode cL_same 254 = .ok (.istore 8, 2) := by decide +kernel
theorem dL_same_256 : decode cL_same 256 = .ok (.iload 17, 2) := by decide +kernel
theorem dL_same_258 : decode cL_same 258 = .ok (.ifCond .eq 18, 3) := by decide +kernel
theorem dL_same_261 : decode cL_same 261 = .ok (.iload 19, 2) := by decide +kernel
theorem dL_same_263 : decode cL_same 263 = .ok (.ifCond .eq 9, 3) := by decide +kernel
theorem dL_same_266 : decode cL_same 266 = .ok (.iload 19, 2) := by decide +kernel
theorem dL_same_268 : decode cL_same 268 = .ok (.iconst 2, 1) := by decide +kernel
theorem dL_same_269 : decode cL_same 269 = .ok (.if_icmp .ne 7, 3) := by decide +kernel
theorem dL_same_272 : decode cL_same 272 = .ok (.iconst 1, 1) := by decide +kernel
theorem dL_same_273 : decode cL_same 273 = .ok (.goto 4, 3) := by decide +kernel
theorem dL_same_276 : decode cL_same 276 = .ok (.iconst 0, 1) := by decide +kernel
theorem dL_same_277 : decode cL_same 277 = .ok (.istore 17, 2) := by decide +kernel
theorem dL_same_279 : decode cL_same 279 = .ok (.aload_n 0, 1) := by decide +kernel
theorem dL_same_280 : decode cL_same 280 = .ok (.iconst 0, 1) := by decide +kernel
theorem dL_same_281 : decode cL_same 281 = .ok (.iload 13, 2) := by decide +kernel
theorem dL_same_283 : decode cL_same 283 = .ok (.iconst 0, 1) := by decide +kernel
theorem dL_same_284 : decode cL_same 284 = .ok (.iload 18, 2) := by decide +kernel
theorem dL_same_286 : decode cL_same 286 = .ok (.invokevirtual 47, 3) := by decide +kernel
theorem dL_same_289 : decode cL_same 289 = .ok (.iload 19, 2) := by decide +kernel
theorem dL_same_291 : decode cL_same 291 = .ok (.if_icmp .ne 34, 3) := by decide +kernel
theorem dL_same_294 : decode cL_same 294 = .ok (.aload_n 0, 1) := by decide +kernel
theorem dL_same_295 : decode cL_same 295 = .ok (.iconst 0, 1) := by decide +kernel
theorem dL_same_296 : decode cL_same 296 = .ok (.iload 13, 2) := by decide +kernel
theorem dL_same_298 : decode cL_same 298 = .ok (.iconst 0, 1) := by decide +kernel
theorem dL_same_299 : decode cL_same 299 = .ok (.iload 18, 2) := by decide +kernel
theorem dL_same_301 : decode cL_same 301 = .ok (.invokevirtual 50, 3) := by decide +kernel
theorem dL_same_304 : decode cL_same 304 = .ok (.aload 4, 2) := by decide +kernel
theorem dL_same_306 : decode cL_same 306 = .ok (.iload 13, 2) := by decide +kernel
theorem dL_same_308 : decode cL_same 308 = .ok (.laload, 1) := by decide +kernel
theorem dL_same_309 : decode cL_same 309 = .ok (.aload 4, 2) := by decide +kernel
theorem dL_same_311 : decode cL_same 311 = .ok (.iload 18, 2) := by decide +kernel
theorem dL_same_313 : decode cL_same 313 = .ok (.laload, 1) := by decide +kernel
theorem dL_same_314 : decode cL_same 314 = .ok (.ldc2_w 12, 3) := by decide +kernel
theorem dL_same_317 : decode cL_same 317 = .ok (.lxor, 1) := by decide +kernel
theorem dL_same_318 : decode cL_same 318 = .ok (.land, 1) := by decide +kernel
theorem dL_same_319 : decode cL_same 319 = .ok (.invokestatic 53, 3) := by decide +kernel
theorem dL_same_322 : decode cL_same 322 = .ok (.if_icmp .eq 5, 3) := by decide +kernel
theorem dL_same_325 : decode cL_same 325 = .ok (.iconst 0, 1) := by decide +kernel
theorem dL_same_326 : decode cL_same 326 = .ok (.ireturn, 1) := by decide +kernel
theorem dL_same_327 : decode cL_same 327 = .ok (.iinc 18 1, 3) := by decide +kernel
theorem dL_same_330 : decode cL_same 330 = .ok (.goto (-131), 3) := by decide +kernel
theorem dL_same_333 : decode cL_same 333 = .ok (.iconst 0, 1) := by decide +kernel
theorem dL_same_334 : decode cL_same 334 = .ok (.istore 18, 2) := by decide +kernel
theorem dL_same_336 : decode cL_same 336 = .ok (.iload 18, 2) := by decide +kernel
theorem dL_same_338 : decode cL_same 338 = .ok (.aload 5, 2) := by decide +kernel
theorem dL_same_340 : decode cL_same 340 = .ok (.iconst 0, 1) := by decide +kernel
theorem dL_same_341 : decode cL_same 341 = .ok (.iaload, 1) := by decide +kernel
theorem dL_same_342 : decode cL_same 342 = .ok (.if_icmp .ge 69, 3) := by decide +kernel
theorem dL_same_345 : decode cL_same 345 = .ok (.aload_n 0, 1) := by decide +kernel
theorem dL_same_346 : decode cL_same 346 = .ok (.iconst 0, 1) := by decide +kernel
theorem dL_same_347 : decode cL_same 347 = .ok (.iload 13, 2) := by decide +kernel
theorem dL_same_349 : decode cL_same 349 = .ok (.iconst 1, 1) := by decide +kernel
theorem dL_same_350 : decode cL_same 350 = .ok (.iload 18, 2) := by decide +kernel
theorem dL_same_352 : decode cL_same 352 = .ok (.invokevirtual 47, 3) := by decide +kernel
theorem dL_same_355 : decode cL_same 355 = .ok (.iload 13, 2) := by decide +kernel
theorem dL_same_357 : decode cL_same 357 = .ok (.bipush 8, 2) := by decide +kernel
theorem dL_same_359 : decode cL_same 359 = .ok (.iload 18, 2) := by decide +kernel
theorem dL_same_361 : decode cL_same 361 = .ok (.iadd, 1) := by decide +kernel
theorem dL_same_362 : decode cL_same 362 = .ok (.aload_n 3, 1) := by decide +kernel
theorem dL_same_363 : decode cL_same 363 = .ok (.invokestatic 44, 3) := by decide +kernel
theorem dL_same_366 : decode cL_same 366 = .ok (.if_icmp .ne 37, 3) := by decide +kernel
theorem dL_same_369 : decode cL_same 369 = .ok (.aload_n 0, 1) := by decide +kernel
theorem dL_same_370 : decode cL_same 370 = .ok (.iconst 1, 1) := by decide +kernel
theorem dL_same_371 : decode cL_same 371 = .ok (.iload 18, 2) := by decide +kernel
theorem dL_same_373 : decode cL_same 373 = .ok (.iconst 0, 1) := by decide +kernel
theorem dL_same_374 : decode cL_same 374 = .ok (.iload 13, 2) := by decide +kernel
theorem dL_same_376 : decode cL_same 376 = .ok (.invokevirtual 50, 3) := by decide +kernel
theorem dL_same_379 : decode cL_same 379 = .ok (.aload 4, 2) := by decide +kernel
theorem dL_same_381 : decode cL_same 381 = .ok (.bipush 8, 2) := by decide +kernel
theorem dL_same_383 : decode cL_same 383 = .ok (.iload 18, 2) := by decide +kernel
theorem dL_same_385 : decode cL_same 385 = .ok (.iadd, 1) := by decide +kernel
theorem dL_same_386 : decode cL_same 386 = .ok (.laload, 1) := by decide +kernel
theorem dL_same_387 : decode cL_same 387 = .ok (.aload 4, 2) := by decide +kernel
theorem dL_same_389 : decode cL_same 389 = .ok (.iload 13, 2) := by decide +kernel
theorem dL_same_391 : decode cL_same 391 = .ok (.laload, 1) := by decide +kernel
theorem dL_same_392 : decode cL_same 392 = .ok (.ldc2_w 12, 3) := by decide +kernel
theorem dL_same_395 : decode cL_same 395 = .ok (.lxor, 1) := by decide +kernel
theorem dL_same_396 : decode cL_same 396 = .ok (.land, 1) := by decide +kernel
theorem dL_same_397 : decode cL_same 397 = .ok (.invokestatic 53, 3) := by decide +kernel
theorem dL_same_400 : decode cL_same 400 = .ok (.if_icmp .eq 5, 3) := by decide +kernel
theorem dL_same_403 : decode cL_same 403 = .ok (.iconst 0, 1) := by decide +kernel
theorem dL_same_404 : decode cL_same 404 = .ok (.ireturn, 1) := by decide +kernel
theorem dL_same_405 : decode cL_same 405 = .ok (.iinc 18 1, 3) := by decide +kernel
theorem dL_same_408 : decode cL_same 408 = .ok (.goto (-72), 3) := by decide +kernel
theorem dL_same_411 : decode cL_same 411 = .ok (.aload 4, 2) := by decide +kernel
theorem dL_same_413 : decode cL_same 413 = .ok (.iload 13, 2) := by decide +kernel
theorem dL_same_415 : decode cL_same 415 = .ok (.laload, 1) := by decide +kernel
theorem dL_same_416 : decode cL_same 416 = .ok (.invokestatic 53, 3) := by decide +kernel
theorem dL_same_419 : decode cL_same 419 = .ok (.istore 18, 2) := by decide +kernel
theorem dL_same_421 : decode cL_same 421 = .ok (.iload 18, 2) := by decide +kernel
theorem dL_same_423 : decode cL_same 423 = .ok (.iload 12, 2) := by decide +kernel
theorem dL_same_425 : decode cL_same 425 = .ok (.if_icmp .ge 11, 3) := by decide +kernel
theorem dL_same_428 : decode cL_same 428 = .ok (.iload 18, 2) := by decide +kernel
theorem dL_same_430 : decode cL_same 430 = .ok (.istore 12, 2) := by decide +kernel
theorem dL_same_432 : decode cL_same 432 = .ok (.iload 13, 2) := by decide +kernel
theorem dL_same_434 : decode cL_same 434 = .ok (.istore 11, 2) := by decide +kernel
theorem dL_same_436 : decode cL_same 436 = .ok (.iload 10, 2) := by decide +kernel
theorem dL_same_438 : decode cL_same 438 = .ok (.ifCond .ge 13, 3) := by decide +kernel
theorem dL_same_441 : decode cL_same 441 = .ok (.iload 17, 2) := by decide +kernel
theorem dL_same_443 : decode cL_same 443 = .ok (.ifCond .eq 8, 3) := by decide +kernel
theorem dL_same_446 : decode cL_same 446 = .ok (.iload 13, 2) := by decide +kernel
theorem dL_same_448 : decode cL_same 448 = .ok (.goto 5, 3) := by decide +kernel
theorem dL_same_451 : decode cL_same 451 = .ok (.iload 10, 2) := by decide +kernel
theorem dL_same_453 : decode cL_same 453 = .ok (.istore 10, 2) := by decide +kernel
theorem dL_same_455 : decode cL_same 455 = .ok (.iload 9, 2) := by decide +kernel
theorem dL_same_457 : decode cL_same 457 = .ok (.iload 13, 2) := by decide +kernel
theorem dL_same_459 : decode cL_same 459 = .ok (.aload_n 3, 1) := by decide +kernel
theorem dL_same_460 : decode cL_same 460 = .ok (.invokestatic 57, 3) := by decide +kernel
theorem dL_same_463 : decode cL_same 463 = .ok (.iadd, 1) := by decide +kernel
theorem dL_same_464 : decode cL_same 464 = .ok (.istore 9, 2) := by decide +kernel
theorem dL_same_466 : decode cL_same 466 = .ok (.aload_n 0, 1) := by decide +kernel
theorem dL_same_467 : decode cL_same 467 = .ok (.iload 13, 2) := by decide +kernel
theorem dL_same_469 : decode cL_same 469 = .ok (.iconst 0, 1) := by decide +kernel
theorem dL_same_470 : decode cL_same 470 = .ok (.invokevirtual 61, 3) := by decide +kernel
theorem dL_same_473 : decode cL_same 473 = .ok (.aload_n 2, 1) := by decide +kernel
theorem dL_same_474 : decode cL_same 474 = .ok (.iload 13, 2) := by decide +kernel
theorem dL_same_476 : decode cL_same 476 = .ok (.iaload, 1) := by decide +kernel
theorem dL_same_477 : decode cL_same 477 = .ok (.if_icmp .ne 86, 3) := by decide +kernel
theorem dL_same_480 : decode cL_same 480 = .ok (.aload_n 0, 1) := by decide +kernel
theorem dL_same_481 : decode cL_same 481 = .ok (.iload 13, 2) := by decide +kernel
theorem dL_same_483 : decode cL_same 483 = .ok (.iconst 1, 1) := by decide +kernel
theorem dL_same_484 : decode cL_same 484 = .ok (.invokevirtual 61, 3) := by decide +kernel
theorem dL_same_487 : decode cL_same 487 = .ok (.aload_n 2, 1) := by decide +kernel
theorem dL_same_488 : decode cL_same 488 = .ok (.iload 13, 2) := by decide +kernel
theorem dL_same_490 : decode cL_same 490 = .ok (.iaload, 1) := by decide +kernel
theorem dL_same_491 : decode cL_same 491 = .ok (.i2l, 1) := by decide +kernel
theorem dL_same_492 : decode cL_same 492 = .ok (.invokestatic 53, 3) := by decide +kernel
theorem dL_same_495 : decode cL_same 495 = .ok (.if_icmp .ne 68, 3) := by decide +kernel
theorem dL_same_498 : decode cL_same 498 = .ok (.aload_n 0, 1) := by decide +kernel
theorem dL_same_499 : decode cL_same 499 = .ok (.iload 13, 2) := by decide +kernel
theorem dL_same_501 : decode cL_same 501 = .ok (.iconst 2, 1) := by decide +kernel
theorem dL_same_502 : decode cL_same 502 = .ok (.invokevirtual 61, 3) := by decide +kernel
theorem dL_same_505 : decode cL_same 505 = .ok (.iload 15, 2) := by decide +kernel
theorem dL_same_507 : decode cL_same 507 = .ok (.if_icmp .ne 56, 3) := by decide +kernel
theorem dL_same_510 : decode cL_same 510 = .ok (.aload_n 0, 1) := by decide +kernel
theorem dL_same_511 : decode cL_same 511 = .ok (.iload 13, 2) := by decide +kernel
theorem dL_same_513 : decode cL_same 513 = .ok (.iconst 3, 1) := by decide +kernel
theorem dL_same_514 : decode cL_same 514 = .ok (.invokevirtual 61, 3) := by decide +kernel
theorem dL_same_517 : decode cL_same 517 = .ok (.iload 14, 2) := by decide +kernel
theorem dL_same_519 : decode cL_same 519 = .ok (.if_icmp .ne 44, 3) := by decide +kernel
theorem dL_same_522 : decode cL_same 522 = .ok (.aload_n 0, 1) := by decide +kernel
theorem dL_same_523 : decode cL_same 523 = .ok (.iload 13, 2) := by decide +kernel
theorem dL_same_525 : decode cL_same 525 = .ok (.iconst 4, 1) := by decide +kernel
theorem dL_same_526 : decode cL_same 526 = .ok (.invokevirtual 61, 3) := by decide +kernel
theorem dL_same_529 : decode cL_same 529 = .ok (.iload 18, 2) := by decide +kernel
theorem dL_same_531 : decode cL_same 531 = .ok (.if_icmp .ne 32, 3) := by decide +kernel
theorem dL_same_534 : decode cL_same 534 = .ok (.aload_n 0, 1) := by decide +kernel
theorem dL_same_535 : decode cL_same 535 = .ok (.iload 13, 2) := by decide +kernel
theorem dL_same_537 : decode cL_same 537 = .ok (.iconst 5, 1) := by decide +kernel
theorem dL_same_538 : decode cL_same 538 = .ok (.invokevirtual 61, 3) := by decide +kernel
theorem dL_same_541 : decode cL_same 541 = .ok (.iload 16, 2) := by decide +kernel
theorem dL_same_543 : decode cL_same 543 = .ok (.if_icmp .ne 20, 3) := by decide +kernel
theorem dL_same_546 : decode cL_same 546 = .ok (.aload_n 0, 1) := by decide +kernel
theorem dL_same_547 : decode cL_same 547 = .ok (.iload 13, 2) := by decide +kernel
theorem dL_same_549 : decode cL_same 549 = .ok (.bipush 6, 2) := by decide +kernel
theorem dL_same_551 : decode cL_same 551 = .ok (.invokevirtual 61, 3) := by decide +kernel
theorem dL_same_554 : decode cL_same 554 = .ok (.iload 13, 2) := by decide +kernel
theorem dL_same_556 : decode cL_same 556 = .ok (.aload_n 3, 1) := by decide +kernel
theorem dL_same_557 : decode cL_same 557 = .ok (.invokestatic 57, 3) := by decide +kernel
theorem dL_same_560 : decode cL_same 560 = .ok (.if_icmp .eq 5, 3) := by decide +kernel
theorem dL_same_563 : decode cL_same 563 = .ok (.iconst 0, 1) := by decide +kernel
theorem dL_same_564 : decode cL_same 564 = .ok (.ireturn, 1) := by decide +kernel
theorem dL_same_565 : decode cL_same 565 = .ok (.iinc 13 1, 3) := by decide +kernel
theorem dL_same_568 : decode cL_same 568 = .ok (.goto (-543), 3) := by decide +kernel
theorem dL_same_571 : decode cL_same 571 = .ok (.iconst 0, 1) := by decide +kernel
theorem dL_same_572 : decode cL_same 572 = .ok (.istore 13, 2) := by decide +kernel
theorem dL_same_574 : decode cL_same 574 = .ok (.iload 13, 2) := by decide +kernel
theorem dL_same_576 : decode cL_same 576 = .ok (.aload 5, 2) := by decide +kernel
theorem dL_same_578 : decode cL_same 578 = .ok (.iconst 0, 1) := by decide +kernel
theorem dL_same_579 : decode cL_same 579 = .ok (.iaload, 1) := by decide +kernel
theorem dL_same_580 : decode cL_same 580 = .ok (.if_icmp .ge 142, 3) := by decide +kernel
theorem dL_same_583 : decode cL_same 583 = .ok (.iconst 0, 1) := by decide +kernel
theorem dL_same_584 : decode cL_same 584 = .ok (.istore 14, 2) := by decide +kernel
theorem dL_same_586 : decode cL_same 586 = .ok (.iconst 0, 1) := by decide +kernel
theorem dL_same_587 : decode cL_same 587 = .ok (.istore 15, 2) := by decide +kernel
theorem dL_same_589 : decode cL_same 589 = .ok (.iload 15, 2) := by decide +kernel
theorem dL_same_591 : decode cL_same 591 = .ok (.bipush 16, 2) := by decide +kernel
theorem dL_same_593 : decode cL_same 593 = .ok (.if_icmp .ge 25, 3) := by decide +kernel
theorem dL_same_596 : decode cL_same 596 = .ok (.iload 14, 2) := by decide +kernel
theorem dL_same_598 : decode cL_same 598 = .ok (.bipush 8, 2) := by decide +kernel
theorem dL_same_600 : decode cL_same 600 = .ok (.iload 13, 2) := by decide +kernel
theorem dL_same_602 : decode cL_same 602 = .ok (.iadd, 1) := by decide +kernel
theorem dL_same_603 : decode cL_same 603 = .ok (.iload 15, 2) := by decide +kernel
theorem dL_same_605 : decode cL_same 605 = .ok (.aload_n 3, 1) := by decide +kernel
theorem dL_same_606 : decode cL_same 606 = .ok (.invokestatic 14, 3) := by decide +kernel
theorem dL_same_609 : decode cL_same 609 = .ok (.iadd, 1) := by decide +kernel
theorem dL_same_610 : decode cL_same 610 = .ok (.istore 14, 2) := by decide +kernel
theorem dL_same_612 : decode cL_same 612 = .ok (.iinc 15 1, 3) := by decide +kernel
theorem dL_same_615 : decode cL_same 615 = .ok (.goto (-26), 3) := by decide +kernel
theorem dL_same_618 : decode cL_same 618 = .ok (.aload_n 0, 1) := by decide +kernel
theorem dL_same_619 : decode cL_same 619 = .ok (.iload 13, 2) := by decide +kernel
theorem dL_same_621 : decode cL_same 621 = .ok (.iconst 0, 1) := by decide +kernel
theorem dL_same_622 : decode cL_same 622 = .ok (.invokevirtual 64, 3) := by decide +kernel
theorem dL_same_625 : decode cL_same 625 = .ok (.aload_n 2, 1) := by decide +kernel
theorem dL_same_626 : decode cL_same 626 = .ok (.bipush 8, 2) := by decide +kernel
theorem dL_same_628 : decode cL_same 628 = .ok (.iload 13, 2) := by decide +kernel
theorem dL_same_630 : decode cL_same 630 = .ok (.iadd, 1) := by decide +kernel
theorem dL_same_631 : decode cL_same 631 = .ok (.iaload, 1) := by decide +kernel
theorem dL_same_632 : decode cL_same 632 = .ok (.if_icmp .ne 82, 3) := by decide +kernel
theorem dL_same_635 : decode cL_same 635 = .ok (.aload_n 0, 1) := by decide +kernel
theorem dL_same_636 : decode cL_same 636 = .ok (.iload 13, 2) := by decide +kernel
theorem dL_same_638 : decode cL_same 638 = .ok (.iconst 1, 1) := by decide +kernel
theorem dL_same_639 : decode cL_same 639 = .ok (.invokevirtual 64, 3) := by decide +kernel
theorem dL_same_642 : decode cL_same 642 = .ok (.iload 14, 2) := by decide +kernel
theorem dL_same_644 : decode cL_same 644 = .ok (.if_icmp .ne 70, 3) := by decide +kernel
theorem dL_same_647 : decode cL_same 647 = .ok (.aload_n 0, 1) := by decide +kernel
theorem dL_same_648 : decode cL_same 648 = .ok (.iload 13, 2) := by decide +kernel
theorem dL_same_650 : decode cL_same 650 = .ok (.iconst 2, 1) := by decide +kernel
theorem dL_same_651 : decode cL_same 651 = .ok (.invokevirtual 64, 3) := by decide +kernel
theorem dL_same_654 : decode cL_same 654 = .ok (.aload 4, 2) := by decide +kernel
theorem dL_same_656 : decode cL_same 656 = .ok (.bipush 8, 2) := by decide +kernel
theorem dL_same_658 : decode cL_same 658 = .ok (.iload 13, 2) := by decide +kernel
theorem dL_same_660 : decode cL_same 660 = .ok (.iadd, 1) := by decide +kernel
theorem dL_same_661 : decode cL_same 661 = .ok (.laload, 1) := by decide +kernel
theorem dL_same_662 : decode cL_same 662 = .ok (.invokestatic 53, 3) := by decide +kernel
theorem dL_same_665 : decode cL_same 665 = .ok (.if_icmp .ne 49, 3) := by decide +kernel
theorem dL_same_668 : decode cL_same 668 = .ok (.aload_n 0, 1) := by decide +kernel
theorem dL_same_669 : decode cL_same 669 = .ok (.iload 13, 2) := by decide +kernel
theorem dL_same_671 : decode cL_same 671 = .ok (.iconst 3, 1) := by decide +kernel
theorem dL_same_672 : decode cL_same 672 = .ok (.invokevirtual 64, 3) := by decide +kernel
theorem dL_same_675 : decode cL_same 675 = .ok (.bipush 8, 2) := by decide +kernel
theorem dL_same_677 : decode cL_same 677 = .ok (.iload 13, 2) := by decide +kernel
theorem dL_same_679 : decode cL_same 679 = .ok (.iadd, 1) := by decide +kernel
theorem dL_same_680 : decode cL_same 680 = .ok (.aload_n 3, 1) := by decide +kernel
theorem dL_same_681 : decode cL_same 681 = .ok (.invokestatic 57, 3) := by decide +kernel
theorem dL_same_684 : decode cL_same 684 = .ok (.if_icmp .ne 30, 3) := by decide +kernel
theorem dL_same_687 : decode cL_same 687 = .ok (.aload_n 0, 1) := by decide +kernel
theorem dL_same_688 : decode cL_same 688 = .ok (.iconst 1, 1) := by decide +kernel
theorem dL_same_689 : decode cL_same 689 = .ok (.iload 13, 2) := by decide +kernel
theorem dL_same_691 : decode cL_same 691 = .ok (.iload_n 1, 1) := by decide +kernel
theorem dL_same_692 : decode cL_same 692 = .ok (.bipush 15, 2) := by decide +kernel
theorem dL_same_694 : decode cL_same 694 = .ok (.iand, 1) := by decide +kernel
theorem dL_same_695 : decode cL_same 695 = .ok (.invokevirtual 38, 3) := by decide +kernel
theorem dL_same_698 : decode cL_same 698 = .ok (.bipush 8, 2) := by decide +kernel
theorem dL_same_700 : decode cL_same 700 = .ok (.iload 13, 2) := by decide +kernel
theorem dL_same_702 : decode cL_same 702 = .ok (.iadd, 1) := by decide +kernel
theorem dL_same_703 : decode cL_same 703 = .ok (.iload_n 1, 1) := by decide +kernel
theorem dL_same_704 : decode cL_same 704 = .ok (.bipush 15, 2) := by decide +kernel
theorem dL_same_706 : decode cL_same 706 = .ok (.iand, 1) := by decide +kernel
theorem dL_same_707 : decode cL_same 707 = .ok (.aload_n 3, 1) := by decide +kernel
theorem dL_same_708 : decode cL_same 708 = .ok (.invokestatic 14, 3) := by decide +kernel
theorem dL_same_711 : decode cL_same 711 = .ok (.if_icmp .eq 5, 3) := by decide +kernel
theorem dL_same_714 : decode cL_same 714 = .ok (.iconst 0, 1) := by decide +kernel
theorem dL_same_715 : decode cL_same 715 = .ok (.ireturn, 1) := by decide +kernel
theorem dL_same_716 : decode cL_same 716 = .ok (.iinc 13 1, 3) := by decide +kernel
theorem dL_same_719 : decode cL_same 719 = .ok (.goto (-145), 3) := by decide +kernel
theorem dL_same_722 : decode cL_same 722 = .ok (.iconst 0, 1) := by decide +kernel
theorem dL_same_723 : decode cL_same 723 = .ok (.istore 13, 2) := by decide +kernel
theorem dL_same_725 : decode cL_same 725 = .ok (.iload 13, 2) := by decide +kernel
theorem dL_same_727 : decode cL_same 727 = .ok (.aload 5, 2) := by decide +kernel
theorem dL_same_729 : decode cL_same 729 = .ok (.iconst 1, 1) := by decide +kernel
theorem dL_same_730 : decode cL_same 730 = .ok (.iaload, 1) := by decide +kernel
theorem dL_same_731 : decode cL_same 731 = .ok (.if_icmp .ge 25, 3) := by decide +kernel
theorem dL_same_734 : decode cL_same 734 = .ok (.aload_n 0, 1) := by decide +kernel
theorem dL_same_735 : decode cL_same 735 = .ok (.iload 13, 2) := by decide +kernel
theorem dL_same_737 : decode cL_same 737 = .ok (.invokevirtual 67, 3) := by decide +kernel
theorem dL_same_740 : decode cL_same 740 = .ok (.aload 6, 2) := by decide +kernel
theorem dL_same_742 : decode cL_same 742 = .ok (.iload 13, 2) := by decide +kernel
theorem dL_same_744 : decode cL_same 744 = .ok (.iaload, 1) := by decide +kernel
theorem dL_same_745 : decode cL_same 745 = .ok (.if_icmp .eq 5, 3) := by decide +kernel
theorem dL_same_748 : decode cL_same 748 = .ok (.iconst 0, 1) := by decide +kernel
theorem dL_same_749 : decode cL_same 749 = .ok (.ireturn, 1) := by decide +kernel
theorem dL_same_750 : decode cL_same 750 = .ok (.iinc 13 1, 3) := by decide +kernel
theorem dL_same_753 : decode cL_same 753 = .ok (.goto (-28), 3) := by decide +kernel
theorem dL_same_756 : decode cL_same 756 = .ok (.iload 11, 2) := by decide +kernel
theorem dL_same_758 : decode cL_same 758 = .ok (.istore 13, 2) := by decide +kernel
theorem dL_same_760 : decode cL_same 760 = .ok (.aload_n 0, 1) := by decide +kernel
theorem dL_same_761 : decode cL_same 761 = .ok (.iload 13, 2) := by decide +kernel
theorem dL_same_763 : decode cL_same 763 = .ok (.aload_n 3, 1) := by decide +kernel
theorem dL_same_764 : decode cL_same 764 = .ok (.invokestatic 71, 3) := by decide +kernel
theorem dL_same_767 : decode cL_same 767 = .ok (.istore 14, 2) := by decide +kernel
theorem dL_same_769 : decode cL_same 769 = .ok (.iload 14, 2) := by decide +kernel
theorem dL_same_771 : decode cL_same 771 = .ok (.aload_n 0, 1) := by decide +kernel
theorem dL_same_772 : decode cL_same 772 = .ok (.iload 13, 2) := by decide +kernel
theorem dL_same_774 : decode cL_same 774 = .ok (.bipush 7, 2) := by decide +kernel
theorem dL_same_776 : decode cL_same 776 = .ok (.invokevirtual 61, 3) := by decide +kernel
theorem dL_same_779 : decode cL_same 779 = .ok (.if_icmp .ne 108, 3) := by decide +kernel
theorem dL_same_782 : decode cL_same 782 = .ok (.aload_n 0, 1) := by decide +kernel
theorem dL_same_783 : decode cL_same 783 = .ok (.iconst 0, 1) := by decide +kernel
theorem dL_same_784 : decode cL_same 784 = .ok (.invokevirtual 75, 3) := by decide +kernel
theorem dL_same_787 : decode cL_same 787 = .ok (.iload 7, 2) := by decide +kernel
theorem dL_same_789 : decode cL_same 789 = .ok (.if_icmp .ne 98, 3) := by decide +kernel
theorem dL_same_792 : decode cL_same 792 = .ok (.aload_n 0, 1) := by decide +kernel
theorem dL_same_793 : decode cL_same 793 = .ok (.iconst 1, 1) := by decide +kernel
theorem dL_same_794 : decode cL_same 794 = .ok (.invokevirtual 75, 3) := by decide +kernel
theorem dL_same_797 : decode cL_same 797 = .ok (.aload 5, 2) := by decide +kernel
theorem dL_same_799 : decode cL_same 799 = .ok (.iconst 0, 1) := by decide +kernel
theorem dL_same_800 : decode cL_same 800 = .ok (.iaload, 1) := by decide +kernel
theorem dL_same_801 : decode cL_same 801 = .ok (.if_icmp .ne 86, 3) := by decide +kernel
theorem dL_same_804 : decode cL_same 804 = .ok (.aload_n 0, 1) := by decide +kernel
theorem dL_same_805 : decode cL_same 805 = .ok (.iconst 2, 1) := by decide +kernel
theorem dL_same_806 : decode cL_same 806 = .ok (.invokevirtual 75, 3) := by decide +kernel
theorem dL_same_809 : decode cL_same 809 = .ok (.aload 5, 2) := by decide +kernel
theorem dL_same_811 : decode cL_same 811 = .ok (.iconst 1, 1) := by decide +kernel
theorem dL_same_812 : decode cL_same 812 = .ok (.iaload, 1) := by decide +kernel
theorem dL_same_813 : decode cL_same 813 = .ok (.if_icmp .ne 74, 3) := by decide +kernel
theorem dL_same_816 : decode cL_same 816 = .ok (.aload_n 0, 1) := by decide +kernel
theorem dL_same_817 : decode cL_same 817 = .ok (.iconst 3, 1) := by decide +kernel
theorem dL_same_818 : decode cL_same 818 = .ok (.invokevirtual 75, 3) := by decide +kernel
theorem dL_same_821 : decode cL_same 821 = .ok (.iload 8, 2) := by decide +kernel
theorem dL_same_823 : decode cL_same 823 = .ok (.if_icmp .ne 64, 3) := by decide +kernel
theorem dL_same_826 : decode cL_same 826 = .ok (.aload_n 0, 1) := by decide +kernel
theorem dL_same_827 : decode cL_same 827 = .ok (.iconst 4, 1) := by decide +kernel
theorem dL_same_828 : decode cL_same 828 = .ok (.invokevirtual 75, 3) := by decide +kernel
theorem dL_same_831 : decode cL_same 831 = .ok (.iload 9, 2) := by decide +kernel
theorem dL_same_833 : decode cL_same 833 = .ok (.if_icmp .ne 54, 3) := by decide +kernel
theorem dL_same_836 : decode cL_same 836 = .ok (.aload_n 0, 1) := by decide +kernel
theorem dL_same_837 : decode cL_same 837 = .ok (.iconst 5, 1) := by decide +kernel
theorem dL_same_838 : decode cL_same 838 = .ok (.invokevirtual 75, 3) := by decide +kernel
theorem dL_same_841 : decode cL_same 841 = .ok (.iload 10, 2) := by decide +kernel
theorem dL_same_843 : decode cL_same 843 = .ok (.if_icmp .ne 44, 3) := by decide +kernel
theorem dL_same_846 : decode cL_same 846 = .ok (.aload_n 0, 1) := by decide +kernel
theorem dL_same_847 : decode cL_same 847 = .ok (.iconst 0, 1) := by decide +kernel
theorem dL_same_848 : decode cL_same 848 = .ok (.invokevirtual 78, 3) := by decide +kernel
theorem dL_same_851 : decode cL_same 851 = .ok (.iload 11, 2) := by decide +kernel
theorem dL_same_853 : decode cL_same 853 = .ok (.if_icmp .ne 34, 3) := by decide +kernel
theorem dL_same_856 : decode cL_same 856 = .ok (.aload_n 0, 1) := by decide +kernel
theorem dL_same_857 : decode cL_same 857 = .ok (.iconst 1, 1) := by decide +kernel
theorem dL_same_858 : decode cL_same 858 = .ok (.invokevirtual 78, 3) := by decide +kernel
theorem dL_same_861 : decode cL_same 861 = .ok (.aload 5, 2) := by decide +kernel
theorem dL_same_863 : decode cL_same 863 = .ok (.iconst 1, 1) := by decide +kernel
theorem dL_same_864 : decode cL_same 864 = .ok (.iaload, 1) := by decide +kernel
theorem dL_same_865 : decode cL_same 865 = .ok (.iload 12, 2) := by decide +kernel
theorem dL_same_867 : decode cL_same 867 = .ok (.isub, 1) := by decide +kernel
theorem dL_same_868 : decode cL_same 868 = .ok (.if_icmp .ne 19, 3) := by decide +kernel
theorem dL_same_871 : decode cL_same 871 = .ok (.aload_n 0, 1) := by decide +kernel
theorem dL_same_872 : decode cL_same 872 = .ok (.aload 5, 2) := by decide +kernel
theorem dL_same_874 : decode cL_same 874 = .ok (.iconst 1, 1) := by decide +kernel
theorem dL_same_875 : decode cL_same 875 = .ok (.iaload, 1) := by decide +kernel
theorem dL_same_876 : decode cL_same 876 = .ok (.invokevirtual 67, 3) := by decide +kernel
theorem dL_same_879 : decode cL_same 879 = .ok (.iconst (-1), 1) := by decide +kernel
theorem dL_same_880 : decode cL_same 880 = .ok (.if_icmp .ne 7, 3) := by decide +kernel
theorem dL_same_883 : decode cL_same 883 = .ok (.iconst 1, 1) := by decide +kernel
theorem dL_same_884 : decode cL_same 884 = .ok (.goto 4, 3) := by decide +kernel
theorem dL_same_887 : decode cL_same 887 = .ok (.iconst 0, 1) := by decide +kernel
theorem dL_same_888 : decode cL_same 888 = .ok (.ireturn, 1) := by decide +kernel
