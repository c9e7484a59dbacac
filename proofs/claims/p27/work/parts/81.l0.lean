/-! ===== the law: its words ===== -/
theorem k3_sel {cls : String} {y y0 : MethodName} {s : State} {args : Array Value} {n : Nat} (hy : y.cls ≠ "java/lang/invoke/MethodHandle" ∧ y.cls ≠ "java/lang/invoke/VarHandle") (he : y0.cls = y.cls)
    (hins : (Cond.instantiable cls n).before args s = true) (hpriv : (Cond.privateMethod y).before args s = true) (hinst : (Cond.instanceMethod y).before args s = true) (h0 : (Cond.selects cls y0 y0).before args s = true) :
    (Cond.selects cls y y).before args s = true := by
  obtain ⟨c, k, hc, hk, -, -, -, -⟩ := Cond.instantiable_spec hins
  obtain ⟨mk, methM, hnamed, hmethM, -, -⟩ := Cond.instanceMethod_spec hinst
  have hfound : s.methodFound? y.cls y.name y.desc = some mk := State.methodFound?_of_named hnamed hy
  have hsel : selectMethod {} s.vm c mk = .method mk := selectMethod_private hmethM (Cond.privateMethod_at hpriv mk methM hnamed hmethM)
  obtain ⟨c2, r2, m2, -, -, q3, -, mk2, q5, q6⟩ := Cond.selects_spec h0
  have hcls : mk.cls = m2.cls := Option.some.inj ((findClass_of_methodNamed hnamed).symm.trans (by rw [← he]; exact findClass_of_methodNamed q3))
  rw [← hcls] at q5
  simp only [Cond.before, Cond.holds, Cond.value, hc, hfound, hnamed, hsel, q5]
  simp; exact q6
abbrev y_isLatin : MethodName := yJ5_isLatin1_aae02
def lw_3 : List Cond := [.selects RJ4 yJ5_ensureCapacityInternal_d00df yJ5_ensureCapacityInternal_d00df, .selects RJ4 yJ5_newCapacity_0f7a4 yJ5_newCapacity_0f7a4, .selects RJ4 yJ5_inflate_da8c8 yJ5_inflate_da8c8]
theorem lw_3_ok {s : State} {args : Array Value} (hts : ∀ w ∈ lw_tbl, w.before args s = true) : ∀ w ∈ lw_3 ++ lw_tbl, w.before args s = true := by
  have hi : (Cond.instantiable RJ4 4).before args s = true := hts _ (by decide +kernel)
  have h0 : (Cond.selects RJ4 y_isLatin y_isLatin).before args s = true := hts _ (by decide +kernel)
  intro w hw
  rcases List.mem_append.mp hw with h | h
  · rcases List.mem_cons.mp h with rfl | h
    · exact k3_sel (y0 := y_isLatin) (by decide +kernel) rfl hi (hts _ (by decide +kernel)) (hts _ (by decide +kernel)) h0
    · rcases List.mem_cons.mp h with rfl | h
      · exact k3_sel (y0 := y_isLatin) (by decide +kernel) rfl hi (hts _ (by decide +kernel)) (hts _ (by decide +kernel)) h0
      · rcases List.mem_cons.mp h with rfl | h
        · exact k3_sel (y0 := y_isLatin) (by decide +kernel) rfl hi (hts _ (by decide +kernel)) (hts _ (by decide +kernel)) h0
        · exact absurd h List.not_mem_nil
  · exact hts w h
theorem l_mem {big : List Cond} (ws : List Cond) (ps : List Nat) (hp : ws = ps.filterMap (fun i => big[i]?)) : ∀ w ∈ ws, w ∈ big := by
  intro w hw
  rw [hp] at hw
  obtain ⟨i, -, hi⟩ := List.mem_filterMap.mp hw
  exact List.mem_of_getElem? hi
theorem l_ap {a b big : List Cond} (h1 : ∀ w ∈ a, w ∈ big) (h2 : ∀ w ∈ b, w ∈ big) : ∀ w ∈ a ++ b, w ∈ big := fun w h => (List.mem_append.mp h).elim (h1 w) (h2 w)
set_option maxRecDepth 100000 in
theorem ls_wsL_law_r1 : ∀ w ∈ wsL_law_r1, w ∈ lw_3 ++ lw_tbl := l_mem _ [25, 26, 9, 57, 638, 637, 27, 28, 29, 30, 31, 32, 33, 34, 10, 151, 152, 154, 114, 155, 88, 89, 12, 156] (by decide +kernel)
set_option maxRecDepth 100000 in
theorem ls_wsL_law_r2 : ∀ w ∈ wsL_law_r2, w ∈ lw_3 ++ lw_tbl := l_mem _ [116, 41, 11, 157, 118, 119, 14, 158, 59, 150, 35, 36, 37, 38, 58, 39, 60, 62, 64, 68, 43, 44, 45, 46] (by decide +kernel)
set_option maxRecDepth 100000 in
theorem ls_wsL_law_r3 : ∀ w ∈ wsL_law_r3, w ∈ lw_3 ++ lw_tbl := l_mem _ [91, 92, 93, 115, 96, 94, 97, 120, 121, 122, 123, 124, 13, 125, 126, 127, 149, 136, 137, 129, 130, 16, 131, 132] (by decide +kernel)
set_option maxRecDepth 100000 in
theorem ls_wsL_law_r4 : ∀ w ∈ wsL_law_r4, w ∈ lw_3 ++ lw_tbl := l_mem _ [133, 134, 135, 321, 322, 8, 323, 324, 325, 326, 327, 328, 329, 347, 348, 349, 176, 177, 178, 179, 180, 181, 182, 183] (by decide +kernel)
set_option maxRecDepth 100000 in
theorem ls_wsL_law_r5 : ∀ w ∈ wsL_law_r5, w ∈ lw_3 ++ lw_tbl := l_mem _ [184, 185, 186, 187, 188, 189, 190, 17, 191, 192, 193, 194, 195, 197, 3, 198, 153, 199, 201, 4, 202, 203, 204, 205] (by decide +kernel)
set_option maxRecDepth 100000 in
theorem ls_wsL_law_r6 : ∀ w ∈ wsL_law_r6, w ∈ lw_3 ++ lw_tbl := l_mem _ [206, 207, 209, 208, 18, 66, 70, 210, 211, 212, 213, 214, 48, 49, 215, 216, 217, 218, 219, 220, 221, 222, 223, 224] (by decide +kernel)
set_option maxRecDepth 100000 in
theorem ls_wsL_law_r7 : ∀ w ∈ wsL_law_r7, w ∈ lw_3 ++ lw_tbl := l_mem _ [225, 226, 227, 228, 229, 230, 231, 232, 233, 234, 235, 236, 19, 237, 337, 338, 339, 333, 334, 335, 336, 340, 341, 342] (by decide +kernel)
set_option maxRecDepth 100000 in
theorem ls_wsL_law_r8 : ∀ w ∈ wsL_law_r8, w ∈ lw_3 ++ lw_tbl := l_mem _ [343, 344, 345, 346, 238, 239, 240, 241, 71, 242, 243, 244, 245, 246, 247, 248, 249, 250, 251, 252, 253, 254, 255, 256] (by decide +kernel)
set_option maxRecDepth 100000 in
theorem ls_wsL_law_r9 : ∀ w ∈ wsL_law_r9, w ∈ lw_3 ++ lw_tbl := l_mem _ [257, 259, 5, 260, 261, 262, 263, 264, 265, 266, 267, 268, 67, 269, 270, 271, 272, 290, 291, 292, 293, 61, 63, 277] (by decide +kernel)
set_option maxRecDepth 100000 in
theorem ls_wsL_law_r10 : ∀ w ∈ wsL_law_r10, w ∈ lw_3 ++ lw_tbl := l_mem _ [278, 279, 280, 294, 281, 295, 296, 297, 298, 299, 300, 301, 302, 20, 303, 304, 305, 306, 307, 308, 309, 310, 311, 312] (by decide +kernel)
set_option maxRecDepth 100000 in
theorem ls_wsL_law_r11 : ∀ w ∈ wsL_law_r11, w ∈ lw_3 ++ lw_tbl := l_mem _ [313, 314, 315, 316, 317, 318, 319, 320, 330, 331, 332, 350, 351, 352, 353, 354, 355, 273, 274, 275, 276, 282, 283, 284] (by decide +kernel)
set_option maxRecDepth 100000 in
theorem ls_wsL_law_r12_a : ∀ w ∈ [Cond.code yX3_drop cX3_drop 2 (some .int), Cond.methodLink RX3 104 yX2_removeMessage, Cond.instanceMethod yX2_removeMessage, Cond.selects RX2 yX2_removeMessage yX2_removeMessage, Cond.code yX2_removeMessage cX2_removeMessage 3 none, Cond.methodLink RL 119 yL_same, Cond.static yL_same], w ∈ lw_3 ++ lw_tbl := l_mem _ [285, 286, 287, 288, 289, 356, 357] (by decide +kernel)
set_option maxRecDepth 100000 in
theorem ls_wsL_law_r12_b : ∀ w ∈ [Cond.code yL_same cL_same 20 (some .boolean)], w ∈ lw_3 ++ lw_tbl := fun w hw => by
  rw [List.mem_singleton.mp hw]
  exact List.mem_of_getElem? (i := 358) rfl
set_option maxRecDepth 100000 in
theorem ls_wsL_law_r12_c : ∀ w ∈ [Cond.methodLink RL 38 yX3_height, Cond.instanceMethod yX3_height, Cond.selects RX3 yX3_height yX3_height, Cond.code yX3_height cX3_height 5 (some .int), Cond.fieldLink RX3 140 "ForkedStamps$Stamp" "heights" "[I", Cond.methodLink RX3 133 yX3_isKind, Cond.static yX3_isKind, Cond.code yX3_isKind cX3_isKind 1 (some .boolean), Cond.methodLink RX3 136 yX2_stampOf, Cond.instanceMethod yX2_stampOf, Cond.selects RX2 yX2_stampOf yX2_stampOf, Cond.code yX2_stampOf cX2_stampOf 3 (some (.object "ForkedStamps$Stamp")), Cond.methodLink RX2 52 yX2_isMessage, Cond.methodLink RL 41 yX3_knows, Cond.instanceMethod yX3_knows, Cond.selects RX3 yX3_knows yX3_knows], w ∈ lw_3 ++ lw_tbl := l_mem _ [359, 360, 361, 362, 47, 363, 364, 365, 366, 367, 368, 369, 370, 371, 372, 373] (by decide +kernel)
theorem ls_wsL_law_r12 : ∀ w ∈ wsL_law_r12, w ∈ lw_3 ++ lw_tbl := (l_ap (a := [Cond.code yX3_drop cX3_drop 2 (some .int), Cond.methodLink RX3 104 yX2_removeMessage, Cond.instanceMethod yX2_removeMessage, Cond.selects RX2 yX2_removeMessage yX2_removeMessage, Cond.code yX2_removeMessage cX2_removeMessage 3 none, Cond.methodLink RL 119 yL_same, Cond.static yL_same]) ls_wsL_law_r12_a (l_ap (a := [Cond.code yL_same cL_same 20 (some .boolean)]) ls_wsL_law_r12_b ls_wsL_law_r12_c))
set_option maxRecDepth 100000 in
theorem ls_wsL_law_r13 : ∀ w ∈ wsL_law_r13, w ∈ lw_3 ++ lw_tbl := l_mem _ [374, 375, 376, 377, 378, 379, 380, 381, 382, 383, 384, 385, 386, 387, 388, 389, 390, 391, 392, 393, 394, 395, 396, 397] (by decide +kernel)
set_option maxRecDepth 100000 in
theorem ls_wsL_law_r14 : ∀ w ∈ wsL_law_r14, w ∈ lw_3 ++ lw_tbl := l_mem _ [398, 399, 400, 401, 402, 403, 404, 405, 406, 407, 408, 409, 411, 6, 412, 413, 414, 415, 416, 417, 639, 148, 418, 419] (by decide +kernel)
set_option maxRecDepth 100000 in
theorem ls_wsL_law_r15 : ∀ w ∈ wsL_law_r15, w ∈ lw_3 ++ lw_tbl := l_mem _ [139, 138, 420, 640, 0, 422, 423, 424, 641, 1, 426, 427, 436, 428, 429, 21, 430, 431, 432, 433, 434, 435, 437, 438] (by decide +kernel)
set_option maxRecDepth 100000 in
theorem ls_wsL_law_r16 : ∀ w ∈ wsL_law_r16, w ∈ lw_3 ++ lw_tbl := l_mem _ [22, 439, 440, 441, 442, 443, 444, 446, 447, 448, 449, 450, 451, 453, 454, 452, 455, 456, 457, 23, 458, 459, 460, 461] (by decide +kernel)
set_option maxRecDepth 100000 in
theorem ls_wsL_law_r17 : ∀ w ∈ wsL_law_r17, w ∈ lw_3 ++ lw_tbl := l_mem _ [462, 463, 464, 465, 466, 467, 468, 469, 470, 471, 472, 473, 474, 475, 476, 477, 478, 479, 480, 642, 481, 482, 483, 484] (by decide +kernel)
set_option maxRecDepth 100000 in
theorem ls_wsL_law_r18 : ∀ w ∈ wsL_law_r18, w ∈ lw_3 ++ lw_tbl := l_mem _ [485, 486, 487, 488, 489, 491, 493, 494, 495, 517, 496, 497, 498, 499, 500, 501, 502, 503, 15, 504, 505, 507, 508, 24] (by decide +kernel)
set_option maxRecDepth 100000 in
theorem ls_wsL_law_r19 : ∀ w ∈ wsL_law_r19, w ∈ lw_3 ++ lw_tbl := l_mem _ [509, 510, 511, 512, 513, 523, 514, 515, 516, 519, 521, 524, 525, 526, 527, 528, 643, 529, 530, 531, 532, 533, 534, 644] (by decide +kernel)
set_option maxRecDepth 100000 in
theorem ls_wsL_law_r20 : ∀ w ∈ wsL_law_r20, w ∈ lw_3 ++ lw_tbl := l_mem _ [2, 536, 537, 538, 539, 540, 541, 542, 543, 544, 545, 546, 547, 548, 549, 550, 551, 552, 553, 554, 555, 556, 557, 558] (by decide +kernel)
set_option maxRecDepth 100000 in
theorem ls_wsL_law_r21 : ∀ w ∈ wsL_law_r21, w ∈ lw_3 ++ lw_tbl := l_mem _ [559, 560, 561, 562, 563, 564, 565, 566, 567, 568, 569, 645, 570, 571, 572, 573, 574, 575, 65, 576, 577, 578, 579, 69] (by decide +kernel)
set_option maxRecDepth 100000 in
theorem ls_wsL_law_r22 : ∀ w ∈ wsL_law_r22, w ∈ lw_3 ++ lw_tbl := l_mem _ [580, 581, 582, 583, 584, 585, 586, 587, 588, 589, 590, 591, 592, 593, 594, 646, 595, 596, 597, 598, 599, 600, 601, 602] (by decide +kernel)
set_option maxRecDepth 100000 in
theorem ls_wsL_law_r23 : ∀ w ∈ wsL_law_r23, w ∈ lw_3 ++ lw_tbl := l_mem _ [603, 604, 605, 98, 606, 607, 608, 609, 610, 611, 612, 613, 614, 615, 616, 617, 618, 619, 620, 621, 622, 623, 624, 626] (by decide +kernel)
set_option maxRecDepth 100000 in
theorem ls_wsL_law_r24 : ∀ w ∈ wsL_law_r24, w ∈ lw_3 ++ lw_tbl := l_mem _ [7, 627, 628, 629, 630, 631, 632, 633, 634, 635, 636] (by decide +kernel)
set_option maxRecDepth 100000 in
theorem ls_wsX30 : ∀ w ∈ wsX30, w ∈ lw_3 ++ lw_tbl := l_mem _ [159, 161, 163, 165, 167, 169, 171, 173] (by decide +kernel)
set_option maxRecDepth 100000 in
theorem ls_wsX20 : ∀ w ∈ wsX20, w ∈ lw_3 ++ lw_tbl := l_mem _ [72, 74, 76, 78, 80, 82, 84] (by decide +kernel)
set_option maxRecDepth 100000 in
theorem ls_wsX00 : ∀ w ∈ wsX00, w ∈ lw_3 ++ lw_tbl := l_mem _ [99, 101, 103, 105, 107, 109, 111] (by decide +kernel)
set_option maxRecDepth 100000 in
theorem ls_wsX10 : ∀ w ∈ wsX10, w ∈ lw_3 ++ lw_tbl := l_mem _ [50, 52, 54] (by decide +kernel)
set_option maxRecDepth 100000 in
theorem ls_wsJ40 : ∀ w ∈ wsJ40, w ∈ lw_3 ++ lw_tbl := l_mem _ [140, 142, 144, 146] (by decide +kernel)
theorem wsL_sub : ∀ w ∈ wsL_law, w ∈ lw_3 ++ lw_tbl := l_ap (l_ap (l_ap (l_ap (l_ap (l_ap (l_ap ls_wsL_law_r1 (l_ap ls_wsL_law_r2 (l_ap ls_wsL_law_r3 (l_ap ls_wsL_law_r4 (l_ap ls_wsL_law_r5 (l_ap ls_wsL_law_r6 (l_ap ls_wsL_law_r7 (l_ap ls_wsL_law_r8 (l_ap ls_wsL_law_r9 (l_ap ls_wsL_law_r10 (l_ap ls_wsL_law_r11 (l_ap ls_wsL_law_r12 (l_ap ls_wsL_law_r13 (l_ap ls_wsL_law_r14 (l_ap ls_wsL_law_r15 (l_ap ls_wsL_law_r16 (l_ap ls_wsL_law_r17 (l_ap ls_wsL_law_r18 (l_ap ls_wsL_law_r19 (l_ap ls_wsL_law_r20 (l_ap ls_wsL_law_r21 (l_ap ls_wsL_law_r22 (l_ap ls_wsL_law_r23 (ls_wsL_law_r24)))))))))))))))))))))))) ls_wsX30) ls_wsX20) ls_wsX00) ls_wsX10) ls_wsJ40) (fun _ h => absurd h List.not_mem_nil)
theorem lw_hts {s : State} {args : Array Value} (hts : ∀ w ∈ lw_tbl, w.before args s = true) : ∀ w ∈ wsL_law, w.before args s = true := fun w h => lw_3_ok hts w (wsL_sub w h)
/-- a class of arrays of primitives -/
theorem l_arr {ty : FieldType} {s : State} {args : Array Value} (h : (Cond.arrayClass ty).before args s = true) (hty : ∀ C, ty ≠ .object C) : ∃ cA : ClassId, ArrOfT s cA ty ∧ va_RA s cA ty := by
  obtain ⟨c, k, comp, h1, h2, h3⟩ := Cond.arrayClass_spec h
  refine ⟨c, fun n z => ⟨fun k h => (by cases h), k, h2, comp, h3⟩, ?_⟩
  cases ty with
  | object C => exact absurd rfl (hty C)
  | _ => exact h1
theorem l_arrO {C : String} {s : State} {args : Array Value} (h : (Cond.arrayOver (.object C)).before args s = true) : ∃ cA : ClassId, ArrOfT s cA (.object C) ∧ va_RA s cA (.object C) := by
  obtain ⟨comp, c, k, h1, h2, h3, h4, h5⟩ := Cond.arrayOver_spec h
  exact ⟨c, fun n z => ⟨fun k h => (by cases h), k, h3, comp, h4⟩, k, comp, h3, h4, h1, h5⟩
