/-! ===== the law: its words ===== -/
theorem k3_sel {cls : String} {y y0 : MethodName} {s : State} {args : Array Value} {n : Nat} (hy : y.cls ≠ "java/lang/invoke/MethodHandle" ∧ y.cls ≠ "java/lang/invoke/VarHandle") (he : y0.cls = y.cls)
    (hins : (Cond.instantiable cls n).before args s = true) (hpriv : (Cond.privateMethod y).before args s = true) (hinst : (Cond.instanceMethod y).before args s = true) (h0 : (Cond.selects cls y0 y0).before args s = true) :
    (Cond.selects cls y y).before args s = true := by
  obtain ⟨c, k, hc, hk, -, -, -, -⟩ := Cond.instantiable_spec hins
  obtain ⟨mk, methM, hnamed, hmethM, -, -⟩ := Cond.instanceMethod_spec hinst
  have hfound : s.methodFound? y.cls y.name y.desc = some mk := State.methodFound?_of_named hnamed hy
  have hsel : selectMethod {} s.vm c mk = .method mk := selectMethod_private hmethM (Cond.privateMethod_at hpriv mk methM hnamed hmethM)
  obtain ⟨c2, r2, m2, -, -, q3, -, mk2, q5, q6⟩ := Cond.selects_spec h0
  have hcls : mk.cls = m2.cls := Option.some.inj ((findClass_of_methodNamed hnamed).symm.trans (by rw [← he]; exact findClass_of_methodNamed q3))
  rw [← hcls] at q5
  simp only [Cond.before, Cond.holds, Cond.value, hc, hfound, hnamed, hsel, q5]
  simp; exact q6
abbrev y_isLatin : MethodName := yJ5_isLatin1_aae02
def lw_3 : List Cond := [.selects RJ4 yJ5_ensureCapacityInternal_d00df yJ5_ensureCapacityInternal_d00df, .selects RJ4 yJ5_newCapacity_0f7a4 yJ5_newCapacity_0f7a4, .selects RJ4 yJ5_inflate_da8c8 yJ5_inflate_da8c8]
theorem lw_3_ok {s : State} {args : Array Value} (hts : ∀ w ∈ lw_tbl, w.before args s = true) : ∀ w ∈ lw_3 ++ lw_tbl, w.before args s = true := by
  have hi : (Cond.instantiable RJ4 4).before args s = true := hts _ (by decide +kernel)
  have h0 : (Cond.selects RJ4 y_isLatin y_isLatin).before args s = true := hts _ (by decide +kernel)
  intro w hw
  rcases List.mem_append.mp hw with h | h
  · rcases List.mem_cons.mp h with rfl | h
    · exact k3_sel (y0 := y_isLatin) (by decide +kernel) rfl hi (hts _ (by decide +kernel)) (hts _ (by decide +kernel)) h0
    · rcases List.mem_cons.mp h with rfl | h
      · exact k3_sel (y0 := y_isLatin) (by decide +kernel) rfl hi (hts _ (by decide +kernel)) (hts _ (by decide +kernel)) h0
      · rcases List.mem_cons.mp h with rfl | h
        · exact k3_sel (y0 := y_isLatin) (by decide +kernel) rfl hi (hts _ (by decide +kernel)) (hts _ (by decide +kernel)) h0
        · exact absurd h List.not_mem_nil
  · exact hts w h
theorem l_mem {big : List Cond} (ws : List Cond) (ps : List Nat) (hp : ws = ps.filterMap (fun i => big[i]?)) : ∀ w ∈ ws, w ∈ big := by
  intro w hw
  rw [hp] at hw
  obtain ⟨i, -, hi⟩ := List.mem_filterMap.mp hw
  exact List.mem_of_getElem? hi
theorem l_ap {a b big : List Cond} (h1 : ∀ w ∈ a, w ∈ big) (h2 : ∀ w ∈ b, w ∈ big) : ∀ w ∈ a ++ b, w ∈ big := fun w h => (List.mem_append.mp h).elim (h1 w) (h2 w)
set_option maxRecDepth 100000 in
theorem ls_wsL_law_r1 : ∀ w ∈ wsL_law_r1, w ∈ lw_3 ++ lw_tbl := l_mem _ [53, 54, 36, 700, 701, 44, 966, 55, 56, 57, 58, 59, 60, 61, 62, 37, 186, 187, 189, 149, 190, 117, 118, 39] (by decide +kernel)
set_option maxRecDepth 100000 in
theorem ls_wsL_law_r2 : ∀ w ∈ wsL_law_r2, w ∈ lw_3 ++ lw_tbl := l_mem _ [191, 151, 69, 38, 192, 153, 154, 41, 193, 88, 185, 63, 64, 65, 66, 86, 87, 67, 89, 91, 93, 97, 71, 72] (by decide +kernel)
set_option maxRecDepth 100000 in
theorem ls_wsL_law_r3 : ∀ w ∈ wsL_law_r3, w ∈ lw_3 ++ lw_tbl := l_mem _ [73, 74, 120, 121, 122, 150, 125, 123, 126, 155, 156, 157, 158, 159, 40, 160, 161, 162, 184, 171, 172, 164, 165, 43] (by decide +kernel)
set_option maxRecDepth 100000 in
theorem ls_wsL_law_r4 : ∀ w ∈ wsL_law_r4, w ∈ lw_3 ++ lw_tbl := l_mem _ [166, 167, 168, 169, 170, 702, 703, 704, 705, 707, 708, 710, 711, 712, 714, 715, 716, 717, 718, 706, 211, 212, 213, 214] (by decide +kernel)
set_option maxRecDepth 100000 in
theorem ls_wsL_law_r5 : ∀ w ∈ wsL_law_r5, w ∈ lw_3 ++ lw_tbl := l_mem _ [215, 216, 217, 218, 219, 220, 221, 222, 223, 224, 225, 45, 226, 227, 228, 229, 230, 232, 3, 233, 188, 234, 236, 4] (by decide +kernel)
set_option maxRecDepth 100000 in
theorem ls_wsL_law_r6 : ∀ w ∈ wsL_law_r6, w ∈ lw_3 ++ lw_tbl := l_mem _ [237, 238, 239, 240, 241, 242, 244, 243, 46, 95, 99, 245, 246, 247, 248, 249, 77, 78, 250, 251, 252, 253, 254, 255] (by decide +kernel)
set_option maxRecDepth 100000 in
theorem ls_wsL_law_r7 : ∀ w ∈ wsL_law_r7, w ∈ lw_3 ++ lw_tbl := l_mem _ [256, 257, 747, 748, 749, 750, 751, 753, 15, 754, 755, 756, 757, 758, 760, 16, 761, 762, 763, 764, 765, 766, 767, 768] (by decide +kernel)
set_option maxRecDepth 100000 in
theorem ls_wsL_law_r8 : ∀ w ∈ wsL_law_r8, w ∈ lw_3 ++ lw_tbl := l_mem _ [770, 17, 771, 709, 772, 773, 774, 258, 259, 260, 261, 262, 263, 264, 265, 266, 267, 268, 269, 270, 271, 47, 272, 775] (by decide +kernel)
set_option maxRecDepth 100000 in
theorem ls_wsL_law_r9 : ∀ w ∈ wsL_law_r9, w ∈ lw_3 ++ lw_tbl := l_mem _ [776, 777, 778, 779, 780, 781, 273, 274, 275, 276, 100, 277, 278, 279, 280, 281, 282, 283, 284, 285, 286, 287, 288, 289] (by decide +kernel)
set_option maxRecDepth 100000 in
theorem ls_wsL_law_r10 : ∀ w ∈ wsL_law_r10, w ∈ lw_3 ++ lw_tbl := l_mem _ [290, 291, 292, 294, 5, 295, 296, 297, 298, 299, 782, 783, 784, 785, 786, 788, 18, 789, 790, 791, 792, 793, 794, 795] (by decide +kernel)
set_option maxRecDepth 100000 in
theorem ls_wsL_law_r11 : ∀ w ∈ wsL_law_r11, w ∈ lw_3 ++ lw_tbl := l_mem _ [796, 797, 798, 300, 301, 302, 303, 96, 304, 305, 306, 307, 799, 800, 801, 802, 803, 804, 805, 308, 309, 310, 311, 90] (by decide +kernel)
set_option maxRecDepth 100000 in
theorem ls_wsL_law_r12 : ∀ w ∈ wsL_law_r12, w ∈ lw_3 ++ lw_tbl := l_mem _ [92, 312, 313, 314, 315, 316, 806, 807, 808, 809, 810, 812, 19, 813, 317, 318, 319, 320, 321, 322, 323, 324, 814, 815] (by decide +kernel)
set_option maxRecDepth 100000 in
theorem ls_wsL_law_r13 : ∀ w ∈ wsL_law_r13, w ∈ lw_3 ++ lw_tbl := l_mem _ [816, 817, 325, 326, 327, 328, 329, 330, 331, 332, 333, 334, 335, 336, 337, 338, 339, 48, 340, 341, 342, 343, 344, 345] (by decide +kernel)
set_option maxRecDepth 100000 in
theorem ls_wsL_law_r14 : ∀ w ∈ wsL_law_r14, w ∈ lw_3 ++ lw_tbl := l_mem _ [346, 347, 348, 349, 350, 351, 352, 353, 354, 355, 356, 357, 358, 359, 360, 361, 362, 364, 6, 365, 366, 367, 368, 369] (by decide +kernel)
set_option maxRecDepth 100000 in
theorem ls_wsL_law_r15 : ∀ w ∈ wsL_law_r15, w ∈ lw_3 ++ lw_tbl := l_mem _ [370, 967, 183, 371, 372, 174, 173, 373, 968, 0, 375, 376, 377, 969, 1, 379, 380, 389, 381, 382, 49, 383, 384, 385] (by decide +kernel)
set_option maxRecDepth 100000 in
theorem ls_wsL_law_r16 : ∀ w ∈ wsL_law_r16, w ∈ lw_3 ++ lw_tbl := l_mem _ [386, 387, 388, 390, 391, 50, 392, 393, 394, 395, 396, 397, 399, 400, 401, 402, 403, 404, 406, 407, 405, 408, 409, 410] (by decide +kernel)
set_option maxRecDepth 100000 in
theorem ls_wsL_law_r17 : ∀ w ∈ wsL_law_r17, w ∈ lw_3 ++ lw_tbl := l_mem _ [51, 411, 412, 413, 414, 415, 416, 417, 418, 419, 420, 421, 422, 423, 424, 425, 426, 427, 428, 429, 430, 431, 432, 433] (by decide +kernel)
set_option maxRecDepth 100000 in
theorem ls_wsL_law_r18 : ∀ w ∈ wsL_law_r18, w ∈ lw_3 ++ lw_tbl := l_mem _ [970, 434, 435, 436, 437, 438, 439, 440, 441, 442, 444, 446, 447, 448, 470, 449, 450, 451, 452, 453, 454, 455, 456, 42] (by decide +kernel)
set_option maxRecDepth 100000 in
theorem ls_wsL_law_r19 : ∀ w ∈ wsL_law_r19, w ∈ lw_3 ++ lw_tbl := l_mem _ [457, 458, 460, 461, 52, 462, 463, 464, 465, 466, 476, 467, 468, 469, 472, 474, 477, 478, 479, 480, 481, 971, 482, 483] (by decide +kernel)
set_option maxRecDepth 100000 in
theorem ls_wsL_law_r20 : ∀ w ∈ wsL_law_r20, w ∈ lw_3 ++ lw_tbl := l_mem _ [484, 485, 486, 487, 972, 2, 489, 490, 491, 492, 493, 494, 495, 496, 497, 498, 499, 500, 501, 502, 503, 504, 505, 506] (by decide +kernel)
set_option maxRecDepth 100000 in
theorem ls_wsL_law_r21 : ∀ w ∈ wsL_law_r21, w ∈ lw_3 ++ lw_tbl := l_mem _ [507, 508, 509, 510, 511, 512, 513, 514, 515, 516, 517, 518, 519, 520, 521, 522, 973, 523, 524, 818, 819, 820, 821, 719] (by decide +kernel)
set_option maxRecDepth 100000 in
theorem ls_wsL_law_r22 : ∀ w ∈ wsL_law_r22, w ∈ lw_3 ++ lw_tbl := l_mem _ [822, 824, 20, 825, 826, 827, 828, 829, 831, 21, 832, 833, 835, 22, 836, 837, 838, 839, 840, 841, 842, 843, 845, 23] (by decide +kernel)
set_option maxRecDepth 100000 in
theorem ls_wsL_law_r23 : ∀ w ∈ wsL_law_r23, w ∈ lw_3 ++ lw_tbl := l_mem _ [846, 847, 849, 24, 850, 851, 853, 25, 854, 525, 526, 527, 528, 94, 855, 856, 857, 858, 529, 530, 531, 532, 76, 533] (by decide +kernel)
set_option maxRecDepth 100000 in
theorem ls_wsL_law_r24 : ∀ w ∈ wsL_law_r24, w ∈ lw_3 ++ lw_tbl := l_mem _ [534, 535, 536, 537, 538, 539, 540, 859, 860, 861, 862, 863, 865, 26, 866, 867, 868, 869, 541, 542, 543, 544, 545, 546] (by decide +kernel)
set_option maxRecDepth 100000 in
theorem ls_wsL_law_r25 : ∀ w ∈ wsL_law_r25, w ∈ lw_3 ++ lw_tbl := l_mem _ [547, 548, 549, 870, 871, 872, 873, 550, 551, 552, 553, 129, 554, 555, 556, 557, 558, 559, 560, 561, 562, 563, 564, 565] (by decide +kernel)
set_option maxRecDepth 100000 in
theorem ls_wsL_law_r26 : ∀ w ∈ wsL_law_r26, w ∈ lw_3 ++ lw_tbl := l_mem _ [566, 567, 568, 569, 570, 571, 572, 573, 574, 575, 577, 7, 578, 874, 875, 876, 877, 713, 878, 880, 27, 881, 882, 884] (by decide +kernel)
set_option maxRecDepth 100000 in
theorem ls_wsL_law_r27 : ∀ w ∈ wsL_law_r27, w ∈ lw_3 ++ lw_tbl := l_mem _ [28, 885, 886, 887, 888, 889, 891, 29, 892, 893, 895, 30, 896, 897, 899, 31, 900, 579, 580, 581, 582, 98, 901, 902] (by decide +kernel)
set_option maxRecDepth 100000 in
theorem ls_wsL_law_r28 : ∀ w ∈ wsL_law_r28, w ∈ lw_3 ++ lw_tbl := l_mem _ [903, 904, 583, 584, 585, 586, 587, 905, 906, 907, 908, 909, 911, 32, 912, 588, 589, 590, 591, 592, 593, 594, 595, 596] (by decide +kernel)
set_option maxRecDepth 100000 in
theorem ls_wsL_law_r29 : ∀ w ∈ wsL_law_r29, w ∈ lw_3 ++ lw_tbl := l_mem _ [913, 914, 915, 916, 597, 598, 599, 600, 127, 601, 602, 603, 604, 130, 131, 132, 128, 605, 607, 8, 608, 609, 611, 9] (by decide +kernel)
set_option maxRecDepth 100000 in
theorem ls_wsL_law_r30 : ∀ w ∈ wsL_law_r30, w ∈ lw_3 ++ lw_tbl := l_mem _ [612, 133, 613, 615, 10, 616, 75, 617, 619, 11, 620, 621, 623, 12, 624, 625, 627, 13, 628, 629, 631, 14, 632, 917] (by decide +kernel)
set_option maxRecDepth 100000 in
theorem ls_wsL_law_r31 : ∀ w ∈ wsL_law_r31, w ∈ lw_3 ++ lw_tbl := l_mem _ [918, 919, 920, 921, 923, 33, 924, 925, 927, 34, 928, 633, 634, 635, 636, 637, 638, 639, 640, 641, 974, 642, 643, 644] (by decide +kernel)
set_option maxRecDepth 100000 in
theorem ls_wsL_law_r32 : ∀ w ∈ wsL_law_r32, w ∈ lw_3 ++ lw_tbl := l_mem _ [645, 646, 647, 648, 929, 930, 931, 932, 649, 650, 651, 652, 653, 654, 933, 934, 935, 936, 655, 656, 657, 658, 659, 660] (by decide +kernel)
set_option maxRecDepth 100000 in
theorem ls_wsL_law_r33 : ∀ w ∈ wsL_law_r33, w ∈ lw_3 ++ lw_tbl := l_mem _ [661, 662, 663, 937, 938, 939, 940, 664, 665, 666, 667, 668, 669, 670, 671, 672, 673, 674, 675, 676, 941, 942, 943, 944] (by decide +kernel)
set_option maxRecDepth 100000 in
theorem ls_wsL_law_r34 : ∀ w ∈ wsL_law_r34, w ∈ lw_3 ++ lw_tbl := l_mem _ [945, 677, 678, 679, 680, 946, 947, 948, 949, 681, 682, 683, 684, 950, 951, 952, 953, 685, 686, 687, 688, 954, 955, 956] (by decide +kernel)
set_option maxRecDepth 100000 in
theorem ls_wsL_law_r35 : ∀ w ∈ wsL_law_r35, w ∈ lw_3 ++ lw_tbl := l_mem _ [957, 689, 690, 691, 692, 693, 694, 695, 958, 959, 960, 961, 696, 697, 698, 699, 962, 963, 964, 965] (by decide +kernel)
set_option maxRecDepth 100000 in
theorem ls_wsX30 : ∀ w ∈ wsX30, w ∈ lw_3 ++ lw_tbl := l_mem _ [194, 196, 198, 200, 202, 204, 206, 208] (by decide +kernel)
set_option maxRecDepth 100000 in
theorem ls_wsX40 : ∀ w ∈ wsX40, w ∈ lw_3 ++ lw_tbl := l_mem _ [720, 722, 724, 726, 728, 730, 732, 734, 736, 738, 740, 742, 744] (by decide +kernel)
set_option maxRecDepth 100000 in
theorem ls_wsX20 : ∀ w ∈ wsX20, w ∈ lw_3 ++ lw_tbl := l_mem _ [101, 103, 105, 107, 109, 111, 113] (by decide +kernel)
set_option maxRecDepth 100000 in
theorem ls_wsX00 : ∀ w ∈ wsX00, w ∈ lw_3 ++ lw_tbl := l_mem _ [134, 136, 138, 140, 142, 144, 146] (by decide +kernel)
set_option maxRecDepth 100000 in
theorem ls_wsX10 : ∀ w ∈ wsX10, w ∈ lw_3 ++ lw_tbl := l_mem _ [79, 81, 83] (by decide +kernel)
set_option maxRecDepth 100000 in
theorem ls_wsJ40 : ∀ w ∈ wsJ40, w ∈ lw_3 ++ lw_tbl := l_mem _ [175, 177, 179, 181] (by decide +kernel)
theorem wsL_sub : ∀ w ∈ wsL_law, w ∈ lw_3 ++ lw_tbl := l_ap (l_ap (l_ap (l_ap (l_ap (l_ap (l_ap (l_ap ls_wsL_law_r1 (l_ap ls_wsL_law_r2 (l_ap ls_wsL_law_r3 (l_ap ls_wsL_law_r4 (l_ap ls_wsL_law_r5 (l_ap ls_wsL_law_r6 (l_ap ls_wsL_law_r7 (l_ap ls_wsL_law_r8 (l_ap ls_wsL_law_r9 (l_ap ls_wsL_law_r10 (l_ap ls_wsL_law_r11 (l_ap ls_wsL_law_r12 (l_ap ls_wsL_law_r13 (l_ap ls_wsL_law_r14 (l_ap ls_wsL_law_r15 (l_ap ls_wsL_law_r16 (l_ap ls_wsL_law_r17 (l_ap ls_wsL_law_r18 (l_ap ls_wsL_law_r19 (l_ap ls_wsL_law_r20 (l_ap ls_wsL_law_r21 (l_ap ls_wsL_law_r22 (l_ap ls_wsL_law_r23 (l_ap ls_wsL_law_r24 (l_ap ls_wsL_law_r25 (l_ap ls_wsL_law_r26 (l_ap ls_wsL_law_r27 (l_ap ls_wsL_law_r28 (l_ap ls_wsL_law_r29 (l_ap ls_wsL_law_r30 (l_ap ls_wsL_law_r31 (l_ap ls_wsL_law_r32 (l_ap ls_wsL_law_r33 (l_ap ls_wsL_law_r34 (ls_wsL_law_r35))))))))))))))))))))))))))))))))))) ls_wsX30) ls_wsX40) ls_wsX20) ls_wsX00) ls_wsX10) ls_wsJ40) (fun _ h => absurd h List.not_mem_nil)
theorem lw_hts {s : State} {args : Array Value} (hts : ∀ w ∈ lw_tbl, w.before args s = true) : ∀ w ∈ wsL_law, w.before args s = true := fun w h => lw_3_ok hts w (wsL_sub w h)
/-- a class of arrays of primitives -/
theorem l_arr {ty : FieldType} {s : State} {args : Array Value} (h : (Cond.arrayClass ty).before args s = true) (hty : ∀ C, ty ≠ .object C) : ∃ cA : ClassId, ArrOfT s cA ty ∧ va_RA s cA ty := by
  obtain ⟨c, k, comp, h1, h2, h3⟩ := Cond.arrayClass_spec h
  refine ⟨c, fun n z => ⟨fun k h => (by cases h), k, h2, comp, h3⟩, ?_⟩
  cases ty with
  | object C => exact absurd rfl (hty C)
  | _ => exact h1
theorem l_arrO {C : String} {s : State} {args : Array Value} (h : (Cond.arrayOver (.object C)).before args s = true) : ∃ cA : ClassId, ArrOfT s cA (.object C) ∧ va_RA s cA (.object C) := by
  obtain ⟨comp, c, k, h1, h2, h3, h4, h5⟩ := Cond.arrayOver_spec h
  exact ⟨c, fun n z => ⟨fun k h => (by cases h), k, h3, comp, h4⟩, k, comp, h3, h4, h1, h5⟩
