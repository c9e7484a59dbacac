/-! ===== the law: its words ===== -/
theorem k3_sel {cls : String} {y y0 : MethodName} {s : State} {args : Array Value} {n : Nat} (hy : y.cls ≠ "java/lang/invoke/MethodHandle" ∧ y.cls ≠ "java/lang/invoke/VarHandle") (he : y0.cls = y.cls)
    (hins : (Cond.instantiable cls n).before args s = true) (hpriv : (Cond.privateMethod y).before args s = true) (hinst : (Cond.instanceMethod y).before args s = true) (h0 : (Cond.selects cls y0 y0).before args s = true) :
    (Cond.selects cls y y).before args s = true := by
  obtain ⟨c, k, hc, hk, -, -, -, -⟩ := Cond.instantiable_spec hins
  obtain ⟨mk, methM, hnamed, hmethM, -, -⟩ := Cond.instanceMethod_spec hinst
  have hfound : s.methodFound? y.cls y.name y.desc = some mk := State.methodFound?_of_named hnamed hy
  have hsel : selectMethod {} s.vm c mk = .method mk := selectMethod_private hmethM (Cond.privateMethod_at hpriv mk methM hnamed hmethM)
  obtain ⟨c2, r2, m2, -, -, q3, -, mk2, q5, q6⟩ := Cond.selects_spec h0
  have hcls : mk.cls = m2.cls := Option.some.inj ((findClass_of_methodNamed hnamed).symm.trans (by rw [← he]; exact findClass_of_methodNamed q3))
  rw [← hcls] at q5
  simp only [Cond.before, Cond.holds, Cond.value, hc, hfound, hnamed, hsel, q5]
  simp; exact q6
abbrev y_isLatin : MethodName := yJ5_isLatin1_aae02
def lw_3 : List Cond := [.selects RJ4 yJ5_ensureCapacityInternal_d00df yJ5_ensureCapacityInternal_d00df, .selects RJ4 yJ5_newCapacity_0f7a4 yJ5_newCapacity_0f7a4, .selects RJ4 yJ5_inflate_da8c8 yJ5_inflate_da8c8]
theorem lw_3_ok {s : State} {args : Array Value} (hts : ∀ w ∈ lw_tbl, w.before args s = true) : ∀ w ∈ lw_3 ++ lw_tbl, w.before args s = true := by
  have hi : (Cond.instantiable RJ4 4).before args s = true := hts _ (by decide +kernel)
  have h0 : (Cond.selects RJ4 y_isLatin y_isLatin).before args s = true := hts _ (by decide +kernel)
  intro w hw
  rcases List.mem_append.mp hw with h | h
  · rcases List.mem_cons.mp h with rfl | h
    · exact k3_sel (y0 := y_isLatin) (by decide +kernel) rfl hi (hts _ (by decide +kernel)) (hts _ (by decide +kernel)) h0
    · rcases List.mem_cons.mp h with rfl | h
      · exact k3_sel (y0 := y_isLatin) (by decide +kernel) rfl hi (hts _ (by decide +kernel)) (hts _ (by decide +kernel)) h0
      · rcases List.mem_cons.mp h with rfl | h
        · exact k3_sel (y0 := y_isLatin) (by decide +kernel) rfl hi (hts _ (by decide +kernel)) (hts _ (by decide +kernel)) h0
        · exact absurd h List.not_mem_nil
  · exact hts w h
set_option maxRecDepth 100000 in
theorem wsL_sub : ∀ w ∈ wsL_law, w ∈ lw_3 ++ lw_tbl := fun w h => (goodIn_p wsL_law [60, 63, 68, 75, 124, 160, 163, 169, 172, 707, 217, 221, 225, 229, 236, 240, 244, 251, 256, 260, 753, 757, 760, 764, 767, 770, 774, 777, 264, 268, 272, 275, 781, 784, 279, 283, 287, 291, 294, 298, 302, 788, 792, 795, 798, 801, 306, 310, 805, 808, 314, 318, 812, 816, 323, 327, 820, 331, 336, 340, 343, 350, 354, 358, 361, 364, 368, 372, 375, 379, 383, 386, 391, 395, 405, 411, 414, 417, 420, 423, 428, 431, 435, 438, 441, 444, 451, 454, 457, 460, 465, 468, 472, 483, 486, 489, 493, 496, 499, 502, 505, 508, 511, 514, 517, 520, 524, 527, 824, 828, 831, 835, 839, 842, 845, 849, 853, 857, 531, 861, 535, 538, 542, 865, 869, 872, 547, 551, 876, 556, 560, 564, 568, 572, 577, 581, 880, 884, 888, 891, 895, 899, 903, 585, 907, 589, 911, 915, 594, 598, 919, 603, 607, 611, 615, 619, 623, 627, 631, 635, 923, 927, 931, 639, 643, 646, 651, 935, 655, 939, 661, 665, 943, 670, 673, 678, 947, 683, 952, 687, 956, 691, 960, 695, 698, 964, 702, 968] (by decide +kernel) (by decide +kernel) w h).1
theorem lw_hts {s : State} {args : Array Value} (hts : ∀ w ∈ lw_tbl, w.before args s = true) : ∀ w ∈ wsL_law, w.before args s = true := fun w h => lw_3_ok hts w (wsL_sub w h)
/-- a class of arrays of primitives -/
theorem l_arr {ty : FieldType} {s : State} {args : Array Value} (h : (Cond.arrayClass ty).before args s = true) (hty : ∀ C, ty ≠ .object C) : ∃ cA : ClassId, ArrOfT s cA ty ∧ va_RA s cA ty := by
  obtain ⟨c, k, comp, h1, h2, h3⟩ := Cond.arrayClass_spec h
  refine ⟨c, fun n z => ⟨fun k h => (by cases h), k, h2, comp, h3⟩, ?_⟩
  cases ty with
  | object C => exact absurd rfl (hty C)
  | _ => exact h1
theorem l_arrO {C : String} {s : State} {args : Array Value} (h : (Cond.arrayOver (.object C)).before args s = true) : ∃ cA : ClassId, ArrOfT s cA (.object C) ∧ va_RA s cA (.object C) := by
  obtain ⟨comp, c, k, h1, h2, h3, h4, h5⟩ := Cond.arrayOver_spec h
  exact ⟨c, fun n z => ⟨fun k h => (by cases h), k, h3, comp, h4⟩, k, comp, h3, h4, h1, h5⟩
