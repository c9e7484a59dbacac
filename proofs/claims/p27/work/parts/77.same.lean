/-! ===== what the law holds against the class, all of it ===== -/
section SAME
variable {G : k_G} {M : k_M} {o sa ta ka qa wa cap t mc ms : Nat} {F : kF} {s : Nat → Int32} {f g : Nat → Int64} {q w : Nat → Int32} {post : Int32 → k_M → Prop} {x1 : Int32}
theorem l_15 (v : Int32) : ∃ k, k < 16 ∧ v &&& (15 : Int32) = nI k := by
  refine ⟨v.toBitVec.toNat % 16, Nat.mod_lt _ (by decide), b_ext (fun i hi => ?_)⟩
  have e : bt (15 : Int32) i = decide (i < 4) := (show ∀ i, i < 32 → bt (15 : Int32) i = decide (i < 4) by decide +kernel) i hi
  rw [b_and, e, bt_nI hi, show (16 : Nat) = 2 ^ 4 by decide, Nat.testBit_mod_two_pow]
  exact Bool.and_comm _ _
theorem e_1 : ((1 : Int32)).toNatClampNeg = 1 := by decide +kernel
theorem e_0 : ((0 : Int32)).toNatClampNeg = 0 := by decide +kernel
theorem vin1 : vp_in (1 : Int32) 2 := kvin (j := 1) (by decide) (by decide)
theorem vin0 : vp_in (0 : Int32) 2 := kvin (j := 0) (by decide) (by decide)
section SM1
variable {K25 : Nat → Int32 → Nat → Nat → Nat → Nat → Nat → Int32 → Int32 → Int32 → Int32 → Int32 → Int32 → Int32 → Nat → Nat → k_M → Prop} {i : Nat} {x7 x8 x9 x10 x11 x12 : Int32}
theorem sm_67 (hW : W5 G M o sa ta ka qa wa cap F s f g q w) (hR : LR t F s f g q w) (hi : i < 8) (hl : F.S.sh i ≠ 0)
    (hk : ∃ k, wp_L_same_L132 G mc ms post K25 k o x1 sa ta ka qa wa x7 x8 x9 x10 x11 x12 (nI i) (kSum (F.S.hs i).1 16) (gIn (F.S.hs i).1 65535 16) (-6 : Int32) (1 : Int32) (0 : Int32) 0 0 M) :
    ∀ n c, c + n = 16 → wp_L_same_L67 G mc ms post K25 (n + 1) o x1 sa ta ka qa wa x7 x8 x9 x10 x11 x12 (nI i) (kSum (F.S.hs i).1 c) (gIn (F.S.hs i).1 65535 c) (-6 : Int32) (1 : Int32) (nI c) 0 0 M := by
  obtain ⟨hok, hec, hq0, hq1, hsh, hsn, hhs, hms, hac, hap⟩ := id hR
  have hmc := hok.1.1
  have hv := hhs i hi hl
  intro n
  induction n with
  | zero =>
    intro c hc
    have : c = 16 := by omega
    subst this
    rw [wp_L_same_L67]
    exact ⟨fun _ => hk, fun h0 => absurd (by decide) h0⟩
  | succ n ih =>
    intro c hc
    rw [wp_L_same_L67]
    refine ⟨fun h0 => absurd h0 (kge (N := 16) (by omega) (by decide)), fun _ => ⟨Nat.zero_le _, Nat.zero_le _, s_L_height hW.L.2.1 (by omega) (by omega) ?_⟩⟩
    rw [hv.1 c (by omega)]
    have ih1 := ih (c + 1) (by omega)
    have e1 : gIn (F.S.hs i).1 65535 (c + 1) = if gIn (F.S.hs i).1 65535 c < (F.S.hs i).1 c then (F.S.hs i).1 c else gIn (F.S.hs i).1 65535 c := by
      rw [gIn, if_pos (by rw [b_65535]; exact decide_eq_true (by omega))]
    have e2 : kSum (F.S.hs i).1 (c + 1) = kSum (F.S.hs i).1 c + (F.S.hs i).1 c := rfl
    rw [e1, e2, ← kns c] at ih1
    obtain ⟨fs, ho⟩ := hW.obj
    have blk : ∀ v, v = (if gIn (F.S.hs i).1 65535 c < (F.S.hs i).1 c then (F.S.hs i).1 c else gIn (F.S.hs i).1 65535 c) → wp_L_same_b105 G mc ms post K25 (wp_L_same_L67 G mc ms post K25 (n + 1)) o x1 sa ta ka qa wa x7 x8 x9 x10 x11 x12 (nI i) (kSum (F.S.hs i).1 c + (F.S.hs i).1 c) (-6 : Int32) (1 : Int32) (nI c) ((F.S.hs i).1 c) v 0 0 M := by
      intro v hv
      unfold wp_L_same_b105
      refine ⟨fs, ho, Nat.zero_le _, Nat.zero_le _, w_height hW hmc ?_⟩
      rw [x_height_h hi hl (by omega), hv]
      exact ⟨fun _ => ih1, fun z => absurd rfl z⟩
    refine ⟨fun h1 => blk _ ?_, fun h1 => blk _ ?_⟩
    · rw [if_neg (fun z => absurd h1 (k_nle.mpr z))]
    · rw [if_pos (k_nle.mp h1)]
theorem sm_132 (hW : W5 G M o sa ta ka qa wa cap F s f g q w) (hR : LR t F s f g q w) (ht : t ≤ 40) (hi : i < 8) (hl : F.S.sh i ≠ 0) {x14 x15 : Int32}
    (hk : ∃ k, wp_L_same_L199 G mc ms post K25 k o x1 sa ta ka qa wa x7 x8 x9 x10 x11 x12 (nI i) x14 x15 (kLast (F.S.hs i).2 120) (1 : Int32) (0 : Int32) 0 0 M) :
    ∀ n e, e + n = F.S.ec → wp_L_same_L132 G mc ms post K25 (n + 1) o x1 sa ta ka qa wa x7 x8 x9 x10 x11 x12 (nI i) x14 x15 (kLast (F.S.hs i).2 e) (1 : Int32) (nI e) 0 0 M := by
  obtain ⟨hok, hec, hq0, hq1, hsh, hsn, hhs, hms, hac, hap⟩ := id hR
  have hmc := hok.1.1
  have hec2 := hok.1.2.1
  have hv := hhs i hi hl
  have hov := hok.1.2.2.2.2.1 i hi hl
  intro n
  induction n with
  | zero =>
    intro e he
    have : e = F.S.ec := by omega
    subst this
    rw [wp_L_same_L132]
    refine ⟨_, _, hW.L.2.2.2.1, vin1, ?_⟩
    try rw [e_1]
    rw [hq1]
    refine ⟨fun _ => ?_, fun h0 => absurd (nI_le (Nat.le_refl _) (by omega)) h0⟩
    have e1 := kLast_hi (p := (F.S.hs i).2) (ec := F.S.ec) (fun e he => hov.2 e he) (120 - F.S.ec)
    rw [show F.S.ec + (120 - F.S.ec) = 120 by omega] at e1
    rw [← e1]
    exact hk
  | succ n ih =>
    intro e he
    rw [wp_L_same_L132]
    refine ⟨_, _, hW.L.2.2.2.1, vin1, ?_⟩
    try rw [e_1]
    rw [hq1]
    obtain ⟨fs, ho⟩ := hW.obj
    refine ⟨fun h0 => absurd h0 (kge (by omega) (by omega)), fun _ => ⟨fs, ho, Nat.zero_le _, Nat.zero_le _, w_knows hW hmc hec2 ⟨_, _, hW.L.2.2.1, kvin (by omega) (by decide), ?_⟩⟩⟩
    rw [x_knows_h hi hl (by omega) hec2]
    try rw [kcl (show i < 2 ^ 31 by omega)]
    rw [k_bit _ (show e < 64 by omega)]
    rw [hv.2 e (by omega)]
    refine ⟨fun _ => ⟨_, _, hW.L.2.2.1, kvin (by omega) (by decide), ?_⟩, fun z => absurd rfl z⟩
    try rw [kcl (show i < 2 ^ 31 by omega)]
    have ih1 := ih (e + 1) (by omega)
    rw [← kns e, kLast] at ih1
    have ek := k_isK (g i) (show e < 64 by omega)
    rw [hv.2 e (by omega)] at ek
    refine ⟨fun h1 => ?_, fun h1 => ?_⟩
    · rw [if_neg (fun z => h1 (ek.mpr z))] at ih1
      exact ih1
    · rw [if_pos (ek.mp h1)] at ih1
      exact ih1
theorem clq_s (S : kS) (i j : Nat) : kCt (clq S i) (j + 1) = (if clq S i j = true then kCt (clq S i) j + 1 else kCt (clq S i) j) := by
  rw [kCt]
  by_cases h : clq S i j = true
  · rw [if_pos h, if_pos h]
  · rw [if_neg h, if_neg h, Nat.add_zero]
theorem sm_199 (hW : W5 G M o sa ta ka qa wa cap F s f g q w) (hR : LR t F s f g q w) (ht : t ≤ 40) (hi : i < 8) (hl : F.S.sh i ≠ 0) {x14 x15 x16 : Int32} {cl : Nat}
    (hk : ∃ k, wp_L_same_L336 G mc ms post K25 k o x1 sa ta ka qa wa x7 (nI (cl + kCt (clq F.S i) 8)) x9 x10 x11 x12 (nI i) x14 x15 x16 (k01 (frs F.S i 8)) (0 : Int32) 0 0 M) :
    ∀ n j, j + n = 8 → wp_L_same_L199 G mc ms post K25 (n + 1) o x1 sa ta ka qa wa x7 (nI (cl + kCt (clq F.S i) j)) x9 x10 x11 x12 (nI i) x14 x15 x16 (k01 (frs F.S i j)) (nI j) 0 0 M := by
  obtain ⟨hok, hec, hq0, hq1, hsh, hsn, hhs, hms, hac, hap⟩ := id hR
  have hmc := hok.1.1
  have hec2 := hok.1.2.1
  have hv := hhs i hi hl
  have hov := hok.1.2.2.2.2.1 i hi hl
  have hli : live F.S i = true := by unfold live; rw [decide_eq_false hl]; rfl
  intro n
  induction n with
  | zero =>
    intro j hj
    have : j = 8 := by omega
    subst this
    rw [wp_L_same_L199]
    exact ⟨fun _ => hk, fun h0 => absurd (by decide) h0⟩
  | succ n ih =>
    intro j hj
    rw [wp_L_same_L199]
    have ih1 := ih (j + 1) (by omega)
    have efr : frs F.S i (j + 1) = (frs F.S i j && (!(live F.S j) || decide (j = i) || !(oLt (F.S.hs i).1 (F.S.hs j).1 16))) := rfl
    rw [efr, clq_s, ← kns j] at ih1
    refine ⟨fun h0 => absurd h0 (kge (N := 8) (by omega) (by decide)), fun _ => ⟨_, _, hW.L.1, kvin (by omega) (by decide), ?_⟩⟩
    try rw [kcl (show j < 2 ^ 31 by omega)]
    rw [hsh j (by omega)]
    refine ⟨fun h0 => ?_, fun h0 => ⟨fun h1 => ?_, fun h1 => ?_⟩⟩
    · have hd : live F.S j = false := by unfold live; rw [decide_eq_true h0]; rfl
      have hcq : clq F.S i j = false := by unfold clq; rw [hd]; simp
      rw [hcq, hd, if_neg (by decide), Bool.not_false, Bool.true_or, Bool.true_or, Bool.and_true] at ih1
      exact ih1
    · have hji : j ≠ i := fun z => h1 (by rw [z])
      have hlj : live F.S j = true := by unfold live; rw [decide_eq_false h0]; rfl
      have hvj := hhs j (by omega) h0
      refine ⟨Nat.zero_le _, Nat.zero_le _, s_L_order hW.L.2.1 (by omega) (by omega) ?_⟩
      rw [hv.ord hvj]
      rw [hlj, Bool.not_true, Bool.false_or, decide_eq_false hji, Bool.false_or] at ih1
      obtain ⟨fs, ho⟩ := hW.obj
      have b277 : ∀ (x8 s0 : Int32), x8 = nI (cl + (if clq F.S i j = true then kCt (clq F.S i) j + 1 else kCt (clq F.S i) j)) → s0 = k01 (frs F.S i j && !(oLt (F.S.hs i).1 (F.S.hs j).1 16)) → wp_L_same_b277 G mc ms post K25 (wp_L_same_L199 G mc ms post K25 (n + 1)) o x1 sa ta ka qa wa x7 x8 x9 x10 x11 x12 (nI i) x14 x15 x16 (nI j) (kOrd (F.S.hs i) (F.S.hs j)) s0 0 0 M := by
        intro x8 s0 e8 es
        rw [← e8, ← es] at ih1
        unfold wp_L_same_b277
        refine ⟨fs, ho, Nat.zero_le _, Nat.zero_le _, w_order hW hmc ?_⟩
        rw [x_order_hh hi hl (by omega) h0]
        refine ⟨fun z => absurd rfl z, fun _ => ⟨fs, ho, Nat.zero_le _, Nat.zero_le _, w_more hW hmc ⟨_, _, hW.L.2.2.1, kvin (by omega) (by decide), _, _, hW.L.2.2.1, kvin (by omega) (by decide), Nat.zero_le _, Nat.zero_le _, ?_⟩⟩⟩
        try rw [kcl (show i < 2 ^ 31 by omega)]
        try rw [kcl (show j < 2 ^ 31 by omega)]
        refine s_L_bits ?_
        rw [hv.more hvj hov (by omega), x_more_hh hi hl (by omega) h0]
        exact ⟨fun _ => ih1, fun z => absurd rfl z⟩
      have b253 : ∀ (s0 : Int32), nI (cl + kCt (clq F.S i) j) + s0 = nI (cl + (if clq F.S i j = true then kCt (clq F.S i) j + 1 else kCt (clq F.S i) j)) → wp_L_same_b253 G mc ms post K25 (wp_L_same_L199 G mc ms post K25 (n + 1)) o x1 sa ta ka qa wa x7 x9 x10 x11 x12 (nI i) x14 x15 x16 (k01 (frs F.S i j)) (nI j) (kOrd (F.S.hs i) (F.S.hs j)) s0 (nI (cl + kCt (clq F.S i) j)) 0 0 M := by
        intro s0 e8
        have h02 := ord_02 (F.S.hs i).1 (F.S.hs j).1
        unfold wp_L_same_b253
        refine ⟨fun h2 => ?_, fun h2 => ⟨fun h3 => ?_, fun h3 => ⟨fun h4 => ?_, fun h4 => ?_⟩⟩⟩
        · unfold wp_L_same_b276
          refine b277 _ _ e8 ?_
          rw [k01_z.mp h2]; rfl
        · unfold wp_L_same_b272
          refine b277 _ _ e8 ?_
          rw [k01_nz h2, h02.mp (Or.inl h3)]; rfl
        · unfold wp_L_same_b276
          refine b277 _ _ e8 ?_
          have : oLt (F.S.hs i).1 (F.S.hs j).1 16 = true := ts_nf (fun z => (h02.mpr z).elim h3 h4)
          rw [this, Bool.not_true, Bool.and_false]; rfl
        · unfold wp_L_same_b272
          refine b277 _ _ e8 ?_
          rw [k01_nz h2, h02.mp (Or.inr h4)]; rfl
      have c0 : clq F.S i j = false → nI (cl + kCt (clq F.S i) j) + (0 : Int32) = nI (cl + (if clq F.S i j = true then kCt (clq F.S i) j + 1 else kCt (clq F.S i) j)) := fun z => by
        rw [z, if_neg (by decide)]
        exact nI_add _ 0
      have c1 : clq F.S i j = true → nI (cl + kCt (clq F.S i) j) + (1 : Int32) = nI (cl + (if clq F.S i j = true then kCt (clq F.S i) j + 1 else kCt (clq F.S i) j)) := fun z => by
        rw [z, if_pos rfl, kns, Nat.add_assoc]
      have hcq : clq F.S i j = (decide (i < j) && decide (kOrd (F.S.hs i) (F.S.hs j) = 3)) := by
        unfold clq
        rw [hli, hlj, Bool.true_and, Bool.true_and]
      refine ⟨fun h2 => ?_, fun h2 => ⟨fun h3 => ?_, fun h3 => ?_⟩⟩
      · have : ¬ i < j := by
          have := (nI_leI (by omega) (by omega)).mp h2
          omega
        unfold wp_L_same_b252
        exact b253 0 (c0 (by rw [hcq, decide_eq_false this]; rfl))
      · unfold wp_L_same_b252
        exact b253 0 (c0 (by rw [hcq, decide_eq_false h3, Bool.and_false]))
      · have : i < j := by
          rcases Nat.lt_or_ge i j with z | z
          · exact z
          · exact absurd (nI_le z (by omega)) h2
        exact b253 1 (c1 (by rw [hcq, decide_eq_true this, decide_eq_true h3]; rfl))
    · have hji : j = i := (nI_eq (by omega) (by omega)).mp h1
      subst hji
      have hcq : clq F.S j j = false := by unfold clq; rw [decide_eq_false (Nat.lt_irrefl j)]; rfl
      rw [hcq, if_neg (by decide), decide_eq_true (p := j = j) rfl, Bool.or_true, Bool.true_or, Bool.and_true] at ih1
      exact ih1
theorem sm_453 (hW : W5 G M o sa ta ka qa wa cap F s f g q w) (hR : LR t F s f g q w) (ht : t ≤ 40) (hi : i < 8) (hl : F.S.sh i ≠ 0) {x8 x9 x11 x12 s0 : Int32}
    (hk : K25 o x1 sa ta ka qa wa x7 x8 (x9 + nI (kKts (F.S.hs i))) s0 x11 x12 (nI i + (1 : Int32)) 0 0 M) :
    wp_L_same_b453 G mc ms post K25 o x1 sa ta ka qa wa x7 x8 x9 x11 x12 (nI i) (kSum (F.S.hs i).1 16) (gIn (F.S.hs i).1 65535 16) (kLast (F.S.hs i).2 120) (nI (kCnt (F.S.hs i))) s0 0 0 M := by
  obtain ⟨hok, hec, hq0, hq1, hsh, hsn, hhs, hms, hac, hap⟩ := id hR
  have hmc := hok.1.1
  have hv := hhs i hi hl
  obtain ⟨fs, ho⟩ := hW.obj
  unfold wp_L_same_b453
  refine ⟨Nat.zero_le _, Nat.zero_le _, s_L_knots hW.L.2.1 (by omega) ⟨fs, ho, 0, 0, Nat.zero_le _, Nat.zero_le _, w_of06 (k := 0) hW hi hl (by omega) ⟨_, _, hW.L.1, kvin (by omega) (by decide), ?_⟩⟩⟩
  rw [hv.kts]
  rw [x_of hi hl (by omega)]
  try rw [kcl (show i < 2 ^ 31 by omega)]
  rw [hsh i hi]
  rw [if_pos rfl]
  refine ⟨fun z => absurd rfl z, fun _ => ⟨fs, ho, 0, 0, Nat.zero_le _, Nat.zero_le _, w_of06 (k := 1) hW hi hl (by omega) ⟨_, _, hW.L.1, kvin (by omega) (by decide), Nat.zero_le _, Nat.zero_le _, s_L_bits ?_⟩⟩⟩
  rw [x_of hi hl (by omega)]
  try rw [kcl (show i < 2 ^ 31 by omega)]
  rw [hsh i hi]
  rw [kCt_i2l (hok.1.2.2.1 i hi)]
  rw [if_neg (by omega)]
  rw [if_pos rfl]
  refine ⟨fun z => absurd rfl z, fun _ => ⟨fs, ho, 0, 0, Nat.zero_le _, Nat.zero_le _, w_of06 (k := 2) hW hi hl (by omega) ?_⟩⟩
  rw [x_of hi hl (by omega), if_neg (by omega), if_neg (by omega), if_pos rfl]
  refine ⟨fun z => absurd rfl z, fun _ => ⟨fs, ho, 0, 0, Nat.zero_le _, Nat.zero_le _, w_of06 (k := 3) hW hi hl (by omega) ?_⟩⟩
  rw [x_of hi hl (by omega), if_neg (by omega), if_neg (by omega), if_neg (by omega), if_pos rfl]
  refine ⟨fun z => absurd rfl z, fun _ => ⟨fs, ho, 0, 0, Nat.zero_le _, Nat.zero_le _, w_of06 (k := 4) hW hi hl (by omega) ?_⟩⟩
  rw [x_of hi hl (by omega), if_neg (by omega), if_neg (by omega), if_neg (by omega), if_neg (by omega), if_pos rfl]
  refine ⟨fun z => absurd rfl z, fun _ => ⟨fs, ho, 0, 0, Nat.zero_le _, Nat.zero_le _, w_of06 (k := 5) hW hi hl (by omega) ?_⟩⟩
  rw [x_of hi hl (by omega), if_neg (by omega), if_neg (by omega), if_neg (by omega), if_neg (by omega), if_neg (by omega), if_pos rfl]
  refine ⟨fun z => absurd rfl z, fun _ => ⟨fs, ho, 0, 0, Nat.zero_le _, Nat.zero_le _, w_of06 (k := 6) hW hi hl (by omega) ⟨Nat.zero_le _, Nat.zero_le _, s_L_knots hW.L.2.1 (by omega) ?_⟩⟩⟩
  rw [hv.kts, x_of hi hl (by omega), if_neg (by omega), if_neg (by omega), if_neg (by omega), if_neg (by omega), if_neg (by omega), if_neg (by omega)]
  exact ⟨fun _ => hk, fun z => absurd rfl z⟩
theorem lr_cnt (hok : okF F) : ∀ i, i < 8 → live F.S i = true → kCnt (F.S.hs i) ≤ 120 := fun i hi hl => by
  have hl' : F.S.sh i ≠ 0 := fun z => by
    unfold live at hl
    rw [decide_eq_true z] at hl
    cases hl
  exact Nat.le_trans ((hok.1.2.2.2.2.1 i hi hl').cnt_le (by have := hok.1.2.1; omega)) hok.1.2.1
theorem sm_336 (hW : W5 G M o sa ta ka qa wa cap F s f g q w) (hR : LR t F s f g q w) (ht : t ≤ 40) (hi : i < 8) (hl : F.S.sh i ≠ 0) {x8 x9 : Int32}
    (hk : K25 o x1 sa ta ka qa wa x7 x8 (x9 + nI (kKts (F.S.hs i))) (kAns (fun i => live F.S i && isFo F.S i) (i + 1)) (lkL F.S (i + 1)) (lkF F.S (i + 1)) (nI i + (1 : Int32)) 0 0 M) :
    ∀ n m, m + n = F.S.mc → wp_L_same_L336 G mc ms post K25 (n + 1) o x1 sa ta ka qa wa x7 x8 x9 (kAns (fun i => live F.S i && isFo F.S i) i) (lkL F.S i) (lkF F.S i) (nI i) (kSum (F.S.hs i).1 16) (gIn (F.S.hs i).1 65535 16) (kLast (F.S.hs i).2 120) (k01 (frs F.S i 8)) (nI m) 0 0 M := by
  obtain ⟨hok, hec, hq0, hq1, hsh, hsn, hhs, hms, hac, hap⟩ := id hR
  have hmc := hok.1.1
  have hv := hhs i hi hl
  have hov := hok.1.2.2.2.2.1 i hi hl
  have hli : live F.S i = true := by unfold live; rw [decide_eq_false hl]; rfl
  obtain ⟨fs, ho⟩ := hW.obj
  obtain ⟨l1, l2⟩ := lk_live (lr_cnt hok) hi hli
  have eA := kAns_s (fun i => live F.S i && isFo F.S i) i (by omega)
  have ef : (live F.S i && isFo F.S i) = frs F.S i 8 := by rw [hli, Bool.true_and, isFo_frs]
  rw [ef] at eA
  have b436 : ∀ x11 x12, x11 = lkL F.S (i + 1) → x12 = lkF F.S (i + 1) → wp_L_same_b436 G mc ms post K25 o x1 sa ta ka qa wa x7 x8 x9 (kAns (fun i => live F.S i && isFo F.S i) i) x11 x12 (nI i) (kSum (F.S.hs i).1 16) (gIn (F.S.hs i).1 65535 16) (kLast (F.S.hs i).2 120) (k01 (frs F.S i 8)) (nI (kCnt (F.S.hs i))) 0 0 M := by
    intro x11 x12 e11 e12
    rw [← e11, ← e12, eA] at hk
    unfold wp_L_same_b436
    refine ⟨fun h1 => ?_, fun h1 => ⟨fun h2 => ?_, fun h2 => ?_⟩⟩
    · rw [if_pos h1] at hk
      unfold wp_L_same_b451
      exact sm_453 hW hR ht hi hl hk
    · rw [if_neg h1, k01_z.mp h2, if_neg (by decide)] at hk
      have e6 : kAns (fun i => live F.S i && isFo F.S i) i = -6 := by
        unfold kAns at h1 ⊢
        split
        · rename_i z
          rw [if_pos z] at h1
          exact absurd (nI_pos' (by omega)) h1
        · rfl
      unfold wp_L_same_b451
      rw [e6]
      exact sm_453 hW hR ht hi hl hk
    · rw [if_neg h1, if_pos (k01_nz h2)] at hk
      exact sm_453 hW hR ht hi hl hk
  intro n
  induction n with
  | zero =>
    intro m hm
    have : m = F.S.mc := by omega
    subst this
    rw [wp_L_same_L336]
    refine ⟨_, _, hW.L.2.2.2.1, vin0, ?_⟩
    try rw [e_0]
    rw [hq0]
    refine ⟨fun _ => ⟨_, _, hW.L.2.2.1, kvin (by omega) (by decide), Nat.zero_le _, Nat.zero_le _, ?_⟩, fun h0 => absurd (nI_le (Nat.le_refl _) (by omega)) h0⟩
    try rw [kcl (show i < 2 ^ 31 by omega)]
    refine s_L_bits ?_
    rw [hv.cnt hov (by omega)]
    refine ⟨fun h1 => ?_, fun h1 => ?_⟩
    · obtain ⟨a, b⟩ := l1 h1
      exact b436 _ _ a.symm b.symm
    · obtain ⟨a, b⟩ := l2 h1
      exact b436 _ _ a.symm b.symm
  | succ n ih =>
    intro m hm
    rw [wp_L_same_L336]
    refine ⟨_, _, hW.L.2.2.2.1, vin0, ?_⟩
    try rw [e_0]
    rw [hq0]
    have hvm := hms m (by omega)
    refine ⟨fun h0 => absurd h0 (kge (by omega) (by omega)), fun _ => ⟨fs, ho, Nat.zero_le _, Nat.zero_le _, w_order hW hmc ⟨Nat.zero_le _, Nat.zero_le _, ?_⟩⟩⟩
    rw [show (8 : Int32) + nI m = nI (8 + m) from nI_add 8 m]
    refine s_L_order hW.L.2.1 (by omega) (by omega) ?_
    rw [x_order_hm hi hl (by omega) hmc, hv.ord hvm]
    refine ⟨fun z => absurd rfl z, fun _ => ⟨fs, ho, Nat.zero_le _, Nat.zero_le _, w_more hW hmc ⟨_, _, hW.L.2.2.1, kvin (by omega) (by decide), _, _, hW.L.2.2.1, kvin (by omega) (by decide), Nat.zero_le _, Nat.zero_le _, ?_⟩⟩⟩
    try rw [kcl (show 8 + m < 2 ^ 31 by omega)]
    try rw [kcl (show i < 2 ^ 31 by omega)]
    refine s_L_bits ?_
    rw [hvm.more hv (hok.1.2.2.2.2.2 m (by omega)) (by omega), x_more_mh hi hl (by omega) hmc]
    have ih1 := ih (m + 1) (by omega)
    rw [← kns m] at ih1
    exact ⟨fun _ => ih1, fun z => absurd rfl z⟩
end SM1
theorem sm_725 (hW : W5 G M o sa ta ka qa wa cap F s f g q w) (hR : LR t F s f g q w) (ht : t ≤ 40) (hB : 62 ≤ mc ∧ 8804 ≤ ms)
    (hp : ∀ M1 cap', W5 G M1 o sa ta ka qa wa cap' F s f g q w → post (1 : Int32) M1) :
    ∀ n e, e + n = F.S.ec → wp_L_same_L725 G mc ms post (n + 1) o ta qa wa (hset F.S 8) (nI (clO F.S 8)) (nI (kHk F.S 8)) (kAns (fun i => live F.S i && isFo F.S i) 8) (lkL F.S 8) (lkF F.S 8) (nI e) 0 0 M := by
  obtain ⟨hok, hec, hq0, hq1, hsh, hsn, hhs, hms, hac, hap⟩ := id hR
  have hmc := hok.1.1
  have hec2 := hok.1.2.1
  obtain ⟨fs, ho⟩ := hW.obj
  have hany : kAny (live F.S) 8 = true := by
    obtain ⟨h, h8, hh⟩ := hok.1.2.2.2.1
    rw [kAny_iff]
    exact ⟨h, h8, by unfold live; rw [decide_eq_false hh]; rfl⟩
  obtain ⟨lv, l8, l2⟩ := (lk_inv F.S (lr_cnt hok) 8 (by omega)).1 hany
  have eL : lkL F.S 8 = nI (lkS F.S 8).1 := if_pos hany
  have eF : lkF F.S 8 = nI (kCnt (F.S.hs (lkS F.S 8).1)) := by unfold lkF; rw [if_pos hany, l2]
  have hlx : F.S.sh (lkS F.S 8).1 ≠ 0 := fun z => by
    unfold live at lv
    rw [decide_eq_true z] at lv
    cases lv
  have xl0 : xlag F 0 = nI (lkS F.S 8).1 := if_pos rfl
  have xl1 : xlag F 1 = nI F.S.ec - nI (kCnt (F.S.hs (lkS F.S 8).1)) := by
    unfold xlag
    rw [if_neg (by decide), if_pos rfl]
  rw [eL, eF]
  have hb : ∀ c, c < 16 → uI ((F.S.hs (lkS F.S 8).1).1 c) < 1000 := fun c hc => by
    have := (hok.1.2.2.2.2.1 _ l8 hlx).1 c hc
    omega
  intro n
  induction n with
  | zero =>
    intro e he
    have : e = F.S.ec := by omega
    subst this
    rw [wp_L_same_L725]
    refine ⟨_, _, hW.L.2.2.2.1, vin1, ?_⟩
    try rw [e_1]
    rw [hq1]
    refine ⟨fun _ => ⟨mc, ms, by omega, by omega, s_L_text hW (Or.inr hB) l8 hlx hb (hhs _ l8 hlx).1 (fun M1 cap1 hL1 hW1 => ?_)⟩, fun h0 => absurd (nI_le (Nat.le_refl _) (by omega)) h0⟩
    obtain ⟨fs1, ho1⟩ := hW1.obj
    refine ⟨fs1, ho1, 0, 0, by omega, by omega, w_of7 hW1 (Or.inl hL1) l8 hlx hb (fun M2 cap2 hL2 hcc hW2 => ?_)⟩
    obtain ⟨fs2, ho2⟩ := hW2.obj
    have b1 : 0 + mc + 0 ≤ mc := by omega
    have b2 : 0 + ms + 0 ≤ ms := by omega
    refine ⟨fun z => absurd rfl z, fun _ => ⟨fs2, ho2, b1, b2, w_count hW2 ?_⟩⟩
    rw [show xcount F (0 : Int32) = hset F.S 8 from x_count0]
    refine ⟨fun z => absurd rfl z, fun _ => ⟨fs2, ho2, b1, b2, w_count hW2 ⟨_, _, hW2.L.2.2.2.1, vin0, ?_⟩⟩⟩
    rw [show xcount F (1 : Int32) = nI F.S.mc from x_count1]
    try rw [e_0]
    rw [hq0]
    refine ⟨fun z => absurd rfl z, fun _ => ⟨fs2, ho2, b1, b2, w_count hW2 ⟨_, _, hW2.L.2.2.2.1, vin1, ?_⟩⟩⟩
    rw [show xcount F (2 : Int32) = nI F.S.ec from x_count2]
    try rw [e_1]
    rw [hq1]
    refine ⟨fun z => absurd rfl z, fun _ => ⟨fs2, ho2, b1, b2, w_count hW2 ?_⟩⟩
    rw [show xcount F (3 : Int32) = nI (clO F.S 8) from x_count3]
    refine ⟨fun z => absurd rfl z, fun _ => ⟨fs2, ho2, b1, b2, w_count hW2 ?_⟩⟩
    rw [show xcount F (4 : Int32) = nI (kHk F.S 8) from x_count4]
    refine ⟨fun z => absurd rfl z, fun _ => ⟨fs2, ho2, b1, b2, w_count hW2 ?_⟩⟩
    rw [show xcount F (5 : Int32) = kAns (fun i => live F.S i && isFo F.S i) 8 from x_count5]
    refine ⟨fun z => absurd rfl z, fun _ => ⟨fs2, ho2, b1, b2, w_lag hW2 ?_⟩⟩
    rw [xl0]
    refine ⟨fun z => absurd rfl z, fun _ => ⟨fs2, ho2, b1, b2, w_lag hW2 ⟨_, _, hW2.L.2.2.2.1, vin1, ?_⟩⟩⟩
    rw [xl1]
    try rw [e_1]
    rw [hq1]
    refine ⟨fun z => absurd rfl z, fun _ => ⟨_, _, hW2.L.2.2.2.1, vin1, fs2, ho2, b1, b2, ?_⟩⟩
    try rw [e_1]
    rw [hq1]
    refine w_whose hW2 hec2 ?_
    rw [x_whose_n hec2]
    exact ⟨fun z => absurd rfl z, fun _ => ⟨b1, b2, hp M2 cap2 hW2⟩⟩
  | succ n ih =>
    intro e he
    rw [wp_L_same_L725]
    refine ⟨_, _, hW.L.2.2.2.1, vin1, ?_⟩
    try rw [e_1]
    rw [hq1]
    refine ⟨fun h0 => absurd h0 (kge (by omega) (by omega)), fun _ => ⟨fs, ho, Nat.zero_le _, Nat.zero_le _, w_whose hW hec2 ⟨_, _, hW.L.2.2.2.2, kvin (show e < 40 by omega) (by decide), ?_⟩⟩⟩
    rw [x_whose (by omega) hec2]
    try rw [kcl (show e < 2 ^ 31 by omega)]
    rw [hac e (by omega)]
    have ih1 := ih (e + 1) (by omega)
    rw [← kns e] at ih1
    exact ⟨fun _ => ih1, fun z => absurd rfl z⟩
theorem sm_589 (hW : W5 G M o sa ta ka qa wa cap F s f g q w) (hR : LR t F s f g q w) (ht : t ≤ 40) {K574 : Nat → Int32 → Nat → Nat → Nat → Nat → Nat → Int32 → Int32 → Int32 → Int32 → Int32 → Int32 → Int32 → Nat → Nat → k_M → Prop} {m : Nat} (hm : m < F.S.mc) {x7 x8 x9 x10 x11 x12 : Int32}
    (hk : K574 o x1 sa ta ka qa wa x7 x8 x9 x10 x11 x12 (nI m + (1 : Int32)) 0 0 M) :
    ∀ n c, c + n = 16 → wp_L_same_L589 G mc ms post K574 (n + 1) o x1 sa ta ka qa wa x7 x8 x9 x10 x11 x12 (nI m) (kSum (F.S.ms m).1 c) (nI c) 0 0 M := by
  obtain ⟨hok, hec, hq0, hq1, hsh, hsn, hhs, hms, hac, hap⟩ := id hR
  have hmc := hok.1.1
  have hv := hms m hm
  have hov := hok.1.2.2.2.2.2 m hm
  obtain ⟨fs, ho⟩ := hW.obj
  intro n
  induction n with
  | zero =>
    intro c hc
    have : c = 16 := by omega
    subst this
    rw [wp_L_same_L589]
    refine ⟨fun _ => ⟨fs, ho, Nat.zero_le _, Nat.zero_le _, w_ofM hW hmc ?_⟩, fun h0 => absurd (by decide) h0⟩
    rw [show (8 : Int32) + nI m = nI (8 + m) from nI_add 8 m]
    refine ⟨_, _, hW.L.1, kvin (by omega) (by decide), ?_⟩
    try rw [kcl (show 8 + m < 2 ^ 31 by omega)]
    rw [hsn m hm]
    rw [show xofM F (nI m) (0 : Int32) = F.S.sn m from x_ofM (k := 0) hm hmc (by omega)]
    refine ⟨fun z => absurd rfl z, fun _ => ⟨fs, ho, Nat.zero_le _, Nat.zero_le _, w_ofM hW hmc ?_⟩⟩
    rw [show xofM F (nI m) (1 : Int32) = kSum (F.S.ms m).1 16 from x_ofM (k := 1) hm hmc (by omega)]
    refine ⟨fun z => absurd rfl z, fun _ => ⟨fs, ho, Nat.zero_le _, Nat.zero_le _, w_ofM hW hmc ⟨_, _, hW.L.2.2.1, kvin (by omega) (by decide), Nat.zero_le _, Nat.zero_le _, ?_⟩⟩⟩
    try rw [kcl (show 8 + m < 2 ^ 31 by omega)]
    refine s_L_bits ?_
    rw [hv.cnt hov (by omega), show xofM F (nI m) (2 : Int32) = nI (kCnt (F.S.ms m)) from x_ofM (k := 2) hm hmc (by omega)]
    refine ⟨fun z => absurd rfl z, fun _ => ⟨fs, ho, Nat.zero_le _, Nat.zero_le _, w_ofM hW hmc ⟨Nat.zero_le _, Nat.zero_le _, s_L_knots hW.L.2.1 (by omega) ?_⟩⟩⟩
    rw [hv.kts, show xofM F (nI m) (3 : Int32) = nI (kKts (F.S.ms m)) from x_ofM (k := 3) hm hmc (by omega)]
    obtain ⟨c, hc, ec⟩ := l_15 x1
    rw [ec]
    refine ⟨fun z => absurd rfl z, fun _ => ⟨fs, ho, Nat.zero_le _, Nat.zero_le _, w_height hW hmc ⟨Nat.zero_le _, Nat.zero_le _, s_L_height hW.L.2.1 (by omega) hc ?_⟩⟩⟩
    rw [x_height_m hm hmc hc, hv.1 c hc]
    exact ⟨fun _ => hk, fun z => absurd rfl z⟩
  | succ n ih =>
    intro c hc
    rw [wp_L_same_L589]
    dsimp only
    rw [show (8 : Int32) + nI m = nI (8 + m) from nI_add 8 m]
    refine ⟨fun h0 => absurd h0 (kge (N := 16) (by omega) (by decide)), fun _ => ⟨Nat.zero_le _, Nat.zero_le _, s_L_height hW.L.2.1 (by omega) (by omega) ?_⟩⟩
    rw [hv.1 c (by omega)]
    have ih1 := ih (c + 1) (by omega)
    rw [← kns c, kSum] at ih1
    exact ih1
theorem sm_574 (hW : W5 G M o sa ta ka qa wa cap F s f g q w) (hR : LR t F s f g q w) (ht : t ≤ 40) {x7 x8 x9 x10 x11 x12 : Int32}
    (hk : ∃ k, wp_L_same_L725 G mc ms post k o ta qa wa x7 x8 x9 x10 x11 x12 (0 : Int32) 0 0 M) :
    ∀ n m, m + n = F.S.mc → wp_L_same_L574 G mc ms post (n + 1) o x1 sa ta ka qa wa x7 x8 x9 x10 x11 x12 (nI m) 0 0 M := by
  obtain ⟨hok, hec, hq0, hq1, hsh, hsn, hhs, hms, hac, hap⟩ := id hR
  have hmc := hok.1.1
  intro n
  induction n with
  | zero =>
    intro m hm
    have : m = F.S.mc := by omega
    subst this
    rw [wp_L_same_L574]
    refine ⟨_, _, hW.L.2.2.2.1, vin0, ?_⟩
    try rw [e_0]
    rw [hq0]
    exact ⟨fun _ => hk, fun h0 => absurd (nI_le (Nat.le_refl _) (by omega)) h0⟩
  | succ n ih =>
    intro m hm
    rw [wp_L_same_L574]
    refine ⟨_, _, hW.L.2.2.2.1, vin0, ?_⟩
    try rw [e_0]
    rw [hq0]
    have ih1 := ih (m + 1) (by omega)
    rw [← kns m] at ih1
    exact ⟨fun h0 => absurd h0 (kge (by omega) (by omega)), fun _ => ⟨17, sm_589 hW hR ht (by omega) ih1 16 0 (by omega)⟩⟩
theorem sm_25 (hW : W5 G M o sa ta ka qa wa cap F s f g q w) (hR : LR t F s f g q w) (ht : t ≤ 40)
    (hk : ∃ k, wp_L_same_L574 G mc ms post k o x1 sa ta ka qa wa (hset F.S 8) (nI (clO F.S 8)) (nI (kHk F.S 8)) (kAns (fun i => live F.S i && isFo F.S i) 8) (lkL F.S 8) (lkF F.S 8) (0 : Int32) 0 0 M) :
    ∀ n i, i + n = 8 → wp_L_same_L25 G mc ms post (n + 1) o x1 sa ta ka qa wa (hset F.S i) (nI (clO F.S i)) (nI (kHk F.S i)) (kAns (fun i => live F.S i && isFo F.S i) i) (lkL F.S i) (lkF F.S i) (nI i) 0 0 M := by
  obtain ⟨hok, hec, hq0, hq1, hsh, hsn, hhs, hms, hac, hap⟩ := id hR
  have hmc := hok.1.1
  intro n
  induction n with
  | zero =>
    intro i hi
    have : i = 8 := by omega
    subst this
    rw [wp_L_same_L25]
    exact ⟨fun _ => hk, fun h0 => absurd (by decide) h0⟩
  | succ n ih =>
    intro i hi
    rw [wp_L_same_L25]
    have ih1 := ih (i + 1) (by omega)
    refine ⟨fun h0 => absurd h0 (kge (N := 8) (by omega) (by decide)), fun _ => ⟨_, _, hW.L.1, kvin (by omega) (by decide), ?_⟩⟩
    try rw [kcl (show i < 2 ^ 31 by omega)]
    rw [hsh i (by omega)]
    refine ⟨fun h0 => ⟨17, ?_⟩, fun h0 => ?_⟩
    · have hli : live F.S i = true := by unfold live; rw [decide_eq_false h0]; rfl
      have e1 : hset F.S (i + 1) = hset F.S i ||| ((1 : Int32) <<< (nI i &&& 31)) := by rw [hset, if_pos hli]
      have e2 : kHk F.S (i + 1) = kHk F.S i + kKts (F.S.hs i) := by rw [kHk, if_pos hli]
      have e3 : clO F.S (i + 1) = clO F.S i + kCt (clq F.S i) 8 := rfl
      rw [e1, e2, e3, ← nI_add (kHk F.S i), ← kns i] at ih1
      exact sm_67 hW hR (by omega) h0 ⟨F.S.ec + 1, sm_132 hW hR ht (by omega) h0 ⟨9, sm_199 hW hR ht (by omega) h0 ⟨F.S.mc + 1, sm_336 hW hR ht (by omega) h0 ih1 F.S.mc 0 (by omega)⟩ 8 0 (by omega)⟩ F.S.ec 0 (by omega)⟩ 16 0 (by omega)
    · have hd : live F.S i = false := by unfold live; rw [decide_eq_true h0]; rfl
      have e1 : hset F.S (i + 1) = hset F.S i := by rw [hset, if_neg (by rw [hd]; decide)]
      have e2 : kHk F.S (i + 1) = kHk F.S i := by rw [kHk, if_neg (by rw [hd]; decide)]
      have e3 : clO F.S (i + 1) = clO F.S i := by
        show clO F.S i + kCt (clq F.S i) 8 = _
        rw [kCt_0 (fun j _ => by unfold clq; rw [hd]; simp), Nat.add_zero]
      have e4 : kAns (fun i => live F.S i && isFo F.S i) (i + 1) = kAns (fun i => live F.S i && isFo F.S i) i := by
        rw [kAns_s _ _ (by omega)]
        rw [hd, Bool.false_and]
        by_cases z : 0 ≤ kAns (fun i => live F.S i && isFo F.S i) i
        · rw [if_pos z]
        · rw [if_neg z, if_neg (by decide)]
          unfold kAns at z ⊢
          split
          · rename_i y
            rw [if_pos y] at z
            exact absurd (nI_pos' (by omega)) z
          · rfl
      obtain ⟨e5, e6⟩ := lk_dead hd
      rw [e1, e2, e3, e4, e5, e6, ← kns i] at ih1
      exact ih1
theorem s_L_same (hW : W5 G M o sa ta ka qa wa cap F s f g q w) (hR : LR t F s f g q w) (ht : t ≤ 40) (hB : 62 ≤ mc ∧ 8804 ≤ ms)
    (hp : ∀ M1 cap', W5 G M1 o sa ta ka qa wa cap' F s f g q w → post (1 : Int32) M1) : wp_L_same G mc ms post o x1 sa ta ka qa wa M := by
  unfold wp_L_same
  exact ⟨9, sm_25 hW hR ht ⟨F.S.mc + 1, sm_574 hW hR ht ⟨F.S.ec + 1, sm_725 hW hR ht hB hp F.S.ec 0 (by omega)⟩ F.S.mc 0 (by omega)⟩ 8 0 (by omega)⟩
end SAME
