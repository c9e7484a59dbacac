/-! ===== the law's fork ===== -/
theorem kCt_sub {p r : Nat → Bool} : ∀ {n : Nat}, (∀ i, i < n → p i = true → r i = true) → kCt p n ≤ kCt r n := by
  intro n
  induction n with
  | zero => intro _; exact Nat.le_refl _
  | succ n ih =>
    intro h
    have := ih (fun i hi => h i (by omega))
    rw [kCt, kCt]
    cases hp : p n with
    | true => rw [h n (by omega) hp, if_pos rfl]; omega
    | false => rw [if_neg (by decide)]; split <;> omega
theorem kCt_sube {p r : Nat → Bool} : ∀ {n : Nat}, (∀ i, i < n → p i = true → r i = true) → kCt p n = kCt r n → ∀ i, i < n → p i = r i := by
  intro n
  induction n with
  | zero => intro _ _ i hi; exact absurd hi (Nat.not_lt_zero i)
  | succ n ih =>
    intro h e i hi
    have h1 := kCt_sub (n := n) (p := p) (r := r) (fun i hi => h i (by omega))
    rw [kCt, kCt] at e
    have hn : p n = r n := by
      cases hp : p n with
      | true => rw [h n (by omega) hp]
      | false =>
        cases hr : r n with
        | false => rfl
        | true => rw [hp, hr, if_neg (by decide), if_pos rfl] at e; omega
    by_cases z : i = n
    · rw [z]; exact hn
    · refine ih (fun i hi => h i (by omega)) ?_ i (by omega)
      rw [hn] at e
      exact Nat.add_right_cancel e
def pfx (sh x : Int32) : Prop := ∃ c, ∀ i, i < 32 → bt x i = (bt sh i && decide (i < c))
theorem pfx_eq {sh x y : Int32} (hx : pfx sh x) (hy : pfx sh y) (e : kCt (bt x) 32 = kCt (bt y) 32) : x = y := by
  obtain ⟨c, hc⟩ := hx
  obtain ⟨d, hd⟩ := hy
  have sub : ∀ {x y : Int32} {c d : Nat}, (∀ i, i < 32 → bt x i = (bt sh i && decide (i < c))) → (∀ i, i < 32 → bt y i = (bt sh i && decide (i < d))) → c ≤ d → ∀ i, i < 32 → bt x i = true → bt y i = true := by
    intro x y c d hc hd hcd i hi h
    rw [hc i hi, Bool.and_eq_true] at h
    rw [hd i hi, h.1, decide_eq_true (show i < d by have := of_decide_eq_true h.2; omega)]
    rfl
  rcases Nat.le_total c d with z | z
  · exact b_ext (fun i hi => kCt_sube (sub hc hd z) e i hi)
  · exact b_ext (fun i hi => (kCt_sube (sub hd hc z) e.symm i hi).symm)
theorem low_pfx {sh : Int32} {A : Nat} : ∀ n, n ≤ 16 → ∃ c, c ≤ n ∧ (∀ i, i < 32 → bt (lowC sh (nI A) n) i = (bt sh i && decide (i < c))) ∧ (c = n ∨ nI A ≤ nI (kCt (bt (lowC sh (nI A) n)) 32)) := by
  intro n
  induction n with
  | zero =>
    intro _
    have l0 : lowC sh (nI A) 0 = 0 := rfl
    exact ⟨0, Nat.le_refl _, fun i _ => by rw [l0, b_0, decide_eq_false (Nat.not_lt_zero i), Bool.and_false], Or.inl rfl⟩
  | succ n ih =>
    intro hn
    obtain ⟨c, h1, h2, h3⟩ := ih (by omega)
    rw [lowC]
    by_cases hlt : nI A ≤ nI (kCt (bt (lowC sh (nI A) n)) 32)
    · rw [if_pos hlt]
      exact ⟨c, by omega, h2, Or.inr hlt⟩
    · rw [if_neg hlt]
      have hcn : c = n := h3.resolve_right hlt
      subst hcn
      refine ⟨c + 1, Nat.le_refl _, fun i hi => ?_, Or.inl rfl⟩
      rw [b_or, b_and, bt_one (by omega) hi, h2 i hi]
      by_cases e : i = c
      · subst e
        rw [decide_eq_true (p := i = i) rfl, decide_eq_true (show i < i + 1 by omega), decide_eq_false (Nat.lt_irrefl i)]
        simp
      · rw [decide_eq_false e, Bool.and_false, Bool.or_false]
        congr 1
        have : (i < c) ↔ (i < c + 1) := by omega
        exact decide_eq_decide.mpr this
theorem stay_pfx (sh : Int32) : pfx sh (stay sh) := by
  rw [stay_nI]
  obtain ⟨c, -, h, -⟩ := low_pfx (sh := sh) (A := (kCt (bt sh) 32 + 1) / 2) 16 (by omega)
  exact ⟨c, h⟩
theorem stay_ct {sh : Int32} (h : ∀ i, 16 ≤ i → bt sh i = false) (h1 : 1 ≤ kCt (bt sh) 32) : kCt (bt (stay sh)) 32 = (kCt (bt sh) 32 + 1) / 2 := by
  have hle : kCt (bt sh) 32 ≤ 32 := kCt_le
  rw [stay_nI, (lowC_spec (sh := sh) (A := (kCt (bt sh) 32 + 1) / 2) (by omega) 16 (by omega)).2.2, kCt_16 h]
  omega
theorem nI_m1 (i : Nat) : nI (i + 1) + (-1 : Int32) = nI i := by
  rw [← kns, Int32.add_assoc, show (1 : Int32) + (-1) = 0 by decide, Int32.add_zero]
section FORK
variable {G : k_G} {M : k_M} {o sa ta ka qa wa cap t mc ms kc ks : Nat} {F : kF} {s : Nat → Int32} {f g : Nat → Int64} {q w : Nat → Int32} {post : Int32 → k_M → Prop}
variable {K43 : Nat → Nat → Nat → Nat → Nat → Nat → Nat → Int32 → Nat → Nat → k_M → Prop} {x0 h : Nat} {x7 x8 x11 s0 : Int32}
theorem a_276 {K261 : Nat → Nat → Nat → Nat → Nat → Nat → Nat → Int32 → Int32 → Int32 → Int32 → Int32 → Int32 → Nat → Nat → k_M → Prop} {x x10 x13 x15 : Int32}
    (hK : ∀ top, top < 16 → bt x top = true → (∀ b, top < b → bt x b = false) → K261 x0 o sa ta ka qa wa x7 x8 x10 x13 x15 (x ^^^ ((1 : Int32) <<< (nI top &&& 31))) kc ks M) :
    ∀ i, i < 16 → (∀ b, i < b → bt x b = false) → (∃ b, b ≤ i ∧ bt x b = true) → wp_L_law_L276 G mc ms post K43 K261 (i + 1) x0 o sa ta ka qa wa x7 x8 x10 x13 x15 x (nI i) kc ks M := by
  intro i
  induction i with
  | zero =>
    intro hi h1 h2
    obtain ⟨b, hb, hx⟩ := h2
    have : b = 0 := by omega
    subst this
    rw [wp_L_law_L276]
    refine ⟨fun _ => hK 0 hi hx h1, fun z => ?_⟩
    rw [(kb_isIn0 x (by omega)).mp z] at hx
    cases hx
  | succ i ih =>
    intro hi h1 h2
    rw [wp_L_law_L276]
    refine ⟨fun z => hK (i + 1) hi (ts_nf (fun y => z ((kb_isIn0 x (by omega)).mpr y))) h1, fun z => ?_⟩
    have hz := (kb_isIn0 x (by omega)).mp z
    rw [nI_m1]
    refine ih (by omega) (fun b hb => ?_) ?_
    · by_cases e : b = i + 1
      · rw [e]; exact hz
      · exact h1 b (by omega)
    · obtain ⟨b, hb, hx⟩ := h2
      refine ⟨b, ?_, hx⟩
      by_cases e : b = i + 1
      · rw [e, hz] at hx; cases hx
      · omega
theorem a_261 {n : Nat} (hW : W5 G M o sa ta ka qa wa cap (splS F.S h n, (remF F).2) s f g q w) (hR : LR t F s f g q w) (ht : t < 28) (hkc : kc ≤ mc) (hks : ks ≤ ms) (hh : h < 8) (hl : F.S.sh h ≠ 0) (hn : n < 8) (hnh : h ≠ n) (hd : F.S.sh n = 0) (hokf : okF (splS F.S h n, (remF F).2))
    (hC : ∀ (M1 : k_M) (F1 : kF) (s1 : Nat → Int32) (f1 g1 : Nat → Int64) (q1 w1 : Nat → Int32), W5 G M1 o sa ta ka qa wa cap F1 s1 f1 g1 q1 w1 → LR (t + 1) F1 s1 f1 g1 q1 w1 → wp_L_law_b988 G mc ms post K43 x0 o sa ta ka qa wa x7 x8 kc ks M1) :
    ∀ (k : Nat) (x : Int32), pfx (F.S.sh h) x → kCt (bt x) 32 = (kCt (bt (F.S.sh h)) 32 + 1) / 2 + k → wp_L_law_L261 G mc ms post K43 (k + 1) x0 o sa ta ka qa wa x7 x8 (nI h) (nI n) (nI ((kCt (bt (F.S.sh h)) 32 + 1) / 2)) x kc ks M := by
  obtain ⟨hok, hec, hq0, hq1, hsh, hsn, hhs, hms, hac, hap⟩ := id hR
  have hmc := hok.1.1
  have h16 := hok.1.2.2.1 h hh
  have h1 := kCt_one hl
  have hle : kCt (bt (F.S.sh h)) 32 ≤ 32 := kCt_le
  have hx16 : ∀ x, pfx (F.S.sh h) x → ∀ i, 16 ≤ i → bt x i = false := fun x hx i hi => by
    rcases Nat.lt_or_ge i 32 with z | z
    · obtain ⟨c, hc⟩ := hx
      rw [hc i z, h16 i hi]; rfl
    · exact b_big z
  intro k
  induction k with
  | zero =>
    intro x hx hct
    rw [Nat.add_zero] at hct
    have ex : x = stay (F.S.sh h) := pfx_eq hx (stay_pfx _) (by rw [hct, stay_ct h16 h1])
    rw [wp_L_law_L261]
    refine ⟨hkc, hks, s_L_bits ?_⟩
    rw [kCt_i2l (hx16 x hx), hct]
    refine ⟨fun _ => ?_, fun z => absurd (nI_le (Nat.le_refl _) (by omega)) z⟩
    refine ⟨_, _, hW.L.1, kvin (by omega) (by decide), _, _, hW.L.1, kvin (by omega) (by decide), fun M1 e1 => ?_⟩
    try rw [kcl (show h < 2 ^ 31 by omega)] at e1
    try rw [kcl (show n < 2 ^ 31 by omega)] at e1
    rw [hsh h hh] at e1
    rw [ex] at e1
    have hW1 : W5 G M1 o sa ta ka qa wa cap (splS F.S h n, (remF F).2) (upd s n (F.S.sh h ^^^ stay (F.S.sh h))) f g q w := by rw [e1]; exact hW.us _
    refine ⟨_, _, hW1.L.1, kvin (by omega) (by decide), fun M2 e2 => ?_⟩
    try rw [kcl (show h < 2 ^ 31 by omega)] at e2
    rw [ex] at e2
    have hW2 : W5 G M2 o sa ta ka qa wa cap (splS F.S h n, (remF F).2) (upd (upd s n (F.S.sh h ^^^ stay (F.S.sh h))) h (stay (F.S.sh h))) f g q w := by rw [e2]; exact hW1.us _
    rw [li_2m h (by omega), li_2m n (by omega), kns, kns]
    refine w_row hW2 (a := n) (b := h) (by omega) (by omega) (fun M3 f' hf' hW3 => w_kn hW3 (a := n) (b := h) (by omega) (by omega) (fun M4 hW4 => ?_))
    unfold wp_L_law_b359
    refine hC M4 _ _ _ _ _ _ hW4 ⟨hokf, show F.S.ec ≤ t + 1 by omega, ?_⟩
    refine LSt.spl hR.ls hh hn hnh hl hd hmc (fun i hi hb => ?_) hf' (fun r => ?_)
    · obtain ⟨c, hc⟩ := stay_pfx (F.S.sh h)
      rw [hc i hi, Bool.and_eq_true] at hb
      exact hb.1
    · by_cases e : r = n
      · rw [if_pos e, e, updL_s]
      · rw [if_neg e, updL_n e]
  | succ k ih =>
    intro x hx hct
    rw [wp_L_law_L261]
    refine ⟨hkc, hks, s_L_bits ?_⟩
    rw [kCt_i2l (hx16 x hx), hct]
    have hb32 : kCt (bt x) 32 ≤ 32 := kCt_le
    refine ⟨fun z => absurd z (kge (by omega) (by omega)), fun _ => ⟨16, ?_⟩⟩
    have hex : ∃ b, b ≤ 15 ∧ bt x b = true := by
      rcases Nat.eq_zero_or_pos (kCt (bt x) 16) with z | z
      · rw [← kCt_16 (hx16 x hx), z] at hct
        omega
      · by_cases hy : ∃ b, b ≤ 15 ∧ bt x b = true
        · exact hy
        · rw [kCt_0 (fun i hi => ts_nt (fun y => hy ⟨i, by omega, y⟩))] at z
          omega
    refine a_276 (fun top htop hbt hab => ?_) 15 (by omega) (fun b hb => hx16 x hx b (by omega)) hex
    have ebt : ∀ i, i < 32 → bt (x ^^^ ((1 : Int32) <<< (nI top &&& 31))) i = (bt x i ^^ decide (i = top)) := fun i hi => by
      rw [b_xor, bt_one (by omega) hi]
    refine ih _ ?_ ?_
    · obtain ⟨c, hc⟩ := hx
      refine ⟨top, fun i hi => ?_⟩
      have htc : top < c := by
        rw [hc top (by omega), Bool.and_eq_true] at hbt
        exact of_decide_eq_true hbt.2
      rw [ebt i hi]
      rcases Nat.lt_trichotomy i top with z | z | z
      · rw [decide_eq_false (show ¬ i = top by omega), Bool.xor_false, hc i hi, decide_eq_true (show i < c by omega), decide_eq_true z]
      · rw [z, hbt, decide_eq_true (p := top = top) rfl, decide_eq_false (Nat.lt_irrefl top), Bool.and_false]; rfl
      · rw [hab i z, decide_eq_false (show ¬ i = top by omega), decide_eq_false (show ¬ i < top by omega), Bool.and_false]; rfl
    · have := kCt_set (p := bt (x ^^^ ((1 : Int32) <<< (nI top &&& 31)))) (q := bt x) (c := top) (by rw [ebt top (by omega), hbt, decide_eq_true (p := top = top) rfl]; rfl) (fun i => by
        rcases Nat.lt_or_ge i 32 with z | z
        · rw [ebt i z]
          by_cases e : i = top
          · rw [e, hbt, decide_eq_true (p := top = top) rfl]; rfl
          · rw [decide_eq_false e, Bool.xor_false, Bool.or_false]
        · rw [b_big z, b_big z, decide_eq_false (show ¬ i = top by omega)]; rfl) (n := 32)
      rw [if_pos (show top < 32 by omega)] at this
      omega
theorem a_fork (hW : W5 G M o sa ta ka qa wa cap F s f g q w) (hR : LR t F s f g q w) (ht : t < 28) (hkc : kc ≤ mc) (hks : ks ≤ ms) (hh : h < 8) (hl : F.S.sh h ≠ 0) {kd : Nat} (k2 : kd < 2)
    (hC : ∀ (M1 : k_M) (F1 : kF) (s1 : Nat → Int32) (f1 g1 : Nat → Int64) (q1 w1 : Nat → Int32), W5 G M1 o sa ta ka qa wa cap F1 s1 f1 g1 q1 w1 → LR (t + 1) F1 s1 f1 g1 q1 w1 → wp_L_law_b988 G mc ms post K43 x0 o sa ta ka qa wa x7 x8 kc ks M1) :
    wp_L_law_b144 G mc ms post K43 x0 o sa ta ka qa wa x7 x8 (nI kd) (nI h) x11 s0 kc ks M := by
  obtain ⟨hok, hec, hq0, hq1, hsh, hsn, hhs, hms, hac, hap⟩ := id hR
  have hmc := hok.1.1
  have h16 := hok.1.2.2.1 h hh
  have h1 := kCt_one hl
  have hle : kCt (bt (F.S.sh h)) 32 ≤ 32 := kCt_le
  have hRt : LR (t + 1) F s f g q w := ⟨hok, by omega, hR.ls⟩
  obtain ⟨fs, ho⟩ := hW.obj
  have xf : xfork F (nI h) = if 8 ≤ kMin (fun i => decide (F.S.sh i = 0)) 8 then (-4, F) else if kCt (bt (F.S.sh h)) 32 = 1 then (-5, F) else (nI (kMin (fun i => decide (F.S.sh i = 0)) 8), (splS F.S h (kMin (fun i => decide (F.S.sh i = 0)) 8), (remF F).2)) := by
    unfold xfork
    rw [if_neg (by rw [inH_lv hh hl]; decide), kcl (show h < 2 ^ 31 by omega)]
  -- refused
  have no : ∀ (i : Nat) (r : Int32), xfork F (nI h) = (r, F) → ((i = 8 ∧ r = -4) ∨ (i < 8 ∧ r = -5)) → wp_L_law_b198 G mc ms post K43 x0 o sa ta ka qa wa x7 x8 (nI h) (nI i) kc ks M := by
    intro i r hx hr
    unfold wp_L_law_b198 wp_L_law_b199
    refine ⟨fs, ho, hkc, hks, w_fork hW hok.2.2.1 (fun M1 hW1 => ?_)⟩
    rw [hx] at hW1 ⊢
    have fin : ∀ r : Int32, wp_L_law_b231 G mc ms post K43 x0 o sa ta ka qa wa x7 x8 (nI h) (nI i) (0 : Int32) r r kc ks M1 := by
      intro r
      unfold wp_L_law_b231 wp_L_law_b359
      exact ⟨fun _ => ⟨fun _ => hC M1 _ _ _ _ _ _ hW1 hRt, fun z => absurd rfl z⟩, fun z => absurd rfl z⟩
    rcases hr with ⟨rfl, rfl⟩ | ⟨hi, rfl⟩
    · exact ⟨fun z => absurd rfl z, fun _ => fin (-4)⟩
    · exact ⟨fun _ => ⟨fun _ => fin (-5), fun z => absurd rfl z⟩, fun z => absurd ((nI_eq (b := 8) (by omega) (by decide)).mp z) (by omega)⟩
  have b175 : ∀ i, kMin (fun i => decide (F.S.sh i = 0)) 8 = i → i ≤ 8 → wp_L_law_b175 G mc ms post K43 x0 o sa ta ka qa wa x7 x8 (nI h) (nI i) kc ks M := by
    intro i hi hi8
    rw [hi] at xf
    unfold wp_L_law_b175
    refine ⟨fun h0 => ?_, fun h0 => ?_⟩
    · have e8 : i = 8 := by
        have := (nI_leI (a := 8) (by decide) (by omega)).mp h0
        omega
      rw [if_pos (by omega)] at xf
      exact no i (-4) xf (Or.inl ⟨e8, rfl⟩)
    · have e8 : i < 8 := by
        rcases Nat.lt_or_ge i 8 with z | z
        · exact z
        · exact absurd (nI_le (a := 8) z (by omega)) h0
      rw [if_neg (by omega)] at xf
      refine ⟨_, _, hW.L.1, kvin (by omega) (by decide), hkc, hks, ?_⟩
      try rw [kcl (show h < 2 ^ 31 by omega)]
      rw [hsh h hh]
      refine s_L_bits ?_
      rw [kCt_i2l h16]
      refine ⟨fun hb => ?_, fun hb => ?_⟩
      · have hb1 := (nI_leI (b := 1) (by omega) (by decide)).mp hb
        rw [if_pos (by omega)] at xf
        exact no i (-5) xf (Or.inr ⟨e8, rfl⟩)
      · have hb1 : ¬ kCt (bt (F.S.sh h)) 32 = 1 := fun z => hb (by rw [z]; decide +kernel)
        rw [if_neg hb1] at xf
        have hk0 := (kMin_spec (fun i => decide (F.S.sh i = 0)) 8).2.2 (by omega)
        rw [hi] at hk0
        have hd : F.S.sh i = 0 := of_decide_eq_true hk0
        have hokf := ok_fork hok (nI h)
        unfold wp_L_law_b199
        refine ⟨fs, ho, hkc, hks, w_fork hW hok.2.2.1 (fun M1 hW1 => ?_)⟩
        rw [xf] at hW1 hokf ⊢
        refine ⟨fun _ => ⟨fun z => absurd z (by decide), fun _ => ?_⟩, fun z => absurd ((nI_eq (b := 8) (by omega) (by decide)).mp z) (by omega)⟩
        unfold wp_L_law_b231
        refine ⟨fun _ => ⟨fun z => absurd z (by decide), fun _ => ⟨_, _, hW1.L.1, kvin (by omega) (by decide), hkc, hks, ?_⟩⟩, fun z => absurd rfl z⟩
        try rw [kcl (show h < 2 ^ 31 by omega)]
        rw [hsh h hh]
        refine s_L_bits ⟨_, _, hW1.L.1, kvin (by omega) (by decide), ?_⟩
        rw [kCt_i2l h16, hsh h hh, kns, show nI (kCt (bt (F.S.sh h)) 32 + 1) / (2 : Int32) = nI ((kCt (bt (F.S.sh h)) 32 + 1) / 2) from pk_div (a := kCt (bt (F.S.sh h)) 32 + 1) (d := 2) (by omega) (by omega) (by omega)]
        refine ⟨kCt (bt (F.S.sh h)) 32 - (kCt (bt (F.S.sh h)) 32 + 1) / 2 + 1, a_261 hW1 hR ht hkc hks hh hl e8 (fun z => hl (by rw [z]; exact hd)) hd hokf hC _ _ ⟨32, fun b hb => by rw [decide_eq_true hb, Bool.and_true]⟩ (by omega)⟩
  have key : ∀ n i, i + n = 8 → (∀ k, k < i → F.S.sh k ≠ 0) → wp_L_law_L155 G mc ms post K43 (n + 1) x0 o sa ta ka qa wa x7 x8 (nI h) (nI i) kc ks M := by
    intro n
    induction n with
    | zero =>
      intro i hi hd
      have : i = 8 := by omega
      subst this
      rw [wp_L_law_L155]
      exact ⟨fun _ => b175 8 (kMin_at (fun k hk => decide_eq_false (hd k hk)) (Or.inl rfl)) (Nat.le_refl _), fun z => absurd (by decide) z⟩
    | succ n ih =>
      intro i hi hd
      rw [wp_L_law_L155]
      refine ⟨fun z => absurd z (kge (N := 8) (by omega) (by decide)), fun _ => ⟨_, _, hW.L.1, kvin (by omega) (by decide), ?_⟩⟩
      try rw [kcl (show i < 2 ^ 31 by omega)]
      rw [hsh i (by omega)]
      refine ⟨fun hz => b175 i (kMin_at (fun k hk => decide_eq_false (hd k hk)) (Or.inr ⟨by omega, decide_eq_true hz⟩)) (by omega), fun hz => ?_⟩
      rw [kns]
      refine ih (i + 1) (by omega) (fun k hk => ?_)
      by_cases e : k = i
      · rw [e]; exact hz
      · exact hd k (by omega)
  unfold wp_L_law_b144
  exact ⟨fun z => absurd z (kge (N := 2) (i := kd) (by omega) (by decide)), fun _ => ⟨9, key 8 0 (by omega) (fun k hk => absurd hk (Nat.not_lt_zero k))⟩⟩
end FORK
