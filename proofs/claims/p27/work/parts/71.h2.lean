/-! ===== the law: raising, counting, likeness ===== -/
theorem kb_isIn0 (sh : Int32) {c : Nat} (hc : c < 32) : ((sh >>> (nI c &&& 31)) &&& (1 : Int32)) = 0 ↔ bt sh c = false := by
  constructor
  · intro h
    cases hb : bt sh c with
    | false => rfl
    | true =>
      have := (kb_isIn sh hc).mpr hb
      rw [h] at this
      exact absurd this (by decide)
  · intro h
    refine b_ext (fun i hi => ?_)
    rw [b_and, b_1 i hi, b_0]
    by_cases e : i = 0
    · subst e
      rw [b_sshr c hc sh hi, if_pos (by omega), Nat.add_zero, h]
      rfl
    · rw [decide_eq_false e, Bool.and_false]
def lst (f : Nat → Int32) (sh : Int32) : Nat → Int32
  | 0 => 999
  | n + 1 => if bt sh n = true then (if f n < lst f sh n then f n else lst f sh n) else lst f sh n
theorem i_le {a b : Int32} : a ≤ b ↔ a.toInt ≤ b.toInt := Int32.le_iff_toInt_le
theorem i_lt {a b : Int32} : a < b ↔ a.toInt < b.toInt := Int32.lt_iff_toInt_lt
theorem gIn_ge {f : Nat → Int32} {sh : Int32} : ∀ {n c : Nat}, c < n → bt sh c = true → f c ≤ gIn f sh n := by
  intro n
  induction n with
  | zero => intro c h; exact absurd h (Nat.not_lt_zero c)
  | succ n ih =>
    intro c h hb
    rw [gIn]
    by_cases e : c = n
    · subst e
      rw [if_pos hb]
      split
      · exact i_le.mpr (Int.le_refl _)
      · rename_i z; rw [i_lt] at z; rw [i_le]; omega
    · have h1 := ih (show c < n by omega) hb
      rw [i_le] at h1 ⊢
      split
      · split
        · rename_i z; rw [i_lt] at z; omega
        · exact h1
      · exact h1
theorem lst_le {f : Nat → Int32} {sh : Int32} : ∀ {n c : Nat}, c < n → bt sh c = true → lst f sh n ≤ f c := by
  intro n
  induction n with
  | zero => intro c h; exact absurd h (Nat.not_lt_zero c)
  | succ n ih =>
    intro c h hb
    rw [lst]
    by_cases e : c = n
    · subst e
      rw [if_pos hb]
      split
      · exact i_le.mpr (Int.le_refl _)
      · rename_i z; rw [i_lt] at z; rw [i_le]; omega
    · have h1 := ih (show c < n by omega) hb
      rw [i_le] at h1 ⊢
      split
      · split
        · rename_i z; rw [i_lt] at z; omega
        · exact h1
      · exact h1
theorem lst_ge {f : Nat → Int32} {sh m : Int32} (hm : m ≤ 999) : ∀ {n : Nat}, (∀ c, c < n → bt sh c = true → f c = m) → m ≤ lst f sh n := by
  intro n
  induction n with
  | zero => intro _; exact hm
  | succ n ih =>
    intro h
    have h1 := ih (fun c hc => h c (by omega))
    rw [lst]
    split
    · rename_i hb
      split
      · rw [h n (by omega) hb]; exact i_le.mpr (Int.le_refl _)
      · exact h1
    · exact h1
theorem uI_int {v : Int32} (h : uI v < 2 ^ 31) : v.toInt = (uI v : Int) := by
  obtain ⟨n, hn, rfl⟩ := uI_ex h
  rw [nI_toInt hn, uI_nI (by omega)]
theorem lvl_lst {f : Nat → Int32} {sh : Int32} (hh : ∀ c, c < 16 → uI (f c) ≤ 120) : gIn f sh 16 ≤ lst f sh 16 ↔ lvl f sh (gIn f sh 16) 16 = true := by
  unfold lvl
  rw [kAll_iff]
  constructor
  · intro h c hc
    cases hb : bt sh c with
    | false => rfl
    | true =>
      have h1 := gIn_ge (f := f) hc hb
      have h2 := lst_le (f := f) hc hb
      rw [i_le] at h h1 h2
      have : f c = gIn f sh 16 := Int32.toInt_inj.mp (by omega)
      rw [decide_eq_true this]; rfl
  · intro h
    refine lst_ge ?_ (fun c hc hb => ?_)
    · have := uI_gIn (sh := sh) (Nat.le_refl 16) hh
      rw [i_le, uI_int (by omega), show (999 : Int32).toInt = 999 by decide]
      omega
    · have := h c hc
      rw [hb] at this
      exact of_decide_eq_true this
section LH2
variable {G : k_G} {M : k_M} {ta ka : Nat} {f g : Nat → Int64}
theorem s_L_tick {post : k_M → Prop} {i : Nat} {sh : Int32} (hM : M ta = some (kJ G 34 f)) (hi : i < 17) (hh : ∀ c, c < 16 → uI (hgt f i c) ≤ 120)
    (hp : ∀ f', (∀ i' c', c' < 16 → hgt f' i' c' = if i' = i ∧ bt sh c' = true then rz (hgt f i) sh else hgt f i' c') → post (va_up M ta (some (kJ G 34 f')))) : wp_L_tick G post (nI i) sh ta M := by
  have hrz : uI (rz (hgt f i) sh) < 256 := by
    have := uI_rz (sh := sh) (Nat.le_refl 120) hh
    omega
  have k2 : ∀ (n c : Nat), c + n = 16 → ∀ f', (∀ i' c', c' < 16 → hgt f' i' c' = if i' = i ∧ c' < c ∧ bt sh c' = true then rz (hgt f i) sh else hgt f i' c') →
      wp_L_tick_L87 G post (n + 1) (nI i) sh ta (gIn (hgt f i) sh 16) (lst (hgt f i) sh 16) (nI c) (va_up M ta (some (kJ G 34 f'))) := by
    intro n
    induction n with
    | zero =>
      intro c hc f' hf
      have : c = 16 := by omega
      subst this
      rw [wp_L_tick_L87]
      refine ⟨fun _ => hp f' (fun i' c' hc' => ?_), fun h0 => absurd (by decide) h0⟩
      rw [hf i' c' hc']
      by_cases e : i' = i ∧ bt sh c' = true
      · rw [if_pos ⟨e.1, hc', e.2⟩, if_pos e]
      · rw [if_neg (fun z => e ⟨z.1, z.2.2⟩), if_neg e]
    | succ n ih =>
      intro c hc f' hf
      rw [wp_L_tick_L87]
      have hm : va_up M ta (some (kJ G 34 f')) ta = some (kJ G 34 f') := vup_s
      have go : ∀ v, v = rz (hgt f i) sh → bt sh c = true → wp_L_tick_b120 G post (wp_L_tick_L87 G post (n + 1)) (nI i) sh ta (gIn (hgt f i) sh 16) (lst (hgt f i) sh 16) (nI c) v (nI c) (nI i) (va_up M ta (some (kJ G 34 f'))) := by
        intro v hv hb
        unfold wp_L_tick_b120
        refine s_L_raise hm hi (by omega) (by rw [hv]; exact hrz) (fun f2 h2 => ?_)
        rw [va_up2]
        have := ih (c + 1) (by omega) f2 (fun i' c' hc' => by
          rw [h2 i' c' hc', hv]
          by_cases e : i' = i ∧ c' = c
          · rw [if_pos e, if_pos ⟨e.1, by omega, by rw [e.2]; exact hb⟩]
          · rw [if_neg e, hf i' c' hc']
            by_cases e2 : i' = i ∧ c' < c ∧ bt sh c' = true
            · rw [if_pos e2, if_pos ⟨e2.1, by omega, e2.2.2⟩]
            · rw [if_neg e2, if_neg (fun z => by
                rcases Nat.lt_or_ge c' c with y | y
                · exact e2 ⟨z.1, y, z.2.2⟩
                · exact e ⟨z.1, by omega⟩)])
        rw [← kns c] at this
        exact this
      refine ⟨fun h0 => absurd h0 (kge (N := 16) (by omega) (by decide)), fun _ => ⟨fun h0 => ?_, fun h1 => ?_⟩⟩
      · have hb : bt sh c = false := ts_nt (fun z => h0 ((kb_isIn sh (by omega)).mpr z))
        have := ih (c + 1) (by omega) f' (fun i' c' hc' => by
          rw [hf i' c' hc']
          by_cases e2 : i' = i ∧ c' < c ∧ bt sh c' = true
          · rw [if_pos e2, if_pos ⟨e2.1, by omega, e2.2.2⟩]
          · rw [if_neg e2, if_neg (fun z => by
              rcases Nat.lt_or_ge c' c with y | y
              · exact e2 ⟨z.1, y, z.2.2⟩
              · have : c' = c := by omega
                rw [this, hb] at z
                cases z.2.2)])
        rw [← kns c] at this
        exact this
      · have hb : bt sh c = true := (kb_isIn sh (by omega)).mp h1
        refine ⟨fun hc2 => go _ ?_ hb, fun hc2 => go _ ?_ hb⟩
        · unfold rz
          rw [if_pos ((lvl_lst hh).mp hc2)]
        · unfold rz
          rw [if_neg (fun z => hc2 ((lvl_lst hh).mpr z))]
  have k1 : ∀ (n c : Nat), c + n = 16 → wp_L_tick_L10 G post (n + 1) (nI i) sh ta (gIn (hgt f i) sh c) (lst (hgt f i) sh c) (nI c) M := by
    intro n
    induction n with
    | zero =>
      intro c hc
      have : c = 16 := by omega
      subst this
      rw [wp_L_tick_L10]
      refine ⟨fun _ => ⟨17, ?_⟩, fun h0 => absurd (by decide) h0⟩
      have := k2 16 0 (by omega) f (fun i' c' hc' => by rw [if_neg (by omega)])
      rw [va_upid hM] at this
      exact this
    | succ n ih =>
      intro c hc
      rw [wp_L_tick_L10]
      have ih1 := ih (c + 1) (by omega)
      rw [← kns c, gIn, lst] at ih1
      refine ⟨fun h0 => absurd h0 (kge (N := 16) (by omega) (by decide)), fun _ => ⟨fun h0 => ?_, fun h0 => ?_⟩⟩
      · have hb : bt sh c = true := ts_nf (fun z => h0 ((kb_isIn0 sh (by omega)).mpr z))
        rw [if_pos hb, if_pos hb] at ih1
        have go : ∀ v, v = (if gIn (hgt f i) sh c < hgt f i c then hgt f i c else gIn (hgt f i) sh c) → wp_L_tick_b51 G post (wp_L_tick_L10 G post (n + 1)) (nI i) sh ta (lst (hgt f i) sh c) (nI c) v M := by
          intro v hv
          rw [← hv] at ih1
          unfold wp_L_tick_b51
          refine s_L_height hM hi (by omega) ⟨fun hc2 => ?_, fun hc2 => s_L_height hM hi (by omega) ?_⟩
          · rw [if_neg (fun z => absurd hc2 (k_nle.mpr z))] at ih1
            exact ih1
          · rw [if_pos (k_nle.mp hc2)] at ih1
            exact ih1
        refine s_L_height hM hi (by omega) ⟨fun hc2 => go _ ?_, fun hc2 => s_L_height hM hi (by omega) (go _ ?_)⟩
        · rw [if_neg (fun z => absurd hc2 (k_nle.mpr z))]
        · rw [if_pos (k_nle.mp hc2)]
      · have hb : bt sh c = false := (kb_isIn0 sh (by omega)).mp h0
        rw [if_neg (by rw [hb]; decide), if_neg (by rw [hb]; decide)] at ih1
        exact ih1
  unfold wp_L_tick
  exact ⟨17, k1 16 0 (by omega)⟩
/-! counting bits by clearing the lowest -/
theorem pc_s (p : Nat → Bool) (m : Nat) : kCt p (m + 1) = (if p 0 = true then 1 else 0) + kCt (fun i => p (i + 1)) m := by
  rw [Nat.add_comm m 1, kCt_split p 1 m]
  congr 1
  · exact Nat.zero_add _
  · exact kCt_cong (fun i _ => by rw [Nat.add_comm])
theorem pc_clr : ∀ (m n : Nat), 0 < n → n < 2 ^ m → kCt (fun i => n.testBit i && (n - 1).testBit i) m + 1 = kCt (fun i => n.testBit i) m := by
  intro m
  induction m with
  | zero => intro n h0 h; have : n < 1 := h; omega
  | succ m ih =>
    intro n h0 h
    rw [pc_s, pc_s]
    have e1 : ∀ k : Nat, kCt (fun i => k.testBit (i + 1)) m = kCt (fun i => (k / 2).testBit i) m := fun k => kCt_cong (fun i _ => Nat.testBit_succ k i)
    have e2 : kCt (fun i => n.testBit (i + 1) && (n - 1).testBit (i + 1)) m = kCt (fun i => (n / 2).testBit i && ((n - 1) / 2).testBit i) m := kCt_cong (fun i _ => by rw [Nat.testBit_succ, Nat.testBit_succ])
    rw [e1 n, e2, Nat.testBit_zero, Nat.testBit_zero]
    have h2 : n / 2 < 2 ^ m := by rw [Nat.pow_succ] at h; omega
    rcases Nat.mod_two_eq_zero_or_one n with z | z
    · have e3 : (n - 1) / 2 = n / 2 - 1 := by omega
      have := ih (n / 2) (by omega) h2
      rw [e3, decide_eq_false (show ¬ n % 2 = 1 by omega), Bool.false_and, if_neg (by decide), Nat.zero_add, Nat.zero_add]
      exact this
    · have e3 : (n - 1) / 2 = n / 2 := by omega
      rw [e3, decide_eq_false (show ¬ (n - 1) % 2 = 1 by omega), decide_eq_true z, Bool.and_false, if_neg (by decide), if_pos rfl, Nat.zero_add, Nat.add_comm]
      congr 1
      exact kCt_cong (fun i _ => Bool.and_self _)
theorem pc_w {w : Int64} (h : ¬ w = 0) : kCt (bl (w &&& (w - (1 : Int64)))) 64 + 1 = kCt (bl w) 64 := by
  have h0 : 0 < uL w := by
    rcases Nat.eq_zero_or_pos (uL w) with z | z
    · exact absurd (show w = 0 by rw [← lN_uL w, z]; rfl) h
    · exact z
  have e : uL (w - 1) = uL w - 1 := uL_sub w 1 h0
  rw [kCt_cong (p := bl w) (q := fun i => (uL w).testBit i) (fun i _ => bl_uL w i), ← pc_clr 64 (uL w) h0 (uL_lt w)]
  congr 1
  refine kCt_cong (fun i _ => ?_)
  rw [bl_and, bl_uL, bl_uL, e]
theorem s_L_bits {post : Int32 → k_M → Prop} {v : Int64} (hp : post (nI (kCt (bl v) 64)) M) : wp_L_bits G post v M := by
  have key : ∀ (n : Nat) (w : Int64) (acc : Nat), kCt (bl w) 64 ≤ n → post (nI (acc + kCt (bl w) 64)) M → wp_L_bits_L4 G post (n + 1) (nI acc) w M := by
    intro n
    induction n with
    | zero =>
      intro w acc hn hp
      rw [wp_L_bits_L4]
      refine ⟨fun _ => ?_, fun h0 => ?_⟩
      · rw [show kCt (bl w) 64 = 0 by omega] at hp; exact hp
      · have := pc_w (fun z => h0 ((lg_cmp_eq w 0).mpr z))
        omega
    | succ n ih =>
      intro w acc hn hp
      rw [wp_L_bits_L4]
      refine ⟨fun h0 => ?_, fun h0 => ?_⟩
      · have e : w = 0 := (lg_cmp_eq w 0).mp h0
        have : kCt (bl w) 64 = 0 := by rw [e]; decide +kernel
        rw [this] at hp; exact hp
      · have := pc_w (fun z => h0 ((lg_cmp_eq w 0).mpr z))
        rw [kns]
        refine ih _ (acc + 1) (by omega) ?_
        rw [← this] at hp
        rw [show acc + 1 + kCt (bl (w &&& (w - 1))) 64 = acc + (kCt (bl (w &&& (w - 1))) 64 + 1) by omega]
        exact hp
  unfold wp_L_bits
  exact ⟨65, key 64 v 0 kCt_le (by rw [Nat.zero_add]; exact hp)⟩
theorem s_L_alike {post : Int32 → k_M → Prop} {i a s : Nat} (hM : M ta = some (kJ G 34 f)) (hi : i < 17) (hs : 1 ≤ s) (has : a + s ≤ 16) (hp : post (k01 (leaf (hgt f i) a s)) M) : wp_L_alike G post (nI i) (nI a) (nI s) ta M := by
  have key : ∀ (j k : Nat), k + j = s - 1 → kAll (fun c => decide (hgt f i (a + 1 + c) = hgt f i a)) k = true → wp_L_alike_L3 G post (j + 1) (nI i) (nI a) (nI s) ta (nI (1 + k)) M := by
    intro j
    induction j with
    | zero =>
      intro k hk hl
      rw [wp_L_alike_L3]
      have e2 : leaf (hgt f i) a s = true := by unfold leaf; rw [← hl]; congr 1; omega
      rw [e2] at hp
      rw [show 1 + k = s by omega]
      exact ⟨fun _ => hp, fun h0 => absurd (nI_le (Nat.le_refl _) (by omega)) h0⟩
    | succ j ih =>
      intro k hk hl
      rw [wp_L_alike_L3]
      dsimp only
      rw [nI_add]
      refine ⟨fun h0 => absurd h0 (kge (by omega) (by omega)), fun _ => s_L_height hM hi (by omega) (s_L_height hM hi (by omega) ⟨fun hc => ?_, fun hc => ?_⟩)⟩
      · have := ih (k + 1) (by omega) (by
          show (kAll _ k && decide (hgt f i (a + 1 + k) = hgt f i a)) = true
          rw [hl, show a + 1 + k = a + (1 + k) by omega, hc]; simp)
        rw [show 1 + (k + 1) = 1 + k + 1 by omega, ← kns] at this
        exact this
      · have : leaf (hgt f i) a s = false := kAll_f (i := k) (by omega) (decide_eq_false (by rw [show a + 1 + k = a + (1 + k) by omega]; exact hc))
        rw [this] at hp
        exact hp
  unfold wp_L_alike
  exact ⟨s - 1 + 1, key (s - 1) 0 (by omega) rfl⟩
/-- a row of like cells around a cell that doesn't begin there -/
def insd (f : Nat → Int32) (c : Nat) : Bool := kAny (fun d => !(decide (c % 2 ^ (d + 1) = 0)) && leaf f (c - c % 2 ^ (d + 1)) (2 ^ (d + 1))) 4
theorem li_mod : ∀ d, d < 5 → ∀ c, c < 16 → nI c - nI c / nI (2 ^ d) * nI (2 ^ d) = nI (c % 2 ^ d) := by decide +kernel
theorem li_nz : ∀ d, d < 5 → ¬ nI (2 ^ d) = 0 := by decide +kernel
theorem li_17 : ∀ d, d < 5 → ¬ (17 : Int32) ≤ nI (2 ^ d) := by decide +kernel
theorem li_x2 : ∀ d, d < 5 → nI (2 ^ d) * (2 : Int32) = nI (2 ^ (d + 1)) := by decide +kernel
theorem li_fit : ∀ d, d < 5 → ∀ c, c < 16 → c - c % 2 ^ d + 2 ^ d ≤ 16 := by decide +kernel
theorem li_pos (d : Nat) : 1 ≤ 2 ^ d := Nat.one_le_two_pow
theorem s_L_inside {post : Int32 → k_M → Prop} {i c : Nat} (hM : M ta = some (kJ G 34 f)) (hi : i < 17) (hc : c < 16) (hp : post (k01 (insd (hgt f i) c)) M) : wp_L_inside G post (nI i) (nI c) ta M := by
  have key : ∀ (n d : Nat), d + n = 4 → kAny (fun d => !(decide (c % 2 ^ (d + 1) = 0)) && leaf (hgt f i) (c - c % 2 ^ (d + 1)) (2 ^ (d + 1))) d = false → wp_L_inside_L2 G post (n + 1) (nI i) (nI c) ta (nI (2 ^ (d + 1))) M := by
    intro n
    induction n with
    | zero =>
      intro d hd hl
      have : d = 4 := by omega
      subst this
      rw [wp_L_inside_L2]
      have e : insd (hgt f i) c = false := hl
      rw [e] at hp
      exact ⟨fun _ => hp, fun h0 => absurd (by decide) h0⟩
    | succ n ih =>
      intro d hd hl
      rw [wp_L_inside_L2]
      have hd1 : d + 1 < 5 := by omega
      dsimp only
      rw [li_mod (d + 1) hd1 c hc, li_x2 (d + 1) hd1]
      have go : (!(decide (c % 2 ^ (d + 1) = 0)) && leaf (hgt f i) (c - c % 2 ^ (d + 1)) (2 ^ (d + 1))) = false → wp_L_inside_L2 G post (n + 1) (nI i) (nI c) ta (nI (2 ^ (d + 1 + 1))) M := fun z => ih (d + 1) (by omega) (by
        show (kAny _ d || _) = false
        rw [hl]; exact z)
      refine ⟨fun h0 => absurd h0 (li_17 (d + 1) hd1), fun _ => ⟨li_nz (d + 1) hd1, fun h0 => ?_, fun h0 => ⟨li_nz (d + 1) hd1, ?_⟩⟩⟩
      · have : c % 2 ^ (d + 1) = 0 := (nI_eq (by have := Nat.mod_le c (2 ^ (d + 1)); omega) (by decide)).mp h0
        exact go (by rw [decide_eq_true this]; rfl)
      · have hz : ¬ c % 2 ^ (d + 1) = 0 := fun z => h0 (by rw [z]; rfl)
        rw [pk_sub (Nat.mod_le _ _)]
        refine s_L_alike hM hi (li_pos _) (li_fit (d + 1) hd1 c hc) ⟨fun h1 => go ?_, fun h1 => ?_⟩
        · rw [k01_z.mp h1, Bool.and_false]
        · have : insd (hgt f i) c = true := by
            unfold insd
            rw [kAny_iff]
            refine ⟨d, by omega, ?_⟩
            rw [decide_eq_false hz, k01_nz h1]
            rfl
          rw [this] at hp
          exact hp
  unfold wp_L_inside
  exact ⟨5, key 4 0 (by omega) rfl⟩
/-- how many of the first rows of 2^d cells aren't leaves -/
def nlf (f : Nat → Int32) (d : Nat) : Nat → Nat := kCt (fun b => !(leaf f (b * 2 ^ d) (2 ^ d)))
theorem lk_ge : ∀ d, d < 5 → ∀ b, b * 2 ^ d < 16 → ¬ (16 : Int32) ≤ nI (b * 2 ^ d) := fun d hd b hb => kge (N := 16) hb (by decide)
theorem s_L_knots {post : Int32 → k_M → Prop} {i : Nat} (hM : M ta = some (kJ G 34 f)) (hi : i < 17) (hp : post (nI (nlf (hgt f i) 1 8 + nlf (hgt f i) 2 4 + nlf (hgt f i) 3 2 + nlf (hgt f i) 4 1)) M) : wp_L_knots G post (nI i) ta M := by
  have inner : ∀ (K4 : Int32 → Nat → Int32 → Int32 → k_M → Prop) (d N acc : Nat), d < 5 → N * 2 ^ d = 16 → K4 (nI i) ta (nI (acc + nlf (hgt f i) d N)) (nI (2 ^ (d + 1))) M → ∀ (n b : Nat), b + n = N → wp_L_knots_L13 G post K4 (n + 1) (nI i) ta (nI (acc + nlf (hgt f i) d b)) (nI (2 ^ d)) (nI (b * 2 ^ d)) M := by
    intro K4 d N acc hd hN hK n
    induction n with
    | zero =>
      intro b hb
      have : b = N := by omega
      subst this
      rw [wp_L_knots_L13]
      dsimp only
      rw [hN, li_x2 d hd]
      exact ⟨fun _ => hK, fun h0 => absurd (by decide) h0⟩
    | succ n ih =>
      intro b hb
      rw [wp_L_knots_L13]
      have hle : b * 2 ^ d + 2 ^ d ≤ 16 := by
        rw [← Nat.succ_mul, ← hN]
        exact Nat.mul_le_mul_right _ (by omega)
      have hp2 := li_pos d
      have ih1 := ih (b + 1) (by omega)
      rw [Nat.succ_mul, ← nI_add (b * 2 ^ d)] at ih1
      refine ⟨fun h0 => absurd h0 (kge (N := 16) (by omega) (by decide)), fun _ => s_L_alike hM hi hp2 hle ⟨fun h0 => ?_, fun h0 => ?_⟩⟩
      · have e : nlf (hgt f i) d (b + 1) = nlf (hgt f i) d b + 1 := by
          show nlf (hgt f i) d b + (if (!(leaf (hgt f i) (b * 2 ^ d) (2 ^ d))) = true then 1 else 0) = _
          rw [k01_z.mp h0]; rfl
        rw [e, ← Nat.add_assoc, ← kns] at ih1
        exact ih1
      · have e : nlf (hgt f i) d (b + 1) = nlf (hgt f i) d b := by
          show nlf (hgt f i) d b + (if (!(leaf (hgt f i) (b * 2 ^ d) (2 ^ d))) = true then 1 else 0) = _
          rw [k01_nz h0]; rfl
        rw [e] at ih1
        rw [show nI (acc + nlf (hgt f i) d b) + (0 : Int32) = nI (acc + nlf (hgt f i) d b) from nI_add _ 0]
        exact ih1
  unfold wp_L_knots
  refine ⟨5, ?_⟩
  have s0 : ∀ d, nlf (hgt f i) d 0 = 0 := fun _ => rfl
  rw [wp_L_knots_L4]
  refine ⟨fun h0 => absurd h0 (by decide), fun _ => ⟨9, ?_⟩⟩
  have i1 := inner (wp_L_knots_L4 G post 4) 1 8 0 (by decide) (by decide)
  refine i1 ?_ 8 0 (by decide)
  rw [wp_L_knots_L4]
  refine ⟨fun h0 => absurd h0 (by decide), fun _ => ⟨5, ?_⟩⟩
  have i2 := inner (wp_L_knots_L4 G post 3) 2 4 (0 + nlf (hgt f i) 1 8) (by decide) (by decide)
  refine i2 ?_ 4 0 (by decide)
  rw [wp_L_knots_L4]
  refine ⟨fun h0 => absurd h0 (by decide), fun _ => ⟨3, ?_⟩⟩
  have i3 := inner (wp_L_knots_L4 G post 2) 3 2 (0 + nlf (hgt f i) 1 8 + nlf (hgt f i) 2 4) (by decide) (by decide)
  refine i3 ?_ 2 0 (by decide)
  rw [wp_L_knots_L4]
  refine ⟨fun h0 => absurd h0 (by decide), fun _ => ⟨2, ?_⟩⟩
  have i4 := inner (wp_L_knots_L4 G post 1) 4 1 (0 + nlf (hgt f i) 1 8 + nlf (hgt f i) 2 4 + nlf (hgt f i) 3 2) (by decide) (by decide)
  refine i4 ?_ 1 0 (by decide)
  rw [wp_L_knots_L4]
  refine ⟨fun _ => ?_, fun h0 => absurd (by decide) h0⟩
  rw [Nat.zero_add]
  exact hp
end LH2
/-! the knots, counted by rows -/
theorem leaf_iff {f : Nat → Int32} {a s : Nat} : leaf f a s = true ↔ ∀ i, i < s → f (a + i) = f a := by
  unfold leaf
  rw [kAll_iff]
  constructor
  · intro h i hi
    rcases Nat.eq_zero_or_pos i with z | z
    · rw [z]; rfl
    · have := of_decide_eq_true (h (i - 1) (by omega))
      rw [show a + 1 + (i - 1) = a + i by omega] at this
      exact this
  · intro h i hi
    refine decide_eq_true ?_
    rw [show a + 1 + i = a + (i + 1) by omega]
    exact h (i + 1) (by omega)
theorem leaf_sub {f : Nat → Int32} {a s a' s' : Nat} (h : leaf f a s = true) (h1 : a ≤ a') (h2 : a' + s' ≤ a + s) : leaf f a' s' = true := by
  rw [leaf_iff] at h ⊢
  intro i hi
  have e1 := h (a' - a + i) (by omega)
  have e2 := h (a' - a) (by omega)
  rw [show a + (a' - a + i) = a' + i by omega] at e1
  rw [show a + (a' - a) = a' by omega] at e2
  rw [e1, e2]
theorem kKn_leaf {f : Nat → Int32} : ∀ {d a : Nat}, leaf f a (2 ^ d) = true → kKn f d a = 0 := by
  intro d
  cases d with
  | zero => intro a _; rfl
  | succ d => intro a h; rw [kKn, if_pos h]
theorem kKn_s (f : Nat → Int32) (d a : Nat) : kKn f (d + 1) a = (if (!(leaf f a (2 ^ (d + 1)))) = true then 1 else 0) + kKn f d a + kKn f d (a + 2 ^ d) := by
  have e2 : 2 ^ (d + 1) = 2 ^ d + 2 ^ d := by rw [Nat.pow_succ]; omega
  rw [kKn]
  cases h : leaf f a (2 ^ (d + 1)) with
  | true =>
    rw [if_pos rfl, if_neg (by decide), kKn_leaf (leaf_sub h (Nat.le_refl _) (by rw [e2]; exact Nat.add_le_add_left (Nat.le_add_left _ _) _)), kKn_leaf (leaf_sub h (Nat.le_add_right _ _) (by rw [e2]; omega))]
  | false => rw [if_neg (by decide), if_pos (by decide)]
theorem kKn_rows (f : Nat → Int32) : kKn f 4 0 = nlf f 1 8 + nlf f 2 4 + nlf f 3 2 + nlf f 4 1 := by
  have z : ∀ a, kKn f 0 a = 0 := fun _ => rfl
  simp only [kKn_s, z, nlf, kCt]
  simp only [Nat.reducePow, Nat.reduceMul, Nat.reduceAdd, Nat.zero_add]
  omega
