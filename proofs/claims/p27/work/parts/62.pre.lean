/-! ===== rows of numbers that the state's rows need ===== -/
theorem kCt_0 {p : Nat → Bool} : ∀ {n : Nat}, (∀ i, i < n → p i = false) → kCt p n = 0 := by
  intro n
  induction n with
  | zero => intro _; rfl
  | succ n ih => intro h; rw [kCt, h n (by omega), ih (fun i hi => h i (by omega))]; rfl
def okV (ec : Nat) (v : kSV) : Prop := (∀ c, c < 16 → uI (v.1 c) ≤ ec) ∧ ∀ i, ec ≤ i → v.2 i = false
def okS (S : kS) : Prop :=
  S.mc ≤ 8 ∧ S.ec ≤ 120 ∧ (∀ h, h < 8 → ∀ i, 16 ≤ i → bt (S.sh h) i = false) ∧ (∃ h, h < 8 ∧ S.sh h ≠ 0) ∧
  (∀ h, h < 8 → S.sh h ≠ 0 → okV S.ec (S.hs h)) ∧ ∀ m, m < S.mc → okV S.ec (S.ms m)
def okF (F : kF) : Prop := okS F.S ∧ (∀ i, i < F.hc → okS (F.hist i)) ∧ F.hc ≤ 6 ∧ (∀ i, i < 2 → F.sv i = true → okS (F.sl i)) ∧ F.pn ≤ 64 ∧ ∀ i, i < F.pn → F.ch i < 128
theorem remF_pn (F : kF) : (remF F).pn = F.pn := by unfold remF; split <;> rfl
theorem remF_sv (F : kF) : (remF F).sv = F.sv := by unfold remF; split <;> rfl
theorem remF_ch (F : kF) : (remF F).ch = F.ch := by unfold remF; split <;> rfl
theorem or_ne0 {x y : Int32} (h : x ≠ 0) : x ||| y ≠ 0 := by
  intro z
  refine h (b_ext (fun i _ => ?_))
  have := b_or x y i
  rw [z, b_0] at this
  rw [b_0]
  cases hb : bt x i with
  | false => rfl
  | true => rw [hb, Bool.true_or] at this; cases this
theorem rmv_val (S : kS) (m : Nat) : ∀ k, (rmv S m k).sh = S.sh ∧ (rmv S m k).hs = S.hs ∧ (∀ i, (rmv S m k).ms i = if m ≤ i ∧ i < m + k then S.ms (i + 1) else S.ms i) ∧ (∀ i, (rmv S m k).sn i = if m ≤ i ∧ i < m + k then S.sn (i + 1) else S.sn i) ∧ (rmv S m k).ac = S.ac ∧ (rmv S m k).ec = S.ec := by
  intro k
  induction k with
  | zero => exact ⟨rfl, rfl, fun i => by rw [if_neg (by omega)]; rfl, fun i => by rw [if_neg (by omega)]; rfl, rfl, rfl⟩
  | succ k ih =>
    obtain ⟨i1, i2, i3, i4, i5, i6⟩ := ih
    refine ⟨i1, i2, fun i => ?_, fun i => ?_, i5, i6⟩
    · show va_up (rmv S m k).ms (m + k) ((rmv S m k).ms (m + k + 1)) i = _
      by_cases hi : i = m + k
      · subst hi
        rw [vup_s, i3, if_neg (by omega), if_pos (by omega)]
      · rw [vup_n hi, i3]
        have : (m ≤ i ∧ i < m + k) ↔ (m ≤ i ∧ i < m + (k + 1)) := by omega
        simp only [this]
    · show upd (rmv S m k).sn (m + k) ((rmv S m k).sn (m + k + 1)) i = _
      by_cases hi : i = m + k
      · subst hi
        rw [upd_s, i4, if_neg (by omega), if_pos (by omega)]
      · rw [upd_n hi, i4]
        have : (m ≤ i ∧ i < m + k) ↔ (m ≤ i ∧ i < m + (k + 1)) := by omega
        simp only [this]
theorem bt_not (x : Int32) {i : Nat} (hi : i < 32) : bt (x ^^^ (-1 : Int32)) i = !(bt x i) := by rw [b_xor, b_m1 i hi, Bool.xor_true]
theorem bt_one {k i : Nat} (hk : k < 32) (hi : i < 32) : bt ((1 : Int32) <<< (nI k &&& 31)) i = decide (i = k) := by
  rw [b_shl k hk 1 hi]
  by_cases hik : i = k
  · subst hik
    rw [decide_eq_true (Nat.le_refl i), decide_eq_true rfl, Nat.sub_self]; rfl
  · rw [decide_eq_false hik]
    by_cases hle : k ≤ i
    · rw [decide_eq_true hle, b_1 _ (by omega), decide_eq_false (by omega)]; rfl
    · rw [decide_eq_false hle]; rfl
theorem kCt_set {p q : Nat → Bool} {c : Nat} (hp : p c = false) (hq : ∀ i, q i = (p i || decide (i = c))) : ∀ {n : Nat}, kCt q n = kCt p n + (if c < n then 1 else 0) := by
  intro n
  induction n with
  | zero => rw [if_neg (Nat.not_lt_zero c)]; rfl
  | succ n ih =>
    rw [kCt, kCt, ih, hq n]
    by_cases hn : n = c
    · subst hn
      rw [hp, decide_eq_true rfl, if_neg (Nat.lt_irrefl n), if_pos (Nat.lt_succ_self n)]; rfl
    · rw [decide_eq_false hn, Bool.or_false]
      have : (c < n) ↔ (c < n + 1) := by omega
      simp only [this]
      omega
theorem kCt_mono {p q : Nat → Bool} : ∀ {n : Nat}, (∀ i, i < n → p i = true → q i = true) → kCt p n ≤ kCt q n := by
  intro n
  induction n with
  | zero => intro _; exact Nat.le_refl 0
  | succ n ih =>
    intro h
    rw [kCt, kCt]
    have := ih (fun i hi => h i (by omega))
    cases hb : p n with
    | false =>
      rw [if_neg (by decide)]
      omega
    | true =>
      rw [h n (by omega) hb]
      omega
theorem lowC_spec {sh : Int32} {A : Nat} (hA : A ≤ 32) : ∀ c, c ≤ 16 → (∀ i, c ≤ i → i < 32 → bt (lowC sh (nI A) c) i = false) ∧ (∀ i, i < 32 → bt (lowC sh (nI A) c) i = true → bt sh i = true) ∧ kCt (bt (lowC sh (nI A) c)) 32 = min A (kCt (bt sh) c) := by
  intro c
  induction c with
  | zero =>
    intro _
    have l0 : lowC sh (nI A) 0 = 0 := rfl
    rw [l0]
    refine ⟨fun i _ _ => b_0 i, fun i _ h => (by rw [b_0] at h; cases h), ?_⟩
    rw [kCt_0 (fun i _ => b_0 i)]
    exact (Nat.min_eq_right (Nat.zero_le A)).symm
  | succ c ih =>
    intro hc
    obtain ⟨i1, i2, i3⟩ := ih (by omega)
    have hle : kCt (bt sh) c ≤ c := kCt_le
    rw [lowC]
    by_cases hlt : nI A ≤ nI (kCt (bt (lowC sh (nI A) c)) 32)
    · rw [if_pos hlt]
      have hlt' : A ≤ kCt (bt (lowC sh (nI A) c)) 32 := (nI_leI (by omega) (by rw [i3]; omega)).mp hlt
      refine ⟨fun i h1 h2 => i1 i (by omega) h2, i2, ?_⟩
      have : kCt (bt sh) (c + 1) ≥ kCt (bt sh) c := by rw [kCt]; omega
      rw [i3]
      rw [i3] at hlt'
      omega
    · rw [if_neg hlt]
      have hlt' : ¬ A ≤ kCt (bt (lowC sh (nI A) c)) 32 := fun z => hlt (nI_le z (by rw [i3]; omega))
      have eb : ∀ i, i < 32 → bt (lowC sh (nI A) c ||| (sh &&& ((1 : Int32) <<< (nI c &&& 31)))) i = (bt (lowC sh (nI A) c) i || (bt sh i && decide (i = c))) := fun i hi => by
        rw [b_or, b_and, bt_one (by omega) hi]
      refine ⟨fun i h1 h2 => ?_, fun i h1 h2 => ?_, ?_⟩
      · rw [eb i h2, i1 i (by omega) h2, decide_eq_false (by omega), Bool.and_false]; rfl
      · rw [eb i h1] at h2
        cases hb : bt (lowC sh (nI A) c) i with
        | true => exact i2 i h1 hb
        | false =>
          rw [hb, Bool.false_or] at h2
          cases hs : bt sh i with
          | true => rfl
          | false => rw [hs] at h2; cases h2
      · have ek : kCt (bt sh) (c + 1) = kCt (bt sh) c + (if bt sh c = true then 1 else 0) := rfl
        rw [ek]
        cases hs : bt sh c with
        | false =>
          have : kCt (bt (lowC sh (nI A) c ||| (sh &&& ((1 : Int32) <<< (nI c &&& 31))))) 32 = kCt (bt (lowC sh (nI A) c)) 32 := kCt_cong (fun i hi => by
            rw [eb i hi]
            by_cases hic : i = c
            · subst hic; rw [hs]; simp
            · rw [decide_eq_false hic]; simp)
          rw [this, i3, if_neg (by decide)]; omega
        | true =>
          have h32 : kCt (bt (lowC sh (nI A) c ||| (sh &&& ((1 : Int32) <<< (nI c &&& 31))))) 32 = kCt (fun i => bt (lowC sh (nI A) c) i || decide (i = c)) 32 := kCt_cong (fun i hi => by
            rw [eb i hi]
            by_cases hic : i = c
            · subst hic; rw [hs]; simp
            · rw [decide_eq_false hic]; simp)
          rw [h32, kCt_set (p := bt (lowC sh (nI A) c)) (c := c) (i1 c (Nat.le_refl c) (by omega)) (fun i => rfl), if_pos (show c < 32 by omega), i3, if_pos rfl]
          rw [i3] at hlt'
          omega
theorem stay_nI (sh : Int32) : stay sh = lowC sh (nI ((kCt (bt sh) 32 + 1) / 2)) 16 := by
  have hle : kCt (bt sh) 32 ≤ 32 := kCt_le
  unfold stay
  rw [kns, show nI (kCt (bt sh) 32 + 1) / (2 : Int32) = nI ((kCt (bt sh) 32 + 1) / 2) from pk_div (a := kCt (bt sh) 32 + 1) (d := 2) (by omega) (by omega) (by omega)]
theorem kCt_16 {x : Int32} (h : ∀ i, 16 ≤ i → bt x i = false) : kCt (bt x) 16 = kCt (bt x) 32 := by
  rw [show 32 = 16 + 16 from rfl, kCt_split, kCt_0 (p := fun i => bt x (16 + i)) (fun i _ => h _ (by omega)), Nat.add_zero]
/-- both parts of a share that is split have cells -/
theorem split_ne {sh : Int32} (h16 : ∀ i, 16 ≤ i → bt sh i = false) (hne : sh ≠ 0) (h1 : kCt (bt sh) 32 ≠ 1) : stay sh ≠ 0 ∧ sh &&& (stay sh ^^^ (-1 : Int32)) ≠ 0 ∧ (∀ i, 16 ≤ i → bt (stay sh) i = false) := by
  have hpos : kCt (bt sh) 32 ≠ 0 := fun z => hne (b_ext (fun i hi => by
    rw [b_0]
    cases hb : bt sh i with
    | false => rfl
    | true =>
      have h0 : kCt (fun k => decide (k = i)) 32 ≤ kCt (bt sh) 32 := kCt_mono (fun k _ hk => by rw [of_decide_eq_true hk]; exact hb)
      have := kCt_set (p := fun _ => false) (q := fun k => decide (k = i)) (c := i) rfl (fun k => by simp) (n := 32)
      rw [if_pos hi] at this
      omega))
  have hle : kCt (bt sh) 32 ≤ 32 := kCt_le
  obtain ⟨l1, l2, l3⟩ := lowC_spec (sh := sh) (A := (kCt (bt sh) 32 + 1) / 2) (by omega) 16 (Nat.le_refl 16)
  rw [← stay_nI] at l1 l2 l3
  rw [kCt_16 h16] at l3
  refine ⟨fun z => ?_, fun z => ?_, fun i hi => ?_⟩
  · rw [z, kCt_0 (fun i _ => b_0 i)] at l3
    omega
  · have : kCt (bt sh) 32 ≤ kCt (bt (stay sh)) 32 := kCt_mono (fun i hi hb => by
      have hz : bt (sh &&& (stay sh ^^^ (-1 : Int32))) i = false := by rw [z, b_0]
      rw [b_and, bt_not _ hi, hb, Bool.true_and] at hz
      cases hs : bt (stay sh) i with
      | true => rfl
      | false => rw [hs] at hz; cases hz)
    omega
  · by_cases h32 : i < 32
    · exact l1 i hi h32
    · exact b_big (by omega)
theorem okF_0 : okF kF0 := by
  have o0 : okS kF0.S := by
    refine ⟨by decide, by decide, fun h hh i hi => ?_, ⟨0, by omega, by decide⟩, fun h hh hl => ⟨fun c hc => Nat.zero_le _, fun i _ => rfl⟩, fun m hm => absurd hm (Nat.not_lt_zero m)⟩
    show bt (upd (fun _ => 0) 0 65535 h) i = false
    by_cases z : h = 0
    · rw [z, upd_s, b_65535]; exact decide_eq_false (by omega)
    · rw [upd_n z]; exact b_0 i
  exact ⟨o0, fun i hi => absurd hi (Nat.not_lt_zero i), by decide, fun i _ hs => (by cases hs), by decide, fun i hi => absurd hi (Nat.not_lt_zero i)⟩
