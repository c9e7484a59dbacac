/-! ===== the reference: rows that change ===== -/
theorem gIn_ge {f : Nat → Int32} {sh : Int32} : ∀ {n c : Nat}, c < n → bt sh c = true → ¬ gIn f sh n < f c := by
  intro n
  induction n with
  | zero => intro c h; exact absurd h (Nat.not_lt_zero c)
  | succ n ih =>
    intro c hc hb
    rw [gIn]
    by_cases hcn : c = n
    · subst hcn
      rw [if_pos hb]
      split
      · exact Int32.lt_irrefl
      · assumption
    · have h1 := ih (show c < n by omega) hb
      split
      · split
        · rename_i h2
          intro z
          exact h1 (Int32.lt_trans h2 z)
        · exact h1
      · exact h1
theorem lvl_less {f : Nat → Int32} {sh : Int32} : lvl f sh (gIn f sh 16) 16 = !(kAny (fun c => bt sh c && decide (f c < gIn f sh 16)) 16) := by
  cases hA : kAny (fun c => bt sh c && decide (f c < gIn f sh 16)) 16 with
  | true =>
    obtain ⟨c, hc, h⟩ := kAny_iff.mp hA
    have hb : bt sh c = true := by cases hb : bt sh c with | true => rfl | false => rw [hb] at h; cases h
    have hl : f c < gIn f sh 16 := by rw [hb] at h; exact of_decide_eq_true (by simpa using h)
    refine kAll_f hc ?_
    rw [hb, decide_eq_false (fun z : f c = gIn f sh 16 => by rw [z] at hl; exact Int32.lt_irrefl hl)]
    rfl
  | false =>
    refine kAll_iff.mpr (fun c hc => ?_)
    cases hb : bt sh c with
    | false => rfl
    | true =>
      have h1 := gIn_ge (f := f) hc hb
      have h2 : ¬ f c < gIn f sh 16 := fun z => by
        have : kAny (fun c => bt sh c && decide (f c < gIn f sh 16)) 16 = true := kAny_iff.mpr ⟨c, hc, by rw [hb, decide_eq_true z]; rfl⟩
        rw [hA] at this; cases this
      have : f c = gIn f sh 16 := Int32.le_antisymm (Int32.not_lt.mp h1) (Int32.not_lt.mp h2)
      rw [decide_eq_true this]; rfl
section G2
variable {G : k_G} {M : k_M} {post : k_M → Prop}
theorem g_moves {a0 a1 n0 n1 s t many : Nat} {f g : Nat → Int32} (hn0 : n0 ≤ 3000) (hn1 : n1 ≤ 3000) (h0 : M a0 = some (kI G n0 f)) (h1 : M a1 = some (kI G n1 g)) (hd : a0 ≠ a1 ∨ s + many ≤ t ∨ t + many ≤ s) (hs : s + many ≤ n0) (ht : t + many ≤ n1)
    (hp : ∀ (M1 : k_M) (g' : Nat → Int32), (∀ a, a ≠ a1 → M1 a = M a) → M1 a1 = some (kI G n1 g') → (∀ i, g' i = if t ≤ i ∧ i < t + many then f (s + (i - t)) else g i) → post M1) : wp_X4_moves G post a0 (nI s) a1 (nI t) (nI many) M := by
  have key : ∀ (j k : Nat), k + j = many → ∀ (M1 : k_M) (f' g' : Nat → Int32), (∀ a, a ≠ a1 → M1 a = M a) → M1 a0 = some (kI G n0 f') → (∀ i, s ≤ i → i < s + many → f' i = f i) → M1 a1 = some (kI G n1 g') → (∀ i, g' i = if t ≤ i ∧ i < t + k then f (s + (i - t)) else g i) → wp_X4_moves_L3 G post (j + 1) a0 (nI s) a1 (nI t) (nI many) (nI k) M1 := by
    intro j
    induction j with
    | zero =>
      intro k hk M1 f' g' e1 e2 e3 e4 e5
      have : k = many := by omega
      subst this
      rw [wp_X4_moves_L3]
      exact ⟨fun _ => hp M1 g' e1 e4 e5, fun z => absurd (nI_le (Nat.le_refl _) (by omega)) z⟩
    | succ j ih =>
      intro k hk M1 f' g' e1 e2 e3 e4 e5
      rw [wp_X4_moves_L3]
      dsimp only
      rw [nIa, nIa]
      refine ⟨fun z => absurd z (kge (by omega) (by omega)), fun _ => ⟨_, _, e2, kvin (by omega) (by omega), _, _, e4, kvin (by omega) (by omega), fun M2 ee => ?_⟩⟩
      rw [kcl (by omega), kcl (by omega), e3 (s + k) (by omega) (by omega)] at ee
      rw [kns]
      have e5' : ∀ i, upd g' (t + k) (f (s + k)) i = if t ≤ i ∧ i < t + (k + 1) then f (s + (i - t)) else g i := fun i => by
        by_cases hi : i = t + k
        · subst hi
          rw [upd_s, if_pos (by omega), Nat.add_sub_cancel_left]
        · rw [upd_n hi, e5 i]
          have : (t ≤ i ∧ i < t + k) ↔ (t ≤ i ∧ i < t + (k + 1)) := by omega
          simp only [this]
      by_cases ha : a0 = a1
      · have ef : f' = g' ∧ n0 = n1 := by
          rw [← ha, e2] at e4
          injection e4 with e4
          injection e4 with e4
          injection e4 with _ e4
          injection e4 with h1 e4
          injection e4 with h2
          exact ⟨h2, h1⟩
        refine ih (k + 1) (by omega) M2 (upd g' (t + k) (f (s + k))) (upd g' (t + k) (f (s + k))) (fun a hne => (kup_off ee hne).trans (e1 a hne)) (by rw [ha, kup_at ee, ef.2]) (fun i hi1 hi2 => ?_) (kup_at ee) e5'
        rw [upd_n (by omega), ← ef.1]
        exact e3 i hi1 hi2
      · exact ih (k + 1) (by omega) M2 f' _ (fun a hne => (kup_off ee hne).trans (e1 a hne)) ((kup_off ee ha).trans e2) e3 (kup_at ee) e5'
  exact ⟨many + 1, key many 0 (by omega) M f g (fun _ _ => rfl) h0 (fun _ _ _ => rfl) h1 (fun i => by rw [if_neg (by omega)])⟩
def tkR (row row2 : Nat → Int32) (p q : Nat) : Nat → Int32 := fun i => if i < p + 17 then mx (hR row p) (hR row2 q) (i - p - 1) else row i ||| row2 (q + (i - p))
theorem g_takeOver {a0 a1 n0 n1 p q : Nat} {f g : Nat → Int32} (hn0 : n0 ≤ 3000) (hn1 : n1 ≤ 3000) (h0 : M a0 = some (kI G n0 f)) (h1 : M a1 = some (kI G n1 g)) (hd : a0 ≠ a1 ∨ p + 21 ≤ q ∨ q + 21 ≤ p) (hs : p + 21 ≤ n0) (ht : q + 21 ≤ n1)
    (hp : ∀ (M1 : k_M) (f' : Nat → Int32), (∀ a, a ≠ a0 → M1 a = M a) → M1 a0 = some (kI G n0 f') → (∀ i, f' i = if p + 1 ≤ i ∧ i < p + 21 then tkR f g p q i else f i) → post M1) : wp_X4_takeOver G post a0 (nI p) a1 (nI q) M := by
  -- what one store does to both rows
  have stp : ∀ (k : Nat) (M1 M2 : k_M) (f' g' : Nat → Int32) (v : Int32), 1 ≤ k → k < 21 → v = tkR f g p q (p + k) → (∀ a, a ≠ a0 → M1 a = M a) → M1 a0 = some (kI G n0 f') → (∀ i, f' i = if p + 1 ≤ i ∧ i < p + k then tkR f g p q i else f i) → M1 a1 = some (kI G n1 g') → (∀ i, q + 1 ≤ i → i < q + 21 → g' i = g i) → M2 = va_up M1 a0 (some (kI G n0 (upd f' (p + k) v))) →
      (∀ a, a ≠ a0 → M2 a = M a) ∧ M2 a0 = some (kI G n0 (upd f' (p + k) v)) ∧ (∀ i, upd f' (p + k) v i = if p + 1 ≤ i ∧ i < p + (k + 1) then tkR f g p q i else f i) ∧ ∃ g'', M2 a1 = some (kI G n1 g'') ∧ ∀ i, q + 1 ≤ i → i < q + 21 → g'' i = g i := by
    intro k M1 M2 f' g' v hk1 hk hv e1 e2 e3 e4 e5 ee
    refine ⟨fun a hne => (kup_off ee hne).trans (e1 a hne), kup_at ee, fun i => ?_, ?_⟩
    · by_cases hi : i = p + k
      · subst hi
        rw [upd_s, if_pos (by omega), hv]
      · rw [upd_n hi, e3 i]
        have : (p + 1 ≤ i ∧ i < p + k) ↔ (p + 1 ≤ i ∧ i < p + (k + 1)) := by omega
        simp only [this]
    · by_cases ha : a1 = a0
      · have ef : f' = g' ∧ n0 = n1 := by
          rw [ha, e2] at e4
          injection e4 with e4
          injection e4 with e4
          injection e4 with _ e4
          injection e4 with h1 e4
          injection e4 with h2
          exact ⟨h2, h1⟩
        refine ⟨_, by rw [ha, kup_at ee, ef.2], fun i hi1 hi2 => ?_⟩
        rw [upd_n (by omega), ef.1]
        exact e5 i hi1 hi2
      · exact ⟨g', (kup_off ee ha).trans e4, e5⟩
  have key2 : ∀ (j k : Nat), k + j = 21 → 17 ≤ k → ∀ (M1 : k_M) (f' g' : Nat → Int32), (∀ a, a ≠ a0 → M1 a = M a) → M1 a0 = some (kI G n0 f') → (∀ i, f' i = if p + 1 ≤ i ∧ i < p + k then tkR f g p q i else f i) → M1 a1 = some (kI G n1 g') → (∀ i, q + 1 ≤ i → i < q + 21 → g' i = g i) → wp_X4_takeOver_L56 G post (j + 1) a0 (nI p) a1 (nI q) (nI k) M1 := by
    intro j
    induction j with
    | zero =>
      intro k hk _ M1 f' g' e1 e2 e3 e4 e5
      have : k = 21 := by omega
      subst this
      rw [wp_X4_takeOver_L56]
      exact ⟨fun _ => hp M1 f' e1 e2 e3, fun z => absurd (by decide) z⟩
    | succ j ih =>
      intro k hk hk17 M1 f' g' e1 e2 e3 e4 e5
      rw [wp_X4_takeOver_L56]
      dsimp only
      rw [nIa, nIa]
      refine ⟨fun z => absurd z (kge (N := 21) (by omega) (by decide)), fun _ => ⟨_, _, e2, kvin (by omega) (by omega), _, _, e4, kvin (by omega) (by omega), _, _, e2, kvin (by omega) (by omega), fun M2 ee => ?_⟩⟩
      rw [kcl (show p + k < 2 ^ 31 by omega), kcl (show q + k < 2 ^ 31 by omega)] at ee
      obtain ⟨z1, z2, z3, g'', z4, z5⟩ := stp k M1 M2 f' g' _ (by omega) (by omega) (by
        unfold tkR
        rw [if_neg (by omega), e3 (p + k), if_neg (by omega), e5 (q + k) (by omega) (by omega), show q + (p + k - p) = q + k by omega]) e1 e2 e3 e4 e5 ee
      rw [kns]
      exact ih (k + 1) (by omega) (by omega) M2 _ g'' z1 z2 z3 z4 z5
  have key1 : ∀ (j k : Nat), k + j = 17 → 1 ≤ k → ∀ (M1 : k_M) (f' g' : Nat → Int32), (∀ a, a ≠ a0 → M1 a = M a) → M1 a0 = some (kI G n0 f') → (∀ i, f' i = if p + 1 ≤ i ∧ i < p + k then tkR f g p q i else f i) → M1 a1 = some (kI G n1 g') → (∀ i, q + 1 ≤ i → i < q + 21 → g' i = g i) → wp_X4_takeOver_L3 G post (j + 1) a0 (nI p) a1 (nI q) (nI k) M1 := by
    intro j
    induction j with
    | zero =>
      intro k hk _ M1 f' g' e1 e2 e3 e4 e5
      have : k = 17 := by omega
      subst this
      rw [wp_X4_takeOver_L3]
      exact ⟨fun _ => ⟨5, key2 4 17 (by omega) (by omega) M1 f' g' e1 e2 e3 e4 e5⟩, fun z => absurd (by decide) z⟩
    | succ j ih =>
      intro k hk hk1 M1 f' g' e1 e2 e3 e4 e5
      rw [wp_X4_takeOver_L3]
      dsimp only
      rw [nIa, nIa]
      refine ⟨fun z => absurd z (kge (N := 17) (by omega) (by decide)), fun _ => ⟨_, _, e4, kvin (by omega) (by omega), _, _, e2, kvin (by omega) (by omega), ?_⟩⟩
      rw [kcl (show p + k < 2 ^ 31 by omega), kcl (show q + k < 2 ^ 31 by omega), e5 (q + k) (by omega) (by omega), e3 (p + k), if_neg (by omega)]
      have et : tkR f g p q (p + k) = if f (p + k) < g (q + k) then g (q + k) else f (p + k) := by
        unfold tkR mx hR
        rw [if_pos (by omega), show p + 1 + (p + k - p - 1) = p + k by omega, show q + 1 + (p + k - p - 1) = q + k by omega]
      have fin : ∀ v, v = tkR f g p q (p + k) → wp_X4_takeOver_b45 G post (wp_X4_takeOver_L3 G post (j + 1)) a0 (nI p) a1 (nI q) (nI k) v (nI (p + k)) a0 M1 := by
        intro v hv
        unfold wp_X4_takeOver_b45
        refine ⟨_, _, e2, kvin (by omega) (by omega), fun M2 ee => ?_⟩
        rw [kcl (show p + k < 2 ^ 31 by omega)] at ee
        obtain ⟨z1, z2, z3, g'', z4, z5⟩ := stp k M1 M2 f' g' v (by omega) (by omega) hv e1 e2 e3 e4 e5 ee
        rw [kns]
        exact ih (k + 1) (by omega) (by omega) M2 _ g'' z1 z2 z3 z4 z5
      refine ⟨fun h => ⟨_, _, e2, kvin (by omega) (by omega), fin _ ?_⟩, fun h => ⟨_, _, e4, kvin (by omega) (by omega), fin _ ?_⟩⟩
      · rw [e3 (p + k), if_neg (by omega), et, if_neg (fun z => (k_nle.mpr z) h)]
      · rw [e5 (q + k) (by omega) (by omega), et, if_pos (k_nle.mp h)]
  exact ⟨17, key1 16 1 (by omega) (by omega) M f g (fun _ _ => rfl) h0 (fun i => by rw [if_neg (by omega)]) h1 (fun _ _ _ => rfl)⟩
def rzR (row : Nat → Int32) (p : Nat) (n : Nat) : Nat → Int32 := fun i => if p + 1 ≤ i ∧ i < p + 1 + n ∧ bt (row p) (i - p - 1) = true then rz (hR row p) (row p) else row i
theorem g_raise {a n p : Nat} {row : Nat → Int32} (hn : n ≤ 3000) (hpn : p + 21 ≤ n) (ha : M a = some (kI G n row))
    (hp : ∀ (M1 : k_M) (f' : Nat → Int32), (∀ x, x ≠ a → M1 x = M x) → M1 a = some (kI G n f') → (∀ i, f' i = rzR row p 16 i) → post M1) : wp_X4_raise G post a (nI p) M := by
  have hcell : ∀ c, c < 16 → ((nI p + (1 : Int32)) + nI c) = nI (p + 1 + c) := fun c hc => by rw [kns, nIa]
  have key3 : ∀ (x3 : Bool), x3 = kAny (fun c => bt (row p) c && decide (hR row p c < gIn (hR row p) (row p) 16)) 16 → ∀ (j k : Nat), k + j = 16 → ∀ (M1 : k_M) (f' : Nat → Int32), (∀ x, x ≠ a → M1 x = M x) → M1 a = some (kI G n f') → (∀ i, f' i = rzR row p k i) → wp_X4_raise_L101 G post (j + 1) a (nI p) (gIn (hR row p) (row p) 16) (k01 x3) (nI k) M1 := by
    intro x3 hx3 j
    have hrz : rz (hR row p) (row p) = if x3 = true then gIn (hR row p) (row p) 16 else gIn (hR row p) (row p) 16 + 1 := by
      unfold rz
      rw [lvl_less, ← hx3]
      cases x3 <;> rfl
    induction j with
    | zero =>
      intro k hk M1 f' e1 e2 e3
      have : k = 16 := by omega
      subst this
      rw [wp_X4_raise_L101]
      exact ⟨fun _ => hp M1 f' e1 e2 e3, fun z => absurd (by decide) z⟩
    | succ j ih =>
      intro k hk M1 f' e1 e2 e3
      rw [wp_X4_raise_L101]
      dsimp only
      have e0 : f' p = row p := by rw [e3 p]; unfold rzR; rw [if_neg (by omega)]
      have ek : f' (p + 1 + k) = row (p + 1 + k) := by rw [e3]; unfold rzR; rw [if_neg (by omega)]
      have fin : ∀ v, v = (if bt (row p) k = true then rz (hR row p) (row p) else row (p + 1 + k)) → wp_X4_raise_b147 G post (wp_X4_raise_L101 G post (j + 1)) a (nI p) (gIn (hR row p) (row p) 16) (k01 x3) (nI k) v (nI (p + 1 + k)) a M1 := by
        intro v hv
        unfold wp_X4_raise_b147
        refine ⟨_, _, e2, kvin (by omega) (by omega), fun M2 ee => ?_⟩
        rw [kcl (by omega)] at ee
        rw [kns]
        refine ih (k + 1) (by omega) M2 _ (fun x hx => (kup_off ee hx).trans (e1 x hx)) (kup_at ee) (fun i => ?_)
        by_cases hi : i = p + 1 + k
        · subst hi
          rw [upd_s, hv]
          unfold rzR
          rw [show p + 1 + k - p - 1 = k by omega]
          by_cases hb : bt (row p) k = true
          · rw [if_pos hb, if_pos ⟨by omega, by omega, hb⟩]
          · rw [if_neg hb, if_neg (fun z => hb z.2.2)]
        · rw [upd_n hi, e3 i]
          unfold rzR
          have : (p + 1 ≤ i ∧ i < p + 1 + k ∧ bt (row p) (i - p - 1) = true) ↔ (p + 1 ≤ i ∧ i < p + 1 + (k + 1) ∧ bt (row p) (i - p - 1) = true) := by
            constructor
            · rintro ⟨x, y, z⟩; exact ⟨x, by omega, z⟩
            · rintro ⟨x, y, z⟩; exact ⟨x, by omega, z⟩
          simp only [this]
      rw [hcell k (by omega)]
      refine ⟨fun z => absurd z (kge (N := 16) (by omega) (by decide)), fun _ => g_isOwn hn hpn (by omega) e2 ?_⟩
      rw [e0]
      refine ⟨fun h => ⟨_, _, e2, kvin (by omega) (by omega), fin _ ?_⟩, fun h => ⟨fun h3 => fin _ ?_, fun h3 => fin _ ?_⟩⟩
      · rw [kcl (by omega), ek, if_neg (by rw [k01_z.mp h]; decide)]
      · rw [if_pos (k01_nz h), hrz, if_neg (by rw [k01_z.mp h3]; decide)]
      · rw [if_pos (k01_nz h), hrz, if_pos (k01_nz h3)]
  have key2 : ∀ (j k : Nat), k + j = 16 → wp_X4_raise_L53 G post (j + 1) a (nI p) (gIn (hR row p) (row p) 16) (k01 (kAny (fun c => bt (row p) c && decide (hR row p c < gIn (hR row p) (row p) 16)) k)) (nI k) M := by
    intro j
    induction j with
    | zero =>
      intro k hk
      have : k = 16 := by omega
      subst this
      rw [wp_X4_raise_L53]
      exact ⟨fun _ => ⟨17, key3 _ rfl 16 0 (by omega) M row (fun _ _ => rfl) ha (fun i => by unfold rzR; rw [if_neg (by omega)])⟩, fun z => absurd (by decide) z⟩
    | succ j ih =>
      intro k hk
      have nx := ih (k + 1) (by omega)
      rw [kAny, ← kns k] at nx
      rw [wp_X4_raise_L53]
      dsimp only
      refine ⟨fun z => absurd z (kge (N := 16) (by omega) (by decide)), fun _ => ⟨fun h => ?_, fun h => g_isOwn hn hpn (by omega) ha ⟨fun h2 => ?_, fun h2 => ?_⟩⟩⟩
      · rw [k01_nz h, Bool.true_or] at nx; exact nx
      · rw [k01_z.mp h, k01_z.mp h2] at nx; exact nx
      · rw [k01_z.mp h, k01_nz h2, Bool.true_and, Bool.false_or] at nx
        rw [hcell k (by omega)]
        refine ⟨_, _, ha, kvin (by omega) (by omega), ?_⟩
        rw [kcl (by omega)]
        refine ⟨fun h3 => ?_, fun h3 => ?_⟩
        · rw [show decide (hR row p k < gIn (hR row p) (row p) 16) = false from decide_eq_false (fun z => (k_nle.mpr z) h3)] at nx; exact nx
        · rw [show decide (hR row p k < gIn (hR row p) (row p) 16) = true from decide_eq_true (k_nle.mp h3)] at nx; exact nx
  have key1 : ∀ (j k : Nat), k + j = 16 → wp_X4_raise_L4 G post (j + 1) a (nI p) (gIn (hR row p) (row p) k) (nI k) M := by
    intro j
    induction j with
    | zero =>
      intro k hk
      have : k = 16 := by omega
      subst this
      rw [wp_X4_raise_L4]
      exact ⟨fun _ => ⟨17, key2 16 0 (by omega)⟩, fun z => absurd (by decide) z⟩
    | succ j ih =>
      intro k hk
      have nx := ih (k + 1) (by omega)
      rw [gIn, ← kns k] at nx
      rw [wp_X4_raise_L4]
      dsimp only
      refine ⟨fun z => absurd z (kge (N := 16) (by omega) (by decide)), fun _ => g_isOwn hn hpn (by omega) ha ⟨fun h => ?_, fun h => ?_⟩⟩
      · rw [if_neg (by rw [k01_z.mp h]; decide)] at nx; exact nx
      · rw [if_pos (k01_nz h)] at nx
        rw [hcell k (by omega)]
        refine ⟨_, _, ha, kvin (by omega) (by omega), ?_⟩
        rw [kcl (by omega)]
        refine ⟨fun h2 => ?_, fun h2 => ⟨_, _, ha, kvin (by omega) (by omega), fun y ey => ?_⟩⟩
        · rw [if_neg (show ¬ gIn (hR row p) (row p) k < hR row p k from fun z => (k_nle.mpr z) h2)] at nx; exact nx
        · rw [if_pos (show gIn (hR row p) (row p) k < hR row p k from k_nle.mp h2)] at nx
          rw [ey]; exact nx
  exact ⟨17, key1 16 0 (by omega)⟩
end G2
