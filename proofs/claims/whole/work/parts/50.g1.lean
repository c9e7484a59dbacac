/-! ===== the reference: rows of its numbers ===== -/
/-- the heights of the stamp at a place -/
def hR (row : Nat → Int32) (p : Nat) : Nat → Int32 := fun c => row (p + 1 + c)
/-- the events that are known with it -/
def kR2 (row : Nat → Int32) (p : Nat) : Nat → Bool := fun i => bt (row (p + 17 + i / 30)) (i % 30)
theorem nIa (a b : Nat) : nI a + nI b = nI (a + b) := nI_add a b
theorem sum_bt (x : Int32) {k : Nat} (hk : k < 32) : ((x >>> (nI k &&& 31)) &&& (1 : Int32)) = k01 (bt x k) := by
  cases hb : bt x k with
  | true => exact (kb_isIn x hk).mpr hb
  | false =>
    refine b_ext (fun i hi => ?_)
    rw [b_and, b_1 i hi]
    by_cases hi0 : i = 0
    · subst hi0
      rw [b_sshr k hk x (by omega)]
      rw [Nat.add_zero, if_pos hk, hb]; rfl
    · rw [decide_eq_false hi0, Bool.and_false]; exact (b_0 i).symm
section G1
variable {G : k_G} {M : k_M} {post : Int32 → k_M → Prop}
theorem g_within {x lo hi : Int32} (hp : post (k01 (decide (¬ x < lo) && decide (¬ hi < x))) M) : wp_X4_within G post x lo hi M := by
  unfold wp_X4_within
  refine ⟨fun h => ?_, fun h => ⟨fun h2 => ?_, fun h2 => ?_⟩⟩
  · rw [decide_eq_false (p := ¬ x < lo) (fun z => z h)] at hp; exact hp
  · rw [decide_eq_false (p := ¬ hi < x) (fun z => z h2), Bool.and_false] at hp; exact hp
  · rw [decide_eq_true (p := ¬ x < lo) h, decide_eq_true (p := ¬ hi < x) h2] at hp; exact hp
theorem lt_le1 {x : Int32} {n : Nat} (hn : n < 2 ^ 31 - 1) : decide (¬ nI n < x) = decide (¬ nI (n + 1) ≤ x) := by
  have e : (nI n < x) ↔ (nI (n + 1) ≤ x) := by
    rw [Int32.lt_iff_toInt_lt, Int32.le_iff_toInt_le, nI_toInt (by omega), nI_toInt (by omega)]
    omega
  rw [decide_eq_decide]
  exact not_congr e
theorem g_withinN {x : Int32} {n : Nat} (hn : n < 2 ^ 31 - 1) (hp : post (k01 (inR (n + 1) x)) M) : wp_X4_within G post x 0 (nI n) M := by
  refine g_within ?_
  rw [lt_le1 hn]
  exact hp
theorem g_bits {x : Int32} (hp : post (nI (kCt (bt x) 30)) M) : wp_X4_bits G post x M := by
  have key : ∀ (j k : Nat), k + j = 30 → wp_X4_bits_L4 G post (j + 1) x (nI (kCt (bt x) k)) (nI k) M := by
    intro j
    induction j with
    | zero =>
      intro k hk
      have : k = 30 := by omega
      subst this
      rw [wp_X4_bits_L4]
      exact ⟨fun _ => hp, fun z => absurd (by decide) z⟩
    | succ j ih =>
      intro k hk
      rw [wp_X4_bits_L4]
      refine ⟨fun z => absurd z (kge (N := 30) (by omega) (by decide)), fun _ => fun y ey => ?_⟩
      have e : y = nI (kCt (bt x) (k + 1)) := by
        rw [ey, sum_bt x (by omega), kCt]
        cases bt x k with
        | true => exact nIa _ 1
        | false => exact nIa _ 0
      rw [e, kns]
      exact ih (k + 1) (by omega)
  exact ⟨31, key 30 0 (by omega)⟩
theorem kCt_k30 (row : Nat → Int32) (p k : Nat) : kCt (kR2 row p) (30 * (k + 1)) = kCt (kR2 row p) (30 * k) + kCt (bt (row (p + 17 + k))) 30 := by
  rw [show 30 * (k + 1) = 30 * k + 30 by omega, kCt_split]
  congr 1
  refine kCt_cong (fun i hi => ?_)
  unfold kR2
  rw [show (30 * k + i) / 30 = k by omega, show (30 * k + i) % 30 = i by omega]
theorem g_knownMany {a n p : Nat} {row : Nat → Int32} (hn : n ≤ 3000) (hpn : p + 21 ≤ n) (ha : M a = some (kI G n row)) (hp : post (nI (kCt (kR2 row p) 120)) M) : wp_X4_knownMany G post a (nI p) M := by
  have key : ∀ (j k : Nat), k + j = 4 → wp_X4_knownMany_L5 G post (j + 1) a (nI p) (nI (kCt (kR2 row p) (30 * k))) (nI (17 + k)) M := by
    intro j
    induction j with
    | zero =>
      intro k hk
      have : k = 4 := by omega
      subst this
      rw [wp_X4_knownMany_L5]
      exact ⟨fun _ => hp, fun z => absurd (by decide) z⟩
    | succ j ih =>
      intro k hk
      rw [wp_X4_knownMany_L5]
      dsimp only
      rw [nIa]
      refine ⟨fun z => absurd z (kge (N := 21) (by omega) (by decide)), fun _ => ⟨_, _, ha, kvin (by omega) (by omega), ?_⟩⟩
      rw [kcl (by omega)]
      refine g_bits ?_
      rw [show p + (17 + k) = p + 17 + k by omega, nIa, ← kCt_k30, kns, show 17 + k + 1 = 17 + (k + 1) by omega]
      exact ih (k + 1) (by omega)
  exact ⟨5, key 4 0 (by omega)⟩
theorem g_isOwn {a n p c : Nat} {row : Nat → Int32} (hn : n ≤ 3000) (hpn : p + 21 ≤ n) (hc : c < 32) (ha : M a = some (kI G n row)) (hp : post (k01 (bt (row p) c)) M) : wp_X4_isOwn G post a (nI p) (nI c) M := by
  have e0 : nI p + (0 : Int32) = nI p := nIa p 0
  unfold wp_X4_isOwn
  rw [e0]
  refine ⟨_, _, ha, kvin (by omega) (by omega), ?_⟩
  rw [kcl (by omega), sum_bt _ hc]
  refine ⟨fun h => ?_, fun h => ?_⟩
  · have : bt (row p) c = false := by cases hb : bt (row p) c with | false => rfl | true => rw [hb] at h; exact absurd rfl h
    rw [this] at hp; exact hp
  · have : bt (row p) c = true := by cases hb : bt (row p) c with | true => rfl | false => rw [hb] at h; exact absurd h (by decide)
    rw [this] at hp; exact hp
theorem k01_1 {b : Bool} : k01 b = 1 ↔ b = true := by cases b <;> decide
theorem k_narb (b : Bool) : narrow .boolean (.int (k01 b)) = .int (k01 b) := by cases b <;> decide
theorem g_areAlike {a n p f s : Nat} {row : Nat → Int32} (hn : n ≤ 3000) (hpn : p + 21 ≤ n) (hs : 1 ≤ s) (hfs : f + s ≤ 16) (ha : M a = some (kI G n row)) (hp : post (k01 (leaf (hR row p) f s)) M) : wp_X4_areAlike G post a (nI p) (nI f) (nI s) M := by
  have hcell : ∀ c, c < 16 → ((nI p + (1 : Int32)) + nI c) = nI (p + 1 + c) := fun c hc => by rw [kns, nIa]
  have hl : leaf (hR row p) f s = kAll (fun i => decide (hR row p (f + i) = hR row p f)) s := by
    cases hA : leaf (hR row p) f s with
    | true =>
      refine (kAll_iff.mpr (fun i hi => ?_)).symm
      unfold leaf at hA
      have h := kAll_iff.mp hA
      rcases Nat.eq_zero_or_pos i with z | z
      · subst z; simp
      · have := h (i - 1) (by omega)
        rw [show f + 1 + (i - 1) = f + i by omega] at this
        exact this
    | false =>
      cases hB : kAll (fun i => decide (hR row p (f + i) = hR row p f)) s with
      | false => rfl
      | true =>
        have h := kAll_iff.mp hB
        have : leaf (hR row p) f s = true := kAll_iff.mpr (fun i hi => by
          have := h (i + 1) (by omega)
          rw [show f + (i + 1) = f + 1 + i by omega] at this
          exact this)
        rw [hA] at this; cases this
  have key : ∀ (j k : Nat), k + j = s → wp_X4_areAlike_L6 G post (j + 1) a (nI p) (nI f) (nI s) (k01 (kAll (fun i => decide (hR row p (f + i) = hR row p f)) k)) (nI (f + k)) M := by
    intro j
    induction j with
    | zero =>
      intro k hk
      have : k = s := by omega
      subst this
      rw [wp_X4_areAlike_L6]
      dsimp only
      rw [nIa]
      refine ⟨fun _ => ⟨k_narb _, ?_⟩, fun z => absurd (nI_le (Nat.le_refl _) (by omega)) z⟩
      rw [← hl]; exact hp
    | succ j ih =>
      intro k hk
      rw [wp_X4_areAlike_L6]
      dsimp only
      rw [nIa]
      have nx := ih (k + 1) (by omega)
      rw [kAll, ← Nat.add_assoc, ← kns (f + k)] at nx
      refine ⟨fun z => absurd z (kge (by omega) (by omega)), fun _ => ⟨fun h => ?_, fun h => ?_⟩⟩
      · rw [k01_z.mp h, Bool.false_and] at nx; exact nx
      · rw [k01_nz h, Bool.true_and] at nx
        rw [hcell (f + k) (by omega), hcell f (by omega)]
        refine ⟨_, _, ha, kvin (by omega) (by omega), _, _, ha, kvin (by omega) (by omega), ?_⟩
        rw [kcl (by omega), kcl (by omega)]
        refine ⟨fun h2 => ?_, fun h2 => ?_⟩
        · have e : decide (hR row p (f + k) = hR row p f) = false := decide_eq_false h2
          rw [e] at nx; exact nx
        · have e : decide (hR row p (f + k) = hR row p f) = true := decide_eq_true h2
          rw [e] at nx; exact nx
  exact ⟨s + 1, key s 0 (by omega)⟩
theorem g_orderOf {a n p b m q : Nat} {row row2 : Nat → Int32} (hn : n ≤ 3000) (hpn : p + 21 ≤ n) (hm : m ≤ 3000) (hqm : q + 21 ≤ m) (ha : M a = some (kI G n row)) (hb : M b = some (kI G m row2)) (hp : post (ordf (hR row p) (hR row2 q)) M) : wp_X4_orderOf G post a (nI p) b (nI q) M := by
  have key : ∀ (j k : Nat), k + j = 16 → wp_X4_orderOf_L9 G post (j + 1) a (nI p) b (nI q) (k01 (oLt (hR row p) (hR row2 q) k)) (k01 (oLt (hR row2 q) (hR row p) k)) (nI (1 + k)) M := by
    intro j
    induction j with
    | zero =>
      intro k hk
      have : k = 16 := by omega
      subst this
      rw [wp_X4_orderOf_L9]
      refine ⟨fun _ => ?_, fun z => absurd (by decide) z⟩
      unfold ordf at hp
      unfold wp_X4_orderOf_b90
      cases h1 : oLt (hR row p) (hR row2 q) 16 <;> cases h2 : oLt (hR row2 q) (hR row p) 16 <;> rw [h1, h2] at hp
      · exact ⟨fun _ => ⟨fun _ => ⟨fun _ => hp, fun z => absurd rfl z⟩, fun z => absurd rfl z⟩, fun z => absurd rfl z⟩
      · exact ⟨fun _ => ⟨fun _ => ⟨fun z => absurd z (by decide), fun _ => hp⟩, fun z => absurd rfl z⟩, fun z => absurd rfl z⟩
      · exact ⟨fun z => absurd z (by decide), fun _ => ⟨fun _ => ⟨fun z => absurd z (by decide), fun _ => hp⟩, fun z => absurd rfl z⟩⟩
      · exact ⟨fun z => absurd z (by decide), fun _ => ⟨fun z => absurd z (by decide), fun _ => hp⟩⟩
    | succ j ih =>
      intro k hk
      have nx := ih (k + 1) (by omega)
      have e1 : oLt (hR row p) (hR row2 q) (k + 1) = (oLt (hR row p) (hR row2 q) k || decide (hR row p k < hR row2 q k)) := rfl
      have e2 : oLt (hR row2 q) (hR row p) (k + 1) = (oLt (hR row2 q) (hR row p) k || decide (hR row2 q k < hR row p k)) := rfl
      rw [e1, e2, ← Nat.add_assoc, ← kns (1 + k)] at nx
      rw [wp_X4_orderOf_L9]
      dsimp only
      rw [nIa, nIa]
      have hP : ∀ (b1 : Bool), (oLt (hR row p) (hR row2 q) k || decide (hR row p k < hR row2 q k)) = b1 → wp_X4_orderOf_b41 G post (wp_X4_orderOf_L9 G post (j + 1)) a (nI p) b (nI q) (k01 (oLt (hR row2 q) (hR row p) k)) (nI (1 + k)) (k01 b1) M := by
        intro b1 hb1
        rw [hb1] at nx
        unfold wp_X4_orderOf_b41
        rw [nIa, nIa]
        refine ⟨fun h => ?_, fun h => ⟨_, _, ha, kvin (by omega) (by omega), _, _, hb, kvin (by omega) (by omega), ?_⟩⟩
        · rw [k01_nz h, Bool.true_or] at nx; exact nx
        · rw [k01_z.mp h, Bool.false_or] at nx
          rw [kcl (by omega), kcl (by omega), show p + (1 + k) = p + 1 + k by omega, show q + (1 + k) = q + 1 + k by omega]
          refine ⟨fun h2 => ?_, fun h2 => ?_⟩
          · rw [show decide (hR row2 q k < hR row p k) = false from decide_eq_false (fun z => (k_nle.mpr z) h2)] at nx; exact nx
          · rw [show decide (hR row2 q k < hR row p k) = true from decide_eq_true (k_nle.mp h2)] at nx; exact nx
      refine ⟨fun z => absurd z (kge (N := 17) (by omega) (by decide)), fun _ => ⟨fun h => ?_, fun h => ⟨_, _, ha, kvin (by omega) (by omega), _, _, hb, kvin (by omega) (by omega), ?_⟩⟩⟩
      · exact hP true (by rw [k01_nz h, Bool.true_or])
      · rw [kcl (by omega), kcl (by omega), show p + (1 + k) = p + 1 + k by omega, show q + (1 + k) = q + 1 + k by omega]
        refine ⟨fun h2 => ?_, fun h2 => ?_⟩
        · exact hP false (by rw [k01_z.mp h, Bool.false_or]; exact decide_eq_false (fun z => (k_nle.mpr z) h2))
        · exact hP true (by rw [k01_z.mp h, Bool.false_or]; exact decide_eq_true (k_nle.mp h2))
  exact ⟨17, key 16 0 (by omega)⟩
end G1
