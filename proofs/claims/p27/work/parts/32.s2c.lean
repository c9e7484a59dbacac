/-! ===== the State: what it counts; the dropping of a message; the copy ===== -/
theorem oLt_cong {f g f2 g2 : Nat → Int32} {n : Nat} (h : ∀ c, c < n → f c = g c) (h2 : ∀ c, c < n → f2 c = g2 c) : oLt f f2 n = oLt g g2 n := kAny_cong (fun i hi => by rw [h i hi, h2 i hi])
theorem ordf_cong {f g f2 g2 : Nat → Int32} (h : ∀ c, c < 16 → f c = g c) (h2 : ∀ c, c < 16 → f2 c = g2 c) : ordf f f2 = ordf g g2 := by
  unfold ordf
  rw [oLt_cong h h2, oLt_cong h2 h]
theorem leaf_cong {f g : Nat → Int32} {a s : Nat} (hs : 1 ≤ s) (has : a + s ≤ 16) (h : ∀ c, c < 16 → f c = g c) : leaf f a s = leaf g a s := by
  unfold leaf
  exact kAll_cong (fun i hi => by rw [h _ (by omega), h a (by omega)])
theorem kKn_cong {f g : Nat → Int32} (h : ∀ c, c < 16 → f c = g c) : ∀ (d a : Nat), a + 2 ^ d ≤ 16 → kKn f d a = kKn g d a := by
  intro d
  induction d with
  | zero => intro a _; rfl
  | succ d ih =>
    intro a ha
    have e : 2 ^ (d + 1) = 2 ^ d + 2 ^ d := by rw [Nat.pow_succ]; omega
    have h0 : 0 < 2 ^ d := Nat.two_pow_pos d
    rw [e] at ha
    rw [kKn, kKn, leaf_cong (Nat.one_le_two_pow) (by rw [e]; exact ha) h, ih a (by omega), ih (a + 2 ^ d) (by omega)]
theorem kSum_cong {f g : Nat → Int32} : ∀ {n : Nat}, (∀ c, c < n → f c = g c) → kSum f n = kSum g n := by
  intro n
  induction n with
  | zero => intro _; rfl
  | succ n ih => intro h; rw [kSum, kSum, ih (fun c hc => h c (by omega)), h n (by omega)]
def live (S : kS) (i : Nat) : Bool := !(decide (S.sh i = 0))
def kOrd (a b : kSV) : Int32 := ordf a.1 b.1
def kCnt (a : kSV) : Nat := kCt a.2 128
def kKts (a : kSV) : Nat := kKn a.1 4 0
def hset (S : kS) : Nat → Int32
  | 0 => 0
  | n + 1 => if live S n = true then hset S n ||| ((1 : Int32) <<< (nI n &&& 31)) else hset S n
def isFo (S : kS) (h : Nat) : Bool := kAll (fun o => !(live S o) || (!(decide (kOrd (S.hs o) (S.hs h) = 2)) && !(decide (kOrd (S.hs o) (S.hs h) = 3)))) 8
def kHk (S : kS) : Nat → Nat
  | 0 => 0
  | n + 1 => if live S n = true then kHk S n + kKts (S.hs n) else kHk S n
def clq (S : kS) (a o : Nat) : Bool := decide (a < o) && (live S a && live S o && decide (kOrd (S.hs a) (S.hs o) = 3))
def clO (S : kS) : Nat → Nat
  | 0 => 0
  | n + 1 => clO S n + kCt (clq S n) 8
def lkS (S : kS) : Nat → Nat × Nat
  | 0 => (0, 121)
  | n + 1 => if live S n = true ∧ kCnt (S.hs n) < (lkS S n).2 then (n, kCnt (S.hs n)) else lkS S n
def rmv (S : kS) (m : Nat) : Nat → kS
  | 0 => S
  | k + 1 => ((rmv S m k).sh, (rmv S m k).hs, va_up (rmv S m k).ms (m + k) ((rmv S m k).ms (m + k + 1)), upd (rmv S m k).sn (m + k) ((rmv S m k).sn (m + k + 1)), (rmv S m k).mc, (rmv S m k).ac, (rmv S m k).ec)
def rmS (S : kS) (m : Nat) : kS := ((rmv S m (S.mc - 1 - m)).sh, (rmv S m (S.mc - 1 - m)).hs, (rmv S m (S.mc - 1 - m)).ms, (rmv S m (S.mc - 1 - m)).sn, S.mc - 1, (rmv S m (S.mc - 1 - m)).ac, (rmv S m (S.mc - 1 - m)).ec)
theorem rmv_mc (S : kS) (m : Nat) : ∀ k, (rmv S m k).mc = S.mc ∧ (rmv S m k).ec = S.ec := by
  intro k
  induction k with
  | zero => exact ⟨rfl, rfl⟩
  | succ k ih => exact ih
theorem nI_sub1 {n : Nat} (h : 1 ≤ n) : nI n - (1 : Int32) = nI (n - 1) := pk_sub (a := n) (b := 1) h
theorem cSt.ext {G : k_G} {M : k_M} {ad : Nat → Nat} {S T : kS} (h : cSt G M ad S) (e1 : ∀ i, i < 8 → S.sh i = T.sh i) (e2 : ∀ i, i < 8 → S.hs i = T.hs i) (e3 : ∀ i, i < 8 → S.ms i = T.ms i) (e4 : ∀ i, i < 8 → S.sn i = T.sn i) (e5 : S.mc = T.mc) (e6 : ∀ i, i < 120 → S.ac i = T.ac i) (e7 : S.ec = T.ec) : cSt G M ad T := by
  obtain ⟨h0, ⟨g1, h1, h1'⟩, h2, h3, ⟨g4, h4, h4'⟩, ⟨g5, h5, h5'⟩, h6, h7⟩ := h
  refine ⟨by rw [← e5, ← e7]; exact h0, ⟨g1, h1, fun i hi => (h1' i hi).trans (e1 i hi)⟩, h2, h3, ⟨g4, h4, fun i hi => (h4' i hi).trans (e4 i hi)⟩, ⟨g5, h5, fun i hi => (h5' i hi).trans (e6 i hi)⟩, fun i hi => by rw [← e2 i hi]; exact h6 i hi, fun i hi => by rw [← e3 i hi]; exact h7 i hi⟩
section S2C
variable {G : k_G} {M : k_M} {ad : Nat → Nat} {S : kS} {post : Int32 → k_M → Prop}
theorem inH_live {j : Nat} (hj : j < 8) : inH S.sh (nI j) = live S j := inH_nI hj
theorem k8_end {N : Nat} {i : Nat} (h : i < N) (hN : N < 2 ^ 31) : ¬ nI N ≤ nI i := kge h hN
theorem s_X2_helperSet (hS : cSt G M ad S) (hp : post (hset S 8) M) : wp_X2_helperSet G post (ad 0) M := by
  have key : ∀ (j i : Nat), i + j = 8 → wp_X2_helperSet_L4 G post (j + 1) (ad 0) (hset S i) (nI i) M := by
    intro j
    induction j with
    | zero =>
      intro i hi
      have : i = 8 := by omega
      subst this
      rw [wp_X2_helperSet_L4]
      exact ⟨fun _ => hp, fun h0 => absurd (by decide) h0⟩
    | succ j ih =>
      intro i hi
      rw [wp_X2_helperSet_L4]
      have ih1 := ih (i + 1) (by omega)
      rw [← kns i, hset] at ih1
      refine ⟨fun h0 => absurd h0 (kge (N := 8) (by omega) (by decide)), fun _ => ⟨_, hS.1, s_X2_isHelper hS ?_⟩⟩
      rw [inH_live (by omega)]
      refine ⟨fun hz => ?_, fun hz => ?_⟩
      · rw [if_neg (by rw [k01_z.mp hz]; decide)] at ih1; exact ih1
      · rw [if_pos (k01_nz hz)] at ih1; exact ih1
  unfold wp_X2_helperSet
  exact ⟨9, key 8 0 (by omega)⟩
theorem s_X2_isForemost {h : Nat} (hh : h < 8) (hS : cSt G M ad S) (hp : post (k01 (isFo S h)) M) : wp_X2_isForemost G post (ad 0) (nI h) M := by
  have hS0 := hS
  obtain ⟨h0, -, ⟨r2, h2, h2'⟩, -, -, -, h6, -⟩ := hS
  obtain ⟨eh, lh, gh, q1, q2, q3, -⟩ := h6 h hh
  have key : ∀ (j i : Nat), i + j = 8 → kAll (fun o => !(live S o) || (!(decide (kOrd (S.hs o) (S.hs h) = 2)) && !(decide (kOrd (S.hs o) (S.hs h) = 3)))) i = true → wp_X2_isForemost_L2 G post (j + 1) (ad 0) (nI h) (nI i) M := by
    intro j
    induction j with
    | zero =>
      intro i hi hl
      have : i = 8 := by omega
      subst this
      rw [wp_X2_isForemost_L2]
      rw [show isFo S h = true from hl] at hp
      exact ⟨fun _ => hp, fun h0 => absurd (by decide) h0⟩
    | succ j ih =>
      intro i hi hl
      rw [wp_X2_isForemost_L2]
      have ih1 := ih (i + 1) (by omega)
      rw [← kns i] at ih1
      refine ⟨fun h0 => absurd h0 (kge (N := 8) (by omega) (by decide)), fun _ => ⟨_, h0, s_X2_isHelper hS0 ?_⟩⟩
      rw [inH_live (by omega)]
      refine ⟨fun hz => ?_, fun hz => ?_⟩
      · refine ih1 ?_
        rw [kAll, hl, k01_z.mp hz]; rfl
      · have hb := k01_nz hz
        obtain ⟨ei, li, gi, i1, i2, i3, -⟩ := h6 i (by omega)
        refine ⟨_, _, h0, rfl, _, _, _, h2, kvin (by omega) (by omega), k_at (h2' i (by omega)) (by omega), _, _, h0, rfl, _, _, _, h2, kvin hh (by omega), k_at (h2' h hh) (by omega), _, i1, s_X1_orderTo i1 i2 q1 q2 ?_⟩
        rw [ordf_cong i3 q3]
        refine ⟨fun hc => ?_, fun hc => ⟨fun hd => ?_, fun hd => ?_⟩⟩
        · have : isFo S h = false := kAll_f (i := i) (by omega) (by simp [hb, kOrd, hc])
          rw [this] at hp; exact hp
        · refine ih1 ?_
          rw [kAll, hl, hb]
          simp [kOrd, hc, hd]
        · have : isFo S h = false := kAll_f (i := i) (by omega) (by simp [hb, kOrd, hd])
          rw [this] at hp; exact hp
  unfold wp_X2_isForemost
  exact ⟨9, key 8 0 (by omega) rfl⟩
theorem s_X2_foremost (hS : cSt G M ad S) (hp : post (kAns (fun i => live S i && isFo S i) 8) M) : wp_X2_foremost G post (ad 0) M := by
  have key : ∀ (j i : Nat), i + j = 8 → (∀ k, k < i → (live S k && isFo S k) = false) → wp_X2_foremost_L2 G post (j + 1) (ad 0) (nI i) M := by
    intro j
    induction j with
    | zero =>
      intro i hi hl
      have : i = 8 := by omega
      subst this
      rw [wp_X2_foremost_L2]
      unfold kAns at hp
      rw [kMin_no hl] at hp
      exact ⟨fun _ => hp, fun h0 => absurd (by decide) h0⟩
    | succ j ih =>
      intro i hi hl
      rw [wp_X2_foremost_L2]
      have ih1 := ih (i + 1) (by omega)
      rw [← kns i] at ih1
      have stp : (live S i && isFo S i) = false → ∀ k, k < i + 1 → (live S k && isFo S k) = false := fun hf k hk => by
        rcases Nat.lt_succ_iff_lt_or_eq.mp hk with h | h
        · exact hl k h
        · rw [h]; exact hf
      refine ⟨fun h0 => absurd h0 (kge (N := 8) (by omega) (by decide)), fun _ => ⟨_, hS.1, s_X2_isHelper hS ?_⟩⟩
      rw [inH_live (by omega)]
      refine ⟨fun hz => ih1 (stp (by rw [k01_z.mp hz]; rfl)), fun hz => ⟨_, hS.1, s_X2_isForemost (by omega) hS ⟨fun hy => ih1 (stp (by rw [k01_z.mp hy, Bool.and_false])), fun hy => ?_⟩⟩⟩
      unfold kAns at hp
      rw [kMin_is (i := i) (by omega) (by rw [k01_nz hz, k01_nz hy]; rfl) hl, if_pos (by omega)] at hp
      exact hp
  unfold wp_X2_foremost
  exact ⟨9, key 8 0 (by omega) (fun k hk => absurd hk (Nat.not_lt_zero k))⟩
theorem s_X2_knotsOfHelpers (hS : cSt G M ad S) (hp : post (nI (kHk S 8)) M) : wp_X2_knotsOfHelpers G post (ad 0) M := by
  have hS0 := hS
  obtain ⟨h0, -, ⟨r2, h2, h2'⟩, -, -, -, h6, -⟩ := hS
  have key : ∀ (j i : Nat), i + j = 8 → wp_X2_knotsOfHelpers_L4 G post (j + 1) (ad 0) (nI (kHk S i)) (nI i) M := by
    intro j
    induction j with
    | zero =>
      intro i hi
      have : i = 8 := by omega
      subst this
      rw [wp_X2_knotsOfHelpers_L4]
      exact ⟨fun _ => hp, fun h0 => absurd (by decide) h0⟩
    | succ j ih =>
      intro i hi
      rw [wp_X2_knotsOfHelpers_L4]
      have ih1 := ih (i + 1) (by omega)
      rw [← kns i, kHk] at ih1
      refine ⟨fun h0 => absurd h0 (kge (N := 8) (by omega) (by decide)), fun _ => ⟨_, h0, s_X2_isHelper hS0 ?_⟩⟩
      rw [inH_live (by omega)]
      refine ⟨fun hz => ?_, fun hz => ?_⟩
      · rw [if_neg (by rw [k01_z.mp hz]; decide)] at ih1; exact ih1
      · rw [if_pos (k01_nz hz)] at ih1
        obtain ⟨ei, li, gi, i1, i2, i3, -⟩ := h6 i (by omega)
        refine ⟨_, _, h0, rfl, _, _, _, h2, kvin (by omega) (by omega), k_at (h2' i (by omega)) (by omega), _, i1, s_X1_knots i1 i2 ?_⟩
        rw [nI_add, kKn_cong i3 4 0 (by decide)]
        exact ih1
  unfold wp_X2_knotsOfHelpers
  exact ⟨9, key 8 0 (by omega)⟩
theorem s_X2_clashingPairs (hS : cSt G M ad S) (hp : post (nI (clO S 8)) M) : wp_X2_clashingPairs G post (ad 0) M := by
  have hS0 := hS
  obtain ⟨h0, -, ⟨r2, h2, h2'⟩, -, -, -, h6, -⟩ := hS
  have inner : ∀ (K : Nat → Int32 → Int32 → k_M → Prop) (a : Nat), a < 8 → ∀ c : Nat, K (ad 0) (nI (c + kCt (clq S a) 8)) (nI a + (1 : Int32)) M → ∀ (j i : Nat), i + j = 8 → a < i → wp_X2_clashingPairs_L14 G post K (j + 1) (ad 0) (nI (c + kCt (clq S a) i)) (nI a) (nI i) M := by
    intro K a ha c hK j
    induction j with
    | zero =>
      intro i hi hai
      have : i = 8 := by omega
      subst this
      rw [wp_X2_clashingPairs_L14]
      exact ⟨fun _ => hK, fun h0 => absurd (by decide) h0⟩
    | succ j ih =>
      intro i hi hai
      rw [wp_X2_clashingPairs_L14]
      have ih1 := ih (i + 1) (by omega) (by omega)
      rw [← kns i, kCt] at ih1
      refine ⟨fun h0 => absurd h0 (kge (N := 8) (by omega) (by decide)), fun _ => ⟨_, h0, s_X2_isHelper hS0 ?_⟩⟩
      rw [inH_live ha]
      refine ⟨fun hz => ?_, fun hz => ⟨_, h0, s_X2_isHelper hS0 ?_⟩⟩
      · rw [if_neg (by unfold clq; rw [k01_z.mp hz]; simp)] at ih1; exact ih1
      · rw [inH_live (by omega)]
        refine ⟨fun hy => ?_, fun hy => ?_⟩
        · rw [if_neg (by unfold clq; rw [k01_z.mp hy]; simp)] at ih1; exact ih1
        · obtain ⟨ea, la, ga, a1, a2, a3, -⟩ := h6 a ha
          obtain ⟨ei, li, gi, i1, i2, i3, -⟩ := h6 i (by omega)
          refine ⟨_, _, h0, rfl, _, _, _, h2, kvin ha (by omega), k_at (h2' a ha) (by omega), _, _, h0, rfl, _, _, _, h2, kvin (show i < 8 by omega) (by omega), k_at (h2' i (by omega)) (by omega), _, a1, s_X1_orderTo a1 a2 i1 i2 ?_⟩
          rw [ordf_cong a3 i3]
          refine ⟨fun hc => ?_, fun hc => ?_⟩
          · rw [if_neg (by unfold clq kOrd; rw [decide_eq_false hc]; simp)] at ih1; exact ih1
          · rw [if_pos (by unfold clq kOrd; rw [decide_eq_true hc, k01_nz hz, k01_nz hy, decide_eq_true hai]; rfl)] at ih1
            rw [kns (c + kCt (clq S a) i)]
            exact ih1
  have z0 : ∀ a n : Nat, n ≤ a + 1 → kCt (clq S a) n = 0 := by
    intro a n
    induction n with
    | zero => intro _; rfl
    | succ n ih => intro h; rw [kCt, ih (by omega), if_neg (by unfold clq; rw [decide_eq_false (by omega)]; simp)]
  have key : ∀ (j i : Nat), i + j = 8 → wp_X2_clashingPairs_L4 G post (j + 1) (ad 0) (nI (clO S i)) (nI i) M := by
    intro j
    induction j with
    | zero =>
      intro i hi
      have : i = 8 := by omega
      subst this
      rw [wp_X2_clashingPairs_L4]
      exact ⟨fun _ => hp, fun h0 => absurd (by decide) h0⟩
    | succ j ih =>
      intro i hi
      rw [wp_X2_clashingPairs_L4]
      have ih1 := ih (i + 1) (by omega)
      rw [← kns i, clO] at ih1
      refine ⟨fun h0 => absurd h0 (kge (N := 8) (by omega) (by decide)), fun _ => ⟨8 - (i + 1) + 1, ?_⟩⟩
      have := inner (wp_X2_clashingPairs_L4 G post (j + 1)) i (by omega) (clO S i) ih1 (8 - (i + 1)) (i + 1) (by omega) (by omega)
      rw [z0 i (i + 1) (Nat.le_refl _), Nat.add_zero, ← kns i] at this
      exact this
  unfold wp_X2_clashingPairs
  exact ⟨9, key 8 0 (by omega)⟩
theorem lkS_le (S : kS) : ∀ n, (lkS S n).2 ≤ 128 := by
  intro n
  induction n with
  | zero => exact Nat.le_of_ble_eq_true rfl
  | succ n ih =>
    rw [lkS]
    split
    · exact kCt_le
    · exact ih
theorem s_X2_leastKnowing (hS : cSt G M ad S) (hp : post (nI (lkS S 8).1) M) : wp_X2_leastKnowing G post (ad 0) M := by
  have hS0 := hS
  obtain ⟨h0, -, ⟨r2, h2, h2'⟩, -, -, -, h6, -⟩ := hS
  have key : ∀ (j i : Nat), i + j = 8 → wp_X2_leastKnowing_L7 G post (j + 1) (ad 0) (nI (lkS S i).1) (nI (lkS S i).2) (nI i) M := by
    intro j
    induction j with
    | zero =>
      intro i hi
      have : i = 8 := by omega
      subst this
      rw [wp_X2_leastKnowing_L7]
      exact ⟨fun _ => hp, fun h0 => absurd (by decide) h0⟩
    | succ j ih =>
      intro i hi
      rw [wp_X2_leastKnowing_L7]
      have ih1 := ih (i + 1) (by omega)
      rw [← kns i, lkS] at ih1
      refine ⟨fun h0 => absurd h0 (kge (N := 8) (by omega) (by decide)), fun _ => ⟨_, h0, s_X2_isHelper hS0 ?_⟩⟩
      rw [inH_live (by omega)]
      refine ⟨fun hz => ?_, fun hz => ?_⟩
      · rw [if_neg (fun z => by rw [k01_z.mp hz] at z; cases z.1)] at ih1; exact ih1
      · obtain ⟨ei, li, gi, i1, i2, i3, i4⟩ := h6 i (by omega)
        have hc : kCt (kn ei li) 128 = kCnt (S.hs i) := kCt_cong i4
        have hle : kCnt (S.hs i) ≤ 128 := kCt_le
        have hl2 := lkS_le S i
        refine ⟨_, _, h0, rfl, _, _, _, h2, kvin (show i < 8 by omega) (by omega), k_at (h2' i (by omega)) (by omega), _, i1, s_X1_knownCount i1 ?_⟩
        rw [hc]
        refine ⟨fun hy => ?_, fun hy => ?_⟩
        · rw [if_neg (fun z => absurd hy (kge z.2 (by omega)))] at ih1; exact ih1
        · have hlt : kCnt (S.hs i) < (lkS S i).2 := by
            rcases Nat.lt_or_ge (kCnt (S.hs i)) (lkS S i).2 with z | z
            · exact z
            · exact absurd (nI_le z (by omega)) hy
          rw [if_pos ⟨k01_nz hz, hlt⟩] at ih1
          refine ⟨_, _, h0, rfl, _, _, _, h2, kvin (show i < 8 by omega) (by omega), k_at (h2' i (by omega)) (by omega), _, i1, s_X1_knownCount i1 ?_⟩
          rw [hc]
          exact ih1
  unfold wp_X2_leastKnowing
  exact ⟨9, key 8 0 (by omega)⟩
theorem s_X2_removeMessage {postv : k_M → Prop} {m : Nat} (hm : m < S.mc) (hmc : S.mc ≤ 8) (hi : kInj ad) (hS : cSt G M ad S)
    (hp : ∀ M1 : k_M, (∀ a, (∀ i, i < 38 → a ≠ ad i) → M1 a = M a) → cSt G M1 ad (rmS S m) → postv M1) : wp_X2_removeMessage G postv (ad 0) (nI m) M := by
  have key : ∀ (j k : Nat), m + 1 + k + j = S.mc → ∀ M1 : k_M, (∀ a, (∀ i, i < 38 → a ≠ ad i) → M1 a = M a) → cSt G M1 ad (rmv S m k) → wp_X2_removeMessage_L4 G postv (j + 1) (ad 0) (nI (m + 1 + k)) M1 := by
    intro j
    induction j with
    | zero =>
      intro k hk M1 f1 hc
      rw [wp_X2_removeMessage_L4]
      have hc0 := hc.1
      have e1 := (rmv_mc S m k).1
      refine ⟨_, _, hc0, rfl, fun _ => ⟨_, _, hc0, rfl, _, hc0, by simp, fun M2 e2 => ?_⟩, fun h0 => absurd (nI_le (by omega) (by omega)) h0⟩
      have m2 : ∀ i, i < 38 → i ≠ 0 → M2 (ad i) = M1 (ad i) := fun i h h' => by rw [e2, kup_ne (hi.ne h (by omega) h')]
      obtain ⟨-, h1, ⟨r2, h2, h2'⟩, ⟨r3, h3, h3'⟩, h4, h5, h6, h7⟩ := hc
      have ek : S.mc - 1 - m = k := by omega
      refine hp M2 (fun a ha => by rw [e2, kup_ne (ha 0 (by omega))]; exact f1 a ha) ?_
      unfold rmS
      rw [ek]
      refine ⟨?_, h1.kept (m2 1 (by omega) (by omega)), ⟨r2, (m2 2 (by omega) (by omega)).trans h2, h2'⟩, ⟨r3, (m2 3 (by omega) (by omega)).trans h3, h3'⟩, h4.kept (m2 4 (by omega) (by omega)), h5.kept (m2 5 (by omega) (by omega)), fun i h => (h6 i h).kept (m2 _ (by omega) (by omega)) (m2 _ (by omega) (by omega)), fun i h => (h7 i h).kept (m2 _ (by omega) (by omega)) (m2 _ (by omega) (by omega))⟩
      rw [e2, kup_same, e1, nI_sub1 (by omega)]
      rfl
    | succ j ih =>
      intro k hk M1 f1 hc
      rw [wp_X2_removeMessage_L4]
      have hc0 := hc.1
      have e1 := (rmv_mc S m k).1
      obtain ⟨-, h1, ⟨r2, h2, h2'⟩, ⟨r3, h3, h3'⟩, ⟨g4, h4, h4'⟩, h5, h6, h7⟩ := hc
      obtain ⟨ea, la, ga, a1, a2, a3, a4⟩ := h7 (m + k) (by omega)
      obtain ⟨eb, lb, gb, b1, b2, b3, b4⟩ := h7 (m + k + 1) (by omega)
      have es : nI (m + 1 + k) - (1 : Int32) = nI (m + k) := by rw [nI_sub1 (by omega)]; congr 1; omega
      have em : m + 1 + k = m + k + 1 := by omega
      refine ⟨_, _, hc0, rfl, fun h0 => absurd h0 (kge (by omega) (by omega)), fun _ => ?_⟩
      rw [es, em]
      refine ⟨_, _, hc0, rfl, _, _, _, h3, kvin (show m + k < 8 by omega) (by omega), k_at (h3' (m + k) (by omega)) (by omega), _, _, hc0, rfl, _, _, _, h3, kvin (show m + k + 1 < 8 by omega) (by omega), k_at (h3' (m + k + 1) (by omega)) (by omega), _, a1, ?_⟩
      refine s_X1_become a1 a2 b1 b2 (hi.ne (by omega) (by omega) (by omega)) (fun M2 g' q1 q2 q3 q4 => ?_)
      have m2 : ∀ n, n < 38 → n ≠ 22 + 2 * (m + k) → n ≠ 23 + 2 * (m + k) → M2 (ad n) = M1 (ad n) := fun n h b c => q1 _ (hi.ne h (by omega) c) (hi.ne h (by omega) b)
      have c0 := (m2 0 (by omega) (by omega) (by omega)).trans hc0
      have c4 := (m2 4 (by omega) (by omega) (by omega)).trans h4
      refine ⟨_, _, c0, rfl, _, _, c0, rfl, _, _, c4, kvin (show m + k + 1 < 8 by omega) (by omega), _, _, c4, kvin (show m + k < 8 by omega) (by omega), fun M3 e3 => ?_⟩
      rw [kcl (i := m + k) (by omega), kcl (i := m + k + 1) (by omega)] at e3
      have m3' : ∀ n, n < 38 → n ≠ 4 → M3 (ad n) = M2 (ad n) := fun n h b => by rw [e3, kup_ne (hi.ne h (by omega) b)]
      have m3 : ∀ n, n < 38 → n ≠ 4 → n ≠ 22 + 2 * (m + k) → n ≠ 23 + 2 * (m + k) → M3 (ad n) = M1 (ad n) := fun n h a b c => (m3' n h a).trans (m2 n h b c)
      have := ih (k + 1) (by omega) M3 (fun a ha => by rw [e3, kup_ne (ha 4 (by omega)), q1 a (ha _ (by omega)) (ha _ (by omega))]; exact f1 a ha) ?_
      · rw [show m + 1 + (k + 1) = m + k + 1 + 1 by omega, ← kns (m + k + 1)] at this
        exact this
      refine ⟨(m3 0 (by omega) (by omega) (by omega) (by omega)).trans hc0, h1.kept (m3 1 (by omega) (by omega) (by omega) (by omega)), ⟨r2, (m3 2 (by omega) (by omega) (by omega) (by omega)).trans h2, h2'⟩, ⟨r3, (m3 3 (by omega) (by omega) (by omega) (by omega)).trans h3, h3'⟩, ⟨_, by rw [e3, kup_same], fun n h => ?_⟩, h5.kept (m3 5 (by omega) (by omega) (by omega) (by omega)), fun n h => (h6 n h).kept (m3 _ (by omega) (by omega) (by omega) (by omega)) (m3 _ (by omega) (by omega) (by omega) (by omega)), fun n h => ?_⟩
      · show upd g4 (m + k) (g4 (m + k + 1)) n = upd (rmv S m k).sn (m + k) ((rmv S m k).sn (m + k + 1)) n
        by_cases hn : n = m + k
        · subst hn; rw [upd_s, upd_s]; exact h4' _ (by omega)
        · rw [upd_n hn, upd_n hn]; exact h4' n h
      · show cStp G M3 _ _ (va_up (rmv S m k).ms (m + k) ((rmv S m k).ms (m + k + 1)) n)
        by_cases hn : n = m + k
        · subst hn
          rw [vup_s]
          exact ⟨eb, lb, g', (m3' _ (by omega) (by omega)).trans q2, (m3' _ (by omega) (by omega)).trans q3, fun c hc => (q4 c hc).trans (b3 c hc), b4⟩
        · rw [vup_n hn]
          exact (h7 n h).kept (m3 _ (by omega) (by omega) (by omega) (by omega)) (m3 _ (by omega) (by omega) (by omega) (by omega))
  unfold wp_X2_removeMessage
  rw [kns m]
  exact ⟨S.mc - (m + 1) + 1, key (S.mc - (m + 1)) 0 (by omega) M (fun _ _ => rfl) hS⟩
end S2C
