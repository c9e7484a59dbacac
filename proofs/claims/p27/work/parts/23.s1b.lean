/-! ===== lN n to 2^64: shifts, and, or, masks, one bit ===== -/
theorem wb_tb (n : Nat) : (lN n).toBitVec = BitVec.ofNat 64 n := rfl
theorem wb_inj {a b : Int64} (h : a.toBitVec = b.toBitVec) : a = b := Int64.toBitVec_inj.mp h
theorem wb_tn {n : Nat} (h : n < 2 ^ 64) : (lN n).toBitVec.toNat = n := by rw [wb_tb, BitVec.toNat_ofNat, Nat.mod_eq_of_lt h]
theorem wb_of (x : Int64) : ∃ n, n < 2 ^ 64 ∧ x = lN n := ⟨x.toBitVec.toNat, x.toBitVec.isLt, wb_inj (by rw [wb_tb]; simp)⟩
theorem wb_of32 (x : Int32) : ∃ n, n < 2 ^ 32 ∧ x = nI n := ⟨x.toBitVec.toNat, x.toBitVec.isLt, Int32.toBitVec_inj.mp (by show _ = BitVec.ofNat 32 _; simp)⟩
theorem wb_c : ∀ k, k < 64 → ((nI k).toInt64 &&& 63) = lN k := by decide +kernel
theorem wb_cu : ∀ k, k < 64 → ((nI k).toInt64.toUInt64 &&& Int64.toUInt64 63) = UInt64.ofNat k := by decide +kernel
theorem wb_sm : ∀ k, k < 64 → (BitVec.ofNat 64 k).smod 64 = BitVec.ofNat 64 k := by decide +kernel
theorem wb_pw {a b : Nat} (h : a ≤ b) : 2 ^ b = 2 ^ a * 2 ^ (b - a) := by rw [← Nat.pow_add]; congr 1; omega
theorem wb_lt2 {a b : Nat} (h : a < b) : 2 ^ a < 2 ^ b := Nat.pow_lt_pow_right (by decide) h
theorem wb_mod (n : Nat) : lN n = lN (n % 2 ^ 64) := wb_inj (by rw [wb_tb, wb_tb]; apply BitVec.eq_of_toNat_eq; rw [BitVec.toNat_ofNat, BitVec.toNat_ofNat, Nat.mod_mod])
theorem wb_shr {n k : Nat} (hn : n < 2 ^ 64) (hk : k < 64) : ((lN n).toUInt64 >>> ((nI k).toInt64.toUInt64 &&& Int64.toUInt64 63)).toInt64 = lN (n / 2 ^ k) := by
  rw [wb_cu k hk]
  apply wb_inj
  apply BitVec.eq_of_toNat_eq
  show ((lN n).toUInt64 >>> UInt64.ofNat k).toNat = (BitVec.ofNat 64 _).toNat
  have h1 : (UInt64.ofNat k).toNat = k := by
    show (BitVec.ofNat 64 k).toNat = k
    rw [BitVec.toNat_ofNat, Nat.mod_eq_of_lt (by omega)]
  have h2 : (lN n).toUInt64.toNat = n := wb_tn hn
  rw [UInt64.toNat_shiftRight, h1, h2, Nat.mod_eq_of_lt hk, Nat.shiftRight_eq_div_pow, BitVec.toNat_ofNat, Nat.mod_eq_of_lt (Nat.lt_of_le_of_lt (Nat.div_le_self _ _) hn)]
theorem wb_shl (n : Nat) {k : Nat} (hk : k < 64) : lN n <<< ((nI k).toInt64 &&& 63) = lN (n * 2 ^ k) := by
  rw [wb_c k hk]
  apply wb_inj
  rw [Int64.toBitVec_shiftLeft, wb_tb, wb_tb, wb_tb, wb_sm k hk]
  apply BitVec.eq_of_toNat_eq
  rw [BitVec.shiftLeft_eq', BitVec.toNat_shiftLeft, BitVec.toNat_ofNat, BitVec.toNat_ofNat, BitVec.toNat_ofNat, Nat.mod_eq_of_lt (show k < 2 ^ 64 by omega), Nat.shiftLeft_eq, Nat.mul_mod, Nat.mod_mod, ← Nat.mul_mod]
theorem wb_and {a b : Nat} (ha : a < 2 ^ 64) (hb : b < 2 ^ 64) : lN a &&& lN b = lN (a &&& b) := by
  apply wb_inj
  rw [Int64.toBitVec_and, wb_tb, wb_tb, wb_tb]
  apply BitVec.eq_of_toNat_eq
  rw [BitVec.toNat_and, BitVec.toNat_ofNat, BitVec.toNat_ofNat, BitVec.toNat_ofNat, Nat.mod_eq_of_lt ha, Nat.mod_eq_of_lt hb, Nat.mod_eq_of_lt (Nat.and_lt_two_pow _ hb)]
theorem wb_or {a b : Nat} (ha : a < 2 ^ 64) (hb : b < 2 ^ 64) : lN a ||| lN b = lN (a ||| b) := by
  apply wb_inj
  rw [Int64.toBitVec_or, wb_tb, wb_tb, wb_tb]
  apply BitVec.eq_of_toNat_eq
  rw [BitVec.toNat_or, BitVec.toNat_ofNat, BitVec.toNat_ofNat, BitVec.toNat_ofNat, Nat.mod_eq_of_lt ha, Nat.mod_eq_of_lt hb, Nat.mod_eq_of_lt (Nat.or_lt_two_pow ha hb)]
theorem wb_mask {n k : Nat} (hn : n < 2 ^ 64) (hk : k < 64) : lN n &&& lN (2 ^ k - 1) = lN (n % 2 ^ k) := by
  rw [wb_and hn (by have := wb_lt2 hk; omega), Nat.and_two_pow_sub_one_eq_mod]
theorem wb_a1 {n : Nat} (hn : n < 2 ^ 64) : lN n &&& 1 = lN (n % 2) := wb_mask (k := 1) hn (by decide)
theorem wb_bit {n k : Nat} (hn : n < 2 ^ 64) (hk : k < 64) : ((lN n).toUInt64 >>> ((nI k).toInt64.toUInt64 &&& Int64.toUInt64 63)).toInt64 &&& 1 = lN (n / 2 ^ k % 2) := by
  rw [wb_shr hn hk, wb_a1 (Nat.lt_of_le_of_lt (Nat.div_le_self _ _) hn)]
theorem wb_xor {q k : Nat} (hk : k < 63) (h : 2 ^ k ≤ q) (h2 : q < 2 ^ (k + 1)) : lN q ^^^ lN (2 ^ k) = lN (q - 2 ^ k) := by
  obtain ⟨r, rfl⟩ : ∃ r, q = 2 ^ k + r := ⟨q - 2 ^ k, by omega⟩
  have hr : r < 2 ^ k := by rw [Nat.pow_succ] at h2; omega
  have hx : (2 ^ k + r) ^^^ 2 ^ k = r := by
    apply Nat.eq_of_testBit_eq
    intro i
    rw [Nat.testBit_xor, Nat.testBit_two_pow]
    rcases Nat.lt_trichotomy i k with h | h | h
    · rw [Nat.testBit_two_pow_add_gt h]
      simp [show ¬ k = i by omega]
    · subst h
      rw [Nat.testBit_two_pow_add_eq]
      simp
    · have a1 : 2 ^ (k + 1) ≤ 2 ^ i := Nat.pow_le_pow_right (by decide) h
      rw [Nat.testBit_lt_two_pow (show 2 ^ k + r < 2 ^ i by omega), Nat.testBit_lt_two_pow (show r < 2 ^ i by omega)]
      simp [show ¬ k = i by omega]
  have b1 := wb_lt2 (show k + 1 < 64 by omega)
  have b2 := wb_lt2 (show k < 64 by omega)
  apply wb_inj
  rw [Int64.toBitVec_xor, wb_tb, wb_tb, wb_tb]
  apply BitVec.eq_of_toNat_eq
  rw [BitVec.toNat_xor, BitVec.toNat_ofNat, BitVec.toNat_ofNat, BitVec.toNat_ofNat, Nat.mod_eq_of_lt (by omega : 2 ^ k + r < 2 ^ 64), Nat.mod_eq_of_lt b2, hx, Nat.add_sub_cancel_left, Nat.mod_eq_of_lt (by omega)]
/-! ===== known events: two longs as 128 bits ===== -/
theorem bl_and (x y : Int64) (i : Nat) : bl (x &&& y) i = (bl x i && bl y i) := by unfold bl; rw [Int64.toBitVec_and, BitVec.getLsbD_and]
theorem bl_or (x y : Int64) (i : Nat) : bl (x ||| y) i = (bl x i || bl y i) := by unfold bl; rw [Int64.toBitVec_or, BitVec.getLsbD_or]
theorem bl_xor (x y : Int64) (i : Nat) : bl (x ^^^ y) i = (bl x i ^^ bl y i) := by unfold bl; rw [Int64.toBitVec_xor, BitVec.getLsbD_xor]
theorem bl_m1 : ∀ i, i < 64 → bl (-1) i = true := by decide +kernel
theorem bl_not (x : Int64) {i : Nat} (hi : i < 64) : bl (x ^^^ (-1 : Int64)) i = !(bl x i) := by rw [bl_xor, bl_m1 i hi, Bool.xor_true]
theorem bl_0 (i : Nat) : bl 0 i = false := BitVec.getLsbD_zero
theorem bl_lN {n : Nat} (h : n < 2 ^ 64) (i : Nat) : bl (lN n) i = n.testBit i := by
  rw [bl_uL]
  unfold uL
  rw [wb_tn h]
theorem lN_uL (x : Int64) : lN (uL x) = x := wb_inj (by show BitVec.ofNat 64 (x.toBitVec.toNat) = x.toBitVec; simp)
theorem bl_one {k : Nat} (hk : k < 64) (i : Nat) : bl ((1 : Int64) <<< ((nI k).toInt64 &&& 63)) i = decide (i = k) := by
  have h : (1 : Int64) <<< ((nI k).toInt64 &&& 63) = lN (1 * 2 ^ k) := wb_shl 1 hk
  rw [h, Nat.one_mul, bl_lN (Nat.pow_lt_pow_right (by decide) hk), Nat.testBit_two_pow]
  by_cases hik : i = k
  · simp [hik]
  · simp [hik, Ne.symm hik]
theorem k_isK (v : Int64) {k : Nat} (hk : k < 64) : lg_cmp (((v).toUInt64 >>> ((nI k).toInt64.toUInt64 &&& Int64.toUInt64 63)).toInt64 &&& (1 : Int64)) (1 : Int64) = 0 ↔ bl v k = true := by
  have hb : bl v k = decide (uL v / 2 ^ k % 2 = 1) := by rw [bl_uL]; exact Nat.testBit_eq_decide_div_mod_eq
  have hv := wb_bit (n := uL v) (k := k) (uL_lt v) hk
  rw [lN_uL] at hv
  rw [hv, hb]
  rcases Nat.mod_two_eq_zero_or_one (uL v / 2 ^ k) with h | h
  · rw [h]; decide
  · rw [h]; decide
def kn (e l : Int64) (i : Nat) : Bool := if i < 64 then bl e i else bl l (i - 64)
theorem kn_or (e l e2 l2 : Int64) (i : Nat) : kn (e ||| e2) (l ||| l2) i = (kn e l i || kn e2 l2 i) := by
  unfold kn
  split
  · exact bl_or _ _ _
  · exact bl_or _ _ _
theorem nI_64 {p : Nat} (h : 64 ≤ p) : nI p - (64 : Int32) = nI (p - 64) := pk_sub (a := p) (b := 64) h
section S1B
variable {G : k_G} {M : k_M} {h q h2 q2 : Nat} {f f2 : Nat → Int32} {e l e2 l2 : Int64}
theorem s_X1_learn {post : k_M → Prop} {ev : Nat} (hev : ev < 128) (hM : M h = some (kO 2 [.ref q, .long e, .long l]))
    (hp : ∀ (M1 : k_M) (e' l' : Int64), (∀ a, a ≠ h → M1 a = M a) → M1 h = some (kO 2 [.ref q, .long e', .long l']) → (∀ i, i < 128 → kn e' l' i = (kn e l i || decide (i = ev))) → post M1) : wp_X1_learn G post h (nI ev) M := by
  unfold wp_X1_learn
  refine ⟨fun hc => ?_, fun hc => ?_⟩
  · have h64 : 64 ≤ ev := by
      rcases Nat.lt_or_ge ev 64 with z | z
      · exact absurd hc (kge (N := 64) z (by decide))
      · exact z
    refine ⟨_, _, hM, rfl, _, hM, by simp, fun M1 e1 => ?_⟩
    refine hp M1 e _ (fun a ha => by rw [e1, kup_ne ha]) (by rw [e1, kup_same]; rfl) (fun i hi => ?_)
    unfold kn
    by_cases h6 : i < 64
    · rw [if_pos h6, if_pos h6, decide_eq_false (by omega), Bool.or_false]
    · rw [if_neg h6, if_neg h6, bl_or, nI_64 h64, bl_one (by omega)]
      congr 1
      exact decide_eq_decide.mpr (by omega)
  · have h64 : ev < 64 := by
      rcases Nat.lt_or_ge ev 64 with z | z
      · exact z
      · exact absurd (nI_le (a := 64) z (by omega)) hc
    refine ⟨_, _, hM, rfl, _, hM, by simp, fun M1 e1 => ?_⟩
    refine hp M1 _ l (fun a ha => by rw [e1, kup_ne ha]) (by rw [e1, kup_same]; rfl) (fun i hi => ?_)
    unfold kn
    by_cases h6 : i < 64
    · rw [if_pos h6, if_pos h6, bl_or, bl_one h64]
    · rw [if_neg h6, if_neg h6, decide_eq_false (by omega), Bool.or_false]
theorem s_X1_isKnown {post : Int32 → k_M → Prop} {ev : Nat} (hev : ev < 128) (hM : M h = some (kO 2 [.ref q, .long e, .long l])) (hp : post (k01 (kn e l ev)) M) : wp_X1_isKnown G post h (nI ev) M := by
  unfold wp_X1_isKnown
  have blk : ∀ (v : Int64) (k : Nat), k < 64 → bl v k = kn e l ev → wp_X1_isKnown_b24 G post ((v).toUInt64 >>> ((nI k).toInt64.toUInt64 &&& Int64.toUInt64 63)).toInt64 M := by
    intro v k hk hb
    unfold wp_X1_isKnown_b24
    rw [← hb] at hp
    refine ⟨fun hc => ?_, fun hc => ?_⟩
    · have : bl v k = false := by
        cases hz : bl v k with
        | false => rfl
        | true => exact absurd ((k_isK v hk).mpr hz) hc
      rw [this] at hp; exact hp
    · rw [(k_isK v hk).mp hc] at hp; exact hp
  refine ⟨fun hc => ?_, fun hc => ?_⟩
  · have h64 : 64 ≤ ev := by
      rcases Nat.lt_or_ge ev 64 with z | z
      · exact absurd hc (kge (N := 64) z (by decide))
      · exact z
    refine ⟨_, _, hM, rfl, ?_⟩
    rw [nI_64 h64]
    exact blk l (ev - 64) (by omega) (by unfold kn; rw [if_neg (by omega)])
  · have h64 : ev < 64 := by
      rcases Nat.lt_or_ge ev 64 with z | z
      · exact z
      · exact absurd (nI_le (a := 64) z (by omega)) hc
    exact ⟨_, _, hM, rfl, blk e ev h64 (by unfold kn; rw [if_pos h64])⟩
theorem kCt_kn (e l : Int64) : kCt (bl e) 64 + kCt (bl l) 64 = kCt (kn e l) 128 := by
  rw [show (128 : Nat) = 64 + 64 from rfl, kCt_split]
  have h1 : kCt (kn e l) 64 = kCt (bl e) 64 := kCt_cong (fun i hi => by unfold kn; rw [if_pos hi])
  have h2 : kCt (fun i => kn e l (64 + i)) 64 = kCt (bl l) 64 := kCt_cong (fun i hi => by unfold kn; rw [if_neg (by omega), Nat.add_sub_cancel_left])
  rw [h1, h2]
theorem s_X1_knownCount {post : Int32 → k_M → Prop} (hM : M h = some (kO 2 [.ref q, .long e, .long l])) (hp : post (nI (kCt (kn e l) 128)) M) : wp_X1_knownCount G post h M := by
  unfold wp_X1_knownCount
  refine ⟨_, _, hM, rfl, s_bitCountL ⟨_, _, hM, rfl, s_bitCountL ?_⟩⟩
  rw [nI_add, kCt_kn]
  exact hp
theorem s_X1_knownBeyond {post : Int32 → k_M → Prop} (hM : M h = some (kO 2 [.ref q, .long e, .long l])) (hM2 : M h2 = some (kO 2 [.ref q2, .long e2, .long l2])) (hp : post (nI (kCt (fun i => kn e l i && !(kn e2 l2 i)) 128)) M) : wp_X1_knownBeyond G post h h2 M := by
  unfold wp_X1_knownBeyond
  refine ⟨_, _, hM, rfl, _, _, hM2, rfl, s_bitCountL ⟨_, _, hM, rfl, _, _, hM2, rfl, s_bitCountL ?_⟩⟩
  rw [nI_add, kCt_kn]
  have : kCt (kn (e &&& (e2 ^^^ (-1))) (l &&& (l2 ^^^ (-1)))) 128 = kCt (fun i => kn e l i && !(kn e2 l2 i)) 128 := by
    refine kCt_cong (fun i hi => ?_)
    unfold kn
    by_cases h6 : i < 64
    · simp only [if_pos h6]
      rw [bl_and, bl_not _ h6]
    · simp only [if_neg h6]
      rw [bl_and, bl_not _ (by omega)]
  rw [this]
  exact hp
def kLast (p : Nat → Bool) : Nat → Int32
  | 0 => -6
  | n + 1 => if p n = true then nI n else kLast p n
theorem s_X1_latestKnown {post : Int32 → k_M → Prop} (hM : M h = some (kO 2 [.ref q, .long e, .long l])) (hp : post (kLast (kn e l) 120) M) : wp_X1_latestKnown G post h M := by
  have key : ∀ j : Nat, j ≤ 120 → post (kLast (kn e l) j) M → wp_X1_latestKnown_L3 G post (j + 1) h (nI j + (-1 : Int32)) M := by
    intro j
    induction j with
    | zero =>
      intro _ hp
      rw [wp_X1_latestKnown_L3]
      exact ⟨fun _ => hp, fun h0 => absurd (by decide) h0⟩
    | succ j ih =>
      intro hj hp
      rw [wp_X1_latestKnown_L3, pk_m1]
      refine ⟨fun h0 => absurd h0 (nI_pos (by omega)), fun _ => ⟨_, hM, s_X1_isKnown (by omega) hM ⟨fun hz => ?_, fun hz => ?_⟩⟩⟩
      · rw [kLast, if_neg (by rw [k01_z.mp hz]; decide)] at hp
        exact ih (by omega) hp
      · rw [kLast, if_pos (by cases hb : kn e l j with | true => rfl | false => rw [hb] at hz; exact absurd rfl hz)] at hp
        exact hp
  unfold wp_X1_latestKnown
  exact ⟨121, key 120 (Nat.le_refl _) hp⟩
def leaf (f : Nat → Int32) (a s : Nat) : Bool := kAll (fun i => decide (f (a + 1 + i) = f a)) (s - 1)
theorem s_X1_isLeaf {post : Int32 → k_M → Prop} {a s : Nat} (hq : M q = some (kI G 16 f)) (hs : 1 ≤ s) (has : a + s ≤ 16) (hp : post (k01 (leaf f a s)) M) : wp_X1_isLeaf G post q (nI a) (nI s) M := by
  have key : ∀ (j k : Nat), k + j = s - 1 → kAll (fun i => decide (f (a + 1 + i) = f a)) k = true → wp_X1_isLeaf_L4 G post (j + 1) q (nI a) (nI s) (nI (a + 1 + k)) M := by
    intro j
    induction j with
    | zero =>
      intro k hk hl
      rw [wp_X1_isLeaf_L4]
      dsimp only
      rw [nI_add]
      have e1 : a + 1 + k = a + s := by omega
      have e2 : leaf f a s = true := by unfold leaf; rw [← hl]; congr 1; omega
      rw [e1]
      rw [e2] at hp
      exact ⟨fun _ => hp, fun h0 => absurd (nI_le (Nat.le_refl _) (by omega)) h0⟩
    | succ j ih =>
      intro k hk hl
      rw [wp_X1_isLeaf_L4]
      dsimp only
      rw [nI_add]
      refine ⟨fun h0 => absurd h0 (kge (by omega) (by omega)), fun _ => ⟨_, _, hq, vp_in_nI (by omega) (by omega), _, _, hq, vp_in_nI (by omega) (by omega), ?_⟩⟩
      rw [kcl (by omega), kcl (by omega)]
      refine ⟨fun hc => ?_, fun hc => ?_⟩
      · have := ih (k + 1) (by omega) (by
          show (kAll _ k && decide (f (a + 1 + k) = f a)) = true
          rw [hl, hc]; simp)
        rw [show a + 1 + (k + 1) = a + 1 + k + 1 by omega, ← kns] at this
        exact this
      · have : leaf f a s = false := kAll_f (i := k) (by omega) (decide_eq_false hc)
        rw [this] at hp
        exact hp
  unfold wp_X1_isLeaf
  rw [kns]
  exact ⟨s - 1 + 1, key (s - 1) 0 (by omega) rfl⟩
/-- the knots of the tree of the row of 2^d cells from a on -/
def kKn (f : Nat → Int32) : Nat → Nat → Nat
  | 0, _ => 0
  | d + 1, a => if leaf f a (2 ^ (d + 1)) = true then 0 else 1 + kKn f d a + kKn f d (a + 2 ^ d)
theorem k_half {d : Nat} (hd : d < 5) : nI (2 ^ (d + 1)) / (2 : Int32) = nI (2 ^ d) := by
  rcases (show d = 0 ∨ d = 1 ∨ d = 2 ∨ d = 3 ∨ d = 4 by omega) with rfl | rfl | rfl | rfl | rfl <;> decide
theorem k_big {d : Nat} (hd : d < 5) : ¬ nI (2 ^ (d + 1)) ≤ (1 : Int32) := by
  rcases (show d = 0 ∨ d = 1 ∨ d = 2 ∨ d = 3 ∨ d = 4 by omega) with rfl | rfl | rfl | rfl | rfl <;> decide
theorem s_knots0_v0 {post : Int32 → k_M → Prop} {a : Nat} (hp : post 0 M) : wp_X1_knotsOfRow_v0 G post q (nI a) (nI 1) M := by
  unfold wp_X1_knotsOfRow_v0
  exact ⟨fun _ => hp, fun h => absurd (by decide) h⟩
theorem s_knots0_v1 {post : Int32 → k_M → Prop} {a : Nat} (hp : post 0 M) : wp_X1_knotsOfRow_v1 G post q (nI a) (nI 1) M := by
  unfold wp_X1_knotsOfRow_v1
  exact ⟨fun _ => hp, fun h => absurd (by decide) h⟩
theorem s_knots0_v2 {post : Int32 → k_M → Prop} {a : Nat} (hp : post 0 M) : wp_X1_knotsOfRow_v2 G post q (nI a) (nI 1) M := by
  unfold wp_X1_knotsOfRow_v2
  exact ⟨fun _ => hp, fun h => absurd (by decide) h⟩
theorem s_knots0_v3 {post : Int32 → k_M → Prop} {a : Nat} (hp : post 0 M) : wp_X1_knotsOfRow_v3 G post q (nI a) (nI 1) M := by
  unfold wp_X1_knotsOfRow_v3
  exact ⟨fun _ => hp, fun h => absurd (by decide) h⟩
theorem s_knots0_v4 {post : Int32 → k_M → Prop} {a : Nat} (hp : post 0 M) : wp_X1_knotsOfRow_v4 G post q (nI a) (nI 1) M := by
  unfold wp_X1_knotsOfRow_v4
  exact ⟨fun _ => hp, fun h => absurd (by decide) h⟩
theorem s_knots0_v5 {post : Int32 → k_M → Prop} {a : Nat} (hp : post 0 M) : wp_X1_knotsOfRow_v5 G post q (nI a) (nI 1) M := by
  unfold wp_X1_knotsOfRow_v5
  exact ⟨fun _ => hp, fun h => absurd (by decide) h⟩
theorem s_kn_v0_d0 {post : Int32 → k_M → Prop} {a : Nat} (hq : M q = some (kI G 16 f)) (ha : a + 1 ≤ 16) (hp : post (nI (kKn f 0 a)) M) : wp_X1_knotsOfRow_v0 G post q (nI a) (nI (2 ^ 0)) M := s_knots0_v0 hp
theorem s_kn_v1_d0 {post : Int32 → k_M → Prop} {a : Nat} (hq : M q = some (kI G 16 f)) (ha : a + 1 ≤ 16) (hp : post (nI (kKn f 0 a)) M) : wp_X1_knotsOfRow_v1 G post q (nI a) (nI (2 ^ 0)) M := s_knots0_v1 hp
theorem s_kn_v2_d0 {post : Int32 → k_M → Prop} {a : Nat} (hq : M q = some (kI G 16 f)) (ha : a + 1 ≤ 16) (hp : post (nI (kKn f 0 a)) M) : wp_X1_knotsOfRow_v2 G post q (nI a) (nI (2 ^ 0)) M := s_knots0_v2 hp
theorem s_kn_v2_d1 {post : Int32 → k_M → Prop} {a : Nat} (hq : M q = some (kI G 16 f)) (ha : a + 2 ^ 1 ≤ 16) (hp : post (nI (kKn f 1 a)) M) : wp_X1_knotsOfRow_v2 G post q (nI a) (nI (2 ^ 1)) M := by
  unfold wp_X1_knotsOfRow_v2
  refine ⟨fun h => absurd h (k_big (d := 0) (by omega)), fun _ => s_X1_isLeaf hq (by decide) ha ⟨fun hz => ?_, fun hz => ?_⟩⟩
  · rw [k_half (d := 0) (by omega), nI_add]
    rw [kKn, if_neg (by rw [k01_z.mp hz]; decide)] at hp
    refine s_kn_v1_d0 hq (by omega) (s_kn_v1_d0 hq (by omega) ?_)
    have e : ((1 : Int32) + nI (kKn f 0 a)) + nI (kKn f 0 (a + 2 ^ 0)) = nI (1 + kKn f 0 a + kKn f 0 (a + 2 ^ 0)) := by
      rw [show (1 : Int32) = nI 1 from rfl, nI_add, nI_add]
    rw [e]
    exact hp
  · rw [kKn, if_pos (by cases hb : leaf f a (2 ^ (0 + 1)) with | true => rfl | false => rw [hb] at hz; exact absurd rfl hz)] at hp
    exact hp
theorem s_kn_v3_d0 {post : Int32 → k_M → Prop} {a : Nat} (hq : M q = some (kI G 16 f)) (ha : a + 1 ≤ 16) (hp : post (nI (kKn f 0 a)) M) : wp_X1_knotsOfRow_v3 G post q (nI a) (nI (2 ^ 0)) M := s_knots0_v3 hp
theorem s_kn_v3_d2 {post : Int32 → k_M → Prop} {a : Nat} (hq : M q = some (kI G 16 f)) (ha : a + 2 ^ 2 ≤ 16) (hp : post (nI (kKn f 2 a)) M) : wp_X1_knotsOfRow_v3 G post q (nI a) (nI (2 ^ 2)) M := by
  unfold wp_X1_knotsOfRow_v3
  refine ⟨fun h => absurd h (k_big (d := 1) (by omega)), fun _ => s_X1_isLeaf hq (by decide) ha ⟨fun hz => ?_, fun hz => ?_⟩⟩
  · rw [k_half (d := 1) (by omega), nI_add]
    rw [kKn, if_neg (by rw [k01_z.mp hz]; decide)] at hp
    refine s_kn_v2_d1 hq (by omega) (s_kn_v2_d1 hq (by omega) ?_)
    have e : ((1 : Int32) + nI (kKn f 1 a)) + nI (kKn f 1 (a + 2 ^ 1)) = nI (1 + kKn f 1 a + kKn f 1 (a + 2 ^ 1)) := by
      rw [show (1 : Int32) = nI 1 from rfl, nI_add, nI_add]
    rw [e]
    exact hp
  · rw [kKn, if_pos (by cases hb : leaf f a (2 ^ (1 + 1)) with | true => rfl | false => rw [hb] at hz; exact absurd rfl hz)] at hp
    exact hp
theorem s_kn_v4_d0 {post : Int32 → k_M → Prop} {a : Nat} (hq : M q = some (kI G 16 f)) (ha : a + 1 ≤ 16) (hp : post (nI (kKn f 0 a)) M) : wp_X1_knotsOfRow_v4 G post q (nI a) (nI (2 ^ 0)) M := s_knots0_v4 hp
theorem s_kn_v4_d3 {post : Int32 → k_M → Prop} {a : Nat} (hq : M q = some (kI G 16 f)) (ha : a + 2 ^ 3 ≤ 16) (hp : post (nI (kKn f 3 a)) M) : wp_X1_knotsOfRow_v4 G post q (nI a) (nI (2 ^ 3)) M := by
  unfold wp_X1_knotsOfRow_v4
  refine ⟨fun h => absurd h (k_big (d := 2) (by omega)), fun _ => s_X1_isLeaf hq (by decide) ha ⟨fun hz => ?_, fun hz => ?_⟩⟩
  · rw [k_half (d := 2) (by omega), nI_add]
    rw [kKn, if_neg (by rw [k01_z.mp hz]; decide)] at hp
    refine s_kn_v3_d2 hq (by omega) (s_kn_v3_d2 hq (by omega) ?_)
    have e : ((1 : Int32) + nI (kKn f 2 a)) + nI (kKn f 2 (a + 2 ^ 2)) = nI (1 + kKn f 2 a + kKn f 2 (a + 2 ^ 2)) := by
      rw [show (1 : Int32) = nI 1 from rfl, nI_add, nI_add]
    rw [e]
    exact hp
  · rw [kKn, if_pos (by cases hb : leaf f a (2 ^ (2 + 1)) with | true => rfl | false => rw [hb] at hz; exact absurd rfl hz)] at hp
    exact hp
theorem s_kn_v5_d0 {post : Int32 → k_M → Prop} {a : Nat} (hq : M q = some (kI G 16 f)) (ha : a + 1 ≤ 16) (hp : post (nI (kKn f 0 a)) M) : wp_X1_knotsOfRow_v5 G post q (nI a) (nI (2 ^ 0)) M := s_knots0_v5 hp
theorem s_kn_v5_d4 {post : Int32 → k_M → Prop} {a : Nat} (hq : M q = some (kI G 16 f)) (ha : a + 2 ^ 4 ≤ 16) (hp : post (nI (kKn f 4 a)) M) : wp_X1_knotsOfRow_v5 G post q (nI a) (nI (2 ^ 4)) M := by
  unfold wp_X1_knotsOfRow_v5
  refine ⟨fun h => absurd h (k_big (d := 3) (by omega)), fun _ => s_X1_isLeaf hq (by decide) ha ⟨fun hz => ?_, fun hz => ?_⟩⟩
  · rw [k_half (d := 3) (by omega), nI_add]
    rw [kKn, if_neg (by rw [k01_z.mp hz]; decide)] at hp
    refine s_kn_v4_d3 hq (by omega) (s_kn_v4_d3 hq (by omega) ?_)
    have e : ((1 : Int32) + nI (kKn f 3 a)) + nI (kKn f 3 (a + 2 ^ 3)) = nI (1 + kKn f 3 a + kKn f 3 (a + 2 ^ 3)) := by
      rw [show (1 : Int32) = nI 1 from rfl, nI_add, nI_add]
    rw [e]
    exact hp
  · rw [kKn, if_pos (by cases hb : leaf f a (2 ^ (3 + 1)) with | true => rfl | false => rw [hb] at hz; exact absurd rfl hz)] at hp
    exact hp
theorem s_X1_knots {post : Int32 → k_M → Prop} (hM : M h = some (kO 2 [.ref q, .long e, .long l])) (hq : M q = some (kI G 16 f)) (hp : post (nI (kKn f 4 0)) M) : wp_X1_knots G post h M := by
  unfold wp_X1_knots
  exact ⟨_, _, hM, rfl, s_kn_v5_d4 (a := 0) hq (by decide) hp⟩
end S1B
