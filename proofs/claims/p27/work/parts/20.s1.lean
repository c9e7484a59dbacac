/-! ===== Int32 by its bits: bt x i ===== -/
def bt (x : Int32) (i : Nat) : Bool := x.toBitVec.getLsbD i
theorem b_ext {x y : Int32} (h : ∀ i, i < 32 → bt x i = bt y i) : x = y := Int32.toBitVec_inj.mp (BitVec.eq_of_getLsbD_eq (fun i hi => h i hi))
theorem b_or (x y : Int32) (i : Nat) : bt (x ||| y) i = (bt x i || bt y i) := by unfold bt; rw [Int32.toBitVec_or, BitVec.getLsbD_or]
theorem b_and (x y : Int32) (i : Nat) : bt (x &&& y) i = (bt x i && bt y i) := by unfold bt; rw [Int32.toBitVec_and, BitVec.getLsbD_and]
theorem b_xor (x y : Int32) (i : Nat) : bt (x ^^^ y) i = (bt x i ^^ bt y i) := by unfold bt; rw [Int32.toBitVec_xor, BitVec.getLsbD_xor]
theorem b_big {x : Int32} {i : Nat} (h : 32 ≤ i) : bt x i = false := BitVec.getLsbD_of_ge _ _ h
theorem b_255 (i : Nat) : bt 255 i = decide (i < 8) := by
  rcases Nat.lt_or_ge i 32 with h | h
  · exact (by decide +kernel : ∀ i, i < 32 → bt 255 i = decide (i < 8)) i h
  · rw [b_big h, decide_eq_false (by omega)]
theorem b_65535 (i : Nat) : bt 65535 i = decide (i < 16) := by
  rcases Nat.lt_or_ge i 32 with h | h
  · exact (by decide +kernel : ∀ i, i < 32 → bt 65535 i = decide (i < 16)) i h
  · rw [b_big h, decide_eq_false (by omega)]
theorem b_m1 : ∀ i, i < 32 → bt (-1) i = true := by decide +kernel
theorem b_0 (i : Nat) : bt 0 i = false := BitVec.getLsbD_zero
theorem s_l : ∀ n, n < 32 → ((nI n &&& 31).toBitVec.smod 32).toNat = n := by decide +kernel
theorem s_u : ∀ n, n < 32 → (((nI n).toUInt32 &&& Int32.toUInt32 31).toBitVec % 32).toNat = n := by decide +kernel
theorem b_shl (n : Nat) (hn : n < 32) (x : Int32) {i : Nat} (hi : i < 32) : bt (x <<< (nI n &&& 31)) i = (decide (n ≤ i) && bt x (i - n)) := by
  unfold bt
  rw [Int32.toBitVec_shiftLeft]
  show (x.toBitVec <<< ((nI n &&& 31).toBitVec.smod 32).toNat).getLsbD i = _
  rw [s_l n hn, BitVec.getLsbD_shiftLeft]
  rcases Nat.lt_or_ge i n with h | h
  · simp [h, Nat.not_le.mpr h]
  · simp [hi, h, Nat.not_lt.mpr h]
theorem b_ushr (n : Nat) (hn : n < 32) (x : Int32) (i : Nat) : bt ((x.toUInt32 >>> ((nI n).toUInt32 &&& Int32.toUInt32 31)).toInt32) i = bt x (n + i) := by
  show (x.toUInt32 >>> ((nI n).toUInt32 &&& Int32.toUInt32 31)).toBitVec.getLsbD i = x.toUInt32.toBitVec.getLsbD (n + i)
  rw [UInt32.toBitVec_shiftRight]
  show (x.toUInt32.toBitVec >>> (((nI n).toUInt32 &&& Int32.toUInt32 31).toBitVec % 32).toNat).getLsbD i = _
  rw [s_u n hn, BitVec.getLsbD_ushiftRight]
theorem b_sshr (n : Nat) (hn : n < 32) (x : Int32) {i : Nat} (hi : i < 32) : bt (x >>> (nI n &&& 31)) i = if n + i < 32 then bt x (n + i) else bt x 31 := by
  unfold bt
  rw [Int32.toBitVec_shiftRight]
  show (x.toBitVec.sshiftRight ((nI n &&& 31).toBitVec.smod 32).toNat).getLsbD i = _
  rw [s_l n hn, BitVec.getLsbD_sshiftRight, BitVec.msb_eq_getLsbD_last]
  simp [hi]
theorem b_shl8 (x : Int32) {i : Nat} (hi : i < 32) : bt (x <<< ((8 : Int32) &&& 31)) i = (decide (8 ≤ i) && bt x (i - 8)) := b_shl 8 (by omega) x hi
theorem b_shl16 (x : Int32) {i : Nat} (hi : i < 32) : bt (x <<< ((16 : Int32) &&& 31)) i = (decide (16 ≤ i) && bt x (i - 16)) := b_shl 16 (by omega) x hi
theorem b_shl24 (x : Int32) {i : Nat} (hi : i < 32) : bt (x <<< ((24 : Int32) &&& 31)) i = (decide (24 ≤ i) && bt x (i - 24)) := b_shl 24 (by omega) x hi
theorem b_sshr8 (x : Int32) {i : Nat} (hi : i < 32) : bt (x >>> ((8 : Int32) &&& 31)) i = if 8 + i < 32 then bt x (8 + i) else bt x 31 := b_sshr 8 (by omega) x hi
/-! ===== Int64 as a set of bits: test, set, clear ===== -/
theorem ts_nf {x : Bool} (h : ¬ x = false) : x = true := by cases x <;> first | rfl | exact absurd rfl h
theorem ts_nt {x : Bool} (h : ¬ x = true) : x = false := by cases x <;> first | rfl | exact absurd rfl h
theorem ts_bit {w : Int64} {s : UInt64} {j : Nat} (hj : j < 64) (hs : s.toNat = j) : ((w.toUInt64 >>> s).toInt64 &&& 1) = 0 ↔ w.toBitVec.getLsbD j = false := by
  have e : (w.toUInt64 >>> s).toInt64.toBitVec = w.toBitVec >>> j := by
    apply BitVec.eq_of_toNat_eq
    show (w.toUInt64 >>> s).toNat = _
    rw [UInt64.toNat_shiftRight, hs, Nat.mod_eq_of_lt hj, BitVec.toNat_ushiftRight]
    rfl
  rw [← Int64.toBitVec_inj, Int64.toBitVec_and, e]
  show w.toBitVec >>> j &&& 1#64 = 0#64 ↔ _
  constructor
  · intro h
    have t := congrArg (fun x => x.getLsbD 0) h
    simpa using t
  · intro h
    apply BitVec.eq_of_getLsbD_eq
    intro i hi
    cases i with
    | zero => simp [h]
    | succ i => simp
theorem ts_or {w m : Int64} {j : Nat} (hj : j < 64) (hm : m.toBitVec = BitVec.twoPow 64 j) : (w ||| m) = w ↔ w.toBitVec.getLsbD j = true := by
  rw [← Int64.toBitVec_inj, Int64.toBitVec_or, hm]
  constructor
  · intro h
    have t := congrArg (fun x => x.getLsbD j) h
    simp only [BitVec.getLsbD_or, BitVec.getLsbD_twoPow] at t
    simpa [hj] using t.symm
  · intro h
    apply BitVec.eq_of_getLsbD_eq
    intro i hi
    rw [BitVec.getLsbD_or, BitVec.getLsbD_twoPow]
    by_cases e : j = i
    · subst e; rw [h, Bool.true_or]
    · simp [e]
theorem ts_and {w m : Int64} {j : Nat} (hj : j < 64) (hm : m.toBitVec = BitVec.twoPow 64 j) : (w &&& (m ^^^ (-1))) = w ↔ w.toBitVec.getLsbD j = false := by
  have ha : (-1 : Int64).toBitVec = BitVec.allOnes 64 := by decide
  rw [← Int64.toBitVec_inj, Int64.toBitVec_and, Int64.toBitVec_xor, hm, ha]
  constructor
  · intro h
    have t := congrArg (fun x => x.getLsbD j) h
    simp only [BitVec.getLsbD_and, BitVec.getLsbD_xor, BitVec.getLsbD_twoPow, BitVec.getLsbD_allOnes] at t
    simpa [hj] using t.symm
  · intro h
    apply BitVec.eq_of_getLsbD_eq
    intro i hi
    rw [BitVec.getLsbD_and, BitVec.getLsbD_xor, BitVec.getLsbD_twoPow, BitVec.getLsbD_allOnes]
    by_cases e : j = i
    · subst e; rw [h, Bool.false_and]
    · simp [e, hi]
/-! ===== small facts ===== -/
theorem b_1 : ∀ i, i < 32 → bt 1 i = decide (i = 0) := by decide
def k01 (b : Bool) : Int32 := if b = true then 1 else 0
theorem k01_z {b : Bool} : k01 b = 0 ↔ b = false := by cases b <;> decide
theorem k01_t : k01 true = 1 := rfl
theorem k01_f : k01 false = 0 := rfl
def kAll (p : Nat → Bool) : Nat → Bool
  | 0 => true
  | n + 1 => kAll p n && p n
def kAny (p : Nat → Bool) : Nat → Bool
  | 0 => false
  | n + 1 => kAny p n || p n
def kCt (p : Nat → Bool) : Nat → Nat
  | 0 => 0
  | n + 1 => kCt p n + (if p n = true then 1 else 0)
theorem kAll_iff {p : Nat → Bool} : ∀ {n : Nat}, kAll p n = true ↔ ∀ i, i < n → p i = true := by
  intro n
  induction n with
  | zero => exact ⟨fun _ i h => absurd h (Nat.not_lt_zero i), fun _ => rfl⟩
  | succ n ih =>
    rw [kAll, Bool.and_eq_true, ih]
    constructor
    · rintro ⟨h1, h2⟩ i hi
      rcases Nat.lt_succ_iff_lt_or_eq.mp hi with h | h
      · exact h1 i h
      · rw [h]; exact h2
    · intro h
      exact ⟨fun i hi => h i (by omega), h n (by omega)⟩
theorem kAll_f {p : Nat → Bool} {n i : Nat} (hi : i < n) (h : p i = false) : kAll p n = false := by
  cases h2 : kAll p n with
  | false => rfl
  | true => have := kAll_iff.mp h2 i hi; rw [h] at this; cases this
theorem kAny_iff {p : Nat → Bool} : ∀ {n : Nat}, kAny p n = true ↔ ∃ i, i < n ∧ p i = true := by
  intro n
  induction n with
  | zero =>
    constructor
    · intro h
      cases h
    · rintro ⟨i, h, -⟩
      exact absurd h (Nat.not_lt_zero i)
  | succ n ih =>
    rw [kAny, Bool.or_eq_true, ih]
    constructor
    · rintro (⟨i, h1, h2⟩ | h)
      · exact ⟨i, by omega, h2⟩
      · exact ⟨n, by omega, h⟩
    · rintro ⟨i, h1, h2⟩
      rcases Nat.lt_succ_iff_lt_or_eq.mp h1 with h | h
      · exact Or.inl ⟨i, h, h2⟩
      · exact Or.inr (by rw [← h]; exact h2)
theorem kAll_cong {p q : Nat → Bool} : ∀ {n : Nat}, (∀ i, i < n → p i = q i) → kAll p n = kAll q n := by
  intro n
  induction n with
  | zero => intro _; rfl
  | succ n ih => intro h; rw [kAll, kAll, ih (fun i hi => h i (by omega)), h n (by omega)]
theorem kAny_cong {p q : Nat → Bool} : ∀ {n : Nat}, (∀ i, i < n → p i = q i) → kAny p n = kAny q n := by
  intro n
  induction n with
  | zero => intro _; rfl
  | succ n ih => intro h; rw [kAny, kAny, ih (fun i hi => h i (by omega)), h n (by omega)]
theorem kCt_cong {p q : Nat → Bool} : ∀ {n : Nat}, (∀ i, i < n → p i = q i) → kCt p n = kCt q n := by
  intro n
  induction n with
  | zero => intro _; rfl
  | succ n ih => intro h; rw [kCt, kCt, ih (fun i hi => h i (by omega)), h n (by omega)]
theorem kCt_le {p : Nat → Bool} : ∀ {n : Nat}, kCt p n ≤ n := by
  intro n
  induction n with
  | zero => exact Nat.le_refl 0
  | succ n ih => rw [kCt]; split <;> omega
theorem kOI {G : k_G} {M : k_M} {a b c n : Nat} {fs : List Value} {f : Nat → Int32} (h1 : M a = some (kO c fs)) (h2 : M b = some (kI G n f)) : a ≠ b := by
  intro h
  rw [h, h2] at h1
  cases h1
theorem kge {N i : Nat} (h : i < N) (hN : N < 2 ^ 31) : ¬ nI N ≤ nI i := nI_ge h hN
theorem kns (i : Nat) : nI i + (1 : Int32) = nI (i + 1) := nI_1 i
theorem kcl {i : Nat} (h : i < 2 ^ 31) : (nI i).toNatClampNeg = i := nI_clamp h
theorem kb_isIn (sh : Int32) {c : Nat} (hc : c < 32) : ((sh >>> (nI c &&& 31)) &&& (1 : Int32)) = 1 ↔ bt sh c = true := by
  have hb : ∀ i, i < 32 → bt ((sh >>> (nI c &&& 31)) &&& (1 : Int32)) i = (bt sh c && decide (i = 0)) := by
    intro i hi
    rw [b_and, b_sshr c hc sh hi, b_1 i hi]
    by_cases h0 : i = 0
    · subst h0; simp [hc]
    · simp [h0]
  constructor
  · intro h
    have h1 := hb 0 (by omega)
    rw [h] at h1
    have h2 : bt 1 0 = true := by decide
    rw [h2] at h1
    simpa using h1.symm
  · intro h
    refine b_ext (fun i hi => ?_)
    rw [hb i hi, h, b_1 i hi]; simp
/-! ===== Stamp ===== -/
def kst (h q : Nat) (e l : Int64) : va_E := kO 2 [.ref q, .long e, .long l]
theorem s_X1_isIn {G : k_G} {M : k_M} {post : Int32 → k_M → Prop} {sh : Int32} {c : Nat} (hc : c < 32) (hp : post (k01 (bt sh c)) M) : wp_X1_isIn G post sh (nI c) M := by
  unfold wp_X1_isIn
  refine ⟨fun h => ?_, fun h => ?_⟩
  · have : bt sh c = false := by
      cases hb : bt sh c with
      | false => rfl
      | true => exact absurd ((kb_isIn sh hc).mpr hb) h
    rw [this] at hp; exact hp
  · rw [(kb_isIn sh hc).mp h] at hp; exact hp
def gIn (f : Nat → Int32) (sh : Int32) : Nat → Int32
  | 0 => 0
  | n + 1 => if bt sh n = true then (if gIn f sh n < f n then f n else gIn f sh n) else gIn f sh n
section S1
variable {G : k_G} {M : k_M} {h q h2 q2 : Nat} {f f2 : Nat → Int32} {e l e2 l2 : Int64}
theorem s_X1_greatestIn {post : Int32 → k_M → Prop} {sh : Int32} (hM : M h = some (kO 2 [.ref q, .long e, .long l])) (hq : M q = some (kI G 16 f)) (hp : post (gIn f sh 16) M) : wp_X1_greatestIn G post h sh M := by
  have key : ∀ (j i : Nat), i + j = 16 → wp_X1_greatestIn_L4 G post (j + 1) h sh (gIn f sh i) (nI i) M := by
    intro j
    induction j with
    | zero =>
      intro i hi
      have : i = 16 := by omega
      subst this
      rw [wp_X1_greatestIn_L4]
      exact ⟨fun _ => hp, fun h0 => absurd (by decide) h0⟩
    | succ j ih =>
      intro i hi
      rw [wp_X1_greatestIn_L4]
      refine ⟨fun h0 => absurd h0 (kge (N := 16) (by omega) (by decide)), fun _ => s_X1_isIn (by omega) ?_⟩
      have ih1 := ih (i + 1) (by omega)
      rw [← kns i, gIn] at ih1
      refine ⟨fun hz => ?_, fun hz => ⟨_, _, hM, rfl, _, _, hq, vp_in_nI (by omega) (by omega), fun y hy => ?_⟩⟩
      · rw [if_neg (by rw [k01_z.mp hz]; decide)] at ih1
        exact ih1
      · rw [if_pos (by cases hb : bt sh i with | true => rfl | false => rw [hb] at hz; exact absurd rfl hz)] at ih1
        rw [kcl (by omega)] at hy
        rw [hy]
        exact ih1
  unfold wp_X1_greatestIn
  exact ⟨17, key 16 0 (by omega)⟩
def lvl (f : Nat → Int32) (sh hh : Int32) : Nat → Bool := kAll (fun c => !(bt sh c) || decide (f c = hh))
theorem s_X1_isLevel {post : Int32 → k_M → Prop} {sh hh : Int32} (hM : M h = some (kO 2 [.ref q, .long e, .long l])) (hq : M q = some (kI G 16 f)) (hp : post (k01 (lvl f sh hh 16)) M) : wp_X1_isLevel G post h sh hh M := by
  have key : ∀ (j i : Nat), i + j = 16 → lvl f sh hh i = true → wp_X1_isLevel_L2 G post (j + 1) h sh hh (nI i) M := by
    intro j
    induction j with
    | zero =>
      intro i hi hl
      have : i = 16 := by omega
      subst this
      rw [wp_X1_isLevel_L2]
      rw [hl] at hp
      exact ⟨fun _ => hp, fun h0 => absurd (by decide) h0⟩
    | succ j ih =>
      intro i hi hl
      rw [wp_X1_isLevel_L2]
      refine ⟨fun h0 => absurd h0 (kge (N := 16) (by omega) (by decide)), fun _ => s_X1_isIn (by omega) ?_⟩
      have ih1 := ih (i + 1) (by omega)
      rw [← kns i] at ih1
      refine ⟨fun hz => ?_, fun hz => ⟨_, _, hM, rfl, _, _, hq, vp_in_nI (by omega) (by omega), fun hc => ?_, fun hc => ?_⟩⟩
      · refine ih1 ?_
        show (lvl f sh hh i && (!(bt sh i) || decide (f i = hh))) = true
        rw [hl, k01_z.mp hz]
        rfl
      · refine ih1 ?_
        rw [kcl (by omega)] at hc
        show (lvl f sh hh i && (!(bt sh i) || decide (f i = hh))) = true
        rw [hl, hc]
        simp
      · have hb : bt sh i = true := by cases hb : bt sh i with | true => rfl | false => rw [hb] at hz; exact absurd rfl hz
        rw [kcl (by omega)] at hc
        have : lvl f sh hh 16 = false := kAll_f (i := i) (by omega) (by simp [hb, hc])
        rw [this] at hp
        exact hp
  unfold wp_X1_isLevel
  exact ⟨17, key 16 0 (by omega) rfl⟩
/-- the height that an event gives to the own cells -/
def rz (f : Nat → Int32) (sh : Int32) : Int32 := if lvl f sh (gIn f sh 16) 16 = true then gIn f sh 16 + 1 else gIn f sh 16
theorem s_X1_raise {post : k_M → Prop} {sh : Int32} (hM : M h = some (kO 2 [.ref q, .long e, .long l])) (hq : M q = some (kI G 16 f))
    (hp : ∀ (M1 : k_M) (g : Nat → Int32), (∀ a, a ≠ q → M1 a = M a) → M1 q = some (kI G 16 g) → (∀ c, c < 16 → g c = if bt sh c = true then rz f sh else f c) → post M1) : wp_X1_raise G post h sh M := by
  have hhq : h ≠ q := kOI hM hq
  have key : ∀ (hh : Int32), hh = rz f sh → ∀ (j i : Nat), i + j = 16 → ∀ (M1 : k_M) (g : Nat → Int32), (∀ a, a ≠ q → M1 a = M a) → M1 q = some (kI G 16 g) → (∀ c, c < 16 → g c = if c < i ∧ bt sh c = true then rz f sh else f c) → wp_X1_raise_L26 G post (j + 1) h sh hh (nI i) M1 := by
    intro hh hhe j
    induction j with
    | zero =>
      intro i hi M1 g h1 h2 h3
      have : i = 16 := by omega
      subst this
      rw [wp_X1_raise_L26]
      exact ⟨fun _ => hp M1 g h1 h2 (fun c hc => by rw [h3 c hc]; simp [hc]), fun h0 => absurd (by decide) h0⟩
    | succ j ih =>
      intro i hi M1 g h1 h2 h3
      rw [wp_X1_raise_L26]
      refine ⟨fun h0 => absurd h0 (kge (N := 16) (by omega) (by decide)), fun _ => s_X1_isIn (by omega) ?_⟩
      have ih1 := ih (i + 1) (by omega)
      rw [← kns i] at ih1
      refine ⟨fun hz => ?_, fun hz => ⟨_, _, (h1 h hhq).trans hM, rfl, _, _, h2, vp_in_nI (by omega) (by omega), fun M2 e2 => ?_⟩⟩
      · refine ih1 M1 g h1 h2 (fun c hc => ?_)
        rw [h3 c hc]
        have hb := k01_z.mp hz
        by_cases hci : c = i
        · subst hci; simp [hb]
        · have : (c < i + 1) ↔ (c < i) := by omega
          simp [this]
      · have hb : bt sh i = true := by cases hb : bt sh i with | true => rfl | false => rw [hb] at hz; exact absurd rfl hz
        refine ih1 M2 _ (fun a ha => by rw [e2, kup_ne ha]; exact h1 a ha) (by rw [e2, kup_same]) (fun c hc => ?_)
        rw [kcl (by omega)]
        by_cases hci : c = i
        · subst hci; simp [upd, hb, hhe]
        · have : (c < i + 1) ↔ (c < i) := by omega
          simp only [upd, if_neg hci, this]
          exact h3 c hc
  unfold wp_X1_raise
  refine ⟨_, hM, s_X1_greatestIn hM hq ⟨_, hM, s_X1_isLevel hM hq ⟨fun hz => ?_, fun hz => ?_⟩⟩⟩
  · exact ⟨17, key _ (by unfold rz; rw [if_neg (by rw [k01_z.mp hz]; decide)]) 16 0 (by omega) M f (fun _ _ => rfl) hq (fun c hc => by simp)⟩
  · exact ⟨17, key _ (by unfold rz; rw [if_pos (by cases hb : lvl f sh (gIn f sh 16) 16 with | true => rfl | false => rw [hb] at hz; exact absurd rfl hz)]) 16 0 (by omega) M f (fun _ _ => rfl) hq (fun c hc => by simp)⟩
theorem s_X1_init {post : k_M → Prop} {mc ms : Nat} (hmc : 1 ≤ mc) (hms : 16 ≤ ms) {fs : List Value} (hM : M h = some (kO 2 [.null, .long 0, .long 0]))
    (hp : ∀ (M1 : k_M) (q : Nat), M q = none → (∀ a, a ≠ q → a ≠ h → M1 a = M a) → M1 h = some (kO 2 [.ref q, .long 0, .long 0]) → M1 q = some (kI G 16 (fun _ => 0)) → post M1) : wp_X1_init G mc ms post h M := by
  unfold wp_X1_init
  refine ⟨16, by decide, by decide, by decide, by omega, by omega, fun q M1 hq e1 => ?_⟩
  have hhq : h ≠ q := by
    intro z
    rw [z, hq] at hM
    cases hM
  refine ⟨_, by rw [e1, kup_ne hhq]; exact hM, by simp, fun M2 e2 => ⟨by omega, by omega, ?_⟩⟩
  refine hp M2 q hq (fun a h1 h2 => by rw [e2, kup_ne h2, e1, kup_ne h1]) (by rw [e2, kup_same]; rfl) (by rw [e2, kup_ne hhq.symm, e1, kup_same])
theorem s_X1_become {post : k_M → Prop} (hM : M h = some (kO 2 [.ref q, .long e, .long l])) (hq : M q = some (kI G 16 f)) (hM2 : M h2 = some (kO 2 [.ref q2, .long e2, .long l2])) (hq2 : M q2 = some (kI G 16 f2)) (hne : h2 ≠ h)
    (hp : ∀ (M1 : k_M) (g : Nat → Int32), (∀ a, a ≠ q → a ≠ h → M1 a = M a) → M1 h = some (kO 2 [.ref q, .long e2, .long l2]) → M1 q = some (kI G 16 g) → (∀ c, c < 16 → g c = f2 c) → post M1) : wp_X1_become G post h h2 M := by
  have hhq : h ≠ q := kOI hM hq
  have hhq2 : h2 ≠ q := kOI hM2 hq
  unfold wp_X1_become
  refine ⟨_, _, hM2, rfl, _, _, hM, rfl, _, _, _, _, hq2, hq, by decide, by decide, by decide, by decide, by decide, fun M1 e1 => ?_⟩
  have h1 : M1 h2 = some (kO 2 [.ref q2, .long e2, .long l2]) := by rw [e1, kup_ne hhq2]; exact hM2
  refine ⟨_, _, h1, rfl, _, by rw [e1, kup_ne hhq]; exact hM, by simp, fun M2' e2' => ?_⟩
  refine ⟨_, _, by rw [e2', kup_ne hne]; exact h1, rfl, _, by rw [e2', kup_same], by simp, fun M3 e3 => ?_⟩
  refine hp M3 _ (fun a ha1 ha2 => by rw [e3, kup_ne ha2, e2', kup_ne ha2, e1, kup_ne ha1]) (by rw [e3, kup_same]; rfl) (by rw [e3, kup_ne hhq.symm, e2', kup_ne hhq.symm, e1, kup_same]) (fun c hc => ?_)
  show va_cpy f2 f 0 0 16 c = f2 c
  rw [pk_cpy_in (by omega) (by omega)]
  congr 1
  omega
def mx (f f2 : Nat → Int32) (c : Nat) : Int32 := if f c < f2 c then f2 c else f c
theorem s_X1_takeOver {post : k_M → Prop} (hM : M h = some (kO 2 [.ref q, .long e, .long l])) (hq : M q = some (kI G 16 f)) (hM2 : M h2 = some (kO 2 [.ref q2, .long e2, .long l2])) (hq2 : M q2 = some (kI G 16 f2)) (hne : h2 ≠ h) (hnq : q2 ≠ q)
    (hp : ∀ (M1 : k_M) (g : Nat → Int32), (∀ a, a ≠ q → a ≠ h → M1 a = M a) → M1 h = some (kO 2 [.ref q, .long (e ||| e2), .long (l ||| l2)]) → M1 q = some (kI G 16 g) → (∀ c, c < 16 → g c = mx f f2 c) → post M1) : wp_X1_takeOver G post h h2 M := by
  have hhq : h ≠ q := kOI hM hq
  have hhq2 : h2 ≠ q := kOI hM2 hq
  have key : ∀ (j i : Nat), i + j = 16 → ∀ (M1 : k_M) (g : Nat → Int32), (∀ a, a ≠ q → M1 a = M a) → M1 q = some (kI G 16 g) → (∀ c, c < 16 → g c = if c < i then mx f f2 c else f c) → wp_X1_takeOver_L2 G post (j + 1) h h2 (nI i) M1 := by
    intro j
    induction j with
    | zero =>
      intro i hi M1 g h1 h3 h4
      have : i = 16 := by omega
      subst this
      rw [wp_X1_takeOver_L2]
      refine ⟨fun _ => ?_, fun h0 => absurd (by decide) h0⟩
      have hm := (h1 h hhq).trans hM
      have hm2 := (h1 h2 hhq2).trans hM2
      refine ⟨_, _, hm, rfl, _, _, hm2, rfl, _, hm, by simp, fun M2 e2' => ?_⟩
      have hm3 : M2 h2 = M1 h2 := by rw [e2', kup_ne hne]
      refine ⟨_, _, by rw [e2', kup_same], rfl, _, _, hm3.trans hm2, rfl, _, by rw [e2', kup_same], by simp, fun M3 e3 => ?_⟩
      refine hp M3 g (fun a ha1 ha2 => by rw [e3, kup_ne ha2, e2', kup_ne ha2]; exact h1 a ha1) (by rw [e3, kup_same]; rfl) (by rw [e3, kup_ne hhq.symm, e2', kup_ne hhq.symm]; exact h3) (fun c hc => by rw [h4 c hc, if_pos hc])
    | succ j ih =>
      intro i hi M1 g h1 h3 h4
      rw [wp_X1_takeOver_L2]
      refine ⟨fun h0 => absurd h0 (kge (N := 16) (by omega) (by decide)), fun _ => ?_⟩
      have ih1 := ih (i + 1) (by omega)
      rw [← kns i] at ih1
      have hm := (h1 h hhq).trans hM
      have hm2 := (h1 h2 hhq2).trans hM2
      have hin : vp_in (nI i) 16 := vp_in_nI (by omega) (by omega)
      refine ⟨_, _, hm, rfl, _, _, hm, rfl, _, _, h3, hin, _, _, hm2, rfl, _, _, (h1 q2 hnq).trans hq2, hin, _, _, h3, hin, fun M2 e2' => ?_⟩
      refine ih1 M2 _ (fun a ha => by rw [e2', kup_ne ha]; exact h1 a ha) (by rw [e2', kup_same]) (fun c hc => ?_)
      rw [kcl (by omega)]
      by_cases hci : c = i
      · subst hci
        simp only [upd, if_pos rfl, if_pos (Nat.lt_succ_self c), h4 c hc, if_neg (Nat.lt_irrefl c), mx]
        simp
      · have : (c < i + 1) ↔ (c < i) := by omega
        simp only [upd, if_neg hci, this]
        exact h4 c hc
  unfold wp_X1_takeOver
  exact ⟨17, key 16 0 (by omega) M f (fun _ _ => rfl) hq (fun c hc => by simp)⟩
def kSum (f : Nat → Int32) : Nat → Int32
  | 0 => 0
  | n + 1 => kSum f n + f n
theorem s_X1_sum {post : Int32 → k_M → Prop} (hM : M h = some (kO 2 [.ref q, .long e, .long l])) (hq : M q = some (kI G 16 f)) (hp : post (kSum f 16) M) : wp_X1_sum G post h M := by
  have key : ∀ (j i : Nat), i + j = 16 → wp_X1_sum_L13 G post (j + 1) (kSum f i) q (nI 16) (nI i) M := by
    intro j
    induction j with
    | zero =>
      intro i hi
      have : i = 16 := by omega
      subst this
      rw [wp_X1_sum_L13]
      exact ⟨fun _ => hp, fun h0 => absurd (by decide) h0⟩
    | succ j ih =>
      intro i hi
      rw [wp_X1_sum_L13]
      have ih1 := ih (i + 1) (by omega)
      rw [← kns i, kSum] at ih1
      refine ⟨fun h0 => absurd h0 (kge (N := 16) (by omega) (by decide)), fun _ => ⟨_, _, hq, vp_in_nI (by omega) (by omega), ?_⟩⟩
      rw [kcl (by omega)]
      exact ih1
  unfold wp_X1_sum
  exact ⟨_, _, hM, rfl, _, _, hq, 17, key 16 0 (by omega)⟩
def oLt (f g : Nat → Int32) : Nat → Bool := kAny (fun c => decide (f c < g c))
def ordf (f g : Nat → Int32) : Int32 := if oLt f g 16 = true then (if oLt g f 16 = true then 3 else 1) else (if oLt g f 16 = true then 2 else 0)
theorem k01_or (a b : Bool) : k01 a ||| k01 b = k01 (a || b) := by cases a <;> cases b <;> decide
theorem k_nle {a b : Int32} : ¬ a ≤ b ↔ b < a := Int32.not_le
theorem s_X1_orderTo {post : Int32 → k_M → Prop} (hM : M h = some (kO 2 [.ref q, .long e, .long l])) (hq : M q = some (kI G 16 f)) (hM2 : M h2 = some (kO 2 [.ref q2, .long e2, .long l2])) (hq2 : M q2 = some (kI G 16 f2)) (hp : post (ordf f f2) M) : wp_X1_orderTo G post h h2 M := by
  have key : ∀ (j i : Nat), i + j = 16 → wp_X1_orderTo_L7 G post (j + 1) h h2 (k01 (oLt f f2 i)) (k01 (oLt f2 f i)) (nI i) M := by
    intro j
    induction j with
    | zero =>
      intro i hi
      have : i = 16 := by omega
      subst this
      rw [wp_X1_orderTo_L7]
      unfold ordf at hp
      refine ⟨fun _ => ⟨fun h1 => ⟨fun h2 => ?_, fun h2 => ?_⟩, fun h1 => ⟨fun h2 => ?_, fun h2 => ?_⟩⟩, fun h0 => absurd (by decide) h0⟩
      · rw [k01_z.mp h1, k01_z.mp h2] at hp; exact hp
      · have : oLt f2 f 16 = true := by cases hb : oLt f2 f 16 with | true => rfl | false => rw [hb] at h2; exact absurd rfl h2
        rw [k01_z.mp h1, this] at hp; exact hp
      · have : oLt f f2 16 = true := by cases hb : oLt f f2 16 with | true => rfl | false => rw [hb] at h1; exact absurd rfl h1
        rw [this, k01_z.mp h2] at hp; exact hp
      · have t1 : oLt f f2 16 = true := by cases hb : oLt f f2 16 with | true => rfl | false => rw [hb] at h1; exact absurd rfl h1
        have t2 : oLt f2 f 16 = true := by cases hb : oLt f2 f 16 with | true => rfl | false => rw [hb] at h2; exact absurd rfl h2
        rw [t1, t2] at hp; exact hp
    | succ j ih =>
      intro i hi
      rw [wp_X1_orderTo_L7]
      have hin : vp_in (nI i) 16 := vp_in_nI (by omega) (by omega)
      have ih1 := ih (i + 1) (by omega)
      rw [← kns i] at ih1
      have e1 : oLt f f2 (i + 1) = (oLt f f2 i || decide (f i < f2 i)) := rfl
      have e2' : oLt f2 f (i + 1) = (oLt f2 f i || decide (f2 i < f i)) := rfl
      refine ⟨fun h0 => absurd h0 (kge (N := 16) (by omega) (by decide)), fun _ => ⟨_, _, hM, rfl, _, _, hq, hin, _, _, hM2, rfl, _, _, hq2, hin, fun hc => ⟨_, _, hM, rfl, _, _, hq, hin, _, _, hM2, rfl, _, _, hq2, hin, fun hd => ?_, fun hd => ?_⟩, fun hc => ?_⟩⟩
      · rw [kcl (by omega)] at hc hd
        rw [e1, e2', decide_eq_false (fun z => absurd hc (k_nle.mpr z)), decide_eq_false (fun z => absurd hd (k_nle.mpr z)), Bool.or_false, Bool.or_false] at ih1
        exact ih1
      · rw [kcl (by omega)] at hc hd
        rw [e1, e2', decide_eq_false (fun z => absurd hc (k_nle.mpr z)), decide_eq_true (k_nle.mp hd), Bool.or_false, Bool.or_true] at ih1
        exact ih1
      · rw [kcl (by omega)] at hc
        rw [e1, e2', decide_eq_true (k_nle.mp hc), decide_eq_false (fun z => Int32.lt_asymm (k_nle.mp hc) z), Bool.or_false, Bool.or_true] at ih1
        exact ih1
  unfold wp_X1_orderTo
  exact ⟨17, key 16 0 (by omega)⟩
end S1
