/-! ===== bitCount of the JDK: by bytes ===== -/
def kT8 (f : Nat → Nat) : Nat → Nat → Nat
  | 0, _ => 0
  | n + 1, X => f (X % 256) + 256 * kT8 f n (X / 256)
def kM8 (c : Nat) : Nat → Nat
  | 0 => 0
  | n + 1 => c + 256 * kM8 c n
theorem and256 (X Y : Nat) : X &&& Y = (X % 256 &&& Y % 256) + 256 * (X / 256 &&& Y / 256) := by
  have h1 : (X &&& Y) % 2 ^ 8 = X % 2 ^ 8 &&& Y % 2 ^ 8 := Nat.and_mod_two_pow
  have h2 : (X &&& Y) / 2 ^ 8 = X / 2 ^ 8 &&& Y / 2 ^ 8 := Nat.and_div_two_pow
  have h3 := Nat.mod_add_div (X &&& Y) (2 ^ 8)
  rw [h1, h2] at h3
  exact h3.symm
theorem kM8_md {c : Nat} (hc : c < 256) (n : Nat) : kM8 c (n + 1) % 256 = c ∧ kM8 c (n + 1) / 256 = kM8 c n := by
  rw [kM8]
  omega
theorem kT8_md {f : Nat → Nat} {n X : Nat} (h : f (X % 256) < 256) : kT8 f (n + 1) X % 256 = f (X % 256) ∧ kT8 f (n + 1) X / 256 = kT8 f n (X / 256) := by
  rw [kT8]
  omega
theorem kA_b : ∀ b, b < 256 → ((b / 2 + 128 * 0) &&& 85 = (b / 2) &&& 85 ∧ (b / 2 + 128 * 1) &&& 85 = (b / 2) &&& 85 ∧ (b / 2) &&& 85 ≤ b) := by decide +kernel
def kS1 (b : Nat) : Nat := b - ((b / 2) &&& 85)
theorem kA_all : ∀ (n X : Nat), X < 256 ^ n → ((X / 2) &&& kM8 85 n ≤ X ∧ X - ((X / 2) &&& kM8 85 n) = kT8 kS1 n X) := by
  intro n
  induction n with
  | zero =>
    intro X hX
    have : X = 0 := by simpa using hX
    subst this
    decide
  | succ n ih =>
    intro X hX
    have hX2 : X / 256 < 256 ^ n := by rw [Nat.pow_succ] at hX; omega
    obtain ⟨i1, i2⟩ := ih _ hX2
    obtain ⟨m1, m2⟩ := kM8_md (c := 85) (by decide) n
    have e1 : X / 2 % 256 = X % 256 / 2 + 128 * (X / 256 % 2) := by omega
    have e2 : X / 2 / 256 = X / 256 / 2 := by omega
    rw [and256 (X / 2), m1, m2, e1, e2]
    obtain ⟨a0, a1, a2⟩ := kA_b (X % 256) (by omega)
    have e3 : (X % 256 / 2 + 128 * (X / 256 % 2)) &&& 85 = (X % 256 / 2) &&& 85 := by
      rcases Nat.mod_two_eq_zero_or_one (X / 256) with h | h <;> rw [h]
      · exact a0
      · exact a1
    rw [e3, kT8, kS1, ← i2]
    generalize (X % 256 / 2) &&& 85 = u at a2 ⊢
    generalize (X / 256 / 2) &&& kM8 85 n = v at i1 ⊢
    omega
theorem kB_b : ∀ b, b < 256 → ((b / 4 + 64 * 0) &&& 51 = (b / 4) &&& 51 ∧ (b / 4 + 64 * 1) &&& 51 = (b / 4) &&& 51 ∧ (b / 4 + 64 * 2) &&& 51 = (b / 4) &&& 51 ∧ (b / 4 + 64 * 3) &&& 51 = (b / 4) &&& 51) := by decide +kernel
def kS2 (b : Nat) : Nat := (b &&& 51) + ((b / 4) &&& 51)
theorem kB_all : ∀ (n X : Nat), (X &&& kM8 51 n) + ((X / 4) &&& kM8 51 n) = kT8 kS2 n X := by
  intro n
  induction n with
  | zero =>
    intro X
    rw [kM8, kT8, Nat.and_zero, Nat.and_zero]
  | succ n ih =>
    intro X
    have i2 := ih (X / 256)
    obtain ⟨m1, m2⟩ := kM8_md (c := 51) (by decide) n
    have e1 : X / 4 % 256 = X % 256 / 4 + 64 * (X / 256 % 4) := by omega
    have e2 : X / 4 / 256 = X / 256 / 4 := by omega
    rw [and256 X, and256 (X / 4), m1, m2, e1, e2]
    obtain ⟨a0, a1, a2, a3⟩ := kB_b (X % 256) (by omega)
    have e3 : (X % 256 / 4 + 64 * (X / 256 % 4)) &&& 51 = (X % 256 / 4) &&& 51 := by
      rcases (show X / 256 % 4 = 0 ∨ X / 256 % 4 = 1 ∨ X / 256 % 4 = 2 ∨ X / 256 % 4 = 3 by omega) with h | h | h | h <;> rw [h]
      · exact a0
      · exact a1
      · exact a2
      · exact a3
    rw [e3, kT8, kS2, ← i2]
    omega
def kS3 (b : Nat) : Nat := (b + b / 16) % 16
theorem and15 : ∀ b, b < 256 → b &&& 15 = b % 16 := by decide +kernel
/-- every byte's two halves are at most 4 -/
def kOk : Nat → Nat → Prop
  | 0, _ => True
  | n + 1, X => X % 16 ≤ 4 ∧ X / 16 % 16 ≤ 4 ∧ kOk n (X / 256)
theorem kC_all : ∀ (n X : Nat), X < 256 ^ n → kOk n X → (X + X / 16) &&& kM8 15 n = kT8 kS3 n X := by
  intro n
  induction n with
  | zero =>
    intro X hX _
    rw [kM8, kT8, Nat.and_zero]
  | succ n ih =>
    intro X hX ok
    obtain ⟨o1, o2, o3⟩ := ok
    have hX2 : X / 256 < 256 ^ n := by rw [Nat.pow_succ] at hX; omega
    have i2 := ih (X / 256) hX2 o3
    obtain ⟨m1, m2⟩ := kM8_md (c := 15) (by decide) n
    have o4 : X / 256 % 16 ≤ 15 := by omega
    have h4 : X / 256 % 16 ≤ 4 := by
      cases n with
      | zero =>
        have : X / 256 = 0 := by simpa using hX2
        rw [this]; decide
      | succ n => exact o3.1
    have q1 : X / 16 = X % 256 / 16 + 16 * (X / 256) := by omega
    have q2 : X % 256 / 16 = X / 16 % 16 := by omega
    have q3 : X % 256 ≤ 68 := by omega
    have q4 : X + X / 16 = (X % 256 + X % 256 / 16 + 16 * (X / 256 % 16)) + 256 * (X / 256 + X / 256 / 16) := by omega
    have e2 : (X + X / 16) / 256 = X / 256 + X / 256 / 16 := by rw [q4]; omega
    have e1 : (X + X / 16) % 256 % 16 = (X % 256 + X % 256 / 16) % 16 := by rw [q4]; omega
    rw [and256 (X + X / 16), m1, m2, e2, i2, and15 _ (by omega), e1, kT8, kS3]
theorem kT8_lt {f : Nat → Nat} (hf : ∀ b, b < 256 → f b < 256) : ∀ (n X : Nat), kT8 f n X < 256 ^ n := by
  intro n
  induction n with
  | zero => intro X; rw [kT8]; decide
  | succ n ih =>
    intro X
    rw [kT8, Nat.pow_succ]
    have := ih (X / 256)
    have := hf (X % 256) (by omega)
    omega
theorem kT8_comp {f g : Nat → Nat} (hf : ∀ b, b < 256 → f b < 256) : ∀ (n X : Nat), kT8 g n (kT8 f n X) = kT8 (fun b => g (f b)) n X := by
  intro n
  induction n with
  | zero => intro X; rfl
  | succ n ih =>
    intro X
    obtain ⟨h1, h2⟩ := kT8_md (f := f) (n := n) (X := X) (hf _ (by omega))
    rw [kT8, h1, h2, ih]
    rfl
theorem kT8_ok {f : Nat → Nat} (hf : ∀ b, b < 256 → f b < 256 ∧ f b % 16 ≤ 4 ∧ f b / 16 ≤ 4) : ∀ (n X : Nat), kOk n (kT8 f n X) := by
  intro n
  induction n with
  | zero => intro X; trivial
  | succ n ih =>
    intro X
    obtain ⟨h1, h2, h3⟩ := hf (X % 256) (by omega)
    obtain ⟨g1, g2⟩ := kT8_md (f := f) (n := n) (X := X) h1
    refine ⟨by omega, by omega, ?_⟩
    rw [g2]
    exact ih _
def pcb (b : Nat) : Nat := kCt (fun i => b.testBit i) 8
theorem kS_b : ∀ b, b < 256 → kS1 b < 256 ∧ kS2 (kS1 b) < 256 ∧ kS2 (kS1 b) % 16 ≤ 4 ∧ kS2 (kS1 b) / 16 ≤ 4 ∧ kS3 (kS2 (kS1 b)) = pcb b ∧ pcb b ≤ 8 := by decide +kernel
theorem kT8_cong {f g : Nat → Nat} (h : ∀ b, b < 256 → f b = g b) : ∀ (n X : Nat), kT8 f n X = kT8 g n X := by
  intro n
  induction n with
  | zero => intro X; rfl
  | succ n ih => intro X; rw [kT8, kT8, h _ (by omega), ih]
/-- the first three steps of bitCount -/
theorem kABC (n X : Nat) (hX : X < 256 ^ n) : ∀ Y Z, Y = X - ((X / 2) &&& kM8 85 n) → Z = (Y &&& kM8 51 n) + ((Y / 4) &&& kM8 51 n) → (Z + Z / 16) &&& kM8 15 n = kT8 pcb n X := by
  intro Y Z hY hZ
  rw [(kA_all n X hX).2] at hY
  rw [kB_all, hY, kT8_comp (fun b hb => (kS_b b hb).1)] at hZ
  rw [hZ, kC_all n _ (kT8_lt (fun b hb => (kS_b b hb).2.1) n X) (kT8_ok (fun b hb => ⟨(kS_b b hb).2.1, (kS_b b hb).2.2.1, (kS_b b hb).2.2.2.1⟩) n X), kT8_comp (fun b hb => (kS_b b hb).2.1)]
  exact kT8_cong (fun b hb => (kS_b b hb).2.2.2.2.1) n X
theorem kCt_split (p : Nat → Bool) (a : Nat) : ∀ b, kCt p (a + b) = kCt p a + kCt (fun i => p (a + i)) b := by
  intro b
  induction b with
  | zero => rfl
  | succ b ih => rw [← Nat.add_assoc, kCt, kCt, ih]; omega
def kSm (f : Nat → Nat) : Nat → Nat → Nat
  | 0, _ => 0
  | n + 1, X => f (X % 256) + kSm f n (X / 256)
theorem kSm_ct : ∀ (n X : Nat), kSm pcb n X = kCt (fun i => X.testBit i) (8 * n) := by
  intro n
  induction n with
  | zero => intro X; rfl
  | succ n ih =>
    intro X
    rw [kSm, ih, show 8 * (n + 1) = 8 + 8 * n by omega, kCt_split]
    congr 1
    · unfold pcb
      refine kCt_cong (fun i hi => ?_)
      rw [show (256 : Nat) = 2 ^ 8 from rfl, Nat.testBit_mod_two_pow]
      simp [hi]
    · refine kCt_cong (fun i hi => ?_)
      rw [show (256 : Nat) = 2 ^ 8 from rfl, Nat.testBit_div_two_pow, Nat.add_comm]
def uI (x : Int32) : Nat := x.toBitVec.toNat
theorem uI_lt (x : Int32) : uI x < 4294967296 := x.toBitVec.isLt
theorem uI_and (x y : Int32) : uI (x &&& y) = uI x &&& uI y := by unfold uI; rw [Int32.toBitVec_and, BitVec.toNat_and]
theorem uI_add (x y : Int32) : uI (x + y) = (uI x + uI y) % 4294967296 := by unfold uI; rw [Int32.toBitVec_add, BitVec.toNat_add]
theorem uI_sub (x y : Int32) (h : uI y ≤ uI x) : uI (x - y) = uI x - uI y := by
  have h1 := uI_lt x
  unfold uI at *
  rw [Int32.toBitVec_sub, BitVec.toNat_sub]
  omega
theorem uI_shr (x s : Int32) (k : Nat) (hs : ((s.toUInt32 &&& Int32.toUInt32 31).toBitVec % 32).toNat = k) : uI (x.toUInt32 >>> (s.toUInt32 &&& Int32.toUInt32 31)).toInt32 = uI x / 2 ^ k := pk_ushr x s k hs
theorem uI_nI {n : Nat} (h : n < 4294967296) : uI (nI n) = n := pk_tn (by omega)
theorem uI_inj {x y : Int32} (h : uI x = uI y) : x = y := Int32.toBitVec_inj.mp (BitVec.eq_of_toNat_eq h)
theorem bt_uI (x : Int32) (i : Nat) : bt x i = (uI x).testBit i := rfl
theorem bitCountI (x y1 y2 y3 y4 y5 : Int32)
    (e1 : y1 = (x - (((x).toUInt32 >>> (((1 : Int32)).toUInt32 &&& Int32.toUInt32 31)).toInt32 &&& (1431655765 : Int32))))
    (e2 : y2 = ((y1 &&& (858993459 : Int32)) + (((y1).toUInt32 >>> (((2 : Int32)).toUInt32 &&& Int32.toUInt32 31)).toInt32 &&& (858993459 : Int32))))
    (e3 : y3 = ((y2 + ((y2).toUInt32 >>> (((4 : Int32)).toUInt32 &&& Int32.toUInt32 31)).toInt32) &&& (252645135 : Int32)))
    (e4 : y4 = (y3 + ((y3).toUInt32 >>> (((8 : Int32)).toUInt32 &&& Int32.toUInt32 31)).toInt32))
    (e5 : y5 = (y4 + ((y4).toUInt32 >>> (((16 : Int32)).toUInt32 &&& Int32.toUInt32 31)).toInt32)) :
    y5 &&& (63 : Int32) = nI (kCt (bt x) 32) := by
  have hx := uI_lt x
  have c1 : uI (1431655765 : Int32) = kM8 85 4 := by decide
  have c2 : uI (858993459 : Int32) = kM8 51 4 := by decide
  have c3 : uI (252645135 : Int32) = kM8 15 4 := by decide
  have hA := kA_all 4 (uI x) (by omega)
  have f1 : uI y1 = uI x - ((uI x / 2) &&& kM8 85 4) := by
    rw [e1, uI_sub _ _ (by rw [uI_and, uI_shr _ _ 1 (by decide), c1]; exact hA.1), uI_and, uI_shr _ _ 1 (by decide), c1]
  have hB := kB_all 4 (uI y1)
  have hBl : (uI y1 &&& kM8 51 4) + ((uI y1 / 4) &&& kM8 51 4) < 4294967296 := by
    have a1 : uI y1 &&& kM8 51 4 ≤ kM8 51 4 := Nat.and_le_right
    have a2 : (uI y1 / 4) &&& kM8 51 4 ≤ kM8 51 4 := Nat.and_le_right
    have a3 : kM8 51 4 = 858993459 := by decide
    omega
  have f2 : uI y2 = (uI y1 &&& kM8 51 4) + ((uI y1 / 4) &&& kM8 51 4) := by
    rw [e2, uI_add, uI_and, uI_and, uI_shr _ _ 2 (by decide), c2, Nat.mod_eq_of_lt hBl]
  have hZ2 : uI y2 ≤ 1717986918 := by
    have a1 : uI y1 &&& kM8 51 4 ≤ kM8 51 4 := Nat.and_le_right
    have a2 : (uI y1 / 4) &&& kM8 51 4 ≤ kM8 51 4 := Nat.and_le_right
    have a3 : kM8 51 4 = 858993459 := by decide
    omega
  have f3 : uI y3 = kT8 pcb 4 (uI x) := by
    rw [e3, uI_and, uI_add, uI_shr _ _ 4 (by decide), c3, Nat.mod_eq_of_lt (by omega)]
    exact kABC 4 (uI x) (by omega) _ _ f1 f2
  have hct : kSm pcb 4 (uI x) = kCt (bt x) 32 := kSm_ct 4 (uI x)
  have p : ∀ X, pcb (X % 256) ≤ 8 := fun X => (kS_b _ (by omega)).2.2.2.2.2
  simp only [kT8] at f3
  simp only [kSm] at hct
  have p0 := p (uI x)
  have p1 := p (uI x / 256)
  have p2 := p (uI x / 256 / 256)
  have p3 := p (uI x / 256 / 256 / 256)
  generalize pcb (uI x % 256) = d0 at *
  generalize pcb (uI x / 256 % 256) = d1 at *
  generalize pcb (uI x / 256 / 256 % 256) = d2 at *
  generalize pcb (uI x / 256 / 256 / 256 % 256) = d3 at *
  have f4 : uI y4 = (d0 + d1) + 256 * (d1 + d2) + 65536 * (d2 + d3) + 16777216 * d3 := by
    rw [e4, uI_add, uI_shr _ _ 8 (by decide), f3]
    omega
  have g1 : uI y4 / 2 ^ 16 = (d2 + d3) + 256 * d3 := by rw [f4]; omega
  have f5 : uI y5 % 256 = d0 + d1 + d2 + d3 := by
    rw [e5, uI_add, uI_shr _ _ 16 (by decide), g1, f4]
    omega
  rw [pk_and y5 (m := 63) 6 (by decide)]
  congr 1
  show uI y5 % 2 ^ 6 = _
  omega
theorem s_bitCountI {G : k_G} {M : k_M} {post : Int32 → k_M → Prop} {x : Int32} (hp : post (nI (kCt (bt x) 32)) M) : wp_J6_bitCount_0f7a4 G post x M := by
  unfold wp_J6_bitCount_0f7a4
  intro y1 e1 y2 e2 y3 e3 y4 e4 y5 e5
  rw [bitCountI x y1 y2 y3 y4 y5 e1 e2 e3 e4 e5]
  exact hp
