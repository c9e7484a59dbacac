/-! ===== the same of longs ===== -/
def uL (x : Int64) : Nat := x.toBitVec.toNat
theorem uL_lt (x : Int64) : uL x < 18446744073709551616 := x.toBitVec.isLt
theorem uL_and (x y : Int64) : uL (x &&& y) = uL x &&& uL y := by unfold uL; rw [Int64.toBitVec_and, BitVec.toNat_and]
theorem uL_add (x y : Int64) : uL (x + y) = (uL x + uL y) % 18446744073709551616 := by unfold uL; rw [Int64.toBitVec_add, BitVec.toNat_add]
theorem uL_sub (x y : Int64) (h : uL y ≤ uL x) : uL (x - y) = uL x - uL y := by
  have h1 := uL_lt x
  unfold uL at *
  rw [Int64.toBitVec_sub, BitVec.toNat_sub]
  omega
theorem uL_shr (x : Int64) (s : UInt64) (k : Nat) (hk : k < 64) (hs : s.toNat = k) : uL (x.toUInt64 >>> s).toInt64 = uL x / 2 ^ k := by
  show (x.toUInt64 >>> s).toNat = _
  rw [UInt64.toNat_shiftRight, hs, Nat.mod_eq_of_lt hk, Nat.shiftRight_eq_div_pow]
  rfl
def bl (x : Int64) (i : Nat) : Bool := x.toBitVec.getLsbD i
theorem bl_uL (x : Int64) (i : Nat) : bl x i = (uL x).testBit i := rfl
theorem dvN (a N b : Nat) (hN : 0 < N) (ha : a < N) : (a + N * b) / N = b := by
  rw [Nat.add_mul_div_left _ _ hN, Nat.div_eq_of_lt ha, Nat.zero_add]
theorem addm (y q r : Nat) (N D : Nat) (hq : q / D = r) (h : q + r < N) (hy : y = (q + q / D) % N) : y = q + r := by
  rw [hy, hq]
  exact Nat.mod_eq_of_lt h
theorem fA (d0 d1 d2 d3 d4 d5 d6 d7 E1 E2 E3 E4 E5 E6 E7 : Nat) (p1 : d1 ≤ 8) (p2 : d2 ≤ 8) (p3 : d3 ≤ 8) (p4 : d4 ≤ 8) (p5 : d5 ≤ 8) (p6 : d6 ≤ 8) (p7 : d7 ≤ 8)
    (h7 : E7 = d7) (h6 : E6 = d6 + 256 * E7) (h5 : E5 = d5 + 256 * E6) (h4 : E4 = d4 + 256 * E5) (h3 : E3 = d3 + 256 * E4) (h2 : E2 = d2 + 256 * E3) (h1 : E1 = d1 + 256 * E2) :
    E7 ≤ 8 ∧ E6 ≤ 2056 ∧ E5 ≤ 526344 ∧ E4 ≤ 134744072 ∧ E3 ≤ 34494482440 ∧ E2 ≤ 8830587504648 ∧ E1 ≤ 2260630401189896 := by
  have b7 : E7 ≤ 8 := by omega
  have b6 : E6 ≤ 2056 := by clear h5 h4 h3 h2 h1; omega
  have b5 : E5 ≤ 526344 := by clear h6 h4 h3 h2 h1; omega
  have b4 : E4 ≤ 134744072 := by clear h6 h5 h3 h2 h1; omega
  have b3 : E3 ≤ 34494482440 := by clear h6 h5 h4 h2 h1; omega
  have b2 : E2 ≤ 8830587504648 := by clear h6 h5 h4 h3 h1; omega
  have b1 : E1 ≤ 2260630401189896 := by clear h6 h5 h4 h3 h2; omega
  exact ⟨b7, b6, b5, b4, b3, b2, b1⟩
theorem foldE (d0 d1 d2 d3 d4 d5 d6 d7 E1 E2 E3 E4 E5 E6 E7 : Nat) (p0 : d0 ≤ 8) (p1 : d1 ≤ 8) (p2 : d2 ≤ 8) (p3 : d3 ≤ 8) (p4 : d4 ≤ 8) (p5 : d5 ≤ 8) (p6 : d6 ≤ 8) (p7 : d7 ≤ 8) (y3 y4 y5 y6 : Nat)
    (h7 : E7 = d7) (h6 : E6 = d6 + 256 * E7) (h5 : E5 = d5 + 256 * E6) (h4 : E4 = d4 + 256 * E5) (h3 : E3 = d3 + 256 * E4) (h2 : E2 = d2 + 256 * E3) (h1 : E1 = d1 + 256 * E2) (f3 : y3 = d0 + 256 * E1) :
    y4 = (y3 + y3 / 256) % 18446744073709551616 → y5 = (y4 + y4 / 65536) % 18446744073709551616 → y6 = (y5 + y5 / 4294967296) % 18446744073709551616 →
    y6 % 256 = d0 + d1 + d2 + d3 + d4 + d5 + d6 + d7 := by
  obtain ⟨b7, b6, b5, b4, b3, b2, b1⟩ := fA d0 d1 d2 d3 d4 d5 d6 d7 E1 E2 E3 E4 E5 E6 E7 p1 p2 p3 p4 p5 p6 p7 h7 h6 h5 h4 h3 h2 h1
  have g3 : y3 / 256 = E1 := by rw [f3]; exact dvN d0 256 E1 (by omega) (by omega)
  have l4 : y3 + E1 = (d0 + d1 + 256 * (d1 + d2)) + 65536 * (E2 + E3) := by rw [f3, h1, h2]; omega
  have l5 : y3 + E1 + (E2 + E3) = (d0 + d1 + d2 + d3 + 256 * (d1 + d2 + d3 + d4) + 65536 * (d2 + d3 + d4 + d5) + 16777216 * (d3 + d4 + d5 + d6)) + 4294967296 * (E4 + E5 + E6 + E7) := by
    rw [l4, h2, h3, h4, h5, h6]; omega
  have l6 : y3 + E1 + (E2 + E3) + (E4 + E5 + E6 + E7) = (d0 + d1 + d2 + d3 + d4 + d5 + d6 + d7) + 256 * (d1 + d2 + d3 + d4 + 256 * (d2 + d3 + d4 + d5) + 65536 * (d3 + d4 + d5 + d6) + 16777216 * (E4 + E5 + E6 + E7) + E5 + E6 + E7) := by
    rw [l5]
    have : E4 + E5 + E6 + E7 = (d4 + d5 + d6 + d7) + 256 * (E5 + E6 + E7) := by rw [h4, h5, h6, h7]; omega
    omega
  have q4 : y3 + E1 < 18446744073709551616 := by clear l4 l5 l6; omega
  have q5 : y3 + E1 + (E2 + E3) < 18446744073709551616 := by clear l4 l5 l6; omega
  have q6 : y3 + E1 + (E2 + E3) + (E4 + E5 + E6 + E7) < 18446744073709551616 := by clear l4 l5 l6; omega
  have m4 : (y3 + E1) / 65536 = E2 + E3 := by rw [l4]; exact dvN _ 65536 _ (by omega) (by clear l4 l5 l6 q4 q5 q6; omega)
  have m5 : (y3 + E1 + (E2 + E3)) / 4294967296 = E4 + E5 + E6 + E7 := by rw [l5]; exact dvN _ 4294967296 _ (by omega) (by clear l4 l5 l6 q4 q5 q6 m4; omega)
  have m6 : (y3 + E1 + (E2 + E3) + (E4 + E5 + E6 + E7)) % 256 = d0 + d1 + d2 + d3 + d4 + d5 + d6 + d7 := by
    rw [l6, Nat.add_mul_mod_self_left]
    exact Nat.mod_eq_of_lt (by clear l4 l5 l6 q4 q5 q6 m4 m5; omega)
  intro f4 f5 f6
  rw [g3, Nat.mod_eq_of_lt q4] at f4
  rw [f4, m4, Nat.mod_eq_of_lt q5] at f5
  rw [f5, m5, Nat.mod_eq_of_lt q6] at f6
  rw [f6, m6]
theorem dig8 (X : Nat) : ∃ d0 d1 d2 d3 d4 d5 d6 d7 : Nat, d0 ≤ 8 ∧ d1 ≤ 8 ∧ d2 ≤ 8 ∧ d3 ≤ 8 ∧ d4 ≤ 8 ∧ d5 ≤ 8 ∧ d6 ≤ 8 ∧ d7 ≤ 8 ∧
    kT8 pcb 8 X = d0 + 256 * (d1 + 256 * (d2 + 256 * (d3 + 256 * (d4 + 256 * (d5 + 256 * (d6 + 256 * d7)))))) ∧
    kSm pcb 8 X = d0 + (d1 + (d2 + (d3 + (d4 + (d5 + (d6 + d7)))))) := by
  have p : ∀ Y, pcb (Y % 256) ≤ 8 := fun Y => (kS_b _ (Nat.mod_lt _ (by decide))).2.2.2.2.2
  have e : ∀ (n Y : Nat), kT8 pcb (n + 1) Y = pcb (Y % 256) + 256 * kT8 pcb n (Y / 256) := fun _ _ => rfl
  have g : ∀ (n Y : Nat), kSm pcb (n + 1) Y = pcb (Y % 256) + kSm pcb n (Y / 256) := fun _ _ => rfl
  refine ⟨_, _, _, _, _, _, _, _, p X, p (X / 256), p (X / 256 / 256), p (X / 256 / 256 / 256), p (X / 256 / 256 / 256 / 256), p (X / 256 / 256 / 256 / 256 / 256), p (X / 256 / 256 / 256 / 256 / 256 / 256), p (X / 256 / 256 / 256 / 256 / 256 / 256 / 256), ?_, ?_⟩
  · rw [e 7, e 6, e 5, e 4, e 3, e 2, e 1, e 0]; rfl
  · rw [g 7, g 6, g 5, g 4, g 3, g 2, g 1, g 0]; rfl
theorem bitCountL (x y1 y2 y3 y4 y5 y6 : Int64)
    (e1 : y1 = (x - (((x).toUInt64 >>> (((1 : Int32)).toInt64.toUInt64 &&& Int64.toUInt64 63)).toInt64 &&& (6148914691236517205 : Int64))))
    (e2 : y2 = ((y1 &&& (3689348814741910323 : Int64)) + (((y1).toUInt64 >>> (((2 : Int32)).toInt64.toUInt64 &&& Int64.toUInt64 63)).toInt64 &&& (3689348814741910323 : Int64))))
    (e3 : y3 = ((y2 + ((y2).toUInt64 >>> (((4 : Int32)).toInt64.toUInt64 &&& Int64.toUInt64 63)).toInt64) &&& (1085102592571150095 : Int64)))
    (e4 : y4 = (y3 + ((y3).toUInt64 >>> (((8 : Int32)).toInt64.toUInt64 &&& Int64.toUInt64 63)).toInt64))
    (e5 : y5 = (y4 + ((y4).toUInt64 >>> (((16 : Int32)).toInt64.toUInt64 &&& Int64.toUInt64 63)).toInt64))
    (e6 : y6 = (y5 + ((y5).toUInt64 >>> (((32 : Int32)).toInt64.toUInt64 &&& Int64.toUInt64 63)).toInt64)) :
    (y6).toInt32 &&& (127 : Int32) = nI (kCt (bl x) 64) := by
  have hx := uL_lt x
  have c1 : uL (6148914691236517205 : Int64) = kM8 85 8 := by decide +kernel
  have c2 : uL (3689348814741910323 : Int64) = kM8 51 8 := by decide +kernel
  have c3 : uL (1085102592571150095 : Int64) = kM8 15 8 := by decide +kernel
  have hA := kA_all 8 (uL x) (by omega)
  have f1 : uL y1 = uL x - ((uL x / 2) &&& kM8 85 8) := by
    rw [e1, uL_sub _ _ (by rw [uL_and, uL_shr _ _ 1 (by decide) (by decide +kernel), c1]; exact hA.1), uL_and, uL_shr _ _ 1 (by decide) (by decide +kernel), c1]
  have a3 : kM8 51 8 = 3689348814741910323 := by decide +kernel
  have a1 : uL y1 &&& kM8 51 8 ≤ kM8 51 8 := Nat.and_le_right
  have a2 : (uL y1 / 4) &&& kM8 51 8 ≤ kM8 51 8 := Nat.and_le_right
  have hBl : (uL y1 &&& kM8 51 8) + ((uL y1 / 4) &&& kM8 51 8) < 18446744073709551616 := by omega
  have f2 : uL y2 = (uL y1 &&& kM8 51 8) + ((uL y1 / 4) &&& kM8 51 8) := by
    rw [e2, uL_add, uL_and, uL_and, uL_shr _ _ 2 (by decide) (by decide +kernel), c2, Nat.mod_eq_of_lt hBl]
  have hZ2 : uL y2 ≤ 7378697629483820646 := by omega
  have f3 : uL y3 = kT8 pcb 8 (uL x) := by
    rw [e3, uL_and, uL_add, uL_shr _ _ 4 (by decide) (by decide +kernel), c3, Nat.mod_eq_of_lt (by omega)]
    exact kABC 8 (uL x) (by omega) _ _ f1 f2
  have hct : kSm pcb 8 (uL x) = kCt (bl x) 64 := kSm_ct 8 (uL x)
  clear f1 f2 hBl a1 a2 a3 hA hZ2 c1 c2 c3 e1 e2 e3 hx
  obtain ⟨d0, d1, d2, d3, d4, d5, d6, d7, p0, p1, p2, p3, p4, p5, p6, p7, t1, t2⟩ := dig8 (uL x)
  rw [t1] at f3
  rw [t2] at hct
  have f4 : uL y4 = (uL y3 + uL y3 / 256) % 18446744073709551616 := by rw [e4, uL_add, uL_shr _ _ 8 (by decide) (by decide +kernel)]
  have f5 : uL y5 = (uL y4 + uL y4 / 65536) % 18446744073709551616 := by rw [e5, uL_add, uL_shr _ _ 16 (by decide) (by decide +kernel)]
  have f6' : uL y6 = (uL y5 + uL y5 / 4294967296) % 18446744073709551616 := by rw [e6, uL_add, uL_shr _ _ 32 (by decide) (by decide +kernel)]
  have f6 : uL y6 % 256 = d0 + d1 + d2 + d3 + d4 + d5 + d6 + d7 :=
    foldE d0 d1 d2 d3 d4 d5 d6 d7 _ _ _ _ _ _ _ p0 p1 p2 p3 p4 p5 p6 p7 _ _ _ _ rfl rfl rfl rfl rfl rfl rfl f3 f4 f5 f6'
  clear f3 f4 f5 f6'
  have t : uI (y6).toInt32 % 128 = uL y6 % 128 := by
    have e : y6 = lN (uL y6) := Int64.toBitVec_inj.mp (by show y6.toBitVec = BitVec.ofNat 64 (y6.toBitVec.toNat); simp)
    have key : ∀ n : Nat, uI (lN n).toInt32 % 128 = n % 128 := by
      intro n
      rw [lN_i]
      show (BitVec.ofNat 32 n).toNat % 128 = _
      rw [BitVec.toNat_ofNat]
      omega
    have k := key (uL y6)
    rw [← e] at k
    exact k
  have hfin : uI (y6).toInt32 % 2 ^ 7 = d0 + (d1 + (d2 + (d3 + (d4 + (d5 + (d6 + d7)))))) := by
    clear hct
    omega
  rw [← hct, pk_and _ (m := 127) 7 (by decide)]
  exact congrArg nI hfin
theorem s_bitCountL {G : k_G} {M : k_M} {post : Int32 → k_M → Prop} {x : Int64} (hp : post (nI (kCt (bl x) 64)) M) : wp_J13_bitCount_95d88 G post x M := by
  unfold wp_J13_bitCount_95d88
  intro y1 e1 y2 e2 y3 e3 y4 e4 y5 e5 y6 e6
  rw [bitCountL x y1 y2 y3 y4 y5 y6 e1 e2 e3 e4 e5 e6]
  exact hp
