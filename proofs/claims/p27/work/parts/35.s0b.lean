/-! ===== the Pad: commas, brackets, a sign, the whole text ===== -/
theorem k_narz (b : Bool) : narrow .boolean (.int (k01 b)) = .int (k01 b) := by cases b <;> decide
theorem k_nar1 : narrow .boolean (.int (1 : Int32)) = .int (1 : Int32) := by decide
theorem k_nar0 : narrow .boolean (.int (0 : Int32)) = .int (0 : Int32) := by decide
theorem land_le {a b : Nat} : a &&& b ≤ a := Nat.and_le_left
theorem k_dec0 {b : Prop} [Decidable b] (h : k01 (!(decide b)) = 0) : b := by
  have := k01_z.mp h
  simpa using this
theorem k_decn {b : Prop} [Decidable b] (h : ¬ k01 (!(decide b)) = 0) : ¬ b := by
  have := k01_nz h
  simpa using this
section S0B
variable {G : k_G} {M : k_M} {pp : Nat → Nat} {n : Nat} {s : kP}
/-- the pad at rest: its text, and cells that a reading uses -/
def cPad (G : k_G) (M : k_M) (pp : Nat → Nat) (ch : Nat → Nat) (n : Nat) : Prop :=
  (∃ a b c d : Int32, M (pp 0) = some (kO 1 [.ref (pp 1), .ref (pp 2), .int (nI n), .int a, .int b, .int c, .int d])) ∧
  (∃ g, M (pp 1) = some (kC G 64 g) ∧ ∀ i, i < n → g i = nI (ch i) ∧ ch i < 128) ∧
  (∃ e l, M (pp 2) = some (kO 2 [.ref (pp 3), .long e, .long l])) ∧
  ∃ hf, M (pp 3) = some (kI G 16 hf)
theorem prun_none {ch : Nat → Nat} {i : Nat} (h : prun ch i = none) : ∀ k, prun ch (i + k) = none := by
  intro k
  induction k with
  | zero => exact h
  | succ k ih => rw [← Nat.add_assoc, prun, ih]; rfl
/-- what the pad's stamp holds behind a reading without a fault -/
def pHf (ch : Nat → Nat) (n : Nat) : Nat → Int32 := match prun ch n with
  | none => fun _ => 0
  | some s => s.hf
end S0B
