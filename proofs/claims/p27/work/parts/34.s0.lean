/-! ===== the Pad, and its reading sign by sign ===== -/
/-- where the reading stands: first, size, stage, number, heights -/
abbrev kP : Type := Nat × Nat × Nat × Nat × (Nat → Int32)
abbrev kP.fi (s : kP) : Nat := s.1
abbrev kP.sz (s : kP) : Nat := s.2.1
abbrev kP.sg (s : kP) : Nat := s.2.2.1
abbrev kP.nu (s : kP) : Nat := s.2.2.2.1
abbrev kP.hf (s : kP) : Nat → Int32 := s.2.2.2.2
def kP.ok (s : kP) : Prop := (s.sz = 1 ∨ s.sz = 2 ∨ s.sz = 4 ∨ s.sz = 8 ∨ s.sz = 16) ∧ s.fi + s.sz ≤ 16 ∧ s.sg ≤ 2 ∧ s.nu ≤ 250 ∧ s.fi % s.sz = 0
def kP.bnd (s : kP) : Nat := if s.sg = 0 then s.fi else s.fi + s.sz
def kFill (f : Nat → Int32) (a n v : Nat) : Nat → Int32 := fun c => if a ≤ c ∧ c < a + n then nI v else f c
theorem kup_at {M M1 : k_M} {a : Nat} {v : Option va_E} (e : M1 = va_up M a v) : M1 a = v := by rw [e, kup_same]
theorem kup_off {M M1 : k_M} {a b : Nat} {v : Option va_E} (e : M1 = va_up M a v) (h : b ≠ a) : M1 b = M b := by rw [e, kup_ne h]
def pnum (c : Nat) (s : kP) : Nat := if s.sg = 1 then s.nu * 10 + (c - 48) else c - 48
def pstep (c : Nat) (s : kP) : Option kP :=
  if 48 ≤ c ∧ c ≤ 57 then
    (if s.sg = 2 ∨ (s.sg = 1 ∧ s.nu = 0) then none
     else if pnum c s ≤ 250 then some (s.fi, s.sz, 1, pnum c s, kFill s.hf s.fi s.sz (pnum c s)) else none)
  else if c = 40 then (if s.sg = 0 ∧ s.sz ≠ 1 then some (s.fi, s.sz / 2, 0, s.nu, s.hf) else none)
  else if c = 44 then (if s.sg ≠ 0 ∧ s.sz ≠ 16 ∧ s.fi &&& s.sz = 0 then some (s.fi + s.sz, s.sz, 0, s.nu, s.hf) else none)
  else if c = 41 then (if s.sg ≠ 0 ∧ s.sz ≠ 16 ∧ s.fi &&& s.sz ≠ 0 then some (s.fi - s.sz, s.sz * 2, 2, s.nu, s.hf) else none)
  else none
theorem and_pow {a n : Nat} (h : n = 1 ∨ n = 2 ∨ n = 4 ∨ n = 8 ∨ n = 16) (ha : a ≤ 16) (hm : a % n = 0) : a &&& n = 0 ↔ a / n % 2 = 0 := by
  rcases h with rfl | rfl | rfl | rfl | rfl <;> revert hm <;> revert ha <;> revert a <;> decide +kernel
theorem pstep_ok {c : Nat} {s t : kP} (hs : s.ok) (h : pstep c s = some t) : t.ok := by
  obtain ⟨h1, h2, h3, h4, h5⟩ := hs
  unfold pstep at h
  split at h
  · split at h
    · cases h
    · split at h
      · cases h
        refine ⟨h1, h2, by show (1:Nat) ≤ 2; omega, ?_, h5⟩
        assumption
      · cases h
  · split at h
    · split at h
      · cases h
        rename_i hc
        refine ⟨?_, ?_, by show (0:Nat) ≤ 2; omega, h4, ?_⟩
        · show s.sz / 2 = 1 ∨ s.sz / 2 = 2 ∨ s.sz / 2 = 4 ∨ s.sz / 2 = 8 ∨ s.sz / 2 = 16
          omega
        · show s.fi + s.sz / 2 ≤ 16
          omega
        · show s.fi % (s.sz / 2) = 0
          rcases h1 with e | e | e | e | e <;> rw [e] at h5 hc ⊢ <;> omega
      · cases h
    · split at h
      · split at h
        · cases h
          rename_i hc
          have h6 := (and_pow h1 (by omega) h5).mp hc.2.2
          refine ⟨h1, ?_, by show (0:Nat) ≤ 2; omega, h4, ?_⟩
          · show s.fi + s.sz + s.sz ≤ 16
            rcases h1 with e | e | e | e | e <;> rw [e] at h5 h6 hc h2 ⊢ <;> omega
          · show (s.fi + s.sz) % s.sz = 0
            rw [Nat.add_mod_right]; exact h5
        · cases h
      · split at h
        · split at h
          · cases h
            rename_i hc
            have h6 : ¬ s.fi / s.sz % 2 = 0 := fun z => hc.2.2 ((and_pow h1 (by omega) h5).mpr z)
            refine ⟨?_, ?_, by show (2:Nat) ≤ 2; omega, h4, ?_⟩
            · show s.sz * 2 = 1 ∨ s.sz * 2 = 2 ∨ s.sz * 2 = 4 ∨ s.sz * 2 = 8 ∨ s.sz * 2 = 16
              omega
            · show s.fi - s.sz + s.sz * 2 ≤ 16
              rcases h1 with e | e | e | e | e <;> rw [e] at h5 h6 hc h2 ⊢ <;> omega
            · show (s.fi - s.sz) % (s.sz * 2) = 0
              rcases h1 with e | e | e | e | e <;> rw [e] at h5 h6 hc h2 ⊢ <;> omega
          · cases h
        · cases h
def kp0 : kP := (0, 16, 0, 0, fun _ => 0)
theorem kp0_ok : kp0.ok := ⟨by decide, by decide, by decide, by decide, by decide⟩
def prun (ch : Nat → Nat) : Nat → Option kP
  | 0 => some kp0
  | i + 1 => (prun ch i).bind (pstep (ch i))
theorem prun_ok {ch : Nat → Nat} : ∀ {i : Nat} {s : kP}, prun ch i = some s → s.ok := by
  intro i
  induction i with
  | zero => intro s h; cases h; exact kp0_ok
  | succ i ih =>
    intro s h
    rw [prun] at h
    cases hp : prun ch i with
    | none => rw [hp] at h; cases h
    | some t => rw [hp] at h; exact pstep_ok (ih hp) h
/-- the fault of a text of n signs; NONE if there is none -/
def pEnd (n : Nat) (o : Option kP) : Int32 := match o with
  | none => nI n
  | some s => if s.sz = 16 ∧ s.sg ≠ 0 then -6 else nI n
def pFault (ch : Nat → Nat) (n : Nat) : Int32 := if kMin (fun i => (prun ch (i + 1)).isNone) n < n then nI (kMin (fun i => (prun ch (i + 1)).isNone) n) else pEnd n (prun ch n)
/-- the cells of the pad -/
def pSt (G : k_G) (M : k_M) (pp : Nat → Nat) (n : Nat) (s : kP) : Prop :=
  (∃ nm : Int32, M (pp 0) = some (kO 1 [.ref (pp 1), .ref (pp 2), .int (nI n), .int (nI s.fi), .int (nI s.sz), .int (nI s.sg), .int nm]) ∧ (s.sg = 1 → nm = nI s.nu)) ∧
  (∃ e l, M (pp 2) = some (kO 2 [.ref (pp 3), .long e, .long l])) ∧
  ∃ hf, M (pp 3) = some (kI G 16 hf) ∧ ∀ c, c < s.bnd → hf c = s.hf c
section S0
variable {G : k_G} {M : k_M} {pp : Nat → Nat} {n : Nat} {s : kP}
theorem nI_inj {a b : Nat} (ha : a < 2 ^ 31) (hb : b < 2 ^ 31) : nI a = nI b ↔ a = b := nI_eq ha hb
theorem k_sg {a b : Nat} (ha : a ≤ 300) (hb : b ≤ 300) : nI a = nI b ↔ a = b := nI_eq (by omega) (by omega)
end S0
