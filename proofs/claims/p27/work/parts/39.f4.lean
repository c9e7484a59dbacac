/-! ===== the class: saving, the pad, what receiving would bring ===== -/
def byt (u i : Nat) : Nat := u / 256 ^ i % 256
def cI : Nat → Nat → Nat → Nat
  | 0 => fun _ a => a
  | k + 1 => fun u a => if u = 0 then a else if u % 256 < 33 ∨ 126 < u % 256 then 0 else cI k (u / 256) (a + 1)
theorem cI_spec (u0 : Nat) : ∀ (k a u : Nat), u = u0 / 256 ^ a → (∀ i, i < a → byt u0 i < 128) → a + k ≤ 8 → cI k u a ≤ 8 ∧ ∀ i, i < cI k u a → byt u0 i < 128 := by
  intro k
  induction k with
  | zero => intro a u hu ha hk; exact ⟨by show a ≤ 8; omega, ha⟩
  | succ k ih =>
    intro a u hu ha hk
    rw [cI]
    dsimp only
    split
    · exact ⟨by omega, ha⟩
    · split
      · exact ⟨by omega, fun i hi => absurd hi (Nat.not_lt_zero i)⟩
      · rename_i h1 h2
        refine ih (a + 1) _ (by rw [hu, Nat.pow_succ, Nat.div_div_eq_div_mul]) (fun i hi => ?_) (by omega)
        by_cases hia : i = a
        · subst hia
          unfold byt
          rw [← hu]
          omega
        · exact ha i (by omega)
def xput (F : kF) (u : Nat) : Int32 × kF :=
  if cI 8 u 0 = 0 then (-2, F) else if 64 - F.pn < cI 8 u 0 then (-4, F)
  else (nI (F.pn + cI 8 u 0), F.S, F.hist, F.hc, F.sl, F.sv, (fun i => if F.pn ≤ i then byt u (F.pn + cI 8 u 0 - 1 - i) else F.ch i), F.pn + cI 8 u 0)
theorem lgz (x : Int64) : lg_cmp x 0 = 0 ↔ x = 0 := by
  unfold lg_cmp
  split
  · constructor
    · intro h; exact absurd h (by decide)
    · rintro rfl
      rename_i h
      exact absurd h (by decide)
  · split
    · rename_i h; exact ⟨fun _ => h, fun _ => rfl⟩
    · rename_i h; exact ⟨fun z => absurd z (by decide), fun z => absurd z h⟩
theorem lNz {u : Nat} (h : u < 2 ^ 64) : lN u = 0 ↔ u = 0 := by
  constructor
  · intro z
    have := wb_tn h
    rw [z] at this
    exact this.symm
  · rintro rfl; rfl
theorem c_256 : ∀ n, n < 256 → ((nI n).toUInt32 % 65536).toInt32 = nI n := by decide +kernel
theorem v_256 : ∀ n, n < 256 → vp_nar .char (nI n) = nI n := by decide +kernel
theorem n8 : ∀ j, j < 8 → (8 : Int32) * nI j = nI (8 * j) := by decide +kernel
theorem s8_byte {u : Nat} (hu : u < 2 ^ 64) {j : Nat} (hj : j < 8) : (((((lN u).toUInt64 >>> ((((8 : Int32) * nI j)).toInt64.toUInt64 &&& Int64.toUInt64 63)).toInt64 &&& (255 : Int64))).toInt32) = nI (byt u j) := by
  rw [n8 j hj, wb_shr hu (by omega)]
  have h : lN (u / 2 ^ (8 * j)) &&& (255 : Int64) = lN (u / 2 ^ (8 * j) % 2 ^ 8) := wb_mask (k := 8) (Nat.lt_of_le_of_lt (Nat.div_le_self _ _) hu) (by decide)
  rw [h, lN_i]
  unfold byt
  rw [Nat.pow_mul]
theorem b_lt (u i : Nat) : byt u i < 256 := Nat.mod_lt _ (by decide)
section F4
variable {G : k_G} {M : k_M} {ad hi : Nat → Nat} {cap : Nat} {F : kF} {post : Int32 → k_M → Prop}
theorem pad_inj (hg : gInj ad) : ∀ i j, i < 4 → j < 4 → i ≠ j → (fun k => ad (346 + k)) i ≠ (fun k => ad (346 + k)) j := fun i j hi hj hij => hg.ne (by omega) (by omega) (by omega)
theorem s_rd {M1 : k_M} (hg : gInj ad) (ho : hOk hi) (hF : cF G M ad hi cap F) (f1 : ∀ a, a ≠ ad 346 → a ≠ ad 349 → M1 a = M a) (hc : cPad G M1 (fun k => ad (346 + k)) F.ch F.pn) : cF G M1 ad hi cap F ∧ kFr M M1 ad := by
  have k1 : ∀ n, n < 354 → n ≠ 346 → n ≠ 349 → M1 (ad n) = M (ad n) := fun n q1 q2 q3 => f1 _ (hg.ne q1 (by omega) q2) (hg.ne q1 (by omega) q3)
  obtain ⟨e', l', g', t1, t2⟩ := hF.tri
  exact ⟨hF.side ho (fun n hn => k1 n (by omega) (by omega) (by omega)) hc ⟨e', l', g', (k1 350 (by omega) (by omega) (by omega)).trans t1, (k1 351 (by omega) (by omega) (by omega)).trans t2⟩ (hF.txt.kept (k1 352 (by omega) (by omega) (by omega)) (k1 353 (by omega) (by omega) (by omega))), kFr.of (fun a ha => f1 a (ha 346 (by omega)) (ha 349 (by omega)))⟩
end F4
