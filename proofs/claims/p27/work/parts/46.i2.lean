/-! ===== what is made: the class ===== -/
def PP (M0 M1 : k_M) (p : Nat) (nw : Nat → Nat) (n : Nat) (o : va_E) : Prop :=
  nw 0 = p ∧ iOk M1 nw n ∧ (∀ k, 1 ≤ k → k < n → M0 (nw k) = none) ∧ (∀ a e, M0 a = some e → a ≠ p → M1 a = some e) ∧ M1 p = some o ∧ 1 ≤ n
theorem PP.put {M0 M1 M2 : k_M} {p n : Nat} {nw : Nat → Nat} {o o' : va_E} (h : PP M0 M1 p nw n o) (e : M2 = va_up M1 p (some o')) : PP M0 M2 p nw n o' := by
  obtain ⟨h0, h1, h2, h3, h4, h5⟩ := h
  refine ⟨h0, ⟨h1.1, fun i hi => ?_⟩, h2, fun a e' ha hne => (kup_off e hne).trans (h3 a e' ha hne), kup_at e, h5⟩
  by_cases hp : nw i = p
  · rw [hp, kup_at e]; exact fun z => by cases z
  · rw [kup_off e hp]; exact h1.2 i hi
theorem PP.fresh {M0 M1 : k_M} {p n q : Nat} {nw : Nat → Nat} {o : va_E} (h : PP M0 M1 p nw n o) (hq : M1 q = none) : M0 q = none ∧ q ≠ p := by
  obtain ⟨h0, h1, h2, h3, h4, h5⟩ := h
  have hne : q ≠ p := fun z => by rw [z, h4] at hq; cases hq
  refine ⟨?_, hne⟩
  cases hM : M0 q with
  | none => rfl
  | some e => rw [h3 q e hM hne] at hq; cases hq
theorem PP.add {M0 M1 M2 : k_M} {p n m : Nat} {nw st : Nat → Nat} {o : va_E} (h : PP M0 M1 p nw n o) (hq : ∀ k, k < m → M1 (st k) = none) (hi : ∀ i j, i < m → j < m → st i = st j → i = j) (hs : ∀ k, k < m → M2 (st k) ≠ none) (hm : ∀ a e, M1 a = some e → M2 a = some e) : PP M0 M2 p (fun k => if k < n then nw k else st (k - n)) (n + m) o := by
  have hx := h
  obtain ⟨h0, h1, h2, h3, h4, h5⟩ := h
  refine ⟨by show (if 0 < n then nw 0 else _) = p; rw [if_pos (by omega)]; exact h0, ⟨fun i j hi' hj e => ?_, fun i hi' => ?_⟩, fun k k1 k2 => ?_, fun a e ha hne => hm a e (h3 a e ha hne), hm _ _ h4, by omega⟩
  · dsimp only at e
    by_cases a : i < n
    · by_cases b : j < n
      · rw [if_pos a, if_pos b] at e; exact h1.1 i j a b e
      · rw [if_pos a, if_neg b] at e
        exact absurd (hq (j - n) (by omega)) (by rw [← e]; exact h1.2 i a)
    · by_cases b : j < n
      · rw [if_neg a, if_pos b] at e
        exact absurd (hq (i - n) (by omega)) (by rw [e]; exact h1.2 j b)
      · rw [if_neg a, if_neg b] at e
        have := hi (i - n) (j - n) (by omega) (by omega) e
        omega
  · dsimp only
    by_cases a : i < n
    · rw [if_pos a]
      cases hM : M1 (nw i) with
      | none => exact absurd hM (h1.2 i a)
      | some e => rw [hm _ _ hM]; exact fun z => by cases z
    · rw [if_neg a]; exact hs _ (by omega)
  · dsimp only
    by_cases a : k < n
    · rw [if_pos a]; exact h2 k k1 a
    · rw [if_neg a]; exact (hx.fresh (hq _ (by omega))).1
theorem cSt.adr {G : k_G} {M : k_M} {ad ad' : Nat → Nat} {S : kS} (h : cSt G M ad S) (en : ∀ k, k < 38 → ad' k = ad k) : cSt G M ad' S := by
  obtain ⟨h0, h1, h2, h3, h4, h5, h6, h7⟩ := h
  refine ⟨?_, ?_, ?_, ?_, ?_, ?_, ?_, ?_⟩
  · rw [en 0 (by omega), en 1 (by omega), en 2 (by omega), en 3 (by omega), en 4 (by omega), en 5 (by omega)]; exact h0
  · rw [en 1 (by omega)]; exact h1
  · obtain ⟨r, a, b⟩ := h2
    refine ⟨r, by rw [en 2 (by omega)]; exact a, fun i hi => ?_⟩
    rw [en _ (by omega)]; exact b i hi
  · obtain ⟨r, a, b⟩ := h3
    refine ⟨r, by rw [en 3 (by omega)]; exact a, fun i hi => ?_⟩
    rw [en _ (by omega)]; exact b i hi
  · rw [en 4 (by omega)]; exact h4
  · rw [en 5 (by omega)]; exact h5
  · intro i hi
    rw [en _ (by omega), en _ (by omega)]; exact h6 i hi
  · intro i hi
    rw [en _ (by omega), en _ (by omega)]; exact h7 i hi
abbrev cObj (nw : Nat → Nat) : List Value := [.ref (nw 1), .ref (nw 39), .int 0, .ref (nw 40), .ref (nw 41), .ref (nw 42), .ref (nw 46), .ref (nw 48)]
/-- the twelve cells beside the states -/
def cB (G : k_G) (M1 : k_M) (nw : Nat → Nat) : Prop :=
  M1 (nw 41) = some (kZ G 2 (fun _ => 0)) ∧ M1 (nw 42) = some (kO 1 [.ref (nw 43), .ref (nw 44), .int 0, .int 0, .int 0, .int 0, .int 0]) ∧ M1 (nw 43) = some (kC G 64 (fun _ => 0)) ∧ M1 (nw 44) = some (kO 2 [.ref (nw 45), .long 0, .long 0]) ∧ M1 (nw 45) = some (kI G 16 (fun _ => 0)) ∧
  M1 (nw 46) = some (kO 2 [.ref (nw 47), .long 0, .long 0]) ∧ M1 (nw 47) = some (kI G 16 (fun _ => 0)) ∧ M1 (nw 48) = some (kO 0 [.ref (nw 49), .int 0, .int 0, .int 0]) ∧ M1 (nw 49) = some (kY G 16 (fun _ => 0))
def cI2 (G : k_G) (M M1 : k_M) (p : Nat) (nw : Nat → Nat) (n : Nat) : Prop :=
  PP M M1 p nw (50 + 38 * n) (kO 4 (cObj nw)) ∧ (∃ r, M1 (nw 39) = some (kO2 G 6 r) ∧ ∀ j, j < 6 → j < n → r j = some (nw (50 + 38 * j))) ∧ (∃ r, M1 (nw 40) = some (kO2 G 2 r) ∧ ∀ j, j < 2 → 6 + j < n → r j = some (nw (50 + 38 * (6 + j)))) ∧ cB G M1 nw ∧ cSt G M1 (fun k => nw (1 + k)) kS0 ∧ ∀ j, j < n → cSt G M1 (fun k => nw (50 + 38 * j + k)) kS0
section IN2
variable {G : k_G} {M : k_M} {p : Nat}
theorem cSt.keepS {M1 M2 : k_M} {ad : Nat → Nat} {S : kS} (h : cSt G M1 ad S) (hk : ∀ k, k < 38 → ∀ e, M1 (ad k) = Option.some e → M2 (ad k) = Option.some e) : cSt G M2 ad S := h.kept (fun k hk' => by
  obtain ⟨e, he⟩ := h.some k hk'
  rw [he]; exact hk k hk' e he)

theorem cI2.step39 {M1 M2 M3 M4 : k_M} {nw st : Nat → Nat} {n q1 : Nat} {r : Nat → Option Nat} (h : cI2 G M M1 p nw n) (hn : n < 6) (hq1 : M1 q1 = none) (e2 : M2 = va_up M1 q1 (some (kO 3 [.null, .null, .null, .null, .int 0, .null, .int 0]))) (s0 : st 0 = q1) (si : kInj st) (sf : ∀ k, 1 ≤ k → k < 38 → M2 (st k) = none) (f3 : ∀ a e, M2 a = some e → a ≠ q1 → M3 a = some e) (sS : cSt G M3 st kS0)
    (hr : M1 (nw 39) = some (kO2 G 6 r)) (e4 : M4 = va_up M3 (nw 39) (some (kO2 G 6 (va_up r (n) (some q1))))) : cI2 G M M4 p (fun k => if k < 50 + 38 * n then nw k else st (k - (50 + 38 * n))) (n + 1) := by
  obtain ⟨hP, ⟨r2, h2, r2'⟩, ⟨r3, h3, r3'⟩, hB, h5, h6⟩ := h
  have er : r = r2 := by
    rw [h2] at hr
    injection hr with hr
    injection hr with hr
    injection hr with _ hr
    injection hr with _ hr
    injection hr with hr
    injection hr with hr
    injection hr with hr
    injection hr with hr
    exact hr.symm
  subst er
  have hfr : ∀ k, k < 38 → M1 (st k) = none := fun k hk => by
    rcases Nat.eq_zero_or_pos k with z | z
    · rw [z, s0]; exact hq1
    · have h2' := sf k z hk
      have hne : st k ≠ q1 := fun y => by rw [y, kup_at e2] at h2'; cases h2'
      rw [kup_off e2 hne] at h2'; exact h2'
  have m13 : ∀ a e, M1 a = some e → M3 a = some e := fun a e ha => by
    have hne : a ≠ q1 := fun z => by rw [z, hq1] at ha; cases ha
    exact f3 a e ((kup_off e2 hne).trans ha) hne
  have hio := hP.2.1
  have nx : ∀ k, k < 38 → st k ≠ nw 39 := fun k hk z => hio.2 39 (by omega) (by rw [← z]; exact hfr k hk)
  have s4 : ∀ k, k < 38 → M4 (st k) = M3 (st k) := fun k hk => kup_off e4 (nx k hk)
  have c4 : ∀ k, k < 50 + 38 * n → k ≠ 39 → ∀ e, M1 (nw k) = some e → M4 (nw k) = some e := fun k hk hkx e he => (kup_off e4 (hio.ne hk (by omega) hkx)).trans (m13 _ _ he)
  have k0 : ∀ k, k < 50 + 38 * n → (fun k => if k < 50 + 38 * n then nw k else st (k - (50 + 38 * n))) k = nw k := fun k hk => if_pos hk
  have eN : ∀ k, (fun k => if k < 50 + 38 * n then nw k else st (k - (50 + 38 * n))) (50 + 38 * n + k) = st k := fun k => by
    dsimp only
    rw [if_neg (by omega), Nat.add_sub_cancel_left]
  have hP3 := hP.add (M2 := M3) (m := 38) hfr (fun i j hi hj e => si i j hi hj e) (fun k hk => by obtain ⟨e, he⟩ := sS.some k hk; rw [he]; exact fun z => by cases z) m13
  generalize hnw : (fun k => if k < 50 + 38 * n then nw k else st (k - (50 + 38 * n))) = nw' at *
  obtain ⟨p0, p1, p2, p3, p4, p5⟩ := hP3
  have epx : nw 39 ≠ p := fun z => by
    have := hio.1 39 0 (by omega) (by omega) (by rw [z]; exact hP.1.symm)
    omega
  have hP4 : PP M M4 p nw' (50 + 38 * (n + 1)) (kO 4 (cObj nw')) := by
    refine ⟨p0, ?_, ?_, fun a e ha hne => ?_, ?_, by omega⟩
    · rw [show 50 + 38 * (n + 1) = 50 + 38 * n + 38 by omega]
      refine ⟨p1.1, fun i hi => ?_⟩
      by_cases hix : nw' i = nw 39
      · rw [hix, kup_at e4]; exact fun z => by cases z
      · rw [kup_off e4 hix]; exact p1.2 i hi
    · rw [show 50 + 38 * (n + 1) = 50 + 38 * n + 38 by omega]; exact p2
    · have hax : a ≠ nw 39 := fun z => by
        have := hP.2.2.1 39 (by omega) (by omega)
        rw [← z, ha] at this; cases this
      rw [kup_off e4 hax]; exact p3 a e ha hne
    · rw [kup_off e4 (Ne.symm epx), p4]
      show _ = some (kO 4 [.ref (nw' 1), .ref (nw' 39), .int 0, .ref (nw' 40), .ref (nw' 41), .ref (nw' 42), .ref (nw' 46), .ref (nw' 48)])
      rw [k0 1 (by omega), k0 39 (by omega), k0 40 (by omega), k0 41 (by omega), k0 42 (by omega), k0 46 (by omega), k0 48 (by omega)]
  refine ⟨hP4, ⟨va_up r n (some q1), ?_, fun j hj hjn => ?_⟩, ⟨r3, ?_, fun j hj hjn => ?_⟩, ?_, ?_, fun j hj => ?_⟩
  · rw [k0 39 (by omega)]; exact (kup_at e4)
  ·
      by_cases hjn : j = n
      · subst hjn; rw [vup_s]; exact congrArg some ((eN 0).trans s0).symm
      · rw [vup_n hjn, k0 _ (by omega)]; exact r2' j hj (by omega)
  · rw [k0 40 (by omega)]; exact (c4 40 (by omega) (by omega) _ h3)
  ·
      rw [k0 _ (by omega)]; exact r3' j hj (by omega)
  · obtain ⟨b1, b2, b3, b4, b5, b6, b7, b8, b9⟩ := hB
    unfold cB
    rw [k0 41 (by omega), k0 42 (by omega), k0 43 (by omega), k0 44 (by omega), k0 45 (by omega), k0 46 (by omega), k0 47 (by omega), k0 48 (by omega), k0 49 (by omega)]
    exact ⟨c4 41 (by omega) (by omega) _ b1, c4 42 (by omega) (by omega) _ b2, c4 43 (by omega) (by omega) _ b3, c4 44 (by omega) (by omega) _ b4, c4 45 (by omega) (by omega) _ b5, c4 46 (by omega) (by omega) _ b6, c4 47 (by omega) (by omega) _ b7, c4 48 (by omega) (by omega) _ b8, c4 49 (by omega) (by omega) _ b9⟩
  · exact (h5.keepS (fun k hk e he => c4 _ (by omega) (by omega) e he)).adr (fun k hk => k0 _ (by omega))
  · by_cases hjn : j = n
    · subst hjn
      exact (sS.kept s4).adr (fun k hk => eN k)
    · exact ((h6 j (by omega)).keepS (fun k hk e he => c4 _ (by omega) (by omega) e he)).adr (fun k hk => k0 _ (by omega))

theorem cI2.step40 {M1 M2 M3 M4 : k_M} {nw st : Nat → Nat} {n q1 : Nat} {r : Nat → Option Nat} (h : cI2 G M M1 p nw n) (hn : 6 ≤ n ∧ n < 8) (hq1 : M1 q1 = none) (e2 : M2 = va_up M1 q1 (some (kO 3 [.null, .null, .null, .null, .int 0, .null, .int 0]))) (s0 : st 0 = q1) (si : kInj st) (sf : ∀ k, 1 ≤ k → k < 38 → M2 (st k) = none) (f3 : ∀ a e, M2 a = some e → a ≠ q1 → M3 a = some e) (sS : cSt G M3 st kS0)
    (hr : M1 (nw 40) = some (kO2 G 2 r)) (e4 : M4 = va_up M3 (nw 40) (some (kO2 G 2 (va_up r (n - 6) (some q1))))) : cI2 G M M4 p (fun k => if k < 50 + 38 * n then nw k else st (k - (50 + 38 * n))) (n + 1) := by
  obtain ⟨hP, ⟨r2, h2, r2'⟩, ⟨r3, h3, r3'⟩, hB, h5, h6⟩ := h
  have er : r = r3 := by
    rw [h3] at hr
    injection hr with hr
    injection hr with hr
    injection hr with _ hr
    injection hr with _ hr
    injection hr with hr
    injection hr with hr
    injection hr with hr
    injection hr with hr
    exact hr.symm
  subst er
  have hfr : ∀ k, k < 38 → M1 (st k) = none := fun k hk => by
    rcases Nat.eq_zero_or_pos k with z | z
    · rw [z, s0]; exact hq1
    · have h2' := sf k z hk
      have hne : st k ≠ q1 := fun y => by rw [y, kup_at e2] at h2'; cases h2'
      rw [kup_off e2 hne] at h2'; exact h2'
  have m13 : ∀ a e, M1 a = some e → M3 a = some e := fun a e ha => by
    have hne : a ≠ q1 := fun z => by rw [z, hq1] at ha; cases ha
    exact f3 a e ((kup_off e2 hne).trans ha) hne
  have hio := hP.2.1
  have nx : ∀ k, k < 38 → st k ≠ nw 40 := fun k hk z => hio.2 40 (by omega) (by rw [← z]; exact hfr k hk)
  have s4 : ∀ k, k < 38 → M4 (st k) = M3 (st k) := fun k hk => kup_off e4 (nx k hk)
  have c4 : ∀ k, k < 50 + 38 * n → k ≠ 40 → ∀ e, M1 (nw k) = some e → M4 (nw k) = some e := fun k hk hkx e he => (kup_off e4 (hio.ne hk (by omega) hkx)).trans (m13 _ _ he)
  have k0 : ∀ k, k < 50 + 38 * n → (fun k => if k < 50 + 38 * n then nw k else st (k - (50 + 38 * n))) k = nw k := fun k hk => if_pos hk
  have eN : ∀ k, (fun k => if k < 50 + 38 * n then nw k else st (k - (50 + 38 * n))) (50 + 38 * n + k) = st k := fun k => by
    dsimp only
    rw [if_neg (by omega), Nat.add_sub_cancel_left]
  have hP3 := hP.add (M2 := M3) (m := 38) hfr (fun i j hi hj e => si i j hi hj e) (fun k hk => by obtain ⟨e, he⟩ := sS.some k hk; rw [he]; exact fun z => by cases z) m13
  generalize hnw : (fun k => if k < 50 + 38 * n then nw k else st (k - (50 + 38 * n))) = nw' at *
  obtain ⟨p0, p1, p2, p3, p4, p5⟩ := hP3
  have epx : nw 40 ≠ p := fun z => by
    have := hio.1 40 0 (by omega) (by omega) (by rw [z]; exact hP.1.symm)
    omega
  have hP4 : PP M M4 p nw' (50 + 38 * (n + 1)) (kO 4 (cObj nw')) := by
    refine ⟨p0, ?_, ?_, fun a e ha hne => ?_, ?_, by omega⟩
    · rw [show 50 + 38 * (n + 1) = 50 + 38 * n + 38 by omega]
      refine ⟨p1.1, fun i hi => ?_⟩
      by_cases hix : nw' i = nw 40
      · rw [hix, kup_at e4]; exact fun z => by cases z
      · rw [kup_off e4 hix]; exact p1.2 i hi
    · rw [show 50 + 38 * (n + 1) = 50 + 38 * n + 38 by omega]; exact p2
    · have hax : a ≠ nw 40 := fun z => by
        have := hP.2.2.1 40 (by omega) (by omega)
        rw [← z, ha] at this; cases this
      rw [kup_off e4 hax]; exact p3 a e ha hne
    · rw [kup_off e4 (Ne.symm epx), p4]
      show _ = some (kO 4 [.ref (nw' 1), .ref (nw' 39), .int 0, .ref (nw' 40), .ref (nw' 41), .ref (nw' 42), .ref (nw' 46), .ref (nw' 48)])
      rw [k0 1 (by omega), k0 39 (by omega), k0 40 (by omega), k0 41 (by omega), k0 42 (by omega), k0 46 (by omega), k0 48 (by omega)]
  refine ⟨hP4, ⟨r2, ?_, fun j hj hjn => ?_⟩, ⟨va_up r (n - 6) (some q1), ?_, fun j hj hjn => ?_⟩, ?_, ?_, fun j hj => ?_⟩
  · rw [k0 39 (by omega)]; exact (c4 39 (by omega) (by omega) _ h2)
  ·
      rw [k0 _ (by omega)]; exact r2' j hj (by omega)
  · rw [k0 40 (by omega)]; exact (kup_at e4)
  ·
      by_cases hjn : j = n - 6
      · subst hjn
        rw [vup_s, show 50 + 38 * (6 + (n - 6)) = 50 + 38 * n + 0 by omega]; exact congrArg some ((eN 0).trans s0).symm
      · rw [vup_n hjn, k0 _ (by omega)]; exact r3' j hj (by omega)
  · obtain ⟨b1, b2, b3, b4, b5, b6, b7, b8, b9⟩ := hB
    unfold cB
    rw [k0 41 (by omega), k0 42 (by omega), k0 43 (by omega), k0 44 (by omega), k0 45 (by omega), k0 46 (by omega), k0 47 (by omega), k0 48 (by omega), k0 49 (by omega)]
    exact ⟨c4 41 (by omega) (by omega) _ b1, c4 42 (by omega) (by omega) _ b2, c4 43 (by omega) (by omega) _ b3, c4 44 (by omega) (by omega) _ b4, c4 45 (by omega) (by omega) _ b5, c4 46 (by omega) (by omega) _ b6, c4 47 (by omega) (by omega) _ b7, c4 48 (by omega) (by omega) _ b8, c4 49 (by omega) (by omega) _ b9⟩
  · exact (h5.keepS (fun k hk e he => c4 _ (by omega) (by omega) e he)).adr (fun k hk => k0 _ (by omega))
  · by_cases hjn : j = n
    · subst hjn
      exact (sS.kept s4).adr (fun k hk => eN k)
    · exact ((h6 j (by omega)).keepS (fun k hk e he => c4 _ (by omega) (by omega) e he)).adr (fun k hk => k0 _ (by omega))

def kF0 : kF := ((upd (fun _ => 0) 0 65535, fun _ => kV0, fun _ => kV0, fun _ => 0, 0, fun _ => 0, 0), fun _ => kS0, 0, fun _ => kS0, fun _ => false, fun _ => 0, 0)
def prm (k : Nat) : Nat := if k < 38 then k + 1 else if k < 342 then k + 12 else if k = 342 then 0 else k - 304
theorem prm_inj {i j : Nat} (hi : i < 354) (hj : j < 354) (e : prm i = prm j) : i = j := by
  unfold prm at e
  split at e <;> split at e <;> (try split at e) <;> (try split at e) <;> (try split at e) <;> (try split at e) <;> omega
theorem prm_lt {i : Nat} (hi : i < 354) : prm i < 354 := by
  unfold prm
  split
  · omega
  · split
    · omega
    · split <;> omega
theorem prm_st {j k : Nat} (h1 : 1 ≤ j) (h9 : j < 9) (hk : k < 38) : prm (38 * j + k) = 50 + 38 * (j - 1) + k := by
  unfold prm
  rw [if_neg (by omega), if_pos (by omega)]
  omega
set_option maxRecDepth 100000 in
theorem s_X3_init {post : k_M → Prop} {mc ms : Nat} (hmc : 353 ≤ mc) (hms : 4306 ≤ ms) (hM : M p = some (kO 4 [.null, .null, .int 0, .null, .null, .null, .null, .null]))
    (hp : ∀ (M1 : k_M) (ad hi : Nat → Nat), ad 342 = p → gInj ad → hOk hi → (∀ k, k < 354 → k ≠ 342 → M (ad k) = none) → (∀ a e, M a = some e → a ≠ p → M1 a = some e) → cF G M1 ad hi 16 kF0 → post M1) : wp_X3_init G mc ms post p M := by
  have fin : ∀ (M1 : k_M) (nw : Nat → Nat) (kc ks : Nat), kc ≤ mc → ks ≤ ms → cI2 G M M1 p nw 8 → (∃ fs99 v100, M1 p = some (kO 4 fs99) ∧ fs99[0]? = some (.ref v100) ∧
        (∃ fs103 v104, M1 v100 = some (kO 3 fs103) ∧ fs103[0]? = some (.ref v104) ∧
        (∃ n107 f108, M1 v104 = some (kI G n107 f108) ∧ vp_in (0 : Int32) n107 ∧ ∀ M109 : k_M, M109 = va_up M1 v104 (some (kI G n107 (upd f108 ((0 : Int32)).toNatClampNeg (65535 : Int32)))) →
        kc ≤ mc ∧ ks ≤ ms ∧ post M109))) := by
    intro M1 nw kc ks h1 h2 h
    obtain ⟨⟨p0, p1, p2, p3, p4, p5⟩, ⟨r2, g2, r2'⟩, ⟨r3, g3, r3'⟩, ⟨b1, b2, b3, b4, b5, b6, b7, b8, b9⟩, g5, g6⟩ := h
    have g50 := g5.1
    obtain ⟨f1, g51, g51'⟩ := g5.2.1
    refine ⟨_, _, p4, rfl, _, _, g50, rfl, _, _, g51, kvin (j := 0) (n := 8) (by omega) (by omega), fun M2 e2 => ⟨h1, h2, ?_⟩⟩
    have e0 : ((0 : Int32)).toNatClampNeg = 0 := rfl
    rw [e0] at e2
    have c2 : ∀ k, k < 354 → k ≠ 2 → M2 (nw k) = M1 (nw k) := fun k hk hk2 => kup_off e2 (p1.ne hk (by omega) hk2)
    have kS : ∀ (ad : Nat → Nat) (S : kS) (i : Nat → Nat), cSt G M1 ad S → (∀ k, k < 38 → ad k = nw (i k) ∧ i k < 354 ∧ i k ≠ 2) → cSt G M2 ad S := fun ad S i hS hk => hS.kept (fun k hk' => by
      obtain ⟨a, b, c⟩ := hk k hk'
      rw [a]; exact c2 _ b c)
    refine hp M2 (fun k => nw (prm k)) (fun i => i + 1) (by exact p0) (fun i j hi hj e => prm_inj hi hj (p1.1 _ _ (prm_lt hi) (prm_lt hj) e)) ⟨fun i hi => ⟨show 1 ≤ i + 1 by omega, show i + 1 ≤ 6 by omega⟩, fun i j _ _ e => by have e' : i + 1 = j + 1 := e; omega⟩ (fun k hk hne => p2 _ ?_ (prm_lt hk)) (fun a e ha hne => ?_) ?_
    · unfold prm
      split
      · omega
      · split
        · omega
        · omega
    · rw [kup_off e2 ?_]
      · exact p3 a e ha hne
      · intro z
        have := p2 2 (by omega) (by omega)
        have z' : a = nw 2 := z
        rw [← z', ha] at this; cases this
    · refine ⟨?_, ⟨r2, ?_, fun i hi => ?_⟩, ⟨r3, ?_, fun i hi => ?_⟩, ⟨_, (c2 41 (by omega) (by omega)).trans b1, fun _ _ => rfl⟩, ⟨⟨0, 0, 0, 0, (c2 42 (by omega) (by omega)).trans b2⟩, ⟨_, (c2 43 (by omega) (by omega)).trans b3, fun i hi => absurd hi (Nat.not_lt_zero i)⟩, ⟨0, 0, (c2 44 (by omega) (by omega)).trans b4⟩, _, (c2 45 (by omega) (by omega)).trans b5⟩, ⟨0, 0, _, (c2 46 (by omega) (by omega)).trans b6, (c2 47 (by omega) (by omega)).trans b7⟩, ⟨0, 0, _, (c2 48 (by omega) (by omega)).trans b8, (c2 49 (by omega) (by omega)).trans b9, sb_fit0, by omega⟩, ?_, fun i hi => ?_, fun i hi => ?_⟩
      · show M2 (nw 0) = _
        rw [c2 0 (by omega) (by omega), p0]; exact p4
      · exact (c2 39 (by omega) (by omega)).trans g2
      · rw [r2' i hi (by omega)]
        have := prm_st (j := i + 1) (k := 0) (by omega) (by omega) (by omega)
        show _ = some (nw (prm (38 * (i + 1))))
        rw [show 38 * (i + 1) = 38 * (i + 1) + 0 from rfl, this]
        congr 2
      · exact (c2 40 (by omega) (by omega)).trans g3
      · rw [r3' i hi (by omega)]
        have := prm_st (j := 7 + i) (k := 0) (by omega) (by omega) (by omega)
        show _ = some (nw (prm (38 * (7 + i))))
        rw [show 38 * (7 + i) = 38 * (7 + i) + 0 from rfl, this]
        congr 2
        omega
      · have ea : ∀ k, k < 38 → stA (fun k => nw (prm k)) 0 k = nw (1 + k) := fun k hk => by
          show nw (prm (38 * 0 + k)) = nw (1 + k)
          congr 1
          unfold prm
          rw [if_pos (by omega)]; omega
        refine cSt.adr (ad := fun k => nw (1 + k)) ?_ ea
        obtain ⟨q0, q1, ⟨r, q2, q2'⟩, ⟨r', q3, q3'⟩, q4, q5, q6, q7⟩ := g5
        refine ⟨(c2 _ (by omega) (by omega)).trans q0, ⟨_, kup_at e2, fun i hi => ?_⟩, ⟨r, (c2 _ (by omega) (by omega)).trans q2, q2'⟩, ⟨r', (c2 _ (by omega) (by omega)).trans q3, q3'⟩, q4.kept (c2 _ (by omega) (by omega)), q5.kept (c2 _ (by omega) (by omega)), fun i hi => (q6 i hi).kept (c2 _ (by omega) (by omega)) (c2 _ (by omega) (by omega)), fun i hi => (q7 i hi).kept (c2 _ (by omega) (by omega)) (c2 _ (by omega) (by omega))⟩
        show upd f1 0 65535 i = upd (fun _ => 0) 0 65535 i
        by_cases hi0 : i = 0
        · rw [hi0, upd_s, upd_s]
        · rw [upd_n hi0, upd_n hi0]; exact g51' i hi
      · exact (kS _ _ (fun k => 50 + 38 * i + k) (g6 i (by omega)) (fun k hk => ⟨rfl, by omega, by omega⟩)).adr (fun k hk => by
          show nw (prm (38 * (i + 1) + k)) = nw (50 + 38 * i + k)
          rw [prm_st (by omega) (by omega) hk]
          congr 1)
      · exact (kS _ _ (fun k => 50 + 38 * (6 + i) + k) (g6 (6 + i) (by omega)) (fun k hk => ⟨rfl, by omega, by omega⟩)).adr (fun k hk => by
          show nw (prm (38 * (7 + i) + k)) = nw (50 + 38 * (6 + i) + k)
          rw [prm_st (by omega) (by omega) hk]
          congr 1
          omega)
  have key2 : ∀ (j i : Nat), i + j = 2 → ∀ (M1 : k_M) (nw : Nat → Nat) (kc ks : Nat), kc + 38 * j ≤ mc → ks + 463 * j ≤ ms → cI2 G M M1 p nw (6 + i) → wp_X3_init_L101 G mc ms post (j + 1) p (nI i) kc ks M1 := by
    intro j
    induction j with
    | zero =>
      intro i hi M1 nw kc ks hkc hks h
      have : i = 2 := by omega
      subst this
      rw [wp_X3_init_L101]
      exact ⟨fun _ => fin M1 nw kc ks (by omega) (by omega) h, fun z => absurd (by decide) z⟩
    | succ j ih =>
      intro i hi M1 nw kc ks hkc hks h
      rw [wp_X3_init_L101]
      have hx := h
      obtain ⟨hP, ⟨r2, g2, r2'⟩, ⟨r3, g3, r3'⟩, -, -, -⟩ := hx
      refine ⟨fun z => absurd z (kge (N := 2) (by omega) (by decide)), fun _ => ⟨_, _, hP.2.2.2.2.1, rfl, by omega, by omega, fun q1 M2 hq1 e2 => ⟨37, 456, by omega, by omega, s_X2_init (by omega) (by omega) (kup_at e2) (fun M3 st s0 si sf f3 sS => ?_)⟩⟩⟩
      have nq : nw 40 ≠ q1 := hP.2.1.new hq1 (by omega)
      have m3 := f3 _ _ ((kup_off e2 nq).trans g3) nq
      obtain ⟨fsq, sq⟩ : ∃ fs, M3 q1 = some (kO 3 fs) := ⟨_, by rw [← s0]; exact sS.1⟩
      refine ⟨_, _, _, m3, sq, kvin (show i < 2 by omega) (by omega), fun M4 e4 => ?_⟩
      rw [kcl (by omega)] at e4
      rw [kns]
      have hs := h.step40 (M4 := M4) (by omega) hq1 e2 s0 si sf f3 sS g3 (by rw [Nat.add_sub_cancel_left]; exact e4)
      exact ih (i + 1) (by omega) M4 _ _ _ (by omega) (by omega) hs
  have key1 : ∀ (j i : Nat), i + j = 6 → ∀ (M1 : k_M) (nw : Nat → Nat) (kc ks : Nat), kc + 38 * j + 76 ≤ mc → ks + 463 * j + 926 ≤ ms → cI2 G M M1 p nw i → wp_X3_init_L74 G mc ms post (j + 1) p (nI i) kc ks M1 := by
    intro j
    induction j with
    | zero =>
      intro i hi M1 nw kc ks hkc hks h
      have : i = 6 := by omega
      subst this
      rw [wp_X3_init_L74]
      exact ⟨fun _ => ⟨3, key2 2 0 (by omega) M1 nw kc ks (by omega) (by omega) h⟩, fun z => absurd (by decide) z⟩
    | succ j ih =>
      intro i hi M1 nw kc ks hkc hks h
      rw [wp_X3_init_L74]
      have hx := h
      obtain ⟨hP, ⟨r2, g2, r2'⟩, ⟨r3, g3, r3'⟩, -, -, -⟩ := hx
      refine ⟨fun z => absurd z (kge (N := 6) (by omega) (by decide)), fun _ => ⟨_, _, hP.2.2.2.2.1, rfl, by omega, by omega, fun q1 M2 hq1 e2 => ⟨37, 456, by omega, by omega, s_X2_init (by omega) (by omega) (kup_at e2) (fun M3 st s0 si sf f3 sS => ?_)⟩⟩⟩
      have nq : nw 39 ≠ q1 := hP.2.1.new hq1 (by omega)
      have m3 := f3 _ _ ((kup_off e2 nq).trans g2) nq
      obtain ⟨fsq, sq⟩ : ∃ fs, M3 q1 = some (kO 3 fs) := ⟨_, by rw [← s0]; exact sS.1⟩
      refine ⟨_, _, _, m3, sq, kvin (show i < 6 by omega) (by omega), fun M4 e4 => ?_⟩
      rw [kcl (by omega)] at e4
      rw [kns]
      have hs := h.step39 (M4 := M4) (by omega) hq1 e2 s0 si sf f3 sS g2 e4
      exact ih (i + 1) (by omega) M4 _ _ _ (by omega) (by omega) hs
  have hP0 : PP M M p (fun _ => p) 1 (kO 4 [.null, .null, .int 0, .null, .null, .null, .null, .null]) := ⟨rfl, ⟨fun i j hi hj _ => by omega, fun i _ => by rw [hM]; exact fun z => by cases z⟩, fun k h1 h2 => by omega, fun a e ha _ => ha, hM, by omega⟩
  unfold wp_X3_init
  -- now
  refine ⟨by omega, by omega, fun q1 M2 hq1 e2 => ⟨37, 456, by omega, by omega, s_X2_init (by omega) (by omega) (kup_at e2) (fun M8 st s0 si sf f8 sS => ?_)⟩⟩
  have m8 : ∀ a e, M a = some e → M8 a = some e := fun a e ha => by
    have hne : a ≠ q1 := fun z => by rw [z, hq1] at ha; cases ha
    exact f8 a e ((kup_off e2 hne).trans ha) hne
  have hfr : ∀ k, k < 38 → M (st k) = none := fun k hk => by
    rcases Nat.eq_zero_or_pos k with z | z
    · rw [z, s0]; exact hq1
    · have h2' := sf k z hk
      have hne : st k ≠ q1 := fun y => by rw [y, kup_at e2] at h2'; cases h2'
      rw [kup_off e2 hne] at h2'; exact h2'
  have hP8 := hP0.add (M2 := M8) (m := 38) hfr (fun i j hi hj e => si i j hi hj e) (fun k hk => by obtain ⟨e, he⟩ := sS.some k hk; rw [he]; exact fun z => by cases z) m8
  refine ⟨_, hP8.2.2.2.2.1, by simp, fun M13 e13 => ?_⟩
  have hP13 := hP8.put e13
  have go : ∀ (M1 : k_M) (nw : Nat → Nat) (n : Nat) (o : va_E) (q : Nat) (M' : k_M) (c : va_E), PP M M1 p nw n o → M1 q = none → M' = va_up M1 q (some c) → PP M M' p (fun k => if k < n then nw k else (fun _ => q) (k - n)) (n + 1) o ∧ ∀ a e, M1 a = some e → M' a = some e := by
    intro M1 nw n o q M' c h hq e
    have hm : ∀ a e', M1 a = some e' → M' a = some e' := fun a e' ha => by
      have hne : a ≠ q := fun z => by rw [z, hq] at ha; cases ha
      rw [kup_off e hne]; exact ha
    exact ⟨h.add (m := 1) (fun k _ => hq) (fun i j hi hj _ => by omega) (fun k _ => by rw [kup_at e]; exact fun z => by cases z) hm, hm⟩
  have pm : ∀ {M1 M' : k_M} {v : va_E} {a : Nat} {e : va_E}, M' = va_up M1 p (some v) → M1 a = some e → a ≠ p → M' a = some e := fun e h hne => by rw [kup_off e hne]; exact h
  have stp : ∀ k, k < 38 → st k ≠ p := fun k hk z => by have := hfr k hk; rw [z, hM] at this; cases this
  have S13 : cSt G M13 st kS0 := sS.keepS (fun k hk e he => pm e13 he (stp k hk))
  -- history
  refine ⟨6, by decide, by decide, by decide, by omega, by omega, fun qa Ma ha ea => ?_⟩
  obtain ⟨hPa, ma⟩ := go _ _ _ _ qa Ma _ hP13 ha ea
  have pa := (hP13.fresh ha).2
  refine ⟨_, hPa.2.2.2.2.1, by simp, fun Ma' ea' => ?_⟩
  have hPa' := hPa.put ea'
  have xa := pm ea' (kup_at ea) pa
  have Sa : cSt G Ma' st kS0 := S13.keepS (fun k hk e he => pm ea' (ma _ _ he) (stp k hk))
  -- slots
  refine ⟨2, by decide, by decide, by decide, by omega, by omega, fun qb Mb hb eb => ?_⟩
  obtain ⟨hPb, mb⟩ := go _ _ _ _ qb Mb _ hPa' hb eb
  have pb := (hPa'.fresh hb).2
  refine ⟨_, hPb.2.2.2.2.1, by simp, fun Mb' eb' => ?_⟩
  have hPb' := hPb.put eb'
  have xb := pm eb' (kup_at eb) pb
  have xa := pm eb' (mb _ _ xa) pa
  have Sb : cSt G Mb' st kS0 := Sa.keepS (fun k hk e he => pm eb' (mb _ _ he) (stp k hk))
  -- saved
  refine ⟨2, by decide, by decide, by decide, by omega, by omega, fun qc Mc hc ec => ?_⟩
  obtain ⟨hPc, mc_⟩ := go _ _ _ _ qc Mc _ hPb' hc ec
  have pc := (hPb'.fresh hc).2
  refine ⟨_, hPc.2.2.2.2.1, by simp, fun Mc' ec' => ?_⟩
  have hPc' := hPc.put ec'
  have xc := pm ec' (kup_at ec) pc
  have xb := pm ec' (mc_ _ _ xb) pb
  have xa := pm ec' (mc_ _ _ xa) pa
  have Sc : cSt G Mc' st kS0 := Sb.keepS (fun k hk e he => pm ec' (mc_ _ _ he) (stp k hk))
  -- pad
  refine ⟨by omega, by omega, fun qd Md hd ed => ⟨3, 83, by omega, by omega, s_X0_init (by omega) (by omega) (kup_at ed) (fun Me a1 a2 a3 v1 v2 v3 n12 n13 n23 fe y0 y1 y2 y3 => ?_)⟩⟩
  have pd := (hPc'.fresh hd).2
  have und : ∀ x, Md x = none → x ≠ qd ∧ Mc' x = none := fun x hx => by
    have hne : x ≠ qd := fun z => by rw [z, kup_at ed] at hx; cases hx
    exact ⟨hne, by rw [kup_off ed hne] at hx; exact hx⟩
  have md : ∀ a e, Mc' a = some e → Me a = some e := fun a e ha => by
    have hne : a ≠ qd := fun z => by rw [z, hd] at ha; cases ha
    exact fe a e ((kup_off ed hne).trans ha) hne
  obtain ⟨w1, u1⟩ := und a1 v1
  obtain ⟨w2, u2⟩ := und a2 v2
  obtain ⟨w3, u3⟩ := und a3 v3
  have hPe := hPc'.add (M2 := Me) (m := 4) (st := fun k => if k = 0 then qd else if k = 1 then a1 else if k = 2 then a2 else a3) (fun k hk => by
      rcases (show k = 0 ∨ k = 1 ∨ k = 2 ∨ k = 3 by omega) with rfl | rfl | rfl | rfl
      · exact hd
      · exact u1
      · exact u2
      · exact u3) (fun i j hi hj e => by
      rcases (show i = 0 ∨ i = 1 ∨ i = 2 ∨ i = 3 by omega) with rfl | rfl | rfl | rfl <;> rcases (show j = 0 ∨ j = 1 ∨ j = 2 ∨ j = 3 by omega) with rfl | rfl | rfl | rfl <;> first | rfl | exact absurd e (by assumption) | exact absurd e.symm (by assumption)) (fun k hk => by
      rcases (show k = 0 ∨ k = 1 ∨ k = 2 ∨ k = 3 by omega) with rfl | rfl | rfl | rfl
      · exact k_nn y0
      · exact k_nn y1
      · exact k_nn y2
      · exact k_nn y3) md
  refine ⟨_, hPe.2.2.2.2.1, by simp, fun Me' ee' => ?_⟩
  have hPe' := hPe.put ee'
  have q1p := (hPc'.fresh u1).2
  have q2p := (hPc'.fresh u2).2
  have q3p := (hPc'.fresh u3).2
  have y0 := pm ee' y0 pd
  have y1 := pm ee' y1 q1p
  have y2 := pm ee' y2 q2p
  have y3 := pm ee' y3 q3p
  have xc := pm ee' (md _ _ xc) pc
  have xb := pm ee' (md _ _ xb) pb
  have xa := pm ee' (md _ _ xa) pa
  have Se : cSt G Me' st kS0 := Sc.keepS (fun k hk e he => pm ee' (md _ _ he) (stp k hk))
  -- trial
  refine ⟨by omega, by omega, fun qf Mf hf ef => ⟨1, 16, by omega, by omega, s_X1_init (fs := []) (by omega) (by omega) (kup_at ef) (fun Mg b1 vb1 fg z0 z1 => ?_)⟩⟩
  have pf := (hPe'.fresh hf).2
  have nfb : b1 ≠ qf := fun z => by rw [z, kup_at ef] at vb1; cases vb1
  have ub1 : Me' b1 = none := by rw [kup_off ef nfb] at vb1; exact vb1
  have mg : ∀ a e, Me' a = some e → Mg a = some e := fun a e ha => by
    have hne : a ≠ qf := fun z => by rw [z, hf] at ha; cases ha
    have hne2 : a ≠ b1 := fun z => by rw [z, ub1] at ha; cases ha
    rw [fg a hne2 hne, kup_off ef hne]; exact ha
  have hPg := hPe'.add (M2 := Mg) (m := 2) (st := fun k => if k = 0 then qf else b1) (fun k hk => by
      rcases (show k = 0 ∨ k = 1 by omega) with rfl | rfl
      · exact hf
      · exact ub1) (fun i j hi hj e => by
      rcases (show i = 0 ∨ i = 1 by omega) with rfl | rfl <;> rcases (show j = 0 ∨ j = 1 by omega) with rfl | rfl <;> first | rfl | exact absurd e (by assumption) | exact absurd e.symm (by assumption)) (fun k hk => by
      rcases (show k = 0 ∨ k = 1 by omega) with rfl | rfl
      · exact k_nn z0
      · exact k_nn z1) mg
  refine ⟨_, hPg.2.2.2.2.1, by simp, fun Mg' eg' => ?_⟩
  have hPg' := hPg.put eg'
  have b1p := (hPe'.fresh ub1).2
  have z0 := pm eg' z0 pf
  have z1 := pm eg' z1 b1p
  have y0 := pm eg' (mg _ _ y0) pd
  have y1 := pm eg' (mg _ _ y1) q1p
  have y2 := pm eg' (mg _ _ y2) q2p
  have y3 := pm eg' (mg _ _ y3) q3p
  have xc := pm eg' (mg _ _ xc) pc
  have xb := pm eg' (mg _ _ xb) pb
  have xa := pm eg' (mg _ _ xa) pa
  have Sg : cSt G Mg' st kS0 := Se.keepS (fun k hk e he => pm eg' (mg _ _ he) (stp k hk))
  -- text
  refine ⟨by omega, by omega, fun qh Mh hh eh => ⟨1, 16, by omega, by omega, s_J4_init (by omega) (by omega) (kup_at eh) (fun Mi c1 vc1 fi t0 t1 => ?_)⟩⟩
  have ph := (hPg'.fresh hh).2
  have nhc : c1 ≠ qh := fun z => by rw [z, kup_at eh] at vc1; cases vc1
  have uc1 : Mg' c1 = none := by rw [kup_off eh nhc] at vc1; exact vc1
  have mi : ∀ a e, Mg' a = some e → Mi a = some e := fun a e ha => by
    have hne : a ≠ qh := fun z => by rw [z, hh] at ha; cases ha
    have hne2 : a ≠ c1 := fun z => by rw [z, uc1] at ha; cases ha
    rw [fi a hne hne2, kup_off eh hne]; exact ha
  have hPi := hPg'.add (M2 := Mi) (m := 2) (st := fun k => if k = 0 then qh else c1) (fun k hk => by
      rcases (show k = 0 ∨ k = 1 by omega) with rfl | rfl
      · exact hh
      · exact uc1) (fun i j hi hj e => by
      rcases (show i = 0 ∨ i = 1 by omega) with rfl | rfl <;> rcases (show j = 0 ∨ j = 1 by omega) with rfl | rfl <;> first | rfl | exact absurd e (by assumption) | exact absurd e.symm (by assumption)) (fun k hk => by
      rcases (show k = 0 ∨ k = 1 by omega) with rfl | rfl
      · exact k_nn t0
      · exact k_nn t1) mi
  refine ⟨_, hPi.2.2.2.2.1, by simp, fun Mi' ei' => ⟨7, ?_⟩⟩
  have hPi' := hPi.put ei'
  have c1p := (hPg'.fresh uc1).2
  have t0 := pm ei' t0 ph
  have t1 := pm ei' t1 c1p
  have z0 := pm ei' (mi _ _ z0) pf
  have z1 := pm ei' (mi _ _ z1) b1p
  have y0 := pm ei' (mi _ _ y0) pd
  have y1 := pm ei' (mi _ _ y1) q1p
  have y2 := pm ei' (mi _ _ y2) q2p
  have y3 := pm ei' (mi _ _ y3) q3p
  have xc := pm ei' (mi _ _ xc) pc
  have xb := pm ei' (mi _ _ xb) pb
  have xa := pm ei' (mi _ _ xa) pa
  have Si : cSt G Mi' st kS0 := Sg.keepS (fun k hk e he => pm ei' (mi _ _ he) (stp k hk))
  refine key1 6 0 (by omega) Mi' _ _ _ (by omega) (by omega) ⟨by rw [← s0] at hPi'; exact hPi', ⟨_, xa, fun j _ hj => absurd hj (Nat.not_lt_zero j)⟩, ⟨_, xb, fun j _ hj => absurd hj (by omega)⟩, ⟨xc, y0, y1, y2, y3, z0, z1, t0, t1⟩, Si.adr (fun k hk => ?_), fun j hj => absurd hj (Nat.not_lt_zero j)⟩
  dsimp only
  rw [if_pos (by omega), if_pos (by omega), if_pos (by omega), if_pos (by omega), if_pos (by omega), if_pos (by omega), if_neg (by omega)]
  congr 1
  omega
end IN2
