/-! ===== the whole class: its cells ===== -/
/-- now, history, how many, slots, saved, the pad's signs, how many -/
abbrev kF : Type := kS × (Nat → kS) × Nat × (Nat → kS) × (Nat → Bool) × (Nat → Nat) × Nat
abbrev kF.S (F : kF) : kS := F.1
abbrev kF.hist (F : kF) : Nat → kS := F.2.1
abbrev kF.hc (F : kF) : Nat := F.2.2.1
abbrev kF.sl (F : kF) : Nat → kS := F.2.2.2.1
abbrev kF.sv (F : kF) : Nat → Bool := F.2.2.2.2.1
abbrev kF.ch (F : kF) : Nat → Nat := F.2.2.2.2.2.1
abbrev kF.pn (F : kF) : Nat := F.2.2.2.2.2.2
def gInj (ad : Nat → Nat) : Prop := ∀ i j, i < 354 → j < 354 → ad i = ad j → i = j
theorem gInj.ne {ad : Nat → Nat} (h : gInj ad) {i j : Nat} (hi : i < 354) (hj : j < 354) (hij : i ≠ j) : ad i ≠ ad j := fun z => hij (h i j hi hj z)
def stA (ad : Nat → Nat) (j : Nat) : Nat → Nat := fun k => ad (38 * j + k)
theorem gInj.st {ad : Nat → Nat} (h : gInj ad) {j : Nat} (hj : j < 9) : kInj (stA ad j) := fun a b ha hb e => by
  have := h (38 * j + a) (38 * j + b) (by omega) (by omega) e
  omega
theorem gInj.dis {ad : Nat → Nat} (h : gInj ad) {j j2 : Nat} (hj : j < 9) (hj2 : j2 < 9) (hne : j ≠ j2) : ∀ a b, a < 38 → b < 38 → stA ad j2 b ≠ stA ad j a := fun a b ha hb => h.ne (by omega) (by omega) (by omega)
def hOk (hi : Nat → Nat) : Prop := (∀ i, i < 6 → 1 ≤ hi i ∧ hi i ≤ 6) ∧ ∀ i j, i < 6 → j < 6 → hi i = hi j → i = j
/-- the text: Latin letters, its capacity -/
def cTx (G : k_G) (M : k_M) (o b cap : Nat) : Prop := ∃ (mb : Int32) (n : Nat) (f : Nat → Int32), M o = some (kO 0 [.ref b, .int 0, .int mb, .int (nI n)]) ∧ M b = some (kY G cap f) ∧ sb_Fit f ∧ n ≤ cap
def cF (G : k_G) (M : k_M) (ad : Nat → Nat) (hi : Nat → Nat) (cap : Nat) (F : kF) : Prop :=
  M (ad 342) = some (kO 4 [.ref (ad 0), .ref (ad 343), .int (nI F.hc), .ref (ad 344), .ref (ad 345), .ref (ad 346), .ref (ad 350), .ref (ad 352)]) ∧
  (∃ r, M (ad 343) = some (kO2 G 6 r) ∧ ∀ i, i < 6 → r i = some (ad (38 * hi i))) ∧
  (∃ r, M (ad 344) = some (kO2 G 2 r) ∧ ∀ i, i < 2 → r i = some (ad (38 * (7 + i)))) ∧
  (∃ g, M (ad 345) = some (kZ G 2 g) ∧ ∀ i, i < 2 → g i = k01 (F.sv i)) ∧
  cPad G M (fun k => ad (346 + k)) F.ch F.pn ∧
  (∃ e l g, M (ad 350) = some (kO 2 [.ref (ad 351), .long e, .long l]) ∧ M (ad 351) = some (kI G 16 g)) ∧
  cTx G M (ad 352) (ad 353) cap ∧
  cSt G M (stA ad 0) F.S ∧
  (∀ i, i < 6 → cSt G M (stA ad (hi i)) (F.hist i)) ∧
  ∀ i, i < 2 → cSt G M (stA ad (7 + i)) (F.sl i)
theorem cPad.kept {G : k_G} {M M1 : k_M} {pp : Nat → Nat} {ch : Nat → Nat} {n : Nat} (h : cPad G M pp ch n) (e : ∀ k, k < 4 → M1 (pp k) = M (pp k)) : cPad G M1 pp ch n := by
  obtain ⟨⟨a, b, c, d, h0⟩, ⟨g, h1, h1'⟩, ⟨x, l, h2⟩, hf, h3⟩ := h
  exact ⟨⟨a, b, c, d, (e 0 (by omega)).trans h0⟩, ⟨g, (e 1 (by omega)).trans h1, h1'⟩, ⟨x, l, (e 2 (by omega)).trans h2⟩, hf, (e 3 (by omega)).trans h3⟩
theorem cTx.kept {G : k_G} {M M1 : k_M} {o b cap : Nat} (h : cTx G M o b cap) (e1 : M1 o = M o) (e2 : M1 b = M b) : cTx G M1 o b cap := by
  obtain ⟨mb, n, f, h1, h2, h3⟩ := h
  exact ⟨mb, n, f, e1.trans h1, e2.trans h2, h3⟩
/-- what changes in the present state alone -/
theorem cF.now {G : k_G} {M M1 : k_M} {ad hi : Nat → Nat} {cap : Nat} {F : kF} {S' : kS} (h : cF G M ad hi cap F) (hg : gInj ad) (ho : hOk hi) (f : ∀ a, (∀ i, i < 38 → a ≠ stA ad 0 i) → M1 a = M a) (hS : cSt G M1 (stA ad 0) S') : cF G M1 ad hi cap (S', F.2) := by
  have k : ∀ n, 38 ≤ n → n < 354 → M1 (ad n) = M (ad n) := fun n h1 h2 => f _ (fun i hi => hg.ne (by omega) (by omega) (by omega))
  obtain ⟨h0, ⟨r1, h1, h1'⟩, ⟨r2, h2, h2'⟩, ⟨g, h3, h3'⟩, h4, ⟨e, l, g5, h5, h5'⟩, h6, h7, h8, h9⟩ := h
  refine ⟨(k 342 (by omega) (by omega)).trans h0, ⟨r1, (k 343 (by omega) (by omega)).trans h1, h1'⟩, ⟨r2, (k 344 (by omega) (by omega)).trans h2, h2'⟩, ⟨g, (k 345 (by omega) (by omega)).trans h3, h3'⟩, h4.kept (fun n hn => k _ (by omega) (by omega)), ⟨e, l, g5, (k 350 (by omega) (by omega)).trans h5, (k 351 (by omega) (by omega)).trans h5'⟩, h6.kept (k 352 (by omega) (by omega)) (k 353 (by omega) (by omega)), hS, fun i hi' => (h8 i hi').kept (fun n hn => k _ ?_ ?_), fun i hi' => (h9 i hi').kept (fun n hn => k _ (by omega) (by omega))⟩
  · have := (ho.1 i hi').1; omega
  · have := (ho.1 i hi').2; omega
def kFr (M M1 : k_M) (ad : Nat → Nat) : Prop := ∀ a e, M a = some e → (∀ k, k < 354 → a ≠ ad k) → M1 a = some e
theorem kFr.refl {M : k_M} {ad : Nat → Nat} : kFr M M ad := fun _ _ h _ => h
theorem kFr.trans {M M1 M2 : k_M} {ad : Nat → Nat} (h1 : kFr M M1 ad) (h2 : kFr M1 M2 ad) : kFr M M2 ad := fun a e h k => h2 a e (h1 a e h k) k
theorem kFr.of {M M1 : k_M} {ad : Nat → Nat} (h : ∀ a, (∀ k, k < 354 → a ≠ ad k) → M1 a = M a) : kFr M M1 ad := fun a e h1 k => (h a k).trans h1
theorem kFr.st {M M1 : k_M} {ad : Nat → Nat} {j : Nat} (hj : j < 9) (f : ∀ a, (∀ i, i < 38 → a ≠ stA ad j i) → M1 a = M a) : kFr M M1 ad := kFr.of (fun a ha => f a (fun i hi => ha _ (by omega)))
/-- remember: the state is recorded, the oldest one is dropped -/
def rot (h : Nat → kS) : Nat → kS := fun i => if i < 5 then h (i + 1) else h 0
def remF (F : kF) : kF := if F.hc < 6 then (F.S, va_up F.hist F.hc F.S, F.hc + 1, F.2.2.2) else (F.S, va_up (rot F.hist) 5 F.S, 6, F.2.2.2)
section F1
variable {G : k_G} {M : k_M} {ad hi : Nat → Nat} {cap : Nat} {F : kF}
theorem s_rem_b13 {post : k_M → Prop} (hg : gInj ad) (ho : hOk hi) (hc : F.hc < 6) (hF : cF G M ad hi cap F)
    (hp : ∀ M1 : k_M, kFr M M1 ad → cF G M1 ad hi cap (F.S, va_up F.hist F.hc F.S, F.hc + 1, F.2.2.2) → post M1) : wp_X3_remember_b13 G post (ad 342) M := by
  obtain ⟨h0, ⟨r1, h1, h1'⟩, ⟨r2, h2, h2'⟩, ⟨g, h3, h3'⟩, h4, ⟨e, l, g5, h5, h5'⟩, h6, h7, h8, h9⟩ := hF
  obtain ⟨o1, o2⟩ := ho.1 F.hc hc
  have hst := h8 F.hc hc
  unfold wp_X3_remember_b13
  refine ⟨_, _, h0, rfl, _, _, h0, rfl, _, _, _, h1, kvin hc (by omega), k_at (h1' _ hc) (by omega), _, _, h0, rfl, _, hst.1, ?_⟩
  refine s_X2_become (ad := stA ad (hi F.hc)) (ad2 := stA ad 0) (hg.st (by omega)) (hg.dis (by omega) (by omega) (by omega)) hst h7 (fun M1 f1 hc1 => ?_)
  have k1 : ∀ n, n < 354 → (n < 38 * hi F.hc ∨ 38 * hi F.hc + 38 ≤ n) → M1 (ad n) = M (ad n) := fun n a b => f1 _ (fun i hi => hg.ne a (by omega) (by omega))
  have m0 := (k1 342 (by omega) (by omega)).trans h0
  refine ⟨_, _, m0, rfl, _, m0, by simp, fun M2 e2 => ?_⟩
  rw [kns] at e2
  have q2 : ∀ n, n < 354 → n ≠ 342 → M2 (ad n) = M1 (ad n) := fun n a b => kup_off e2 (hg.ne a (by omega) b)
  have k2 : ∀ n, n < 354 → n ≠ 342 → (n < 38 * hi F.hc ∨ 38 * hi F.hc + 38 ≤ n) → M2 (ad n) = M (ad n) := fun n a b c => (q2 n a b).trans (k1 n a c)
  refine hp M2 ((kFr.st (j := hi F.hc) (by omega) f1).trans (kFr.of (fun a ha => kup_off e2 (ha 342 (by omega))))) ⟨by rw [kup_at e2]; rfl, ⟨r1, (k2 343 (by omega) (by omega) (by omega)).trans h1, h1'⟩, ⟨r2, (k2 344 (by omega) (by omega) (by omega)).trans h2, h2'⟩, ⟨g, (k2 345 (by omega) (by omega) (by omega)).trans h3, h3'⟩, h4.kept (fun n hn => k2 _ (by omega) (by omega) (by omega)), ⟨e, l, g5, (k2 350 (by omega) (by omega) (by omega)).trans h5, (k2 351 (by omega) (by omega) (by omega)).trans h5'⟩, h6.kept (k2 352 (by omega) (by omega) (by omega)) (k2 353 (by omega) (by omega) (by omega)), h7.kept (fun n hn => k2 _ (by omega) (by omega) (by omega)), fun i hi' => ?_, fun i hi' => (h9 i hi').kept (fun n hn => k2 _ (by omega) (by omega) (by omega))⟩
  show cSt G M2 (stA ad (hi i)) (va_up F.hist F.hc F.S i)
  obtain ⟨p1, p2⟩ := ho.1 i hi'
  by_cases hic : i = F.hc
  · subst hic
    rw [vup_s]
    exact hc1.kept (fun n hn => q2 _ (by omega) (by omega))
  · rw [vup_n hic]
    have hne : hi i ≠ hi F.hc := fun z => hic (ho.2 i F.hc hi' hc z)
    exact (h8 i hi').kept (fun n hn => k2 _ (by omega) (by omega) (by omega))
theorem s_forget {post : k_M → Prop} (hg : gInj ad) (ho : hOk hi) (hc : F.hc = 6) (hF : cF G M ad hi cap F)
    (hp : ∀ (M1 : k_M) (hi' : Nat → Nat), kFr M M1 ad → hOk hi' → cF G M1 ad hi' cap (F.S, rot F.hist, 5, F.2.2.2) → post M1) : wp_X3_forgetOldest G post (ad 342) M := by
  obtain ⟨h0, ⟨r1, h1, h1'⟩, h2, h3, h4, h5, h6, h7, h8, h9⟩ := hF
  have hob : ∀ i, i < 6 → ∃ fs, M (ad (38 * hi i)) = some (kO 3 fs) := fun i h => ⟨_, (h8 i h).1⟩
  have key : ∀ (j k : Nat), k + 1 + j = 6 → ∀ (M1 : k_M) (r : Nat → Option Nat), (∀ a, a ≠ ad 343 → M1 a = M a) → M1 (ad 343) = some (kO2 G 6 r) → (∀ i, i < 6 → r i = if i < k then r1 (i + 1) else r1 i) → wp_X3_forgetOldest_L9 G post (j + 1) (ad 342) (ad (38 * hi 0)) (nI (k + 1)) M1 := by
    intro j
    induction j with
    | zero =>
      intro k hk M1 r f1 f2 f3
      have : k = 5 := by omega
      subst this
      rw [wp_X3_forgetOldest_L9]
      refine ⟨fun _ => ?_, fun z => absurd (by decide) z⟩
      have m0 := (f1 _ (hg.ne (by omega) (by omega) (by omega))).trans h0
      obtain ⟨fs, ho0⟩ := hob 0 (by omega)
      obtain ⟨p1, p2⟩ := ho.1 0 (by omega)
      refine ⟨_, _, m0, rfl, _, _, fs, f2, (f1 _ (hg.ne (by omega) (by omega) (by omega))).trans ho0, kvin (j := 5) (n := 6) (by omega) (by omega), fun M2 e2 => ?_⟩
      have m2 := (kup_off e2 (hg.ne (i := 342) (by omega) (by omega) (by omega))).trans m0
      refine ⟨_, m2, by simp, fun M3 e3 => ?_⟩
      have k3 : ∀ a, a ≠ ad 342 → a ≠ ad 343 → M3 a = M a := fun a q1 q2 => (kup_off e3 q1).trans ((kup_off e2 q2).trans (f1 a q2))
      have n3 : ∀ n, n < 354 → n ≠ 342 → n ≠ 343 → M3 (ad n) = M (ad n) := fun n a b c => k3 _ (hg.ne a (by omega) b) (hg.ne a (by omega) c)
      obtain ⟨r2, h2, h2'⟩ := h2
      obtain ⟨g, h3, h3'⟩ := h3
      obtain ⟨e, l, g5, h5, h5'⟩ := h5
      refine hp M3 (fun i => if i < 5 then hi (i + 1) else hi 0) (kFr.of (fun a ha => k3 a (ha _ (by omega)) (ha _ (by omega)))) ⟨fun i h => ?_, fun i j h h' e => ?_⟩ ⟨by rw [kup_at e3]; rfl, ⟨_, (kup_off e3 (hg.ne (by omega) (by omega) (by omega))).trans (kup_at e2), fun i h => ?_⟩, ⟨r2, (n3 344 (by omega) (by omega) (by omega)).trans h2, h2'⟩, ⟨g, (n3 345 (by omega) (by omega) (by omega)).trans h3, h3'⟩, h4.kept (fun n hn => n3 _ (by omega) (by omega) (by omega)), ⟨e, l, g5, (n3 350 (by omega) (by omega) (by omega)).trans h5, (n3 351 (by omega) (by omega) (by omega)).trans h5'⟩, h6.kept (n3 352 (by omega) (by omega) (by omega)) (n3 353 (by omega) (by omega) (by omega)), h7.kept (fun n hn => n3 _ (by omega) (by omega) (by omega)), fun i h => ?_, fun i h => (h9 i h).kept (fun n hn => n3 _ (by omega) (by omega) (by omega))⟩
      · dsimp only
        split
        · exact ho.1 _ (by omega)
        · exact ho.1 _ (by omega)
      · dsimp only at e
        split at e <;> split at e
        · have := ho.2 _ _ (by omega) (by omega) e; omega
        · have := ho.2 _ _ (by omega) (by omega) e; omega
        · have := ho.2 _ _ (by omega) (by omega) e; omega
        · omega
      · show va_up r 5 (some (ad (38 * hi 0))) i = some (ad (38 * (if i < 5 then hi (i + 1) else hi 0)))
        by_cases hi5 : i = 5
        · subst hi5; rw [vup_s, if_neg (by omega)]
        · rw [vup_n hi5, f3 i h, if_pos (by omega), if_pos (by omega)]
          exact h1' _ (by omega)
      · show cSt G M3 (stA ad (if i < 5 then hi (i + 1) else hi 0)) (rot F.hist i)
        unfold rot
        by_cases hi5 : i < 5
        · rw [if_pos hi5, if_pos hi5]
          obtain ⟨q1, q2⟩ := ho.1 (i + 1) (by omega)
          exact (h8 _ (by omega)).kept (fun n hn => n3 _ (by omega) (by omega) (by omega))
        · rw [if_neg hi5, if_neg hi5]
          exact (h8 0 (by omega)).kept (fun n hn => n3 _ (by omega) (by omega) (by omega))
    | succ j ih =>
      intro k hk M1 r f1 f2 f3
      rw [wp_X3_forgetOldest_L9]
      refine ⟨fun z => absurd z (kge (N := 6) (by omega) (by decide)), fun _ => ?_⟩
      have m0 := (f1 _ (hg.ne (by omega) (by omega) (by omega))).trans h0
      have hv : r (k + 1) = some (ad (38 * hi (k + 1))) := by rw [f3 _ (by omega), if_neg (by omega)]; exact h1' _ (by omega)
      obtain ⟨fs, ho0⟩ := hob (k + 1) (by omega)
      obtain ⟨p1, p2⟩ := ho.1 (k + 1) (by omega)
      rw [nI_sub1 (by omega), Nat.add_sub_cancel]
      refine ⟨_, _, m0, rfl, _, _, m0, rfl, _, _, _, f2, kvin (show k + 1 < 6 by omega) (by omega), k_at hv (by omega), _, _, fs, f2, (f1 _ (hg.ne (by omega) (by omega) (by omega))).trans ho0, kvin (show k < 6 by omega) (by omega), fun M2 e2 => ?_⟩
      rw [kcl (by omega)] at e2
      have := ih (k + 1) (by omega) M2 _ (fun a ha => (kup_off e2 ha).trans (f1 a ha)) (kup_at e2) (fun i h => ?_)
      · rw [← kns (k + 1)] at this; exact this
      · by_cases hik : i = k
        · subst hik; rw [vup_s, if_pos (by omega)]; exact (h1' _ (by omega)).symm
        · rw [vup_n hik, f3 i h]
          have : (i < k + 1) ↔ (i < k) := by omega
          simp only [this]
  unfold wp_X3_forgetOldest
  exact ⟨_, _, h0, rfl, _, _, _, h1, kvin (j := 0) (n := 6) (by omega) (by omega), h1' 0 (by omega), 6, key 5 0 (by omega) M r1 (fun _ _ => rfl) h1 (fun i h => by rw [if_neg (Nat.not_lt_zero i)])⟩
theorem s_X3_remember {post : k_M → Prop} (hg : gInj ad) (ho : hOk hi) (hc : F.hc ≤ 6) (hF : cF G M ad hi cap F)
    (hp : ∀ (M1 : k_M) (hi' : Nat → Nat), kFr M M1 ad → hOk hi' → cF G M1 ad hi' cap (remF F) → post M1) : wp_X3_remember G post (ad 342) M := by
  unfold wp_X3_remember
  unfold remF at hp
  refine ⟨_, _, hF.1, rfl, fun h => ?_, fun h => ⟨_, hF.1, ?_⟩⟩
  · have hlt : F.hc < 6 := (nI_ltI (a := F.hc) (b := 6) (by omega) (by omega)).mp h
    rw [if_pos hlt] at hp
    exact s_rem_b13 hg ho hlt hF (fun M1 f1 h1 => hp M1 hi f1 ho h1)
  · have he : F.hc = 6 := by
      rcases Nat.lt_or_ge F.hc 6 with q | q
      · exact absurd (nI_lt (a := F.hc) (b := 6) q (by omega)) h
      · omega
    rw [if_neg (by omega)] at hp
    refine s_forget hg ho he hF (fun M1 hi1 f1 ho1 h1 => ?_)
    exact s_rem_b13 (F := (F.S, rot F.hist, 5, F.2.2.2)) hg ho1 (by show (5 : Nat) < 6; omega) h1 (fun M2 f2 h2 => hp M2 hi1 (f1.trans f2) ho1 h2)
end F1
