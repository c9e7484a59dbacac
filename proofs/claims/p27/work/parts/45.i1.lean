/-! ===== what is made: a State, a Pad ===== -/
def iOk (M : k_M) (ad : Nat → Nat) (n : Nat) : Prop := (∀ i j, i < n → j < n → ad i = ad j → i = j) ∧ ∀ i, i < n → M (ad i) ≠ none
theorem iOk.one {M M1 : k_M} {ad : Nat → Nat} {n q : Nat} (h : iOk M ad n) (hq : M q = none) (fr : ∀ i, i < n → M1 (ad i) ≠ none) (hs : M1 q ≠ none) : iOk M1 (va_up ad n q) (n + 1) := by
  refine ⟨fun i j hi hj e => ?_, fun i hi => ?_⟩
  · by_cases h1 : i = n
    · by_cases h2 : j = n
      · omega
      · rw [h1, vup_s, vup_n h2] at e
        exact absurd hq (by rw [e]; exact h.2 j (by omega))
    · by_cases h2 : j = n
      · rw [h2, vup_s, vup_n h1] at e
        exact absurd hq (by rw [← e]; exact h.2 i (by omega))
      · rw [vup_n h1, vup_n h2] at e
        exact h.1 i j (by omega) (by omega) e
  · by_cases h1 : i = n
    · rw [h1, vup_s]; exact hs
    · rw [vup_n h1]; exact fr i (by omega)
theorem iOk.ne {M : k_M} {ad : Nat → Nat} {n : Nat} (h : iOk M ad n) {i j : Nat} (hi : i < n) (hj : j < n) (hij : i ≠ j) : ad i ≠ ad j := fun z => hij (h.1 i j hi hj z)
theorem iOk.new {M : k_M} {ad : Nat → Nat} {n q : Nat} (h : iOk M ad n) (hq : M q = none) {i : Nat} (hi : i < n) : ad i ≠ q := fun z => h.2 i hi (by rw [z]; exact hq)
theorem k_nn {M : k_M} {a : Nat} {e : va_E} (h : M a = some e) : M a ≠ none := by rw [h]; exact fun z => by cases z
def kV0 : kSV := (fun _ => 0, fun _ => false)
def kS0 : kS := (fun _ => 0, fun _ => kV0, fun _ => kV0, fun _ => 0, 0, fun _ => 0, 0)
theorem kn00 (i : Nat) : kn 0 0 i = false := by
  unfold kn
  split
  · exact bl_0 i
  · exact bl_0 _
def sI (G : k_G) (M M1 : k_M) (q : Nat) (st : Nat → Nat) (n : Nat) : Prop :=
  st 0 = q ∧ iOk M1 st (6 + 2 * n) ∧ (∀ k, 1 ≤ k → k < 6 + 2 * n → M (st k) = none) ∧ (∀ a e, M a = some e → a ≠ q → M1 a = some e) ∧
  M1 (st 0) = some (kO 3 [.ref (st 1), .ref (st 2), .ref (st 3), .ref (st 4), .int 0, .ref (st 5), .int 0]) ∧ M1 (st 1) = some (kI G 8 (fun _ => 0)) ∧
  (∃ r, M1 (st 2) = some (kO1 G 8 r) ∧ ∀ j, j < 8 → j < n → r j = some (st (6 + 2 * j))) ∧
  (∃ r, M1 (st 3) = some (kO1 G 8 r) ∧ ∀ j, j < 8 → 8 + j < n → r j = some (st (22 + 2 * j))) ∧
  M1 (st 4) = some (kI G 8 (fun _ => 0)) ∧ M1 (st 5) = some (kI G 120 (fun _ => 0)) ∧
  ∀ t, t < n → M1 (st (6 + 2 * t)) = some (kO 2 [.ref (st (7 + 2 * t)), .long 0, .long 0]) ∧ M1 (st (7 + 2 * t)) = some (kI G 16 (fun _ => 0))
section IN1
variable {G : k_G} {M : k_M} {q : Nat}

theorem sI.step2 {M1 M2 M3 M4 : k_M} {st : Nat → Nat} {n q1 q2 : Nat} {r : Nat → Option Nat} (h : sI G M M1 q st n) (hn : n < 8) (hq1 : M1 q1 = none) (e2 : M2 = va_up M1 q1 (some (kO 2 [.null, .long 0, .long 0]))) (hq2 : M2 q2 = none) (f3 : ∀ a, a ≠ q2 → a ≠ q1 → M3 a = M2 a)
    (g1 : M3 q1 = some (kO 2 [.ref q2, .long 0, .long 0])) (g2 : M3 q2 = some (kI G 16 (fun _ => 0))) (hr : M1 (st 2) = some (kO1 G 8 r)) (e4 : M4 = va_up M3 (st 2) (some (kO1 G 8 (va_up r (n) (some q1))))) : sI G M M4 q (va_up (va_up st (6 + 2 * n) q1) (6 + 2 * n + 1) q2) (n + 1) := by
  obtain ⟨s0, hi, hf, hfr, h0, h1, ⟨r2, h2, r2'⟩, ⟨r3, h3, r3'⟩, h4, h5, h6⟩ := h
  have er : r = r2 := by
    rw [h2] at hr
    injection hr with hr
    injection hr with hr
    injection hr with _ hr
    injection hr with _ hr
    injection hr with hr
    injection hr with hr
    injection hr with hr
    injection hr with hr
    exact hr.symm
  subst er
  have n12 : q1 ≠ q2 := fun z => by rw [← z, e2, kup_same] at hq2; cases hq2
  have hq2' : M1 q2 = none := by rw [← hq2]; exact (kup_off e2 (Ne.symm n12)).symm
  have nx1 : st 2 ≠ q1 := hi.new hq1 (by omega)
  have nx2 : st 2 ≠ q2 := hi.new hq2' (by omega)
  have c3 : ∀ k, k < 6 + 2 * n → M3 (st k) = M1 (st k) := fun k hk => (f3 _ (hi.new hq2' hk) (hi.new hq1 hk)).trans (kup_off e2 (hi.new hq1 hk))
  have c4 : ∀ k, k < 6 + 2 * n → k ≠ 2 → M4 (st k) = M1 (st k) := fun k hk hkx => (kup_off e4 (hi.ne hk (by omega) hkx)).trans (c3 k hk)
  have cx : M4 (st 2) ≠ none := by rw [kup_at e4]; exact fun z => by cases z
  have k1 : M4 q1 = some (kO 2 [.ref q2, .long 0, .long 0]) := (kup_off e4 (Ne.symm nx1)).trans g1
  have k2 : M4 q2 = some (kI G 16 (fun _ => 0)) := (kup_off e4 (Ne.symm nx2)).trans g2
  have some4 : ∀ k, k < 6 + 2 * n → M4 (st k) ≠ none := fun k hk => by
    by_cases hkx : k = 2
    · rw [hkx]; exact cx
    · rw [c4 k hk hkx]; exact hi.2 k hk
  have eS : va_up (va_up st (6 + 2 * n) q1) (6 + 2 * n + 1) q2 (6 + 2 * n) = q1 := by rw [vup_n (by omega), vup_s]
  have eT : va_up (va_up st (6 + 2 * n) q1) (6 + 2 * n + 1) q2 (7 + 2 * n) = q2 := by rw [show 7 + 2 * n = 6 + 2 * n + 1 by omega, vup_s]
  have k0 : ∀ k, k < 6 + 2 * n → va_up (va_up st (6 + 2 * n) q1) (6 + 2 * n + 1) q2 k = st k := fun k hk => by rw [vup_n (by omega), vup_n (by omega)]
  have i1 : iOk M3 (va_up st (6 + 2 * n) q1) (6 + 2 * n + 1) := hi.one hq1 (fun k hk => by rw [c3 k hk]; exact hi.2 k hk) (k_nn g1)
  have i2 : iOk M2 (va_up st (6 + 2 * n) q1) (6 + 2 * n + 1) := hi.one hq1 (fun k hk => by rw [kup_off e2 (hi.new hq1 hk)]; exact hi.2 k hk) (by rw [kup_at e2]; exact fun z => by cases z)
  refine ⟨by rw [k0 0 (by omega)]; exact s0, ?_, fun k hk1 hk => ?_, fun a e ha hne => ?_, ?_, ?_, ⟨va_up r n (some q1), ?_, fun j hj hjn => ?_⟩, ⟨r3, ?_, fun j hj hjn => ?_⟩, ?_, ?_, fun t ht => ?_⟩
  · have := i2.one (M1 := M4) hq2 (fun k hk => ?_) (k_nn k2)
    · rw [show 6 + 2 * (n + 1) = 6 + 2 * n + 1 + 1 by omega]; exact this
    · by_cases hkn : k = 6 + 2 * n
      · rw [hkn, vup_s]; exact k_nn k1
      · rw [vup_n hkn]; exact some4 k (by omega)
  · by_cases hka : k = 6 + 2 * n
    · rw [hka, eS]
      cases hM : M q1 with
      | none => rfl
      | some e =>
        have := hfr q1 e hM (fun z => (hi.new hq1 (show 0 < 6 + 2 * n by omega)) (by rw [s0]; exact z.symm))
        rw [hq1] at this; cases this
    · by_cases hkb : k = 7 + 2 * n
      · rw [hkb, eT]
        cases hM : M q2 with
        | none => rfl
        | some e =>
          have := hfr q2 e hM (fun z => (hi.new hq2' (show 0 < 6 + 2 * n by omega)) (by rw [s0]; exact z.symm))
          rw [hq2'] at this; cases this
      · rw [k0 k (by omega)]; exact hf k hk1 (by omega)
  · have ha1 := hfr a e ha hne
    have na1 : a ≠ q1 := fun z => by rw [z, hq1] at ha1; cases ha1
    have na2 : a ≠ q2 := fun z => by rw [z, hq2'] at ha1; cases ha1
    have nax : a ≠ st 2 := fun z => by
      have := hf 2 (by omega) (by omega)
      rw [← z, ha] at this; cases this
    rw [kup_off e4 nax, f3 a na2 na1, kup_off e2 na1]; exact ha1
  · rw [k0 0 (by omega), k0 1 (by omega), k0 2 (by omega), k0 3 (by omega), k0 4 (by omega), k0 5 (by omega)]
    exact (c4 0 (by omega) (by omega)).trans h0
  · rw [k0 1 (by omega)]; exact (c4 1 (by omega) (by omega)).trans h1
  · rw [k0 2 (by omega)]; exact (kup_at e4)
  ·
      by_cases hjn : j = n
      · subst hjn; rw [vup_s, eS]
      · rw [vup_n hjn, k0 _ (by omega)]; exact r2' j hj (by omega)
  · rw [k0 3 (by omega)]; exact ((c4 3 (by omega) (by omega)).trans h3)
  ·
      rw [k0 _ (by omega)]; exact r3' j hj (by omega)
  · rw [k0 4 (by omega)]; exact (c4 4 (by omega) (by omega)).trans h4
  · rw [k0 5 (by omega)]; exact (c4 5 (by omega) (by omega)).trans h5
  · by_cases htn : t = n
    · rw [htn, eS, eT]; exact ⟨k1, k2⟩
    · obtain ⟨z1, z2⟩ := h6 t (by omega)
      rw [k0 _ (by omega), k0 _ (by omega)]
      exact ⟨(c4 _ (by omega) (by omega)).trans z1, (c4 _ (by omega) (by omega)).trans z2⟩

theorem sI.step3 {M1 M2 M3 M4 : k_M} {st : Nat → Nat} {n q1 q2 : Nat} {r : Nat → Option Nat} (h : sI G M M1 q st n) (hn : 8 ≤ n ∧ n < 16) (hq1 : M1 q1 = none) (e2 : M2 = va_up M1 q1 (some (kO 2 [.null, .long 0, .long 0]))) (hq2 : M2 q2 = none) (f3 : ∀ a, a ≠ q2 → a ≠ q1 → M3 a = M2 a)
    (g1 : M3 q1 = some (kO 2 [.ref q2, .long 0, .long 0])) (g2 : M3 q2 = some (kI G 16 (fun _ => 0))) (hr : M1 (st 3) = some (kO1 G 8 r)) (e4 : M4 = va_up M3 (st 3) (some (kO1 G 8 (va_up r (n - 8) (some q1))))) : sI G M M4 q (va_up (va_up st (6 + 2 * n) q1) (6 + 2 * n + 1) q2) (n + 1) := by
  obtain ⟨s0, hi, hf, hfr, h0, h1, ⟨r2, h2, r2'⟩, ⟨r3, h3, r3'⟩, h4, h5, h6⟩ := h
  have er : r = r3 := by
    rw [h3] at hr
    injection hr with hr
    injection hr with hr
    injection hr with _ hr
    injection hr with _ hr
    injection hr with hr
    injection hr with hr
    injection hr with hr
    injection hr with hr
    exact hr.symm
  subst er
  have n12 : q1 ≠ q2 := fun z => by rw [← z, e2, kup_same] at hq2; cases hq2
  have hq2' : M1 q2 = none := by rw [← hq2]; exact (kup_off e2 (Ne.symm n12)).symm
  have nx1 : st 3 ≠ q1 := hi.new hq1 (by omega)
  have nx2 : st 3 ≠ q2 := hi.new hq2' (by omega)
  have c3 : ∀ k, k < 6 + 2 * n → M3 (st k) = M1 (st k) := fun k hk => (f3 _ (hi.new hq2' hk) (hi.new hq1 hk)).trans (kup_off e2 (hi.new hq1 hk))
  have c4 : ∀ k, k < 6 + 2 * n → k ≠ 3 → M4 (st k) = M1 (st k) := fun k hk hkx => (kup_off e4 (hi.ne hk (by omega) hkx)).trans (c3 k hk)
  have cx : M4 (st 3) ≠ none := by rw [kup_at e4]; exact fun z => by cases z
  have k1 : M4 q1 = some (kO 2 [.ref q2, .long 0, .long 0]) := (kup_off e4 (Ne.symm nx1)).trans g1
  have k2 : M4 q2 = some (kI G 16 (fun _ => 0)) := (kup_off e4 (Ne.symm nx2)).trans g2
  have some4 : ∀ k, k < 6 + 2 * n → M4 (st k) ≠ none := fun k hk => by
    by_cases hkx : k = 3
    · rw [hkx]; exact cx
    · rw [c4 k hk hkx]; exact hi.2 k hk
  have eS : va_up (va_up st (6 + 2 * n) q1) (6 + 2 * n + 1) q2 (6 + 2 * n) = q1 := by rw [vup_n (by omega), vup_s]
  have eT : va_up (va_up st (6 + 2 * n) q1) (6 + 2 * n + 1) q2 (7 + 2 * n) = q2 := by rw [show 7 + 2 * n = 6 + 2 * n + 1 by omega, vup_s]
  have k0 : ∀ k, k < 6 + 2 * n → va_up (va_up st (6 + 2 * n) q1) (6 + 2 * n + 1) q2 k = st k := fun k hk => by rw [vup_n (by omega), vup_n (by omega)]
  have i1 : iOk M3 (va_up st (6 + 2 * n) q1) (6 + 2 * n + 1) := hi.one hq1 (fun k hk => by rw [c3 k hk]; exact hi.2 k hk) (k_nn g1)
  have i2 : iOk M2 (va_up st (6 + 2 * n) q1) (6 + 2 * n + 1) := hi.one hq1 (fun k hk => by rw [kup_off e2 (hi.new hq1 hk)]; exact hi.2 k hk) (by rw [kup_at e2]; exact fun z => by cases z)
  refine ⟨by rw [k0 0 (by omega)]; exact s0, ?_, fun k hk1 hk => ?_, fun a e ha hne => ?_, ?_, ?_, ⟨r2, ?_, fun j hj hjn => ?_⟩, ⟨va_up r (n - 8) (some q1), ?_, fun j hj hjn => ?_⟩, ?_, ?_, fun t ht => ?_⟩
  · have := i2.one (M1 := M4) hq2 (fun k hk => ?_) (k_nn k2)
    · rw [show 6 + 2 * (n + 1) = 6 + 2 * n + 1 + 1 by omega]; exact this
    · by_cases hkn : k = 6 + 2 * n
      · rw [hkn, vup_s]; exact k_nn k1
      · rw [vup_n hkn]; exact some4 k (by omega)
  · by_cases hka : k = 6 + 2 * n
    · rw [hka, eS]
      cases hM : M q1 with
      | none => rfl
      | some e =>
        have := hfr q1 e hM (fun z => (hi.new hq1 (show 0 < 6 + 2 * n by omega)) (by rw [s0]; exact z.symm))
        rw [hq1] at this; cases this
    · by_cases hkb : k = 7 + 2 * n
      · rw [hkb, eT]
        cases hM : M q2 with
        | none => rfl
        | some e =>
          have := hfr q2 e hM (fun z => (hi.new hq2' (show 0 < 6 + 2 * n by omega)) (by rw [s0]; exact z.symm))
          rw [hq2'] at this; cases this
      · rw [k0 k (by omega)]; exact hf k hk1 (by omega)
  · have ha1 := hfr a e ha hne
    have na1 : a ≠ q1 := fun z => by rw [z, hq1] at ha1; cases ha1
    have na2 : a ≠ q2 := fun z => by rw [z, hq2'] at ha1; cases ha1
    have nax : a ≠ st 3 := fun z => by
      have := hf 3 (by omega) (by omega)
      rw [← z, ha] at this; cases this
    rw [kup_off e4 nax, f3 a na2 na1, kup_off e2 na1]; exact ha1
  · rw [k0 0 (by omega), k0 1 (by omega), k0 2 (by omega), k0 3 (by omega), k0 4 (by omega), k0 5 (by omega)]
    exact (c4 0 (by omega) (by omega)).trans h0
  · rw [k0 1 (by omega)]; exact (c4 1 (by omega) (by omega)).trans h1
  · rw [k0 2 (by omega)]; exact ((c4 2 (by omega) (by omega)).trans h2)
  ·
      rw [k0 _ (by omega)]; exact r2' j hj (by omega)
  · rw [k0 3 (by omega)]; exact (kup_at e4)
  ·
      by_cases hjn : j = n - 8
      · subst hjn
        rw [vup_s, show 22 + 2 * (n - 8) = 6 + 2 * n by omega, eS]
      · rw [vup_n hjn, k0 _ (by omega)]; exact r3' j hj (by omega)
  · rw [k0 4 (by omega)]; exact (c4 4 (by omega) (by omega)).trans h4
  · rw [k0 5 (by omega)]; exact (c4 5 (by omega) (by omega)).trans h5
  · by_cases htn : t = n
    · rw [htn, eS, eT]; exact ⟨k1, k2⟩
    · obtain ⟨z1, z2⟩ := h6 t (by omega)
      rw [k0 _ (by omega), k0 _ (by omega)]
      exact ⟨(c4 _ (by omega) (by omega)).trans z1, (c4 _ (by omega) (by omega)).trans z2⟩

theorem sI.done {M1 : k_M} {st : Nat → Nat} (h : sI G M M1 q st 16) : kInj st ∧ (∀ k, 1 ≤ k → k < 38 → M (st k) = none) ∧ (∀ a e, M a = some e → a ≠ q → M1 a = some e) ∧ cSt G M1 st kS0 := by
  obtain ⟨s0, hi, hf, hfr, h0, h1, ⟨r2, h2, r2'⟩, ⟨r3, h3, r3'⟩, h4, h5, h6⟩ := h
  refine ⟨fun i j a b e => hi.1 i j a b e, hf, hfr, h0, ⟨_, h1, fun _ _ => rfl⟩, ⟨r2, h2, fun i hi => r2' i hi (by omega)⟩, ⟨r3, h3, fun i hi => r3' i hi (by omega)⟩, ⟨_, h4, fun _ _ => rfl⟩, ⟨_, h5, fun _ _ => rfl⟩, fun i hi => ?_, fun i hi => ?_⟩
  · obtain ⟨a, b⟩ := h6 i (by omega)
    exact ⟨0, 0, _, a, b, fun _ _ => rfl, fun k _ => kn00 k⟩
  · obtain ⟨a, b⟩ := h6 (8 + i) (by omega)
    rw [show 6 + 2 * (8 + i) = 22 + 2 * i by omega, show 7 + 2 * (8 + i) = 23 + 2 * i by omega] at a
    rw [show 7 + 2 * (8 + i) = 23 + 2 * i by omega] at b
    exact ⟨0, 0, _, a, b, fun _ _ => rfl, fun k _ => kn00 k⟩
theorem s_X2_init {post : k_M → Prop} {mc ms : Nat} (hmc : 37 ≤ mc) (hms : 456 ≤ ms) (hM : M q = some (kO 3 [.null, .null, .null, .null, .int 0, .null, .int 0]))
    (hp : ∀ (M1 : k_M) (st : Nat → Nat), st 0 = q → kInj st → (∀ k, 1 ≤ k → k < 38 → M (st k) = none) → (∀ a e, M a = some e → a ≠ q → M1 a = some e) → cSt G M1 st kS0 → post M1) : wp_X2_init G mc ms post q M := by
  have key2 : ∀ (j i : Nat), i + j = 8 → ∀ (M1 : k_M) (st : Nat → Nat) (kc ks : Nat), kc + 2 * j ≤ mc → ks + 19 * j ≤ ms → sI G M M1 q st (8 + i) → wp_X2_init_L75 G mc ms post (j + 1) q (nI i) kc ks M1 := by
    intro j
    induction j with
    | zero =>
      intro i hi M1 st kc ks hkc hks h
      have : i = 8 := by omega
      subst this
      rw [wp_X2_init_L75]
      obtain ⟨d1, d2, d3, d4⟩ := h.done
      exact ⟨fun _ => ⟨by omega, by omega, hp M1 st h.1 d1 d2 d3 d4⟩, fun z => absurd (by decide) z⟩
    | succ j ih =>
      intro i hi M1 st kc ks hkc hks h
      rw [wp_X2_init_L75]
      have hx := h
      obtain ⟨s0, hio, hf, hfr, h0, h1, ⟨r2, h2, r2'⟩, ⟨r3, h3, r3'⟩, -⟩ := hx
      rw [s0] at h0
      refine ⟨fun z => absurd z (kge (N := 8) (by omega) (by decide)), fun _ => ⟨_, _, h0, rfl, by omega, by omega, fun q1 M2 hq1 e2 => ⟨1, 16, by omega, by omega, s_X1_init (fs := []) (by omega) (by omega) (kup_at e2) (fun M3 q2 hq2 f3 g1 g2 => ?_)⟩⟩⟩
      have n12 : q1 ≠ q2 := fun z => by rw [← z, e2, kup_same] at hq2; cases hq2
      have hq2' : M1 q2 = none := by rw [← hq2]; exact (kup_off e2 (Ne.symm n12)).symm
      have m3 : M3 (st 3) = some (kO1 G 8 r3) := (f3 _ (hio.new hq2' (by omega)) (hio.new hq1 (by omega))).trans ((kup_off e2 (hio.new hq1 (by omega))).trans h3)
      refine ⟨_, _, _, m3, g1, kvin (show i < 8 by omega) (by omega), fun M4 e4 => ?_⟩
      rw [kcl (by omega)] at e4
      rw [kns]
      have hs := h.step3 (M4 := M4) (by omega) hq1 e2 hq2 f3 g1 g2 h3 (by rw [Nat.add_sub_cancel_left]; exact e4)
      exact ih (i + 1) (by omega) M4 _ _ _ (by omega) (by omega) hs
  have key1 : ∀ (j i : Nat), i + j = 8 → ∀ (M1 : k_M) (st : Nat → Nat) (kc ks : Nat), kc + 2 * j + 16 ≤ mc → ks + 19 * j + 152 ≤ ms → sI G M M1 q st i → wp_X2_init_L48 G mc ms post (j + 1) q (nI i) kc ks M1 := by
    intro j
    induction j with
    | zero =>
      intro i hi M1 st kc ks hkc hks h
      have : i = 8 := by omega
      subst this
      rw [wp_X2_init_L48]
      exact ⟨fun _ => ⟨9, key2 8 0 (by omega) M1 st kc ks (by omega) (by omega) h⟩, fun z => absurd (by decide) z⟩
    | succ j ih =>
      intro i hi M1 st kc ks hkc hks h
      rw [wp_X2_init_L48]
      have hx := h
      obtain ⟨s0, hio, hf, hfr, h0, h1, ⟨r2, h2, r2'⟩, ⟨r3, h3, r3'⟩, -⟩ := hx
      rw [s0] at h0
      refine ⟨fun z => absurd z (kge (N := 8) (by omega) (by decide)), fun _ => ⟨_, _, h0, rfl, by omega, by omega, fun q1 M2 hq1 e2 => ⟨1, 16, by omega, by omega, s_X1_init (fs := []) (by omega) (by omega) (kup_at e2) (fun M3 q2 hq2 f3 g1 g2 => ?_)⟩⟩⟩
      have n12 : q1 ≠ q2 := fun z => by rw [← z, e2, kup_same] at hq2; cases hq2
      have hq2' : M1 q2 = none := by rw [← hq2]; exact (kup_off e2 (Ne.symm n12)).symm
      have m3 : M3 (st 2) = some (kO1 G 8 r2) := (f3 _ (hio.new hq2' (by omega)) (hio.new hq1 (by omega))).trans ((kup_off e2 (hio.new hq1 (by omega))).trans h2)
      refine ⟨_, _, _, m3, g1, kvin (show i < 8 by omega) (by omega), fun M4 e4 => ?_⟩
      rw [kcl (by omega)] at e4
      rw [kns]
      have hs := h.step2 (by omega) hq1 e2 hq2 f3 g1 g2 h2 e4
      exact ih (i + 1) (by omega) M4 _ _ _ (by omega) (by omega) hs
  unfold wp_X2_init
  refine ⟨8, by decide, by decide, by decide, by omega, by omega, fun q2 M3 hq2 e3 => ?_⟩
  have a2 : q ≠ q2 := fun z => by rw [z, hq2] at hM; cases hM
  refine ⟨_, (kup_off e3 a2).trans hM, by simp, fun M10 e10 => ⟨8, by decide, by decide, by decide, by omega, by omega, fun q14 M15 hq14 e15 => ?_⟩⟩
  have a14 : q ≠ q14 := fun z => by rw [z] at e10; rw [kup_at e10] at hq14; cases hq14
  have b14 : q2 ≠ q14 := fun z => by rw [← z, kup_off e10 (Ne.symm a2), kup_at e3] at hq14; cases hq14
  refine ⟨_, (kup_off e15 a14).trans (kup_at e10), by simp, fun M22 e22 => ⟨8, by decide, by decide, by decide, by omega, by omega, fun q26 M27 hq26 e27 => ?_⟩⟩
  have a26 : q ≠ q26 := fun z => by rw [z] at e22; rw [kup_at e22] at hq26; cases hq26
  have b26 : q2 ≠ q26 := fun z => by rw [← z, kup_off e22 (Ne.symm a2), kup_off e15 b14, kup_off e10 (Ne.symm a2), kup_at e3] at hq26; cases hq26
  have c26 : q14 ≠ q26 := fun z => by rw [← z, kup_off e22 (Ne.symm a14), kup_at e15] at hq26; cases hq26
  refine ⟨_, (kup_off e27 a26).trans (kup_at e22), by simp, fun M34 e34 => ⟨8, by decide, by decide, by decide, by omega, by omega, fun q38 M39 hq38 e39 => ?_⟩⟩
  have a38 : q ≠ q38 := fun z => by rw [z] at e34; rw [kup_at e34] at hq38; cases hq38
  have b38 : q2 ≠ q38 := fun z => by rw [← z, kup_off e34 (Ne.symm a2), kup_off e27 b26, kup_off e22 (Ne.symm a2), kup_off e15 b14, kup_off e10 (Ne.symm a2), kup_at e3] at hq38; cases hq38
  have c38 : q14 ≠ q38 := fun z => by rw [← z, kup_off e34 (Ne.symm a14), kup_off e27 c26, kup_off e22 (Ne.symm a14), kup_at e15] at hq38; cases hq38
  have d38 : q26 ≠ q38 := fun z => by rw [← z, kup_off e34 (Ne.symm a26), kup_at e27] at hq38; cases hq38
  refine ⟨_, (kup_off e39 a38).trans (kup_at e34), by simp, fun M46 e46 => ⟨120, by decide, by decide, by decide, by omega, by omega, fun q50 M51 hq50 e51 => ?_⟩⟩
  have a50 : q ≠ q50 := fun z => by rw [z] at e46; rw [kup_at e46] at hq50; cases hq50
  have b50 : q2 ≠ q50 := fun z => by rw [← z, kup_off e46 (Ne.symm a2), kup_off e39 b38, kup_off e34 (Ne.symm a2), kup_off e27 b26, kup_off e22 (Ne.symm a2), kup_off e15 b14, kup_off e10 (Ne.symm a2), kup_at e3] at hq50; cases hq50
  have c50 : q14 ≠ q50 := fun z => by rw [← z, kup_off e46 (Ne.symm a14), kup_off e39 c38, kup_off e34 (Ne.symm a14), kup_off e27 c26, kup_off e22 (Ne.symm a14), kup_at e15] at hq50; cases hq50
  have d50 : q26 ≠ q50 := fun z => by rw [← z, kup_off e46 (Ne.symm a26), kup_off e39 d38, kup_off e34 (Ne.symm a26), kup_at e27] at hq50; cases hq50
  have f50 : q38 ≠ q50 := fun z => by rw [← z, kup_off e46 (Ne.symm a38), kup_at e39] at hq50; cases hq50
  refine ⟨_, (kup_off e51 a50).trans (kup_at e46), by simp, fun M58 e58 => ⟨9, ?_⟩⟩
  have w2 : M58 q2 = some (kI G 8 (fun _ => 0)) := by rw [kup_off e58 (Ne.symm a2), kup_off e51 b50, kup_off e46 (Ne.symm a2), kup_off e39 b38, kup_off e34 (Ne.symm a2), kup_off e27 b26, kup_off e22 (Ne.symm a2), kup_off e15 b14, kup_off e10 (Ne.symm a2), kup_at e3]
  have w14 : M58 q14 = some (kO1 G 8 (fun _ => none)) := by rw [kup_off e58 (Ne.symm a14), kup_off e51 c50, kup_off e46 (Ne.symm a14), kup_off e39 c38, kup_off e34 (Ne.symm a14), kup_off e27 c26, kup_off e22 (Ne.symm a14), kup_at e15]
  have w26 : M58 q26 = some (kO1 G 8 (fun _ => none)) := by rw [kup_off e58 (Ne.symm a26), kup_off e51 d50, kup_off e46 (Ne.symm a26), kup_off e39 d38, kup_off e34 (Ne.symm a26), kup_at e27]
  have w38 : M58 q38 = some (kI G 8 (fun _ => 0)) := by rw [kup_off e58 (Ne.symm a38), kup_off e51 f50, kup_off e46 (Ne.symm a38), kup_at e39]
  have w50 : M58 q50 = some (kI G 120 (fun _ => 0)) := by rw [kup_off e58 (Ne.symm a50), kup_at e51]
  have w0 : M58 q = some (kO 3 [.ref q2, .ref q14, .ref q26, .ref q38, .int 0, .ref q50, .int 0]) := kup_at e58
  have v14 : M q14 = none := by rw [← hq14, kup_off e10 (Ne.symm a14), kup_off e3 (Ne.symm b14)]
  have v26 : M q26 = none := by rw [← hq26, kup_off e22 (Ne.symm a26), kup_off e15 (Ne.symm c26), kup_off e10 (Ne.symm a26), kup_off e3 (Ne.symm b26)]
  have v38 : M q38 = none := by rw [← hq38, kup_off e34 (Ne.symm a38), kup_off e27 (Ne.symm d38), kup_off e22 (Ne.symm a38), kup_off e15 (Ne.symm c38), kup_off e10 (Ne.symm a38), kup_off e3 (Ne.symm b38)]
  have v50 : M q50 = none := by rw [← hq50, kup_off e46 (Ne.symm a50), kup_off e39 (Ne.symm f50), kup_off e34 (Ne.symm a50), kup_off e27 (Ne.symm d50), kup_off e22 (Ne.symm a50), kup_off e15 (Ne.symm c50), kup_off e10 (Ne.symm a50), kup_off e3 (Ne.symm b50)]
  let st : Nat → Nat := fun k => if k = 0 then q else if k = 1 then q2 else if k = 2 then q14 else if k = 3 then q26 else if k = 4 then q38 else q50
  refine key1 8 0 (by omega) M58 st _ _ (by omega) (by omega) ⟨rfl, ⟨fun i j hi hj e => ?_, fun i hi => ?_⟩, fun k hk1 hk => ?_, fun a e ha hne => ?_, w0, w2, ⟨_, w14, fun j _ hj => absurd hj (Nat.not_lt_zero j)⟩, ⟨_, w26, fun j _ hj => absurd hj (by omega)⟩, w38, w50, fun t ht => absurd ht (Nat.not_lt_zero t)⟩
  · rcases (show i = 0 ∨ i = 1 ∨ i = 2 ∨ i = 3 ∨ i = 4 ∨ i = 5 by omega) with rfl | rfl | rfl | rfl | rfl | rfl <;> rcases (show j = 0 ∨ j = 1 ∨ j = 2 ∨ j = 3 ∨ j = 4 ∨ j = 5 by omega) with rfl | rfl | rfl | rfl | rfl | rfl <;> first | rfl | exact absurd e (by assumption) | exact absurd e.symm (by assumption)
  · rcases (show i = 0 ∨ i = 1 ∨ i = 2 ∨ i = 3 ∨ i = 4 ∨ i = 5 by omega) with rfl | rfl | rfl | rfl | rfl | rfl
    · exact k_nn w0
    · exact k_nn w2
    · exact k_nn w14
    · exact k_nn w26
    · exact k_nn w38
    · exact k_nn w50
  · rcases (show k = 1 ∨ k = 2 ∨ k = 3 ∨ k = 4 ∨ k = 5 by omega) with rfl | rfl | rfl | rfl | rfl
    · exact hq2
    · exact v14
    · exact v26
    · exact v38
    · exact v50
  · have na : ∀ x, M x = none → a ≠ x := fun x hx z => by rw [z, hx] at ha; cases ha
    rw [kup_off e58 hne, kup_off e51 (na _ v50), kup_off e46 hne, kup_off e39 (na _ v38), kup_off e34 hne, kup_off e27 (na _ v26), kup_off e22 hne, kup_off e15 (na _ v14), kup_off e10 hne, kup_off e3 (na _ hq2)]; exact ha
theorem s_X0_init {post : k_M → Prop} {mc ms : Nat} (hmc : 3 ≤ mc) (hms : 83 ≤ ms) (hM : M q = some (kO 1 [.null, .null, .int 0, .int 0, .int 0, .int 0, .int 0]))
    (hp : ∀ (M1 : k_M) (a b c : Nat), M a = none → M b = none → M c = none → a ≠ b → a ≠ c → b ≠ c → (∀ x e, M x = some e → x ≠ q → M1 x = some e) → M1 q = some (kO 1 [.ref a, .ref b, .int 0, .int 0, .int 0, .int 0, .int 0]) → M1 a = some (kC G 64 (fun _ => 0)) → M1 b = some (kO 2 [.ref c, .long 0, .long 0]) → M1 c = some (kI G 16 (fun _ => 0)) → post M1) : wp_X0_init G mc ms post q M := by
  unfold wp_X0_init
  refine ⟨64, by decide, by decide, by decide, by omega, by omega, fun a M3 ha e3 => ?_⟩
  have na : q ≠ a := fun z => by rw [z, ha] at hM; cases hM
  refine ⟨_, (kup_off e3 na).trans hM, by simp, fun M10 e10 => ⟨by omega, by omega, fun b M14 hb e14 => ?_⟩⟩
  have nb : q ≠ b := fun z => by rw [z] at e10; rw [kup_at e10] at hb; cases hb
  have nab : a ≠ b := fun z => by rw [← z, kup_off e10 (Ne.symm na), kup_at e3] at hb; cases hb
  have vb : M b = none := by rw [← hb, kup_off e10 (Ne.symm nb), kup_off e3 (Ne.symm nab)]
  refine ⟨1, 16, by omega, by omega, s_X1_init (fs := []) (by omega) (by omega) (kup_at e14) (fun M20 c hc f g1 g2 => ?_)⟩
  have nbc : b ≠ c := fun z => by rw [← z, kup_at e14] at hc; cases hc
  have nc : q ≠ c := fun z => by rw [← z, kup_off e14 nb, kup_at e10] at hc; cases hc
  have nac : a ≠ c := fun z => by rw [← z, kup_off e14 nab, kup_off e10 (Ne.symm na), kup_at e3] at hc; cases hc
  have vc : M c = none := by rw [← hc, kup_off e14 (Ne.symm nbc), kup_off e10 (Ne.symm nc), kup_off e3 (Ne.symm nac)]
  refine ⟨_, (f q nc nb).trans ((kup_off e14 nb).trans (kup_at e10)), by simp, fun M25 e25 => ⟨by omega, by omega, ?_⟩⟩
  refine hp M25 a b c ha vb vc nab nac nbc (fun x e hx hne => ?_) (kup_at e25) ?_ ((kup_off e25 (Ne.symm nb)).trans g1) ((kup_off e25 (Ne.symm nc)).trans g2)
  · have nx : ∀ y, M y = none → x ≠ y := fun y hy z => by rw [z, hy] at hx; cases hx
    rw [kup_off e25 hne, f x (nx _ vc) (nx _ vb), kup_off e14 (nx _ vb), kup_off e10 hne, kup_off e3 (nx _ ha)]; exact hx
  · rw [kup_off e25 (Ne.symm na), f a nac nab, kup_off e14 nab, kup_off e10 (Ne.symm na), kup_at e3]
theorem s_J4_init {post : k_M → Prop} {mc ms : Nat} (hmc : 1 ≤ mc) (hms : 16 ≤ ms) (hM : M q = some (kO 0 [.null, .int 0, .int 0, .int 0]))
    (hp : ∀ (M1 : k_M) (b : Nat), M b = none → (∀ x, x ≠ q → x ≠ b → M1 x = M x) → M1 q = some (kO 0 [.ref b, .int 0, .int 0, .int 0]) → M1 b = some (kY G 16 (fun _ => 0)) → post M1) : wp_J4_init_da8c8 G mc ms post q M := by
  unfold wp_J4_init_da8c8
  refine ⟨1, 16, by omega, by omega, ?_⟩
  unfold wp_J5_init_d00df
  refine ⟨fun z => absurd z (by decide), fun _ => ⟨16, by decide, by decide, by decide, by omega, by omega, fun b M3 hb e3 => ?_⟩⟩
  have nb : q ≠ b := fun z => by rw [z, hb] at hM; cases hM
  refine ⟨_, (kup_off e3 nb).trans hM, by simp, fun M10 e10 => ⟨by decide, by decide, _, kup_at e10, by simp, fun M14 e14 => ⟨by omega, by omega, by omega, by omega, ?_⟩⟩⟩
  exact hp M14 b hb (fun x hx hxb => (kup_off e14 hx).trans ((kup_off e10 hx).trans (kup_off e3 hxb))) (kup_at e14) ((kup_off e14 (Ne.symm nb)).trans ((kup_off e10 (Ne.symm nb)).trans (kup_at e3)))
end IN1
