/-! ===== the Pad, and its reading sign by sign ===== -/
/-- where the reading stands: first, size, stage, number, heights -/
abbrev kP : Type := Nat × Nat × Nat × Nat × (Nat → Int32)
abbrev kP.fi (s : kP) : Nat := s.1
abbrev kP.sz (s : kP) : Nat := s.2.1
abbrev kP.sg (s : kP) : Nat := s.2.2.1
abbrev kP.nu (s : kP) : Nat := s.2.2.2.1
abbrev kP.hf (s : kP) : Nat → Int32 := s.2.2.2.2
def kP.ok (s : kP) : Prop := (s.sz = 1 ∨ s.sz = 2 ∨ s.sz = 4 ∨ s.sz = 8 ∨ s.sz = 16) ∧ s.fi + s.sz ≤ 16 ∧ s.sg ≤ 2 ∧ s.nu ≤ 250 ∧ s.fi % s.sz = 0
def kP.bnd (s : kP) : Nat := if s.sg = 0 then s.fi else s.fi + s.sz
def kFill (f : Nat → Int32) (a n v : Nat) : Nat → Int32 := fun c => if a ≤ c ∧ c < a + n then nI v else f c
theorem kup_at {M M1 : k_M} {a : Nat} {v : Option va_E} (e : M1 = va_up M a v) : M1 a = v := by rw [e, kup_same]
theorem kup_off {M M1 : k_M} {a b : Nat} {v : Option va_E} (e : M1 = va_up M a v) (h : b ≠ a) : M1 b = M b := by rw [e, kup_ne h]
def pnum (c : Nat) (s : kP) : Nat := if s.sg = 1 then s.nu * 10 + (c - 48) else c - 48
def pstep (c : Nat) (s : kP) : Option kP :=
  if 48 ≤ c ∧ c ≤ 57 then
    (if s.sg = 2 ∨ (s.sg = 1 ∧ s.nu = 0) then none
     else if pnum c s ≤ 250 then some (s.fi, s.sz, 1, pnum c s, kFill s.hf s.fi s.sz (pnum c s)) else none)
  else if c = 40 then (if s.sg = 0 ∧ s.sz ≠ 1 then some (s.fi, s.sz / 2, 0, s.nu, s.hf) else none)
  else if c = 44 then (if s.sg ≠ 0 ∧ s.sz ≠ 16 ∧ s.fi &&& s.sz = 0 then some (s.fi + s.sz, s.sz, 0, s.nu, s.hf) else none)
  else if c = 41 then (if s.sg ≠ 0 ∧ s.sz ≠ 16 ∧ s.fi &&& s.sz ≠ 0 then some (s.fi - s.sz, s.sz * 2, 2, s.nu, s.hf) else none)
  else none
theorem and_pow {a n : Nat} (h : n = 1 ∨ n = 2 ∨ n = 4 ∨ n = 8 ∨ n = 16) (ha : a ≤ 16) (hm : a % n = 0) : a &&& n = 0 ↔ a / n % 2 = 0 := by
  rcases h with rfl | rfl | rfl | rfl | rfl <;> revert hm <;> revert ha <;> revert a <;> decide +kernel
theorem pstep_ok {c : Nat} {s t : kP} (hs : s.ok) (h : pstep c s = some t) : t.ok := by
  obtain ⟨h1, h2, h3, h4, h5⟩ := hs
  unfold pstep at h
  split at h
  · split at h
    · cases h
    · split at h
      · cases h
        refine ⟨h1, h2, by show (1:Nat) ≤ 2; omega, ?_, h5⟩
        assumption
      · cases h
  · split at h
    · split at h
      · cases h
        rename_i hc
        refine ⟨?_, ?_, by show (0:Nat) ≤ 2; omega, h4, ?_⟩
        · show s.sz / 2 = 1 ∨ s.sz / 2 = 2 ∨ s.sz / 2 = 4 ∨ s.sz / 2 = 8 ∨ s.sz / 2 = 16
          omega
        · show s.fi + s.sz / 2 ≤ 16
          omega
        · show s.fi % (s.sz / 2) = 0
          rcases h1 with e | e | e | e | e <;> rw [e] at h5 hc ⊢ <;> omega
      · cases h
    · split at h
      · split at h
        · cases h
          rename_i hc
          have h6 := (and_pow h1 (by omega) h5).mp hc.2.2
          refine ⟨h1, ?_, by show (0:Nat) ≤ 2; omega, h4, ?_⟩
          · show s.fi + s.sz + s.sz ≤ 16
            rcases h1 with e | e | e | e | e <;> rw [e] at h5 h6 hc h2 ⊢ <;> omega
          · show (s.fi + s.sz) % s.sz = 0
            rw [Nat.add_mod_right]; exact h5
        · cases h
      · split at h
        · split at h
          · cases h
            rename_i hc
            have h6 : ¬ s.fi / s.sz % 2 = 0 := fun z => hc.2.2 ((and_pow h1 (by omega) h5).mpr z)
            refine ⟨?_, ?_, by show (2:Nat) ≤ 2; omega, h4, ?_⟩
            · show s.sz * 2 = 1 ∨ s.sz * 2 = 2 ∨ s.sz * 2 = 4 ∨ s.sz * 2 = 8 ∨ s.sz * 2 = 16
              omega
            · show s.fi - s.sz + s.sz * 2 ≤ 16
              rcases h1 with e | e | e | e | e <;> rw [e] at h5 h6 hc h2 ⊢ <;> omega
            · show (s.fi - s.sz) % (s.sz * 2) = 0
              rcases h1 with e | e | e | e | e <;> rw [e] at h5 h6 hc h2 ⊢ <;> omega
          · cases h
        · cases h
def kp0 : kP := (0, 16, 0, 0, fun _ => 0)
theorem kp0_ok : kp0.ok := ⟨by decide, by decide, by decide, by decide, by decide⟩
def prun (ch : Nat → Nat) : Nat → Option kP
  | 0 => some kp0
  | i + 1 => (prun ch i).bind (pstep (ch i))
theorem prun_ok {ch : Nat → Nat} : ∀ {i : Nat} {s : kP}, prun ch i = some s → s.ok := by
  intro i
  induction i with
  | zero => intro s h; cases h; exact kp0_ok
  | succ i ih =>
    intro s h
    rw [prun] at h
    cases hp : prun ch i with
    | none => rw [hp] at h; cases h
    | some t => rw [hp] at h; exact pstep_ok (ih hp) h
/-- the fault of a text of n signs; NONE if there is none -/
def pEnd (n : Nat) (o : Option kP) : Int32 := match o with
  | none => nI n
  | some s => if s.sz = 16 ∧ s.sg ≠ 0 then -6 else nI n
def pFault (ch : Nat → Nat) (n : Nat) : Int32 := if kMin (fun i => (prun ch (i + 1)).isNone) n < n then nI (kMin (fun i => (prun ch (i + 1)).isNone) n) else pEnd n (prun ch n)
/-- the cells of the pad -/
def pSt (G : k_G) (M : k_M) (pp : Nat → Nat) (n : Nat) (s : kP) : Prop :=
  (∃ nm : Int32, M (pp 0) = some (kO 1 [.ref (pp 1), .ref (pp 2), .int (nI n), .int (nI s.fi), .int (nI s.sz), .int (nI s.sg), .int nm]) ∧ (s.sg = 1 → nm = nI s.nu)) ∧
  (∃ e l, M (pp 2) = some (kO 2 [.ref (pp 3), .long e, .long l])) ∧
  ∃ hf, M (pp 3) = some (kI G 16 hf) ∧ ∀ c, c < s.bnd → hf c = s.hf c
section S0
variable {G : k_G} {M : k_M} {pp : Nat → Nat} {n : Nat} {s : kP}
theorem s_X0_fillRow {post : k_M → Prop} {a sz : Nat} {e l : Int64} {hf : Nat → Int32} {sg nm : Int32} (ha : a + sz ≤ 16)
    (h0 : M (pp 0) = some (kO 1 [.ref (pp 1), .ref (pp 2), .int (nI n), .int (nI a), .int (nI sz), .int sg, .int nm])) (h2 : M (pp 2) = some (kO 2 [.ref (pp 3), .long e, .long l])) (h3 : M (pp 3) = some (kI G 16 hf))
    (hp : ∀ (M1 : k_M) (g : Nat → Int32), (∀ a, a ≠ pp 3 → M1 a = M a) → M1 (pp 3) = some (kI G 16 g) → (∀ c, g c = if a ≤ c ∧ c < a + sz then nm else hf c) → post M1) : wp_X0_fillRow G post (pp 0) M := by
  have n0 : pp 0 ≠ pp 3 := kOI h0 h3
  have n2 : pp 2 ≠ pp 3 := kOI h2 h3
  have key : ∀ (j i : Nat), i + j = a + sz → a ≤ i → ∀ (M1 : k_M) (g : Nat → Int32), (∀ a, a ≠ pp 3 → M1 a = M a) → M1 (pp 3) = some (kI G 16 g) → (∀ c, g c = if a ≤ c ∧ c < i then nm else hf c) → wp_X0_fillRow_L5 G post (j + 1) (pp 0) (nI i) M1 := by
    intro j
    induction j with
    | zero =>
      intro i hi hai M1 g f1 f2 f3
      rw [wp_X0_fillRow_L5]
      have m0 := (f1 _ n0).trans h0
      refine ⟨_, _, m0, rfl, _, _, m0, rfl, ?_⟩
      rw [nI_add]
      refine ⟨fun _ => hp M1 g f1 f2 (fun c => by rw [f3 c, show i = a + sz by omega]), fun h => absurd (nI_le (by omega) (by omega)) h⟩
    | succ j ih =>
      intro i hi hai M1 g f1 f2 f3
      rw [wp_X0_fillRow_L5]
      have m0 := (f1 _ n0).trans h0
      refine ⟨_, _, m0, rfl, _, _, m0, rfl, ?_⟩
      rw [nI_add]
      refine ⟨fun h => absurd h (kge (by omega) (by omega)), fun _ => ⟨fun h => absurd h (kge (N := 16) (by omega) (by decide)), fun _ => ⟨_, _, m0, rfl, _, _, (f1 _ n2).trans h2, rfl, _, _, m0, rfl, _, _, f2, kvin (show i < 16 by omega) (by omega), fun M2 e2 => ?_⟩⟩⟩
      rw [kcl (by omega)] at e2
      have := ih (i + 1) (by omega) (by omega) M2 _ (fun b hb => by rw [e2, kup_ne hb]; exact f1 b hb) (by rw [e2, kup_same]) (fun c => ?_)
      · rw [← kns i] at this; exact this
      · by_cases hc : c = i
        · subst hc; rw [upd_s, if_pos ⟨hai, by omega⟩]
        · rw [upd_n hc, f3 c]
          have : (a ≤ c ∧ c < i + 1) ↔ (a ≤ c ∧ c < i) := by omega
          simp only [this]
  unfold wp_X0_fillRow
  refine ⟨_, _, h0, rfl, sz + 1, key sz a (by omega) (Nat.le_refl _) M hf (fun _ _ => rfl) h3 (fun c => ?_)⟩
  rw [if_neg (by omega)]
theorem nI_inj {a b : Nat} (ha : a < 2 ^ 31) (hb : b < 2 ^ 31) : nI a = nI b ↔ a = b := nI_eq ha hb
theorem s_X0_acceptsDigit {post : Int32 → k_M → Prop} {d : Nat} (hd : d ≤ 9) (hk : s.ok) (hS : pSt G M pp n s) (hn : pstep (48 + d) s = none → post 0 M)
    (hs : ∀ (t : kP) (M1 : k_M), pstep (48 + d) s = some t → (∀ a, a ≠ pp 0 → a ≠ pp 3 → M1 a = M a) → pSt G M1 pp n t → post 1 M1) : wp_X0_acceptsDigit G post (pp 0) (nI d) M := by
  obtain ⟨⟨nm, h0, hnm⟩, ⟨e, l, h2⟩, hf, h3, h3'⟩ := hS
  obtain ⟨k1, k2, k3, k4, k5⟩ := hk
  have n03 : pp 0 ≠ pp 3 := kOI h0 h3
  have n23 : pp 2 ≠ pp 3 := kOI h2 h3
  have n02 : pp 0 ≠ pp 2 := by
    intro z
    rw [z, h2] at h0
    cases h0
  have pst : pstep (48 + d) s = if s.sg = 2 ∨ (s.sg = 1 ∧ s.nu = 0) then none
     else if (if s.sg = 1 then s.nu * 10 + d else d) ≤ 250 then some (s.fi, s.sz, 1, (if s.sg = 1 then s.nu * 10 + d else d), kFill s.hf s.fi s.sz (if s.sg = 1 then s.nu * 10 + d else d)) else none := by
    unfold pstep pnum
    rw [if_pos (by omega), Nat.add_sub_cancel_left]
  rw [pst] at hn
  -- the common end: the longer number v
  have b46 : ∀ v : Nat, v < 10000 → v = (if s.sg = 1 then s.nu * 10 + d else d) → ¬ (s.sg = 2 ∨ (s.sg = 1 ∧ s.nu = 0)) → wp_X0_acceptsDigit_b46 G post (pp 0) (nI v) M := by
    intro v hv ev hc
    rw [if_neg hc, ← ev] at hn
    unfold wp_X0_acceptsDigit_b46
    refine ⟨fun h => ?_, fun h => ?_⟩
    · have hv250 : v ≤ 250 := (nI_leI (by omega) (by omega)).mp (show nI v ≤ nI 250 from h)
      refine ⟨_, h0, by simp, fun M1 e1 => ⟨_, kup_at e1, by simp, fun M2 e2 => ⟨_, kup_at e2, ?_⟩⟩⟩
      have m0 : M2 (pp 0) = some (kO 1 [.ref (pp 1), .ref (pp 2), .int (nI n), .int (nI s.fi), .int (nI s.sz), .int (1 : Int32), .int (nI v)]) := by rw [e2, kup_same]; rfl
      have mf : ∀ a, a ≠ pp 0 → M2 a = M a := fun a ha => by rw [e2, kup_ne ha, e1, kup_ne ha]
      refine s_X0_fillRow k2 m0 ((mf _ n02.symm).trans h2) ((mf _ n03.symm).trans h3) (fun M3 g f1 f2 f3 => ?_)
      refine hs _ M3 (by rw [pst, if_neg hc, ← ev, if_pos hv250]) (fun a a0 a3 => (f1 a a3).trans (mf a a0)) ⟨⟨nI v, (f1 _ n03).trans m0, fun _ => rfl⟩, ⟨e, l, (f1 _ n23).trans ((mf _ n02.symm).trans h2)⟩, g, f2, fun c hc2 => ?_⟩
      rw [f3 c]
      show _ = kFill s.hf s.fi s.sz v c
      unfold kFill
      by_cases hin : s.fi ≤ c ∧ c < s.fi + s.sz
      · rw [if_pos hin, if_pos hin]
      · rw [if_neg hin, if_neg hin]
        refine h3' c ?_
        have hb : c < s.fi + s.sz := hc2
        unfold kP.bnd
        split <;> omega
    · refine hn ?_
      rw [if_neg]
      intro z
      exact h (nI_le (b := 250) z (by omega))
  unfold wp_X0_acceptsDigit
  refine ⟨_, _, h0, rfl, fun h => ?_, fun h => ⟨_, _, h0, rfl, fun h1 => ?_, fun h1 => ⟨_, _, h0, rfl, fun h4 => ?_, fun h4 => ?_⟩⟩⟩
  · have : s.sg = 2 := (nI_inj (a := s.sg) (b := 2) (by omega) (by omega)).mp h
    exact hn (by rw [if_pos (Or.inl this)])
  · have hsg2 : s.sg ≠ 2 := fun z => h (by rw [z]; rfl)
    have hsg1 : s.sg ≠ 1 := fun z => h1 (by rw [z]; rfl)
    unfold wp_X0_acceptsDigit_b25
    refine ⟨_, _, h0, rfl, fun _ => b46 d (by omega) (by rw [if_neg hsg1]) (by omega), fun z => absurd z h1⟩
  · have hsg2 : s.sg ≠ 2 := fun z => h (by rw [z]; rfl)
    have hsg1 : s.sg = 1 := (nI_inj (a := s.sg) (b := 1) (by omega) (by omega)).mp h1
    have hnz : s.nu ≠ 0 := fun z => h4 (by rw [hnm hsg1, z]; rfl)
    unfold wp_X0_acceptsDigit_b25
    refine ⟨_, _, h0, rfl, fun z => absurd h1 z, fun _ => ⟨_, _, h0, rfl, ?_⟩⟩
    have ev : nm * (10 : Int32) + nI d = nI (s.nu * 10 + d) := by rw [hnm hsg1, show (10 : Int32) = nI 10 from rfl, pk_mul, nI_add]
    rw [ev]
    exact b46 _ (by omega) (by rw [if_pos hsg1]) (by omega)
  · have hsg1 : s.sg = 1 := (nI_inj (a := s.sg) (b := 1) (by omega) (by omega)).mp h1
    have hz : s.nu = 0 := by
      rw [hnm hsg1] at h4
      exact (nI_inj (a := s.nu) (b := 0) (by omega) (by omega)).mp h4
    exact hn (by rw [if_pos (Or.inr ⟨hsg1, hz⟩)])
theorem k_sg {a b : Nat} (ha : a ≤ 300) (hb : b ≤ 300) : nI a = nI b ↔ a = b := nI_eq (by omega) (by omega)
theorem s_X0_isUpperHalf {post : Int32 → k_M → Prop} {a b : Nat} {x1 x2 x5 x6 x7 : Value} (hb : a &&& b < 300) (h0 : M (pp 0) = some (kO 1 [x1, x2, x5, .int (nI a), .int (nI b), x6, x7])) (hp : post (k01 (!(decide (a &&& b = 0)))) M) : wp_X0_isUpperHalf G post (pp 0) M := by
  unfold wp_X0_isUpperHalf
  have e : nI a &&& nI b = nI (a &&& b) := by
    apply Int32.toBitVec_inj.mp
    rw [Int32.toBitVec_and]
    show BitVec.ofNat 32 a &&& BitVec.ofNat 32 b = BitVec.ofNat 32 (a &&& b)
    rw [← BitVec.ofNat_and]
  refine ⟨_, _, h0, rfl, _, _, h0, rfl, ?_⟩
  rw [e]
  refine ⟨fun h => ?_, fun h => ?_⟩
  · have : a &&& b = 0 := (k_sg (b := 0) (by omega) (by omega)).mp h
    rw [decide_eq_true this] at hp; exact hp
  · have : ¬ a &&& b = 0 := fun z => h (by rw [z]; rfl)
    rw [decide_eq_false this] at hp; exact hp
end S0
