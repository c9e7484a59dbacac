/-! ===== the Pad: commas, brackets, a sign, the whole text ===== -/
theorem k_narz (b : Bool) : narrow .boolean (.int (k01 b)) = .int (k01 b) := by cases b <;> decide
theorem k_nar1 : narrow .boolean (.int (1 : Int32)) = .int (1 : Int32) := by decide
theorem k_nar0 : narrow .boolean (.int (0 : Int32)) = .int (0 : Int32) := by decide
theorem land_le {a b : Nat} : a &&& b ≤ a := Nat.and_le_left
theorem k_dec0 {b : Prop} [Decidable b] (h : k01 (!(decide b)) = 0) : b := by
  have := k01_z.mp h
  simpa using this
theorem k_decn {b : Prop} [Decidable b] (h : ¬ k01 (!(decide b)) = 0) : ¬ b := by
  have := k01_nz h
  simpa using this
section S0B
variable {G : k_G} {M : k_M} {pp : Nat → Nat} {n : Nat} {s : kP}
theorem s_X0_acceptsOpening {post : Int32 → k_M → Prop} (hk : s.ok) (hS : pSt G M pp n s) (hn : pstep 40 s = none → post 0 M)
    (hs : ∀ (t : kP) (M1 : k_M), pstep 40 s = some t → (∀ a, a ≠ pp 0 → a ≠ pp 3 → M1 a = M a) → pSt G M1 pp n t → post 1 M1) : wp_X0_acceptsOpening G post (pp 0) M := by
  obtain ⟨⟨nm, h0, hnm⟩, ⟨e, l, h2⟩, hf, h3, h3'⟩ := hS
  obtain ⟨k1, k2, k3, k4, k5⟩ := hk
  have n03 : pp 0 ≠ pp 3 := kOI h0 h3
  have n02 : pp 0 ≠ pp 2 := by
    intro z
    rw [z, h2] at h0
    cases h0
  have pst : pstep 40 s = if s.sg = 0 ∧ s.sz ≠ 1 then some (s.fi, s.sz / 2, 0, s.nu, s.hf) else none := by
    unfold pstep
    rw [if_neg (by omega), if_pos rfl]
  rw [pst] at hn
  unfold wp_X0_acceptsOpening
  refine ⟨_, _, h0, rfl, fun h => ?_, fun h => ⟨_, _, h0, rfl, fun h1 => ?_, fun h1 => ?_⟩⟩
  · exact hn (by rw [if_neg]; intro z; exact h (by rw [z.1]; rfl))
  · have hsg : s.sg = 0 := (k_sg (b := 0) (by omega) (by omega)).mp h
    have hsz : s.sz ≠ 1 := fun z => h1 (by rw [z]; rfl)
    refine ⟨_, _, h0, rfl, _, h0, by simp, fun M1 e1 => ?_⟩
    have ed : nI s.sz / (2 : Int32) = nI (s.sz / 2) := pk_div (a := s.sz) (d := 2) (by omega) (by omega) (by omega)
    rw [ed] at e1
    refine hs (s.fi, s.sz / 2, 0, s.nu, s.hf) M1 (by rw [pst, if_pos ⟨hsg, hsz⟩]) (fun a a0 a3 => kup_off e1 a0) ⟨⟨nm, ?_, fun z => by cases z⟩, ⟨e, l, (kup_off e1 n02.symm).trans h2⟩, hf, (kup_off e1 n03.symm).trans h3, fun c hc => h3' c ?_⟩
    · rw [kup_at e1, hsg]; rfl
    · unfold kP.bnd at hc ⊢
      rw [if_pos hsg]
      exact hc
  · have hsz : s.sz = 1 := (k_sg (b := 1) (by omega) (by omega)).mp h1
    exact hn (by rw [if_neg]; intro z; exact z.2 hsz)
theorem s_X0_acceptsComma {post : Int32 → k_M → Prop} (hk : s.ok) (hS : pSt G M pp n s) (hn : pstep 44 s = none → post 0 M)
    (hs : ∀ (t : kP) (M1 : k_M), pstep 44 s = some t → (∀ a, a ≠ pp 0 → a ≠ pp 3 → M1 a = M a) → pSt G M1 pp n t → post 1 M1) : wp_X0_acceptsComma G post (pp 0) M := by
  obtain ⟨⟨nm, h0, hnm⟩, ⟨e, l, h2⟩, hf, h3, h3'⟩ := hS
  obtain ⟨k1, k2, k3, k4, k5⟩ := hk
  have n03 : pp 0 ≠ pp 3 := kOI h0 h3
  have n02 : pp 0 ≠ pp 2 := by
    intro z
    rw [z, h2] at h0
    cases h0
  have hl : s.fi &&& s.sz ≤ s.fi := land_le
  have pst : pstep 44 s = if s.sg ≠ 0 ∧ s.sz ≠ 16 ∧ s.fi &&& s.sz = 0 then some (s.fi + s.sz, s.sz, 0, s.nu, s.hf) else none := by
    unfold pstep
    rw [if_neg (by omega), if_neg (by omega), if_pos rfl]
  rw [pst] at hn
  unfold wp_X0_acceptsComma
  refine ⟨_, _, h0, rfl, fun h => ?_, fun h => ⟨_, _, h0, rfl, fun h1 => ?_, fun h1 => ⟨_, h0, s_X0_isUpperHalf (by omega) h0 ⟨fun h4 => ?_, fun h4 => ?_⟩⟩⟩⟩
  · have hsg : s.sg = 0 := (k_sg (b := 0) (by omega) (by omega)).mp h
    exact hn (by rw [if_neg]; intro z; exact z.1 hsg)
  · have hsz : s.sz = 16 := (k_sg (b := 16) (by omega) (by omega)).mp h1
    exact hn (by rw [if_neg]; intro z; exact z.2.1 hsz)
  · have hsg : s.sg ≠ 0 := fun z => h (by rw [z]; rfl)
    have hsz : s.sz ≠ 16 := fun z => h1 (by rw [z]; rfl)
    have hup := k_dec0 h4
    refine ⟨_, _, h0, rfl, _, _, h0, rfl, _, h0, by simp, fun M1 e1 => ⟨_, kup_at e1, by simp, fun M2 e2 => ?_⟩⟩
    rw [nI_add] at e2
    have mf : ∀ a, a ≠ pp 0 → M2 a = M a := fun a ha => (kup_off e2 ha).trans (kup_off e1 ha)
    refine hs (s.fi + s.sz, s.sz, 0, s.nu, s.hf) M2 (by rw [pst, if_pos ⟨hsg, hsz, hup⟩]) (fun a a0 a3 => mf a a0) ⟨⟨nm, by rw [kup_at e2]; rfl, fun z => by cases z⟩, ⟨e, l, (mf _ n02.symm).trans h2⟩, hf, (mf _ n03.symm).trans h3, fun c hc => h3' c ?_⟩
    unfold kP.bnd at hc ⊢
    rw [if_neg hsg]
    exact hc
  · exact hn (by rw [if_neg]; intro z; exact k_decn h4 z.2.2)
theorem s_X0_acceptsClosing {post : Int32 → k_M → Prop} (hk : s.ok) (hS : pSt G M pp n s) (hn : pstep 41 s = none → post 0 M)
    (hs : ∀ (t : kP) (M1 : k_M), pstep 41 s = some t → (∀ a, a ≠ pp 0 → a ≠ pp 3 → M1 a = M a) → pSt G M1 pp n t → post 1 M1) : wp_X0_acceptsClosing G post (pp 0) M := by
  obtain ⟨⟨nm, h0, hnm⟩, ⟨e, l, h2⟩, hf, h3, h3'⟩ := hS
  have hk' := hk
  obtain ⟨k1, k2, k3, k4, k5⟩ := hk
  have n03 : pp 0 ≠ pp 3 := kOI h0 h3
  have n02 : pp 0 ≠ pp 2 := by
    intro z
    rw [z, h2] at h0
    cases h0
  have hl : s.fi &&& s.sz ≤ s.fi := land_le
  have pst : pstep 41 s = if s.sg ≠ 0 ∧ s.sz ≠ 16 ∧ s.fi &&& s.sz ≠ 0 then some (s.fi - s.sz, s.sz * 2, 2, s.nu, s.hf) else none := by
    unfold pstep
    rw [if_neg (by omega), if_neg (by omega), if_neg (by omega), if_pos rfl]
  rw [pst] at hn
  unfold wp_X0_acceptsClosing
  refine ⟨_, _, h0, rfl, fun h => ?_, fun h => ⟨_, _, h0, rfl, fun h1 => ?_, fun h1 => ⟨_, h0, s_X0_isUpperHalf (by omega) h0 ⟨fun h4 => ?_, fun h4 => ?_⟩⟩⟩⟩
  · have hsg : s.sg = 0 := (k_sg (b := 0) (by omega) (by omega)).mp h
    exact hn (by rw [if_neg]; intro z; exact z.1 hsg)
  · have hsz : s.sz = 16 := (k_sg (b := 16) (by omega) (by omega)).mp h1
    exact hn (by rw [if_neg]; intro z; exact z.2.1 hsz)
  · have hsg : s.sg ≠ 0 := fun z => h (by rw [z]; rfl)
    have hsz : s.sz ≠ 16 := fun z => h1 (by rw [z]; rfl)
    have hup := k_decn h4
    have hge : s.sz ≤ s.fi := by
      have h6 : ¬ s.fi / s.sz % 2 = 0 := fun z => hup ((and_pow k1 (by omega) k5).mpr z)
      rcases Nat.lt_or_ge s.fi s.sz with q | q
      · exact absurd (by rw [Nat.div_eq_of_lt q]) h6
      · exact q
    refine ⟨_, _, h0, rfl, _, _, h0, rfl, _, h0, by simp, fun M1 e1 => ⟨_, _, kup_at e1, rfl, _, kup_at e1, by simp, fun M2 e2 => ⟨_, kup_at e2, by simp, fun M3 e3 => ?_⟩⟩⟩
    rw [pk_sub hge, show (2 : Int32) = nI 2 from rfl, pk_mul] at e3
    have mf : ∀ a, a ≠ pp 0 → M3 a = M a := fun a ha => (kup_off e3 ha).trans ((kup_off e2 ha).trans (kup_off e1 ha))
    refine hs (s.fi - s.sz, s.sz * 2, 2, s.nu, s.hf) M3 (by rw [pst, if_pos ⟨hsg, hsz, hup⟩]) (fun a a0 a3 => mf a a0) ⟨⟨nm, by rw [kup_at e3]; rfl, fun z => by cases z⟩, ⟨e, l, (mf _ n02.symm).trans h2⟩, hf, (mf _ n03.symm).trans h3, fun c hc => h3' c ?_⟩
    have hb : c < s.fi - s.sz + s.sz * 2 := hc
    unfold kP.bnd
    rw [if_neg hsg]
    omega
  · exact hn (by rw [if_neg]; intro z; exact z.2.2 (k_dec0 h4))
theorem s_X0_accepts {post : Int32 → k_M → Prop} {c : Nat} (hc : c < 128) (hk : s.ok) (hS : pSt G M pp n s) (hn : pstep c s = none → post 0 M)
    (hs : ∀ (t : kP) (M1 : k_M), pstep c s = some t → (∀ a, a ≠ pp 0 → a ≠ pp 3 → M1 a = M a) → pSt G M1 pp n t → post 1 M1) : wp_X0_accepts G post (pp 0) (nI c) M := by
  have hS' := hS
  obtain ⟨⟨nm, h0, hnm⟩, -⟩ := hS
  have cmp : ∀ {k : Nat}, k < 128 → (nI c = nI k ↔ c = k) := fun hk => nI_eq (by omega) (by omega)
  have b21 : ¬ (48 ≤ c ∧ c ≤ 57) → wp_X0_accepts_b21 G post (pp 0) (nI c) M := by
    intro hnd
    unfold wp_X0_accepts_b21
    refine ⟨fun h40 => ⟨fun h44 => ⟨fun h41 => ?_, fun h41 => ?_⟩, fun h44 => ?_⟩, fun h40 => ?_⟩
    · refine hn ?_
      unfold pstep
      rw [if_neg hnd, if_neg (fun z => h40 (by rw [z]; rfl)), if_neg (fun z => h44 (by rw [z]; rfl)), if_neg (fun z => h41 (by rw [z]; rfl))]
    · have e : c = 41 := (cmp (k := 41) (by omega)).mp h41
      subst e
      refine ⟨_, h0, s_X0_acceptsClosing hk hS' (fun h => ⟨fun _ => hn h, fun z => absurd rfl z⟩) (fun t M1 h1 h2 h3 => ⟨fun z => absurd z (by decide), fun _ => hs t M1 h1 h2 h3⟩)⟩
    · have e : c = 44 := (cmp (k := 44) (by omega)).mp h44
      subst e
      exact ⟨_, h0, s_X0_acceptsComma hk hS' (fun h => ⟨k_nar0, hn h⟩) (fun t M1 h1 h2 h3 => ⟨k_nar1, hs t M1 h1 h2 h3⟩)⟩
    · have e : c = 40 := (cmp (k := 40) (by omega)).mp h40
      subst e
      exact ⟨_, h0, s_X0_acceptsOpening hk hS' (fun h => ⟨k_nar0, hn h⟩) (fun t M1 h1 h2 h3 => ⟨k_nar1, hs t M1 h1 h2 h3⟩)⟩
  unfold wp_X0_accepts
  refine ⟨fun h => b21 (fun z => absurd h (nI_nlt (a := c) (b := 48) z.1 (by omega))), fun h => ⟨fun h1 => b21 (fun z => absurd h1 (nI_nlt (a := 57) (b := c) z.2 (by omega))), fun h1 => ?_⟩⟩
  have g1 : 48 ≤ c := by
    rcases Nat.lt_or_ge c 48 with q | q
    · exact absurd (nI_lt (a := c) (b := 48) q (by omega)) h
    · exact q
  have g2 : c ≤ 57 := by
    rcases Nat.lt_or_ge 57 c with q | q
    · exact absurd (nI_lt (a := 57) (b := c) q (by omega)) h1
    · exact q
  obtain ⟨d, rfl⟩ : ∃ d, c = 48 + d := ⟨c - 48, by omega⟩
  have ed : nI (48 + d) - (48 : Int32) = nI d := by
    have := pk_sub (a := 48 + d) (b := 48) (by omega)
    rw [Nat.add_sub_cancel_left] at this
    exact this
  rw [ed]
  exact ⟨_, h0, s_X0_acceptsDigit (by omega) hk hS' (fun h => ⟨k_nar0, hn h⟩) (fun t M1 h1 h2 h3 => ⟨k_nar1, hs t M1 h1 h2 h3⟩)⟩
/-- the pad at rest: its text, and cells that a reading uses -/
def cPad (G : k_G) (M : k_M) (pp : Nat → Nat) (ch : Nat → Nat) (n : Nat) : Prop :=
  (∃ a b c d : Int32, M (pp 0) = some (kO 1 [.ref (pp 1), .ref (pp 2), .int (nI n), .int a, .int b, .int c, .int d])) ∧
  (∃ g, M (pp 1) = some (kC G 64 g) ∧ ∀ i, i < n → g i = nI (ch i) ∧ ch i < 128) ∧
  (∃ e l, M (pp 2) = some (kO 2 [.ref (pp 3), .long e, .long l])) ∧
  ∃ hf, M (pp 3) = some (kI G 16 hf)
theorem prun_none {ch : Nat → Nat} {i : Nat} (h : prun ch i = none) : ∀ k, prun ch (i + k) = none := by
  intro k
  induction k with
  | zero => exact h
  | succ k ih => rw [← Nat.add_assoc, prun, ih]; rfl
/-- what the pad's stamp holds behind a reading without a fault -/
def pHf (ch : Nat → Nat) (n : Nat) : Nat → Int32 := match prun ch n with
  | none => fun _ => 0
  | some s => s.hf
theorem s_X0_read {post : Int32 → k_M → Prop} {ch : Nat → Nat} (n13 : pp 1 ≠ pp 3) (hn : n ≤ 64) (hS : cPad G M pp ch n)
    (hp : ∀ M1 : k_M, (∀ a, a ≠ pp 0 → a ≠ pp 3 → M1 a = M a) → cPad G M1 pp ch n → (pFault ch n = -6 → ∃ hf, M1 (pp 3) = some (kI G 16 hf) ∧ ∀ c, c < 16 → hf c = pHf ch n c) → post (pFault ch n) M1) : wp_X0_read G post (pp 0) M := by
  obtain ⟨⟨a, b, c, d, h0⟩, ⟨g, h1, h1'⟩, ⟨e, l, h2⟩, hf, h3⟩ := hS
  have n03 : pp 0 ≠ pp 3 := kOI h0 h3
  have n02 : pp 0 ≠ pp 2 := by
    intro z
    rw [z, h2] at h0
    cases h0
  have n10 : pp 1 ≠ pp 0 := by
    intro z
    rw [z, h0] at h1
    cases h1
  have fin : ∀ (M1 : k_M) (t : kP) (v : Int32), (∀ a, a ≠ pp 0 → a ≠ pp 3 → M1 a = M a) → pSt G M1 pp n t → v = pFault ch n → (pFault ch n = -6 → prun ch n = some t ∧ t.bnd = 16) → post v M1 := by
    intro M1 t v f1 hs hv hz
    subst hv
    obtain ⟨⟨nm, q0, -⟩, ⟨e', l', q2⟩, hf', q3, q3'⟩ := hs
    refine hp M1 f1 ⟨⟨_, _, _, _, q0⟩, ⟨g, (f1 _ n10 n13).trans h1, h1'⟩, ⟨e', l', q2⟩, hf', q3⟩ (fun hf6 => ⟨hf', q3, fun c hc => ?_⟩)
    obtain ⟨z1, z2⟩ := hz hf6
    unfold pHf
    rw [z1]
    exact q3' c (by omega)
  have key : ∀ (j i : Nat), i + j = n → ∀ (M1 : k_M) (s : kP), prun ch i = some s → (∀ a, a ≠ pp 0 → a ≠ pp 3 → M1 a = M a) → pSt G M1 pp n s → wp_X0_read_L18 G post (j + 1) (pp 0) (nI i) M1 := by
    intro j
    induction j with
    | zero =>
      intro i hi M1 s hr f1 hs
      have : i = n := by omega
      subst this
      have hs' := hs
      obtain ⟨⟨nm, q0, -⟩, -, hf', q3, -⟩ := hs
      obtain ⟨k1, k2, k3, k4, k5⟩ := prun_ok hr
      have none_ : ∀ k, k < i → (prun ch (k + 1)).isNone = false := by
        intro k hk
        cases hq : prun ch (k + 1) with
        | some _ => rfl
        | none =>
          have := prun_none hq (i - (k + 1))
          rw [show k + 1 + (i - (k + 1)) = i by omega, hr] at this
          cases this
      have ef : pFault ch i = pEnd i (some s) := by
        unfold pFault
        rw [kMin_no none_, if_neg (Nat.lt_irrefl i), hr]
      rw [wp_X0_read_L18]
      refine ⟨_, _, q0, rfl, fun _ => ⟨_, _, q0, rfl, fun hz => ?_, fun hz => ⟨_, _, q0, rfl, fun hy => ?_, fun hy => ?_⟩⟩, fun h => absurd (nI_le (Nat.le_refl _) (by omega)) h⟩
      · have hsz : s.sz ≠ 16 := fun z => hz (by rw [z]; rfl)
        have ev : pEnd i (some s) = nI i := if_neg (fun z => hsz z.1)
        exact ⟨_, _, q0, rfl, fin M1 s _ f1 hs' (by rw [ef, ev]) (fun z => by rw [ef, ev] at z; exact absurd z (fun y => absurd (show nI i < 0 by rw [y]; decide) (nI_pos (by omega))))⟩
      · have hsg : s.sg = 0 := (k_sg (b := 0) (by omega) (by omega)).mp hy
        have ev : pEnd i (some s) = nI i := if_neg (fun z => z.2 hsg)
        exact ⟨_, _, q0, rfl, fin M1 s _ f1 hs' (by rw [ef, ev]) (fun z => by rw [ef, ev] at z; exact absurd z (fun y => absurd (show nI i < 0 by rw [y]; decide) (nI_pos (by omega))))⟩
      · have hsz : s.sz = 16 := (k_sg (b := 16) (by omega) (by omega)).mp hz
        have hsg : s.sg ≠ 0 := fun z => hy (by rw [z]; rfl)
        have ev : pEnd i (some s) = -6 := if_pos ⟨hsz, hsg⟩
        refine fin M1 s _ f1 hs' (by rw [ef, ev]) (fun _ => ⟨hr, ?_⟩)
        unfold kP.bnd
        rw [if_neg hsg]
        omega
    | succ j ih =>
      intro i hi M1 s hr f1 hs
      have hs' := hs
      obtain ⟨⟨nm, q0, -⟩, -, hf', q3, -⟩ := hs
      rw [wp_X0_read_L18]
      refine ⟨_, _, q0, rfl, fun h => absurd h (kge (by omega) (by omega)), fun _ => ⟨_, _, q0, rfl, _, _, (f1 _ n10 n13).trans h1, kvin (show i < 64 by omega) (by omega), _, q0, ?_⟩⟩
      rw [kcl (by omega), (h1' i (by omega)).1]
      refine s_X0_accepts (h1' i (by omega)).2 (prun_ok hr) hs' (fun hno => ⟨fun z => absurd rfl z, fun _ => ?_⟩) (fun t M2 h1 h2 h3 => ⟨fun _ => ?_, fun z => absurd z (by decide)⟩)
      · have hrn : prun ch (i + 1) = none := by rw [prun, hr]; exact hno
        have none_ : ∀ k, k < i → (prun ch (k + 1)).isNone = false := by
          intro k hk
          cases hq : prun ch (k + 1) with
          | some _ => rfl
          | none =>
            have := prun_none hq (i - (k + 1))
            rw [show k + 1 + (i - (k + 1)) = i by omega, hr] at this
            cases this
        have em : kMin (fun i => (prun ch (i + 1)).isNone) n = i := kMin_is (by omega) (by show (prun ch (i + 1)).isNone = true; rw [hrn]; rfl) none_
        have ef : pFault ch n = nI i := by
          unfold pFault
          rw [em, if_pos (by omega)]
        exact fin M1 s _ f1 hs' ef.symm (fun z => by rw [ef] at z; exact absurd z (fun y => absurd (show nI i < 0 by rw [y]; decide) (nI_pos (by omega))))
      · have hrs : prun ch (i + 1) = some t := by rw [prun, hr]; exact h1
        have := ih (i + 1) (by omega) M2 t hrs (fun a a0 a3 => (h2 a a0 a3).trans (f1 a a0 a3)) h3
        rw [← kns i] at this
        exact this
  unfold wp_X0_read
  refine ⟨_, h0, by simp, fun M1 e1 => ⟨_, kup_at e1, by simp, fun M2 e2 => ⟨_, kup_at e2, by simp, fun M3 e3 => ⟨n + 1, ?_⟩⟩⟩⟩
  have mf : ∀ a, a ≠ pp 0 → M3 a = M a := fun a ha => (kup_off e3 ha).trans ((kup_off e2 ha).trans (kup_off e1 ha))
  refine key n 0 (by omega) M3 kp0 rfl (fun a a0 _ => mf a a0) ⟨⟨d, by rw [kup_at e3]; rfl, fun z => by cases z⟩, ⟨e, l, (mf _ n02.symm).trans h2⟩, hf, (mf _ n03.symm).trans h3, fun c hc => ?_⟩
  exact absurd hc (Nat.not_lt_zero c)
end S0B
