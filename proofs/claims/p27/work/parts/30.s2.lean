/-! ===== the State: its cells, and what they mean ===== -/
def kArr (G : k_G) (M : k_M) (a n : Nat) (f : Nat → Int32) : Prop := ∃ g, M a = some (kI G n g) ∧ ∀ i, i < n → g i = f i
abbrev kSV : Type := (Nat → Int32) × (Nat → Bool)
def cStp (G : k_G) (M : k_M) (a q : Nat) (s : kSV) : Prop := ∃ e l g, M a = some (kO 2 [.ref q, .long e, .long l]) ∧ M q = some (kI G 16 g) ∧ (∀ c, c < 16 → g c = s.1 c) ∧ ∀ i, i < 128 → kn e l i = s.2 i
/-- shares, helpers' stamps, messages' stamps, senders, messages, actors, events -/
abbrev kS : Type := (Nat → Int32) × (Nat → kSV) × (Nat → kSV) × (Nat → Int32) × Nat × (Nat → Int32) × Nat
abbrev kS.sh (S : kS) : Nat → Int32 := S.1
abbrev kS.hs (S : kS) : Nat → kSV := S.2.1
abbrev kS.ms (S : kS) : Nat → kSV := S.2.2.1
abbrev kS.sn (S : kS) : Nat → Int32 := S.2.2.2.1
abbrev kS.mc (S : kS) : Nat := S.2.2.2.2.1
abbrev kS.ac (S : kS) : Nat → Int32 := S.2.2.2.2.2.1
abbrev kS.ec (S : kS) : Nat := S.2.2.2.2.2.2
def cSt (G : k_G) (M : k_M) (ad : Nat → Nat) (S : kS) : Prop :=
  M (ad 0) = some (kO 3 [.ref (ad 1), .ref (ad 2), .ref (ad 3), .ref (ad 4), .int (nI S.mc), .ref (ad 5), .int (nI S.ec)]) ∧
  kArr G M (ad 1) 8 S.sh ∧
  (∃ r, M (ad 2) = some (kO1 G 8 r) ∧ ∀ i, i < 8 → r i = some (ad (6 + 2 * i))) ∧
  (∃ r, M (ad 3) = some (kO1 G 8 r) ∧ ∀ i, i < 8 → r i = some (ad (22 + 2 * i))) ∧
  kArr G M (ad 4) 8 S.sn ∧
  kArr G M (ad 5) 120 S.ac ∧
  (∀ i, i < 8 → cStp G M (ad (6 + 2 * i)) (ad (7 + 2 * i)) (S.hs i)) ∧
  ∀ i, i < 8 → cStp G M (ad (22 + 2 * i)) (ad (23 + 2 * i)) (S.ms i)
def kInj (ad : Nat → Nat) : Prop := ∀ i j, i < 38 → j < 38 → ad i = ad j → i = j
theorem kInj.ne {ad : Nat → Nat} (h : kInj ad) {i j : Nat} (hi : i < 38) (hj : j < 38) (hij : i ≠ j) : ad i ≠ ad j := fun z => hij (h i j hi hj z)
theorem kArr.kept {G : k_G} {M M1 : k_M} {a n : Nat} {f : Nat → Int32} (h : kArr G M a n f) (e : M1 a = M a) : kArr G M1 a n f := by
  obtain ⟨g, h1, h2⟩ := h
  exact ⟨g, e.trans h1, h2⟩
theorem cStp.kept {G : k_G} {M M1 : k_M} {a q : Nat} {s : kSV} (h : cStp G M a q s) (e1 : M1 a = M a) (e2 : M1 q = M q) : cStp G M1 a q s := by
  obtain ⟨e, l, g, h1, h2, h3⟩ := h
  exact ⟨e, l, g, e1.trans h1, e2.trans h2, h3⟩
theorem cSt.kept {G : k_G} {M M1 : k_M} {ad : Nat → Nat} {S : kS} (h : cSt G M ad S) (e : ∀ k, k < 38 → M1 (ad k) = M (ad k)) : cSt G M1 ad S := by
  obtain ⟨h0, h1, ⟨r2, h2, h2'⟩, ⟨r3, h3, h3'⟩, h4, h5, h6, h7⟩ := h
  exact ⟨(e 0 (by omega)).trans h0, h1.kept (e 1 (by omega)), ⟨r2, (e 2 (by omega)).trans h2, h2'⟩, ⟨r3, (e 3 (by omega)).trans h3, h3'⟩, h4.kept (e 4 (by omega)), h5.kept (e 5 (by omega)),
    fun i hi => (h6 i hi).kept (e _ (by omega)) (e _ (by omega)), fun i hi => (h7 i hi).kept (e _ (by omega)) (e _ (by omega))⟩
theorem k_ixx {x : Int32} {n : Nat} (hn : n < 2 ^ 31) (h1 : ¬ x < 0) (h2 : ¬ nI n ≤ x) : ∃ j : Nat, j < n ∧ x = nI j := by
  rcases pk_ix x hn with h | h | h
  · exact absurd h h1
  · exact absurd h h2
  · exact h
/-- a number in the range 0 .. n - 1 -/
def inR (n : Nat) (x : Int32) : Bool := decide (¬ x < 0) && decide (¬ nI n ≤ x)
theorem inR_nI {n j : Nat} (hn : n < 2 ^ 31) (hj : j < n) : inR n (nI j) = true := by
  unfold inR
  rw [decide_eq_true (nI_pos (by omega)), decide_eq_true (kge hj hn)]; rfl
theorem inR_ex {n : Nat} {x : Int32} (hn : n < 2 ^ 31) (h : inR n x = true) : ∃ j : Nat, j < n ∧ x = nI j := by
  unfold inR at h
  rw [Bool.and_eq_true, decide_eq_true_eq, decide_eq_true_eq] at h
  exact k_ixx hn h.1 h.2
def inH (sh : Nat → Int32) (x : Int32) : Bool := inR 8 x && !(decide (sh x.toNatClampNeg = 0))
theorem inH_nI {sh : Nat → Int32} {j : Nat} (hj : j < 8) : inH sh (nI j) = !(decide (sh j = 0)) := by
  unfold inH
  rw [inR_nI (by omega) hj, kcl (by omega), Bool.true_and]
theorem inH_ex {sh : Nat → Int32} {x : Int32} (h : inH sh x = true) : ∃ j : Nat, j < 8 ∧ x = nI j ∧ sh j ≠ 0 := by
  have h1 := h
  unfold inH at h1
  rw [Bool.and_eq_true] at h1
  obtain ⟨j, hj, rfl⟩ := inR_ex (by omega) h1.1
  rw [inH_nI hj] at h
  exact ⟨j, hj, rfl, by simpa using h⟩
theorem k01_nz {b : Bool} (h : ¬ k01 b = 0) : b = true := by cases b with | true => rfl | false => exact absurd rfl h
section S2
variable {G : k_G} {M : k_M} {ad : Nat → Nat} {S : kS} {post : Int32 → k_M → Prop}
theorem s_X2_isHelper {x : Int32} (hS : cSt G M ad S) (hp : post (k01 (inH S.sh x)) M) : wp_X2_isHelper G post (ad 0) x M := by
  obtain ⟨h0, ⟨g, hg, hge⟩, -⟩ := hS
  unfold wp_X2_isHelper
  refine ⟨fun h1 => ?_, fun h1 => ⟨fun h2 => ?_, fun h2 => ?_⟩⟩
  · rw [show inH S.sh x = false by simp [inH, inR, h1]] at hp; exact hp
  · rw [show inH S.sh x = false by unfold inH inR; rw [decide_eq_false (p := ¬ nI 8 ≤ x) (fun z => z h2)]; simp] at hp; exact hp
  · obtain ⟨j, hj, rfl⟩ := k_ixx (n := 8) (by omega) h1 h2
    rw [inH_nI hj] at hp
    refine ⟨_, _, h0, rfl, _, _, hg, vp_in_nI hj (by omega), ?_⟩
    rw [kcl (by omega), hge j hj]
    refine ⟨fun h3 => ?_, fun h3 => ?_⟩
    · rw [decide_eq_true h3] at hp; exact hp
    · rw [decide_eq_false h3] at hp; exact hp
theorem s_X2_isMessage {x : Int32} (hS : cSt G M ad S) (hp : post (k01 (inR S.mc x)) M) : wp_X2_isMessage G post (ad 0) x M := by
  obtain ⟨h0, -⟩ := hS
  unfold wp_X2_isMessage
  refine ⟨fun h1 => ?_, fun h1 => ⟨_, _, h0, rfl, fun h2 => ?_, fun h2 => ?_⟩⟩
  · rw [show inR S.mc x = false by simp [inR, h1]] at hp; exact hp
  · rw [show inR S.mc x = false by simp [inR, h2]] at hp; exact hp
  · rw [show inR S.mc x = true by simp [inR, h1, h2]] at hp; exact hp
theorem s_X2_isEvent {x : Int32} (hS : cSt G M ad S) (hp : post (k01 (inR S.ec x)) M) : wp_X2_isEvent G post (ad 0) x M := by
  obtain ⟨h0, -⟩ := hS
  unfold wp_X2_isEvent
  refine ⟨fun h1 => ?_, fun h1 => ⟨_, _, h0, rfl, fun h2 => ?_, fun h2 => ?_⟩⟩
  · rw [show inR S.ec x = false by simp [inR, h1]] at hp; exact hp
  · rw [show inR S.ec x = false by simp [inR, h2]] at hp; exact hp
  · rw [show inR S.ec x = true by simp [inR, h1, h2]] at hp; exact hp
/-- the stamp that a kind and a number name -/
def stOf (S : kS) (k x : Int32) : Option Nat := if k = 0 then (if inH S.sh x = true then some (6 + 2 * x.toNatClampNeg) else none) else (if inR S.mc x = true then some (22 + 2 * x.toNatClampNeg) else none)
theorem s_X2_stampOf {postq : Option Nat → k_M → Prop} {k x : Int32} (hmc : S.mc ≤ 8) (hS : cSt G M ad S) (hp : postq ((stOf S k x).map ad) M) : wp_X2_stampOf G postq (ad 0) k x M := by
  have hS0 := hS
  obtain ⟨h0, -, ⟨r2, h2, h2'⟩, ⟨r3, h3, h3'⟩, -⟩ := hS
  unfold wp_X2_stampOf
  unfold stOf at hp
  refine ⟨fun hk => ?_, fun hk => ?_⟩
  · rw [if_neg hk] at hp
    refine ⟨_, h0, s_X2_isMessage hS0 ⟨fun hz => ?_, fun hz => ?_⟩⟩
    · rw [if_neg (by rw [k01_z.mp hz]; decide)] at hp; exact hp
    · have hb := k01_nz hz
      obtain ⟨j, hj, rfl⟩ := inR_ex (by omega) hb
      rw [if_pos hb, kcl (by omega)] at hp
      refine ⟨_, _, h0, rfl, _, _, _, h3, vp_in_nI (show j < 8 by omega) (by omega), ?_, hp⟩
      rw [kcl (by omega)]; exact h3' j (by omega)
  · rw [if_pos hk] at hp
    refine ⟨_, h0, s_X2_isHelper hS0 ⟨fun hz => ?_, fun hz => ?_⟩⟩
    · rw [if_neg (by rw [k01_z.mp hz]; decide)] at hp; exact hp
    · have hb := k01_nz hz
      obtain ⟨j, hj, rfl, -⟩ := inH_ex hb
      rw [if_pos hb, kcl (by omega)] at hp
      refine ⟨_, _, h0, rfl, _, _, _, h2, vp_in_nI hj (by omega), ?_, hp⟩
      rw [kcl (by omega)]; exact h2' j (by omega)
/-- the least i below n with p i, or n -/
def kMin (p : Nat → Bool) : Nat → Nat
  | 0 => 0
  | n + 1 => if kMin p n < n then kMin p n else if p n = true then n else n + 1
theorem kMin_spec (p : Nat → Bool) : ∀ n, kMin p n ≤ n ∧ (∀ i, i < kMin p n → p i = false) ∧ (kMin p n < n → p (kMin p n) = true) := by
  intro n
  induction n with
  | zero => exact ⟨Nat.le_refl 0, fun i h => absurd h (Nat.not_lt_zero i), fun h => absurd h (Nat.lt_irrefl 0)⟩
  | succ n ih =>
    obtain ⟨h1, h2, h3⟩ := ih
    rw [kMin]
    by_cases hc : kMin p n < n
    · rw [if_pos hc]
      exact ⟨by omega, h2, fun _ => h3 hc⟩
    · rw [if_neg hc]
      have e : kMin p n = n := by omega
      rw [e] at h2
      by_cases hp : p n = true
      · rw [if_pos hp]
        exact ⟨by omega, h2, fun _ => hp⟩
      · rw [if_neg hp]
        refine ⟨Nat.le_refl _, fun i hi => ?_, fun h => absurd h (Nat.lt_irrefl _)⟩
        rcases Nat.lt_succ_iff_lt_or_eq.mp hi with h | h
        · exact h2 i h
        · rw [h]; simpa using hp
theorem kMin_is {p : Nat → Bool} {n i : Nat} (hi : i < n) (hp : p i = true) (hl : ∀ j, j < i → p j = false) : kMin p n = i := by
  obtain ⟨h1, h2, h3⟩ := kMin_spec p n
  rcases Nat.lt_trichotomy (kMin p n) i with h | h | h
  · have := h3 (by omega); rw [hl _ h] at this; cases this
  · exact h
  · have := h2 i h; rw [hp] at this; cases this
theorem kMin_no {p : Nat → Bool} {n : Nat} (hl : ∀ j, j < n → p j = false) : kMin p n = n := by
  obtain ⟨h1, h2, h3⟩ := kMin_spec p n
  rcases Nat.lt_or_ge (kMin p n) n with h | h
  · have := h3 h; rw [hl _ h] at this; cases this
  · omega
/-- the least one as an answer: NONE if there is none -/
def kAns (p : Nat → Bool) (n : Nat) : Int32 := if kMin p n < n then nI (kMin p n) else -6
theorem s_X2_lowestFree (hS : cSt G M ad S) (hp : post (kAns (fun i => decide (S.sh i = 0)) 8) M) : wp_X2_lowestFreeHelper G post (ad 0) M := by
  have key : ∀ (j i : Nat), i + j = 8 → (∀ k, k < i → S.sh k ≠ 0) → wp_X2_lowestFreeHelper_L2 G post (j + 1) (ad 0) (nI i) M := by
    intro j
    induction j with
    | zero =>
      intro i hi hl
      have : i = 8 := by omega
      subst this
      rw [wp_X2_lowestFreeHelper_L2]
      unfold kAns at hp
      rw [kMin_no (fun k hk => decide_eq_false (hl k hk))] at hp
      exact ⟨fun _ => hp, fun h0 => absurd (by decide) h0⟩
    | succ j ih =>
      intro i hi hl
      rw [wp_X2_lowestFreeHelper_L2]
      refine ⟨fun h0 => absurd h0 (kge (N := 8) (by omega) (by decide)), fun _ => ⟨_, hS.1, s_X2_isHelper hS ?_⟩⟩
      rw [inH_nI (by omega)]
      refine ⟨fun hz => ?_, fun hz => ?_⟩
      · have hb := k01_nz hz
        have := ih (i + 1) (by omega) (fun k hk => by
          rcases Nat.lt_succ_iff_lt_or_eq.mp hk with h | h
          · exact hl k h
          · subst h; simpa using hb)
        rw [← kns i] at this
        exact this
      · have hb := k01_z.mp hz
        have hz0 : S.sh i = 0 := by simpa using hb
        unfold kAns at hp
        rw [kMin_is (i := i) (by omega) (decide_eq_true hz0) (fun k hk => decide_eq_false (hl k hk)), if_pos (by omega)] at hp
        exact hp
  unfold wp_X2_lowestFreeHelper
  exact ⟨9, key 8 0 (by omega) (fun k hk => absurd hk (Nat.not_lt_zero k))⟩
/-- the lowest cells of a share, am at most -/
def lowC (sh am : Int32) : Nat → Int32
  | 0 => 0
  | c + 1 => if am ≤ nI (kCt (bt (lowC sh am c)) 32) then lowC sh am c else lowC sh am c ||| (sh &&& ((1 : Int32) <<< (nI c &&& 31)))
theorem s_X2_lowestCells {sh am : Int32} (hp : post (lowC sh am 16) M) : wp_X2_lowestCells G post sh am M := by
  have key : ∀ (j i : Nat), i + j = 16 → wp_X2_lowestCells_L4 G post (j + 1) sh am (lowC sh am i) (nI i) M := by
    intro j
    induction j with
    | zero =>
      intro i hi
      have : i = 16 := by omega
      subst this
      rw [wp_X2_lowestCells_L4]
      exact ⟨fun _ => hp, fun h0 => absurd (by decide) h0⟩
    | succ j ih =>
      intro i hi
      rw [wp_X2_lowestCells_L4]
      have ih1 := ih (i + 1) (by omega)
      rw [← kns i, lowC] at ih1
      refine ⟨fun h0 => absurd h0 (kge (N := 16) (by omega) (by decide)), fun _ => s_bitCountI ⟨fun hc => ?_, fun hc y hy => ?_⟩⟩
      · rw [if_pos hc] at ih1; exact ih1
      · rw [if_neg hc] at ih1; rw [hy]; exact ih1
  unfold wp_X2_lowestCells
  exact ⟨17, key 16 0 (by omega)⟩
end S2
