/-! ===== the reference: its cells, and what they say of the class' state ===== -/
abbrev mO (am : Nat → Nat) (rc pl : Nat) (tl : Int32) : List Value := [.ref (am 1), .ref (am 2), .int (nI rc), .ref (am 3), .ref (am 4), .ref (am 5), .int (nI pl), .ref (am 6), .ref (am 7), .ref (am 8), .ref (am 9), .ref (am 10), .int tl]
def rSt (row : Nat → Int32) (p : Nat) (v : kSV) : Prop := (∀ c, c < 16 → hR row p c = v.1 c) ∧ ∀ i, i < 120 → kR2 row p i = v.2 i
def rS (S : kS) (row : Nat → Int32) : Prop :=
  row 0 = hset S 8 ∧ row 1 = nI S.mc ∧ row 2 = nI S.ec ∧ (∀ e, e < S.ec → row (3 + e) = S.ac e) ∧
  (∀ h, h < 8 → S.sh h ≠ 0 → row (123 + 21 * h) = S.sh h ∧ rSt row (123 + 21 * h) (S.hs h)) ∧
  ∀ m, m < S.mc → row (291 + 21 * m) = S.sn m ∧ rSt row (291 + 21 * m) (S.ms m)
def okV (ec : Nat) (v : kSV) : Prop := (∀ c, c < 16 → uI (v.1 c) ≤ ec) ∧ ∀ i, ec ≤ i → v.2 i = false
def okS (S : kS) : Prop :=
  S.mc ≤ 8 ∧ S.ec ≤ 120 ∧ (∀ h, h < 8 → ∀ i, 16 ≤ i → bt (S.sh h) i = false) ∧ (∃ h, h < 8 ∧ S.sh h ≠ 0) ∧
  (∀ h, h < 8 → S.sh h ≠ 0 → okV S.ec (S.hs h)) ∧ ∀ m, m < S.mc → okV S.ec (S.ms m)
def okF (F : kF) : Prop := okS F.S ∧ (∀ i, i < F.hc → okS (F.hist i)) ∧ F.hc ≤ 6 ∧ (∀ i, i < 2 → F.sv i = true → okS (F.sl i)) ∧ F.pn ≤ 64 ∧ ∀ i, i < F.pn → F.ch i < 128
def mInj (am : Nat → Nat) : Prop := ∀ i j, i < 11 → j < 11 → am i = am j → i = j
theorem mInj.ne {am : Nat → Nat} (h : mInj am) {i j : Nat} (hi : i < 11) (hj : j < 11) (hij : i ≠ j) : am i ≠ am j := fun z => hij (h i j hi hj z)
def mFr (M M1 : k_M) (am : Nat → Nat) : Prop := ∀ a, (∀ k, k < 11 → a ≠ am k) → M1 a = M a
theorem mFr.refl {M : k_M} {am : Nat → Nat} : mFr M M am := fun _ _ => rfl
theorem mFr.trans {M M1 M2 : k_M} {am : Nat → Nat} (h1 : mFr M M1 am) (h2 : mFr M1 M2 am) : mFr M M2 am := fun a h => (h2 a h).trans (h1 a h)
/-- what the reference's other rows hold: history, slots, saved, pad -/
def mB (G : k_G) (M : k_M) (am : Nat → Nat) (F : kF) : Prop :=
  (∃ hi, M (am 2) = some (kI G 2754 hi) ∧ ∀ i, i < F.hc → rS (F.hist i) (fun k => hi (459 * i + k))) ∧
  (∃ sl, M (am 3) = some (kI G 918 sl) ∧ ∀ i, i < 2 → F.sv i = true → rS (F.sl i) (fun k => sl (459 * i + k))) ∧
  (∃ sv, M (am 4) = some (kI G 2 sv) ∧ ∀ i, i < 2 → sv i = k01 (F.sv i)) ∧
  (∃ pd, M (am 5) = some (kI G 64 pd) ∧ ∀ i, i < F.pn → pd i = nI (F.ch i)) ∧
  (∃ tr, M (am 6) = some (kI G 21 tr)) ∧ (∃ to, M (am 7) = some (kI G 21 to)) ∧ (∃ sz, M (am 8) = some (kI G 8 sz)) ∧ (∃ hv, M (am 9) = some (kI G 8 hv)) ∧ ∃ tx, M (am 10) = some (kI G 128 tx)
def mM (G : k_G) (M : k_M) (am : Nat → Nat) (F : kF) : Prop :=
  (∃ tl, M (am 0) = some (kO 5 (mO am F.hc F.pn tl))) ∧ (∃ st, M (am 1) = some (kI G 459 st) ∧ rS F.S st) ∧ mB G M am F
def yPost (G : k_G) (M : k_M) (am : Nat → Nat) (r : Int32 × kF) (post : Int32 → k_M → Prop) : Prop := ∀ M1 : k_M, mFr M M1 am → mM G M1 am r.2 → post r.1 M1
theorem rSt.cong {row row' : Nat → Int32} {p : Nat} {v : kSV} (h : rSt row p v) (e : ∀ k, p + 1 ≤ k → k < p + 21 → row' k = row k) : rSt row' p v := by
  refine ⟨fun c hc => ?_, fun i hi => ?_⟩
  · rw [← h.1 c hc]; exact e _ (by omega) (by omega)
  · rw [← h.2 i hi]
    unfold kR2
    rw [e _ (by omega) (by omega)]
theorem rS.cong {S : kS} {row row' : Nat → Int32} (hmc : S.mc ≤ 8) (hec : S.ec ≤ 120) (h : rS S row) (e : ∀ k, k < 459 → row' k = row k) : rS S row' := by
  obtain ⟨h0, h1, h2, h3, h4, h5⟩ := h
  refine ⟨(e 0 (by omega)).trans h0, (e 1 (by omega)).trans h1, (e 2 (by omega)).trans h2, fun i hi => (e _ (by omega)).trans (h3 i hi), fun i hi hl => ?_, fun i hi => ?_⟩
  · obtain ⟨a, b⟩ := h4 i hi hl
    exact ⟨(e _ (by omega)).trans a, b.cong (fun k _ _ => e k (by omega))⟩
  · obtain ⟨a, b⟩ := h5 i hi
    exact ⟨(e _ (by omega)).trans a, b.cong (fun k _ _ => e k (by omega))⟩
theorem mB.kept {G : k_G} {M M1 : k_M} {am : Nat → Nat} {F : kF} (h : mB G M am F) (e : ∀ k, 2 ≤ k → k < 11 → M1 (am k) = M (am k)) : mB G M1 am F := by
  obtain ⟨⟨a, a1, a2⟩, ⟨b, b1, b2⟩, ⟨c, c1, c2⟩, ⟨d, d1, d2⟩, ⟨f, f1⟩, ⟨g, g1⟩, ⟨i, i1⟩, ⟨j, j1⟩, ⟨k, k1⟩⟩ := h
  exact ⟨⟨a, (e 2 (by omega) (by omega)).trans a1, a2⟩, ⟨b, (e 3 (by omega) (by omega)).trans b1, b2⟩, ⟨c, (e 4 (by omega) (by omega)).trans c1, c2⟩, ⟨d, (e 5 (by omega) (by omega)).trans d1, d2⟩, ⟨f, (e 6 (by omega) (by omega)).trans f1⟩, ⟨g, (e 7 (by omega) (by omega)).trans g1⟩, ⟨i, (e 8 (by omega) (by omega)).trans i1⟩, ⟨j, (e 9 (by omega) (by omega)).trans j1⟩, ⟨k, (e 10 (by omega) (by omega)).trans k1⟩⟩
theorem bt_hset (S : kS) : ∀ n, n ≤ 8 → ∀ i, i < 32 → bt (hset S n) i = (decide (i < n) && live S i) := by
  intro n
  induction n with
  | zero => intro _ i _; rw [hset, b_0, decide_eq_false (by omega)]; rfl
  | succ n ih =>
    intro hn i hi
    rw [hset]
    have ih1 := ih (by omega) i hi
    by_cases hl : live S n = true
    · rw [if_pos hl, b_or, ih1, b_shl n (by omega) 1 hi, b_1 (i - n) (by omega)]
      by_cases hin : i = n
      · subst hin
        rw [decide_eq_false (show ¬ i < i by omega), decide_eq_true (show i ≤ i by omega), decide_eq_true (show i - i = 0 by omega), decide_eq_true (show i < i + 1 by omega), hl]; rfl
      · by_cases hlt : i < n
        · rw [decide_eq_true hlt, decide_eq_false (show ¬ n ≤ i by omega), decide_eq_true (show i < n + 1 by omega)]; simp
        · rw [decide_eq_false hlt, decide_eq_false (show ¬ i - n = 0 by omega), decide_eq_false (show ¬ i < n + 1 by omega)]; simp
    · rw [if_neg hl, ih1]
      by_cases hin : i = n
      · subst hin
        have : live S i = false := by cases h : live S i with | true => exact absurd h hl | false => rfl
        rw [this]; simp
      · have : decide (i < n) = decide (i < n + 1) := decide_eq_decide.mpr (by omega)
        rw [this]
section G4
variable {G : k_G} {M : k_M} {am : Nat → Nat} {S : kS} {st : Nat → Int32} {fs : List Value} {post : Int32 → k_M → Prop}
theorem g_isHelper {x : Int32} (h0 : M (am 0) = some (kO 5 (.ref (am 1) :: fs))) (h1 : M (am 1) = some (kI G 459 st)) (hs : rS S st) (hp : post (k01 (inH S.sh x)) M) : wp_X4_isHelper G post (am 0) x M := by
  unfold wp_X4_isHelper
  unfold inH at hp
  refine g_withinN (n := 7) (by omega) ⟨fun h => ?_, fun h => ?_⟩
  · rw [k01_z.mp h] at hp; exact hp
  · rw [k01_nz h] at hp
    obtain ⟨j, hj, rfl⟩ := inR_ex (by omega) (k01_nz h)
    rw [kcl (by omega), Bool.true_and] at hp
    refine ⟨_, _, h0, rfl, _, _, h1, kvin (j := 0) (n := 459) (by omega) (by omega), ?_⟩
    rw [sb_cl0, hs.1, sum_bt _ (show j < 32 by omega), bt_hset S 8 (by omega) j (by omega), decide_eq_true hj, Bool.true_and]
    unfold live
    refine ⟨fun h2 => ?_, fun h2 => ?_⟩
    · have : (!decide (S.sh j = 0)) = false := by cases hb : (!decide (S.sh j = 0)) with | false => rfl | true => rw [hb] at h2; exact absurd rfl h2
      rw [this] at hp; exact hp
    · rw [k01_1.mp h2] at hp; exact hp
theorem nI_m1 {n : Nat} (hn : 1 ≤ n) : nI n - (1 : Int32) = nI (n - 1) := nI_sub1 hn
theorem g_within0 {x : Int32} {n : Nat} (hn : n < 2 ^ 31 - 1) (hp : post (k01 (inR n x)) M) : wp_X4_within G post x 0 (nI n - (1 : Int32)) M := by
  by_cases h : n = 0
  · subst h
    refine g_within ?_
    have : (decide (¬ x < 0) && decide (¬ (nI 0 - (1 : Int32)) < x)) = inR 0 x := by
      have e : nI 0 - (1 : Int32) = -1 := by decide
      rw [e]
      unfold inR
      by_cases hx : x < 0
      · simp [hx]
      · have h1 : (-1 : Int32) < x := by
          rw [Int32.lt_iff_toInt_lt] at hx ⊢
          have : (0 : Int32).toInt = 0 := rfl
          have h2 : (-1 : Int32).toInt = -1 := by decide
          omega
        have h2 : nI 0 ≤ x := Int32.not_lt.mp hx
        simp [hx, h1, h2]
    rw [this]; exact hp
  · rw [nI_m1 (by omega)]
    refine g_withinN (by omega) ?_
    rw [show n - 1 + 1 = n by omega]; exact hp
theorem g_isMessage {x : Int32} (hmc : S.mc ≤ 8) (h0 : M (am 0) = some (kO 5 (.ref (am 1) :: fs))) (h1 : M (am 1) = some (kI G 459 st)) (hs : rS S st) (hp : post (k01 (inR S.mc x)) M) : wp_X4_isMessage G post (am 0) x M := by
  unfold wp_X4_isMessage
  refine ⟨_, _, h0, rfl, _, _, h1, kvin (j := 1) (n := 459) (by omega) (by omega), ?_⟩
  rw [show ((1 : Int32)).toNatClampNeg = 1 from rfl, hs.2.1]
  exact g_within0 (by omega) ⟨k_narb _, hp⟩
theorem g_helperAt {h : Nat} (hp : post (nI (123 + 21 * h)) M) : wp_X4_helperAt G post (nI h) M := by
  unfold wp_X4_helperAt
  rw [show (21 : Int32) * nI h = nI (21 * h) from pk_mul 21 h, show (123 : Int32) + nI (21 * h) = nI (123 + 21 * h) from nIa 123 _]; exact hp
theorem g_messageAt {h : Nat} (hp : post (nI (291 + 21 * h)) M) : wp_X4_messageAt G post (nI h) M := by
  unfold wp_X4_messageAt
  rw [show (21 : Int32) * nI h = nI (21 * h) from pk_mul 21 h, show (291 : Int32) + nI (21 * h) = nI (291 + 21 * h) from nIa 291 _]; exact hp
/-- the place of a stamp -/
def plc (k x : Int32) : Nat := if k = 0 then 123 + 21 * x.toNatClampNeg else 291 + 21 * x.toNatClampNeg
theorem g_isThere {k x : Int32} (hmc : S.mc ≤ 8) (h0 : M (am 0) = some (kO 5 (.ref (am 1) :: fs))) (h1 : M (am 1) = some (kI G 459 st)) (hs : rS S st) (hn : stVal S k x = none → post 0 M) (hv : ∀ v, stVal S k x = some v → plc k x + 21 ≤ 459 → rSt st (plc k x) v → ((k = 0 ∧ ∃ j, j < 8 ∧ x = nI j) ∨ (k ≠ 0 ∧ ∃ j, j < 8 ∧ x = nI j)) → post 1 M) : wp_X4_isThere G post (am 0) k x M := by
  unfold wp_X4_isThere
  unfold stVal plc at *
  refine ⟨fun hk => ⟨_, h0, g_isMessage hmc h0 h1 hs ⟨k_narb _, ?_⟩⟩, fun hk => ⟨_, h0, g_isHelper h0 h1 hs ⟨k_narb _, ?_⟩⟩⟩
  · rw [if_neg hk] at hn
    simp only [if_neg hk] at hv
    by_cases h : inR S.mc x = true
    · rw [if_pos h] at hv
      obtain ⟨j, hj, rfl⟩ := inR_ex (by omega) h
      rw [kcl (by omega)] at hv
      rw [h]
      exact hv _ rfl (by omega) (hs.2.2.2.2.2 j hj).2 (Or.inr ⟨hk, j, by omega, rfl⟩)
    · rw [if_neg h] at hn
      rw [show inR S.mc x = false by cases hb : inR S.mc x with | false => rfl | true => exact absurd hb h]
      exact hn rfl
  · rw [if_pos hk] at hn
    simp only [if_pos hk] at hv
    by_cases h : inH S.sh x = true
    · rw [if_pos h] at hv
      obtain ⟨j, hj, rfl, hl⟩ := inH_ex h
      rw [kcl (by omega)] at hv
      rw [h]
      exact hv _ rfl (by omega) (hs.2.2.2.2.1 j hj hl).2 (Or.inl ⟨hk, j, by omega, rfl⟩)
    · rw [if_neg h] at hn
      rw [show inH S.sh x = false by cases hb : inH S.sh x with | false => rfl | true => exact absurd hb h]
      exact hn rfl
theorem g_placeOf {k : Int32} {j : Nat} (hj : j < 2 ^ 31) (hp : post (nI (plc k (nI j))) M) : wp_X4_placeOf G post k (nI j) M := by
  unfold wp_X4_placeOf
  unfold plc at hp
  rw [kcl hj] at hp
  refine ⟨fun hk => g_messageAt ?_, fun hk => g_helperAt ?_⟩
  · rw [if_neg hk] at hp; exact hp
  · rw [if_pos hk] at hp; exact hp
end G4
