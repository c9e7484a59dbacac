/-! ===== the reference: what is read of one stamp ===== -/
theorem kCt_kn2 {row : Nat → Int32} {p ec : Nat} {v : kSV} (hec : ec ≤ 120) (hr : rSt row p v) (ho : okV ec v) : kCt (kR2 row p) 120 = kCnt v := by
  unfold kCnt
  rw [show 128 = 120 + 8 from rfl, kCt_split, kCt_cong hr.2, kCt_0 (p := fun i => v.2 (120 + i)) (fun i _ => ho.2 _ (by omega)), Nat.add_zero]
theorem isK_in (k : Int32) : inR 2 k = isK k := by
  cases h : inR 2 k with
  | true =>
    obtain ⟨j, hj, rfl⟩ := inR_ex (by omega) h
    rcases (show j = 0 ∨ j = 1 by omega) with rfl | rfl
    · exact (decide_eq_true (Or.inl rfl)).symm
    · exact (decide_eq_true (Or.inr rfl)).symm
  | false =>
    refine (decide_eq_false ?_).symm
    rintro (rfl | rfl)
    · rw [show (0 : Int32) = nI 0 from rfl, inR_nI (by omega) (by omega)] at h; cases h
    · rw [show (1 : Int32) = nI 1 from rfl, inR_nI (by omega) (by omega)] at h; cases h
theorem kLast_tail {p : Nat → Bool} {n : Nat} : ∀ {m : Nat}, n ≤ m → (∀ i, n ≤ i → i < m → p i = false) → kLast p m = kLast p n := by
  intro m
  induction m with
  | zero => intro h _; rw [show n = 0 by omega]
  | succ m ih =>
    intro h hf
    by_cases hm : n = m + 1
    · rw [hm]
    · rw [kLast, if_neg (by rw [hf m (by omega) (by omega)]; decide)]
      exact ih (by omega) (fun i h1 h2 => hf i h1 (by omega))
theorem b_65 (c : Nat) (hc : c < 16) : bt 65535 c = true := by rw [b_65535]; exact decide_eq_true hc
theorem kCt_30_32 {x : Int32} (h : ∀ i, 16 ≤ i → bt x i = false) : kCt (bt x) 30 = kCt (bt x) 32 := by
  rw [show 32 = 30 + 2 from rfl, kCt_split, kCt_0 (p := fun i => bt x (30 + i)) (fun i _ => h _ (by omega)), Nat.add_zero]
section G5
variable {G : k_G} {M : k_M} {am : Nat → Nat} {S : kS} {st : Nat → Int32} {fs : List Value} {post : Int32 → k_M → Prop}
theorem g_isKnown {p e : Nat} (h0 : M (am 0) = some (kO 5 (.ref (am 1) :: fs))) (h1 : M (am 1) = some (kI G 459 st)) (hp21 : p + 21 ≤ 459) (he : e < 120) (hp : post (k01 (kR2 st p e)) M) : wp_X4_isKnown G post (am 0) (nI p) (nI e) M := by
  unfold wp_X4_isKnown
  have e1 : nI e / (30 : Int32) = nI (e / 30) := pk_div (a := e) (d := 30) (by omega) (by omega) (by omega)
  have e2 : nI e - nI e / (30 : Int32) * (30 : Int32) = nI (e % 30) := pk_rem (a := e) (d := 30) (by omega) (by omega) (by omega)
  rw [e2, e1, show nI p + (17 : Int32) = nI (p + 17) from nIa p 17, nIa]
  refine ⟨_, _, h0, rfl, _, _, h1, kvin (by omega) (by omega), ?_⟩
  rw [kcl (by omega), sum_bt _ (show e % 30 < 32 by omega)]
  unfold kR2 at hp
  refine ⟨fun h => ?_, fun h => ?_⟩
  · have : bt (st (p + 17 + e / 30)) (e % 30) = false := by cases hb : bt (st (p + 17 + e / 30)) (e % 30) with | false => rfl | true => rw [hb] at h; exact absurd rfl h
    rw [this] at hp; exact hp
  · rw [k01_1.mp h] at hp; exact hp
theorem g_latestOf {p ec : Nat} (h0 : M (am 0) = some (kO 5 (.ref (am 1) :: fs))) (h1 : M (am 1) = some (kI G 459 st)) (h2 : st 2 = nI ec) (hec : ec ≤ 120) (hp21 : p + 21 ≤ 459) (hp : post (kLast (kR2 st p) ec) M) : wp_X4_latestOf G post (am 0) (nI p) M := by
  have key : ∀ (j e : Nat), e + j = ec → wp_X4_latestOf_L5 G post (j + 1) (am 0) (nI p) (kLast (kR2 st p) e) (nI e) M := by
    intro j
    induction j with
    | zero =>
      intro e he
      have : e = ec := by omega
      subst this
      rw [wp_X4_latestOf_L5]
      refine ⟨_, _, h0, rfl, _, _, h1, kvin (j := 2) (n := 459) (by omega) (by omega), ?_⟩
      rw [show ((2 : Int32)).toNatClampNeg = 2 from rfl, h2]
      exact ⟨fun _ => hp, fun z => absurd (nI_le (Nat.le_refl _) (by omega)) z⟩
    | succ j ih =>
      intro e he
      have nx := ih (e + 1) (by omega)
      rw [kLast, ← kns] at nx
      rw [wp_X4_latestOf_L5]
      refine ⟨_, _, h0, rfl, _, _, h1, kvin (j := 2) (n := 459) (by omega) (by omega), ?_⟩
      rw [show ((2 : Int32)).toNatClampNeg = 2 from rfl, h2]
      refine ⟨fun z => absurd z (kge (by omega) (by omega)), fun _ => ⟨_, h0, g_isKnown h0 h1 hp21 (by omega) ⟨fun h => ?_, fun h => ?_⟩⟩⟩
      · rw [if_neg (by rw [k01_z.mp h]; decide)] at nx; exact nx
      · rw [if_pos (k01_nz h)] at nx; exact nx
  exact ⟨ec + 1, key ec 0 (by omega)⟩
theorem g_heights {p : Nat} {b : Bool} (h0 : M (am 0) = some (kO 5 (.ref (am 1) :: fs))) (h1 : M (am 1) = some (kI G 459 st)) (hp21 : p + 21 ≤ 459) (hp : post (if b = true then kSum (hR st p) 16 else gIn (hR st p) 65535 16) M) : wp_X4_heights G post (am 0) (nI p) (k01 b) M := by
  have key : ∀ (j k : Nat), k + j = 16 → wp_X4_heights_L10 G post (j + 1) (am 0) (nI p) (k01 b) (kSum (hR st p) k) (gIn (hR st p) 65535 k) (nI (p + 1 + k)) M := by
    intro j
    induction j with
    | zero =>
      intro k hk
      have : k = 16 := by omega
      subst this
      rw [wp_X4_heights_L10]
      dsimp only
      rw [kns, show nI (p + 1) + (16 : Int32) = nI (p + 1 + 16) from nIa _ 16]
      refine ⟨fun _ => ⟨fun h => ?_, fun h => ?_⟩, fun z => absurd (nI_le (Nat.le_refl _) (by omega)) z⟩
      · rw [if_neg (by rw [k01_z.mp h]; decide)] at hp; exact hp
      · rw [if_pos (k01_nz h)] at hp; exact hp
    | succ j ih =>
      intro k hk
      have nx := ih (k + 1) (by omega)
      rw [gIn, if_pos (b_65 k (by omega)), ← Nat.add_assoc, ← kns (p + 1 + k)] at nx
      have es : kSum (hR st p) (k + 1) = kSum (hR st p) k + hR st p k := rfl
      rw [es] at nx
      rw [wp_X4_heights_L10]
      dsimp only
      rw [kns, show nI (p + 1) + (16 : Int32) = nI (p + 1 + 16) from nIa _ 16]
      refine ⟨fun z => absurd z (kge (by omega) (by omega)), fun _ => ⟨_, _, h0, rfl, _, _, h1, kvin (by omega) (by omega), _, _, h0, rfl, _, _, h1, kvin (by omega) (by omega), ?_⟩⟩
      rw [kcl (by omega)]
      refine ⟨fun h => ?_, fun h => ⟨_, _, h0, rfl, _, _, h1, kvin (by omega) (by omega), ?_⟩⟩
      · rw [if_neg (show ¬ gIn (hR st p) 65535 k < hR st p k from fun z => (k_nle.mpr z) h)] at nx; exact nx
      · rw [if_pos (show gIn (hR st p) 65535 k < hR st p k from k_nle.mp h)] at nx
        exact nx
  unfold wp_X4_heights
  rw [kns]
  exact ⟨17, key 16 0 (by omega)⟩
theorem g_orderOfH {a b : Nat} (ha : a < 8) (hb : b < 8) (hla : S.sh a ≠ 0) (hlb : S.sh b ≠ 0) (h0 : M (am 0) = some (kO 5 (.ref (am 1) :: fs))) (h1 : M (am 1) = some (kI G 459 st)) (hs : rS S st) (hp : post (kOrd (S.hs a) (S.hs b)) M) : wp_X4_orderOfHelpers G post (am 0) (nI a) (nI b) M := by
  unfold wp_X4_orderOfHelpers
  refine ⟨_, _, h0, rfl, g_helperAt ⟨_, _, h0, rfl, g_helperAt (g_orderOf (n := 459) (m := 459) (by omega) (by omega) (by omega) (by omega) h1 h1 ?_)⟩⟩
  rw [ordf_cong (hs.2.2.2.2.1 a ha hla).2.1 (hs.2.2.2.2.1 b hb hlb).2.1]
  exact hp
theorem live_ne {i : Nat} (h : live S i = true) : S.sh i ≠ 0 := fun z => by unfold live at h; rw [z] at h; cases h
theorem g_clashes (h0 : M (am 0) = some (kO 5 (.ref (am 1) :: fs))) (h1 : M (am 1) = some (kI G 459 st)) (hs : rS S st) (hp : post (nI (clO S 8)) M) : wp_X4_clashes G post (am 0) M := by
  have inner : ∀ (K : Nat → Int32 → Int32 → k_M → Prop) (a b0 : Nat), a < 8 → K (am 0) (nI (b0 + kCt (clq S a) 8)) (nI (a + 1)) M → ∀ (j o : Nat), o + j = 8 → a < o → wp_X4_clashes_L14 G post K (j + 1) (am 0) (nI (b0 + kCt (clq S a) o)) (nI a) (nI o) M := by
    intro K a b0 ha hK j
    induction j with
    | zero =>
      intro o ho hao
      have : o = 8 := by omega
      subst this
      rw [wp_X4_clashes_L14]
      dsimp only
      rw [kns]
      exact ⟨fun _ => hK, fun z => absurd (by decide) z⟩
    | succ j ih =>
      intro o ho hao
      have nx := ih (o + 1) (by omega) (by omega)
      rw [kCt, ← kns o] at nx
      have ec : clq S a o = (live S a && live S o && decide (kOrd (S.hs a) (S.hs o) = 3)) := by unfold clq; rw [decide_eq_true hao, Bool.true_and]
      rw [ec] at nx
      have z0 : nI (b0 + kCt (clq S a) o) + (0 : Int32) = nI (b0 + kCt (clq S a) o) := nIa _ 0
      have z1 : nI (b0 + kCt (clq S a) o) + (1 : Int32) = nI (b0 + kCt (clq S a) o + 1) := nIa _ 1
      rw [wp_X4_clashes_L14]
      dsimp only
      refine ⟨fun z => absurd z (kge (N := 8) (by omega) (by decide)), fun _ => ⟨_, h0, g_isHelper h0 h1 hs ?_⟩⟩
      rw [inH_live ha]
      refine ⟨fun h => ?_, fun h => ⟨_, h0, g_isHelper h0 h1 hs ?_⟩⟩
      · rw [k01_z.mp h] at nx; rw [z0]; exact nx
      · rw [k01_nz h, Bool.true_and] at nx
        rw [inH_live (by omega)]
        refine ⟨fun h2 => ?_, fun h2 => ⟨_, h0, g_orderOfH ha (by omega) (live_ne (k01_nz h)) (live_ne (k01_nz h2)) h0 h1 hs ⟨fun h3 => ?_, fun h3 => ?_⟩⟩⟩
        · rw [k01_z.mp h2] at nx; rw [z0]; exact nx
        · rw [k01_nz h2, Bool.true_and, decide_eq_false h3] at nx; rw [z0]; exact nx
        · rw [k01_nz h2, Bool.true_and, decide_eq_true h3, if_pos rfl, ← Nat.add_assoc] at nx; rw [z1]; exact nx
  have key : ∀ (j a : Nat), a + j = 8 → wp_X4_clashes_L4 G post (j + 1) (am 0) (nI (clO S a)) (nI a) M := by
    intro j
    induction j with
    | zero =>
      intro a ha
      have : a = 8 := by omega
      subst this
      rw [wp_X4_clashes_L4]
      exact ⟨fun _ => hp, fun z => absurd (by decide) z⟩
    | succ j ih =>
      intro a ha
      have nx := ih (a + 1) (by omega)
      rw [clO] at nx
      rw [wp_X4_clashes_L4]
      refine ⟨fun z => absurd z (kge (N := 8) (by omega) (by decide)), fun _ => ⟨8 - (a + 1) + 1, ?_⟩⟩
      rw [kns]
      have := inner _ a (clO S a) (by omega) nx (8 - (a + 1)) (a + 1) (by omega) (by omega)
      rw [kCt_0 (p := clq S a) (n := a + 1) (fun i hi => by unfold clq; rw [decide_eq_false (by omega), Bool.false_and]), Nat.add_zero] at this
      exact this
  exact ⟨9, key 8 0 (by omega)⟩
theorem g_allKnots (h0 : M (am 0) = some (kO 5 (.ref (am 1) :: fs))) (h1 : M (am 1) = some (kI G 459 st)) (hs : rS S st) (hp : post (nI (kHk S 8)) M) : wp_X4_allKnots G post (am 0) M := by
  have key : ∀ (j a : Nat), a + j = 8 → wp_X4_allKnots_L4 G post (j + 1) (am 0) (nI (kHk S a)) (nI a) M := by
    intro j
    induction j with
    | zero =>
      intro a ha
      have : a = 8 := by omega
      subst this
      rw [wp_X4_allKnots_L4]
      exact ⟨fun _ => hp, fun z => absurd (by decide) z⟩
    | succ j ih =>
      intro a ha
      have nx := ih (a + 1) (by omega)
      rw [kHk, ← kns a] at nx
      rw [wp_X4_allKnots_L4]
      refine ⟨fun z => absurd z (kge (N := 8) (by omega) (by decide)), fun _ => ⟨_, h0, g_isHelper h0 h1 hs ?_⟩⟩
      rw [inH_live (by omega)]
      refine ⟨fun h => ?_, fun h => ⟨_, _, h0, rfl, g_helperAt (g_knots (n := 459) (by omega) (by omega) h1 ?_)⟩⟩
      · rw [if_neg (by rw [k01_z.mp h]; decide)] at nx
        rw [show nI (kHk S a) + (0 : Int32) = nI (kHk S a) from nIa _ 0]; exact nx
      · rw [if_pos (k01_nz h)] at nx
        rw [kKn_cong (hs.2.2.2.2.1 a (by omega) (live_ne (k01_nz h))).2.1 4 0 (by decide), nIa]
        exact nx
  exact ⟨9, key 8 0 (by omega)⟩
theorem ordf_r (f g : Nat → Int32) : ordf f g = 0 ∨ ordf f g = 1 ∨ ordf f g = 2 ∨ ordf f g = 3 := by
  unfold ordf
  split
  · split
    · exact Or.inr (Or.inr (Or.inr rfl))
    · exact Or.inr (Or.inl rfl)
  · split
    · exact Or.inr (Or.inr (Or.inl rfl))
    · exact Or.inl rfl
def foq (S : kS) (h o : Nat) : Bool := !(live S o) || (!(decide (kOrd (S.hs o) (S.hs h) = 2)) && !(decide (kOrd (S.hs o) (S.hs h) = 3)))
theorem foq_b {S : kS} {h o : Nat} (hl : live S o = true) : foq S h o = decide (kOrd (S.hs o) (S.hs h) = 0 ∨ kOrd (S.hs o) (S.hs h) = 1) := by
  unfold foq
  rw [hl]
  rcases ordf_r (S.hs o).1 (S.hs h).1 with z | z | z | z <;> (unfold kOrd; rw [z]; decide)
theorem g_isAhead {h : Nat} (hh : h < 8) (h0 : M (am 0) = some (kO 5 (.ref (am 1) :: fs))) (h1 : M (am 1) = some (kI G 459 st)) (hs : rS S st) (hp : post (k01 (live S h && isFo S h)) M) : wp_X4_isAhead G post (am 0) (nI h) M := by
  have efo : isFo S h = kAll (foq S h) 8 := rfl
  rw [efo] at hp
  have key : live S h = true → ∀ (j o : Nat), o + j = 8 → wp_X4_isAhead_L8 G post (j + 1) (am 0) (nI h) (k01 (kAll (foq S h) o)) (nI o) M := by
    intro hl j
    rw [hl, Bool.true_and] at hp
    induction j with
    | zero =>
      intro o ho
      have : o = 8 := by omega
      subst this
      rw [wp_X4_isAhead_L8]
      exact ⟨fun _ => ⟨k_narb _, hp⟩, fun z => absurd (by decide) z⟩
    | succ j ih =>
      intro o ho
      have nx := ih (o + 1) (by omega)
      rw [kAll, ← kns o] at nx
      rw [wp_X4_isAhead_L8]
      refine ⟨fun z => absurd z (kge (N := 8) (by omega) (by decide)), fun _ => ⟨fun h2 => ⟨k_narb _, ?_⟩, fun h2 => ⟨_, h0, g_isHelper h0 h1 hs ?_⟩⟩⟩
      · have hf := k01_z.mp h2
        rw [hf]
        have : kAll (foq S h) 8 = false := by
          cases hA : kAll (foq S h) 8 with
          | false => rfl
          | true =>
            have := kAll_iff.mpr (fun i (hi : i < o) => kAll_iff.mp hA i (by omega))
            rw [hf] at this; cases this
        rw [this] at hp; exact hp
      · rw [k01_nz h2, Bool.true_and] at nx
        rw [inH_live (by omega)]
        have b36 : ∀ r : Int32, (r = 0 ∨ r = 1 → wp_X4_isAhead_L8 G post (j + 1) (am 0) (nI h) 1 (nI o + 1) M) → (¬ (r = 0 ∨ r = 1) → wp_X4_isAhead_L8 G post (j + 1) (am 0) (nI h) 0 (nI o + 1) M) → wp_X4_isAhead_b36 G post (wp_X4_isAhead_L8 G post (j + 1)) (am 0) (nI h) (nI o) r M := by
          intro r ha hb
          unfold wp_X4_isAhead_b36
          exact ⟨fun z => ha (Or.inl z), fun z => ⟨fun y => hb (fun x => x.elim z y), fun y => ha (Or.inr y)⟩⟩
        refine ⟨fun h3 => b36 0 (fun _ => ?_) (fun z => absurd (Or.inl rfl) z), fun h3 => ⟨_, h0, g_orderOfH (by omega) hh (live_ne (k01_nz h3)) (live_ne hl) h0 h1 hs (b36 _ (fun z => ?_) (fun z => ?_))⟩⟩
        · have : foq S h o = true := by unfold foq; rw [k01_z.mp h3]; rfl
          rw [this] at nx; exact nx
        · rw [foq_b (k01_nz h3), decide_eq_true z] at nx; exact nx
        · rw [foq_b (k01_nz h3), decide_eq_false z] at nx; exact nx
  unfold wp_X4_isAhead
  refine ⟨_, h0, g_isHelper h0 h1 hs ?_⟩
  rw [inH_live hh]
  cases hl : live S h with
  | true => exact ⟨9, key hl 8 0 (by omega)⟩
  | false =>
    rw [hl, Bool.false_and] at hp
    refine ⟨1, ?_⟩
    rw [wp_X4_isAhead_L8]
    exact ⟨fun _ => ⟨k_narb false, hp⟩, fun _ => ⟨fun _ => ⟨k_narb false, hp⟩, fun z => absurd rfl z⟩⟩
/-- from the top down: the least one -/
def fnd (p : Nat → Bool) : Nat → Int32
  | 0 => -6
  | j + 1 => if p (7 - j) = true then nI (7 - j) else fnd p j
theorem fnd_spec (p : Nat → Bool) : ∀ j, j ≤ 8 → ((∀ i, 8 - j ≤ i → i < 8 → p i = false) → fnd p j = -6) ∧ ∀ i, 8 - j ≤ i → i < 8 → p i = true → (∀ k, 8 - j ≤ k → k < i → p k = false) → fnd p j = nI i := by
  intro j
  induction j with
  | zero => intro _; exact ⟨fun _ => rfl, fun i h1 h2 => by omega⟩
  | succ j ih =>
    intro hj
    obtain ⟨i1, i2⟩ := ih (by omega)
    rw [fnd]
    refine ⟨fun h => ?_, fun i h1 h2 h3 h4 => ?_⟩
    · rw [if_neg (by rw [h (7 - j) (by omega) (by omega)]; decide)]
      exact i1 (fun i a b => h i (by omega) b)
    · by_cases hi : i = 7 - j
      · rw [← hi, if_pos h3]
      · rw [if_neg (by rw [h4 (7 - j) (by omega) (by omega)]; decide)]
        exact i2 i (by omega) h2 h3 (fun k a b => h4 k (by omega) b)
theorem fnd_kAns (p : Nat → Bool) : fnd p 8 = kAns p 8 := by
  obtain ⟨a, b⟩ := fnd_spec p 8 (Nat.le_refl 8)
  obtain ⟨k1, k2, k3⟩ := kMin_spec p 8
  unfold kAns
  by_cases h : kMin p 8 < 8
  · rw [if_pos h]
    exact b _ (by omega) h (k3 h) (fun k _ hk => k2 k hk)
  · rw [if_neg h]
    exact a (fun i _ hi => k2 i (by omega))
theorem g_leader (h0 : M (am 0) = some (kO 5 (.ref (am 1) :: fs))) (h1 : M (am 1) = some (kI G 459 st)) (hs : rS S st) (hp : post (kAns (fun i => live S i && isFo S i) 8) M) : wp_X4_leader G post (am 0) M := by
  rw [← fnd_kAns] at hp
  have key : ∀ (k j : Nat), j + k = 8 → wp_X4_leader_L6 G post (k + 1) (am 0) (fnd (fun i => live S i && isFo S i) j) (nI k + (-1 : Int32)) M := by
    intro k
    induction k with
    | zero =>
      intro j hj
      have : j = 8 := by omega
      subst this
      rw [wp_X4_leader_L6]
      exact ⟨fun _ => hp, fun z => absurd (by decide) z⟩
    | succ k ih =>
      intro j hj
      have nx := ih (j + 1) (by omega)
      rw [fnd, show 7 - j = k by omega] at nx
      rw [wp_X4_leader_L6, pk_m1]
      refine ⟨fun z => absurd z (nI_pos (by omega)), fun _ => ⟨_, h0, g_isAhead (by omega) h0 h1 hs ⟨fun h => ?_, fun h => ?_⟩⟩⟩
      · rw [if_neg (by rw [k01_z.mp h]; decide)] at nx; exact nx
      · rw [if_pos (k01_nz h)] at nx; exact nx
  exact ⟨9, key 8 0 (by omega)⟩
theorem g_freeNumber (h0 : M (am 0) = some (kO 5 (.ref (am 1) :: fs))) (h1 : M (am 1) = some (kI G 459 st)) (hs : rS S st) (hp : post (kAns (fun i => decide (S.sh i = 0)) 8) M) : wp_X4_freeNumber G post (am 0) M := by
  rw [← fnd_kAns] at hp
  have key : ∀ (k j : Nat), j + k = 8 → wp_X4_freeNumber_L6 G post (k + 1) (am 0) (fnd (fun i => decide (S.sh i = 0)) j) (nI k + (-1 : Int32)) M := by
    intro k
    induction k with
    | zero =>
      intro j hj
      have : j = 8 := by omega
      subst this
      rw [wp_X4_freeNumber_L6]
      exact ⟨fun _ => hp, fun z => absurd (by decide) z⟩
    | succ k ih =>
      intro j hj
      have nx := ih (j + 1) (by omega)
      rw [fnd, show 7 - j = k by omega] at nx
      rw [wp_X4_freeNumber_L6, pk_m1]
      refine ⟨fun z => absurd z (nI_pos (by omega)), fun _ => ⟨_, h0, g_isHelper h0 h1 hs ?_⟩⟩
      rw [inH_live (by omega)]
      unfold live
      refine ⟨fun h => ?_, fun h => ?_⟩
      · have : decide (S.sh k = 0) = true := by have := k01_z.mp h; simpa using this
        rw [if_pos this] at nx; exact nx
      · have : decide (S.sh k = 0) = false := by have := k01_nz h; simpa using this
        rw [if_neg (by rw [this]; decide)] at nx; exact nx
  exact ⟨9, key 8 0 (by omega)⟩
end G5
