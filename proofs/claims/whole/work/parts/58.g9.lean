/-! ===== the reference: fork ===== -/
theorem kCt_set {p q : Nat → Bool} {c : Nat} (hp : p c = false) (hq : ∀ i, q i = (p i || decide (i = c))) : ∀ {n : Nat}, kCt q n = kCt p n + (if c < n then 1 else 0) := by
  intro n
  induction n with
  | zero => rw [if_neg (Nat.not_lt_zero c)]; rfl
  | succ n ih =>
    rw [kCt, kCt, ih, hq n]
    by_cases hn : n = c
    · subst hn
      rw [hp, decide_eq_true rfl, if_neg (Nat.lt_irrefl n), if_pos (Nat.lt_succ_self n)]; rfl
    · rw [decide_eq_false hn, Bool.or_false]
      have : (c < n) ↔ (c < n + 1) := by omega
      simp only [this]
      omega
theorem kCt_mono {p q : Nat → Bool} : ∀ {n : Nat}, (∀ i, i < n → p i = true → q i = true) → kCt p n ≤ kCt q n := by
  intro n
  induction n with
  | zero => intro _; exact Nat.le_refl 0
  | succ n ih =>
    intro h
    rw [kCt, kCt]
    have := ih (fun i hi => h i (by omega))
    cases hb : p n with
    | false =>
      rw [if_neg (by decide)]
      omega
    | true =>
      rw [h n (by omega) hb]
      omega
theorem lowC_spec {sh : Int32} {A : Nat} (hA : A ≤ 32) : ∀ c, c ≤ 16 → (∀ i, c ≤ i → i < 32 → bt (lowC sh (nI A) c) i = false) ∧ (∀ i, i < 32 → bt (lowC sh (nI A) c) i = true → bt sh i = true) ∧ kCt (bt (lowC sh (nI A) c)) 32 = min A (kCt (bt sh) c) := by
  intro c
  induction c with
  | zero =>
    intro _
    have l0 : lowC sh (nI A) 0 = 0 := rfl
    rw [l0]
    refine ⟨fun i _ _ => b_0 i, fun i _ h => (by rw [b_0] at h; cases h), ?_⟩
    rw [kCt_0 (fun i _ => b_0 i)]
    exact (Nat.min_eq_right (Nat.zero_le A)).symm
  | succ c ih =>
    intro hc
    obtain ⟨i1, i2, i3⟩ := ih (by omega)
    have hle : kCt (bt sh) c ≤ c := kCt_le
    rw [lowC]
    by_cases hlt : nI A ≤ nI (kCt (bt (lowC sh (nI A) c)) 32)
    · rw [if_pos hlt]
      have hlt' : A ≤ kCt (bt (lowC sh (nI A) c)) 32 := (nI_leI (by omega) (by rw [i3]; omega)).mp hlt
      refine ⟨fun i h1 h2 => i1 i (by omega) h2, i2, ?_⟩
      have : kCt (bt sh) (c + 1) ≥ kCt (bt sh) c := by rw [kCt]; omega
      rw [i3]
      rw [i3] at hlt'
      omega
    · rw [if_neg hlt]
      have hlt' : ¬ A ≤ kCt (bt (lowC sh (nI A) c)) 32 := fun z => hlt (nI_le z (by rw [i3]; omega))
      have eb : ∀ i, i < 32 → bt (lowC sh (nI A) c ||| (sh &&& ((1 : Int32) <<< (nI c &&& 31)))) i = (bt (lowC sh (nI A) c) i || (bt sh i && decide (i = c))) := fun i hi => by
        rw [b_or, b_and, bt_one (by omega) hi]
      refine ⟨fun i h1 h2 => ?_, fun i h1 h2 => ?_, ?_⟩
      · rw [eb i h2, i1 i (by omega) h2, decide_eq_false (by omega), Bool.and_false]; rfl
      · rw [eb i h1] at h2
        cases hb : bt (lowC sh (nI A) c) i with
        | true => exact i2 i h1 hb
        | false =>
          rw [hb, Bool.false_or] at h2
          cases hs : bt sh i with
          | true => rfl
          | false => rw [hs] at h2; cases h2
      · have ek : kCt (bt sh) (c + 1) = kCt (bt sh) c + (if bt sh c = true then 1 else 0) := rfl
        rw [ek]
        cases hs : bt sh c with
        | false =>
          have : kCt (bt (lowC sh (nI A) c ||| (sh &&& ((1 : Int32) <<< (nI c &&& 31))))) 32 = kCt (bt (lowC sh (nI A) c)) 32 := kCt_cong (fun i hi => by
            rw [eb i hi]
            by_cases hic : i = c
            · subst hic; rw [hs]; simp
            · rw [decide_eq_false hic]; simp)
          rw [this, i3, if_neg (by decide)]; omega
        | true =>
          have h32 : kCt (bt (lowC sh (nI A) c ||| (sh &&& ((1 : Int32) <<< (nI c &&& 31))))) 32 = kCt (fun i => bt (lowC sh (nI A) c) i || decide (i = c)) 32 := kCt_cong (fun i hi => by
            rw [eb i hi]
            by_cases hic : i = c
            · subst hic; rw [hs]; simp
            · rw [decide_eq_false hic]; simp)
          rw [h32, kCt_set (p := bt (lowC sh (nI A) c)) (c := c) (i1 c (Nat.le_refl c) (by omega)) (fun i => rfl), if_pos (show c < 32 by omega), i3, if_pos rfl]
          rw [i3] at hlt'
          omega
theorem stay_nI (sh : Int32) : stay sh = lowC sh (nI ((kCt (bt sh) 32 + 1) / 2)) 16 := by
  have hle : kCt (bt sh) 32 ≤ 32 := kCt_le
  unfold stay
  rw [kns, show nI (kCt (bt sh) 32 + 1) / (2 : Int32) = nI ((kCt (bt sh) 32 + 1) / 2) from pk_div (a := kCt (bt sh) 32 + 1) (d := 2) (by omega) (by omega) (by omega)]
theorem kCt_16 {x : Int32} (h : ∀ i, 16 ≤ i → bt x i = false) : kCt (bt x) 16 = kCt (bt x) 32 := by
  rw [show 32 = 16 + 16 from rfl, kCt_split, kCt_0 (p := fun i => bt x (16 + i)) (fun i _ => h _ (by omega)), Nat.add_zero]
/-- both parts of a share that is split have cells -/
theorem split_ne {sh : Int32} (h16 : ∀ i, 16 ≤ i → bt sh i = false) (hne : sh ≠ 0) (h1 : kCt (bt sh) 32 ≠ 1) : stay sh ≠ 0 ∧ sh &&& (stay sh ^^^ (-1 : Int32)) ≠ 0 ∧ (∀ i, 16 ≤ i → bt (stay sh) i = false) := by
  have hpos : kCt (bt sh) 32 ≠ 0 := fun z => hne (b_ext (fun i hi => by
    rw [b_0]
    cases hb : bt sh i with
    | false => rfl
    | true =>
      have h0 : kCt (fun k => decide (k = i)) 32 ≤ kCt (bt sh) 32 := kCt_mono (fun k _ hk => by rw [of_decide_eq_true hk]; exact hb)
      have := kCt_set (p := fun _ => false) (q := fun k => decide (k = i)) (c := i) rfl (fun k => by simp) (n := 32)
      rw [if_pos hi] at this
      omega))
  have hle : kCt (bt sh) 32 ≤ 32 := kCt_le
  obtain ⟨l1, l2, l3⟩ := lowC_spec (sh := sh) (A := (kCt (bt sh) 32 + 1) / 2) (by omega) 16 (Nat.le_refl 16)
  rw [← stay_nI] at l1 l2 l3
  rw [kCt_16 h16] at l3
  refine ⟨fun z => ?_, fun z => ?_, fun i hi => ?_⟩
  · rw [z, kCt_0 (fun i _ => b_0 i)] at l3
    omega
  · have : kCt (bt sh) 32 ≤ kCt (bt (stay sh)) 32 := kCt_mono (fun i hi hb => by
      have hz : bt (sh &&& (stay sh ^^^ (-1 : Int32))) i = false := by rw [z, b_0]
      rw [b_and, bt_not _ hi, hb, Bool.true_and] at hz
      cases hs : bt (stay sh) i with
      | true => rfl
      | false => rw [hs] at hz; cases hz)
    omega
  · by_cases h32 : i < 32
    · exact l1 i hi h32
    · exact b_big (by omega)
section G9
variable {G : k_G} {M : k_M} {am : Nat → Nat} {F : kF} {post : Int32 → k_M → Prop}
theorem rS_spl {S : kS} {st st1 : Nat → Int32} {j k : Nat} (hj : j < 8) (hk : k < 8) (hjk : j ≠ k) (hl : S.sh j ≠ 0) (hs0 : stay (S.sh j) ≠ 0) (hs1 : S.sh j &&& (stay (S.sh j) ^^^ (-1 : Int32)) ≠ 0) (hmc : S.mc ≤ 8) (hec : S.ec ≤ 120) (hs : rS S st)
    (e1 : ∀ i, st1 i = if 123 + 21 * k ≤ i ∧ i < 123 + 21 * k + 21 then st (123 + 21 * j + (i - (123 + 21 * k))) else st i) :
    rS (splS S j k) (upd (upd (upd st1 (123 + 21 * j) (stay (S.sh j))) (123 + 21 * k) (S.sh j &&& (stay (S.sh j) ^^^ (-1 : Int32)))) 0 (hset S 8 ||| ((1 : Int32) <<< (nI k &&& 31)))) := by
  obtain ⟨h0, h1, h2, h3, h4, h5⟩ := hs
  have off : ∀ i, i ≠ 0 → i ≠ 123 + 21 * j → (i < 123 + 21 * k ∨ 123 + 21 * k + 21 ≤ i) → upd (upd (upd st1 (123 + 21 * j) (stay (S.sh j))) (123 + 21 * k) (S.sh j &&& (stay (S.sh j) ^^^ (-1 : Int32)))) 0 (hset S 8 ||| ((1 : Int32) <<< (nI k &&& 31))) i = st i := fun i i1 i2 i3 => by
    rw [upd_n i1, upd_n (by omega), upd_n i2, e1, if_neg (by omega)]
  refine ⟨?_, (off 1 (by omega) (by omega) (by omega)).trans h1, (off 2 (by omega) (by omega) (by omega)).trans h2, fun e he => (off _ (by omega) (by have : e < S.ec := he; omega) (by have : e < S.ec := he; omega)).trans (h3 e he), fun h hh hlh => ?_, fun m hm => ?_⟩
  · rw [upd_s]
    refine b_ext (fun i hi => ?_)
    rw [b_or, bt_one (show k < 32 by omega) hi, bt_hset S 8 (by omega) i hi, bt_hset (splS S j k) 8 (by omega) i hi]
    have el : live (splS S j k) i = !(decide (upd (upd S.sh j (stay (S.sh j))) k (S.sh j &&& (stay (S.sh j) ^^^ (-1 : Int32))) i = 0)) := rfl
    rw [el]
    by_cases hik : i = k
    · subst hik
      rw [decide_eq_true rfl, upd_s, decide_eq_false hs1, decide_eq_true hk]; simp
    · rw [decide_eq_false hik, upd_n hik, Bool.or_false]
      by_cases hij : i = j
      · subst hij
        rw [upd_s, decide_eq_false hs0]
        unfold live
        rw [decide_eq_false hl]
      · rw [upd_n hij]; rfl
  · replace hlh : upd (upd S.sh j (stay (S.sh j))) k (S.sh j &&& (stay (S.sh j) ^^^ (-1 : Int32))) h ≠ 0 := hlh
    show _ = upd (upd S.sh j (stay (S.sh j))) k (S.sh j &&& (stay (S.sh j) ^^^ (-1 : Int32))) h ∧ rSt _ _ (va_up S.hs k (S.hs j) h)
    by_cases hhk : h = k
    · subst hhk
      rw [upd_s, vup_s, upd_n (show 123 + 21 * h ≠ 0 by omega), upd_s]
      have b := (h4 j hj hl).2
      have sh : ∀ z, 123 + 21 * h + 1 ≤ z → z < 123 + 21 * h + 21 → upd (upd (upd st1 (123 + 21 * j) (stay (S.sh j))) (123 + 21 * h) (S.sh j &&& (stay (S.sh j) ^^^ (-1 : Int32)))) 0 (hset S 8 ||| ((1 : Int32) <<< (nI h &&& 31))) z = st (123 + 21 * j + (z - (123 + 21 * h))) := fun z z1 z2 => by
        rw [upd_n (by omega), upd_n (by omega), upd_n (by omega), e1, if_pos (by omega)]
      refine ⟨rfl, fun c hc => ?_, fun e he => ?_⟩
      · rw [← b.1 c hc]
        unfold hR
        rw [sh _ (by omega) (by omega)]
        congr 1; omega
      · rw [← b.2 e he]
        unfold kR2
        rw [sh _ (by omega) (by omega)]
        congr 2; omega
    · rw [upd_n hhk] at hlh ⊢
      rw [vup_n hhk]
      by_cases hhj : h = j
      · subst hhj
        rw [upd_s, upd_n (by omega), upd_n (by omega), upd_s]
        exact ⟨rfl, (h4 h hh hl).2.cong (fun i i1 i2 => off i (by omega) (by omega) (by omega))⟩
      · rw [upd_n hhj] at hlh ⊢
        obtain ⟨a, b⟩ := h4 h hh hlh
        exact ⟨(off _ (by omega) (by omega) (by omega)).trans a, b.cong (fun i i1 i2 => off i (by omega) (by omega) (by omega))⟩
  · obtain ⟨a, b⟩ := h5 m hm
    have hm : m < S.mc := hm
    exact ⟨(off _ (by omega) (by omega) (by omega)).trans a, b.cong (fun i i1 i2 => off i (by omega) (by omega) (by omega))⟩
theorem y_fork {x : Int32} (hI : mInj am) (hok : okF F) (hM : mM G M am F) (hp : yPost G M am (xfork F x) post) : wp_X4_fork G post (am 0) x M := by
  have hM0 := hM
  obtain ⟨⟨tl, h0⟩, ⟨st, h1, hs⟩, hB⟩ := hM
  have hec := hok.1.2.1
  have hmc := hok.1.1
  have h01 : am 0 ≠ am 1 := hI.ne (by omega) (by omega) (by omega)
  unfold wp_X4_fork
  unfold xfork at hp
  refine ⟨_, h0, g_isHelper h0 h1 hs ⟨fun h => ⟨_, h0, g_freeNumber h0 h1 hs ?_⟩, fun h => ?_⟩⟩
  · rw [if_neg (by rw [k01_nz h]; decide)] at hp
    obtain ⟨j, hj, rfl, hl⟩ := inH_ex (k01_nz h)
    rw [kcl (show j < 2 ^ 31 by omega)] at hp
    refine ⟨_, _, h0, rfl, g_helperAt ⟨_, _, h1, ?_⟩⟩
    rw [show nI (123 + 21 * j) + (0 : Int32) = nI (123 + 21 * j) from nIa _ 0, kcl (by omega), (hs.2.2.2.2.1 j hj hl).1]
    refine ⟨kvin (by omega) (by omega), fun y ey => ?_⟩
    subst ey
    have h16 := hok.1.2.2.1 j hj
    refine ⟨fun h2 => ?_, fun h2 => g_bits ?_⟩
    · rw [if_pos ((kAns_none (by omega)).mp h2)] at hp
      unfold wp_X4_fork_b41
      exact ⟨fun z => absurd h2 z, fun _ => hp M mFr.refl hM0⟩
    · have h8 : kMin (fun i => decide (F.S.sh i = 0)) 8 < 8 := by
        rcases Nat.lt_or_ge (kMin (fun i => decide (F.S.sh i = 0)) 8) 8 with q | q
        · exact q
        · exact absurd ((kAns_none (by omega)).mpr q) h2
      have hk0 := (kMin_spec (fun i => decide (F.S.sh i = 0)) 8).2.2 h8
      rw [if_neg (by omega)] at hp
      have ek : kAns (fun i => decide (F.S.sh i = 0)) 8 = nI (kMin (fun i => decide (F.S.sh i = 0)) 8) := if_pos h8
      rw [ek, kCt_30_32 h16]
      generalize hkk : kMin (fun i => decide (F.S.sh i = 0)) 8 = k at *
      have hle : kCt (bt (F.S.sh j)) 32 ≤ 32 := kCt_le
      refine ⟨fun h3 => ?_, fun h3 => ?_⟩
      · have hB1' : kCt (bt (F.S.sh j)) 32 ≠ 1 := fun z => h3 (by rw [z]; rfl)
        rw [if_neg hB1'] at hp
        have hjk : j ≠ k := fun z => hl (by rw [z]; simpa using hk0)
        obtain ⟨n1, n2, n3⟩ := split_ne h16 hl hB1'
        refine ⟨_, h0, g_record hI hok hM0 (fun M1 st1 fr1 q0 q1 hs1 hB1 => ?_)⟩
        obtain ⟨tl1, q0'⟩ := q0
        refine ⟨_, _, q0', rfl, g_helperAt ⟨_, _, q0', rfl, g_helperAt (g_moves (s := 123 + 21 * j) (t := 123 + 21 * k) (many := 21) (n0 := 459) (n1 := 459) (by omega) (by omega) q1 q1 (Or.inr (by omega)) (by omega) (by omega) (fun M2 st2 f2 q2 e2 => g_bits ?_))⟩⟩
        have p0 := (f2 _ h01).trans q0'
        rw [kCt_30_32 h16, kns, show nI (kCt (bt (F.S.sh j)) 32 + 1) / (2 : Int32) = nI ((kCt (bt (F.S.sh j)) 32 + 1) / 2) from pk_div (a := kCt (bt (F.S.sh j)) 32 + 1) (d := 2) (by omega) (by omega) (by omega)]
        generalize hA : (kCt (bt (F.S.sh j)) 32 + 1) / 2 = A at *
        have hA32 : A ≤ 32 := by omega
        have est : stay (F.S.sh j) = lowC (F.S.sh j) (nI A) 16 := by rw [stay_nI, hA]
        have key : ∀ (n c : Nat), c + n = 16 → wp_X4_fork_L96 G post (n + 1) (am 0) (nI j) (nI k) (F.S.sh j) (lowC (F.S.sh j) (nI A) c) (nI (A - kCt (bt (lowC (F.S.sh j) (nI A) c)) 32)) (nI c) M2 := by
          intro n
          induction n with
          | zero =>
            intro c hc
            have : c = 16 := by omega
            subst this
            rw [wp_X4_fork_L96]
            rw [← est]
            refine ⟨fun _ => ⟨_, _, p0, rfl, g_helperAt ⟨_, _, q2, ?_⟩⟩, fun z => absurd (by decide) z⟩
            rw [show nI (123 + 21 * j) + (0 : Int32) = nI (123 + 21 * j) from nIa _ 0, kcl (by omega)]
            refine ⟨kvin (by omega) (by omega), fun M3 e3 => ?_⟩
            have p0 := (kup_off e3 h01).trans p0
            refine ⟨_, _, p0, rfl, g_helperAt ⟨_, _, kup_at e3, ?_⟩⟩
            rw [show nI (123 + 21 * k) + (0 : Int32) = nI (123 + 21 * k) from nIa _ 0, kcl (by omega)]
            refine ⟨kvin (by omega) (by omega), fun M4 e4 => ?_⟩
            have p0 := (kup_off e4 h01).trans p0
            refine ⟨_, _, p0, rfl, _, _, kup_at e4, kvin (j := 0) (n := 459) (by omega) (by omega), _, _, kup_at e4, kvin (j := 0) (n := 459) (by omega) (by omega), fun M5 e5 => ?_⟩
            have v0 : st2 0 = hset F.S 8 := by rw [e2, if_neg (by omega)]; exact hs1.1
            rw [sb_cl0, upd_n (show 0 ≠ 123 + 21 * k by omega), upd_n (show 0 ≠ 123 + 21 * j by omega), v0] at e5
            exact y_fin hI fr1 ⟨tl1, q0'⟩ hB1 (fun a ha => (kup_off e5 ha).trans ((kup_off e4 ha).trans ((kup_off e3 ha).trans (f2 a ha)))) (kup_at e5) (rS_spl hj h8 hjk hl n1 n2 hmc hec hs1 e2) hp
          | succ n ih =>
            intro c hc
            have nx := ih (c + 1) (by omega)
            rw [← kns c] at nx
            obtain ⟨l1, l2, l3⟩ := lowC_spec (sh := F.S.sh j) hA32 c (by omega)
            have eb : ∀ i, i < 32 → bt (lowC (F.S.sh j) (nI A) c ||| (F.S.sh j &&& ((1 : Int32) <<< (nI c &&& 31)))) i = (bt (lowC (F.S.sh j) (nI A) c) i || (bt (F.S.sh j) i && decide (i = c))) := fun i hi => by
              rw [b_or, b_and, bt_one (by omega) hi]
            rw [wp_X4_fork_L96]
            dsimp only
            rw [sum_bt _ (show c < 32 by omega)]
            refine ⟨fun z => absurd z (kge (N := 16) (by omega) (by decide)), fun _ => ⟨fun h4 => ?_, fun h4 => ⟨fun h5 => ?_, fun h5 => ?_⟩⟩⟩
            · have hb : bt (F.S.sh j) c = false := by cases hb : bt (F.S.sh j) c with | false => rfl | true => rw [hb] at h4; exact absurd rfl h4
              have same : lowC (F.S.sh j) (nI A) (c + 1) = lowC (F.S.sh j) (nI A) c := by
                rw [lowC]
                split
                · rfl
                · refine b_ext (fun i hi => ?_)
                  rw [eb i hi]
                  by_cases hic : i = c
                  · subst hic; rw [hb]; simp
                  · rw [decide_eq_false hic]; simp
              rw [same] at nx; exact nx
            · have hz : A - kCt (bt (lowC (F.S.sh j) (nI A) c)) 32 = 0 := by
                rcases Nat.eq_zero_or_pos (A - kCt (bt (lowC (F.S.sh j) (nI A) c)) 32) with q | q
                · exact q
                · exact absurd h5 (nI_nle q (by omega))
              have same : lowC (F.S.sh j) (nI A) (c + 1) = lowC (F.S.sh j) (nI A) c := by
                rw [lowC, if_pos (nI_le (by omega) (by rw [l3]; omega))]
              rw [same] at nx; exact nx
            · have hb : bt (F.S.sh j) c = true := k01_1.mp h4
              have hz : A - kCt (bt (lowC (F.S.sh j) (nI A) c)) 32 ≠ 0 := fun z => h5 (by rw [z]; decide)
              have nle : ¬ nI A ≤ nI (kCt (bt (lowC (F.S.sh j) (nI A) c)) 32) := fun z => by
                have := (nI_leI (by omega) (by rw [l3]; omega)).mp z
                omega
              have e1' : lowC (F.S.sh j) (nI A) (c + 1) = lowC (F.S.sh j) (nI A) c ||| ((1 : Int32) <<< (nI c &&& 31)) := by
                rw [lowC, if_neg nle]
                refine b_ext (fun i hi => ?_)
                rw [eb i hi, b_or, bt_one (by omega) hi]
                by_cases hic : i = c
                · subst hic; rw [hb]; simp
                · rw [decide_eq_false hic]; simp
              have ec : kCt (bt (lowC (F.S.sh j) (nI A) (c + 1))) 32 = kCt (bt (lowC (F.S.sh j) (nI A) c)) 32 + 1 := by
                have h32 : kCt (bt (lowC (F.S.sh j) (nI A) (c + 1))) 32 = kCt (fun i => bt (lowC (F.S.sh j) (nI A) c) i || decide (i = c)) 32 := kCt_cong (fun i hi => by
                  rw [e1', b_or, bt_one (by omega) hi])
                rw [h32, kCt_set (p := bt (lowC (F.S.sh j) (nI A) c)) (c := c) (l1 c (Nat.le_refl c) (by omega)) (fun i => rfl), if_pos (show c < 32 by omega)]
              rw [e1'] at nx
              rw [e1'] at ec
              rw [ec] at nx
              have em : nI (A - kCt (bt (lowC (F.S.sh j) (nI A) c)) 32) + (-1 : Int32) = nI (A - (kCt (bt (lowC (F.S.sh j) (nI A) c)) 32 + 1)) := by
                rw [sb_m1 (by omega)]
                exact congrArg nI (by omega)
              rw [em]
              exact nx
        refine ⟨17, ?_⟩
        have := key 16 0 (by omega)
        rw [lowC, kCt_0 (fun i _ => b_0 i), Nat.sub_zero] at this
        exact this
      · rw [if_pos ((nI_eq (b := 1) (by omega) (by omega)).mp h3)] at hp
        unfold wp_X4_fork_b41
        refine ⟨fun _ => hp M mFr.refl hM0, fun z => absurd z (fun y => absurd (show nI k < 0 by rw [y]; decide) (nI_pos (by omega)))⟩
  · rw [if_pos (k01_z.mp h)] at hp
    exact hp M mFr.refl hM0
end G9
