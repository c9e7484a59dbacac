/-! ===== the reference: what is read ===== -/
section G6
variable {G : k_G} {M : k_M} {am : Nat → Nat} {F : kF} {post : Int32 → k_M → Prop}
theorem y_whose {x : Int32} (hok : okF F) (hM : mM G M am F) (hp : post (xwhose F x) M) : wp_X4_whose G post (am 0) x M := by
  obtain ⟨⟨tl, h0⟩, ⟨st, h1, hs⟩, hB⟩ := hM
  have hec := hok.1.2.1
  unfold wp_X4_whose
  unfold xwhose at hp
  refine ⟨_, _, h0, rfl, _, _, h1, kvin (j := 2) (n := 459) (by omega) (by omega), ?_⟩
  rw [show ((2 : Int32)).toNatClampNeg = 2 from rfl, hs.2.2.1]
  refine g_within0 (by omega) ⟨fun h => ?_, fun h => ?_⟩
  · rw [if_neg (by rw [k01_z.mp h]; decide)] at hp; exact hp
  · rw [if_pos (k01_nz h)] at hp
    obtain ⟨j, hj, rfl⟩ := inR_ex (by omega) (k01_nz h)
    rw [kcl (by omega)] at hp
    refine ⟨_, _, h0, rfl, _, _, h1, ?_⟩
    rw [show (3 : Int32) + nI j = nI (3 + j) from nIa 3 j, kcl (by omega), hs.2.2.2.1 j hj]
    exact ⟨kvin (by omega) (by omega), hp⟩
theorem y_height {k x c : Int32} (hok : okF F) (hM : mM G M am F) (hp : post (xheight F k x c) M) : wp_X4_height G post (am 0) k x c M := by
  obtain ⟨⟨tl, h0⟩, ⟨st, h1, hs⟩, hB⟩ := hM
  unfold wp_X4_height
  unfold xheight at hp
  refine g_withinN (n := 1) (by omega) ?_
  rw [isK_in]
  refine ⟨fun h => ?_, fun h => ?_⟩
  · rw [if_neg (by rw [k01_nz h]; decide)] at hp
    refine ⟨_, h0, g_isThere hok.1.1 h0 h1 hs (fun hn => ⟨fun _ => ?_, fun z => absurd rfl z⟩) (fun v hv hp21 hr hk => ⟨fun z => absurd z (by decide), fun _ => g_withinN (n := 15) (by omega) ⟨fun h2 => ?_, fun h2 => ?_⟩⟩)⟩
    · rw [hn] at hp; exact hp
    · replace hp : post (if inR 16 c = true then v.1 c.toNatClampNeg else -1) M := by rw [hv] at hp; exact hp
      rw [if_neg (by rw [k01_z.mp h2]; decide)] at hp; exact hp
    · replace hp : post (if inR 16 c = true then v.1 c.toNatClampNeg else -1) M := by rw [hv] at hp; exact hp
      rw [if_pos (k01_nz h2)] at hp
      obtain ⟨i, hi, rfl⟩ := inR_ex (n := 16) (by omega) (k01_nz h2)
      rw [kcl (by omega)] at hp
      obtain ⟨j, hj, rfl⟩ : ∃ j, j < 8 ∧ x = nI j := hk.elim (fun z => z.2) (fun z => z.2)
      refine ⟨_, _, h0, rfl, g_placeOf (by omega) ⟨_, _, h1, ?_⟩⟩
      rw [kns, nIa, kcl (by omega)]
      refine ⟨kvin (by omega) (by omega), ?_⟩
      have := hr.1 i hi
      unfold hR at this
      rw [this]; exact hp
  · rw [if_pos (k01_z.mp h)] at hp; exact hp
theorem y_knows {k x e : Int32} (hok : okF F) (hM : mM G M am F) (hp : post (xknows F k x e) M) : wp_X4_knows G post (am 0) k x e M := by
  obtain ⟨⟨tl, h0⟩, ⟨st, h1, hs⟩, hB⟩ := hM
  have hec := hok.1.2.1
  unfold wp_X4_knows
  unfold xknows at hp
  refine g_withinN (n := 1) (by omega) ?_
  rw [isK_in]
  refine ⟨fun h => ?_, fun h => ?_⟩
  · rw [if_neg (by rw [k01_nz h]; decide)] at hp
    refine ⟨_, h0, g_isThere hok.1.1 h0 h1 hs (fun hn => ⟨fun _ => ?_, fun z => absurd rfl z⟩) (fun v hv hp21 hr hk => ⟨fun z => absurd z (by decide), fun _ => ?_⟩)⟩
    · rw [hn] at hp; exact hp
    · replace hp : post (if inR F.S.ec e = true then k01 (v.2 e.toNatClampNeg) else -1) M := by rw [hv] at hp; exact hp
      refine ⟨_, _, h0, rfl, _, _, h1, kvin (j := 2) (n := 459) (by omega) (by omega), ?_⟩
      rw [show ((2 : Int32)).toNatClampNeg = 2 from rfl, hs.2.2.1]
      refine g_within0 (by omega) ⟨fun h2 => ?_, fun h2 => ?_⟩
      · rw [if_pos (k01_nz h2)] at hp
        obtain ⟨i, hi, rfl⟩ := inR_ex (by omega) (k01_nz h2)
        rw [kcl (by omega)] at hp
        obtain ⟨j, hj, rfl⟩ : ∃ j, j < 8 ∧ x = nI j := hk.elim (fun z => z.2) (fun z => z.2)
        refine g_placeOf (by omega) ⟨_, h0, g_isKnown h0 h1 hp21 (by omega) ?_⟩
        rw [hr.2 i (by omega)]
        refine ⟨fun h3 => ?_, fun h3 => ?_⟩
        · rw [k01_z.mp h3] at hp; exact hp
        · rw [k01_nz h3] at hp; exact hp
      · rw [if_neg (by rw [k01_z.mp h2]; decide)] at hp; exact hp
  · rw [if_pos (k01_z.mp h)] at hp; exact hp
/-- why two stamps have no order -/
theorem y_why {k x k2 x2 : Int32} {B : kSV → kSV → Int32} (hok : okF F) {st : Nat → Int32} {fs : List Value} (h0 : M (am 0) = some (kO 5 (.ref (am 1) :: fs))) (h1 : M (am 1) = some (kI G 459 st)) (hs : rS F.S st)
    (hno : ∀ r : Int32, r < 0 → post r M → True)
    (hb : isK k = false ∨ isK k2 = false → post (-2) M) (hn : stVal F.S k x = none ∨ stVal F.S k2 x2 = none → isK k = true → isK k2 = true → post (-1) M)
    (hv : ∀ v w, isK k = true → isK k2 = true → stVal F.S k x = some v → stVal F.S k2 x2 = some w → plc k x + 21 ≤ 459 → rSt st (plc k x) v → plc k2 x2 + 21 ≤ 459 → rSt st (plc k2 x2) w → (∃ j, j < 8 ∧ x = nI j) → (∃ j, j < 8 ∧ x2 = nI j) → post 0 M) : wp_X4_whyNoOrder G post (am 0) k x k2 x2 M := by
  unfold wp_X4_whyNoOrder
  refine g_withinN (n := 1) (by omega) ?_
  rw [isK_in]
  refine ⟨fun h => hb (Or.inl (k01_z.mp h)), fun h => g_withinN (n := 1) (by omega) ?_⟩
  rw [isK_in]
  refine ⟨fun h2 => ?_, fun h2 => hb (Or.inr (k01_z.mp h2))⟩
  refine ⟨_, h0, g_isThere hok.1.1 h0 h1 hs (fun hn1 => ⟨fun _ => hn (Or.inl hn1) (k01_nz h) (k01_nz h2), fun z => absurd rfl z⟩) (fun v hv1 hp21 hr hk => ⟨fun z => absurd z (by decide), fun _ => ⟨_, h0, g_isThere hok.1.1 h0 h1 hs (fun hn2 => ⟨fun _ => hn (Or.inr hn2) (k01_nz h) (k01_nz h2), fun z => absurd rfl z⟩) (fun w hv2 hp22 hr2 hk2 => ⟨fun z => absurd z (by decide), fun _ => hv v w (k01_nz h) (k01_nz h2) hv1 hv2 hp21 hr hp22 hr2 (hk.elim (fun z => z.2) (fun z => z.2)) (hk2.elim (fun z => z.2) (fun z => z.2))⟩)⟩⟩)⟩
theorem y_order {k x k2 x2 : Int32} (hok : okF F) (hM : mM G M am F) (hp : post (xorder F k x k2 x2) M) : wp_X4_order G post (am 0) k x k2 x2 M := by
  obtain ⟨⟨tl, h0⟩, ⟨st, h1, hs⟩, hB⟩ := hM
  unfold wp_X4_order
  unfold xorder at hp
  refine ⟨_, h0, y_why (B := kOrd) hok h0 h1 hs (fun _ _ _ => trivial) (fun h => ⟨fun z => absurd z (by decide), fun _ => ?_⟩) (fun h i1 i2 => ⟨fun z => absurd z (by decide), fun _ => ?_⟩) (fun v w i1 i2 e1 e2 p1 r1 p2 r2 j1 j2 => ⟨fun _ => ?_, fun z => absurd (by decide) z⟩)⟩
  · rw [if_pos h] at hp; exact hp
  · rw [if_neg (by rw [i1, i2]; decide)] at hp
    rcases h with h | h
    · rw [h] at hp; exact hp
    · cases hv : stVal F.S k x with
      | none => rw [hv] at hp; exact hp
      | some v => rw [hv, h] at hp; exact hp
  · rw [if_neg (by rw [i1, i2]; decide)] at hp
    replace hp : post (kOrd v w) M := by rw [e1, e2] at hp; exact hp
    obtain ⟨j, hj, rfl⟩ := j1
    obtain ⟨i, hi, rfl⟩ := j2
    refine ⟨_, _, h0, rfl, g_placeOf (by omega) ⟨_, _, h0, rfl, g_placeOf (by omega) (g_orderOf (n := 459) (m := 459) (by omega) p1 (by omega) p2 h1 h1 ?_)⟩⟩
    rw [ordf_cong r1.1 r2.1]; exact hp
theorem y_more {k x k2 x2 : Int32} (hok : okF F) (hM : mM G M am F) (hp : post (xmore F k x k2 x2) M) : wp_X4_more G post (am 0) k x k2 x2 M := by
  obtain ⟨⟨tl, h0⟩, ⟨st, h1, hs⟩, hB⟩ := hM
  have hec := hok.1.2.1
  unfold wp_X4_more
  unfold xmore at hp
  refine ⟨_, h0, y_why (B := kOrd) hok h0 h1 hs (fun _ _ _ => trivial) (fun h => ⟨fun z => absurd z (by decide), fun _ => ?_⟩) (fun h i1 i2 => ⟨fun z => absurd z (by decide), fun _ => ?_⟩) (fun v w i1 i2 e1 e2 p1 r1 p2 r2 j1 j2 => ⟨fun _ => ?_, fun z => absurd (by decide) z⟩)⟩
  · rw [if_pos h] at hp; exact hp
  · rw [if_neg (by rw [i1, i2]; decide)] at hp
    rcases h with h | h
    · rw [h] at hp; exact hp
    · cases hv : stVal F.S k x with
      | none => rw [hv] at hp; exact hp
      | some v => rw [hv, h] at hp; exact hp
  · rw [if_neg (by rw [i1, i2]; decide)] at hp
    replace hp : post (nI (kCt (fun i => v.2 i && !(w.2 i)) 128)) M := by rw [e1, e2] at hp; exact hp
    have hov : okV F.S.ec v := by
      unfold stVal at e1
      split at e1
      · split at e1
        · rename_i h
          obtain ⟨j, hj, rfl, hl⟩ := inH_ex h
          rw [kcl (by omega)] at e1
          cases e1
          exact hok.1.2.2.2.2.1 j hj hl
        · cases e1
      · split at e1
        · rename_i h
          obtain ⟨j, hj, rfl⟩ := inR_ex (by have := hok.1.1; omega) h
          rw [kcl (by have := hok.1.1; omega)] at e1
          cases e1
          exact hok.1.2.2.2.2.2 j hj
        · cases e1
    obtain ⟨j, hj, rfl⟩ := j1
    obtain ⟨i, hi, rfl⟩ := j2
    generalize hq1 : plc k (nI j) = p at *
    generalize hq : plc k2 (nI i) = q at *
    have key : ∀ (j k : Nat), k + j = 4 → wp_X4_more_L41 G post (j + 1) (am 0) (nI p) (nI q) (nI (kCt (fun i => kR2 st p i && !(kR2 st q i)) (30 * k))) (nI (17 + k)) M := by
      intro j
      induction j with
      | zero =>
        intro k hk
        have : k = 4 := by omega
        subst this
        rw [wp_X4_more_L41]
        refine ⟨fun _ => ?_, fun z => absurd (by decide) z⟩
        have e120 : kCt (fun i => v.2 i && !(w.2 i)) 128 = kCt (fun i => kR2 st p i && !(kR2 st q i)) 120 := by
          rw [show 128 = 120 + 8 from rfl, kCt_split, kCt_0 (p := fun i => (v.2 (120 + i) && !(w.2 (120 + i)))) (fun i _ => by rw [hov.2 _ (by omega), Bool.false_and]), Nat.add_zero]
          exact kCt_cong (fun i hi => by rw [r1.2 i hi, r2.2 i hi])
        rw [e120] at hp; exact hp
      | succ j ih =>
        intro k hk
        rw [wp_X4_more_L41]
        dsimp only
        rw [nIa, nIa]
        refine ⟨fun z => absurd z (kge (N := 21) (by omega) (by decide)), fun _ => ⟨_, _, h0, rfl, _, _, h1, kvin (by omega) (by omega), _, _, h0, rfl, _, _, h1, kvin (by omega) (by omega), g_bits ?_⟩⟩
        rw [kcl (by omega), kcl (by omega), nIa, kns]
        have e : kCt (fun i => kR2 st p i && !(kR2 st q i)) (30 * k) + kCt (bt (st (p + (17 + k)) &&& (st (q + (17 + k)) ^^^ (-1 : Int32)))) 30 = kCt (fun i => kR2 st p i && !(kR2 st q i)) (30 * (k + 1)) := by
          rw [show 30 * (k + 1) = 30 * k + 30 by omega, kCt_split]
          refine congrArg _ (kCt_cong (fun i hi => ?_))
          unfold kR2
          rw [b_and, b_xor, b_m1 i (by omega), Bool.xor_true, show (30 * k + i) / 30 = k by omega, show (30 * k + i) % 30 = i by omega, Nat.add_assoc, Nat.add_assoc]
        rw [e]
        exact ih (k + 1) (by omega)
    refine g_placeOf (by omega) (g_placeOf (by omega) ⟨5, ?_⟩)
    rw [hq, hq1]
    exact key 4 0 (by omega)
theorem y_count {x : Int32} (hM : mM G M am F) (hp : post (xcount F x) M) : wp_X4_count G post (am 0) x M := by
  obtain ⟨⟨tl, h0⟩, ⟨st, h1, hs⟩, hB⟩ := hM
  unfold wp_X4_count
  unfold xcount at hp
  refine ⟨fun h => ?_, fun h => ?_, fun h => ?_, fun h => ?_, fun h => ?_, fun h => ?_, fun h => ?_, fun h => ?_, fun h => ?_⟩
  · rw [if_pos h] at hp
    refine ⟨_, _, h0, rfl, _, _, h1, kvin (j := 0) (n := 459) (by omega) (by omega), ?_⟩
    rw [sb_cl0, hs.1]; exact hp
  · rw [if_neg (by omega), if_pos h] at hp
    refine ⟨_, _, h0, rfl, _, _, h1, kvin (j := 1) (n := 459) (by omega) (by omega), ?_⟩
    rw [show ((1 : Int32)).toNatClampNeg = 1 from rfl, hs.2.1]; exact hp
  · rw [if_neg (by omega), if_neg (by omega), if_pos h] at hp
    refine ⟨_, _, h0, rfl, _, _, h1, kvin (j := 2) (n := 459) (by omega) (by omega), ?_⟩
    rw [show ((2 : Int32)).toNatClampNeg = 2 from rfl, hs.2.2.1]; exact hp
  · rw [if_neg (by omega), if_neg (by omega), if_neg (by omega), if_pos h] at hp
    exact ⟨_, h0, g_clashes h0 h1 hs hp⟩
  · rw [if_neg (by omega), if_neg (by omega), if_neg (by omega), if_neg (by omega), if_pos h] at hp
    exact ⟨_, h0, g_allKnots h0 h1 hs hp⟩
  · rw [if_neg (by omega), if_neg (by omega), if_neg (by omega), if_neg (by omega), if_neg (by omega), if_pos h] at hp
    exact ⟨_, h0, g_leader h0 h1 hs hp⟩
  · rw [if_neg (by omega), if_neg (by omega), if_neg (by omega), if_neg (by omega), if_neg (by omega), if_neg (by omega), if_pos h] at hp
    exact ⟨_, _, h0, rfl, hp⟩
  · rw [if_neg (by omega), if_neg (by omega), if_neg (by omega), if_neg (by omega), if_neg (by omega), if_neg (by omega), if_neg (by omega), if_pos h] at hp
    exact ⟨_, _, h0, rfl, hp⟩
  · rw [if_neg (by omega), if_neg (by omega), if_neg (by omega), if_neg (by omega), if_neg (by omega), if_neg (by omega), if_neg (by omega), if_neg (by omega)] at hp
    exact hp
theorem y_ofMessage {x w : Int32} (hok : okF F) (hM : mM G M am F) (hp : post (xofM F x w) M) : wp_X4_ofMessage G post (am 0) x w M := by
  obtain ⟨⟨tl, h0⟩, ⟨st, h1, hs⟩, hB⟩ := hM
  have hmc := hok.1.1
  unfold wp_X4_ofMessage
  unfold xofM at hp
  refine ⟨_, h0, g_isMessage hmc h0 h1 hs ⟨fun h => ?_, fun h => ?_⟩⟩
  · rw [if_neg (by rw [k01_nz h]; decide)] at hp
    obtain ⟨j, hj, rfl⟩ := inR_ex (by omega) (k01_nz h)
    rw [kcl (by omega)] at hp
    obtain ⟨r0, r⟩ := hs.2.2.2.2.2 j hj
    refine g_messageAt ⟨fun h2 => ?_, fun h2 => ?_, fun h2 => ?_, fun h2 => ?_, fun h2 => ?_⟩
    · rw [if_pos h2] at hp
      refine ⟨_, _, h0, rfl, _, _, h1, ?_⟩
      rw [show nI (291 + 21 * j) + (0 : Int32) = nI (291 + 21 * j) from nIa _ 0, kcl (by omega), r0]
      exact ⟨kvin (by omega) (by omega), hp⟩
    · rw [if_neg (by omega), if_pos h2] at hp
      refine ⟨_, h0, g_heights (b := true) h0 h1 (by omega) ?_⟩
      rw [if_pos rfl, kSum_cong r.1]; exact hp
    · rw [if_neg (by omega), if_neg (by omega), if_pos h2] at hp
      refine ⟨_, _, h0, rfl, g_knownMany (n := 459) (by omega) (by omega) h1 ?_⟩
      rw [kCt_kn2 hok.1.2.1 r (hok.1.2.2.2.2.2 j hj)]; exact hp
    · rw [if_neg (by omega), if_neg (by omega), if_neg (by omega), if_pos h2] at hp
      refine ⟨_, _, h0, rfl, g_knots (n := 459) (by omega) (by omega) h1 ?_⟩
      rw [kKn_cong r.1 4 0 (by decide)]; exact hp
    · rw [if_neg (by omega), if_neg (by omega), if_neg (by omega), if_neg (by omega)] at hp
      exact hp
  · rw [if_pos (k01_z.mp h)] at hp; exact hp
theorem lkS_none (S : kS) : ∀ n, kAny (live S) n = false → lkS S n = (0, 121) := by
  intro n
  induction n with
  | zero => intro _; rfl
  | succ n ih =>
    intro h
    rw [kAny] at h
    have h1 : kAny (live S) n = false := by cases hb : kAny (live S) n with | false => rfl | true => rw [hb] at h; cases h
    have h2 : live S n = false := by cases hb : live S n with | false => rfl | true => rw [hb, Bool.or_true] at h; cases h
    rw [lkS, if_neg (by rw [h2]; rintro ⟨z, -⟩; cases z)]
    exact ih h1
theorem lkS_some {S : kS} (hok : okS S) : ∀ n, n ≤ 8 → kAny (live S) n = true → (lkS S n).2 ≤ 120 ∧ (lkS S n).2 = kCnt (S.hs (lkS S n).1) := by
  have hle : ∀ n, n < 8 → live S n = true → kCnt (S.hs n) ≤ 120 := fun n hn hl => by
    have := (hok.2.2.2.2.1 n hn (live_ne hl)).2
    unfold kCnt
    rw [show 128 = 120 + 8 from rfl, kCt_split, kCt_0 (p := fun i => (S.hs n).2 (120 + i)) (fun i _ => this _ (by have := hok.2.1; omega)), Nat.add_zero]
    exact kCt_le
  intro n
  induction n with
  | zero => intro _ h; cases h
  | succ n ih =>
    intro hn h
    rw [lkS]
    by_cases hc : live S n = true ∧ kCnt (S.hs n) < (lkS S n).2
    · rw [if_pos hc]
      exact ⟨hle n (by omega) hc.1, rfl⟩
    · rw [if_neg hc]
      cases ha : kAny (live S) n with
      | true => exact ih (by omega) ha
      | false =>
        exfalso
        rw [kAny, ha, Bool.false_or] at h
        refine hc ⟨h, ?_⟩
        rw [lkS_none S n ha]
        have := hle n (by omega) h
        show kCnt (S.hs n) < 121
        omega
theorem y_laggard {w : Int32} (hok : okF F) (hM : mM G M am F) (hp : post (xlag F w) M) : wp_X4_laggard G post (am 0) w M := by
  obtain ⟨⟨tl, h0⟩, ⟨st, h1, hs⟩, hB⟩ := hM
  have any8 : kAny (live F.S) 8 = true := by
    obtain ⟨h, hh, hl⟩ := hok.1.2.2.2.1
    exact kAny_iff.mpr ⟨h, hh, by unfold live; rw [decide_eq_false hl]; rfl⟩
  have hb : ∀ n, n ≤ 8 → ((if kAny (live F.S) n = true then nI (lkS F.S n).1 else -6) = (-6 : Int32) ↔ kAny (live F.S) n = false) := fun n hn => by
    cases ha : kAny (live F.S) n with
    | false => simp
    | true =>
      rw [if_pos rfl]
      have := lkS_lt F.S n hn
      constructor
      · intro z
        exact absurd (show nI (lkS F.S n).1 < 0 by rw [z]; decide) (nI_pos (by omega))
      · intro z; cases z
  unfold wp_X4_laggard
  unfold xlag at hp
  refine g_withinN (n := 1) (by omega) ?_
  rw [isK_in]
  refine ⟨fun h => ?_, fun h => ?_⟩
  · have key : ∀ (j k : Nat), k + j = 8 → wp_X4_laggard_L20 G post (j + 1) (am 0) w (if kAny (live F.S) k = true then nI (lkS F.S k).1 else -6) (if kAny (live F.S) k = true then nI (lkS F.S k).2 else 0) (nI k) M := by
      intro j
      induction j with
      | zero =>
        intro k hk
        have : k = 8 := by omega
        subst this
        rw [wp_X4_laggard_L20]
        refine ⟨fun _ => ⟨fun hw => ⟨_, _, h0, rfl, _, _, h1, kvin (j := 2) (n := 459) (by omega) (by omega), ?_⟩, fun hw => ?_⟩, fun z => absurd (by decide) z⟩
        · have hw1 : w = 1 := by
            have := of_decide_eq_true (k01_nz h)
            exact this.resolve_left hw
          rw [if_neg hw, if_pos hw1] at hp
          rw [show ((2 : Int32)).toNatClampNeg = 2 from rfl, hs.2.2.1, if_pos any8, (lkS_some hok.1 8 (by omega) any8).2]
          exact hp
        · rw [if_pos hw] at hp
          rw [if_pos any8]; exact hp
      | succ j ih =>
        intro k hk
        have nx := ih (k + 1) (by omega)
        rw [wp_X4_laggard_L20]
        refine ⟨fun z => absurd z (kge (N := 8) (by omega) (by decide)), fun _ => ⟨_, _, h0, rfl, g_helperAt (g_knownMany (n := 459) (by omega) (by omega) h1 ⟨_, h0, g_isHelper h0 h1 hs ?_⟩)⟩⟩
        rw [inH_live (by omega)]
        have eA : kAny (live F.S) (k + 1) = (kAny (live F.S) k || live F.S k) := rfl
        have yes : live F.S k = true → kCnt (F.S.hs k) < (lkS F.S k).2 → wp_X4_laggard_b62 G post (wp_X4_laggard_L20 G post (j + 1)) (am 0) w (if kAny (live F.S) k = true then nI (lkS F.S k).1 else -6) (if kAny (live F.S) k = true then nI (lkS F.S k).2 else 0) (nI k) (nI (kCt (kR2 st (123 + 21 * k)) 120)) M := by
          intro hl hlt
          rw [eA, hl, Bool.or_true, if_pos rfl, if_pos rfl, lkS, if_pos ⟨hl, hlt⟩] at nx
          rw [kCt_kn2 hok.1.2.1 (hs.2.2.2.2.1 k (by omega) (live_ne hl)).2 (hok.1.2.2.2.2.1 k (by omega) (live_ne hl))]
          unfold wp_X4_laggard_b62 wp_X4_laggard_b67 wp_X4_laggard_b80
          rw [kns]
          exact ⟨fun z => absurd z (by decide), fun _ => ⟨fun z => absurd z (by decide), fun _ => nx⟩⟩
        have no : ¬ (live F.S k = true ∧ kCnt (F.S.hs k) < (lkS F.S k).2) → (live F.S k = true → kAny (live F.S) k = true) → wp_X4_laggard_b66 G post (wp_X4_laggard_L20 G post (j + 1)) (am 0) w (if kAny (live F.S) k = true then nI (lkS F.S k).1 else -6) (if kAny (live F.S) k = true then nI (lkS F.S k).2 else 0) (nI k) (nI (kCt (kR2 st (123 + 21 * k)) 120)) M := by
          intro hn hl
          have eA2 : kAny (live F.S) (k + 1) = kAny (live F.S) k := by
            rw [eA]
            cases hb : live F.S k with
            | false => rw [Bool.or_false]
            | true => rw [hl hb]; rfl
          rw [eA2, lkS, if_neg hn] at nx
          unfold wp_X4_laggard_b66 wp_X4_laggard_b67 wp_X4_laggard_b80
          rw [kns]
          exact ⟨fun _ => ⟨fun _ => nx, fun z => absurd rfl z⟩, fun z => absurd rfl z⟩
        refine ⟨fun h2 => no (by rw [k01_z.mp h2]; rintro ⟨z, -⟩; cases z) (fun z => by rw [k01_z.mp h2] at z; cases z), fun h2 => ⟨fun h3 => ?_, fun h3 => ?_⟩⟩
        · have ha := (hb k (by omega)).mp h3
          refine yes (k01_nz h2) ?_
          rw [lkS_none _ _ ha]
          have := (hok.1.2.2.2.2.1 k (by omega) (live_ne (k01_nz h2))).2
          show kCnt (F.S.hs k) < 121
          unfold kCnt
          rw [show 128 = 120 + 8 from rfl, kCt_split, kCt_0 (p := fun i => (F.S.hs k).2 (120 + i)) (fun i _ => this _ (by have := hok.1.2.1; omega)), Nat.add_zero]
          have : kCt (F.S.hs k).2 120 ≤ 120 := kCt_le
          omega
        · have ha : kAny (live F.S) k = true := by
            cases hx : kAny (live F.S) k with
            | true => rfl
            | false => exact absurd ((hb k (by omega)).mpr hx) h3
          have hs2 := (lkS_some hok.1 k (by omega) ha).1
          have ecn := kCt_kn2 hok.1.2.1 (hs.2.2.2.2.1 k (by omega) (live_ne (k01_nz h2))).2 (hok.1.2.2.2.2.1 k (by omega) (live_ne (k01_nz h2)))
          have hle : kCt (kR2 st (123 + 21 * k)) 120 ≤ 120 := kCt_le
          refine ⟨fun h4 => no ?_ (fun _ => ha), fun h4 => yes (k01_nz h2) ?_⟩
          · rintro ⟨-, z⟩
            rw [if_pos ha] at h4
            have := (nI_leI (by omega) (by omega)).mp h4
            omega
          · rw [if_pos ha] at h4
            rcases Nat.lt_or_ge (kCnt (F.S.hs k)) (lkS F.S k).2 with q | q
            · exact q
            · exact absurd (nI_le (by omega) (by omega)) h4
    exact ⟨9, key 8 0 (by omega)⟩
  · have := k01_z.mp h
    have hn : ¬ (w = 0 ∨ w = 1) := of_decide_eq_false this
    rw [if_neg (fun z => hn (Or.inl z)), if_neg (fun z => hn (Or.inr z))] at hp
    exact hp
end G6
