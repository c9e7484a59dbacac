/-! ===== the reference: record, events, messages, gathering ===== -/
theorem remF_pn (F : kF) : (remF F).pn = F.pn := by unfold remF; split <;> rfl
theorem remF_sv (F : kF) : (remF F).sv = F.sv := by unfold remF; split <;> rfl
theorem remF_ch (F : kF) : (remF F).ch = F.ch := by unfold remF; split <;> rfl
theorem hset_cong {S T : kS} : ∀ {n : Nat}, (∀ i, i < n → live S i = live T i) → hset S n = hset T n := by
  intro n
  induction n with
  | zero => intro _; rfl
  | succ n ih => intro h; rw [hset, hset, ih (fun i hi => h i (by omega)), h n (by omega)]
section G7
variable {G : k_G} {M : k_M} {am : Nat → Nat} {F : kF} {post : Int32 → k_M → Prop}
theorem g_b50 {rc pl : Nat} {tl : Int32} {st hi : Nat → Int32} {postv : k_M → Prop} (hI : mInj am) (hrc : rc ≤ 5) (h0 : M (am 0) = some (kO 5 (mO am rc pl tl))) (h1 : M (am 1) = some (kI G 459 st)) (h2 : M (am 2) = some (kI G 2754 hi))
    (hp : ∀ (M1 : k_M) (hi' : Nat → Int32), (∀ a, a ≠ am 0 → a ≠ am 2 → M1 a = M a) → M1 (am 0) = some (kO 5 (mO am (rc + 1) pl tl)) → M1 (am 2) = some (kI G 2754 hi') → (∀ i, hi' i = if 459 * rc ≤ i ∧ i < 459 * rc + 459 then st (i - 459 * rc) else hi i) → postv M1) : wp_X4_record_b50 G postv (am 0) M := by
  unfold wp_X4_record_b50
  refine ⟨_, _, h0, rfl, _, _, h0, rfl, _, _, h0, rfl, ?_⟩
  rw [show nI rc * (459 : Int32) = nI (rc * 459) from pk_mul rc 459]
  refine g_moves (s := 0) (t := rc * 459) (many := 459) (by omega) (by omega) h1 h2 (Or.inl (hI.ne (by omega) (by omega) (by omega))) (by omega) (by omega) (fun M1 hi' f1 m2 e => ?_)
  have m0 := (f1 _ (hI.ne (i := 0) (by omega) (by omega) (by omega))).trans h0
  refine ⟨_, _, m0, rfl, _, m0, by simp, fun M2 e2 => ?_⟩
  rw [kns] at e2
  refine hp M2 hi' (fun a a0 a2 => (kup_off e2 a0).trans (f1 a a2)) (by rw [kup_at e2]; rfl) ((kup_off e2 (hI.ne (by omega) (by omega) (by omega))).trans m2) (fun i => ?_)
  rw [e i, Nat.zero_add, Nat.mul_comm rc 459]
theorem g_record {postv : k_M → Prop} (hI : mInj am) (hok : okF F) (hM : mM G M am F)
    (hp : ∀ (M1 : k_M) (st : Nat → Int32), mFr M M1 am → (∃ tl, M1 (am 0) = some (kO 5 (mO am (remF F).hc F.pn tl))) → M1 (am 1) = some (kI G 459 st) → rS F.S st → mB G M1 am (remF F) → postv M1) : wp_X4_record G postv (am 0) M := by
  obtain ⟨⟨tl, h0⟩, ⟨st, h1, hs⟩, ⟨hi, h2, h2'⟩, hB⟩ := hM
  obtain ⟨⟨b, b1, b2⟩, ⟨c, c1, c2⟩, ⟨d, d1, d2⟩, ⟨f, f1⟩, ⟨g, g1⟩, ⟨i, i1⟩, ⟨j, j1⟩, ⟨k, k1⟩⟩ := hB
  obtain ⟨ok1, ok2, ok3, ok4, ok5, ok6⟩ := hok
  have rest : ∀ M1 : k_M, (∀ a, a ≠ am 0 → a ≠ am 2 → M1 a = M a) → (∃ hi', M1 (am 2) = some (kI G 2754 hi') ∧ ∀ i, i < (remF F).hc → rS ((remF F).hist i) (fun k => hi' (459 * i + k))) → mB G M1 am (remF F) := by
    intro M1 fr hh
    have e : ∀ k, 3 ≤ k → k < 11 → M1 (am k) = M (am k) := fun k q1 q2 => fr _ (hI.ne q2 (by omega) (by omega)) (hI.ne q2 (by omega) (by omega))
    refine ⟨hh, ⟨b, (e 3 (by omega) (by omega)).trans b1, ?_⟩, ⟨c, (e 4 (by omega) (by omega)).trans c1, ?_⟩, ⟨d, (e 5 (by omega) (by omega)).trans d1, ?_⟩, ⟨f, (e 6 (by omega) (by omega)).trans f1⟩, ⟨g, (e 7 (by omega) (by omega)).trans g1⟩, ⟨i, (e 8 (by omega) (by omega)).trans i1⟩, ⟨j, (e 9 (by omega) (by omega)).trans j1⟩, ⟨k, (e 10 (by omega) (by omega)).trans k1⟩⟩
    · rw [remF_sl, remF_sv]; exact b2
    · rw [remF_sv]; exact c2
    · rw [remF_pn, remF_ch]; exact d2
  have mfr : ∀ M1 : k_M, (∀ a, a ≠ am 0 → a ≠ am 2 → M1 a = M a) → mFr M M1 am := fun M1 fr a ha => fr a (ha 0 (by omega)) (ha 2 (by omega))
  unfold wp_X4_record
  refine ⟨_, _, h0, rfl, fun h => ?_, fun h => ?_⟩
  · have hlt : F.hc < 6 := by
      rcases Nat.lt_or_ge F.hc 6 with q | q
      · exact q
      · exact absurd (show nI F.hc = 6 by rw [show F.hc = 6 by omega]; rfl) h
    have er : remF F = (F.S, va_up F.hist F.hc F.S, F.hc + 1, F.2.2.2) := by unfold remF; rw [if_pos hlt]
    refine g_b50 hI (by omega) h0 h1 h2 (fun M1 hi' fr m0 m2 e => hp M1 st (mfr M1 fr) ⟨tl, ?_⟩ ((fr _ (hI.ne (by omega) (by omega) (by omega)) (hI.ne (by omega) (by omega) (by omega))).trans h1) hs (rest M1 fr ⟨hi', m2, ?_⟩))
    · rw [er]; exact m0
    · rw [er]
      intro i hi1
      have hi1 : i < F.hc + 1 := hi1
      show rS (va_up F.hist F.hc F.S i) (fun k => hi' (459 * i + k))
      by_cases hic : i = F.hc
      · subst hic
        rw [vup_s]
        refine hs.cong ok1.1 ok1.2.1 (fun k hk => ?_)
        show hi' (459 * F.hc + k) = st k
        rw [e, if_pos (by omega), Nat.add_sub_cancel_left]
      · rw [vup_n hic]
        have := ok2 i (by omega)
        refine (h2' i (by omega)).cong this.1 this.2.1 (fun k hk => ?_)
        show hi' (459 * i + k) = hi (459 * i + k)
        rw [e, if_neg (by omega)]
  · have he : F.hc = 6 := (nI_eq (b := 6) (by omega) (by omega)).mp h
    have er : remF F = (F.S, va_up (rot F.hist) 5 F.S, 6, F.2.2.2) := by unfold remF; rw [if_neg (by omega)]
    have key : ∀ (n k : Nat), k + n = 2295 → ∀ (M1 : k_M) (hi1 : Nat → Int32), (∀ a, a ≠ am 2 → M1 a = M a) → M1 (am 2) = some (kI G 2754 hi1) → (∀ i, hi1 i = if i < k then hi (i + 459) else hi i) → wp_X4_record_L11 G postv (n + 1) (am 0) (nI k) M1 := by
      intro n
      induction n with
      | zero =>
        intro k hk M1 hi1 fr m2 e
        have : k = 2295 := by omega
        subst this
        rw [wp_X4_record_L11]
        have m0 := (fr _ (hI.ne (i := 0) (by omega) (by omega) (by omega))).trans h0
        refine ⟨fun _ => ⟨_, _, m0, rfl, _, m0, by simp, fun M2 e2 => ?_⟩, fun z => absurd (by decide) z⟩
        rw [he, show nI 6 - (1 : Int32) = nI 5 from nI_sub1 (by omega)] at e2
        have q0 : M2 (am 0) = some (kO 5 (mO am 5 F.pn tl)) := by rw [kup_at e2]; rfl
        have q1 := (kup_off e2 (hI.ne (i := 1) (by omega) (by omega) (by omega))).trans ((fr _ (hI.ne (i := 1) (by omega) (by omega) (by omega))).trans h1)
        have q2 := (kup_off e2 (hI.ne (i := 2) (by omega) (by omega) (by omega))).trans m2
        refine g_b50 hI (by omega) q0 q1 q2 (fun M3 hi' fr3 p0 p2 e3 => ?_)
        have fr' : ∀ a, a ≠ am 0 → a ≠ am 2 → M3 a = M a := fun a a0 a2 => (fr3 a a0 a2).trans ((kup_off e2 a0).trans (fr a a2))
        refine hp M3 st (mfr M3 fr') ⟨tl, by rw [er]; exact p0⟩ ((fr' _ (hI.ne (by omega) (by omega) (by omega)) (hI.ne (by omega) (by omega) (by omega))).trans h1) hs (rest M3 fr' ⟨hi', p2, ?_⟩)
        rw [er]
        intro i hi6
        have hi6 : i < 6 := hi6
        show rS (va_up (rot F.hist) 5 F.S i) (fun k => hi' (459 * i + k))
        by_cases hic : i = 5
        · subst hic
          rw [vup_s]
          refine hs.cong ok1.1 ok1.2.1 (fun k hk => ?_)
          show hi' (459 * 5 + k) = st k
          rw [e3, if_pos (by omega), Nat.add_sub_cancel_left]
        · rw [vup_n hic]
          unfold rot
          rw [if_pos (by omega)]
          have := ok2 (i + 1) (by omega)
          refine (h2' (i + 1) (by omega)).cong this.1 this.2.1 (fun k hk => ?_)
          show hi' (459 * i + k) = hi (459 * (i + 1) + k)
          rw [e3, if_neg (by omega), e, if_pos (by omega)]
          congr 1
          omega
      | succ n ih =>
        intro k hk M1 hi1 fr m2 e
        rw [wp_X4_record_L11]
        have m0 := (fr _ (hI.ne (i := 0) (by omega) (by omega) (by omega))).trans h0
        refine ⟨fun z => absurd z (kge (N := 2295) (by omega) (by decide)), fun _ => ⟨_, _, m0, rfl, _, _, m0, rfl, _, _, m2, ?_⟩⟩
        rw [show nI k + (459 : Int32) = nI (k + 459) from nIa k 459, kcl (show k + 459 < 2 ^ 31 by omega), kcl (show k < 2 ^ 31 by omega), kns]
        refine ⟨kvin (by omega) (by omega), _, _, m2, kvin (by omega) (by omega), fun M2 e2 => ?_⟩
        refine ih (k + 1) (by omega) M2 _ (fun a ha => (kup_off e2 ha).trans (fr a ha)) (kup_at e2) (fun i => ?_)
        by_cases hik : i = k
        · subst hik
          rw [upd_s, if_pos (by omega), e, if_neg (by omega)]
        · rw [upd_n hik, e i]
          have : (i < k) ↔ (i < k + 1) := by omega
          simp only [this]
    exact ⟨2296, key 2295 0 (by omega) M hi (fun _ _ => rfl) h2 (fun i => by rw [if_neg (Nat.not_lt_zero i)])⟩
/-- behind record: the state's row has changed -/
theorem y_fin {S' : kS} {M1 M2 : k_M} {st' : Nat → Int32} {r : Int32} (hI : mInj am) (fr : mFr M M1 am) (h0 : ∃ tl, M1 (am 0) = some (kO 5 (mO am (remF F).hc F.pn tl))) (hB : mB G M1 am (remF F)) (f2 : ∀ a, a ≠ am 1 → M2 a = M1 a) (h1 : M2 (am 1) = some (kI G 459 st')) (hs : rS S' st') (hp : yPost G M am (r, (S', (remF F).2)) post) : post r M2 := by
  obtain ⟨tl, h0⟩ := h0
  refine hp M2 (fr.trans (fun a ha => f2 a (ha 1 (by omega)))) ⟨⟨tl, ?_⟩, ⟨st', h1, hs⟩, ?_⟩
  · have := (f2 _ (hI.ne (i := 0) (by omega) (by omega) (by omega))).trans h0
    rw [← remF_pn F] at this
    exact this
  · exact hB.kept (fun k q1 q2 => f2 _ (hI.ne q2 (by omega) (by omega)))
theorem kR2_learn {row : Nat → Int32} {p e : Nat} (he : e < 120) {i : Nat} (hi : i < 120) : kR2 (upd row (p + 17 + e / 30) (row (p + 17 + e / 30) ||| ((1 : Int32) <<< (nI (e % 30) &&& 31)))) p i = (kR2 row p i || decide (i = e)) := by
  unfold kR2
  by_cases hd : i / 30 = e / 30
  · rw [hd, upd_s, b_or, b_shl (e % 30) (by omega) 1 (show i % 30 < 32 by omega)]
    congr 1
    by_cases hie : i = e
    · subst hie
      rw [decide_eq_true (Nat.le_refl _), decide_eq_true rfl, Nat.sub_self]; rfl
    · rw [decide_eq_false hie]
      by_cases hle : e % 30 ≤ i % 30
      · rw [decide_eq_true hle, b_1 _ (by omega), decide_eq_false (by omega)]; rfl
      · rw [decide_eq_false hle]; rfl
  · rw [upd_n (by omega), decide_eq_false (fun z => hd (by rw [z])), Bool.or_false]
theorem rS_ev {S : kS} {st st1 : Nat → Int32} {j : Nat} (hj : j < 8) (hl : S.sh j ≠ 0) (hmc : S.mc ≤ 8) (hec : S.ec < 120) (hs : rS S st) (e1 : ∀ i, st1 i = rzR st (123 + 21 * j) 16 i) :
    rS (evS S j) (upd (upd (upd st1 (123 + 21 * j + 17 + S.ec / 30) (st1 (123 + 21 * j + 17 + S.ec / 30) ||| ((1 : Int32) <<< (nI (S.ec % 30) &&& 31)))) (3 + S.ec) (nI j)) 2 (nI (S.ec + 1))) := by
  obtain ⟨h0, h1, h2, h3, h4, h5⟩ := hs
  have off : ∀ i, (i < 124 + 21 * j ∨ 123 + 21 * j + 21 ≤ i) → st1 i = st i := fun i hi => by
    rw [e1]
    unfold rzR
    rw [if_neg (by omega)]
  have far : ∀ q, 123 ≤ q → (q + 21 ≤ 123 + 21 * j ∨ 123 + 21 * j + 21 ≤ q) → ∀ i, q ≤ i → i < q + 21 → (upd (upd (upd st1 (123 + 21 * j + 17 + S.ec / 30) (st1 (123 + 21 * j + 17 + S.ec / 30) ||| ((1 : Int32) <<< (nI (S.ec % 30) &&& 31)))) (3 + S.ec) (nI j)) 2 (nI (S.ec + 1))) i = st i := fun q q1 q2 i i1 i2 => by
    rw [upd_n (by omega), upd_n (by omega), upd_n (by omega)]
    exact off i (by omega)
  refine ⟨?_, ?_, ?_, fun e he => ?_, fun h hh hlh => ?_, fun m hm => ?_⟩
  · rw [upd_n (by omega), upd_n (by omega), upd_n (by omega), off 0 (by omega), h0]
    exact hset_cong (fun i _ => rfl)
  · rw [upd_n (by omega), upd_n (by omega), upd_n (by omega), off 1 (by omega), h1]; rfl
  · rw [upd_s]; rfl
  · have he : e < S.ec + 1 := he
    rw [upd_n (by omega)]
    show _ = upd S.ac S.ec (nI j) e
    by_cases hee : e = S.ec
    · subst hee; rw [upd_s, upd_s]
    · rw [upd_n (by omega), upd_n hee, upd_n (by omega), off _ (by omega)]
      exact h3 e (by omega)
  · show _ = S.sh h ∧ rSt _ _ (va_up S.hs j _ h)
    obtain ⟨a, b⟩ := h4 h hh hlh
    by_cases hjh : h = j
    · subst hjh
      rw [vup_s, upd_n (by omega), upd_n (by omega), upd_n (by omega), off _ (by omega)]
      refine ⟨a, fun c hc => ?_, fun i hi => ?_⟩
      · unfold hR
        rw [upd_n (by omega), upd_n (by omega), upd_n (by omega), e1]
        unfold rzR
        show _ = rais (S.hs h) (S.sh h) c
        unfold rais
        rw [show 123 + 21 * h + 1 + c - (123 + 21 * h) - 1 = c by omega, a]
        by_cases hb : bt (S.sh h) c = true
        · rw [if_pos ⟨by omega, by omega, hb⟩, if_pos hb, rz_cong b.1]
        · rw [if_neg (fun z => hb z.2.2), if_neg hb]; exact b.1 c hc
      · have : kR2 (upd (upd (upd st1 (123 + 21 * h + 17 + S.ec / 30) (st1 (123 + 21 * h + 17 + S.ec / 30) ||| ((1 : Int32) <<< (nI (S.ec % 30) &&& 31)))) (3 + S.ec) (nI h)) 2 (nI (S.ec + 1))) (123 + 21 * h) i = kR2 (upd st1 (123 + 21 * h + 17 + S.ec / 30) (st1 (123 + 21 * h + 17 + S.ec / 30) ||| ((1 : Int32) <<< (nI (S.ec % 30) &&& 31)))) (123 + 21 * h) i := by
          unfold kR2
          rw [upd_n (by omega), upd_n (by omega)]
        rw [this, kR2_learn hec hi]
        have : kR2 st1 (123 + 21 * h) i = kR2 st (123 + 21 * h) i := by
          unfold kR2
          rw [e1]
          unfold rzR
          rw [if_neg (by omega)]
        rw [this, b.2 i hi]
    · rw [vup_n hjh]
      have fa := far (123 + 21 * h) (by omega) (by omega)
      exact ⟨(fa _ (by omega) (by omega)).trans a, b.cong (fun k k1 k2 => fa k (by omega) (by omega))⟩
  · obtain ⟨a, b⟩ := h5 m hm
    have hm : m < S.mc := hm
    have fa := far (291 + 21 * m) (by omega) (by omega)
    exact ⟨(fa _ (by omega) (by omega)).trans a, b.cong (fun k k1 k2 => fa k (by omega) (by omega))⟩
theorem g_happens {S : kS} {j : Nat} {st : Nat → Int32} {fs : List Value} (hI : mInj am) (hj : j < 8) (hl : S.sh j ≠ 0) (hmc : S.mc ≤ 8) (hec : S.ec < 120) (h0 : M (am 0) = some (kO 5 (.ref (am 1) :: fs))) (h1 : M (am 1) = some (kI G 459 st)) (hs : rS S st)
    (hp : ∀ (M1 : k_M) (st' : Nat → Int32), (∀ a, a ≠ am 1 → M1 a = M a) → M1 (am 1) = some (kI G 459 st') → rS (evS S j) st' → post (nI S.ec) M1) : wp_X4_happens G post (am 0) (nI j) M := by
  have h01 : am 0 ≠ am 1 := hI.ne (by omega) (by omega) (by omega)
  unfold wp_X4_happens
  refine ⟨_, _, h0, rfl, _, _, h1, kvin (j := 2) (n := 459) (by omega) (by omega), _, _, h0, rfl, g_helperAt (g_raise (n := 459) (by omega) (by omega) h1 (fun M1 st1 f1 m1 e1 => ?_))⟩
  have q0 := (f1 _ h01).trans h0
  rw [show ((2 : Int32)).toNatClampNeg = 2 from rfl, hs.2.2.1]
  refine ⟨_, _, q0, rfl, g_helperAt ?_⟩
  unfold wp_X4_learns
  have d1 : nI S.ec / (30 : Int32) = nI (S.ec / 30) := pk_div (a := S.ec) (d := 30) (by omega) (by omega) (by omega)
  have d2 : nI S.ec - nI S.ec / (30 : Int32) * (30 : Int32) = nI (S.ec % 30) := pk_rem (a := S.ec) (d := 30) (by omega) (by omega) (by omega)
  rw [d2, d1, show nI (123 + 21 * j) + (17 : Int32) = nI (123 + 21 * j + 17) from nIa _ 17, nIa, kcl (show 123 + 21 * j + 17 + S.ec / 30 < 2 ^ 31 by omega), show (3 : Int32) + nI S.ec = nI (3 + S.ec) from nIa 3 _, kcl (show 3 + S.ec < 2 ^ 31 by omega)]
  refine ⟨_, _, m1, kvin (by omega) (by omega), _, _, m1, kvin (by omega) (by omega), fun M2 e2 => ?_⟩
  have q0 := (kup_off e2 h01).trans q0
  refine ⟨_, _, q0, rfl, _, _, kup_at e2, kvin (by omega) (by omega), fun M3 e3 => ?_⟩
  have q0 := (kup_off e3 h01).trans q0
  refine ⟨_, _, q0, rfl, _, _, kup_at e3, kvin (j := 2) (n := 459) (by omega) (by omega), _, _, kup_at e3, kvin (j := 2) (n := 459) (by omega) (by omega), fun M4 e4 => ?_⟩
  have v2 : st1 2 = nI S.ec := by rw [e1]; unfold rzR; rw [if_neg (by omega)]; exact hs.2.2.1
  rw [upd_n (show 2 ≠ 3 + S.ec by omega), upd_n (show 2 ≠ 123 + 21 * j + 17 + S.ec / 30 by omega), v2, kns] at e4
  exact hp M4 _ (fun a ha => (kup_off e4 ha).trans ((kup_off e3 ha).trans ((kup_off e2 ha).trans (f1 a ha)))) (kup_at e4) (rS_ev hj hl hmc hec hs e1)
theorem y_event {x : Int32} (hI : mInj am) (hok : okF F) (hM : mM G M am F) (hp : yPost G M am (xevent F x) post) : wp_X4_event G post (am 0) x M := by
  have hM0 := hM
  obtain ⟨⟨tl, h0⟩, ⟨st, h1, hs⟩, hB⟩ := hM
  have hec := hok.1.2.1
  unfold wp_X4_event
  unfold xevent at hp
  refine ⟨_, h0, g_isHelper h0 h1 hs ⟨fun h => ⟨_, _, h0, rfl, _, _, h1, kvin (j := 2) (n := 459) (by omega) (by omega), ?_⟩, fun h => ?_⟩⟩
  · rw [if_neg (by rw [k01_nz h]; decide)] at hp
    obtain ⟨j, hj, rfl, hl⟩ := inH_ex (k01_nz h)
    rw [kcl (by omega)] at hp
    rw [show ((2 : Int32)).toNatClampNeg = 2 from rfl, hs.2.2.1]
    refine ⟨fun h2 => ?_, fun h2 => ?_⟩
    · have hlt : F.S.ec < 120 := by
        rcases Nat.lt_or_ge F.S.ec 120 with q | q
        · exact q
        · exact absurd (show nI F.S.ec = 120 by rw [show F.S.ec = 120 by omega]; rfl) h2
      rw [if_neg (by omega)] at hp
      refine ⟨_, h0, g_record hI hok hM0 (fun M1 st1 fr1 q0 q1 hs1 hB1 => ?_)⟩
      obtain ⟨tl1, q0'⟩ := q0
      exact ⟨_, q0', g_happens hI hj hl hok.1.1 hlt q0' q1 hs1 (fun M2 st2 f2 q2 hs2 => y_fin hI fr1 ⟨tl1, q0'⟩ hB1 f2 q2 hs2 hp)⟩
    · have : F.S.ec = 120 := (nI_eq (b := 120) (by omega) (by omega)).mp h2
      rw [if_pos (by omega)] at hp
      exact hp M mFr.refl hM0
  · rw [if_pos (k01_z.mp h)] at hp
    exact hp M mFr.refl hM0
theorem rS_tk {S : kS} {st st1 : Nat → Int32} {j q : Nat} {v : kSV} (hj : j < 8) (hl : S.sh j ≠ 0) (hmc : S.mc ≤ 8) (hec : S.ec ≤ 120) (hs : rS S st) (hv : rSt st q v) (hq : q + 21 ≤ 459) (e1 : ∀ i, st1 i = if 123 + 21 * j + 1 ≤ i ∧ i < 123 + 21 * j + 21 then tkR st st (123 + 21 * j) q i else st i) :
    rS (S.sh, va_up S.hs j (mrg (S.hs j) v), S.ms, S.sn, S.mc, S.ac, S.ec) st1 := by
  obtain ⟨h0, h1, h2, h3, h4, h5⟩ := hs
  have off : ∀ i, (i < 124 + 21 * j ∨ 123 + 21 * j + 21 ≤ i) → st1 i = st i := fun i hi => by
    rw [e1, if_neg (by omega)]
  refine ⟨(off 0 (by omega)).trans (h0.trans (hset_cong (fun i _ => rfl))), (off 1 (by omega)).trans h1, (off 2 (by omega)).trans h2, fun e he => (off _ (by have : e < S.ec := he; omega)).trans (h3 e he), fun h hh hlh => ?_, fun m hm => ?_⟩
  · show _ = S.sh h ∧ rSt _ _ (va_up S.hs j _ h)
    obtain ⟨a, b⟩ := h4 h hh hlh
    by_cases hjh : h = j
    · subst hjh
      rw [vup_s, off _ (by omega)]
      refine ⟨a, fun c hc => ?_, fun i hi => ?_⟩
      · unfold hR
        rw [e1, if_pos (by omega)]
        unfold tkR
        rw [if_pos (by omega), show 123 + 21 * h + 1 + c - (123 + 21 * h) - 1 = c by omega]
        show mx _ _ c = mx _ _ c
        unfold mx
        rw [b.1 c hc, hv.1 c hc]
      · unfold kR2
        rw [e1, if_pos (by omega)]
        unfold tkR
        rw [if_neg (by omega), b_or, show q + (123 + 21 * h + 17 + i / 30 - (123 + 21 * h)) = q + 17 + i / 30 by omega]
        have i1 := b.2 i hi
        have i2 := hv.2 i hi
        unfold kR2 at i1 i2
        rw [i1, i2]; rfl
    · rw [vup_n hjh]
      exact ⟨(off _ (by omega)).trans a, b.cong (fun k k1 k2 => off k (by omega))⟩
  · obtain ⟨a, b⟩ := h5 m hm
    have hm : m < S.mc := hm
    exact ⟨(off _ (by omega)).trans a, b.cong (fun k k1 k2 => off k (by omega))⟩
theorem y_receive {x y : Int32} (hI : mInj am) (hok : okF F) (hM : mM G M am F) (hp : yPost G M am (xreceive F x y) post) : wp_X4_receive G post (am 0) x y M := by
  have hM0 := hM
  obtain ⟨⟨tl, h0⟩, ⟨st, h1, hs⟩, hB⟩ := hM
  have hec := hok.1.2.1
  have hmc := hok.1.1
  have h01 : am 0 ≠ am 1 := hI.ne (by omega) (by omega) (by omega)
  unfold wp_X4_receive
  unfold xreceive at hp
  refine ⟨_, h0, g_isHelper h0 h1 hs ⟨fun h => ?_, fun h => ⟨_, h0, g_isMessage hmc h0 h1 hs ⟨fun h2 => ⟨_, _, h0, rfl, _, _, h1, kvin (j := 2) (n := 459) (by omega) (by omega), ?_⟩, fun h2 => ?_⟩⟩⟩⟩
  · rw [if_pos (Or.inl (k01_z.mp h))] at hp
    exact hp M mFr.refl hM0
  · rw [if_neg (by rw [k01_nz h, k01_nz h2]; decide)] at hp
    obtain ⟨j, hj, rfl, hl⟩ := inH_ex (k01_nz h)
    obtain ⟨m, hm, rfl⟩ := inR_ex (by omega) (k01_nz h2)
    rw [kcl (i := j) (by omega), kcl (i := m) (by omega)] at hp
    rw [show ((2 : Int32)).toNatClampNeg = 2 from rfl, hs.2.2.1]
    refine ⟨fun h3 => ?_, fun h3 => ?_⟩
    · have hlt : F.S.ec < 120 := by
        rcases Nat.lt_or_ge F.S.ec 120 with q | q
        · exact q
        · exact absurd (show nI F.S.ec = 120 by rw [show F.S.ec = 120 by omega]; rfl) h3
      rw [if_neg (by omega)] at hp
      refine ⟨_, h0, g_record hI hok hM0 (fun M1 st1 fr1 q0 q1 hs1 hB1 => ?_)⟩
      obtain ⟨tl1, q0'⟩ := q0
      refine ⟨_, _, q0', rfl, g_helperAt ⟨_, _, q0', rfl, g_messageAt (g_takeOver (n0 := 459) (n1 := 459) (by omega) (by omega) q1 q1 (Or.inr (by omega)) (by omega) (by omega) (fun M2 st2 f2 q2 e2 => ?_))⟩⟩
      have hs2 := rS_tk hj hl hmc hec hs1 (hs1.2.2.2.2.2 m hm).2 (by omega) e2
      have q0'' := (f2 _ h01).trans q0'
      refine ⟨_, q0'', g_happens (S := tkS F.S j m) hI hj hl hmc hlt q0'' q2 hs2 (fun M3 st3 f3 q3 hs3 => ?_)⟩
      exact y_fin hI fr1 ⟨tl1, q0'⟩ hB1 (fun a ha => (f3 a ha).trans (f2 a ha)) q3 hs3 hp
    · have : F.S.ec = 120 := (nI_eq (b := 120) (by omega) (by omega)).mp h3
      rw [if_pos (by omega)] at hp
      exact hp M mFr.refl hM0
  · rw [if_pos (Or.inr (k01_z.mp h2))] at hp
    exact hp M mFr.refl hM0
theorem y_send {x : Int32} (hI : mInj am) (hok : okF F) (hM : mM G M am F) (hp : yPost G M am (xsend F x) post) : wp_X4_send G post (am 0) x M := by
  have hM0 := hM
  obtain ⟨⟨tl, h0⟩, ⟨st, h1, hs⟩, hB⟩ := hM
  have hec := hok.1.2.1
  have hmc := hok.1.1
  have h01 : am 0 ≠ am 1 := hI.ne (by omega) (by omega) (by omega)
  unfold wp_X4_send
  unfold xsend at hp
  refine ⟨_, h0, g_isHelper h0 h1 hs ⟨fun h => ⟨_, _, h0, rfl, _, _, h1, kvin (j := 1) (n := 459) (by omega) (by omega), ?_⟩, fun h => ?_⟩⟩
  · rw [if_neg (by rw [k01_nz h]; decide)] at hp
    obtain ⟨j, hj, rfl, hl⟩ := inH_ex (k01_nz h)
    rw [kcl (by omega)] at hp
    rw [show ((1 : Int32)).toNatClampNeg = 1 from rfl, hs.2.1]
    refine ⟨fun h2 => ?_, fun h2 => ?_⟩
    · have hlt : F.S.mc < 8 := by
        rcases Nat.lt_or_ge F.S.mc 8 with q | q
        · exact q
        · exact absurd (show nI F.S.mc = 8 by rw [show F.S.mc = 8 by omega]; rfl) h2
      rw [if_neg (by omega)] at hp
      refine ⟨_, h0, g_record hI hok hM0 (fun M1 st1 fr1 q0 q1 hs1 hB1 => ?_)⟩
      obtain ⟨tl1, q0'⟩ := q0
      refine ⟨_, _, q0', rfl, _, _, q1, kvin (j := 1) (n := 459) (by omega) (by omega), _, _, q0', rfl, g_helperAt ⟨_, _, q0', rfl, ?_⟩⟩
      rw [hs1.2.1]
      refine g_messageAt (g_moves (s := 123 + 21 * j) (t := 291 + 21 * F.S.mc) (many := 21) (n0 := 459) (n1 := 459) (by omega) (by omega) q1 q1 (Or.inr (by omega)) (by omega) (by omega) (fun M2 st2 f2 q2 e2 => ?_))
      have p0 := (f2 _ h01).trans q0'
      refine ⟨_, _, p0, rfl, g_messageAt ⟨_, _, q2, ?_⟩⟩
      rw [show nI (291 + 21 * F.S.mc) + (0 : Int32) = nI (291 + 21 * F.S.mc) from nIa _ 0, kcl (by omega)]
      refine ⟨kvin (by omega) (by omega), fun M3 e3 => ?_⟩
      have p0 := (kup_off e3 h01).trans p0
      refine ⟨_, _, p0, rfl, _, _, kup_at e3, kvin (j := 1) (n := 459) (by omega) (by omega), _, _, kup_at e3, kvin (j := 1) (n := 459) (by omega) (by omega), fun M4 e4 => ?_⟩
      have v1 : st2 1 = nI F.S.mc := by rw [e2, if_neg (by omega)]; exact hs1.2.1
      rw [upd_n (show 1 ≠ 291 + 21 * F.S.mc by omega), v1, kns] at e4
      refine y_fin hI fr1 ⟨tl1, q0'⟩ hB1 (fun a ha => (kup_off e4 ha).trans ((kup_off e3 ha).trans (f2 a ha))) (kup_at e4) ?_ hp
      obtain ⟨a0, a1, a2, a3, a4, a5⟩ := hs1
      have off : ∀ i, i ≠ 1 → (i < 291 + 21 * F.S.mc ∨ 291 + 21 * F.S.mc + 21 ≤ i) → upd (upd st2 (291 + 21 * F.S.mc) (nI j)) 1 (nI (F.S.mc + 1)) i = st1 i := fun i i1 i2 => by
        rw [upd_n i1, upd_n (by omega), e2, if_neg (by omega)]
      refine ⟨(off 0 (by omega) (by omega)).trans (a0.trans (hset_cong (fun i _ => rfl))), upd_s, (off 2 (by omega) (by omega)).trans a2, fun e he => (off _ (by omega) (by have : e < F.S.ec := he; omega)).trans (a3 e he), fun h hh hlh => ?_, fun m hm => ?_⟩
      · obtain ⟨b1, b2⟩ := a4 h hh hlh
        exact ⟨(off _ (by omega) (by omega)).trans b1, b2.cong (fun k k1 k2 => off k (by omega) (by omega))⟩
      · have hm : m < F.S.mc + 1 := hm
        show _ = upd F.S.sn F.S.mc (nI j) m ∧ rSt _ _ (va_up F.S.ms F.S.mc (F.S.hs j) m)
        by_cases hmm : m = F.S.mc
        · subst hmm
          rw [upd_s, vup_s, upd_n (by omega), upd_s]
          have hv := (a4 j hj hl).2
          refine ⟨rfl, fun c hc => ?_, fun i hi => ?_⟩
          · unfold hR
            rw [upd_n (by omega), upd_n (by omega), e2, if_pos (by omega), ← hv.1 c hc]
            unfold hR
            congr 1; omega
          · unfold kR2
            rw [upd_n (by omega), upd_n (by omega), e2, if_pos (by omega), ← hv.2 i hi]
            unfold kR2
            congr 2; omega
        · rw [upd_n hmm, vup_n hmm]
          obtain ⟨b1, b2⟩ := a5 m (by omega)
          exact ⟨(off _ (by omega) (by omega)).trans b1, b2.cong (fun k k1 k2 => off k (by omega) (by omega))⟩
    · have : F.S.mc = 8 := (nI_eq (b := 8) (by omega) (by omega)).mp h2
      rw [if_pos (by omega)] at hp
      exact hp M mFr.refl hM0
  · rw [if_pos (k01_z.mp h)] at hp
    exact hp M mFr.refl hM0
end G7
