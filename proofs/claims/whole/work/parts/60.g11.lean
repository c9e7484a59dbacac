/-! ===== the reference: of, printed, ifReceive ===== -/
theorem kCt_or (p q : Nat → Bool) : ∀ n, kCt (fun i => p i || q i) n = kCt p n + kCt (fun i => q i && !(p i)) n := by
  intro n
  induction n with
  | zero => rfl
  | succ n ih =>
    rw [kCt, kCt, kCt, ih]
    cases p n <;> cases q n <;> simp <;> omega
section G11
variable {G : k_G} {M : k_M} {am : Nat → Nat} {F : kF} {post : Int32 → k_M → Prop}
theorem mM.text {M1 : k_M} {tl : List Nat} (hI : mInj am) (hM : mM G M am F) (hW : mW G M M1 am F.hc F.pn tl) : mM G M1 am F ∧ mFr M M1 am := by
  obtain ⟨-, ⟨st, h1, hs⟩, ⟨hi, b2, b2'⟩, ⟨sl, b3, b3'⟩, ⟨sv, b4, b4'⟩, ⟨pd, b5, b5'⟩, ⟨tr, b6⟩, ⟨to, b7⟩, ⟨sz, b8⟩, ⟨hv, b9⟩, -⟩ := hM
  obtain ⟨f, h0, t, h10, -⟩ := hW
  have e : ∀ k, 1 ≤ k → k < 10 → M1 (am k) = M (am k) := fun k q1 q2 => f _ (hI.ne (by omega) (by omega) (by omega)) (hI.ne (by omega) (by omega) (by omega))
  exact ⟨⟨⟨_, h0⟩, ⟨st, (e 1 (by omega) (by omega)).trans h1, hs⟩, ⟨hi, (e 2 (by omega) (by omega)).trans b2, b2'⟩, ⟨sl, (e 3 (by omega) (by omega)).trans b3, b3'⟩, ⟨sv, (e 4 (by omega) (by omega)).trans b4, b4'⟩, ⟨pd, (e 5 (by omega) (by omega)).trans b5, b5'⟩, ⟨tr, (e 6 (by omega) (by omega)).trans b6⟩, ⟨to, (e 7 (by omega) (by omega)).trans b7⟩, ⟨sz, (e 8 (by omega) (by omega)).trans b8⟩, ⟨hv, (e 9 (by omega) (by omega)).trans b9⟩, ⟨t, h10⟩⟩, fun a ha => f a (ha 0 (by omega)) (ha 10 (by omega))⟩
theorem y_of {x w : Int32} (hI : mInj am) (hok : okF F) (hM : mM G M am F) (hp : yPost G M am (xof F x w, F) post) : wp_X4_of G post (am 0) x w M := by
  have hM0 := hM
  obtain ⟨⟨tl, h0⟩, ⟨st, h1, hs⟩, hB⟩ := hM
  have hec := hok.1.2.1
  have keep : post (xof F x w) M := hp M mFr.refl hM0
  unfold wp_X4_of
  unfold xof at keep hp
  refine ⟨_, h0, g_isHelper h0 h1 hs ⟨fun h => ?_, fun h => ?_⟩⟩
  · obtain ⟨j, hj, rfl, hl⟩ := inH_ex (k01_nz h)
    rw [if_neg (by rw [k01_nz h]; decide), kcl (show j < 2 ^ 31 by omega)] at keep hp
    obtain ⟨r0, r⟩ := hs.2.2.2.2.1 j hj hl
    have ov := hok.1.2.2.2.2.1 j hj hl
    refine g_helperAt ⟨fun h2 => ?_, fun h2 => ?_, fun h2 => ?_, fun h2 => ?_, fun h2 => ?_, fun h2 => ?_, fun h2 => ?_, fun h2 => ?_, fun h2 => ?_⟩
    · rw [if_pos h2] at keep
      refine ⟨_, _, h0, rfl, _, _, h1, ?_⟩
      rw [show nI (123 + 21 * j) + (0 : Int32) = nI (123 + 21 * j) from nIa _ 0, kcl (by omega), r0]
      exact ⟨kvin (by omega) (by omega), keep⟩
    · rw [if_neg (by omega), if_pos h2] at keep
      refine ⟨_, _, h0, rfl, _, _, h1, ?_⟩
      rw [show nI (123 + 21 * j) + (0 : Int32) = nI (123 + 21 * j) from nIa _ 0, kcl (by omega), r0]
      refine ⟨kvin (by omega) (by omega), g_bits ?_⟩
      rw [kCt_30_32 (hok.1.2.2.1 j hj)]; exact keep
    · rw [if_neg (by omega), if_neg (by omega), if_pos h2] at keep
      refine ⟨_, h0, g_heights (b := false) h0 h1 (by omega) ?_⟩
      rw [if_neg (by decide), gIn_cong r.1]; exact keep
    · rw [if_neg (by omega), if_neg (by omega), if_neg (by omega), if_pos h2] at keep
      refine ⟨_, h0, g_heights (b := true) h0 h1 (by omega) ?_⟩
      rw [if_pos rfl, kSum_cong r.1]; exact keep
    · rw [if_neg (by omega), if_neg (by omega), if_neg (by omega), if_neg (by omega), if_pos h2] at keep
      refine ⟨_, _, h0, rfl, g_knownMany (n := 459) (by omega) (by omega) h1 ?_⟩
      rw [kCt_kn2 hec r ov]; exact keep
    · rw [if_neg (by omega), if_neg (by omega), if_neg (by omega), if_neg (by omega), if_neg (by omega), if_pos h2] at keep
      refine ⟨_, h0, g_latestOf h0 h1 hs.2.2.1 hec (by omega) ?_⟩
      rw [kLast_cong (fun i hi => r.2 i (by omega)), ← kLast_tail hec (fun i q _ => ov.2 i q)]; exact keep
    · rw [if_neg (by omega), if_neg (by omega), if_neg (by omega), if_neg (by omega), if_neg (by omega), if_neg (by omega), if_pos h2] at keep
      refine ⟨_, _, h0, rfl, g_knots (n := 459) (by omega) (by omega) h1 ?_⟩
      rw [kKn_cong r.1 4 0 (by decide)]; exact keep
    · rw [if_neg (by omega), if_neg (by omega), if_neg (by omega), if_neg (by omega), if_neg (by omega), if_neg (by omega), if_neg (by omega), if_pos h2] at hp
      refine ⟨_, h0, g_print hI h0 h1 hB.2.2.2.2.2.2.2.2 (by omega) (fun c hc => by rw [r.1 c hc]; have := ov.1 c hc; omega) (fun M1 hW => ?_)⟩
      obtain ⟨m1, m2⟩ := hM0.text hI hW
      refine ⟨_, _, hW.2.1, rfl, ?_⟩
      rw [tx_cong r.1 4 0 (by decide)]
      exact hp M1 m2 m1
    · rw [if_neg (by omega), if_neg (by omega), if_neg (by omega), if_neg (by omega), if_neg (by omega), if_neg (by omega), if_neg (by omega), if_neg (by omega)] at keep
      exact keep
  · rw [if_pos (k01_z.mp h)] at keep
    exact keep
theorem y_printed {x w : Int32} (hI : mInj am) (hok : okF F) (hM : mM G M am F) (hp : yPost G M am (xprinted F x w, F) post) : wp_X4_printed G post (am 0) x w M := by
  have hM0 := hM
  obtain ⟨⟨tl, h0⟩, ⟨st, h1, hs⟩, hB⟩ := hM
  have hec := hok.1.2.1
  unfold wp_X4_printed
  unfold xprinted at hp
  refine ⟨_, h0, g_isHelper h0 h1 hs ⟨fun h => ?_, fun h => ?_⟩⟩
  · obtain ⟨j, hj, rfl, hl⟩ := inH_ex (k01_nz h)
    rw [if_neg (by rw [k01_nz h]; decide), kcl (show j < 2 ^ 31 by omega)] at hp
    obtain ⟨r0, r⟩ := hs.2.2.2.2.1 j hj hl
    have ov := hok.1.2.2.2.2.1 j hj hl
    refine g_helperAt ⟨_, h0, g_print hI h0 h1 hB.2.2.2.2.2.2.2.2 (by omega) (fun c hc => by rw [r.1 c hc]; have := ov.1 c hc; omega) (fun M1 hW => ?_)⟩
    rw [tx_cong r.1 4 0 (by decide)] at hW
    obtain ⟨m1, m2⟩ := hM0.text hI hW
    have fin := hp M1 m2 m1
    have hlen : (tx (F.S.hs j).1 4 0).length ≤ 93 := tx_len _ 4 0
    obtain ⟨-, q0, t, q10, q10'⟩ := hW
    refine ⟨_, _, q0, rfl, g_within0 (by omega) ⟨fun h2 => ?_, fun h2 => ?_⟩⟩
    · rw [if_neg (by rw [k01_z.mp h2]; decide)] at fin; exact fin
    · rw [if_pos (k01_nz h2)] at fin
      obtain ⟨i, hi, rfl⟩ := inR_ex (by omega) (k01_nz h2)
      rw [kcl (by omega)] at fin
      refine ⟨_, _, q0, rfl, _, _, q10, kvin (by omega) (by omega), ?_⟩
      rw [kcl (by omega), q10' i hi]; exact fin
  · rw [if_pos (k01_z.mp h)] at hp
    exact hp M mFr.refl hM0
theorem y_ifReceive {x y w : Int32} (hI : mInj am) (hok : okF F) (hM : mM G M am F) (hp : yPost G M am (xifR F x y w, F) post) : wp_X4_ifReceive G post (am 0) x y w M := by
  have hM0 := hM
  obtain ⟨⟨tl, h0⟩, ⟨st, h1, hs⟩, b2, b3, b4, b5, ⟨tr, b6⟩, b7, b8, b9, b10⟩ := hM
  have hec := hok.1.2.1
  have hmc := hok.1.1
  unfold wp_X4_ifReceive
  unfold xifR at hp
  refine ⟨_, h0, g_isHelper h0 h1 hs ⟨fun h => ?_, fun h => ⟨_, h0, g_isMessage hmc h0 h1 hs ⟨fun h2 => ?_, fun h2 => ?_⟩⟩⟩⟩
  · rw [if_pos (Or.inl (k01_z.mp h))] at hp
    exact hp M mFr.refl hM0
  · rw [if_neg (by rw [k01_nz h, k01_nz h2]; decide)] at hp
    obtain ⟨j, hj, rfl, hl⟩ := inH_ex (k01_nz h)
    obtain ⟨m, hm, rfl⟩ := inR_ex (by omega) (k01_nz h2)
    rw [kcl (i := j) (by omega), kcl (i := m) (by omega)] at hp
    obtain ⟨r0, r⟩ := hs.2.2.2.2.1 j hj hl
    obtain ⟨s0, s⟩ := hs.2.2.2.2.2 m hm
    have ov := hok.1.2.2.2.2.1 j hj hl
    have om := hok.1.2.2.2.2.2 m hm
    have h61 : am 6 ≠ am 1 := hI.ne (by omega) (by omega) (by omega)
    have h06 : am 0 ≠ am 6 := hI.ne (by omega) (by omega) (by omega)
    refine ⟨_, _, h0, rfl, g_helperAt ⟨_, _, h0, rfl, g_moves (s := 123 + 21 * j) (t := 0) (many := 21) (n0 := 459) (n1 := 21) (by omega) (by omega) h1 b6 (Or.inl (Ne.symm h61)) (by omega) (by omega) (fun M1 t1 f1 m1 e1 => ?_)⟩⟩
    have q0 := (f1 _ h06).trans h0
    have q1 := (f1 _ (Ne.symm h61)).trans h1
    refine ⟨_, _, q0, rfl, _, _, q0, rfl, g_messageAt (g_takeOver (p := 0) (n0 := 21) (n1 := 459) (by omega) (by omega) m1 q1 (Or.inl h61) (by omega) (by omega) (fun M2 t2 f2 m2 e2 => ?_))⟩
    have p0 := (f2 _ h06).trans q0
    have p1 := (f2 _ (Ne.symm h61)).trans q1
    refine ⟨_, _, p0, rfl, g_raise (p := 0) (n := 21) (by omega) (by omega) m2 (fun M3 t3 f3 m3 e3 => ?_)⟩
    have z0 := (f3 _ h06).trans p0
    have z1 := (f3 _ (Ne.symm h61)).trans p1
    have fr : ∀ a, a ≠ am 6 → M3 a = M a := fun a ha => (f3 a ha).trans ((f2 a ha).trans (f1 a ha))
    have hmM : mM G M3 am F := by
      have e : ∀ k, k < 11 → k ≠ 6 → M3 (am k) = M (am k) := fun k k1 k2 => fr _ (hI.ne k1 (by omega) k2)
      obtain ⟨a2, c2, d2⟩ := b2
      obtain ⟨a3, c3, d3⟩ := b3
      obtain ⟨a4, c4, d4⟩ := b4
      obtain ⟨a5, c5, d5⟩ := b5
      obtain ⟨a7, c7⟩ := b7
      obtain ⟨a8, c8⟩ := b8
      obtain ⟨a9, c9⟩ := b9
      obtain ⟨a10, c10⟩ := b10
      exact ⟨⟨tl, z0⟩, ⟨st, z1, hs⟩, ⟨a2, (e 2 (by omega) (by omega)).trans c2, d2⟩, ⟨a3, (e 3 (by omega) (by omega)).trans c3, d3⟩, ⟨a4, (e 4 (by omega) (by omega)).trans c4, d4⟩, ⟨a5, (e 5 (by omega) (by omega)).trans c5, d5⟩, ⟨t3, m3⟩, ⟨a7, (e 7 (by omega) (by omega)).trans c7⟩, ⟨a8, (e 8 (by omega) (by omega)).trans c8⟩, ⟨a9, (e 9 (by omega) (by omega)).trans c9⟩, ⟨a10, (e 10 (by omega) (by omega)).trans c10⟩⟩
    have mfr : mFr M M3 am := fun a ha => fr a (ha 6 (by omega))
    have v1 : ∀ i, i < 21 → t1 i = st (123 + 21 * j + i) := fun i hi => by rw [e1, if_pos (by omega), Nat.sub_zero]
    have hh1 : ∀ c, c < 16 → hR t1 0 c = (F.S.hs j).1 c := fun c hc => by
      unfold hR
      rw [v1 _ (by omega), ← r.1 c hc]
      unfold hR
      congr 1; omega
    have hh2 : ∀ c, c < 16 → hR t2 0 c = mx (F.S.hs j).1 (F.S.ms m).1 c := fun c hc => by
      unfold hR
      rw [e2, if_pos (by omega)]
      unfold tkR
      rw [if_pos (by omega), show 0 + 1 + c - 0 - 1 = c by omega]
      unfold mx
      rw [hh1 c hc, s.1 c hc]
    have v20 : t2 0 = F.S.sh j := by rw [e2, if_neg (by omega), v1 0 (by omega), Nat.add_zero, r0]
    have hh3 : ∀ c, c < 16 → hR t3 0 c = rais (mrg (F.S.hs j) (F.S.ms m)) (F.S.sh j) c := fun c hc => by
      show t3 (0 + 1 + c) = _
      rw [e3]
      unfold rzR rais
      rw [show 0 + 1 + c - 0 - 1 = c by omega, v20]
      by_cases hb : bt (F.S.sh j) c = true
      · rw [if_pos ⟨by omega, by omega, hb⟩, if_pos hb]
        exact rz_cong hh2
      · rw [if_neg (fun z => hb z.2.2), if_neg hb]
        exact hh2 c hc
    have kk3 : ∀ i, i < 120 → kR2 t3 0 i = ((F.S.hs j).2 i || (F.S.ms m).2 i) := fun i hi => by
      unfold kR2
      rw [e3]
      unfold rzR
      rw [if_neg (by omega), e2, if_pos (by omega)]
      unfold tkR
      rw [if_neg (by omega), b_or, v1 _ (by omega)]
      have i1 := r.2 i hi
      have i2 := s.2 i hi
      unfold kR2 at i1 i2
      rw [show 123 + 21 * j + (0 + 17 + i / 30) = 123 + 21 * j + 17 + i / 30 by omega, i1, show 291 + 21 * m + (0 + 17 + i / 30 - 0) = 291 + 21 * m + 17 + i / 30 by omega, i2]
    refine ⟨fun h3 => ?_, fun h3 => ?_, fun h3 => ?_, fun h3 => ?_⟩
    · rw [if_pos h3] at hp
      refine ⟨_, _, z0, rfl, g_knownMany (p := 0) (n := 21) (by omega) (by omega) m3 ⟨_, _, z0, rfl, g_helperAt (g_knownMany (n := 459) (by omega) (by omega) z1 ?_)⟩⟩
      have c1 : kCt (kR2 t3 0) 120 = kCt (F.S.hs j).2 120 + kCt (fun i => (F.S.ms m).2 i && !((F.S.hs j).2 i)) 120 := by
        rw [kCt_cong kk3, kCt_or]
      have c2 : kCt (kR2 st (123 + 21 * j)) 120 = kCt (F.S.hs j).2 120 := kCt_cong r.2
      have c3 : kCt (fun i => (F.S.ms m).2 i && !((F.S.hs j).2 i)) 128 = kCt (fun i => (F.S.ms m).2 i && !((F.S.hs j).2 i)) 120 := by
        rw [show 128 = 120 + 8 from rfl, kCt_split, kCt_0 (p := fun i => ((F.S.ms m).2 (120 + i) && !((F.S.hs j).2 (120 + i)))) (fun i _ => by rw [om.2 _ (by omega), Bool.false_and]), Nat.add_zero]
      rw [c3] at hp
      rw [c1, c2, kns, pk_sub (by omega)]
      have := hp M3 mfr hmM
      rw [kns] at this
      rw [show kCt (F.S.hs j).2 120 + kCt (fun i => (F.S.ms m).2 i && !((F.S.hs j).2 i)) 120 + 1 - kCt (F.S.hs j).2 120 = kCt (fun i => (F.S.ms m).2 i && !((F.S.hs j).2 i)) 120 + 1 by omega]
      exact this
    · rw [if_neg (by omega), if_pos h3] at hp
      refine ⟨_, _, z0, rfl, _, _, z0, rfl, g_messageAt (g_orderOf (p := 0) (n := 21) (m := 459) (by omega) (by omega) (by omega) (by omega) m3 z1 ?_)⟩
      rw [ordf_cong hh3 s.1]
      exact hp M3 mfr hmM
    · rw [if_neg (by omega), if_neg (by omega), if_pos h3] at hp
      refine ⟨_, _, z0, rfl, g_knots (p := 0) (n := 21) (by omega) (by omega) m3 ?_⟩
      rw [kKn_cong hh3 4 0 (by decide)]
      exact hp M3 mfr hmM
    · rw [if_neg (by omega), if_neg (by omega), if_neg (by omega)] at hp
      exact hp M3 mfr hmM
  · rw [if_pos (Or.inr (k01_z.mp h2))] at hp
    exact hp M mFr.refl hM0
end G11
