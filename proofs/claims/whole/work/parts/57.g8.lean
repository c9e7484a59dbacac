/-! ===== the reference: gathering, dropping, undo, slots, the pad ===== -/
theorem or_ne0 {x y : Int32} (h : x ≠ 0) : x ||| y ≠ 0 := by
  intro z
  refine h (b_ext (fun i _ => ?_))
  have := b_or x y i
  rw [z, b_0] at this
  rw [b_0]
  cases hb : bt x i with
  | false => rfl
  | true => rw [hb, Bool.true_or] at this; cases this
theorem rmv_val (S : kS) (m : Nat) : ∀ k, (rmv S m k).sh = S.sh ∧ (rmv S m k).hs = S.hs ∧ (∀ i, (rmv S m k).ms i = if m ≤ i ∧ i < m + k then S.ms (i + 1) else S.ms i) ∧ (∀ i, (rmv S m k).sn i = if m ≤ i ∧ i < m + k then S.sn (i + 1) else S.sn i) ∧ (rmv S m k).ac = S.ac ∧ (rmv S m k).ec = S.ec := by
  intro k
  induction k with
  | zero => exact ⟨rfl, rfl, fun i => by rw [if_neg (by omega)]; rfl, fun i => by rw [if_neg (by omega)]; rfl, rfl, rfl⟩
  | succ k ih =>
    obtain ⟨i1, i2, i3, i4, i5, i6⟩ := ih
    refine ⟨i1, i2, fun i => ?_, fun i => ?_, i5, i6⟩
    · show va_up (rmv S m k).ms (m + k) ((rmv S m k).ms (m + k + 1)) i = _
      by_cases hi : i = m + k
      · subst hi
        rw [vup_s, i3, if_neg (by omega), if_pos (by omega)]
      · rw [vup_n hi, i3]
        have : (m ≤ i ∧ i < m + k) ↔ (m ≤ i ∧ i < m + (k + 1)) := by omega
        simp only [this]
    · show upd (rmv S m k).sn (m + k) ((rmv S m k).sn (m + k + 1)) i = _
      by_cases hi : i = m + k
      · subst hi
        rw [upd_s, i4, if_neg (by omega), if_pos (by omega)]
      · rw [upd_n hi, i4]
        have : (m ≤ i ∧ i < m + k) ↔ (m ≤ i ∧ i < m + (k + 1)) := by omega
        simp only [this]
section G8
variable {G : k_G} {M : k_M} {am : Nat → Nat} {F : kF} {post : Int32 → k_M → Prop}
theorem bt_not (x : Int32) {i : Nat} (hi : i < 32) : bt (x ^^^ (-1 : Int32)) i = !(bt x i) := by rw [b_xor, b_m1 i hi, Bool.xor_true]
theorem bt_one {k i : Nat} (hk : k < 32) (hi : i < 32) : bt ((1 : Int32) <<< (nI k &&& 31)) i = decide (i = k) := by
  rw [b_shl k hk 1 hi]
  by_cases hik : i = k
  · subst hik
    rw [decide_eq_true (Nat.le_refl i), decide_eq_true rfl, Nat.sub_self]; rfl
  · rw [decide_eq_false hik]
    by_cases hle : k ≤ i
    · rw [decide_eq_true hle, b_1 _ (by omega), decide_eq_false (by omega)]; rfl
    · rw [decide_eq_false hle]; rfl
theorem rS_gat {S : kS} {st st1 : Nat → Int32} {i j : Nat} (hi : i < 8) (hj : j < 8) (hij : i ≠ j) (hl : S.sh j ≠ 0) (hli : S.sh i ≠ 0) (hmc : S.mc ≤ 8) (hec : S.ec ≤ 120) (hs : rS (S.sh, va_up S.hs j (mrg (S.hs j) (S.hs i)), S.ms, S.sn, S.mc, S.ac, S.ec) st)
    (e1 : ∀ k, st1 k = if 123 + 21 * i ≤ k ∧ k < 123 + 21 * i + 21 then 0 else upd st (123 + 21 * j) (S.sh j ||| S.sh i) k) : rS (mrgS S i j) (upd st1 0 (hset S 8 &&& (((1 : Int32) <<< (nI i &&& 31)) ^^^ (-1 : Int32)))) := by
  obtain ⟨h0, h1, h2, h3, h4, h5⟩ := hs
  have off : ∀ k, k ≠ 0 → k ≠ 123 + 21 * j → (k < 123 + 21 * i ∨ 123 + 21 * i + 21 ≤ k) → upd st1 0 (hset S 8 &&& (((1 : Int32) <<< (nI i &&& 31)) ^^^ (-1 : Int32))) k = st k := fun k k1 k2 k3 => by
    rw [upd_n k1, e1, if_neg (by omega), upd_n k2]
  refine ⟨?_, (off 1 (by omega) (by omega) (by omega)).trans h1, (off 2 (by omega) (by omega) (by omega)).trans h2, fun e he => (off _ (by omega) (by have : e < S.ec := he; omega) (by have : e < S.ec := he; omega)).trans (h3 e he), fun h hh hlh => ?_, fun m hm => ?_⟩
  · rw [upd_s]
    refine b_ext (fun k hk => ?_)
    rw [b_and, bt_not _ hk, bt_one (show i < 32 by omega) hk, bt_hset S 8 (by omega) k hk, bt_hset (mrgS S i j) 8 (by omega) k hk]
    by_cases h8 : k < 8
    · rw [decide_eq_true h8, Bool.true_and, Bool.true_and]
      have el : live (mrgS S i j) k = !(decide (upd (upd S.sh j (S.sh j ||| S.sh i)) i 0 k = 0)) := rfl
      rw [el]
      by_cases hki : k = i
      · subst hki
        rw [decide_eq_true rfl, upd_s]; simp
      · rw [decide_eq_false hki, upd_n hki]
        by_cases hkj : k = j
        · subst hkj
          rw [upd_s, decide_eq_false (or_ne0 hl)]
          unfold live
          rw [decide_eq_false hl]; rfl
        · rw [upd_n hkj, Bool.not_false, Bool.and_true]; rfl
    · rw [decide_eq_false h8]; rfl
  · have hlh : upd (upd S.sh j (S.sh j ||| S.sh i)) i 0 h ≠ 0 := hlh
    show _ = upd (upd S.sh j (S.sh j ||| S.sh i)) i 0 h ∧ rSt _ _ (va_up S.hs j _ h)
    have hhi : h ≠ i := fun z => hlh (by rw [z, upd_s])
    rw [upd_n hhi] at hlh ⊢
    by_cases hhj : h = j
    · subst hhj
      rw [upd_s, vup_s]
      refine ⟨by rw [upd_n (by omega), e1, if_neg (by omega), upd_s], ?_⟩
      have b := (h4 h hh hl).2
      have e : va_up S.hs h (mrg (S.hs h) (S.hs i)) h = mrg (S.hs h) (S.hs i) := vup_s
      replace b : rSt st (123 + 21 * h) (va_up S.hs h (mrg (S.hs h) (S.hs i)) h) := b
      rw [e] at b
      exact b.cong (fun k k1 k2 => off k (by omega) (by omega) (by omega))
    · rw [upd_n hhj] at hlh ⊢
      obtain ⟨a, b⟩ := h4 h hh hlh
      replace b : rSt st (123 + 21 * h) (va_up S.hs j (mrg (S.hs j) (S.hs i)) h) := b
      exact ⟨(off _ (by omega) (by omega) (by omega)).trans a, b.cong (fun k k1 k2 => off k (by omega) (by omega) (by omega))⟩
  · obtain ⟨a, b⟩ := h5 m hm
    have hm : m < S.mc := hm
    exact ⟨(off _ (by omega) (by omega) (by omega)).trans a, b.cong (fun k k1 k2 => off k (by omega) (by omega) (by omega))⟩
theorem y_gather {x y : Int32} (hI : mInj am) (hok : okF F) (hM : mM G M am F) (hp : yPost G M am (xgather F x y) post) : wp_X4_gather G post (am 0) x y M := by
  have hM0 := hM
  obtain ⟨⟨tl, h0⟩, ⟨st, h1, hs⟩, hB⟩ := hM
  have hec := hok.1.2.1
  have hmc := hok.1.1
  have h01 : am 0 ≠ am 1 := hI.ne (by omega) (by omega) (by omega)
  unfold wp_X4_gather
  unfold xgather at hp
  refine ⟨_, h0, g_isHelper h0 h1 hs ⟨fun h => ?_, fun h => ⟨_, h0, g_isHelper h0 h1 hs ⟨fun h2 => ⟨fun h3 => ?_, fun h3 => ?_⟩, fun h2 => ?_⟩⟩⟩⟩
  · rw [if_pos (Or.inl (k01_z.mp h))] at hp
    exact hp M mFr.refl hM0
  · rw [if_neg (by rw [k01_nz h, k01_nz h2]; decide), if_neg h3] at hp
    obtain ⟨i, hi, rfl, hli⟩ := inH_ex (k01_nz h)
    obtain ⟨j, hj, rfl, hlj⟩ := inH_ex (k01_nz h2)
    rw [kcl (i := i) (by omega), kcl (i := j) (by omega)] at hp
    have hij : i ≠ j := fun z => h3 (by rw [z])
    refine ⟨_, h0, g_record hI hok hM0 (fun M1 st1 fr1 q0 q1 hs1 hB1 => ?_)⟩
    obtain ⟨tl1, q0'⟩ := q0
    refine ⟨_, _, q0', rfl, g_helperAt ⟨_, _, q0', rfl, g_helperAt (g_takeOver (n0 := 459) (n1 := 459) (by omega) (by omega) q1 q1 (Or.inr (by omega)) (by omega) (by omega) (fun M2 st2 f2 q2 e2 => ?_))⟩⟩
    have hs2 := rS_tk hj hlj hmc hec hs1 (hs1.2.2.2.2.1 i hi hli).2 (by omega) e2
    have p0 := (f2 _ h01).trans q0'
    have vj : st2 (123 + 21 * j) = F.S.sh j := (hs2.2.2.2.2.1 j hj hlj).1
    have vi : st2 (123 + 21 * i) = F.S.sh i := (hs2.2.2.2.2.1 i hi hli).1
    refine ⟨_, _, p0, rfl, g_helperAt ⟨_, _, q2, ?_⟩⟩
    rw [show nI (123 + 21 * j) + (0 : Int32) = nI (123 + 21 * j) from nIa _ 0, kcl (by omega), vj]
    refine ⟨kvin (by omega) (by omega), _, _, p0, rfl, g_helperAt ⟨_, _, q2, ?_⟩⟩
    rw [show nI (123 + 21 * i) + (0 : Int32) = nI (123 + 21 * i) from nIa _ 0, kcl (show 123 + 21 * i < 2 ^ 31 by omega), vi]
    refine ⟨kvin (by omega) (by omega), _, _, q2, kvin (by omega) (by omega), fun M3 e3 => ?_⟩
    -- the helper's row is emptied
    have key : ∀ (n k : Nat), k + n = 21 → ∀ (M4 : k_M) (st4 : Nat → Int32), (∀ a, a ≠ am 1 → M4 a = M1 a) → M4 (am 1) = some (kI G 459 st4) → (∀ z, st4 z = if 123 + 21 * i ≤ z ∧ z < 123 + 21 * i + k then 0 else upd st2 (123 + 21 * j) (F.S.sh j ||| F.S.sh i) z) → wp_X4_gather_L76 G post (n + 1) (am 0) (nI i) (nI j) (nI k) M4 := by
      intro n
      induction n with
      | zero =>
        intro k hk M4 st4 f4 q4 e4
        have : k = 21 := by omega
        subst this
        rw [wp_X4_gather_L76]
        have p0 := (f4 _ h01).trans q0'
        refine ⟨fun _ => ⟨_, _, p0, rfl, _, _, q4, kvin (j := 0) (n := 459) (by omega) (by omega), _, _, q4, kvin (j := 0) (n := 459) (by omega) (by omega), fun M5 e5 => ?_⟩, fun z => absurd (by decide) z⟩
        have v0 : st4 0 = hset F.S 8 := by
          rw [e4, if_neg (by omega), upd_n (by omega)]
          exact hs2.1.trans (hset_cong (fun i _ => rfl))
        rw [sb_cl0, v0] at e5
        have hs5 := rS_gat hi hj hij hlj hli hmc hec hs2 e4
        have p0 := (kup_off e5 h01).trans p0
        refine ⟨_, _, p0, rfl, g_helperAt ⟨_, _, kup_at e5, ?_⟩⟩
        have vj5 : (mrgS F.S i j).sh j = F.S.sh j ||| F.S.sh i := by
          show upd (upd F.S.sh j (F.S.sh j ||| F.S.sh i)) i 0 j = _
          rw [upd_n (Ne.symm hij), upd_s]
        have hn5 : (mrgS F.S i j).sh j ≠ 0 := by rw [vj5]; exact or_ne0 hlj
        rw [show nI (123 + 21 * j) + (0 : Int32) = nI (123 + 21 * j) from nIa _ 0, kcl (by omega), (hs5.2.2.2.2.1 j hj hn5).1]
        refine ⟨kvin (by omega) (by omega), g_bits ?_⟩
        rw [kCt_30_32 (fun k hk => by rw [vj5, b_or, hok.1.2.2.1 j hj k hk, hok.1.2.2.1 i hi k hk]; rfl)]
        exact y_fin hI fr1 ⟨tl1, q0'⟩ hB1 (fun a ha => (kup_off e5 ha).trans (f4 a ha)) (kup_at e5) hs5 hp
      | succ n ih =>
        intro k hk M4 st4 f4 q4 e4
        rw [wp_X4_gather_L76]
        have p0 := (f4 _ h01).trans q0'
        refine ⟨fun z => absurd z (kge (N := 21) (by omega) (by decide)), fun _ => ⟨_, _, p0, rfl, g_helperAt ⟨_, _, q4, ?_⟩⟩⟩
        rw [nIa, kcl (by omega), kns]
        refine ⟨kvin (by omega) (by omega), fun M5 e5 => ih (k + 1) (by omega) M5 _ (fun a ha => (kup_off e5 ha).trans (f4 a ha)) (kup_at e5) (fun z => ?_)⟩
        by_cases hz : z = 123 + 21 * i + k
        · subst hz
          rw [upd_s, if_pos (by omega)]
        · rw [upd_n hz, e4]
          have : (123 + 21 * i ≤ z ∧ z < 123 + 21 * i + k) ↔ (123 + 21 * i ≤ z ∧ z < 123 + 21 * i + (k + 1)) := by omega
          simp only [this]
    exact ⟨22, key 21 0 (by omega) M3 _ (fun a ha => (kup_off e3 ha).trans (f2 a ha)) (kup_at e3) (fun z => by rw [if_neg (by omega)])⟩
  · rw [if_neg (by rw [k01_nz h, k01_nz h2]; decide), if_pos h3] at hp
    exact hp M mFr.refl hM0
  · rw [if_pos (Or.inr (k01_z.mp h2))] at hp
    exact hp M mFr.refl hM0
theorem y_drop {y : Int32} (hI : mInj am) (hok : okF F) (hM : mM G M am F) (hp : yPost G M am (xdrop F y) post) : wp_X4_drop G post (am 0) y M := by
  have hM0 := hM
  obtain ⟨⟨tl, h0⟩, ⟨st, h1, hs⟩, hB⟩ := hM
  have hec := hok.1.2.1
  have hmc := hok.1.1
  have h01 : am 0 ≠ am 1 := hI.ne (by omega) (by omega) (by omega)
  unfold wp_X4_drop
  unfold xdrop at hp
  refine ⟨_, h0, g_isMessage hmc h0 h1 hs ⟨fun h => ?_, fun h => ?_⟩⟩
  · rw [if_neg (by rw [k01_nz h]; decide)] at hp
    obtain ⟨m, hm, rfl⟩ := inR_ex (by omega) (k01_nz h)
    rw [kcl (by omega)] at hp
    refine ⟨_, h0, g_record hI hok hM0 (fun M1 st1 fr1 q0 q1 hs1 hB1 => g_messageAt ?_)⟩
    obtain ⟨tl1, q0'⟩ := q0
    have key : ∀ (n k : Nat), k + n = 21 * (F.S.mc - 1 - m) → ∀ (M4 : k_M) (st4 : Nat → Int32), (∀ a, a ≠ am 1 → M4 a = M1 a) → M4 (am 1) = some (kI G 459 st4) → (∀ z, st4 z = if 291 + 21 * m ≤ z ∧ z < 291 + 21 * m + k then st1 (z + 21) else st1 z) → wp_X4_drop_L19 G post (n + 1) (am 0) (nI (291 + 21 * m + k)) M4 := by
      intro n
      induction n with
      | zero =>
        intro k hk M4 st4 f4 q4 e4
        rw [wp_X4_drop_L19]
        have p0 := (f4 _ h01).trans q0'
        have v1 : st4 1 = nI F.S.mc := by rw [e4, if_neg (by omega)]; exact hs1.2.1
        refine ⟨_, _, p0, rfl, _, _, q4, kvin (j := 1) (n := 459) (by omega) (by omega), ?_⟩
        rw [show ((1 : Int32)).toNatClampNeg = 1 from rfl, v1, nI_sub1 (by omega)]
        refine g_messageAt ⟨fun _ => ⟨_, _, p0, rfl, _, _, q4, kvin (j := 1) (n := 459) (by omega) (by omega), _, _, q4, kvin (j := 1) (n := 459) (by omega) (by omega), fun M5 e5 => ?_⟩, fun z => absurd (nI_le (by omega) (by omega)) z⟩
        rw [v1, nI_sub1 (by omega)] at e5
        have p0 := (kup_off e5 h01).trans p0
        refine ⟨_, _, p0, rfl, _, _, kup_at e5, kvin (j := 1) (n := 459) (by omega) (by omega), ?_⟩
        rw [upd_s]
        refine y_fin hI fr1 ⟨tl1, q0'⟩ hB1 (fun a ha => (kup_off e5 ha).trans (f4 a ha)) (kup_at e5) ?_ hp
        obtain ⟨a0, a1, a2, a3, a4, a5⟩ := hs1
        obtain ⟨r1, r2, r3, r4, r5, r6⟩ := rmv_val F.S m (F.S.mc - 1 - m)
        have off : ∀ i, i ≠ 1 → i < 291 → upd st4 1 (nI (F.S.mc - 1)) i = st1 i := fun i i1 i2 => by
          rw [upd_n i1, e4, if_neg (by omega)]
        refine ⟨(off 0 (by omega) (by omega)).trans (a0.trans (hset_cong (fun i _ => ?_))), upd_s, ?_, fun e he => ?_, fun h hh hlh => ?_, fun i hi => ?_⟩
        · show live F.S i = !(decide ((rmv F.S m (F.S.mc - 1 - m)).sh i = 0))
          rw [r1]; rfl
        · show _ = nI (rmv F.S m (F.S.mc - 1 - m)).ec
          rw [r6]; exact (off 2 (by omega) (by omega)).trans a2
        · replace he : e < (rmv F.S m (F.S.mc - 1 - m)).ec := he
          rw [r6] at he
          show _ = (rmv F.S m (F.S.mc - 1 - m)).ac e
          rw [r5]; exact (off _ (by omega) (by omega)).trans (a3 e he)
        · replace hlh : (rmv F.S m (F.S.mc - 1 - m)).sh h ≠ 0 := hlh
          rw [r1] at hlh
          show _ = (rmv F.S m (F.S.mc - 1 - m)).sh h ∧ rSt _ _ ((rmv F.S m (F.S.mc - 1 - m)).hs h)
          rw [r1, r2]
          obtain ⟨b1, b2⟩ := a4 h hh hlh
          exact ⟨(off _ (by omega) (by omega)).trans b1, b2.cong (fun k k1 k2 => off k (by omega) (by omega))⟩
        · replace hi : i < F.S.mc - 1 := hi
          show _ = (rmv F.S m (F.S.mc - 1 - m)).sn i ∧ rSt _ _ ((rmv F.S m (F.S.mc - 1 - m)).ms i)
          rw [r3, r4]
          by_cases him : m ≤ i
          · rw [if_pos (by omega), if_pos (by omega)]
            obtain ⟨b1, b2⟩ := a5 (i + 1) (by omega)
            have sh : ∀ z, 291 + 21 * i ≤ z → z < 291 + 21 * i + 21 → upd st4 1 (nI (F.S.mc - 1)) z = st1 (z + 21) := fun z z1 z2 => by
              rw [upd_n (by omega), e4, if_pos (by omega)]
            refine ⟨by rw [sh _ (by omega) (by omega), ← b1, show 291 + 21 * i + 21 = 291 + 21 * (i + 1) by omega], fun c hc => ?_, fun e he => ?_⟩
            · rw [← b2.1 c hc]
              unfold hR
              rw [sh _ (by omega) (by omega)]
              congr 1; omega
            · rw [← b2.2 e he]
              unfold kR2
              rw [sh _ (by omega) (by omega)]
              congr 2; omega
          · rw [if_neg (by omega), if_neg (by omega)]
            obtain ⟨b1, b2⟩ := a5 i (by omega)
            have sh : ∀ z, 291 + 21 * i ≤ z → z < 291 + 21 * i + 21 → upd st4 1 (nI (F.S.mc - 1)) z = st1 z := fun z z1 z2 => by
              rw [upd_n (by omega), e4, if_neg (by omega)]
            exact ⟨(sh _ (by omega) (by omega)).trans b1, b2.cong (fun k k1 k2 => sh k (by omega) (by omega))⟩
      | succ n ih =>
        intro k hk M4 st4 f4 q4 e4
        rw [wp_X4_drop_L19]
        have p0 := (f4 _ h01).trans q0'
        have v1 : st4 1 = nI F.S.mc := by rw [e4, if_neg (by omega)]; exact hs1.2.1
        refine ⟨_, _, p0, rfl, _, _, q4, kvin (j := 1) (n := 459) (by omega) (by omega), ?_⟩
        rw [show ((1 : Int32)).toNatClampNeg = 1 from rfl, v1, nI_sub1 (by omega)]
        refine g_messageAt ⟨fun z => absurd z (kge (by omega) (by omega)), fun _ => ⟨_, _, p0, rfl, _, _, p0, rfl, _, _, q4, ?_⟩⟩
        rw [show nI (291 + 21 * m + k) + (21 : Int32) = nI (291 + 21 * m + k + 21) from nIa _ 21, kcl (show 291 + 21 * m + k + 21 < 2 ^ 31 by omega), kcl (show 291 + 21 * m + k < 2 ^ 31 by omega), kns]
        refine ⟨kvin (by omega) (by omega), _, _, q4, kvin (by omega) (by omega), fun M5 e5 => ih (k + 1) (by omega) M5 _ (fun a ha => (kup_off e5 ha).trans (f4 a ha)) (kup_at e5) (fun z => ?_)⟩
        by_cases hz : z = 291 + 21 * m + k
        · subst hz
          rw [upd_s, if_pos (by omega), e4, if_neg (by omega)]
        · rw [upd_n hz, e4]
          have : (291 + 21 * m ≤ z ∧ z < 291 + 21 * m + k) ↔ (291 + 21 * m ≤ z ∧ z < 291 + 21 * m + (k + 1)) := by omega
          simp only [this]
    exact ⟨21 * (F.S.mc - 1 - m) + 1, key _ 0 (by omega) M1 st1 (fun _ _ => rfl) q1 (fun z => by rw [if_neg (by omega)])⟩
  · rw [if_pos (k01_z.mp h)] at hp
    exact hp M mFr.refl hM0
theorem y_undo (hI : mInj am) (hok : okF F) (hM : mM G M am F) (hp : yPost G M am (xundo F) post) : wp_X4_undo G post (am 0) M := by
  have hM0 := hM
  obtain ⟨⟨tl, h0⟩, ⟨st, h1, hs⟩, ⟨hi, h2, h2'⟩, hB⟩ := hM
  obtain ⟨ok1, ok2, ok3, ok4, ok5, ok6⟩ := hok
  unfold wp_X4_undo
  unfold xundo at hp
  refine ⟨_, _, h0, rfl, fun h => ⟨_, _, h0, rfl, _, h0, by simp, fun M1 e1 => ?_⟩, fun h => ?_⟩
  · have hpos : F.hc ≠ 0 := fun z => h (by rw [z]; rfl)
    rw [if_neg hpos] at hp
    rw [nI_sub1 (by omega)] at e1
    have q0 : M1 (am 0) = some (kO 5 (mO am (F.hc - 1) F.pn tl)) := by rw [kup_at e1]; rfl
    have q1 := (kup_off e1 (hI.ne (i := 1) (by omega) (by omega) (by omega))).trans h1
    have q2 := (kup_off e1 (hI.ne (i := 2) (by omega) (by omega) (by omega))).trans h2
    refine ⟨_, _, q0, rfl, _, _, q0, rfl, _, _, q0, rfl, ?_⟩
    rw [show nI (F.hc - 1) * (459 : Int32) = nI ((F.hc - 1) * 459) from pk_mul _ 459]
    refine g_moves (s := (F.hc - 1) * 459) (t := 0) (many := 459) (by omega) (by omega) q2 q1 (Or.inl (hI.ne (by omega) (by omega) (by omega))) (by omega) (by omega) (fun M2 st2 f2 m1 e2 => ?_)
    have q0 := (f2 _ (hI.ne (i := 0) (by omega) (by omega) (by omega))).trans q0
    refine ⟨_, _, q0, rfl, hp M2 (fun a ha => (f2 a (ha 1 (by omega))).trans (kup_off e1 (ha 0 (by omega)))) ⟨⟨tl, q0⟩, ⟨st2, m1, ?_⟩, ?_⟩⟩
    · have := ok2 (F.hc - 1) (by omega)
      refine (h2' (F.hc - 1) (by omega)).cong this.1 this.2.1 (fun k hk => ?_)
      show st2 k = hi (459 * (F.hc - 1) + k)
      rw [e2, if_pos (by omega)]
      congr 1; omega
    · have ee : ∀ k, 2 ≤ k → k < 11 → M2 (am k) = M (am k) := fun k k1 k2 => (f2 _ (hI.ne k2 (by omega) (by omega))).trans (kup_off e1 (hI.ne k2 (by omega) (by omega)))
      have := mB.kept (F := (F.S, F.hist, F.hc - 1, F.2.2.2)) ⟨⟨hi, h2, fun i hi' => h2' i (by have : i < F.hc - 1 := hi'; omega)⟩, hB⟩ ee
      exact this
  · rw [if_pos ((nI_eq (b := 0) (by omega) (by omega)).mp h)] at hp
    exact hp M mFr.refl hM0
theorem y_save {x : Int32} (hI : mInj am) (hok : okF F) (hM : mM G M am F) (hp : yPost G M am (xsave F x) post) : wp_X4_save G post (am 0) x M := by
  have hM0 := hM
  obtain ⟨⟨tl, h0⟩, ⟨st, h1, hs⟩, hB2, ⟨sl, h3, h3'⟩, ⟨sv, h4, h4'⟩, hB⟩ := hM
  obtain ⟨ok1, ok2, ok3, ok4, ok5, ok6⟩ := hok
  unfold wp_X4_save
  unfold xsave at hp
  refine g_withinN (n := 1) (by omega) ⟨fun h => ?_, fun h => ?_⟩
  · rw [if_neg (by rw [k01_nz h]; decide)] at hp
    obtain ⟨j, hj, rfl⟩ := inR_ex (n := 2) (by omega) (k01_nz h)
    rw [kcl (by omega)] at hp
    refine ⟨_, _, h0, rfl, _, _, h0, rfl, ?_⟩
    rw [show (459 : Int32) * nI j = nI (459 * j) from pk_mul 459 j]
    refine g_moves (s := 0) (t := 459 * j) (many := 459) (by omega) (by omega) h1 h3 (Or.inl (hI.ne (by omega) (by omega) (by omega))) (by omega) (by omega) (fun M1 sl1 f1 m1 e1 => ?_)
    have k1 : ∀ k, k < 11 → k ≠ 3 → M1 (am k) = M (am k) := fun k k1 k2 => f1 _ (hI.ne k1 (by omega) k2)
    refine ⟨_, _, (k1 0 (by omega) (by omega)).trans h0, rfl, _, _, (k1 4 (by omega) (by omega)).trans h4, kvin hj (by omega), fun M2 e2 => ?_⟩
    rw [kcl (by omega)] at e2
    have k2 : ∀ k, k < 11 → k ≠ 4 → M2 (am k) = M1 (am k) := fun k k1 k2 => kup_off e2 (hI.ne k1 (by omega) k2)
    have q0 := (k2 0 (by omega) (by omega)).trans ((k1 0 (by omega) (by omega)).trans h0)
    have q1 := (k2 1 (by omega) (by omega)).trans ((k1 1 (by omega) (by omega)).trans h1)
    refine ⟨_, _, q0, rfl, _, _, q1, kvin (j := 2) (n := 459) (by omega) (by omega), ?_⟩
    rw [show ((2 : Int32)).toNatClampNeg = 2 from rfl, hs.2.2.1]
    refine hp M2 (fun a ha => (kup_off e2 (ha 4 (by omega))).trans (f1 a (ha 3 (by omega)))) ⟨⟨tl, q0⟩, ⟨st, q1, hs⟩, ?_⟩
    have e : ∀ k, k < 11 → k ≠ 3 → k ≠ 4 → M2 (am k) = M (am k) := fun k a b c => (k2 k a c).trans (k1 k a b)
    obtain ⟨hi, h2, h2'⟩ := hB2
    obtain ⟨⟨d, d1, d2⟩, ⟨f, f1'⟩, ⟨g, g1⟩, ⟨i, i1⟩, ⟨jj, j1⟩, ⟨kk, kk1⟩⟩ := hB
    refine ⟨⟨hi, (e 2 (by omega) (by omega) (by omega)).trans h2, h2'⟩, ⟨sl1, (k2 3 (by omega) (by omega)).trans m1, fun i hi2 hsv => ?_⟩, ⟨_, kup_at e2, fun i hi2 => ?_⟩, ⟨d, (e 5 (by omega) (by omega) (by omega)).trans d1, d2⟩, ⟨f, (e 6 (by omega) (by omega) (by omega)).trans f1'⟩, ⟨g, (e 7 (by omega) (by omega) (by omega)).trans g1⟩, ⟨i, (e 8 (by omega) (by omega) (by omega)).trans i1⟩, ⟨jj, (e 9 (by omega) (by omega) (by omega)).trans j1⟩, ⟨kk, (e 10 (by omega) (by omega) (by omega)).trans kk1⟩⟩
    · replace hsv : va_up F.sv j true i = true := hsv
      show rS (va_up F.sl j F.S i) (fun k => sl1 (459 * i + k))
      by_cases hij : i = j
      · subst hij
        rw [vup_s]
        refine hs.cong ok1.1 ok1.2.1 (fun k hk => ?_)
        show sl1 (459 * i + k) = st k
        rw [e1, if_pos (by omega), Nat.zero_add, Nat.add_sub_cancel_left]
      · rw [vup_n hij] at hsv ⊢
        have := ok4 i hi2 hsv
        refine (h3' i hi2 hsv).cong this.1 this.2.1 (fun k hk => ?_)
        show sl1 (459 * i + k) = sl (459 * i + k)
        rw [e1, if_neg (by omega)]
    · show upd sv j 1 i = k01 (va_up F.sv j true i)
      by_cases hij : i = j
      · subst hij; rw [upd_s, vup_s]; rfl
      · rw [upd_n hij, vup_n hij]; exact h4' i hi2
  · rw [if_pos (k01_z.mp h)] at hp
    exact hp M mFr.refl hM0
theorem y_restore {x : Int32} (hI : mInj am) (hok : okF F) (hM : mM G M am F) (hp : yPost G M am (xrestore F x) post) : wp_X4_restore G post (am 0) x M := by
  have hM0 := hM
  obtain ⟨⟨tl, h0⟩, ⟨st, h1, hs⟩, -, -, ⟨sv, h4, h4'⟩, -⟩ := hM
  have hok0 := hok
  obtain ⟨ok1, ok2, ok3, ok4, ok5, ok6⟩ := hok
  have h01 : am 0 ≠ am 1 := hI.ne (by omega) (by omega) (by omega)
  unfold wp_X4_restore
  unfold xrestore at hp
  refine g_withinN (n := 1) (by omega) ⟨fun h => ?_, fun h => ?_⟩
  · rw [if_neg (by rw [k01_nz h]; decide)] at hp
    obtain ⟨j, hj, rfl⟩ := inR_ex (n := 2) (by omega) (k01_nz h)
    rw [kcl (by omega)] at hp
    refine ⟨_, _, h0, rfl, _, _, h4, ?_⟩
    rw [kcl (by omega), h4' j hj]
    refine ⟨kvin hj (by omega), fun h2 => ?_, fun h2 => ?_⟩
    · rw [if_neg (by rw [k01_nz h2]; decide)] at hp
      refine ⟨_, h0, g_record hI hok0 hM0 (fun M1 st1 fr1 q0 q1 hs1 hB1 => ?_)⟩
      obtain ⟨tl1, q0'⟩ := q0
      obtain ⟨sl, q3, q3'⟩ := hB1.2.1
      refine ⟨_, _, q0', rfl, _, _, q0', rfl, ?_⟩
      rw [show (459 : Int32) * nI j = nI (459 * j) from pk_mul 459 j]
      refine g_moves (s := 459 * j) (t := 0) (many := 459) (by omega) (by omega) q3 q1 (Or.inl (hI.ne (by omega) (by omega) (by omega))) (by omega) (by omega) (fun M2 st2 f2 m1 e2 => ?_)
      have p0 := (f2 _ h01).trans q0'
      have hS : rS (F.sl j) st2 := by
        have o := ok4 j hj (k01_nz h2)
        have q := q3' j hj (by rw [remF_sv]; exact k01_nz h2)
        rw [remF_sl] at q
        refine q.cong o.1 o.2.1 (fun k hk => ?_)
        show st2 k = sl (459 * j + k)
        rw [e2, if_pos (by omega), Nat.sub_zero]
      refine ⟨_, _, p0, rfl, _, _, m1, kvin (j := 2) (n := 459) (by omega) (by omega), ?_⟩
      rw [show ((2 : Int32)).toNatClampNeg = 2 from rfl, hS.2.2.1]
      exact y_fin hI fr1 ⟨tl1, q0'⟩ hB1 f2 m1 hS hp
    · rw [if_pos (k01_z.mp h2)] at hp
      exact hp M mFr.refl hM0
  · rw [if_pos (k01_z.mp h)] at hp
    exact hp M mFr.refl hM0
theorem y_wipe (hI : mInj am) (hM : mM G M am F) (hp : yPost G M am (xwipe F) post) : wp_X4_wipe G post (am 0) M := by
  obtain ⟨⟨tl, h0⟩, ⟨st, h1, hs⟩, b2, b3, b4, ⟨pd, b5, b5'⟩, hB⟩ := hM
  unfold wp_X4_wipe
  refine ⟨_, _, h0, rfl, _, h0, by simp, fun M1 e1 => ?_⟩
  have ee : ∀ k, 2 ≤ k → k < 11 → M1 (am k) = M (am k) := fun k k1 k2 => kup_off e1 (hI.ne k2 (by omega) (by omega))
  exact hp M1 (fun a ha => kup_off e1 (ha 0 (by omega))) ⟨⟨tl, by rw [kup_at e1]; rfl⟩, ⟨st, (kup_off e1 (hI.ne (by omega) (by omega) (by omega))).trans h1, hs⟩, mB.kept (F := (F.S, F.hist, F.hc, F.sl, F.sv, F.ch, 0)) ⟨b2, b3, b4, ⟨pd, b5, fun i hi => absurd hi (Nat.not_lt_zero i)⟩, hB⟩ ee⟩
theorem y_put {u : Nat} (hu : u < 2 ^ 64) (hI : mInj am) (hok : okF F) (hM : mM G M am F) (hp : yPost G M am (xput F u) post) : wp_X4_put G post (am 0) (lN u) M := by
  have hM0 := hM
  obtain ⟨⟨tl, h0⟩, ⟨st, h1, hs⟩, b2, b3, b4, ⟨pd, b5, b5'⟩, hB⟩ := hM
  have hpn := hok.2.2.2.2.1
  have bad : cI 8 u 0 = 0 → post (-2) M := fun z => by
    unfold xput at hp
    rw [if_pos z] at hp
    exact hp M mFr.refl hM0
  -- an unlawful sign was seen
  have lost : cI 8 u 0 = 0 → ∀ (k a w : Nat), a + k = 8 → w < 2 ^ 64 → wp_X4_put_L8 G post (k + 1) (am 0) (lN u) (nI a) (lN w) 0 M := by
    intro hz k
    induction k with
    | zero =>
      intro a w ha hw
      have : a = 8 := by omega
      subst this
      rw [wp_X4_put_L8]
      refine ⟨fun _ => ?_, fun z => absurd (by decide) z⟩
      unfold wp_X4_put_b67
      exact ⟨fun _ => bad hz, fun _ => ⟨fun _ => bad hz, fun z => absurd rfl z⟩⟩
    | succ k ih =>
      intro a w ha hw
      rw [wp_X4_put_L8]
      refine ⟨fun z => absurd z (kge (N := 8) (by omega) (by decide)), fun _ => ⟨fun _ => ?_, fun _ => ⟨fun _ => ?_, fun z => absurd rfl z⟩⟩⟩
      · unfold wp_X4_put_b67
        exact ⟨fun _ => bad hz, fun _ => ⟨fun _ => bad hz, fun z => absurd rfl z⟩⟩
      · unfold wp_X4_put_b51
        intro y ey
        have e8 : (((8 : Int32)).toInt64.toUInt64 &&& Int64.toUInt64 63) = ((nI 8).toInt64.toUInt64 &&& Int64.toUInt64 63) := rfl
        rw [e8, wb_shr hw (by omega)] at ey
        rw [ey, kns]
        exact ih (a + 1) (w / 2 ^ 8) (by omega) (Nat.lt_of_le_of_lt (Nat.div_le_self _ _) hw)
  -- all signs go onto the pad
  have app : ∀ a, a = cI 8 u 0 → a ≠ 0 → a ≤ 8 → F.pn + a ≤ 64 → ∀ (j k : Nat), k + j = a → ∀ (M1 : k_M) (pd1 : Nat → Int32), (∀ x, x ≠ am 0 → x ≠ am 5 → M1 x = M x) → M1 (am 0) = some (kO 5 (mO am F.hc (F.pn + k) tl)) → M1 (am 5) = some (kI G 64 pd1) → (∀ i, i < F.pn + k → pd1 i = nI (if F.pn ≤ i then byt u (F.pn + a - 1 - i) else F.ch i)) → wp_X4_put_L105 G post (j + 1) (am 0) (lN u) (nI j + (-1 : Int32)) M1 := by
    intro a ha hne ha8 hle j
    induction j with
    | zero =>
      intro k hk M1 pd1 f1 m0 m5 e
      have : k = a := by omega
      subst this
      rw [wp_X4_put_L105]
      refine ⟨fun _ => ⟨_, _, m0, rfl, ?_⟩, fun z => absurd (by decide) z⟩
      unfold xput at hp
      rw [if_neg (by omega), if_neg (by omega), ← ha] at hp
      have ee : ∀ x, x < 11 → x ≠ 0 → x ≠ 5 → M1 (am x) = M (am x) := fun x x1 x2 x3 => f1 _ (hI.ne x1 (by omega) x2) (hI.ne x1 (by omega) x3)
      obtain ⟨hi, h2, h2'⟩ := b2
      obtain ⟨sl, h3, h3'⟩ := b3
      obtain ⟨sv, h4, h4'⟩ := b4
      obtain ⟨⟨f, f1'⟩, ⟨g, g1⟩, ⟨i, i1⟩, ⟨jj, j1⟩, ⟨kk, kk1⟩⟩ := hB
      exact hp M1 (fun x hx => f1 x (hx 0 (by omega)) (hx 5 (by omega))) ⟨⟨tl, m0⟩, ⟨st, (ee 1 (by omega) (by omega) (by omega)).trans h1, hs⟩, ⟨hi, (ee 2 (by omega) (by omega) (by omega)).trans h2, h2'⟩, ⟨sl, (ee 3 (by omega) (by omega) (by omega)).trans h3, h3'⟩, ⟨sv, (ee 4 (by omega) (by omega) (by omega)).trans h4, h4'⟩, ⟨pd1, m5, e⟩, ⟨f, (ee 6 (by omega) (by omega) (by omega)).trans f1'⟩, ⟨g, (ee 7 (by omega) (by omega) (by omega)).trans g1⟩, ⟨i, (ee 8 (by omega) (by omega) (by omega)).trans i1⟩, ⟨jj, (ee 9 (by omega) (by omega) (by omega)).trans j1⟩, ⟨kk, (ee 10 (by omega) (by omega) (by omega)).trans kk1⟩⟩
    | succ j ih =>
      intro k hk M1 pd1 f1 m0 m5 e
      rw [wp_X4_put_L105, pk_m1]
      refine ⟨fun z => absurd z (nI_pos (by omega)), fun _ => ⟨_, _, m0, rfl, _, _, m0, rfl, _, _, m5, kvin (by omega) (by omega), fun M2 e2 => ?_⟩⟩
      rw [kcl (by omega), s8_byte hu (by omega)] at e2
      have q0 := (kup_off e2 (hI.ne (i := 0) (by omega) (by omega) (by omega))).trans m0
      refine ⟨_, _, q0, rfl, _, q0, by simp, fun M3 e3 => ?_⟩
      rw [kns] at e3
      refine ih (k + 1) (by omega) M3 _ (fun x x0 x5 => (kup_off e3 x0).trans ((kup_off e2 x5).trans (f1 x x0 x5))) (by rw [kup_at e3]; rfl) ((kup_off e3 (hI.ne (by omega) (by omega) (by omega))).trans (kup_at e2)) (fun i hi => ?_)
      by_cases hik : i = F.pn + k
      · subst hik
        rw [upd_s, if_pos (by omega), show F.pn + a - 1 - (F.pn + k) = j by omega]
      · rw [upd_n hik]
        exact e i (by omega)
  have done : ∀ a, a = cI 8 u 0 → a ≤ 8 → wp_X4_put_b67 G post (am 0) (lN u) (nI a) (lN 0) 1 M := by
    intro a ha ha8
    unfold wp_X4_put_b67
    refine ⟨fun z => bad (by rw [← ha]; exact (nI_eq (b := 0) (by omega) (by omega)).mp z), fun hne => ⟨fun z => absurd z (by decide), fun _ => ⟨fun _ => ⟨_, _, h0, rfl, ?_⟩, fun z => absurd (by decide) z⟩⟩⟩
    have hne0 : a ≠ 0 := fun z => hne (by rw [z]; rfl)
    rw [nIa]
    refine ⟨fun hle => ⟨a + 1, ?_⟩, fun hle => ?_⟩
    · have hle' : F.pn + a ≤ 64 := (nI_leI (b := 64) (by omega) (by omega)).mp hle
      rw [show nI a - (1 : Int32) = nI a + (-1 : Int32) by rw [Int32.sub_eq_add_neg]]
      exact app a ha hne0 ha8 hle' a 0 (by omega) M pd (fun _ _ _ => rfl) h0 b5 (fun i hi => by rw [if_neg (by omega)]; exact b5' i hi)
    · have hle' : ¬ F.pn + a ≤ 64 := fun z => hle (nI_le (b := 64) z (by omega))
      unfold xput at hp
      rw [if_neg (by omega), if_pos (by omega)] at hp
      exact hp M mFr.refl hM0
  have key : ∀ (k a w : Nat), a + k = 8 → w = u / 256 ^ a → cI k w a = cI 8 u 0 → wp_X4_put_L8 G post (k + 1) (am 0) (lN u) (nI a) (lN w) 1 M := by
    intro k
    induction k with
    | zero =>
      intro a w ha hw hc
      have : a = 8 := by omega
      subst this
      have w0 : w = 0 := by
        rw [hw]
        exact Nat.div_eq_of_lt (by rw [show 256 ^ 8 = 2 ^ 64 from by decide]; exact hu)
      rw [wp_X4_put_L8, w0]
      exact ⟨fun _ => done 8 hc (by omega), fun z => absurd (by decide) z⟩
    | succ k ih =>
      intro a w ha hw hc
      have hw64 : w < 2 ^ 64 := by rw [hw]; exact Nat.lt_of_le_of_lt (Nat.div_le_self _ _) hu
      rw [cI] at hc
      dsimp only at hc
      have hmod : lN w &&& (255 : Int64) = lN (w % 2 ^ 8) := wb_mask (k := 8) hw64 (by decide)
      have hm256 : w % 2 ^ 8 < 2 ^ 64 := Nat.lt_of_lt_of_le (Nat.mod_lt _ (by decide)) (by decide)
      rw [wp_X4_put_L8]
      dsimp only
      rw [hmod, lN_i]
      refine ⟨fun z => absurd z (kge (N := 8) (by omega) (by decide)), fun _ => ⟨fun h => ?_, fun h => ⟨fun z => absurd z (by decide), fun _ => g_within ?_⟩⟩⟩
      · have hz : w % 2 ^ 8 = 0 := (lNz hm256).mp ((lgz _).mp h)
        by_cases hw0 : w = 0
        · rw [if_pos hw0] at hc
          rw [hw0]
          exact done a hc (by omega)
        · rw [if_neg hw0, if_pos (Or.inl (by omega))] at hc
          unfold wp_X4_put_b67
          refine ⟨fun _ => bad hc.symm, fun _ => ⟨fun _ => bad hc.symm, fun _ => ⟨fun z => absurd ((lNz hw64).mp ((lgz _).mp z)) hw0, fun _ => bad hc.symm⟩⟩⟩
      · have hnz : w % 2 ^ 8 ≠ 0 := fun z => h ((lgz _).mpr ((lNz hm256).mpr z))
        have hw0 : w ≠ 0 := fun z => hnz (by rw [z])
        rw [if_neg hw0] at hc
        have hlt : w % 2 ^ 8 < 256 := Nat.mod_lt _ (by decide)
        have e8 : (((8 : Int32)).toInt64.toUInt64 &&& Int64.toUInt64 63) = ((nI 8).toInt64.toUInt64 &&& Int64.toUInt64 63) := rfl
        refine ⟨fun h2 => ?_, fun h2 => fun y ey => ?_⟩
        · have hbad : w % 256 < 33 ∨ 126 < w % 256 := by
            have := k01_z.mp h2
            by_cases c1 : nI (w % 2 ^ 8) < 33
            · exact Or.inl ((nI_ltI (a := w % 2 ^ 8) (b := 33) (by omega) (by omega)).mp c1)
            · by_cases c2 : 126 < nI (w % 2 ^ 8)
              · exact Or.inr ((nI_ltI (a := 126) (b := w % 2 ^ 8) (by omega) (by omega)).mp c2)
              · rw [decide_eq_true c1, decide_eq_true c2] at this; cases this
          rw [if_pos hbad] at hc
          unfold wp_X4_put_b51
          intro y ey
          rw [e8, wb_shr hw64 (by omega)] at ey
          rw [ey, kns]
          exact lost hc.symm k (a + 1) (w / 2 ^ 8) (by omega) (Nat.lt_of_le_of_lt (Nat.div_le_self _ _) hw64)
        · have hgood := k01_nz h2
          have c1 : ¬ nI (w % 2 ^ 8) < 33 := fun z => by rw [decide_eq_false (fun y => y z)] at hgood; cases hgood
          have c2 : ¬ 126 < nI (w % 2 ^ 8) := fun z => by rw [decide_eq_false (p := ¬ 126 < nI (w % 2 ^ 8)) (fun y => y z), Bool.and_false] at hgood; cases hgood
          have d1 : ¬ w % 256 < 33 := fun z => c1 (nI_lt (a := w % 2 ^ 8) (b := 33) z (by omega))
          have d2 : ¬ 126 < w % 256 := fun z => c2 (nI_lt (a := 126) (b := w % 2 ^ 8) z (by omega))
          rw [if_neg (by omega)] at hc
          rw [e8, wb_shr hw64 (by omega)] at ey
          rw [ey, kns]
          exact ih (a + 1) (w / 2 ^ 8) (by omega) (by rw [hw, Nat.div_div_eq_div_mul]; exact congrArg (u / ·) (show 256 ^ a * 2 ^ 8 = 256 ^ (a + 1) from rfl)) hc
  exact ⟨9, key 8 0 u (by omega) (by simp) rfl⟩
end G8
