/-! ===== the class: saving, the pad, what receiving would bring ===== -/
def byt (u i : Nat) : Nat := u / 256 ^ i % 256
def cI : Nat → Nat → Nat → Nat
  | 0 => fun _ a => a
  | k + 1 => fun u a => if u = 0 then a else if u % 256 < 33 ∨ 126 < u % 256 then 0 else cI k (u / 256) (a + 1)
theorem cI_spec (u0 : Nat) : ∀ (k a u : Nat), u = u0 / 256 ^ a → (∀ i, i < a → byt u0 i < 128) → a + k ≤ 8 → cI k u a ≤ 8 ∧ ∀ i, i < cI k u a → byt u0 i < 128 := by
  intro k
  induction k with
  | zero => intro a u hu ha hk; exact ⟨by show a ≤ 8; omega, ha⟩
  | succ k ih =>
    intro a u hu ha hk
    rw [cI]
    dsimp only
    split
    · exact ⟨by omega, ha⟩
    · split
      · exact ⟨by omega, fun i hi => absurd hi (Nat.not_lt_zero i)⟩
      · rename_i h1 h2
        refine ih (a + 1) _ (by rw [hu, Nat.pow_succ, Nat.div_div_eq_div_mul]) (fun i hi => ?_) (by omega)
        by_cases hia : i = a
        · subst hia
          unfold byt
          rw [← hu]
          omega
        · exact ha i (by omega)
def xput (F : kF) (u : Nat) : Int32 × kF :=
  if cI 8 u 0 = 0 then (-2, F) else if 64 - F.pn < cI 8 u 0 then (-4, F)
  else (nI (F.pn + cI 8 u 0), F.S, F.hist, F.hc, F.sl, F.sv, (fun i => if F.pn ≤ i then byt u (F.pn + cI 8 u 0 - 1 - i) else F.ch i), F.pn + cI 8 u 0)
theorem lgz (x : Int64) : lg_cmp x 0 = 0 ↔ x = 0 := by
  unfold lg_cmp
  split
  · constructor
    · intro h; exact absurd h (by decide)
    · rintro rfl
      rename_i h
      exact absurd h (by decide)
  · split
    · rename_i h; exact ⟨fun _ => h, fun _ => rfl⟩
    · rename_i h; exact ⟨fun z => absurd z (by decide), fun z => absurd z h⟩
theorem lNz {u : Nat} (h : u < 2 ^ 64) : lN u = 0 ↔ u = 0 := by
  constructor
  · intro z
    have := wb_tn h
    rw [z] at this
    exact this.symm
  · rintro rfl; rfl
theorem c_256 : ∀ n, n < 256 → ((nI n).toUInt32 % 65536).toInt32 = nI n := by decide +kernel
theorem v_256 : ∀ n, n < 256 → vp_nar .char (nI n) = nI n := by decide +kernel
theorem n8 : ∀ j, j < 8 → (8 : Int32) * nI j = nI (8 * j) := by decide +kernel
theorem s8_byte {u : Nat} (hu : u < 2 ^ 64) {j : Nat} (hj : j < 8) : (((((lN u).toUInt64 >>> ((((8 : Int32) * nI j)).toInt64.toUInt64 &&& Int64.toUInt64 63)).toInt64 &&& (255 : Int64))).toInt32) = nI (byt u j) := by
  rw [n8 j hj, wb_shr hu (by omega)]
  have h : lN (u / 2 ^ (8 * j)) &&& (255 : Int64) = lN (u / 2 ^ (8 * j) % 2 ^ 8) := wb_mask (k := 8) (Nat.lt_of_le_of_lt (Nat.div_le_self _ _) hu) (by decide)
  rw [h, lN_i]
  unfold byt
  rw [Nat.pow_mul]
theorem b_lt (u i : Nat) : byt u i < 256 := Nat.mod_lt _ (by decide)
section F4
variable {G : k_G} {M : k_M} {ad hi : Nat → Nat} {cap : Nat} {F : kF} {post : Int32 → k_M → Prop}
theorem s_charactersIn {u : Nat} (hu : u < 2 ^ 64) (hp : post (nI (cI 8 u 0)) M) : wp_X3_charactersIn G post (lN u) M := by
  have key : ∀ (k a u : Nat), a + k = 8 → u < 2 ^ 64 → post (nI (cI k u a)) M → wp_X3_charactersIn_L5 G post (k + 1) (lN u) (nI a) M := by
    intro k
    induction k with
    | zero =>
      intro a u ha hu hp
      have : a = 8 := by omega
      subst this
      rw [wp_X3_charactersIn_L5]
      exact ⟨fun _ => hp, fun _ => ⟨fun _ => hp, fun z => absurd (by decide) z⟩⟩
    | succ k ih =>
      intro a u ha hu hp
      rw [wp_X3_charactersIn_L5]
      rw [cI] at hp
      dsimp only at hp
      refine ⟨fun h => ?_, fun h => ⟨fun h8 => absurd h8 (kge (N := 8) (by omega) (by decide)), fun _ => ?_⟩⟩
      · rw [if_pos ((lNz hu).mp ((lgz _).mp h))] at hp; exact hp
      · rw [if_neg (fun z => h ((lgz _).mpr ((lNz hu).mpr z)))] at hp
        have e : (lN u &&& (255 : Int64)).toInt32 = nI (u % 256) := by
          have h : lN u &&& (255 : Int64) = lN (u % 2 ^ 8) := wb_mask (k := 8) hu (by decide)
          rw [h, lN_i]
        rw [e]
        have hlt : u % 256 < 256 := Nat.mod_lt _ (by decide)
        refine ⟨fun h1 => ?_, fun h1 => ⟨fun h2 => fun y2 e2 => ?_, fun h2 => ?_⟩⟩
        · rw [if_pos (Or.inl ((nI_ltI (a := u % 256) (b := 33) (by omega) (by omega)).mp h1))] at hp; exact hp
        · have n1 : ¬ u % 256 < 33 := fun z => h1 (nI_lt (a := u % 256) (b := 33) z (by omega))
          have n2 : u % 256 ≤ 126 := (nI_leI (a := u % 256) (b := 126) (by omega) (by omega)).mp h2
          rw [if_neg (by omega)] at hp
          have e8 : (((8 : Int32)).toInt64.toUInt64 &&& Int64.toUInt64 63) = ((nI 8).toInt64.toUInt64 &&& Int64.toUInt64 63) := rfl
          rw [e8, wb_shr hu (by omega)] at e2
          rw [e2, kns]
          exact ih (a + 1) (u / 2 ^ 8) (by omega) (Nat.lt_of_le_of_lt (Nat.div_le_self _ _) hu) hp
        · have n2 : ¬ u % 256 ≤ 126 := fun z => h2 (nI_le (a := u % 256) (b := 126) z (by omega))
          rw [if_pos (by omega)] at hp; exact hp
  exact ⟨9, key 8 0 u (by omega) hu hp⟩
theorem s_X0_append {pp : Nat → Nat} {ch : Nat → Nat} {n a u : Nat} {postv : k_M → Prop} (n13 : ∀ i j, i < 4 → j < 4 → i ≠ j → pp i ≠ pp j) (hu : u < 2 ^ 64) (ha : a ≤ 8) (hb : ∀ i, i < a → byt u i < 128) (hn : n + a ≤ 64) (hS : cPad G M pp ch n)
    (hp : ∀ M1 : k_M, (∀ x, x ≠ pp 0 → x ≠ pp 1 → M1 x = M x) → cPad G M1 pp (fun i => if n ≤ i then byt u (n + a - 1 - i) else ch i) (n + a) → postv M1) : wp_X0_append G postv (pp 0) (lN u) (nI a) M := by
  have key : ∀ (j k : Nat), k + j = a → ∀ M1 : k_M, (∀ x, x ≠ pp 0 → x ≠ pp 1 → M1 x = M x) → cPad G M1 pp (fun i => if n ≤ i then byt u (n + a - 1 - i) else ch i) (n + k) → wp_X0_append_L5 G postv (j + 1) (pp 0) (lN u) (nI j + (-1 : Int32)) M1 := by
    intro j
    induction j with
    | zero =>
      intro k hk M1 f1 hc
      have : k = a := by omega
      subst this
      rw [wp_X0_append_L5]
      exact ⟨fun _ => hp M1 f1 hc, fun z => absurd (by decide) z⟩
    | succ j ih =>
      intro k hk M1 f1 hc
      rw [wp_X0_append_L5, pk_m1]
      obtain ⟨⟨x1, x2, x3, x4, h0⟩, ⟨g, h1, h1'⟩, ⟨e, l, h2⟩, hf, h3⟩ := hc
      refine ⟨fun z => absurd z (nI_pos (by omega)), fun _ => ⟨_, _, h0, rfl, fun z => absurd z (kge (N := 64) (by omega) (by decide)), fun _ => ⟨_, _, h0, rfl, _, _, h0, rfl, _, _, h1, kvin (show n + k < 64 by omega) (by omega), fun M2 e2 => ?_⟩⟩⟩
      rw [kcl (by omega), s8_byte hu (by omega), c_256 _ (b_lt u j), v_256 _ (b_lt u j)] at e2
      have q0 := (kup_off e2 (n13 0 1 (by omega) (by omega) (by omega))).trans h0
      refine ⟨_, _, q0, rfl, _, q0, by simp, fun M3 e3 => ?_⟩
      rw [kns] at e3
      have fr : ∀ x, x ≠ pp 0 → x ≠ pp 1 → M3 x = M1 x := fun x a0 a1 => (kup_off e3 a0).trans (kup_off e2 a1)
      refine ih (k + 1) (by omega) M3 (fun x a0 a1 => (fr x a0 a1).trans (f1 x a0 a1)) ⟨⟨_, _, _, _, by rw [kup_at e3]; rfl⟩, ⟨_, (kup_off e3 (n13 1 0 (by omega) (by omega) (by omega))).trans (kup_at e2), fun i hi => ?_⟩, ⟨e, l, (fr _ (n13 2 0 (by omega) (by omega) (by omega)) (n13 2 1 (by omega) (by omega) (by omega))).trans h2⟩, hf, (fr _ (n13 3 0 (by omega) (by omega) (by omega)) (n13 3 1 (by omega) (by omega) (by omega))).trans h3⟩
      by_cases hik : i = n + k
      · subst hik
        dsimp only
        rw [upd_s, if_pos (by omega), show n + a - 1 - (n + k) = j by omega]
        exact ⟨rfl, hb j (by omega)⟩
      · rw [upd_n hik]
        exact h1' i (by omega)
  unfold wp_X0_append
  refine ⟨a + 1, ?_⟩
  have := key a 0 (by omega) M (fun _ _ _ => rfl) ?_
  · rw [show nI a - (1 : Int32) = nI a + (-1 : Int32) by rw [Int32.sub_eq_add_neg]]; exact this
  · obtain ⟨h0, ⟨g, h1, h1'⟩, h2⟩ := hS
    exact ⟨h0, ⟨g, h1, fun i hi => by dsimp only; rw [if_neg (by omega)]; exact h1' i (by omega)⟩, h2⟩
theorem pad_inj (hg : gInj ad) : ∀ i j, i < 4 → j < 4 → i ≠ j → (fun k => ad (346 + k)) i ≠ (fun k => ad (346 + k)) j := fun i j hi hj hij => hg.ne (by omega) (by omega) (by omega)
theorem s_X3_put {u : Nat} (hu : u < 2 ^ 64) (hg : gInj ad) (ho : hOk hi) (hpn : F.pn ≤ 64) (hF : cF G M ad hi cap F) (hp : xPost G M ad cap (xput F u) post) : wp_X3_put G post (ad 342) (lN u) M := by
  unfold wp_X3_put
  unfold xput at hp
  obtain ⟨c1, c2⟩ := cI_spec u 8 0 u (by simp) (fun i hi => absurd hi (Nat.not_lt_zero i)) (by omega)
  obtain ⟨a, b, c, d, h0⟩ := hF.pad.1
  refine s_charactersIn hu ⟨fun h => ?_, fun h => ?_⟩
  · rw [if_neg (fun z => h (by rw [z]; rfl))] at hp
    have e64 : (64 : Int32) - nI F.pn = nI (64 - F.pn) := pk_sub (a := 64) (b := F.pn) hpn
    refine ⟨_, _, hF.1, rfl, _, _, h0, rfl, fun h2 => ?_, fun h2 => ?_⟩
    · rw [e64] at h2
      have hle : cI 8 u 0 ≤ 64 - F.pn := (nI_leI (by omega) (by omega)).mp h2
      rw [if_neg (by omega)] at hp
      refine ⟨_, _, hF.1, rfl, _, h0, s_X0_append (pp := fun k => ad (346 + k)) (pad_inj hg) hu c1 c2 (by omega) hF.pad (fun M1 f1 hc => ?_)⟩
      have k1 : ∀ n, n < 354 → n ≠ 346 → n ≠ 347 → M1 (ad n) = M (ad n) := fun n q1 q2 q3 => f1 _ (hg.ne q1 (by omega) q2) (hg.ne q1 (by omega) q3)
      obtain ⟨e, l, g, t1, t2⟩ := hF.tri
      have hF1 := hF.side ho (fun n hn => k1 n (by omega) (by omega) (by omega)) hc ⟨e, l, g, (k1 350 (by omega) (by omega) (by omega)).trans t1, (k1 351 (by omega) (by omega) (by omega)).trans t2⟩ (hF.txt.kept (k1 352 (by omega) (by omega) (by omega)) (k1 353 (by omega) (by omega) (by omega)))
      obtain ⟨a, b, c, d, h0⟩ := hc.1
      exact ⟨_, _, hF1.1, rfl, _, _, h0, rfl, hp M1 hi (kFr.of (fun a ha => f1 a (ha 346 (by omega)) (ha 347 (by omega)))) ho hF1⟩
    · rw [e64] at h2
      have hle : ¬ cI 8 u 0 ≤ 64 - F.pn := fun z => h2 (nI_le z (by omega))
      rw [if_pos (by omega)] at hp
      exact hp M hi kFr.refl ho hF
  · rw [if_pos ((nI_eq (b := 0) (by omega) (by omega)).mp h)] at hp
    exact hp M hi kFr.refl ho hF
theorem s_X3_wipe (hg : gInj ad) (ho : hOk hi) (hF : cF G M ad hi cap F) (hp : xPost G M ad cap (xwipe F) post) : wp_X3_wipe G post (ad 342) M := by
  unfold wp_X3_wipe
  obtain ⟨⟨a, b, c, d, h0⟩, ⟨g, h1, h1'⟩, ⟨e, l, h2⟩, hf, h3⟩ := hF.pad
  refine ⟨_, _, hF.1, rfl, _, _, h0, rfl, _, _, hF.1, rfl, _, h0, by simp, fun M1 e1 => ?_⟩
  have k1 : ∀ n, n < 354 → n ≠ 346 → M1 (ad n) = M (ad n) := fun n q1 q2 => kup_off e1 (hg.ne q1 (by omega) q2)
  obtain ⟨e', l', g', t1, t2⟩ := hF.tri
  exact hp M1 hi (kFr.of (fun a ha => kup_off e1 (ha 346 (by omega)))) ho (hF.side ho (fun n hn => k1 n (by omega) (by omega)) ⟨⟨_, _, _, _, by rw [kup_at e1]; rfl⟩, ⟨g, (k1 347 (by omega) (by omega)).trans h1, fun i hi => absurd hi (Nat.not_lt_zero i)⟩, ⟨e, l, (k1 348 (by omega) (by omega)).trans h2⟩, hf, (k1 349 (by omega) (by omega)).trans h3⟩ ⟨e', l', g', (k1 350 (by omega) (by omega)).trans t1, (k1 351 (by omega) (by omega)).trans t2⟩ (hF.txt.kept (k1 352 (by omega) (by omega)) (k1 353 (by omega) (by omega))))
theorem s_rd {M1 : k_M} (hg : gInj ad) (ho : hOk hi) (hF : cF G M ad hi cap F) (f1 : ∀ a, a ≠ ad 346 → a ≠ ad 349 → M1 a = M a) (hc : cPad G M1 (fun k => ad (346 + k)) F.ch F.pn) : cF G M1 ad hi cap F ∧ kFr M M1 ad := by
  have k1 : ∀ n, n < 354 → n ≠ 346 → n ≠ 349 → M1 (ad n) = M (ad n) := fun n q1 q2 q3 => f1 _ (hg.ne q1 (by omega) q2) (hg.ne q1 (by omega) q3)
  obtain ⟨e', l', g', t1, t2⟩ := hF.tri
  exact ⟨hF.side ho (fun n hn => k1 n (by omega) (by omega) (by omega)) hc ⟨e', l', g', (k1 350 (by omega) (by omega) (by omega)).trans t1, (k1 351 (by omega) (by omega) (by omega)).trans t2⟩ (hF.txt.kept (k1 352 (by omega) (by omega) (by omega)) (k1 353 (by omega) (by omega) (by omega))), kFr.of (fun a ha => f1 a (ha 346 (by omega)) (ha 349 (by omega)))⟩
theorem s_X3_fault (hg : gInj ad) (ho : hOk hi) (hpn : F.pn ≤ 64) (hF : cF G M ad hi cap F) (hp : xPost G M ad cap (pFault F.ch F.pn, F) post) : wp_X3_fault G post (ad 342) M := by
  unfold wp_X3_fault
  obtain ⟨a, b, c, d, h0⟩ := hF.pad.1
  refine ⟨_, _, hF.1, rfl, _, h0, s_X0_read (pp := fun k => ad (346 + k)) (pad_inj hg 1 3 (by omega) (by omega) (by omega)) hpn hF.pad (fun M1 f1 hc _ => ?_)⟩
  obtain ⟨h1, h2⟩ := s_rd hg ho hF f1 hc
  exact hp M1 hi h2 ho h1
theorem s_X3_orderToPad {x : Int32} (hg : gInj ad) (ho : hOk hi) (hpn : F.pn ≤ 64) (hF : cF G M ad hi cap F) (hp : xPost G M ad cap (xpad F x, F) post) : wp_X3_orderToPad G post (ad 342) x M := by
  have hst := hF.st
  unfold wp_X3_orderToPad
  unfold xpad at hp
  refine ⟨_, _, hF.1, rfl, _, hst.1, s_X2_isHelper (ad := stA ad 0) hst ⟨fun h => ?_, fun h => ?_⟩⟩
  · rw [if_neg (by rw [k01_nz h]; decide)] at hp
    obtain ⟨j, hj, rfl, hjl⟩ := inH_ex (k01_nz h)
    rw [kcl (by omega)] at hp
    obtain ⟨a, b, c, d, h0⟩ := hF.pad.1
    refine ⟨_, _, hF.1, rfl, _, h0, s_X0_read (pp := fun k => ad (346 + k)) (pad_inj hg 1 3 (by omega) (by omega) (by omega)) hpn hF.pad (fun M1 f1 hc hz => ?_)⟩
    obtain ⟨h1, h2⟩ := s_rd hg ho hF f1 hc
    refine ⟨fun h6 => ?_, fun h6 => ?_⟩
    · rw [if_pos h6] at hp
      obtain ⟨hf, z1, z2⟩ := hz h6
      obtain ⟨⟨a, b, c, d, p0⟩, -, ⟨e, l, p2⟩, -⟩ := hc
      obtain ⟨q0, -, ⟨r2, q2, q2'⟩, -, -, -, q6, -⟩ := h1.st
      obtain ⟨e1, l1, g1, s1, s2, s3, s4⟩ := q6 j hj
      refine ⟨_, _, h1.1, rfl, _, _, q0, rfl, _, _, _, q2, kvin hj (by omega), k_at (q2' j hj) (by omega), _, _, h1.1, rfl, _, _, p0, rfl, _, s1, s_X1_orderTo s1 s2 p2 z1 ?_⟩
      rw [ordf_cong s3 z2]
      exact hp M1 hi h2 ho h1
    · rw [if_neg h6] at hp
      exact hp M1 hi h2 ho h1
  · rw [if_pos (k01_z.mp h)] at hp
    exact hp M hi kFr.refl ho hF
end F4
