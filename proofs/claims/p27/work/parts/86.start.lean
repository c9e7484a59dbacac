/-! ===== the law, from its entry ===== -/
section LOOP
variable {G : k_G} {M : k_M} {o sa ta ka qa wa cap t mc ms kc ks : Nat} {F : kF} {s : Nat → Int32} {f g : Nat → Int64} {q w : Nat → Int32} {post : Int32 → k_M → Prop}
theorem s_L_cell {p0 : Nat} (hb : p0 = kb G) (hL : kL G ≤ 260) {t : Nat} (ht : t < 28) (hp : ∀ v, post v M) : wp_L_cell G post p0 (nI t) M := by
  unfold wp_L_cell
  refine ⟨hb, fun _ => hp _, fun h0 => ⟨hb, kvin ?_ (by omega), hp _⟩⟩
  rcases Nat.lt_or_ge t (kL G) with z | z
  · exact z
  · exact absurd (nI_le z (by omega)) h0
theorem l_max (v : Int32) : ∃ a, a < 2 ^ 31 ∧ v &&& (2147483647 : Int32) = nI a := by
  refine ⟨v.toBitVec.toNat % 2 ^ 31, Nat.mod_lt _ (by decide), b_ext (fun i hi => ?_)⟩
  have e : bt (2147483647 : Int32) i = decide (i < 31) := (show ∀ i, i < 32 → bt (2147483647 : Int32) i = decide (i < 31) by decide +kernel) i hi
  rw [b_and, e, bt_nI hi, Nat.testBit_mod_two_pow]
  exact Bool.and_comm _ _
theorem s_L_low {v : Int32} {n : Nat} (h0 : 0 < n) (hn : n < 1000) (hp : ∀ k, k < n → post (nI k) M) : wp_L_low G post v (nI n) M := by
  unfold wp_L_low
  obtain ⟨a, ha, ea⟩ := l_max v
  rw [ea, pk_rem ha h0 (by omega)]
  exact ⟨fun z => absurd ((nI_eq (b := 0) (by omega) (by decide)).mp z) (by omega), hp _ (Nat.mod_lt _ h0)⟩
variable {K43 : Nat → Nat → Nat → Nat → Nat → Nat → Nat → Int32 → Nat → Nat → k_M → Prop} {x0 : Nat} {x7 x8 : Int32}
theorem a_b988 (hW : W5 G M o sa ta ka qa wa cap F s f g q w) (hR : LR t F s f g q w) (ht : t ≤ 28) (hkc : kc + 62 ≤ mc) (hks : ks + 8804 ≤ ms)
    (hK : ∀ M1 cap', W5 G M1 o sa ta ka qa wa cap' F s f g q w → K43 x0 o sa ta ka qa wa (x7 + (1 : Int32)) (kc + 62) (ks + 8804) M1) : wp_L_law_b988 G mc ms post K43 x0 o sa ta ka qa wa x7 x8 kc ks M := by
  unfold wp_L_law_b988
  exact ⟨62, 8804, hkc, hks, s_L_same hW hR (by omega) ⟨Nat.le_refl _, Nat.le_refl _⟩ (fun M1 cap' hW1 => ⟨fun _ => hK M1 cap' hW1, fun z => absurd z (by decide)⟩)⟩
theorem a_b144 (hW : W5 G M o sa ta ka qa wa cap F s f g q w) (hR : LR t F s f g q w) (ht : t < 28) (hkc : kc ≤ mc) (hks : ks ≤ ms) {h j m kd : Nat} (hh : h < 8) (hl : F.S.sh h ≠ 0) (hj : j < 8) (hm : m < F.S.mc ∨ (F.S.mc = 0 ∧ m = 0)) (hkd : kd < 12)
    (hC : ∀ (M1 : k_M) (F1 : kF) (s1 : Nat → Int32) (f1 g1 : Nat → Int64) (q1 w1 : Nat → Int32), W5 G M1 o sa ta ka qa wa cap F1 s1 f1 g1 q1 w1 → LR (t + 1) F1 s1 f1 g1 q1 w1 → wp_L_law_b988 G mc ms post K43 x0 o sa ta ka qa wa x7 x8 kc ks M1) :
    wp_L_law_b144 G mc ms post K43 x0 o sa ta ka qa wa x7 x8 (nI kd) (nI h) (nI j) (nI m) kc ks M := by
  have hmc := hR.1.1.1
  have hq0 := hR.2.2.1
  have hRt : LR (t + 1) F s f g q w := ⟨hR.1, by have := hR.2.1; omega, hR.2.2⟩
  rcases (show kd < 2 ∨ kd = 2 ∨ (3 ≤ kd ∧ kd < 7) ∨ (7 ≤ kd ∧ kd < 9) ∨ (9 ≤ kd ∧ kd < 11) ∨ kd = 11 by omega) with k | rfl | ⟨k1, k2⟩ | ⟨k1, k2⟩ | ⟨k1, k2⟩ | rfl
  · exact a_fork hW hR ht hkc hks hh hl k hC
  · exact a_gather hW hR ht hkc hks hh hl hj hC
  · exact a_event hW hR ht hkc hks hh hl k1 k2 hC
  · exact a_send hW hR ht hkc hks hh hl k1 k2 hC
  · rcases hm with hm | ⟨hm0, hm1⟩
    · exact a_receive hW hR ht hkc hks hh hl k1 k2 hm hC
    · unfold wp_L_law_b144
      refine ⟨fun _ => ⟨fun _ => ⟨fun _ => ⟨fun _ => ⟨fun h11 => absurd h11 (kge (N := 11) (i := kd) (by omega) (by decide)), fun _ => ?_⟩, fun h9 => absurd (nI_le (a := 9) (by omega) (by omega)) h9⟩, fun h7 => absurd (nI_le (a := 7) (by omega) (by omega)) h7⟩, fun h2 => absurd ((nI_eq (b := 2) (by omega) (by decide)).mp h2) (by omega)⟩, fun h2 => absurd (nI_le (a := 2) (by omega) (by omega)) h2⟩
      refine ⟨_, _, hW.L.2.2.2.1, vin0, ?_⟩
      try rw [e_0]
      rw [hq0]
      rw [hm0]
      refine ⟨fun _ => ?_, fun z => absurd (by decide +kernel) z⟩
      unfold wp_L_law_b857
      exact ⟨fun _ => hC M _ _ _ _ _ _ hW hRt, fun z => absurd ((nI_eq (b := 11) (by omega) (by decide)).mp z) (by omega)⟩
  · unfold wp_L_law_b144
    refine ⟨fun _ => ⟨fun _ => ⟨fun _ => ⟨fun _ => ⟨fun _ => ?_, fun z => absurd (by decide +kernel) z⟩, fun z => absurd (by decide +kernel) z⟩, fun z => absurd (by decide +kernel) z⟩, fun z => absurd z (by decide +kernel)⟩, fun z => absurd (by decide +kernel) z⟩
    exact a_drop hW hR ht hkc hks hm hC
theorem l_h1 : ∀ h, h < 8 → (nI h + (1 : Int32)) - (nI h + (1 : Int32)) / (8 : Int32) * (8 : Int32) = nI ((h + 1) % 8) := by decide +kernel
theorem a_81 {x9 : Int32} (hsh : ∀ i, i < 8 → s i = F.S.sh i) (hW : W5 G M o sa ta ka qa wa cap F s f g q w) (hex : ∃ h, h < 8 ∧ F.S.sh h ≠ 0) {h0 : Nat} (h08 : h0 < 8)
    (hK : ∀ h, h < 8 → F.S.sh h ≠ 0 → wp_L_law_b110 G mc ms post K43 x0 o sa ta ka qa wa x7 x8 x9 (nI h) kc ks M) :
    ∀ n k, k + n = 8 → (∀ k', k' < k → F.S.sh ((h0 + k') % 8) = 0) → wp_L_law_L81 G mc ms post K43 (n + 1) x0 o sa ta ka qa wa x7 x8 x9 (nI ((h0 + k) % 8)) (nI k) kc ks M := by
  intro n
  induction n with
  | zero =>
    intro k hk hd
    obtain ⟨h, h8, hl⟩ := hex
    refine absurd (hd ((h + 8 - h0) % 8) (by omega)) ?_
    rw [show (h0 + (h + 8 - h0) % 8) % 8 = h by omega]
    exact hl
  | succ n ih =>
    intro k hk hd
    have h8 : (h0 + k) % 8 < 8 := Nat.mod_lt _ (by decide)
    rw [wp_L_law_L81]
    refine ⟨fun z => absurd z (kge (N := 8) (by omega) (by decide)), fun _ => ⟨_, _, hW.L.1, kvin (by omega) (by decide), ?_⟩⟩
    try rw [kcl (show (h0 + k) % 8 < 2 ^ 31 by omega)]
    rw [hsh _ h8]
    refine ⟨fun z => hK _ h8 z, fun z y ey => ?_⟩
    rw [l_h1 _ h8, show ((h0 + k) % 8 + 1) % 8 = (h0 + (k + 1)) % 8 by omega] at ey
    subst ey
    rw [kns]
    refine ih (k + 1) (by omega) (fun k' hk' => ?_)
    by_cases e : k' = k
    · rw [e]; exact z
    · exact hd k' (by omega)
theorem a_43 (hb : x0 = kb G) (hL : kL G ≤ 260) : ∀ (n t : Nat), t + n = 28 → ∀ (M : k_M) (cap kc ks : Nat) (F : kF) (s : Nat → Int32) (f g : Nat → Int64) (q w : Nat → Int32), kc ≤ 400 + 62 * t → ks ≤ 5000 + 8804 * t → W5 G M o sa ta ka qa wa cap F s f g q w → LR t F s f g q w → wp_L_law_L43 G 600000 7302250 (fun r _ => r = 1) (n + 1) x0 o sa ta ka qa wa (nI t) kc ks M := by
  intro n
  induction n with
  | zero =>
    intro t ht M cap kc ks F s f g q w hkc hks hW hR
    have : t = 28 := by omega
    subst this
    rw [wp_L_law_L43]
    exact ⟨fun _ => ⟨by omega, by omega, rfl⟩, fun z => absurd (by decide) z⟩
  | succ n ih =>
    intro t ht M cap kc ks F s f g q w hkc hks hW hR
    rw [wp_L_law_L43]
    have b1 : kc ≤ 600000 := by omega
    have b2 : ks ≤ 7302250 := by omega
    refine ⟨fun z => absurd z (kge (N := 28) (by omega) (by decide)), fun _ => ⟨b1, b2, s_L_cell hb hL (by omega) (fun v => ⟨b1, b2, s_L_low (n := 12) (by decide) (by decide) (fun kd hkd => ⟨b1, b2, s_L_low (n := 8) (by decide) (by decide) (fun h0 h08 => ⟨9, ?_⟩)⟩)⟩)⟩⟩
    have hmc := hR.1.1.1
    have := a_81 (mc := 600000) (ms := 7302250) (kc := kc) (ks := ks) (post := fun r _ => r = 1) (K43 := wp_L_law_L43 G 600000 7302250 (fun r _ => r = 1) (n + 1)) (x0 := x0) (x7 := nI t) (x8 := v) (x9 := nI kd) hR.2.2.2.2.1 hW hR.1.1.2.2.2.1 h08 (fun h hh hl => ?_) 8 0 (by omega) (fun k' hk' => absurd hk' (Nat.not_lt_zero k'))
    · rw [show (h0 + 0) % 8 = h0 by omega] at this
      exact this
    · have hq0 := hR.2.2.1
      have fin : ∀ j m, j < 8 → (m < F.S.mc ∨ (F.S.mc = 0 ∧ m = 0)) → wp_L_law_b144 G 600000 7302250 (fun r _ => r = 1) (wp_L_law_L43 G 600000 7302250 (fun r _ => r = 1) (n + 1)) x0 o sa ta ka qa wa (nI t) v (nI kd) (nI h) (nI j) (nI m) kc ks M := by
        intro j m hj hm
        refine a_b144 hW hR (by omega) b1 b2 hh hl hj hm hkd (fun M1 F1 s1 f1 g1 q1 w1 hW1 hR1 => a_b988 hW1 hR1 (by omega) (by omega) (by omega) (fun M2 cap2 hW2 => ?_))
        rw [kns]
        exact ih (t + 1) (by omega) M2 cap2 _ _ F1 s1 f1 g1 q1 w1 (by omega) (by omega) hW2 hR1
      unfold wp_L_law_b110
      refine ⟨b1, b2, s_L_low (n := 8) (by decide) (by decide) (fun j hj => ⟨_, _, hW.L.2.2.2.1, vin0, ?_⟩)⟩
      try rw [e_0]
      rw [hq0]
      refine ⟨fun z => ⟨_, _, hW.L.2.2.2.1, vin0, b1, b2, ?_⟩, fun z => ?_⟩
      · have hpos : 0 < F.S.mc := by
          rcases Nat.eq_zero_or_pos F.S.mc with y | y
          · exact absurd (by rw [y]; rfl) z
          · exact y
        try rw [e_0]
        rw [hq0]
        exact s_L_low hpos (by omega) (fun m hm => fin j m hj (Or.inl hm))
      · exact fin j 0 hj (Or.inr ⟨(nI_eq (b := 0) (by omega) (by decide)).mp z, rfl⟩)
theorem hg_0 (k : Nat) : hg 0 k = 0 := by
  unfold hg
  rw [show uL 0 = 0 by decide, Nat.zero_div, Nat.zero_mod]
  rfl
theorem LR_0 : LR 0 kF0 (upd (fun _ => 0) 0 65535) (fun _ => 0) (fun _ => 0) (fun _ => 0) (fun _ => 0) := by
  refine ⟨okF_0, Nat.le_refl _, rfl, rfl, fun i _ => rfl, fun m hm => absurd hm (Nat.not_lt_zero m), fun i hi hl => ⟨fun c hc => ?_, fun e he => ?_⟩, fun m hm => absurd hm (Nat.not_lt_zero m), fun e he => absurd he (Nat.not_lt_zero e), fun i j b hi hj hij hb => ?_⟩
  · show hg 0 (c % 8) = 0
    exact hg_0 _
  · show bl 0 e = false
    exact bl_0 e
  · replace hb : bt (upd (fun _ => 0) 0 65535 i) b = true := hb
    show bt (upd (fun _ => 0) 0 65535 j) b = false
    by_cases e : i = 0
    · rw [upd_n (show j ≠ 0 by omega)]; exact b_0 b
    · rw [upd_n e, b_0] at hb; cases hb
theorem a_law {b : Nat} (hb : b = kb G) (hL : kL G ≤ 260) : wp_L_law G 600000 7302250 (fun r _ => r = 1) b (fun _ => none) := by
  unfold wp_L_law
  refine ⟨by omega, by omega, fun o M2 _ e2 => ⟨353, 4306, by omega, by omega, s_X3_init (Nat.le_refl _) (Nat.le_refl _) (by rw [e2]; exact kup_same) (fun M8 ad hi h1 hg ho _ _ hF => ?_)⟩⟩
  refine ⟨16, by decide, by decide +kernel, by decide, by omega, by omega, fun sa M14 n14 e14 => ⟨34, by decide, by decide +kernel, by decide, by omega, by omega, fun ta M22 n22 e22 => ⟨17, by decide, by decide +kernel, by decide, by omega, by omega, fun ka M30 n30 e30 => ⟨2, by decide, by decide +kernel, by decide, by omega, by omega, fun qa M38 n38 e38 => ⟨40, by decide, by decide +kernel, by decide, by omega, by omega, fun wa M46 n46 e46 => ?_⟩⟩⟩⟩⟩
  have ne : ∀ {M : k_M} {a b : Nat} {e : va_E}, M a = some e → M b = none → a ≠ b := fun h1 h2 z => by rw [z, h2] at h1; cases h1
  have s14 : M14 sa = some (kI G 16 (fun _ => 0)) := by rw [e14]; exact kup_same
  have s22 : M22 sa = some (kI G 16 (fun _ => 0)) := by rw [e22, kup_ne (ne s14 n22)]; exact s14
  have t22 : M22 ta = some (kJ G 34 (fun _ => 0)) := by rw [e22]; exact kup_same
  have s30 : M30 sa = some (kI G 16 (fun _ => 0)) := by rw [e30, kup_ne (ne s22 n30)]; exact s22
  have t30 : M30 ta = some (kJ G 34 (fun _ => 0)) := by rw [e30, kup_ne (ne t22 n30)]; exact t22
  have k30 : M30 ka = some (kJ G 17 (fun _ => 0)) := by rw [e30]; exact kup_same
  have s38 : M38 sa = some (kI G 16 (fun _ => 0)) := by rw [e38, kup_ne (ne s30 n38)]; exact s30
  have t38 : M38 ta = some (kJ G 34 (fun _ => 0)) := by rw [e38, kup_ne (ne t30 n38)]; exact t30
  have k38 : M38 ka = some (kJ G 17 (fun _ => 0)) := by rw [e38, kup_ne (ne k30 n38)]; exact k30
  have q38 : M38 qa = some (kI G 2 (fun _ => 0)) := by rw [e38]; exact kup_same
  have s46 : M46 sa = some (kI G 16 (fun _ => 0)) := by rw [e46, kup_ne (ne s38 n46)]; exact s38
  have t46 : M46 ta = some (kJ G 34 (fun _ => 0)) := by rw [e46, kup_ne (ne t38 n46)]; exact t38
  have k46 : M46 ka = some (kJ G 17 (fun _ => 0)) := by rw [e46, kup_ne (ne k38 n46)]; exact k38
  have q46 : M46 qa = some (kI G 2 (fun _ => 0)) := by rw [e46, kup_ne (ne q38 n46)]; exact q38
  have w46 : M46 wa = some (kI G 40 (fun _ => 0)) := by rw [e46]; exact kup_same
  have st : ∀ {M M' : k_M} {a : Nat} {e : va_E}, cF G M ad hi 16 kF0 → M a = none → M' = va_up M a (some e) → cF G M' ad hi 16 kF0 ∧ ∀ k, k < 354 → ad k ≠ a := fun hF hn e => by
    have h : ∀ k, k < 354 → ad k ≠ _ := fun k hk => by
      obtain ⟨v, hv⟩ := hF.some ho k hk
      exact ne hv hn
    exact ⟨hF.all ho (fun k hk => by rw [e]; exact kup_ne (h k hk)), h⟩
  obtain ⟨F14, a14⟩ := st hF n14 e14
  obtain ⟨F22, a22⟩ := st F14 n22 e22
  obtain ⟨F30, a30⟩ := st F22 n30 e30
  obtain ⟨F38, a38⟩ := st F30 n38 e38
  obtain ⟨F46, a46⟩ := st F38 n46 e46
  have hW : W5 G M46 o sa ta ka qa wa 16 kF0 (fun _ => 0) (fun _ => 0) (fun _ => 0) (fun _ => 0) (fun _ => 0) := ⟨ad, hi, hg, ho, Or.inl rfl, F46, h1, ⟨s46, t46, k46, q46, w46⟩, fun k hk => ⟨a14 k hk, a22 k hk, a30 k hk, a38 k hk, a46 k hk⟩⟩
  refine ⟨_, _, s46, kvin (j := 0) (by decide) (by decide), fun M54 e54 => ⟨29, ?_⟩⟩
  try rw [e_0] at e54
  have hW1 : W5 G M54 o sa ta ka qa wa 16 kF0 (upd (fun _ => 0) 0 65535) (fun _ => 0) (fun _ => 0) (fun _ => 0) (fun _ => 0) := by rw [e54]; exact hW.us _
  exact a_43 hb hL 28 0 (by omega) M54 16 _ _ kF0 _ _ _ _ _ (by omega) (by omega) hW1 LR_0
end LOOP
theorem whole_start {p : Program} {e : Env} {s : State} {m : MethodId} {below : List Frame} {meth : Method} {c : Code} (l : Launch) (hflags : l.flags = flags0) {b L : Nat} {xs : Nat → Int32} (hL : L ≤ 260) (C0 : lw_At p s m meth c b L xs) : W p l e room_1 s m #[Value.ref b] below meth c s.heap [] 0 0 (lw_Z below #[Value.ref b] s) (entryFrame m ([Value.ref b] : List Value).toArray 18) := by
  obtain ⟨hx, hb, hr, hml, hown0, hts0, hX, hbl, hlocks, hgv⟩ := id C0
  obtain ⟨G, hE, hR, e1, e2⟩ := l_kE hX hbl hts0 hgv
  exact law_walk l C0 hE hR (a_law e1.symm (by rw [e2]; exact hL))
