/-! ===== the State: become ===== -/
section S2D
variable {G : k_G} {M : k_M} {ad ad2 : Nat → Nat} {S S2 T : kS}
theorem s_becH {post : k_M → Prop} {i a q : Nat} {v : kSV} (h8 : i < 8) (hi : kInj ad) (hS : cSt G M ad T) (hv : cStp G M a q v) (hne : a ≠ ad (6 + 2 * i))
    (hp : ∀ M1 : k_M, (∀ a, (∀ i, i < 38 → a ≠ ad i) → M1 a = M a) → cSt G M1 ad (T.sh, va_up T.hs i v, T.ms, T.sn, T.mc, T.ac, T.ec) → post M1) : wp_X1_become G post (ad (6 + 2 * i)) a M := by
  obtain ⟨h0, h1, ⟨r2, h2, h2'⟩, ⟨r3, h3, h3'⟩, h4, h5, h6, h7⟩ := hS
  obtain ⟨ei, li, gi, i1, i2, i3, i4⟩ := h6 i h8
  obtain ⟨ev, lv, gv, v1, v2, v3, v4⟩ := hv
  refine s_X1_become i1 i2 v1 v2 hne (fun M1 g' f1 f2 f3 f4 => ?_)
  have m1 : ∀ n, n < 38 → n ≠ 6 + 2 * i → n ≠ 7 + 2 * i → M1 (ad n) = M (ad n) := fun n h b c => f1 _ (hi.ne h (by omega) c) (hi.ne h (by omega) b)
  refine hp M1 (fun a ha => f1 a (ha _ (by omega)) (ha _ (by omega))) ⟨(m1 0 (by omega) (by omega) (by omega)).trans h0, h1.kept (m1 1 (by omega) (by omega) (by omega)), ⟨r2, (m1 2 (by omega) (by omega) (by omega)).trans h2, h2'⟩, ⟨r3, (m1 3 (by omega) (by omega) (by omega)).trans h3, h3'⟩, h4.kept (m1 4 (by omega) (by omega) (by omega)), h5.kept (m1 5 (by omega) (by omega) (by omega)), fun n h => ?_, fun n h => (h7 n h).kept (m1 _ (by omega) (by omega) (by omega)) (m1 _ (by omega) (by omega) (by omega))⟩
  show cStp G M1 _ _ (va_up T.hs i v n)
  by_cases hn : n = i
  · subst hn
    rw [vup_s]
    exact ⟨ev, lv, g', f2, f3, fun c hc => (f4 c hc).trans (v3 c hc), v4⟩
  · rw [vup_n hn]
    exact (h6 n h).kept (m1 _ (by omega) (by omega) (by omega)) (m1 _ (by omega) (by omega) (by omega))
theorem s_becM {post : k_M → Prop} {i a q : Nat} {v : kSV} (h8 : i < 8) (hi : kInj ad) (hS : cSt G M ad T) (hv : cStp G M a q v) (hne : a ≠ ad (22 + 2 * i))
    (hp : ∀ M1 : k_M, (∀ a, (∀ i, i < 38 → a ≠ ad i) → M1 a = M a) → cSt G M1 ad (T.sh, T.hs, va_up T.ms i v, T.sn, T.mc, T.ac, T.ec) → post M1) : wp_X1_become G post (ad (22 + 2 * i)) a M := by
  obtain ⟨h0, h1, ⟨r2, h2, h2'⟩, ⟨r3, h3, h3'⟩, h4, h5, h6, h7⟩ := hS
  obtain ⟨ei, li, gi, i1, i2, i3, i4⟩ := h7 i h8
  obtain ⟨ev, lv, gv, v1, v2, v3, v4⟩ := hv
  refine s_X1_become i1 i2 v1 v2 hne (fun M1 g' f1 f2 f3 f4 => ?_)
  have m1 : ∀ n, n < 38 → n ≠ 22 + 2 * i → n ≠ 23 + 2 * i → M1 (ad n) = M (ad n) := fun n h b c => f1 _ (hi.ne h (by omega) c) (hi.ne h (by omega) b)
  refine hp M1 (fun a ha => f1 a (ha _ (by omega)) (ha _ (by omega))) ⟨(m1 0 (by omega) (by omega) (by omega)).trans h0, h1.kept (m1 1 (by omega) (by omega) (by omega)), ⟨r2, (m1 2 (by omega) (by omega) (by omega)).trans h2, h2'⟩, ⟨r3, (m1 3 (by omega) (by omega) (by omega)).trans h3, h3'⟩, h4.kept (m1 4 (by omega) (by omega) (by omega)), h5.kept (m1 5 (by omega) (by omega) (by omega)), fun n h => (h6 n h).kept (m1 _ (by omega) (by omega) (by omega)) (m1 _ (by omega) (by omega) (by omega)), fun n h => ?_⟩
  show cStp G M1 _ _ (va_up T.ms i v n)
  by_cases hn : n = i
  · subst hn
    rw [vup_s]
    exact ⟨ev, lv, g', f2, f3, fun c hc => (f4 c hc).trans (v3 c hc), v4⟩
  · rw [vup_n hn]
    exact (h7 n h).kept (m1 _ (by omega) (by omega) (by omega)) (m1 _ (by omega) (by omega) (by omega))
theorem cpy0 {f g : Nat → Int32} {n i : Nat} (h : i < n) : va_cpy f g 0 0 n i = f i := by
  rw [pk_cpy_in (by omega) (by omega)]
  congr 1
  omega
theorem s_X2_become {post : k_M → Prop} (hi : kInj ad) (hd : ∀ i j, i < 38 → j < 38 → ad2 j ≠ ad i) (hS : cSt G M ad S) (hS2 : cSt G M ad2 S2)
    (hp : ∀ M1 : k_M, (∀ a, (∀ i, i < 38 → a ≠ ad i) → M1 a = M a) → cSt G M1 ad S2 → post M1) : wp_X2_become G post (ad 0) (ad2 0) M := by
  have fr2 : ∀ M1 : k_M, (∀ a, (∀ i, i < 38 → a ≠ ad i) → M1 a = M a) → cSt G M1 ad2 S2 := fun M1 h => hS2.kept (fun k hk => h _ (fun i hi' => hd i k hi' hk))
  -- the end: messages are copied, then the rest
  have key2 : ∀ (j i : Nat), i + j = 8 → ∀ M1 : k_M, (∀ a, (∀ i, i < 38 → a ≠ ad i) → M1 a = M a) → cSt G M1 ad (S2.sh, S2.hs, (fun n => if n < i then S2.ms n else S.ms n), S2.sn, S.mc, S.ac, S.ec) → wp_X2_become_L61 G post (j + 1) (ad 0) (ad2 0) (nI i) M1 := by
    intro j
    induction j with
    | zero =>
      intro i hij M1 f1 hc
      have : i = 8 := by omega
      subst this
      rw [wp_X2_become_L61]
      refine ⟨fun _ => ?_, fun h0 => absurd (by decide) h0⟩
      have hs2 := fr2 M1 f1
      obtain ⟨h0, h1, ⟨r2, h2, h2'⟩, ⟨r3, h3, h3'⟩, h4, ⟨g5, h5, h5'⟩, h6, h7⟩ := hc
      obtain ⟨b0, -, -, -, -, ⟨k5, b5, b5'⟩, -, -⟩ := hs2
      refine ⟨_, _, b0, rfl, _, h0, by simp, fun M2 e2 => ?_⟩
      have m2 : ∀ a, a ≠ ad 0 → M2 a = M1 a := fun a h => by rw [e2, kup_ne h]
      have c0 := (m2 _ (hd 0 0 (by omega) (by omega))).trans b0
      refine ⟨_, _, c0, rfl, _, _, by rw [e2, kup_same], rfl, _, _, _, _, (m2 _ (hd 0 5 (by omega) (by omega))).trans b5, (m2 _ (hi.ne (by omega) (by omega) (by omega))).trans h5, by decide, by decide, by decide, by decide, by decide, fun M3 e3 => ?_⟩
      have m3 : ∀ a, a ≠ ad 0 → a ≠ ad 5 → M3 a = M1 a := fun a h h' => by rw [e3, kup_ne h']; exact m2 a h
      refine ⟨_, _, (m3 _ (hd 0 0 (by omega) (by omega)) (hd 5 0 (by omega) (by omega))).trans b0, rfl, _, by rw [e3, kup_ne (hi.ne (by omega) (by omega) (by omega)), e2, kup_same], by simp, fun M4 e4 => ?_⟩
      have m4 : ∀ a, a ≠ ad 0 → a ≠ ad 5 → M4 a = M1 a := fun a h h' => by rw [e4, kup_ne h]; exact m3 a h h'
      have n4 : ∀ k, k < 38 → k ≠ 0 → k ≠ 5 → M4 (ad k) = M1 (ad k) := fun k h a b => m4 _ (hi.ne h (by omega) a) (hi.ne h (by omega) b)
      refine hp M4 (fun a ha => by rw [m4 a (ha 0 (by omega)) (ha 5 (by omega))]; exact f1 a ha) ⟨by rw [e4, kup_same]; rfl, h1.kept (n4 1 (by omega) (by omega) (by omega)), ⟨r2, (n4 2 (by omega) (by omega) (by omega)).trans h2, h2'⟩, ⟨r3, (n4 3 (by omega) (by omega) (by omega)).trans h3, h3'⟩, h4.kept (n4 4 (by omega) (by omega) (by omega)), ⟨_, by rw [e4, kup_ne (hi.ne (by omega) (by omega) (by omega)), e3, kup_same], fun n h => ?_⟩, fun n h => (h6 n h).kept (n4 _ (by omega) (by omega) (by omega)) (n4 _ (by omega) (by omega) (by omega)), fun n h => ?_⟩
      · show va_cpy k5 g5 0 0 120 n = S2.ac n
        rw [cpy0 h]; exact b5' n h
      · have := (h7 n h).kept (n4 _ (by omega) (by omega) (by omega)) (n4 _ (by omega) (by omega) (by omega))
        have e : (if n < 8 then S2.ms n else S.ms n) = S2.ms n := if_pos h
        rw [← e]; exact this
    | succ j ih =>
      intro i hij M1 f1 hc
      rw [wp_X2_become_L61]
      refine ⟨fun h0 => absurd h0 (kge (N := 8) (by omega) (by decide)), fun _ => ?_⟩
      have hs2 := fr2 M1 f1
      have hc' := hc
      obtain ⟨h0, -, -, ⟨r3, h3, h3'⟩, -, -, -, h7⟩ := hc
      obtain ⟨b0, -, -, ⟨t3, b3, b3'⟩, -, -, -, b7⟩ := hs2
      obtain ⟨ei, li, gi, i1, -⟩ := h7 i (by omega)
      refine ⟨_, _, h0, rfl, _, _, _, h3, kvin (show i < 8 by omega) (by omega), k_at (h3' i (by omega)) (by omega), _, _, b0, rfl, _, _, _, b3, kvin (show i < 8 by omega) (by omega), k_at (b3' i (by omega)) (by omega), _, i1, ?_⟩
      refine s_becM (by omega) hi hc' (b7 i (by omega)) (hd _ _ (by omega) (by omega)) (fun M2 f2 hc2 => ?_)
      have := ih (i + 1) (by omega) M2 (fun a ha => (f2 a ha).trans (f1 a ha)) (hc2.ext (fun _ _ => rfl) (fun _ _ => rfl) (fun n hn => ?_) (fun _ _ => rfl) rfl (fun _ _ => rfl) rfl)
      · rw [← kns i] at this; exact this
      · show va_up (fun n => if n < i then S2.ms n else S.ms n) i (S2.ms i) n = if n < i + 1 then S2.ms n else S.ms n
        by_cases hni : n = i
        · subst hni; rw [vup_s, if_pos (by omega)]
        · rw [vup_n hni]
          have : (n < i + 1) ↔ (n < i) := by omega
          simp only [this]
  have key1 : ∀ (j i : Nat), i + j = 8 → ∀ M1 : k_M, (∀ a, (∀ i, i < 38 → a ≠ ad i) → M1 a = M a) → cSt G M1 ad (S2.sh, (fun n => if n < i then S2.hs n else S.hs n), S.ms, S.sn, S.mc, S.ac, S.ec) → wp_X2_become_L17 G post (j + 1) (ad 0) (ad2 0) (nI i) M1 := by
    intro j
    induction j with
    | zero =>
      intro i hij M1 f1 hc
      have : i = 8 := by omega
      subst this
      rw [wp_X2_become_L17]
      refine ⟨fun _ => ?_, fun h0 => absurd (by decide) h0⟩
      have hs2 := fr2 M1 f1
      obtain ⟨h0, h1, ⟨r2, h2, h2'⟩, ⟨r3, h3, h3'⟩, ⟨g4, h4, h4'⟩, h5, h6, h7⟩ := hc
      obtain ⟨b0, -, -, -, ⟨k4, b4, b4'⟩, -, -, -⟩ := hs2
      refine ⟨_, _, b0, rfl, _, _, h0, rfl, _, _, _, _, b4, h4, by decide, by decide, by decide, by decide, by decide, fun M2 e2 => ⟨9, ?_⟩⟩
      have m2 : ∀ a, a ≠ ad 4 → M2 a = M1 a := fun a h => by rw [e2, kup_ne h]
      have n2 : ∀ k, k < 38 → k ≠ 4 → M2 (ad k) = M1 (ad k) := fun k h a => m2 _ (hi.ne h (by omega) a)
      refine key2 8 0 (by omega) M2 (fun a ha => by rw [m2 a (ha 4 (by omega))]; exact f1 a ha) ⟨(n2 0 (by omega) (by omega)).trans h0, h1.kept (n2 1 (by omega) (by omega)), ⟨r2, (n2 2 (by omega) (by omega)).trans h2, h2'⟩, ⟨r3, (n2 3 (by omega) (by omega)).trans h3, h3'⟩, ⟨_, by rw [e2, kup_same], fun n h => ?_⟩, h5.kept (n2 5 (by omega) (by omega)), fun n h => ?_, fun n h => ?_⟩
      · show va_cpy k4 g4 0 0 8 n = S2.sn n
        rw [cpy0 h]; exact b4' n h
      · have := (h6 n h).kept (n2 _ (by omega) (by omega)) (n2 _ (by omega) (by omega))
        have e : (if n < 8 then S2.hs n else S.hs n) = S2.hs n := if_pos h
        rw [← e]; exact this
      · have := (h7 n h).kept (n2 _ (by omega) (by omega)) (n2 _ (by omega) (by omega))
        have e : (if n < 0 then S2.ms n else S.ms n) = S.ms n := if_neg (Nat.not_lt_zero n)
        show cStp G M2 _ _ (if n < 0 then S2.ms n else S.ms n)
        rw [e]; exact this
    | succ j ih =>
      intro i hij M1 f1 hc
      rw [wp_X2_become_L17]
      refine ⟨fun h0 => absurd h0 (kge (N := 8) (by omega) (by decide)), fun _ => ?_⟩
      have hs2 := fr2 M1 f1
      have hc' := hc
      obtain ⟨h0, -, ⟨r2, h2, h2'⟩, -, -, -, h6, -⟩ := hc
      obtain ⟨b0, -, ⟨t2, b2, b2'⟩, -, -, -, b6, -⟩ := hs2
      obtain ⟨ei, li, gi, i1, -⟩ := h6 i (by omega)
      refine ⟨_, _, h0, rfl, _, _, _, h2, kvin (show i < 8 by omega) (by omega), k_at (h2' i (by omega)) (by omega), _, _, b0, rfl, _, _, _, b2, kvin (show i < 8 by omega) (by omega), k_at (b2' i (by omega)) (by omega), _, i1, ?_⟩
      refine s_becH (by omega) hi hc' (b6 i (by omega)) (hd _ _ (by omega) (by omega)) (fun M2 f2 hc2 => ?_)
      have := ih (i + 1) (by omega) M2 (fun a ha => (f2 a ha).trans (f1 a ha)) (hc2.ext (fun _ _ => rfl) (fun n hn => ?_) (fun _ _ => rfl) (fun _ _ => rfl) rfl (fun _ _ => rfl) rfl)
      · rw [← kns i] at this; exact this
      · show va_up (fun n => if n < i then S2.hs n else S.hs n) i (S2.hs i) n = if n < i + 1 then S2.hs n else S.hs n
        by_cases hni : n = i
        · subst hni; rw [vup_s, if_pos (by omega)]
        · rw [vup_n hni]
          have : (n < i + 1) ↔ (n < i) := by omega
          simp only [this]
  unfold wp_X2_become
  obtain ⟨h0, ⟨g1, h1, h1'⟩, ⟨r2, h2, h2'⟩, ⟨r3, h3, h3'⟩, h4, h5, h6, h7⟩ := hS
  obtain ⟨b0, ⟨k1, b1, b1'⟩, -⟩ := hS2
  refine ⟨_, _, b0, rfl, _, _, h0, rfl, _, _, _, _, b1, h1, by decide, by decide, by decide, by decide, by decide, fun M1 e1 => ⟨9, ?_⟩⟩
  have m1 : ∀ a, a ≠ ad 1 → M1 a = M a := fun a h => by rw [e1, kup_ne h]
  have n1 : ∀ k, k < 38 → k ≠ 1 → M1 (ad k) = M (ad k) := fun k h a => m1 _ (hi.ne h (by omega) a)
  refine key1 8 0 (by omega) M1 (fun a ha => m1 a (ha 1 (by omega))) ⟨(n1 0 (by omega) (by omega)).trans h0, ⟨_, by rw [e1, kup_same], fun n h => ?_⟩, ⟨r2, (n1 2 (by omega) (by omega)).trans h2, h2'⟩, ⟨r3, (n1 3 (by omega) (by omega)).trans h3, h3'⟩, h4.kept (n1 4 (by omega) (by omega)), h5.kept (n1 5 (by omega) (by omega)), fun n h => ?_, fun n h => (h7 n h).kept (n1 _ (by omega) (by omega)) (n1 _ (by omega) (by omega))⟩
  · show va_cpy k1 g1 0 0 8 n = S2.sh n
    rw [cpy0 h]; exact b1' n h
  · have := (h6 n h).kept (n1 _ (by omega) (by omega)) (n1 _ (by omega) (by omega))
    show cStp G M1 _ _ (if n < 0 then S2.hs n else S.hs n)
    rw [if_neg (Nat.not_lt_zero n)]; exact this
end S2D
