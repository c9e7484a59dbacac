/-! ===== the State: its changes ===== -/
theorem k_at {r : Nat → Option Nat} {j v : Nat} (h : r j = some v) (hj : j < 2 ^ 31) : r (nI j).toNatClampNeg = some v := by rw [kcl hj]; exact h
theorem kvin {j n : Nat} (h : j < n) (hn : n < 2 ^ 31) : vp_in (nI j) n := vp_in_nI h hn
theorem upd_s {f : Nat → Int32} {k : Nat} {x : Int32} : upd f k x k = x := if_pos rfl
theorem upd_n {f : Nat → Int32} {k i : Nat} {x : Int32} (h : i ≠ k) : upd f k x i = f i := if_neg h
theorem vup_s {α : Type} {f : Nat → α} {k : Nat} {x : α} : va_up f k x k = x := if_pos rfl
theorem vup_n {α : Type} {f : Nat → α} {k i : Nat} {x : α} (h : i ≠ k) : va_up f k x i = f i := if_neg h
def stay (sh : Int32) : Int32 := lowC sh ((nI (kCt (bt sh) 32) + (1 : Int32)) / (2 : Int32)) 16
def splS (S : kS) (j k : Nat) : kS := (upd (upd S.sh j (stay (S.sh j))) k (S.sh j &&& (stay (S.sh j) ^^^ (-1 : Int32))), va_up S.hs k (S.hs j), S.ms, S.sn, S.mc, S.ac, S.ec)
def mrg (a b : kSV) : kSV := (mx a.1 b.1, fun i => a.2 i || b.2 i)
def mrgS (S : kS) (i j : Nat) : kS := (upd (upd S.sh j (S.sh j ||| S.sh i)) i 0, va_up S.hs j (mrg (S.hs j) (S.hs i)), S.ms, S.sn, S.mc, S.ac, S.ec)
def rais (s : kSV) (sh : Int32) : Nat → Int32 := fun c => if bt sh c = true then rz s.1 sh else s.1 c
def evS (S : kS) (j : Nat) : kS := (S.sh, va_up S.hs j (rais (S.hs j) (S.sh j), fun i => (S.hs j).2 i || decide (i = S.ec)), S.ms, S.sn, S.mc, upd S.ac S.ec (nI j), S.ec + 1)
def sndS (S : kS) (j : Nat) : kS := (S.sh, S.hs, va_up S.ms S.mc (S.hs j), upd S.sn S.mc (nI j), S.mc + 1, S.ac, S.ec)
def tkS (S : kS) (j m : Nat) : kS := (S.sh, va_up S.hs j (mrg (S.hs j) (S.ms m)), S.ms, S.sn, S.mc, S.ac, S.ec)
theorem gIn_cong {f g : Nat → Int32} {sh : Int32} : ∀ {n : Nat}, (∀ c, c < n → f c = g c) → gIn f sh n = gIn g sh n := by
  intro n
  induction n with
  | zero => intro _; rfl
  | succ n ih => intro h; rw [gIn, gIn, ih (fun c hc => h c (by omega)), h n (by omega)]
theorem lvl_cong {f g : Nat → Int32} {sh hh : Int32} {n : Nat} (h : ∀ c, c < n → f c = g c) : lvl f sh hh n = lvl g sh hh n := kAll_cong (fun i hi => by rw [h i hi])
theorem rz_cong {f g : Nat → Int32} {sh : Int32} (h : ∀ c, c < 16 → f c = g c) : rz f sh = rz g sh := by
  unfold rz
  rw [gIn_cong h, lvl_cong h]
section S2B
variable {G : k_G} {M : k_M} {ad : Nat → Nat} {S : kS}
theorem s_X2_split {post : k_M → Prop} {j k : Nat} (hj : j < 8) (hk : k < 8) (hjk : j ≠ k) (hi : kInj ad) (hS : cSt G M ad S)
    (hp : ∀ M1 : k_M, (∀ a, (∀ i, i < 38 → a ≠ ad i) → M1 a = M a) → cSt G M1 ad (splS S j k) → post M1) : wp_X2_split G post (ad 0) (nI j) (nI k) M := by
  obtain ⟨h0, ⟨g, hg, hge⟩, ⟨r2, h2, h2'⟩, ⟨r3, h3, h3'⟩, h4, h5, h6, h7⟩ := hS
  unfold wp_X2_split
  refine ⟨_, _, h0, rfl, _, _, hg, kvin hj (by omega), s_bitCountI (s_X2_lowestCells ⟨_, _, h0, rfl, _, _, hg, kvin hj (by omega), fun M1 e1 => ?_⟩)⟩
  rw [kcl (i := j) (by omega), hge j hj] at e1
  have m1 : ∀ i, i < 38 → i ≠ 1 → M1 (ad i) = M (ad i) := fun i h h' => by rw [e1, kup_ne (hi.ne h (by omega) h')]
  refine ⟨_, _, (m1 0 (by omega) (by omega)).trans h0, rfl, _, _, by rw [e1, kup_same], kvin hk (by omega), fun M2 e2 => ?_⟩
  rw [kcl (i := j) (by omega), kcl (i := k) (by omega), hge j hj] at e2
  have m2 : ∀ i, i < 38 → i ≠ 1 → M2 (ad i) = M (ad i) := fun i h h' => by rw [e2, kup_ne (hi.ne h (by omega) h')]; exact m1 i h h'
  obtain ⟨ek, lk, gk, k1, k2, k3, k4⟩ := h6 k hk
  obtain ⟨ej, lj, gj, j1, j2, j3, j4⟩ := h6 j hj
  refine ⟨_, _, (m2 0 (by omega) (by omega)).trans h0, rfl, _, _, _, (m2 2 (by omega) (by omega)).trans h2, kvin hk (by omega), k_at (h2' k hk) (by omega), _, _, (m2 0 (by omega) (by omega)).trans h0, rfl, _, _, _, (m2 2 (by omega) (by omega)).trans h2, kvin hj (by omega), k_at (h2' j hj) (by omega), _, (m2 _ (by omega) (by omega)).trans k1, ?_⟩
  refine s_X1_become ((m2 _ (by omega) (by omega)).trans k1) ((m2 _ (by omega) (by omega)).trans k2) ((m2 _ (by omega) (by omega)).trans j1) ((m2 _ (by omega) (by omega)).trans j2) (hi.ne (by omega) (by omega) (by omega)) (fun M3 g' f1 f2 f3 f4 => ?_)
  have m3 : ∀ i, i < 38 → i ≠ 1 → i ≠ 6 + 2 * k → i ≠ 7 + 2 * k → M3 (ad i) = M (ad i) := fun i h a b c => by
    rw [f1 _ (hi.ne h (by omega) c) (hi.ne h (by omega) b)]; exact m2 i h a
  have n1 : M3 (ad 1) = some (kI G 8 (upd (upd g j (stay (S.sh j))) k (S.sh j &&& (stay (S.sh j) ^^^ (-1 : Int32))))) := by
    rw [f1 _ (hi.ne (by omega) (by omega) (by omega)) (hi.ne (by omega) (by omega) (by omega)), e2, kup_same]; rfl
  refine hp M3 (fun a ha => ?_) ⟨(m3 0 (by omega) (by omega) (by omega) (by omega)).trans h0, ⟨_, n1, fun i h => ?_⟩, ⟨r2, (m3 2 (by omega) (by omega) (by omega) (by omega)).trans h2, h2'⟩, ⟨r3, (m3 3 (by omega) (by omega) (by omega) (by omega)).trans h3, h3'⟩, h4.kept (m3 4 (by omega) (by omega) (by omega) (by omega)), h5.kept (m3 5 (by omega) (by omega) (by omega) (by omega)), fun i h => ?_, fun i h => (h7 i h).kept (m3 _ (by omega) (by omega) (by omega) (by omega)) (m3 _ (by omega) (by omega) (by omega) (by omega))⟩
  · rw [f1 a (ha _ (by omega)) (ha _ (by omega)), e2, kup_ne (ha 1 (by omega)), e1, kup_ne (ha 1 (by omega))]
  · show upd (upd g j _) k _ i = upd (upd S.sh j _) k _ i
    by_cases hik : i = k
    · subst hik; rw [upd_s, upd_s]
    · rw [upd_n hik, upd_n hik]
      by_cases hij : i = j
      · subst hij; rw [upd_s, upd_s]
      · rw [upd_n hij, upd_n hij]; exact hge i h
  · show cStp G M3 _ _ (va_up S.hs k (S.hs j) i)
    by_cases hik : i = k
    · subst hik
      rw [vup_s]
      exact ⟨ej, lj, g', f2, f3, fun c hc => (f4 c hc).trans (j3 c hc), j4⟩
    · rw [vup_n hik]
      exact (h6 i h).kept (m3 _ (by omega) (by omega) (by omega) (by omega)) (m3 _ (by omega) (by omega) (by omega) (by omega))
theorem s_X2_merge {post : k_M → Prop} {i j : Nat} (hi8 : i < 8) (hj : j < 8) (hij : i ≠ j) (hi : kInj ad) (hS : cSt G M ad S)
    (hp : ∀ M1 : k_M, (∀ a, (∀ i, i < 38 → a ≠ ad i) → M1 a = M a) → cSt G M1 ad (mrgS S i j) → post M1) : wp_X2_merge G post (ad 0) (nI i) (nI j) M := by
  obtain ⟨h0, ⟨g, hg, hge⟩, ⟨r2, h2, h2'⟩, ⟨r3, h3, h3'⟩, h4, h5, h6, h7⟩ := hS
  unfold wp_X2_merge
  obtain ⟨ei, li, gi, i1, i2, i3, i4⟩ := h6 i hi8
  obtain ⟨ej, lj, gj, j1, j2, j3, j4⟩ := h6 j hj
  refine ⟨_, _, h0, rfl, _, _, _, h2, kvin hj (by omega), k_at (h2' j hj) (by omega), _, _, h0, rfl, _, _, _, h2, kvin hi8 (by omega), k_at (h2' i hi8) (by omega), _, j1, ?_⟩
  refine s_X1_takeOver j1 j2 i1 i2 (hi.ne (by omega) (by omega) (by omega)) (hi.ne (by omega) (by omega) (by omega)) (fun M1 g' f1 f2 f3 f4 => ?_)
  have m1 : ∀ n, n < 38 → n ≠ 6 + 2 * j → n ≠ 7 + 2 * j → M1 (ad n) = M (ad n) := fun n h b c => f1 _ (hi.ne h (by omega) c) (hi.ne h (by omega) b)
  have a0 := (m1 0 (by omega) (by omega) (by omega)).trans h0
  have a1 := (m1 1 (by omega) (by omega) (by omega)).trans hg
  refine ⟨_, _, a0, rfl, _, _, a1, kvin hj (by omega), _, _, a0, rfl, _, _, a1, kvin hi8 (by omega), _, _, a1, kvin hj (by omega), fun M2 e2 => ?_⟩
  rw [kcl (i := j) (by omega), kcl (i := i) (by omega), hge j hj, hge i hi8] at e2
  refine ⟨_, _, by rw [e2, kup_ne (hi.ne (by omega) (by omega) (by omega))]; exact a0, rfl, _, _, by rw [e2, kup_same], kvin hi8 (by omega), fun M3 e3 => ?_⟩
  rw [kcl (i := i) (by omega)] at e3
  have m3 : ∀ n, n < 38 → n ≠ 1 → n ≠ 6 + 2 * j → n ≠ 7 + 2 * j → M3 (ad n) = M (ad n) := fun n h a b c => by
    rw [e3, kup_ne (hi.ne h (by omega) a), e2, kup_ne (hi.ne h (by omega) a)]; exact m1 n h b c
  have m3' : ∀ n, n < 38 → n ≠ 1 → M3 (ad n) = M1 (ad n) := fun n h a => by
    rw [e3, kup_ne (hi.ne h (by omega) a), e2, kup_ne (hi.ne h (by omega) a)]
  refine hp M3 (fun a ha => ?_) ⟨(m3 0 (by omega) (by omega) (by omega) (by omega)).trans h0, ⟨_, by rw [e3, kup_same], fun n h => ?_⟩, ⟨r2, (m3 2 (by omega) (by omega) (by omega) (by omega)).trans h2, h2'⟩, ⟨r3, (m3 3 (by omega) (by omega) (by omega) (by omega)).trans h3, h3'⟩, h4.kept (m3 4 (by omega) (by omega) (by omega) (by omega)), h5.kept (m3 5 (by omega) (by omega) (by omega) (by omega)), fun n h => ?_, fun n h => (h7 n h).kept (m3 _ (by omega) (by omega) (by omega) (by omega)) (m3 _ (by omega) (by omega) (by omega) (by omega))⟩
  · rw [e3, kup_ne (ha 1 (by omega)), e2, kup_ne (ha 1 (by omega))]; exact f1 a (ha _ (by omega)) (ha _ (by omega))
  · show upd (upd g j _) i 0 n = upd (upd S.sh j _) i 0 n
    by_cases hni : n = i
    · subst hni; rw [upd_s, upd_s]
    · rw [upd_n hni, upd_n hni]
      by_cases hnj : n = j
      · subst hnj; rw [upd_s, upd_s]
      · rw [upd_n hnj, upd_n hnj]; exact hge n h
  · show cStp G M3 _ _ (va_up S.hs j (mrg (S.hs j) (S.hs i)) n)
    by_cases hnj : n = j
    · subst hnj
      rw [vup_s]
      refine ⟨_, _, g', (m3' _ (by omega) (by omega)).trans f2, (m3' _ (by omega) (by omega)).trans f3, fun c hc => ?_, fun b hb => ?_⟩
      · rw [f4 c hc]; show mx gj gi c = mx _ _ c; unfold mx; rw [j3 c hc, i3 c hc]
      · rw [kn_or, j4 b hb, i4 b hb]; rfl
    · rw [vup_n hnj]
      exact (h6 n h).kept (m3 _ (by omega) (by omega) (by omega) (by omega)) (m3 _ (by omega) (by omega) (by omega) (by omega))
theorem s_X2_addEvent {post : Int32 → k_M → Prop} {j : Nat} (hj : j < 8) (hec : S.ec < 120) (hi : kInj ad) (hS : cSt G M ad S)
    (hp : ∀ M1 : k_M, (∀ a, (∀ i, i < 38 → a ≠ ad i) → M1 a = M a) → cSt G M1 ad (evS S j) → post (nI S.ec) M1) : wp_X2_addEvent G post (ad 0) (nI j) M := by
  obtain ⟨h0, ⟨g, hg, hge⟩, ⟨r2, h2, h2'⟩, ⟨r3, h3, h3'⟩, h4, ⟨g5, h5, h5'⟩, h6, h7⟩ := hS
  unfold wp_X2_addEvent
  obtain ⟨ej, lj, gj, j1, j2, j3, j4⟩ := h6 j hj
  refine ⟨_, _, h0, rfl, _, _, h0, rfl, _, _, _, h2, kvin hj (by omega), k_at (h2' j hj) (by omega), _, _, h0, rfl, _, _, hg, kvin hj (by omega), _, j1, ?_⟩
  rw [kcl (i := j) (by omega), hge j hj]
  refine s_X1_raise j1 j2 (fun M1 g' f1 f3 f4 => ?_)
  have m1 : ∀ n, n < 38 → n ≠ 7 + 2 * j → M1 (ad n) = M (ad n) := fun n h c => f1 _ (hi.ne h (by omega) c)
  have a0 := (m1 0 (by omega) (by omega)).trans h0
  have b1 := (m1 _ (by omega) (by omega)).trans j1
  refine ⟨_, _, a0, rfl, _, _, _, (m1 2 (by omega) (by omega)).trans h2, kvin hj (by omega), h2' j hj, _, b1, s_X1_learn (by omega) b1 (fun M2 e' l' k1 k2 k3 => ?_)⟩
  have m2 : ∀ n, n < 38 → n ≠ 6 + 2 * j → n ≠ 7 + 2 * j → M2 (ad n) = M (ad n) := fun n h b c => by rw [k1 _ (hi.ne h (by omega) b)]; exact m1 n h c
  have a2 := (m2 0 (by omega) (by omega) (by omega)).trans h0
  refine ⟨_, _, a2, rfl, _, _, (m2 5 (by omega) (by omega) (by omega)).trans h5, kvin hec (by omega), fun M3 e3 => ?_⟩
  rw [kcl (by omega)] at e3
  have a3 := (show M3 (ad 0) = M2 (ad 0) by rw [e3, kup_ne (hi.ne (by omega) (by omega) (by omega))]).trans a2
  refine ⟨_, _, a3, rfl, _, a3, by simp, fun M4 e4 => ?_⟩
  have m4 : ∀ n, n < 38 → n ≠ 0 → n ≠ 5 → n ≠ 6 + 2 * j → n ≠ 7 + 2 * j → M4 (ad n) = M (ad n) := fun n h z5 z0 b c => by
    rw [e4, kup_ne (hi.ne h (by omega) z5), e3, kup_ne (hi.ne h (by omega) z0)]; exact m2 n h b c
  have m4' : ∀ n, n < 38 → n ≠ 0 → n ≠ 5 → M4 (ad n) = M2 (ad n) := fun n h z5 z0 => by
    rw [e4, kup_ne (hi.ne h (by omega) z5), e3, kup_ne (hi.ne h (by omega) z0)]
  refine hp M4 (fun a ha => ?_) ⟨?_, ⟨g, (m4 1 (by omega) (by omega) (by omega) (by omega) (by omega)).trans hg, hge⟩, ⟨r2, (m4 2 (by omega) (by omega) (by omega) (by omega) (by omega)).trans h2, h2'⟩, ⟨r3, (m4 3 (by omega) (by omega) (by omega) (by omega) (by omega)).trans h3, h3'⟩, h4.kept (m4 4 (by omega) (by omega) (by omega) (by omega) (by omega)), ⟨_, by rw [e4, kup_ne (hi.ne (by omega) (by omega) (by omega)), e3, kup_same], fun n h => ?_⟩, fun n h => ?_, fun n h => (h7 n h).kept (m4 _ (by omega) (by omega) (by omega) (by omega) (by omega)) (m4 _ (by omega) (by omega) (by omega) (by omega) (by omega))⟩
  · rw [e4, kup_ne (ha 0 (by omega)), e3, kup_ne (ha 5 (by omega)), k1 a (ha _ (by omega))]; exact f1 a (ha _ (by omega))
  · rw [e4, kup_same, kns]; rfl
  · show upd g5 S.ec (nI j) n = upd S.ac S.ec (nI j) n
    by_cases hn : n = S.ec
    · subst hn; rw [upd_s, upd_s]
    · rw [upd_n hn, upd_n hn]; exact h5' n h
  · show cStp G M4 _ _ (va_up S.hs j _ n)
    by_cases hnj : n = j
    · subst hnj
      rw [vup_s]
      refine ⟨_, _, g', (m4' _ (by omega) (by omega) (by omega)).trans k2, ?_, fun c hc => ?_, fun b hb => ?_⟩
      · rw [m4' _ (by omega) (by omega) (by omega), k1 _ (hi.ne (by omega) (by omega) (by omega))]; exact f3
      · rw [f4 c hc, rz_cong j3, j3 c hc]; rfl
      · rw [k3 b hb, j4 b hb]
    · rw [vup_n hnj]
      exact (h6 n h).kept (m4 _ (by omega) (by omega) (by omega) (by omega) (by omega)) (m4 _ (by omega) (by omega) (by omega) (by omega) (by omega))
theorem s_X2_addMessage {post : Int32 → k_M → Prop} {j : Nat} (hj : j < 8) (hmc : S.mc < 8) (hi : kInj ad) (hS : cSt G M ad S)
    (hp : ∀ M1 : k_M, (∀ a, (∀ i, i < 38 → a ≠ ad i) → M1 a = M a) → cSt G M1 ad (sndS S j) → post (nI S.mc) M1) : wp_X2_addMessage G post (ad 0) (nI j) M := by
  obtain ⟨h0, h1, ⟨r2, h2, h2'⟩, ⟨r3, h3, h3'⟩, ⟨g4, h4, h4'⟩, h5, h6, h7⟩ := hS
  unfold wp_X2_addMessage
  obtain ⟨ej, lj, gj, j1, j2, j3, j4⟩ := h6 j hj
  obtain ⟨em, lm, gm, k1, k2, k3, k4⟩ := h7 S.mc hmc
  refine ⟨_, _, h0, rfl, _, _, h0, rfl, _, _, _, h3, kvin hmc (by omega), k_at (h3' _ hmc) (by omega), _, _, h0, rfl, _, _, _, h2, kvin hj (by omega), k_at (h2' j hj) (by omega), _, k1, ?_⟩
  refine s_X1_become k1 k2 j1 j2 (hi.ne (by omega) (by omega) (by omega)) (fun M1 g' f1 f2 f3 f4 => ?_)
  have m1 : ∀ n, n < 38 → n ≠ 22 + 2 * S.mc → n ≠ 23 + 2 * S.mc → M1 (ad n) = M (ad n) := fun n h b c => f1 _ (hi.ne h (by omega) c) (hi.ne h (by omega) b)
  have a0 := (m1 0 (by omega) (by omega) (by omega)).trans h0
  refine ⟨_, _, a0, rfl, _, _, (m1 4 (by omega) (by omega) (by omega)).trans h4, kvin hmc (by omega), fun M2 e2 => ?_⟩
  rw [kcl (by omega)] at e2
  have a2 := (show M2 (ad 0) = M1 (ad 0) by rw [e2, kup_ne (hi.ne (by omega) (by omega) (by omega))]).trans a0
  refine ⟨_, _, a2, rfl, _, a2, by simp, fun M3 e3 => ?_⟩
  have m3' : ∀ n, n < 38 → n ≠ 0 → n ≠ 4 → M3 (ad n) = M1 (ad n) := fun n h a b => by rw [e3, kup_ne (hi.ne h (by omega) a), e2, kup_ne (hi.ne h (by omega) b)]
  have m3 : ∀ n, n < 38 → n ≠ 0 → n ≠ 4 → n ≠ 22 + 2 * S.mc → n ≠ 23 + 2 * S.mc → M3 (ad n) = M (ad n) := fun n h a b c d => (m3' n h a b).trans (m1 n h c d)
  refine hp M3 (fun a ha => ?_) ⟨?_, h1.kept (m3 1 (by omega) (by omega) (by omega) (by omega) (by omega)), ⟨r2, (m3 2 (by omega) (by omega) (by omega) (by omega) (by omega)).trans h2, h2'⟩, ⟨r3, (m3 3 (by omega) (by omega) (by omega) (by omega) (by omega)).trans h3, h3'⟩, ⟨_, by rw [e3, kup_ne (hi.ne (by omega) (by omega) (by omega)), e2, kup_same], fun n h => ?_⟩, h5.kept (m3 5 (by omega) (by omega) (by omega) (by omega) (by omega)), fun n h => (h6 n h).kept (m3 _ (by omega) (by omega) (by omega) (by omega) (by omega)) (m3 _ (by omega) (by omega) (by omega) (by omega) (by omega)), fun n h => ?_⟩
  · rw [e3, kup_ne (ha 0 (by omega)), e2, kup_ne (ha 4 (by omega))]; exact f1 a (ha _ (by omega)) (ha _ (by omega))
  · rw [e3, kup_same, kns]; rfl
  · show upd g4 S.mc (nI j) n = upd S.sn S.mc (nI j) n
    by_cases hn : n = S.mc
    · subst hn; rw [upd_s, upd_s]
    · rw [upd_n hn, upd_n hn]; exact h4' n h
  · show cStp G M3 _ _ (va_up S.ms S.mc (S.hs j) n)
    by_cases hn : n = S.mc
    · subst hn
      rw [vup_s]
      exact ⟨ej, lj, g', (m3' _ (by omega) (by omega) (by omega)).trans f2, (m3' _ (by omega) (by omega) (by omega)).trans f3, fun c hc => (f4 c hc).trans (j3 c hc), j4⟩
    · rw [vup_n hn]
      exact (h7 n h).kept (m3 _ (by omega) (by omega) (by omega) (by omega) (by omega)) (m3 _ (by omega) (by omega) (by omega) (by omega) (by omega))
/-- receive's first half: a helper takes a message's stamp over -/
theorem s_take {post : k_M → Prop} {j m : Nat} (hj : j < 8) (hm : m < 8) (hi : kInj ad) (hS : cSt G M ad S)
    (hp : ∀ M1 : k_M, (∀ a, (∀ i, i < 38 → a ≠ ad i) → M1 a = M a) → cSt G M1 ad (tkS S j m) → post M1) : wp_X1_takeOver G post (ad (6 + 2 * j)) (ad (22 + 2 * m)) M := by
  obtain ⟨h0, h1, ⟨r2, h2, h2'⟩, ⟨r3, h3, h3'⟩, h4, h5, h6, h7⟩ := hS
  obtain ⟨ej, lj, gj, j1, j2, j3, j4⟩ := h6 j hj
  obtain ⟨em, lm, gm, k1, k2, k3, k4⟩ := h7 m hm
  refine s_X1_takeOver j1 j2 k1 k2 (hi.ne (by omega) (by omega) (by omega)) (hi.ne (by omega) (by omega) (by omega)) (fun M1 g' f1 f2 f3 f4 => ?_)
  have m1 : ∀ n, n < 38 → n ≠ 6 + 2 * j → n ≠ 7 + 2 * j → M1 (ad n) = M (ad n) := fun n h b c => f1 _ (hi.ne h (by omega) c) (hi.ne h (by omega) b)
  refine hp M1 (fun a ha => f1 a (ha _ (by omega)) (ha _ (by omega))) ⟨(m1 0 (by omega) (by omega) (by omega)).trans h0, h1.kept (m1 1 (by omega) (by omega) (by omega)), ⟨r2, (m1 2 (by omega) (by omega) (by omega)).trans h2, h2'⟩, ⟨r3, (m1 3 (by omega) (by omega) (by omega)).trans h3, h3'⟩, h4.kept (m1 4 (by omega) (by omega) (by omega)), h5.kept (m1 5 (by omega) (by omega) (by omega)), fun n h => ?_, fun n h => (h7 n h).kept (m1 _ (by omega) (by omega) (by omega)) (m1 _ (by omega) (by omega) (by omega))⟩
  show cStp G M1 _ _ (va_up S.hs j _ n)
  by_cases hnj : n = j
  · subst hnj
    rw [vup_s]
    refine ⟨_, _, g', f2, f3, fun c hc => ?_, fun b hb => ?_⟩
    · rw [f4 c hc]; show mx gj gm c = mx _ _ c; unfold mx; rw [j3 c hc, k3 c hc]
    · rw [kn_or, j4 b hb, k4 b hb]; rfl
  · rw [vup_n hnj]
    exact (h6 n h).kept (m1 _ (by omega) (by omega) (by omega)) (m1 _ (by omega) (by omega) (by omega))
end S2B
