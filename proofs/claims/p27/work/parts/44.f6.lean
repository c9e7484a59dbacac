/-! ===== the class: of, printed ===== -/
theorem php : ∀ (n : Nat) (f : Nat → Nat), (∀ i, i < n + 1 → f i < n) → ∃ i j, i < j ∧ j < n + 1 ∧ f i = f j := by
  intro n
  induction n with
  | zero => intro f h; exact absurd (h 0 (by omega)) (Nat.not_lt_zero _)
  | succ n ih =>
    intro f h
    by_cases hx : ∃ i, i < n + 1 ∧ f i = f (n + 1)
    · obtain ⟨i, hi, e⟩ := hx
      exact ⟨i, n + 1, hi, by omega, e⟩
    · have hne : ∀ i, i < n + 1 → f i ≠ f (n + 1) := fun i hi e => hx ⟨i, hi, e⟩
      have hv := h (n + 1) (by omega)
      obtain ⟨i, j, hij, hj, e⟩ := ih (fun i => if f i < f (n + 1) then f i else f i - 1) (fun i hi => by
        have h1 := h i (by omega)
        have h2 := hne i hi
        split <;> omega)
      refine ⟨i, j, hij, by omega, ?_⟩
      have h1 := hne i (by omega)
      have h2 := hne j hj
      split at e <;> split at e <;> omega
theorem hOk.sur {hi : Nat → Nat} (h : hOk hi) {j : Nat} (h1 : 1 ≤ j) (h6 : j ≤ 6) : ∃ i, i < 6 ∧ hi i = j := by
  by_cases hx : ∃ i, i < 6 ∧ hi i = j
  · exact hx
  · have hne : ∀ i, i < 6 → hi i ≠ j := fun i hi' e => hx ⟨i, hi', e⟩
    obtain ⟨a, b, hab, hb, e⟩ := php 6 (fun i => if i < 6 then hi i - 1 else j - 1) (fun i hi' => by
      split
      · rename_i q; have := h.1 i q; omega
      · omega)
    rw [if_pos (by omega)] at e
    split at e
    · rename_i q
      have p1 := h.1 a (by omega)
      have p2 := h.1 b q
      have := h.2 a b (by omega) q (by omega)
      omega
    · have p1 := h.1 a (by omega)
      have := hne a (by omega)
      omega
def xof (F : kF) (x w : Int32) : Int32 :=
  if inH F.S.sh x = false then -1 else if w.toInt = 0 then F.S.sh x.toNatClampNeg else if w.toInt = 1 then nI (kCt (bt (F.S.sh x.toNatClampNeg)) 32) else if w.toInt = 2 then gIn (F.S.hs x.toNatClampNeg).1 65535 16 else if w.toInt = 3 then kSum (F.S.hs x.toNatClampNeg).1 16 else if w.toInt = 4 then nI (kCnt (F.S.hs x.toNatClampNeg)) else if w.toInt = 5 then kLast (F.S.hs x.toNatClampNeg).2 120 else if w.toInt = 6 then nI (kKts (F.S.hs x.toNatClampNeg)) else if w.toInt = 7 then nI (tx (F.S.hs x.toNatClampNeg).1 4 0).length else -2
def xprinted (F : kF) (x w : Int32) : Int32 :=
  if inH F.S.sh x = false then -1 else if inR (tx (F.S.hs x.toNatClampNeg).1 4 0).length w = true then nI ((tx (F.S.hs x.toNatClampNeg).1 4 0).getD w.toNatClampNeg 0) else -1
/-- heights below 1000 -/
def hBd (F : kF) : Prop := ∀ i c, i < 8 → F.S.sh i ≠ 0 → c < 16 → uI ((F.S.hs i).1 c) < 1000
def xPostT (G : k_G) (M : k_M) (ad : Nat → Nat) (r : Int32 × kF) (post : Int32 → k_M → Prop) : Prop :=
  ∀ (M1 : k_M) (ad' hi' : Nat → Nat) (cap' : Nat), kFr M M1 ad → gInj ad' → (∀ k, k ≠ 353 → ad' k = ad k) → (ad' 353 = ad 353 ∨ M (ad' 353) = none) → hOk hi' → capOk cap' → cF G M1 ad' hi' cap' r.2 → post r.1 M1
theorem kLast_cong {p q : Nat → Bool} : ∀ {n : Nat}, (∀ i, i < n → p i = q i) → kLast p n = kLast q n := by
  intro n
  induction n with
  | zero => intro _; rfl
  | succ n ih => intro h; rw [kLast, kLast, h n (by omega), ih (fun i hi => h i (by omega))]
theorem tx_cong {f g : Nat → Int32} (h : ∀ c, c < 16 → f c = g c) : ∀ (d a : Nat), a + 2 ^ d ≤ 16 → tx f d a = tx g d a := by
  intro d
  induction d with
  | zero => intro a ha; show digs (uI (f a)) = digs (uI (g a)); rw [h a (by omega)]
  | succ d ih =>
    intro a ha
    have hpos : 0 < 2 ^ d := Nat.pos_of_ne_zero (by simp)
    have e2 : 2 ^ (d + 1) = 2 ^ d + 2 ^ d := by rw [Nat.pow_succ]; omega
    show (if leaf f a (2 ^ (d + 1)) = true then digs (uI (f a)) else [40] ++ tx f d a ++ [44] ++ tx f d (a + 2 ^ d) ++ [41]) = (if leaf g a (2 ^ (d + 1)) = true then digs (uI (g a)) else [40] ++ tx g d a ++ [44] ++ tx g d (a + 2 ^ d) ++ [41])
    rw [h a (by omega), leaf_cong (by omega) ha h, ih a (by omega), ih (a + 2 ^ d) (by omega)]
theorem digs_lt {v : Nat} (hv : v < 1000) : ∀ c ∈ digs v, c < 256 := by
  intro c hc
  unfold digs at hc
  split at hc
  · simp at hc; omega
  · split at hc
    · simp at hc; omega
    · simp at hc; omega
theorem tx_lt {f : Nat → Int32} (h : ∀ c, c < 16 → uI (f c) < 1000) : ∀ (d a : Nat), a + 2 ^ d ≤ 16 → ∀ c ∈ tx f d a, c < 256 := by
  intro d
  induction d with
  | zero => intro a ha; exact digs_lt (h a (by omega))
  | succ d ih =>
    intro a ha
    have hpos : 0 < 2 ^ d := Nat.pos_of_ne_zero (by simp)
    have e2 : 2 ^ (d + 1) = 2 ^ d + 2 ^ d := by rw [Nat.pow_succ]; omega
    have i1 := ih a (by omega)
    have i2 := ih (a + 2 ^ d) (by omega)
    have i3 := digs_lt (h a (by omega))
    show ∀ c ∈ (if leaf f a (2 ^ (d + 1)) = true then digs (uI (f a)) else [40] ++ tx f d a ++ [44] ++ tx f d (a + 2 ^ d) ++ [41]), c < 256
    split
    · exact i3
    · intro c hc
      simp only [List.mem_append, List.mem_singleton] at hc
      rcases hc with (((hc | hc) | hc) | hc) | hc
      · omega
      · exact i1 c hc
      · omega
      · exact i2 c hc
      · omega
section F6
variable {G : k_G} {M : k_M} {ad hi : Nat → Nat} {cap : Nat} {F : kF} {post : Int32 → k_M → Prop}
theorem cSt.some {ad : Nat → Nat} {S : kS} (h : cSt G M ad S) : ∀ k, k < 38 → ∃ e, M (ad k) = some e := by
  intro k hk
  obtain ⟨h0, ⟨g1, h1, -⟩, ⟨r2, h2, -⟩, ⟨r3, h3, -⟩, ⟨g4, h4, -⟩, ⟨g5, h5, -⟩, h6, h7⟩ := h
  rcases (show k = 0 ∨ k = 1 ∨ k = 2 ∨ k = 3 ∨ k = 4 ∨ k = 5 ∨ (6 ≤ k ∧ k < 22) ∨ 22 ≤ k by omega) with rfl | rfl | rfl | rfl | rfl | rfl | q | q
  · exact ⟨_, h0⟩
  · exact ⟨_, h1⟩
  · exact ⟨_, h2⟩
  · exact ⟨_, h3⟩
  · exact ⟨_, h4⟩
  · exact ⟨_, h5⟩
  · obtain ⟨e, l, g, a, b, -⟩ := h6 ((k - 6) / 2) (by omega)
    rcases (show k = 6 + 2 * ((k - 6) / 2) ∨ k = 7 + 2 * ((k - 6) / 2) by omega) with z | z
    · rw [z]; exact ⟨_, a⟩
    · rw [z]; exact ⟨_, b⟩
  · obtain ⟨e, l, g, a, b, -⟩ := h7 ((k - 22) / 2) (by omega)
    rcases (show k = 22 + 2 * ((k - 22) / 2) ∨ k = 23 + 2 * ((k - 22) / 2) by omega) with z | z
    · rw [z]; exact ⟨_, a⟩
    · rw [z]; exact ⟨_, b⟩
theorem cF.some (ho : hOk hi) (h : cF G M ad hi cap F) : ∀ k, k < 354 → ∃ e, M (ad k) = some e := by
  intro k hk
  obtain ⟨h0, ⟨r1, h1, -⟩, ⟨r2, h2, -⟩, ⟨g, h3, -⟩, ⟨⟨a, b, c, d, p0⟩, ⟨g1, p1, -⟩, ⟨e, l, p2⟩, hf, p3⟩, ⟨e5, l5, g5, h5, h5'⟩, ⟨mb, n, f, t0, t1, -⟩, h7, h8, h9⟩ := h
  by_cases hk2 : k < 342
  · have ek : k = 38 * (k / 38) + k % 38 := by omega
    have hm : k % 38 < 38 := Nat.mod_lt _ (by decide)
    rcases (show k / 38 = 0 ∨ (1 ≤ k / 38 ∧ k / 38 ≤ 6) ∨ (7 ≤ k / 38 ∧ k / 38 < 9) by omega) with z | z | z
    · have := h7.some (k % 38) hm
      rw [ek, z]; exact this
    · obtain ⟨i, i6, ei⟩ := ho.sur z.1 z.2
      have := (h8 i i6).some (k % 38) hm
      rw [ei] at this
      rw [ek]; exact this
    · have := (h9 (k / 38 - 7) (by omega)).some (k % 38) hm
      rw [show 7 + (k / 38 - 7) = k / 38 by omega] at this
      rw [ek]; exact this
  · rcases (show k = 342 ∨ k = 343 ∨ k = 344 ∨ k = 345 ∨ k = 346 ∨ k = 347 ∨ k = 348 ∨ k = 349 ∨ k = 350 ∨ k = 351 ∨ k = 352 ∨ k = 353 by omega) with rfl | rfl | rfl | rfl | rfl | rfl | rfl | rfl | rfl | rfl | rfl | rfl
    · exact ⟨_, h0⟩
    · exact ⟨_, h1⟩
    · exact ⟨_, h2⟩
    · exact ⟨_, h3⟩
    · exact ⟨_, p0⟩
    · exact ⟨_, p1⟩
    · exact ⟨_, p2⟩
    · exact ⟨_, p3⟩
    · exact ⟨_, h5⟩
    · exact ⟨_, h5'⟩
    · exact ⟨_, t0⟩
    · exact ⟨_, t1⟩
theorem cF.text {M1 : k_M} {b' cap' : Nat} {tl : List Nat} (hg : gInj ad) (ho : hOk hi) (h : cF G M ad hi cap F) (t : trF M M1 (ad 352) (ad 353) b') (T : cTt G M1 (ad 352) b' cap' tl) :
    cF G M1 (va_up ad 353 b') hi cap' F ∧ gInj (va_up ad 353 b') ∧ kFr M M1 ad ∧ (∀ k, k ≠ 353 → va_up ad 353 b' k = ad k) ∧ (va_up ad 353 b' 353 = ad 353 ∨ M (va_up ad 353 b' 353) = none) := by
  have ea : ∀ k, k ≠ 353 → va_up ad 353 b' k = ad k := fun k hk => vup_n hk
  have ek : va_up ad 353 b' 353 = b' := vup_s
  have kk : ∀ k, k < 352 → M1 (ad k) = M (ad k) := fun k hk => by
    obtain ⟨e, he⟩ := h.some ho k (by omega)
    rw [he]
    exact t.1 _ e he (hg.ne (by omega) (by omega) (by omega)) (hg.ne (by omega) (by omega) (by omega))
  have est : ∀ j, j < 9 → ∀ S, cSt G M1 (stA ad j) S → cSt G M1 (stA (va_up ad 353 b') j) S := by
    intro j hj S hS
    obtain ⟨h0, h1, h2, h3, h4, h5, h6, h7⟩ := hS
    have en : ∀ k, k < 38 → stA (va_up ad 353 b') j k = stA ad j k := fun k hk => ea _ (by omega)
    refine ⟨?_, ?_, ?_, ?_, ?_, ?_, ?_, ?_⟩
    · rw [en 0 (by omega), en 1 (by omega), en 2 (by omega), en 3 (by omega), en 4 (by omega), en 5 (by omega)]; exact h0
    · rw [en 1 (by omega)]; exact h1
    · obtain ⟨r, a, b⟩ := h2
      refine ⟨r, by rw [en 2 (by omega)]; exact a, fun i hi => ?_⟩
      rw [en _ (by omega)]; exact b i hi
    · obtain ⟨r, a, b⟩ := h3
      refine ⟨r, by rw [en 3 (by omega)]; exact a, fun i hi => ?_⟩
      rw [en _ (by omega)]; exact b i hi
    · rw [en 4 (by omega)]; exact h4
    · rw [en 5 (by omega)]; exact h5
    · intro i hi
      rw [en _ (by omega), en _ (by omega)]; exact h6 i hi
    · intro i hi
      rw [en _ (by omega), en _ (by omega)]; exact h7 i hi
  refine ⟨?_, ?_, ?_, ea, ?_⟩
  · have hx := h
    obtain ⟨h0, ⟨r1, h1, h1'⟩, ⟨r2, h2, h2'⟩, ⟨g, h3, h3'⟩, hp, ⟨e5, l5, g5, h5, h5'⟩, -, h7, h8, h9⟩ := hx
    have hp1 := hp.kept (M1 := M1) (fun k hk => kk _ (by omega))
    obtain ⟨mb, f, q0, q1, q2, q3, -⟩ := T
    refine ⟨?_, ⟨r1, ?_, ?_⟩, ⟨r2, ?_, ?_⟩, ⟨g, ?_, h3'⟩, ?_, ⟨e5, l5, g5, ?_, ?_⟩, ⟨mb, tl.length, f, ?_, ?_, q2, q3⟩, est 0 (by omega) _ (h7.kept (fun k hk => kk _ (by omega))), fun i hi' => est _ (by have := (ho.1 i hi').2; omega) _ ((h8 i hi').kept (fun k hk => kk _ (by have := (ho.1 i hi').2; omega))), fun i hi' => est _ (by omega) _ ((h9 i hi').kept (fun k hk => kk _ (by omega)))⟩
    · rw [ea 342 (by omega), ea 0 (by omega), ea 343 (by omega), ea 344 (by omega), ea 345 (by omega), ea 346 (by omega), ea 350 (by omega), ea 352 (by omega)]
      exact (kk 342 (by omega)).trans h0
    · rw [ea 343 (by omega)]; exact (kk 343 (by omega)).trans h1
    · intro i hi'
      rw [ea _ (by have := (ho.1 i hi').2; omega)]; exact h1' i hi'
    · rw [ea 344 (by omega)]; exact (kk 344 (by omega)).trans h2
    · intro i hi'
      rw [ea _ (by omega)]; exact h2' i hi'
    · rw [ea 345 (by omega)]; exact (kk 345 (by omega)).trans h3
    · obtain ⟨z0, z1, z2, z3⟩ := hp1
      refine ⟨?_, ?_, ?_, ?_⟩
      · show ∃ a b c d, M1 (va_up ad 353 b' 346) = Option.some (kO 1 [.ref (va_up ad 353 b' 347), .ref (va_up ad 353 b' 348), _, _, _, _, _])
        rw [ea 346 (by omega), ea 347 (by omega), ea 348 (by omega)]; exact z0
      · show ∃ g, M1 (va_up ad 353 b' 347) = _ ∧ _
        rw [ea 347 (by omega)]; exact z1
      · show ∃ e l, M1 (va_up ad 353 b' 348) = Option.some (kO 2 [.ref (va_up ad 353 b' 349), _, _])
        rw [ea 348 (by omega), ea 349 (by omega)]; exact z2
      · show ∃ g, M1 (va_up ad 353 b' 349) = _
        rw [ea 349 (by omega)]; exact z3
    · rw [ea 350 (by omega), ea 351 (by omega)]; exact (kk 350 (by omega)).trans h5
    · rw [ea 351 (by omega)]; exact (kk 351 (by omega)).trans h5'
    · rw [ea 352 (by omega), ek]; exact q0
    · rw [ek]; exact q1
  · intro i j hi' hj e
    have hnew : ∀ k, k < 353 → b' ≠ ad k := fun k hk z => by
      rcases t.2 with y | y
      · rw [y] at z; exact hg.ne (by omega) (by omega) (by omega : 353 ≠ k) z
      · obtain ⟨e', he'⟩ := h.some ho k (by omega)
        rw [z, he'] at y; cases y
    by_cases hi3 : i = 353
    · by_cases hj3 : j = 353
      · omega
      · rw [hi3, ek, ea j hj3] at e
        exact absurd e (hnew j (by omega))
    · by_cases hj3 : j = 353
      · rw [hj3, ek, ea i hi3] at e
        exact absurd e.symm (hnew i (by omega))
      · rw [ea i hi3, ea j hj3] at e
        exact hg i j hi' hj e
  · exact fun a e he hk => t.1 a e he (hk 352 (by omega)) (hk 353 (by omega))
  · rw [ek]; exact t.2
theorem s_textOf {j : Nat} {postq : Option Nat → k_M → Prop} (hg : gInj ad) (ho : hOk hi) (hk : capOk cap) (hj : j < 8) (hb : ∀ c, c < 16 → uI ((F.S.hs j).1 c) < 1000) (hF : cF G M ad hi cap F)
    (hp : ∀ (M1 : k_M) (b' cap' : Nat), trF M M1 (ad 352) (ad 353) b' → capOk cap' → cTt G M1 (ad 352) b' cap' (tx (F.S.hs j).1 4 0) → postq (some (ad 352)) M1) : wp_X3_textOf G 62 8804 postq (ad 342) (ad (6 + 2 * j)) M := by
  obtain ⟨q0, -, -, -, -, -, q6, -⟩ := hF.st
  obtain ⟨e, l, g, s1, s2, s3, s4⟩ := q6 j hj
  have e1 : stA ad 0 (6 + 2 * j) = ad (6 + 2 * j) := by show ad (38 * 0 + (6 + 2 * j)) = _; congr 1; omega
  have e2 : stA ad 0 (7 + 2 * j) = ad (7 + 2 * j) := by show ad (38 * 0 + (7 + 2 * j)) = _; congr 1; omega
  rw [e1, e2] at s1
  rw [e2] at s2
  obtain ⟨mb, n, f, t0, t1, t2, t3⟩ := hF.txt
  have hcap : cap ≤ 142 := by rcases hk with z | z | z | z <;> omega
  have n2 : ad (7 + 2 * j) ≠ ad 352 := hg.ne (by omega) (by omega) (by omega)
  have n3 : ad (7 + 2 * j) ≠ ad 353 := hg.ne (by omega) (by omega) (by omega)
  have n1 : ad (6 + 2 * j) ≠ ad 352 := hg.ne (by omega) (by omega) (by omega)
  unfold wp_X3_textOf
  refine ⟨_, _, hF.1, rfl, _, t0, 1, 142, by omega, by omega, t_setLength0 hk hF.txt (fun M1 f1 T1 => ?_)⟩
  have k1 : ∀ k, k < 354 → k ≠ 352 → M1 (ad k) = M (ad k) := fun k hk' hne => f1 _ (hg.ne hk' (by omega) hne)
  have m1 := (f1 _ n1).trans s1
  have m2 := (f1 _ n2).trans s2
  refine ⟨_, _, (k1 342 (by omega) (by omega)).trans hF.1, rfl, _, m1, 61, 8662, by omega, by omega, t_print m1 m2 n2 n3 (fun c hc => by rw [s3 c hc]; exact hb c hc) hk T1 (fun M2 b' cap' t k T2 => ?_)⟩
  have h342 := t.1 _ _ ((k1 342 (by omega) (by omega)).trans hF.1) (hg.ne (by omega) (by omega) (by omega)) (hg.ne (by omega) (by omega) (by omega))
  refine ⟨_, _, h342, rfl, by omega, by omega, ?_⟩
  refine hp M2 b' cap' ⟨fun a e' he' y1 y2 => t.1 a e' ((f1 a y1).trans he') y1 y2, ?_⟩ k (by rw [← tx_cong s3 4 0 (by decide)]; exact T2)
  rcases t.2 with z | z
  · exact Or.inl z
  · refine Or.inr ?_
    by_cases hb' : b' = ad 352
    · obtain ⟨e', he'⟩ := T1.oo
      rw [hb', he'] at z; cases z
    · rw [← f1 b' hb']; exact z
theorem s_X3_of {x w : Int32} (hg : gInj ad) (ho : hOk hi) (hk : capOk cap) (hb : hBd F) (hF : cF G M ad hi cap F) (hp : xPostT G M ad (xof F x w, F) post) : wp_X3_of G 62 8804 post (ad 342) x w M := by
  have hst := hF.st
  have same : ∀ r, (∀ (h : xof F x w = r), post r M) → xof F x w = r → post r M := fun r h e => h e
  have keep : post (xof F x w) M := hp M ad hi cap kFr.refl hg (fun _ _ => rfl) (Or.inl rfl) ho hk hF
  unfold wp_X3_of
  refine ⟨_, _, hF.1, rfl, _, hst.1, by omega, by omega, s_X2_isHelper (ad := stA ad 0) hst ⟨fun h => ?_, fun h => ?_⟩⟩
  · obtain ⟨j, hj, rfl, hjl⟩ := inH_ex (k01_nz h)
    unfold xof at keep hp
    rw [if_neg (by rw [k01_nz h]; decide), kcl (show j < 2 ^ 31 by omega)] at keep hp
    obtain ⟨q0, ⟨r1, q1, q1'⟩, ⟨r2, q2, q2'⟩, -, -, -, q6, -⟩ := hst
    obtain ⟨e1, l1, g1, s1, s2, s3, s4⟩ := q6 j hj
    refine ⟨_, _, hF.1, rfl, _, _, q0, rfl, _, _, _, q2, kvin hj (by omega), k_at (q2' j hj) (by omega), fun h2 => ?_, fun h2 => ?_, fun h2 => ?_, fun h2 => ?_, fun h2 => ?_, fun h2 => ?_, fun h2 => ?_, fun h2 => ?_, fun h2 => ?_⟩
    · rw [if_pos h2] at keep
      refine ⟨_, _, hF.1, rfl, _, _, q0, rfl, _, _, q1, kvin hj (by omega), by omega, by omega, ?_⟩
      rw [kcl (by omega), q1' j hj]; exact keep
    · rw [if_neg (by omega), if_pos h2] at keep
      refine ⟨_, _, hF.1, rfl, _, _, q0, rfl, _, _, q1, kvin hj (by omega), by omega, by omega, ?_⟩
      rw [kcl (by omega), q1' j hj]
      exact s_bitCountI ⟨by omega, by omega, keep⟩
    · rw [if_neg (by omega), if_neg (by omega), if_pos h2] at keep
      refine ⟨_, s1, by omega, by omega, s_X1_greatestIn s1 s2 ⟨by omega, by omega, ?_⟩⟩
      rw [gIn_cong s3]; exact keep
    · rw [if_neg (by omega), if_neg (by omega), if_neg (by omega), if_pos h2] at keep
      refine ⟨_, s1, by omega, by omega, s_X1_sum s1 s2 ⟨by omega, by omega, ?_⟩⟩
      rw [kSum_cong s3]; exact keep
    · rw [if_neg (by omega), if_neg (by omega), if_neg (by omega), if_neg (by omega), if_pos h2] at keep
      refine ⟨_, s1, by omega, by omega, s_X1_knownCount s1 ⟨by omega, by omega, ?_⟩⟩
      rw [kCt_cong s4]; exact keep
    · rw [if_neg (by omega), if_neg (by omega), if_neg (by omega), if_neg (by omega), if_neg (by omega), if_pos h2] at keep
      refine ⟨_, s1, by omega, by omega, s_X1_latestKnown s1 ⟨by omega, by omega, ?_⟩⟩
      rw [kLast_cong (fun i hi => s4 i (by omega))]; exact keep
    · rw [if_neg (by omega), if_neg (by omega), if_neg (by omega), if_neg (by omega), if_neg (by omega), if_neg (by omega), if_pos h2] at keep
      refine ⟨_, s1, by omega, by omega, s_X1_knots s1 s2 ⟨by omega, by omega, ?_⟩⟩
      rw [kKn_cong s3 4 0 (by decide)]; exact keep
    · rw [if_neg (by omega), if_neg (by omega), if_neg (by omega), if_neg (by omega), if_neg (by omega), if_neg (by omega), if_neg (by omega), if_pos h2] at hp
      have ea : stA ad 0 (6 + 2 * j) = ad (6 + 2 * j) := by show ad (38 * 0 + (6 + 2 * j)) = _; congr 1; omega
      refine ⟨_, hF.1, 62, 8804, by omega, by omega, ?_⟩
      rw [ea]
      refine s_textOf hg ho hk hj (fun c hc => hb j c hj hjl hc) hF (fun M1 b' cap' t k T => ⟨_, rfl, ?_⟩)
      obtain ⟨z1, z2, z3, z4, z5⟩ := hF.text hg ho t T
      obtain ⟨_, _, g0, -⟩ := id T
      exact ⟨_, g0, by omega, by omega, t_length T ⟨by omega, by omega, hp M1 _ hi cap' z3 z2 z4 z5 ho k z1⟩⟩
    · rw [if_neg (by omega), if_neg (by omega), if_neg (by omega), if_neg (by omega), if_neg (by omega), if_neg (by omega), if_neg (by omega), if_neg (by omega)] at keep
      exact ⟨by omega, by omega, keep⟩
  · unfold xof at keep
    rw [if_pos (k01_z.mp h)] at keep
    exact ⟨by omega, by omega, keep⟩
theorem s_X3_printed {x w : Int32} (hg : gInj ad) (ho : hOk hi) (hk : capOk cap) (hb : hBd F) (hF : cF G M ad hi cap F) (hp : xPostT G M ad (xprinted F x w, F) post) : wp_X3_printed G 62 8804 post (ad 342) x w M := by
  have hst := hF.st
  unfold wp_X3_printed
  unfold xprinted at hp
  refine ⟨_, _, hF.1, rfl, _, hst.1, by omega, by omega, s_X2_isHelper (ad := stA ad 0) hst ⟨fun h => ?_, fun h => ?_⟩⟩
  · obtain ⟨j, hj, rfl, hjl⟩ := inH_ex (k01_nz h)
    rw [if_neg (by rw [k01_nz h]; decide), kcl (show j < 2 ^ 31 by omega)] at hp
    obtain ⟨q0, -, ⟨r2, q2, q2'⟩, -, -, -, q6, -⟩ := hst
    have ea : stA ad 0 (6 + 2 * j) = ad (6 + 2 * j) := by show ad (38 * 0 + (6 + 2 * j)) = _; congr 1; omega
    have q2j := q2' j hj
    rw [ea] at q2j
    have hbj := fun c (hc : c < 16) => hb j c hj hjl hc
    refine ⟨_, _, hF.1, rfl, _, _, q0, rfl, _, _, _, q2, kvin hj (by omega), k_at q2j (by omega), _, hF.1, 62, 8804, by omega, by omega, s_textOf hg ho hk hj hbj hF (fun M1 b' cap' t k T => ⟨_, rfl, ?_⟩)⟩
    obtain ⟨z1, z2, z3, z4, z5⟩ := hF.text hg ho t T
    obtain ⟨_, _, g0, -⟩ := id T
    have fin := hp M1 _ hi cap' z3 z2 z4 z5 ho k z1
    have hlen : (tx (F.S.hs j).1 4 0).length ≤ 93 := tx_len _ 4 0
    generalize hl : tx (F.S.hs j).1 4 0 = tl at *
    refine ⟨fun hneg => ⟨by omega, by omega, ?_⟩, fun hge => ⟨_, g0, by omega, by omega, t_length T ⟨fun hlt => ?_, fun hlt => ⟨by omega, by omega, ?_⟩⟩⟩⟩
    · rw [show inR tl.length w = false by simp [inR, hneg]] at fin; exact fin
    · have hin : inR tl.length w = true := by
        unfold inR
        rw [decide_eq_true hge, decide_eq_true (p := ¬ nI tl.length ≤ w) (k_nle.mpr hlt)]
        rfl
      rw [if_pos hin] at fin
      obtain ⟨i, hi', rfl⟩ := inR_ex (by omega) hin
      rw [kcl (by omega)] at fin
      refine ⟨_, g0, by omega, by omega, t_charAt k hi' ?_ T ⟨by omega, by omega, fin⟩⟩
      have hmem := tx_lt hbj 4 0 (by decide)
      rw [hl] at hmem
      rw [List.getD_eq_getElem?_getD, List.getElem?_eq_getElem hi']
      exact hmem _ (List.getElem_mem hi')
    · rw [show inR tl.length w = false by
        unfold inR
        rw [decide_eq_false (p := ¬ nI tl.length ≤ w) (fun z => hlt (k_nle.mp z))]
        simp] at fin
      exact fin
  · rw [if_pos (k01_z.mp h)] at hp
    exact ⟨by omega, by omega, hp M ad hi cap kFr.refl hg (fun _ _ => rfl) (Or.inl rfl) ho hk hF⟩
end F6
