/-! ===== the reference: the fault of the pad ===== -/
theorem fl_fail {ch : Nat → Nat} {n i : Nat} {s : kP} (h : prun ch i = some s) (hi : i ≤ n) (h1 : i < n → pstep (ch i) s = none) (h2 : i = n → ¬ (s.sz = 16 ∧ s.sg ≠ 0)) : pFault ch n = nI i := by
  have none_ : ∀ k, k < i → (prun ch (k + 1)).isNone = false := by
    intro k hk
    cases hq : prun ch (k + 1) with
    | some _ => rfl
    | none =>
      have := prun_none hq (i - (k + 1))
      rw [show k + 1 + (i - (k + 1)) = i by omega, h] at this
      cases this
  by_cases hin : i = n
  · subst hin
    unfold pFault
    rw [kMin_no none_, if_neg (Nat.lt_irrefl i), h]
    exact if_neg (h2 rfl)
  · have hlt : i < n := by omega
    have hr : prun ch (i + 1) = none := by rw [prun, h]; exact h1 hlt
    have em : kMin (fun i => (prun ch (i + 1)).isNone) n = i := kMin_is hlt (by show (prun ch (i + 1)).isNone = true; rw [hr]; rfl) none_
    unfold pFault
    rw [em, if_pos hlt]
theorem fl_good {ch : Nat → Nat} {n : Nat} {s : kP} (h : prun ch n = some s) (h1 : s.sz = 16) (h2 : s.sg ≠ 0) : pFault ch n = -6 ∧ pHf ch n = s.hf := by
  have none_ : ∀ k, k < n → (prun ch (k + 1)).isNone = false := by
    intro k hk
    cases hq : prun ch (k + 1) with
    | some _ => rfl
    | none =>
      have := prun_none hq (n - (k + 1))
      rw [show k + 1 + (n - (k + 1)) = n by omega, h] at this
      cases this
  refine ⟨?_, ?_⟩
  · unfold pFault
    rw [kMin_no none_, if_neg (Nat.lt_irrefl n), h]
    exact if_pos ⟨h1, h2⟩
  · unfold pHf
    rw [h]
theorem d_open : ∀ dep, dep < 4 → ∀ fi, fi < 16 → fi % 2 ^ (4 - dep) = 0 → fi / 2 ^ (3 - dep) % 2 = 0 := by decide +kernel
theorem d_close : ∀ dep, dep < 5 → ∀ fi, fi < 16 → fi % 2 ^ (4 - dep) = 0 → fi / 2 ^ (4 - dep) % 2 = 1 → 2 ^ (4 - dep) ≤ fi ∧ ∀ i, i < dep - 1 → (fi - 2 ^ (4 - dep)) / 2 ^ (3 - i) % 2 = fi / 2 ^ (3 - i) % 2 := by decide +kernel
theorem d_comma1 : ∀ d, d < 4 → ∀ fi, fi < 16 → fi % 2 ^ (3 - d) = 0 → fi / 2 ^ (3 - d) % 2 = 0 → fi + 2 ^ (3 - d) < 16 ∧ (fi + 2 ^ (3 - d)) / 2 ^ (3 - d) % 2 = 1 := by decide +kernel
theorem d_comma2 : ∀ d, d < 4 → ∀ fi, fi < 16 → fi % 2 ^ (3 - d) = 0 → fi / 2 ^ (3 - d) % 2 = 0 → ∀ i, i < d → (fi + 2 ^ (3 - d)) / 2 ^ (3 - i) % 2 = fi / 2 ^ (3 - i) % 2 := by decide +kernel
theorem d_comma (dep : Nat) (h5 : dep < 5) (fi : Nat) (h16 : fi < 16) (h0 : 0 < dep) (h1 : fi % 2 ^ (4 - dep) = 0) (h2 : fi / 2 ^ (4 - dep) % 2 = 0) : fi + 2 ^ (4 - dep) < 16 ∧ (fi + 2 ^ (4 - dep)) / 2 ^ (4 - dep) % 2 = 1 ∧ ∀ i, i < dep - 1 → (fi + 2 ^ (4 - dep)) / 2 ^ (3 - i) % 2 = fi / 2 ^ (3 - i) % 2 := by
  obtain ⟨d, rfl⟩ : ∃ d, dep = d + 1 := ⟨dep - 1, by omega⟩
  have e : 4 - (d + 1) = 3 - d := by omega
  rw [e] at h1 h2 ⊢
  obtain ⟨a, b⟩ := d_comma1 d (by omega) fi h16 h1 h2
  exact ⟨a, b, fun i hi => d_comma2 d (by omega) fi h16 h1 h2 i (by omega)⟩
theorem d_pow : ∀ dep, dep < 5 → (2 ^ (4 - dep) = 1 ∨ 2 ^ (4 - dep) = 2 ∨ 2 ^ (4 - dep) = 4 ∨ 2 ^ (4 - dep) = 8 ∨ 2 ^ (4 - dep) = 16) ∧ (2 ^ (4 - dep) = 16 ↔ dep = 0) ∧ (2 ^ (4 - dep) = 1 ↔ dep = 4) ∧ (0 < dep → 2 ^ (4 - dep) * 2 = 2 ^ (4 - (dep - 1))) := by decide +kernel
section G12
variable {G : k_G} {M : k_M} {am : Nat → Nat} {ch : Nat → Nat} {n rc : Nat} {tl : Int32} {pd : Nat → Int32} {post : Int32 → k_M → Prop}
def FI (G : k_G) (M M1 : k_M) (am : Nat → Nat) (s : kP) (dep b : Nat) : Prop :=
  (∀ a, a ≠ am 7 → a ≠ am 8 → a ≠ am 9 → M1 a = M a) ∧ (∃ to, M1 (am 7) = some (kI G 21 to) ∧ ∀ c, c < b → to (1 + c) = s.hf c) ∧
  (∃ z, M1 (am 8) = some (kI G 8 z) ∧ ∀ i, i < dep → z i = nI (2 ^ (4 - i))) ∧ ∃ h, M1 (am 9) = some (kI G 8 h) ∧ ∀ i, i < dep → h i = nI (s.fi / 2 ^ (3 - i) % 2)
/-- a sign of the pad -/
def chr (ch : Nat → Nat) (n i : Nat) : Int32 := if i < n then nI (ch i) else -1
theorem chr_is {i c : Nat} (hc : c < 128) (hch : ∀ i, i < n → ch i < 128) : chr ch n i = nI c ↔ i < n ∧ ch i = c := by
  unfold chr
  by_cases h : i < n
  · rw [if_pos h]
    have := hch i h
    constructor
    · intro z; exact ⟨h, (nI_eq (by omega) (by omega)).mp z⟩
    · rintro ⟨-, z⟩; rw [z]
  · rw [if_neg h]
    constructor
    · intro z
      exact absurd (show nI c < 0 by rw [← z]; decide) (nI_pos (by omega))
    · rintro ⟨z, -⟩; exact absurd z h
theorem chr_dg {i : Nat} (hch : ∀ i, i < n → ch i < 128) : (decide (¬ chr ch n i < 48) && decide (¬ 57 < chr ch n i)) = decide (i < n ∧ 48 ≤ ch i ∧ ch i ≤ 57) := by
  unfold chr
  by_cases h : i < n
  · rw [if_pos h]
    have := hch i h
    have e1 : (nI (ch i) < 48) ↔ ch i < 48 := nI_ltI (b := 48) (by omega) (by omega)
    have e2 : ((57 : Int32) < nI (ch i)) ↔ 57 < ch i := nI_ltI (a := 57) (by omega) (by omega)
    have d1 : decide (¬ nI (ch i) < 48) = decide (48 ≤ ch i) := decide_eq_decide.mpr ((not_congr e1).trans (by omega))
    have d2 : decide (¬ (57 : Int32) < nI (ch i)) = decide (ch i ≤ 57) := decide_eq_decide.mpr ((not_congr e2).trans (by omega))
    rw [d1, d2, ← Bool.decide_and]
    exact decide_eq_decide.mpr (by omega)
  · rw [if_neg h, decide_eq_false (p := i < n ∧ 48 ≤ ch i ∧ ch i ≤ 57) (fun z => h z.1)]
    decide
theorem g_char {i : Nat} {M1 : k_M} (hn : n ≤ 64) (hi : i ≤ 64) (h0 : M1 (am 0) = some (kO 5 (mO am rc n tl))) (h5 : M1 (am 5) = some (kI G 64 pd)) (hpd : ∀ i, i < n → pd i = nI (ch i)) (hp : post (chr ch n i) M1) : wp_X4_character G post (am 0) (nI i) M1 := by
  unfold wp_X4_character
  unfold chr at hp
  refine ⟨_, _, h0, rfl, fun h => ?_, fun h => ?_⟩
  · have : ¬ i < n := by
      have := (nI_leI (by omega) (by omega)).mp h
      omega
    rw [if_neg this] at hp; exact hp
  · have : i < n := by
      rcases Nat.lt_or_ge i n with q | q
      · exact q
      · exact absurd (nI_le q (by omega)) h
    rw [if_pos this] at hp
    refine ⟨_, _, h0, rfl, _, _, h5, kvin (by omega) (by omega), ?_⟩
    rw [kcl (by omega), hpd i this]; exact hp
/-- what is known at the end -/
def fPost (G : k_G) (M : k_M) (am : Nat → Nat) (ch : Nat → Nat) (n : Nat) (post : Int32 → k_M → Prop) : Prop :=
  ∀ M1 : k_M, (∀ a, a ≠ am 7 → a ≠ am 8 → a ≠ am 9 → M1 a = M a) → (∃ to, M1 (am 7) = some (kI G 21 to) ∧ (pFault ch n = -6 → ∀ c, c < 16 → to (1 + c) = pHf ch n c)) → (∃ z, M1 (am 8) = some (kI G 8 z)) → (∃ h, M1 (am 9) = some (kI G 8 h)) → post (pFault ch n) M1
theorem f_end {M1 : k_M} {s : kP} {dep b i : Nat} (hn : n ≤ 64) (hF : FI G M M1 am s dep b) (hi : i ≤ n) (hr : prun ch i = some s) (h1 : i < n → pstep (ch i) s = none) (h2 : i = n → ¬ (s.sz = 16 ∧ s.sg ≠ 0)) (hp : fPost G M am ch n post) : post (nI i) M1 := by
  have e := fl_fail hr hi h1 h2
  obtain ⟨f, ⟨to, t1, t2⟩, ⟨z, z1, z2⟩, h, x1, x2⟩ := hF
  have := hp M1 f ⟨to, t1, fun y => ?_⟩ ⟨z, z1⟩ ⟨h, x1⟩
  · rw [e] at this; exact this
  · rw [e] at y
    exact absurd (show nI i < 0 by rw [y]; decide) (nI_pos (by omega))
/-- digits that don't fit any more -/
def noDg (ch : Nat → Nat) (n i : Nat) (s : kP) : Prop := i < n → 48 ≤ ch i → ch i ≤ 57 → pstep (ch i) s = none
theorem step_none {c : Nat} {s : kP} (hd : 48 ≤ c → c ≤ 57 → pstep c s = none) (h40 : c = 40 → s.sg ≠ 0 ∨ s.sz = 1) (h44 : c = 44 → s.sg = 0 ∨ s.sz = 16 ∨ s.fi &&& s.sz ≠ 0) (h41 : c = 41 → s.sg = 0 ∨ s.sz = 16 ∨ s.fi &&& s.sz = 0) : pstep c s = none := by
  by_cases h : 48 ≤ c ∧ c ≤ 57
  · exact hd h.1 h.2
  · unfold pstep
    rw [if_neg h]
    by_cases c40 : c = 40
    · rw [if_pos c40, if_neg]
      rintro ⟨a, b⟩
      exact (h40 c40).elim (fun z => z a) (fun z => b z)
    · rw [if_neg c40]
      by_cases c44 : c = 44
      · rw [if_pos c44, if_neg]
        rintro ⟨a, b, d⟩
        rcases h44 c44 with z | z | z
        · exact a z
        · exact b z
        · exact z d
      · rw [if_neg c44]
        by_cases c41 : c = 41
        · rw [if_pos c41, if_neg]
          rintro ⟨a, b, d⟩
          rcases h41 c41 with z | z | z
          · exact a z
          · exact b z
          · exact d z
        · rw [if_neg c41]
/-- where the outermost loop stands -/
def HI (G : k_G) (M M1 : k_M) (am : Nat → Nat) (ch : Nat → Nat) (n i cell dep : Nat) (x3 : Int32) (s : kP) : Prop :=
  prun ch i = some s ∧ i ≤ n ∧ dep < 5 ∧
  ((cell < 16 ∧ s.sg = 0 ∧ s.fi = cell ∧ s.sz = 2 ^ (4 - dep) ∧ x3 = nI (2 ^ (4 - dep)) ∧ FI G M M1 am s dep cell) ∨
   (cell = 16 ∧ dep = 0 ∧ s.sg ≠ 0 ∧ s.sz = 16 ∧ noDg ch n i s ∧ FI G M M1 am s 0 16))
theorem f_loop (hI : mInj am) (hn : n ≤ 64) (hch : ∀ i, i < n → ch i < 128) (h0 : M (am 0) = some (kO 5 (mO am rc n tl))) (h5 : M (am 5) = some (kI G 64 pd)) (hpd : ∀ i, i < n → pd i = nI (ch i)) (hp : fPost G M am ch n post) :
    ∀ (f10 i cell dep : Nat) (x3 : Int32) (M1 : k_M) (s : kP), 17 ≤ f10 + cell → HI G M M1 am ch n i cell dep x3 s → wp_X4_findFault_L10 G post f10 (am 0) (nI i) (nI cell) x3 (nI dep) M1 := by
  have n07 : am 0 ≠ am 7 ∧ am 0 ≠ am 8 ∧ am 0 ≠ am 9 := ⟨hI.ne (by omega) (by omega) (by omega), hI.ne (by omega) (by omega) (by omega), hI.ne (by omega) (by omega) (by omega)⟩
  have n57 : am 5 ≠ am 7 ∧ am 5 ≠ am 8 ∧ am 5 ≠ am 9 := ⟨hI.ne (by omega) (by omega) (by omega), hI.ne (by omega) (by omega) (by omega), hI.ne (by omega) (by omega) (by omega)⟩
  have n78 : am 7 ≠ am 8 ∧ am 7 ≠ am 9 ∧ am 8 ≠ am 9 := ⟨hI.ne (by omega) (by omega) (by omega), hI.ne (by omega) (by omega) (by omega), hI.ne (by omega) (by omega) (by omega)⟩
  have k0 : ∀ {M1 : k_M} {s : kP} {dep b : Nat}, FI G M M1 am s dep b → M1 (am 0) = some (kO 5 (mO am rc n tl)) := fun h => (h.1 _ n07.1 n07.2.1 n07.2.2).trans h0
  have k5 : ∀ {M1 : k_M} {s : kP} {dep b : Nat}, FI G M M1 am s dep b → M1 (am 5) = some (kI G 64 pd) := fun h => (h.1 _ n57.1 n57.2.1 n57.2.2).trans h5
  intro f10
  induction f10 with
  | zero =>
    intro i cell dep x3 M1 s hf hH
    obtain ⟨-, -, -, q | q⟩ := hH
    · have := q.1; omega
    · have := q.1; omega
  | succ f10 ih10 =>
    intro i cell dep x3 M1 s hf hH
    obtain ⟨hr, hi, hdep, hH⟩ := hH
    rw [wp_X4_findFault_L10]
    rcases hH with ⟨hc, hsg, hfi, hsz, hx3, hF⟩ | ⟨hc, hd0, hsg, hsz, hno, hF⟩
    · -- a tree is due
      refine ⟨fun z => absurd z (kge (N := 16) hc (by decide)), fun _ => ⟨6, ?_⟩⟩
      subst hx3
      -- behind a tree: closing
      have key184 : ∀ (k j cell' dep' : Nat) (x3' : Int32) (M2 : k_M) (s' : kP), cell < cell' → dep' < 5 → dep' < k → prun ch j = some s' → j ≤ n → s'.sg ≠ 0 → s'.sz = 2 ^ (4 - dep') → s'.fi + s'.sz = cell' → noDg ch n j s' → FI G M M2 am s' dep' cell' → wp_X4_findFault_L184 G post (wp_X4_findFault_L10 G post f10) k (am 0) (nI j) (nI cell') x3' (nI dep') M2 := by
        intro k
        induction k with
        | zero => intro j cell' dep' x3' M2 s' _ _ h; omega
        | succ k ihk =>
          intro j cell' dep' x3' M2 s' hcc hd5 hdk hrj hj hsg' hsz' hcell' hno' hF'
          obtain ⟨hok1, hok2, hok3, hok4, hok5⟩ := prun_ok hrj
          obtain ⟨dp1, dp2, dp3, dp4⟩ := d_pow dep' hd5
          have hfi16 : s'.fi < 16 := by omega
          have hal : s'.fi % 2 ^ (4 - dep') = 0 := by rw [← hsz']; exact hok5
          have hand : s'.fi &&& s'.sz = 0 ↔ s'.fi / s'.sz % 2 = 0 := and_pow hok1 (by omega) hok5
          have b223 : (0 < dep' → s'.fi / 2 ^ (4 - dep') % 2 = 0) → wp_X4_findFault_b223 G post (wp_X4_findFault_L10 G post f10) (am 0) (nI j) (nI cell') x3' (nI dep') M2 := by
            intro heven
            unfold wp_X4_findFault_b223
            refine ⟨fun h => ?_, fun h => ?_⟩
            · have hd0' : dep' = 0 := by
                rcases Nat.eq_zero_or_pos dep' with q | q
                · exact q
                · exact absurd h (nI_nle q (by omega))
              have hs16 : s'.sz = 16 := by rw [hsz']; exact dp2.mpr hd0'
              have hc16 : cell' = 16 := by omega
              subst hd0'
              refine ih10 j cell' 0 x3' M2 s' (by omega) ⟨hrj, hj, by omega, Or.inr ⟨hc16, rfl, hsg', hs16, hno', ?_⟩⟩
              rw [hc16] at hF'; exact hF'
            · have hdpos : 0 < dep' := by
                rcases Nat.eq_zero_or_pos dep' with q | q
                · rw [q] at h; exact absurd (by decide) h
                · exact q
              have hev := heven hdpos
              have hn16 : s'.sz ≠ 16 := fun z => by rw [hsz'] at z; have := dp2.mp z; omega
              have ha0 : s'.fi &&& s'.sz = 0 := hand.mpr (by rw [hsz']; exact hev)
              obtain ⟨c1, c2, c3⟩ := d_comma dep' hd5 s'.fi hfi16 hdpos hal hev
              refine ⟨_, k0 hF', g_char hn (by omega) (k0 hF') (k5 hF') hpd ⟨fun h44 => ?_, fun h44 => ?_⟩⟩
              · obtain ⟨hjn, hcj⟩ := (chr_is (c := 44) (by omega) hch).mp h44
                have hst : pstep (ch j) s' = some (s'.fi + s'.sz, s'.sz, 0, s'.nu, s'.hf) := by
                  unfold pstep
                  rw [if_neg (by omega), if_neg (by omega), if_pos hcj, if_pos ⟨hsg', hn16, ha0⟩]
                have hr1 : prun ch (j + 1) = some (s'.fi + s'.sz, s'.sz, 0, s'.nu, s'.hf) := by rw [prun, hrj]; exact hst
                obtain ⟨f, ⟨to, t1, t2⟩, ⟨z, z1, z2⟩, hv, x1, x2⟩ := hF'
                have m0 := (f _ n07.1 n07.2.1 n07.2.2).trans h0
                rw [nI_sub1 (by omega)]
                refine ⟨_, _, m0, rfl, _, _, x1, kvin (by omega) (by omega), fun M3 e3 => ?_⟩
                rw [kcl (by omega)] at e3
                have m0' := (kup_off e3 n07.2.2).trans m0
                refine ⟨_, _, m0', rfl, _, _, (kup_off e3 n78.2.2).trans z1, kvin (by omega) (by omega), fun y ey => ?_⟩
                rw [kcl (by omega), z2 (dep' - 1) (by omega), ← dp4 hdpos, show nI (2 ^ (4 - dep') * 2) / (2 : Int32) = nI (2 ^ (4 - dep') * 2 / 2) from pk_div (a := 2 ^ (4 - dep') * 2) (d := 2) (by omega) (by omega) (by omega), Nat.mul_div_cancel _ (by omega)] at ey
                subst ey
                rw [kns]
                refine ih10 (j + 1) cell' dep' _ M3 _ (by omega) ⟨hr1, by omega, hd5, Or.inl ⟨by omega, rfl, hcell', hsz', rfl, fun a a7 a8 a9 => (kup_off e3 a9).trans (f a a7 a8 a9), ⟨to, (kup_off e3 n78.2.1).trans t1, t2⟩, ⟨z, (kup_off e3 n78.2.2).trans z1, z2⟩, _, kup_at e3, fun i hi' => ?_⟩⟩
                show upd hv (dep' - 1) 1 i = nI ((s'.fi + s'.sz) / 2 ^ (3 - i) % 2)
                rw [hsz']
                by_cases hid : i = dep' - 1
                · subst hid
                  rw [upd_s, show 3 - (dep' - 1) = 4 - dep' by omega, c2]; rfl
                · rw [upd_n hid, c3 i (by omega)]
                  exact x2 i hi'
              · refine f_end hn hF' hj hrj (fun hjn => step_none (fun a b => hno' hjn a b) (fun _ => Or.inl hsg') (fun z => absurd ((chr_is (c := 44) (by omega) hch).mpr ⟨hjn, z⟩) h44) (fun _ => Or.inr (Or.inr ha0))) (fun _ z => hn16 z.1) hp
          rw [wp_X4_findFault_L184]
          refine ⟨fun h => b223 (fun q => absurd h (nI_nle q (by omega))), fun h => ?_⟩
          have hdpos : 0 < dep' := by
            rcases Nat.eq_zero_or_pos dep' with q | q
            · rw [q] at h; exact absurd (by decide) h
            · exact q
          have hn16 : s'.sz ≠ 16 := fun z => by rw [hsz'] at z; have := dp2.mp z; omega
          obtain ⟨hv, x1, x2⟩ := hF'.2.2.2
          rw [nI_sub1 (by omega)]
          refine ⟨_, _, k0 hF', rfl, _, _, x1, kvin (by omega) (by omega), ?_⟩
          rw [kcl (by omega), x2 (dep' - 1) (by omega), show 3 - (dep' - 1) = 4 - dep' by omega]
          have hm2 : s'.fi / 2 ^ (4 - dep') % 2 < 2 := Nat.mod_lt _ (by decide)
          refine ⟨fun h1 => b223 (fun _ => ?_), fun h1 => ⟨_, k0 hF', g_char hn (by omega) (k0 hF') (k5 hF') hpd ⟨fun h41 => ?_, fun h41 => ?_⟩⟩⟩
          · rcases (show s'.fi / 2 ^ (4 - dep') % 2 = 0 ∨ s'.fi / 2 ^ (4 - dep') % 2 = 1 by omega) with q | q
            · exact q
            · exact absurd (by rw [q]; rfl) h1
          · have hodd : s'.fi / 2 ^ (4 - dep') % 2 = 1 := (nI_eq (b := 1) (by omega) (by omega)).mp h1
            obtain ⟨c1, c2⟩ := d_close dep' hd5 s'.fi hfi16 hal hodd
            have ha1 : s'.fi &&& s'.sz ≠ 0 := fun z => by
              have := hand.mp z
              rw [hsz'] at this; omega
            obtain ⟨hjn, hcj⟩ := (chr_is (c := 41) (by omega) hch).mp h41
            have hst : pstep (ch j) s' = some (s'.fi - s'.sz, s'.sz * 2, 2, s'.nu, s'.hf) := by
              unfold pstep
              rw [if_neg (by omega), if_neg (by omega), if_neg (by omega), if_pos hcj, if_pos ⟨hsg', hn16, ha1⟩]
            have hr1 : prun ch (j + 1) = some (s'.fi - s'.sz, s'.sz * 2, 2, s'.nu, s'.hf) := by rw [prun, hrj]; exact hst
            rw [kns, sb_m1 hdpos]
            obtain ⟨f, ⟨to, t1, t2⟩, ⟨z, z1, z2⟩, hv', x1', x2'⟩ := hF'
            refine ihk (j + 1) cell' (dep' - 1) x3' M2 _ hcc (by omega) (by omega) hr1 (by omega) (by show (2 : Nat) ≠ 0; omega) ?_ ?_ (fun hj1 a b => ?_) ⟨f, ⟨to, t1, t2⟩, ⟨z, z1, fun i hi' => z2 i (by omega)⟩, hv', x1', fun i hi' => ?_⟩
            · show s'.sz * 2 = _
              rw [hsz']; exact dp4 hdpos
            · show s'.fi - s'.sz + s'.sz * 2 = cell'
              rw [hsz'] at hcell' ⊢
              omega
            · unfold pstep
              rw [if_pos ⟨a, b⟩, if_pos (Or.inl rfl)]
            · show _ = nI ((s'.fi - s'.sz) / 2 ^ (3 - i) % 2)
              rw [hsz', c2 i (by omega)]
              exact x2' i (by omega)
          · have hodd : s'.fi / 2 ^ (4 - dep') % 2 = 1 := (nI_eq (b := 1) (by omega) (by omega)).mp h1
            have ha1 : s'.fi &&& s'.sz ≠ 0 := fun z => by
              have := hand.mp z
              rw [hsz'] at this; omega
            exact f_end hn hF' hj hrj (fun hjn => step_none (fun a b => hno' hjn a b) (fun _ => Or.inl hsg') (fun _ => Or.inr (Or.inr ha1)) (fun z => absurd ((chr_is (c := 41) (by omega) hch).mpr ⟨hjn, z⟩) h41)) (fun _ z => hn16 z.1) hp
      -- the cells of a number
      have key155 : ∀ (dep' : Nat) (s' : kP) (j v : Nat), dep' < 5 → prun ch j = some s' → j ≤ n → s'.sg = 1 → s'.sz = 2 ^ (4 - dep') → s'.fi = cell → noDg ch n j s' → v ≤ 250 → (∀ c, cell ≤ c → c < cell + s'.sz → s'.hf c = nI v) → ∀ (q k : Nat), k + q = 2 ^ (4 - dep') → ∀ (M2 : k_M), FI G M M2 am s' dep' (cell + k) → wp_X4_findFault_L155 G post (wp_X4_findFault_L10 G post f10) (q + 1) (am 0) (nI j) (nI cell) (nI (2 ^ (4 - dep'))) (nI dep') (nI v) (nI k) M2 := by
        intro dep' s' j v hd5 hrj hj hsg' hsz' hfi' hno' hv250 hhf q
        obtain ⟨hok1, hok2, hok3, hok4, hok5⟩ := prun_ok hrj
        have hpos : 0 < 2 ^ (4 - dep') := Nat.pos_of_ne_zero (by simp)
        have hle : cell + 2 ^ (4 - dep') ≤ 16 := by rw [← hsz', ← hfi']; exact hok2
        induction q with
        | zero =>
          intro k hk M2 hF'
          have : k = 2 ^ (4 - dep') := by omega
          subst this
          rw [wp_X4_findFault_L155]
          dsimp only
          rw [nIa]
          exact ⟨fun _ => ⟨6, key184 6 j (cell + 2 ^ (4 - dep')) dep' _ M2 s' (by omega) hd5 (by omega) hrj hj (by omega) hsz' (by rw [hfi', hsz']) hno' hF'⟩, fun z => absurd (nI_le (Nat.le_refl _) (by omega)) z⟩
        | succ q ihq =>
          intro k hk M2 hF'
          rw [wp_X4_findFault_L155]
          dsimp only
          rw [nIa]
          obtain ⟨f, ⟨to, t1, t2⟩, ⟨z, z1, z2⟩, hv, x1, x2⟩ := hF'
          have m0 := (f _ n07.1 n07.2.1 n07.2.2).trans h0
          refine ⟨fun z => absurd z (kge (by omega) (by omega)), fun _ => ⟨_, _, m0, rfl, _, _, t1, ?_⟩⟩
          rw [show (1 : Int32) + nI cell = nI (1 + cell) from nIa 1 _, nIa, kcl (by omega), kns]
          refine ⟨kvin (by omega) (by omega), fun M3 e3 => ?_⟩
          refine ihq (k + 1) (by omega) M3 ⟨fun a a7 a8 a9 => (kup_off e3 a7).trans (f a a7 a8 a9), ⟨_, kup_at e3, fun c hc => ?_⟩, ⟨z, (kup_off e3 (Ne.symm n78.1)).trans z1, z2⟩, hv, (kup_off e3 (Ne.symm n78.2.1)).trans x1, x2⟩
          by_cases hck : c = cell + k
          · subst hck
            rw [show 1 + (cell + k) = 1 + cell + k by omega, upd_s]
            exact (hhf _ (by omega) (by omega)).symm
          · rw [upd_n (by omega)]
            exact t2 c (by omega)
      -- a number
      have key90 : ∀ (dep' : Nat), dep' < 5 → ∀ (q j v : Nat) (s' : kP) (M2 : k_M), n < j + q → prun ch j = some s' → j ≤ n → s'.sg = 1 → s'.nu = v → s'.sz = 2 ^ (4 - dep') → s'.fi = cell → (∀ c, cell ≤ c → c < cell + s'.sz → s'.hf c = nI v) → FI G M M2 am s' dep' cell → wp_X4_findFault_L90 G post (wp_X4_findFault_L10 G post f10) q (am 0) (nI j) (nI cell) (nI (2 ^ (4 - dep'))) (nI dep') (nI v) M2 := by
        intro dep' hd5 q
        induction q with
        | zero => intro j v s' M2 h _ hj; omega
        | succ q ihq =>
          intro j v s' M2 hq hrj hj hsg' hnu hsz' hfi' hhf hF'
          obtain ⟨hok1, hok2, hok3, hok4, hok5⟩ := prun_ok hrj
          have hv250 : v ≤ 250 := by rw [← hnu]; exact hok4
          have fin : noDg ch n j s' → ∃ k, wp_X4_findFault_L155 G post (wp_X4_findFault_L10 G post f10) k (am 0) (nI j) (nI cell) (nI (2 ^ (4 - dep'))) (nI dep') (nI v) (0 : Int32) M2 := fun hno' => ⟨2 ^ (4 - dep') + 1, key155 dep' s' j v hd5 hrj hj hsg' hsz' hfi' hno' hv250 hhf (2 ^ (4 - dep')) 0 (by omega) M2 hF'⟩
          rw [wp_X4_findFault_L90]
          refine ⟨fun h => fin (fun hjn a b => ?_), fun h => ⟨_, k0 hF', g_char hn (by omega) (k0 hF') (k5 hF') hpd (g_within ?_)⟩⟩
          · have v0 : v = 0 := by
              rcases Nat.eq_zero_or_pos v with y | y
              · exact y
              · exact absurd h (nI_nle y (by omega))
            unfold pstep
            rw [if_pos ⟨a, b⟩, if_pos (Or.inr ⟨hsg', by rw [hnu]; exact v0⟩)]
          · have vpos : v ≠ 0 := fun z => h (by rw [z]; decide)
            rw [chr_dg hch]
            refine ⟨fun h2 => fin (fun hjn a b => ?_), fun h2 => ?_⟩
            · have := of_decide_eq_false (k01_z.mp h2)
              exact absurd ⟨hjn, a, b⟩ this
            · obtain ⟨hjn, d1, d2⟩ := of_decide_eq_true (k01_nz h2)
              have ec : chr ch n j = nI (ch j) := if_pos hjn
              have e10 : (((10 : Int32) * nI v) + nI (ch j)) - (48 : Int32) = nI (v * 10 + (ch j - 48)) := by
                rw [show (10 : Int32) * nI v = nI (10 * v) from pk_mul 10 v, nIa, show nI (10 * v + ch j) - (48 : Int32) = nI (10 * v + ch j - 48) from pk_sub (a := 10 * v + ch j) (b := 48) (by omega)]
                exact congrArg nI (by omega)
              have epn : pnum (ch j) s' = v * 10 + (ch j - 48) := by
                unfold pnum
                rw [if_pos hsg', hnu]
              refine ⟨_, k0 hF', g_char hn (by omega) (k0 hF') (k5 hF') hpd ?_⟩
              rw [ec, e10]
              refine ⟨fun h3 => fin (fun _ a b => ?_), fun h3 => ⟨_, k0 hF', g_char hn (by omega) (k0 hF') (k5 hF') hpd ?_⟩⟩
              · have hgt : 250 < v * 10 + (ch j - 48) := (nI_ltI (a := 250) (by omega) (by omega)).mp h3
                unfold pstep
                rw [if_pos ⟨a, b⟩, if_neg (fun z => z.elim (fun y => by omega) (fun y => vpos (hnu.symm.trans y.2))), if_neg (by rw [epn]; omega)]
              · rw [ec, e10]
                intro y ey
                subst ey
                have hle : v * 10 + (ch j - 48) ≤ 250 := by
                  rcases Nat.lt_or_ge 250 (v * 10 + (ch j - 48)) with y | y
                  · exact absurd (nI_lt y (by omega)) h3
                  · exact y
                have hst : pstep (ch j) s' = some (s'.fi, s'.sz, 1, pnum (ch j) s', kFill s'.hf s'.fi s'.sz (pnum (ch j) s')) := by
                  unfold pstep
                  rw [if_pos ⟨d1, d2⟩, if_neg (fun z => z.elim (fun y => by omega) (fun y => vpos (hnu.symm.trans y.2))), if_pos (by rw [epn]; omega)]
                rw [epn] at hst
                have hr1 : prun ch (j + 1) = some (s'.fi, s'.sz, 1, v * 10 + (ch j - 48), kFill s'.hf s'.fi s'.sz (v * 10 + (ch j - 48))) := by rw [prun, hrj]; exact hst
                rw [kns]
                obtain ⟨f, ⟨to, t1, t2⟩, zz, hh⟩ := hF'
                refine ihq (j + 1) _ _ M2 (by omega) hr1 (by omega) rfl rfl hsz' hfi' (fun c c1 c2 => ?_) ⟨f, ⟨to, t1, fun c hc' => ?_⟩, zz, hh⟩
                · show kFill s'.hf s'.fi s'.sz _ c = _
                  unfold kFill
                  rw [if_pos ⟨by omega, by rw [hfi']; exact c2⟩]
                · show _ = kFill s'.hf s'.fi s'.sz _ c
                  unfold kFill
                  rw [if_neg (by omega)]
                  exact t2 c hc'
      -- a number is due
      have key60 : ∀ (dep' j : Nat) (s' : kP) (M2 : k_M), dep' < 5 → prun ch j = some s' → j ≤ n → s'.sg = 0 → s'.sz = 2 ^ (4 - dep') → s'.fi = cell → (s'.sz = 1 ∨ ¬ chr ch n j = nI 40) → FI G M M2 am s' dep' cell → wp_X4_findFault_b60 G post (wp_X4_findFault_L10 G post f10) (am 0) (nI j) (nI cell) (nI (2 ^ (4 - dep'))) (nI dep') M2 := by
        intro dep' j s' M2 hd5 hrj hj hsg' hsz' hfi' h40 hF'
        unfold wp_X4_findFault_b60
        refine ⟨_, k0 hF', g_char hn (by omega) (k0 hF') (k5 hF') hpd (g_within ?_)⟩
        rw [chr_dg hch]
        refine ⟨fun h => ?_, fun h => ?_⟩
        · obtain ⟨hjn, d1, d2⟩ := of_decide_eq_true (k01_nz h)
          have ec : chr ch n j = nI (ch j) := if_pos hjn
          refine ⟨_, k0 hF', g_char hn (by omega) (k0 hF') (k5 hF') hpd ⟨n + 1, ?_⟩⟩
          rw [ec, show nI (ch j) - (48 : Int32) = nI (ch j - 48) from pk_sub (a := ch j) (b := 48) d1, kns]
          have epn : pnum (ch j) s' = ch j - 48 := by
            unfold pnum
            rw [if_neg (by omega)]
          have hst : pstep (ch j) s' = some (s'.fi, s'.sz, 1, ch j - 48, kFill s'.hf s'.fi s'.sz (ch j - 48)) := by
            unfold pstep
            rw [if_pos ⟨d1, d2⟩, if_neg (by rintro (z | ⟨z, -⟩) <;> omega), epn, if_pos (by omega)]
          have hr1 : prun ch (j + 1) = some (s'.fi, s'.sz, 1, ch j - 48, kFill s'.hf s'.fi s'.sz (ch j - 48)) := by rw [prun, hrj]; exact hst
          obtain ⟨f, ⟨to, t1, t2⟩, zz, hh⟩ := hF'
          refine key90 dep' hd5 (n + 1) (j + 1) (ch j - 48) _ M2 (by omega) hr1 (by omega) rfl rfl hsz' hfi' (fun c c1 c2 => ?_) ⟨f, ⟨to, t1, fun c hc' => ?_⟩, zz, hh⟩
          · show kFill s'.hf s'.fi s'.sz _ c = _
            unfold kFill
            rw [if_pos ⟨by omega, by rw [hfi']; exact c2⟩]
          · show _ = kFill s'.hf s'.fi s'.sz _ c
            unfold kFill
            rw [if_neg (by omega)]
            exact t2 c hc'
        · have hnd := of_decide_eq_false (k01_z.mp h)
          refine f_end hn hF' hj hrj (fun hjn => step_none (fun a b => absurd ⟨hjn, a, b⟩ hnd) (fun z => ?_) (fun _ => Or.inl hsg') (fun _ => Or.inl hsg')) (fun _ z => z.2 hsg') hp
          rcases h40 with q | q
          · exact Or.inr q
          · exact absurd ((chr_is (c := 40) (by omega) hch).mpr ⟨hjn, z⟩) q
      -- openings
      have key16 : ∀ (q j dep' : Nat) (s' : kP) (M2 : k_M), dep' < 5 → 5 < q + dep' + 1 → prun ch j = some s' → j ≤ n → s'.sg = 0 → s'.sz = 2 ^ (4 - dep') → s'.fi = cell → FI G M M2 am s' dep' cell → wp_X4_findFault_L16 G post (wp_X4_findFault_L10 G post f10) q (am 0) (nI j) (nI cell) (nI (2 ^ (4 - dep'))) (nI dep') M2 := by
        intro q
        induction q with
        | zero => intro j dep' s' M2 h1 h2; omega
        | succ q ihq =>
          intro j dep' s' M2 hd5 hqd hrj hj hsg' hsz' hfi' hF'
          obtain ⟨dp1, dp2, dp3, dp4⟩ := d_pow dep' hd5
          obtain ⟨hok1, hok2, hok3, hok4, hok5⟩ := prun_ok hrj
          rw [wp_X4_findFault_L16]
          refine ⟨fun h => ?_, fun h => ⟨_, k0 hF', g_char hn (by omega) (k0 hF') (k5 hF') hpd ⟨fun h40 => ?_, fun h40 => ?_⟩⟩⟩
          · have h1 : 2 ^ (4 - dep') ≤ 1 := (nI_leI (b := 1) (by omega) (by omega)).mp h
            exact key60 dep' j s' M2 hd5 hrj hj hsg' hsz' hfi' (Or.inl (by omega)) hF'
          · exact key60 dep' j s' M2 hd5 hrj hj hsg' hsz' hfi' (Or.inr h40) hF'
          · have h1 : ¬ 2 ^ (4 - dep') ≤ 1 := fun z => h (nI_le (b := 1) z (by omega))
            have hd4 : dep' < 4 := by
              rcases Nat.lt_or_ge dep' 4 with y | y
              · exact y
              · exact absurd (Nat.le_of_eq (dp3.mpr (by omega))) h1
            obtain ⟨hjn, hcj⟩ := (chr_is (c := 40) (by omega) hch).mp h40
            have hst : pstep (ch j) s' = some (s'.fi, s'.sz / 2, 0, s'.nu, s'.hf) := by
              unfold pstep
              rw [if_neg (by omega), if_pos hcj, if_pos ⟨hsg', by omega⟩]
            have hr1 : prun ch (j + 1) = some (s'.fi, s'.sz / 2, 0, s'.nu, s'.hf) := by rw [prun, hrj]; exact hst
            obtain ⟨f, ⟨to, t1, t2⟩, ⟨z, z1, z2⟩, hv, x1, x2⟩ := hF'
            have m0 := (f _ n07.1 n07.2.1 n07.2.2).trans h0
            refine ⟨_, _, m0, rfl, _, _, z1, kvin (by omega) (by omega), fun M3 e3 => ?_⟩
            have m0' := (kup_off e3 n07.2.1).trans m0
            refine ⟨_, _, m0', rfl, _, _, (kup_off e3 (Ne.symm n78.2.2)).trans x1, kvin (by omega) (by omega), fun M4 e4 => ?_⟩
            rw [kcl (by omega)] at e3 e4
            have ehalf : 2 ^ (4 - dep') / 2 = 2 ^ (4 - (dep' + 1)) := by
              have := (d_pow (dep' + 1) (by omega)).2.2.2 (by omega)
              rw [Nat.add_sub_cancel] at this
              rw [← this, Nat.mul_div_cancel _ (by omega)]
            rw [kns, kns, show nI (2 ^ (4 - dep')) / (2 : Int32) = nI (2 ^ (4 - dep') / 2) from pk_div (a := 2 ^ (4 - dep')) (d := 2) (by omega) (by omega) (by omega), ehalf]
            refine ihq (j + 1) (dep' + 1) _ M4 (by omega) (by omega) hr1 (by omega) rfl (by show s'.sz / 2 = _; rw [hsz', ehalf]) hfi' ⟨fun a a7 a8 a9 => (kup_off e4 a9).trans ((kup_off e3 a8).trans (f a a7 a8 a9)), ⟨to, (kup_off e4 n78.2.1).trans ((kup_off e3 n78.1).trans t1), t2⟩, ⟨_, (kup_off e4 n78.2.2).trans (kup_at e3), fun i hi' => ?_⟩, _, kup_at e4, fun i hi' => ?_⟩
            · by_cases hid : i = dep'
              · subst hid; rw [upd_s]
              · rw [upd_n hid]; exact z2 i (by omega)
            · show upd hv dep' 0 i = nI (s'.fi / 2 ^ (3 - i) % 2)
              by_cases hid : i = dep'
              · subst hid
                rw [upd_s, d_open i hd4 s'.fi (by omega) (by rw [← hsz']; exact hok5)]; rfl
              · rw [upd_n hid]; exact x2 i (by omega)
      exact key16 6 i dep s M1 hdep (by omega) hr hi hsg hsz hfi hF
    · -- the tree has ended
      subst hc
      refine ⟨fun _ => ⟨_, _, k0 hF, rfl, fun h => ?_, fun h => ?_⟩, fun z => absurd (by decide) z⟩
      · have hne : i ≠ n := fun z => h (by rw [z])
        exact f_end hn hF hi hr (fun hjn => step_none (fun a b => hno hjn a b) (fun _ => Or.inl hsg) (fun _ => Or.inr (Or.inl hsz)) (fun _ => Or.inr (Or.inl hsz))) (fun z => absurd z hne) hp
      · have hin : i = n := (nI_eq (by omega) (by omega)).mp h
        subst hin
        obtain ⟨e1, e2⟩ := fl_good hr hsz hsg
        obtain ⟨f, ⟨to, t1, t2⟩, ⟨z, z1, -⟩, hv, x1, -⟩ := hF
        have := hp M1 f ⟨to, t1, fun _ c hc => by rw [e2]; exact t2 c hc⟩ ⟨z, z1⟩ ⟨hv, x1⟩
        rw [e1] at this
        exact this
end G12
