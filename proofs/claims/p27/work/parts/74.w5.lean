/-! ===== the law's world: the object beside the law's five arrays ===== -/
theorem cF.all {G : k_G} {M M1 : k_M} {ad hi : Nat → Nat} {cap : Nat} {F : kF} (ho : hOk hi) (h : cF G M ad hi cap F) (e : ∀ k, k < 354 → M1 (ad k) = M (ad k)) : cF G M1 ad hi cap F := by
  obtain ⟨h1, ⟨r2, a2, b2⟩, ⟨r3, a3, b3⟩, ⟨r4, a4, b4⟩, h5, ⟨e6, l6, g6, a6, b6⟩, h7, h8, h9, h10⟩ := h
  refine ⟨(e 342 (by decide)).trans h1, ⟨r2, (e 343 (by decide)).trans a2, b2⟩, ⟨r3, (e 344 (by decide)).trans a3, b3⟩, ⟨r4, (e 345 (by decide)).trans a4, b4⟩, h5.kept (fun k hk => e (346 + k) (by omega)), ⟨e6, l6, g6, (e 350 (by decide)).trans a6, (e 351 (by decide)).trans b6⟩, h7.kept (e 352 (by decide)) (e 353 (by decide)), h8.kept (fun k hk => e (38 * 0 + k) (by omega)), fun i hi2 => (h9 i hi2).kept (fun k hk => e (38 * hi i + k) ?_), fun i hi2 => (h10 i hi2).kept (fun k hk => e (38 * (7 + i) + k) (by omega))⟩
  have := (ho.1 i hi2).2
  omega
def w5n : Option va_E → Nat := fun e => match e with
  | some (.inl (_, n, _)) => n
  | _ => 0
theorem w5ne {M : k_M} {a b n m : Nat} {c1 c2 : ClassId} {e1 e2} (h1 : M a = some (.inl (c1, n, e1))) (h2 : M b = some (.inl (c2, m, e2))) (h : n ≠ m) : a ≠ b := fun z => h (by
  rw [z, h2] at h1
  exact (congrArg w5n h1).symm)
def w5L (G : k_G) (M : k_M) (sa ta ka qa wa : Nat) (s : Nat → Int32) (f g : Nat → Int64) (q w : Nat → Int32) : Prop := M sa = some (kI G 16 s) ∧ M ta = some (kJ G 34 f) ∧ M ka = some (kJ G 17 g) ∧ M qa = some (kI G 2 q) ∧ M wa = some (kI G 40 w)
def w5A (ad : Nat → Nat) (sa ta ka qa wa : Nat) : Prop := ∀ k, k < 354 → ad k ≠ sa ∧ ad k ≠ ta ∧ ad k ≠ ka ∧ ad k ≠ qa ∧ ad k ≠ wa
def W5 (G : k_G) (M : k_M) (o sa ta ka qa wa cap : Nat) (F : kF) (s : Nat → Int32) (f g : Nat → Int64) (q w : Nat → Int32) : Prop :=
  ∃ ad hi : Nat → Nat, gInj ad ∧ hOk hi ∧ capOk cap ∧ cF G M ad hi cap F ∧ ad 342 = o ∧ w5L G M sa ta ka qa wa s f g q w ∧ w5A ad sa ta ka qa wa
section W5S
variable {G : k_G} {M : k_M} {o sa ta ka qa wa cap : Nat} {F : kF} {s : Nat → Int32} {f g : Nat → Int64} {q w : Nat → Int32} {post : Int32 → k_M → Prop}
theorem W5.obj (h : W5 G M o sa ta ka qa wa cap F s f g q w) : ∃ fs, M o = some (kO 4 fs) := by
  obtain ⟨ad, hi, hg, ho, hk, hF, rfl, hL, hA⟩ := h
  exact ⟨_, hF.1⟩
theorem W5.L (h : W5 G M o sa ta ka qa wa cap F s f g q w) : w5L G M sa ta ka qa wa s f g q w := by
  obtain ⟨ad, hi, hg, ho, hk, hF, rfl, hL, hA⟩ := h
  exact hL
theorem w5L.kept {M1 : k_M} {ad : Nat → Nat} (hL : w5L G M sa ta ka qa wa s f g q w) (hA : w5A ad sa ta ka qa wa) (fr : kFr M M1 ad) : w5L G M1 sa ta ka qa wa s f g q w :=
  ⟨fr _ _ hL.1 (fun k hk => (hA k hk).1.symm), fr _ _ hL.2.1 (fun k hk => (hA k hk).2.1.symm), fr _ _ hL.2.2.1 (fun k hk => (hA k hk).2.2.1.symm), fr _ _ hL.2.2.2.1 (fun k hk => (hA k hk).2.2.2.1.symm), fr _ _ hL.2.2.2.2 (fun k hk => (hA k hk).2.2.2.2.symm)⟩
/-- what is written into the law's rows -/
theorem W5.us (h : W5 G M o sa ta ka qa wa cap F s f g q w) (s' : Nat → Int32) : W5 G (va_up M sa (some (kI G 16 s'))) o sa ta ka qa wa cap F s' f g q w := by
  obtain ⟨ad, hi, hg, ho, hk, hF, rfl, ⟨h1, h2, h3, h4, h5⟩, hA⟩ := h
  exact ⟨ad, hi, hg, ho, hk, hF.all ho (fun k hk => kup_ne (hA k hk).1), rfl, ⟨kup_same, (kup_ne (w5ne h2 h1 (by decide))).trans h2, (kup_ne (w5ne h3 h1 (by decide))).trans h3, (kup_ne (w5ne h4 h1 (by decide))).trans h4, (kup_ne (w5ne h5 h1 (by decide))).trans h5⟩, hA⟩
theorem W5.ut (h : W5 G M o sa ta ka qa wa cap F s f g q w) (f' : Nat → Int64) : W5 G (va_up M ta (some (kJ G 34 f'))) o sa ta ka qa wa cap F s f' g q w := by
  obtain ⟨ad, hi, hg, ho, hk, hF, rfl, ⟨h1, h2, h3, h4, h5⟩, hA⟩ := h
  exact ⟨ad, hi, hg, ho, hk, hF.all ho (fun k hk => kup_ne (hA k hk).2.1), rfl, ⟨(kup_ne (w5ne h1 h2 (by decide))).trans h1, kup_same, (kup_ne (w5ne h3 h2 (by decide))).trans h3, (kup_ne (w5ne h4 h2 (by decide))).trans h4, (kup_ne (w5ne h5 h2 (by decide))).trans h5⟩, hA⟩
theorem W5.ug (h : W5 G M o sa ta ka qa wa cap F s f g q w) (g' : Nat → Int64) : W5 G (va_up M ka (some (kJ G 17 g'))) o sa ta ka qa wa cap F s f g' q w := by
  obtain ⟨ad, hi, hg, ho, hk, hF, rfl, ⟨h1, h2, h3, h4, h5⟩, hA⟩ := h
  exact ⟨ad, hi, hg, ho, hk, hF.all ho (fun k hk => kup_ne (hA k hk).2.2.1), rfl, ⟨(kup_ne (w5ne h1 h3 (by decide))).trans h1, (kup_ne (w5ne h2 h3 (by decide))).trans h2, kup_same, (kup_ne (w5ne h4 h3 (by decide))).trans h4, (kup_ne (w5ne h5 h3 (by decide))).trans h5⟩, hA⟩
theorem W5.uq (h : W5 G M o sa ta ka qa wa cap F s f g q w) (q' : Nat → Int32) : W5 G (va_up M qa (some (kI G 2 q'))) o sa ta ka qa wa cap F s f g q' w := by
  obtain ⟨ad, hi, hg, ho, hk, hF, rfl, ⟨h1, h2, h3, h4, h5⟩, hA⟩ := h
  exact ⟨ad, hi, hg, ho, hk, hF.all ho (fun k hk => kup_ne (hA k hk).2.2.2.1), rfl, ⟨(kup_ne (w5ne h1 h4 (by decide))).trans h1, (kup_ne (w5ne h2 h4 (by decide))).trans h2, (kup_ne (w5ne h3 h4 (by decide))).trans h3, kup_same, (kup_ne (w5ne h5 h4 (by decide))).trans h5⟩, hA⟩
theorem W5.uw (h : W5 G M o sa ta ka qa wa cap F s f g q w) (w' : Nat → Int32) : W5 G (va_up M wa (some (kI G 40 w'))) o sa ta ka qa wa cap F s f g q w' := by
  obtain ⟨ad, hi, hg, ho, hk, hF, rfl, ⟨h1, h2, h3, h4, h5⟩, hA⟩ := h
  exact ⟨ad, hi, hg, ho, hk, hF.all ho (fun k hk => kup_ne (hA k hk).2.2.2.2), rfl, ⟨(kup_ne (w5ne h1 h5 (by decide))).trans h1, (kup_ne (w5ne h2 h5 (by decide))).trans h2, (kup_ne (w5ne h3 h5 (by decide))).trans h3, (kup_ne (w5ne h4 h5 (by decide))).trans h4, kup_same⟩, hA⟩
/-- what is read -/
theorem w_height {k x c : Int32} (h : W5 G M o sa ta ka qa wa cap F s f g q w) (hmc : F.S.mc ≤ 8) (hp : post (xheight F k x c) M) : wp_X3_height G post o k x c M := by
  obtain ⟨ad, hi, hg, ho, hk, hF, rfl, hL, hA⟩ := h
  exact s_X3_height hmc hF hp
theorem w_knows {k x e : Int32} (h : W5 G M o sa ta ka qa wa cap F s f g q w) (hmc : F.S.mc ≤ 8) (hec : F.S.ec ≤ 120) (hp : post (xknows F k x e) M) : wp_X3_knows G post o k x e M := by
  obtain ⟨ad, hi, hg, ho, hk, hF, rfl, hL, hA⟩ := h
  exact s_X3_knows hmc hec hF hp
theorem w_order {k x k2 x2 : Int32} (h : W5 G M o sa ta ka qa wa cap F s f g q w) (hmc : F.S.mc ≤ 8) (hp : post (xorder F k x k2 x2) M) : wp_X3_order G post o k x k2 x2 M := by
  obtain ⟨ad, hi, hg, ho, hk, hF, rfl, hL, hA⟩ := h
  exact s_X3_order hmc hF hp
theorem w_more {k x k2 x2 : Int32} (h : W5 G M o sa ta ka qa wa cap F s f g q w) (hmc : F.S.mc ≤ 8) (hp : post (xmore F k x k2 x2) M) : wp_X3_more G post o k x k2 x2 M := by
  obtain ⟨ad, hi, hg, ho, hk, hF, rfl, hL, hA⟩ := h
  exact s_X3_more hmc hF hp
theorem w_whose {x : Int32} (h : W5 G M o sa ta ka qa wa cap F s f g q w) (hec : F.S.ec ≤ 120) (hp : post (xwhose F x) M) : wp_X3_whose G post o x M := by
  obtain ⟨ad, hi, hg, ho, hk, hF, rfl, hL, hA⟩ := h
  exact s_X3_whose hec hF hp
theorem w_count {x : Int32} (h : W5 G M o sa ta ka qa wa cap F s f g q w) (hp : post (xcount F x) M) : wp_X3_count G post o x M := by
  obtain ⟨ad, hi, hg, ho, hk, hF, rfl, hL, hA⟩ := h
  exact s_X3_count hF hp
theorem w_ofM {x v : Int32} (h : W5 G M o sa ta ka qa wa cap F s f g q w) (hmc : F.S.mc ≤ 8) (hp : post (xofM F x v) M) : wp_X3_ofMessage G post o x v M := by
  obtain ⟨ad, hi, hg, ho, hk, hF, rfl, hL, hA⟩ := h
  exact s_X3_ofMessage hmc hF hp
theorem w_lag {v : Int32} (h : W5 G M o sa ta ka qa wa cap F s f g q w) (hp : post (xlag F v) M) : wp_X3_laggard G post o v M := by
  obtain ⟨ad, hi, hg, ho, hk, hF, rfl, hL, hA⟩ := h
  exact s_X3_laggard hF hp
theorem w_of06 {j k mc ms : Nat} (h : W5 G M o sa ta ka qa wa cap F s f g q w) (hj : j < 8) (hl : F.S.sh j ≠ 0) (hk7 : k < 7) (hp : post (xof F (nI j) (nI k)) M) : wp_X3_of G mc ms post o (nI j) (nI k) M := by
  obtain ⟨ad, hi, hg, ho, hk, hF, rfl, hL, hA⟩ := h
  exact s_of06 hj hl hk7 hF hp
/-- acts -/
theorem W5.xp {ad hi : Nat → Nat} {r : Int32 × kF} (hg : gInj ad) (hk : capOk cap) (hL : w5L G M sa ta ka qa wa s f g q w) (hA : w5A ad sa ta ka qa wa) (hp : ∀ M1, W5 G M1 (ad 342) sa ta ka qa wa cap r.2 s f g q w → post r.1 M1) : xPost G M ad cap r post := by
  intro M1 hi' fr ho' hF'
  exact hp M1 ⟨ad, hi', hg, ho', hk, hF', rfl, hL.kept hA fr, hA⟩
theorem w_fork {x : Int32} (h : W5 G M o sa ta ka qa wa cap F s f g q w) (hc : F.hc ≤ 6) (hp : ∀ M1, W5 G M1 o sa ta ka qa wa cap (xfork F x).2 s f g q w → post (xfork F x).1 M1) : wp_X3_fork G post o x M := by
  obtain ⟨ad, hi, hg, ho, hk, hF, rfl, hL, hA⟩ := h
  exact s_X3_fork hg ho hc hF (W5.xp (hi := hi) hg hk hL hA hp)
theorem w_gather {x y : Int32} (h : W5 G M o sa ta ka qa wa cap F s f g q w) (hc : F.hc ≤ 6) (hp : ∀ M1, W5 G M1 o sa ta ka qa wa cap (xgather F x y).2 s f g q w → post (xgather F x y).1 M1) : wp_X3_gather G post o x y M := by
  obtain ⟨ad, hi, hg, ho, hk, hF, rfl, hL, hA⟩ := h
  exact s_X3_gather hg ho hc hF (W5.xp (hi := hi) hg hk hL hA hp)
theorem w_event {x : Int32} (h : W5 G M o sa ta ka qa wa cap F s f g q w) (hec : F.S.ec ≤ 120) (hc : F.hc ≤ 6) (hp : ∀ M1, W5 G M1 o sa ta ka qa wa cap (xevent F x).2 s f g q w → post (xevent F x).1 M1) : wp_X3_event G post o x M := by
  obtain ⟨ad, hi, hg, ho, hk, hF, rfl, hL, hA⟩ := h
  exact s_X3_event hg ho hec hc hF (W5.xp (hi := hi) hg hk hL hA hp)
theorem w_send {x : Int32} (h : W5 G M o sa ta ka qa wa cap F s f g q w) (hmc : F.S.mc ≤ 8) (hc : F.hc ≤ 6) (hp : ∀ M1, W5 G M1 o sa ta ka qa wa cap (xsend F x).2 s f g q w → post (xsend F x).1 M1) : wp_X3_send G post o x M := by
  obtain ⟨ad, hi, hg, ho, hk, hF, rfl, hL, hA⟩ := h
  exact s_X3_send hg ho hmc hc hF (W5.xp (hi := hi) hg hk hL hA hp)
theorem w_receive {x y : Int32} (h : W5 G M o sa ta ka qa wa cap F s f g q w) (hmc : F.S.mc ≤ 8) (hec : F.S.ec ≤ 120) (hc : F.hc ≤ 6) (hp : ∀ M1, W5 G M1 o sa ta ka qa wa cap (xreceive F x y).2 s f g q w → post (xreceive F x y).1 M1) : wp_X3_receive G post o x y M := by
  obtain ⟨ad, hi, hg, ho, hk, hF, rfl, hL, hA⟩ := h
  exact s_X3_receive hg ho hmc hec hc hF (W5.xp (hi := hi) hg hk hL hA hp)
theorem w_drop {y : Int32} (h : W5 G M o sa ta ka qa wa cap F s f g q w) (hmc : F.S.mc ≤ 8) (hc : F.hc ≤ 6) (hp : ∀ M1, W5 G M1 o sa ta ka qa wa cap (xdrop F y).2 s f g q w → post (xdrop F y).1 M1) : wp_X3_drop G post o y M := by
  obtain ⟨ad, hi, hg, ho, hk, hF, rfl, hL, hA⟩ := h
  exact s_X3_drop hg ho hmc hc hF (W5.xp (hi := hi) hg hk hL hA hp)
theorem w_ifR {x y v : Int32} (h : W5 G M o sa ta ka qa wa cap F s f g q w) (hmc : F.S.mc ≤ 8) (hp : ∀ M1, W5 G M1 o sa ta ka qa wa cap F s f g q w → post (xifR F x y v) M1) : wp_X3_ifReceive G post o x y v M := by
  obtain ⟨ad, hi, hg, ho, hk, hF, rfl, hL, hA⟩ := h
  exact s_X3_ifReceive hg ho hmc hF (W5.xp (hi := hi) (r := (xifR F x y v, F)) hg hk hL hA hp)
/-- of(.., 7) and printed -/
theorem W5.xp2 {ad : Nat → Nat} {L : Nat} {r : Int32} (hL : w5L G M sa ta ka qa wa s f g q w) (hA : w5A ad sa ta ka qa wa) (hp : ∀ M1 cap', L ≤ cap' → (L ≤ cap → cap' = cap) → W5 G M1 (ad 342) sa ta ka qa wa cap' F s f g q w → post r M1) : xPost2 G M ad cap L r F post := by
  intro M1 ad' hi' cap' fr hg' en h353 ho' hk' hle heq hF'
  refine hp M1 cap' hle heq ⟨ad', hi', hg', ho', hk', hF', en 342 (by decide), hL.kept hA fr, fun k hk => ?_⟩
  by_cases h : k = 353
  · subst h
    rcases h353 with e | e
    · rw [e]; exact hA 353 hk
    · refine ⟨fun z => ?_, fun z => ?_, fun z => ?_, fun z => ?_, fun z => ?_⟩
      · rw [z, hL.1] at e; cases e
      · rw [z, hL.2.1] at e; cases e
      · rw [z, hL.2.2.1] at e; cases e
      · rw [z, hL.2.2.2.1] at e; cases e
      · rw [z, hL.2.2.2.2] at e; cases e
  · rw [en k h]; exact hA k hk
theorem w_of7 {j mc ms : Nat} (h : W5 G M o sa ta ka qa wa cap F s f g q w) (hB : (tx (F.S.hs j).1 4 0).length ≤ cap ∨ (62 ≤ mc ∧ 8804 ≤ ms)) (hj : j < 8) (hl : F.S.sh j ≠ 0) (hb : ∀ c, c < 16 → uI ((F.S.hs j).1 c) < 1000)
    (hp : ∀ M1 cap', (tx (F.S.hs j).1 4 0).length ≤ cap' → ((tx (F.S.hs j).1 4 0).length ≤ cap → cap' = cap) → W5 G M1 o sa ta ka qa wa cap' F s f g q w → post (nI (tx (F.S.hs j).1 4 0).length) M1) : wp_X3_of G mc ms post o (nI j) 7 M := by
  obtain ⟨ad, hi, hg, ho, hk, hF, rfl, hL, hA⟩ := h
  exact s_of7 hB hg ho hk hj hl hb hF (W5.xp2 hL hA hp)
theorem w_printed {j i mc ms : Nat} (h : W5 G M o sa ta ka qa wa cap F s f g q w) (hB : (tx (F.S.hs j).1 4 0).length ≤ cap ∨ (62 ≤ mc ∧ 8804 ≤ ms)) (hj : j < 8) (hl : F.S.sh j ≠ 0) (hi1 : i < 1000) (hb : ∀ c, c < 16 → uI ((F.S.hs j).1 c) < 1000)
    (hp : ∀ M1 cap', (tx (F.S.hs j).1 4 0).length ≤ cap' → ((tx (F.S.hs j).1 4 0).length ≤ cap → cap' = cap) → W5 G M1 o sa ta ka qa wa cap' F s f g q w → post (if i < (tx (F.S.hs j).1 4 0).length then nI ((tx (F.S.hs j).1 4 0).getD i 0) else -1) M1) : wp_X3_printed G mc ms post o (nI j) (nI i) M := by
  obtain ⟨ad, hi, hg, ho, hk, hF, rfl, hL, hA⟩ := h
  exact s_printed2 hB hg ho hk hj hl hi1 hb hF (W5.xp2 hL hA hp)
end W5S
