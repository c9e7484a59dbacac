/-! ===== the law: both worlds ===== -/
section LAW1
variable {G : k_G} {M : k_M} {x y : Nat} {F F2 : kF} {ad hi am : Nat → Nat} {cap : Nat}
theorem cF.all {M1 : k_M} (ho : hOk hi) (h : cF G M ad hi cap F) (e : ∀ k, k < 354 → M1 (ad k) = M (ad k)) : cF G M1 ad hi cap F := by
  obtain ⟨h1, ⟨r2, a2, b2⟩, ⟨r3, a3, b3⟩, ⟨r4, a4, b4⟩, h5, ⟨e6, l6, g6, a6, b6⟩, h7, h8, h9, h10⟩ := h
  refine ⟨(e 342 (by decide)).trans h1, ⟨r2, (e 343 (by decide)).trans a2, b2⟩, ⟨r3, (e 344 (by decide)).trans a3, b3⟩, ⟨r4, (e 345 (by decide)).trans a4, b4⟩, h5.kept (fun k hk => e (346 + k) (by omega)), ⟨e6, l6, g6, (e 350 (by decide)).trans a6, (e 351 (by decide)).trans b6⟩, h7.kept (e 352 (by decide)) (e 353 (by decide)), h8.kept (fun k hk => e (38 * 0 + k) (by omega)), fun i hi2 => (h9 i hi2).kept (fun k hk => e (38 * hi i + k) ?_), fun i hi2 => (h10 i hi2).kept (fun k hk => e (38 * (7 + i) + k) (by omega))⟩
  have := (ho.1 i hi2).2
  omega
theorem mM.all {M1 : k_M} (h : mM G M am F) (e : ∀ k, k < 11 → M1 (am k) = M (am k)) : mM G M1 am F := by
  obtain ⟨⟨tl, h1⟩, ⟨st, h2, h2'⟩, h3⟩ := h
  exact ⟨⟨tl, (e 0 (by decide)).trans h1⟩, ⟨st, (e 1 (by decide)).trans h2, h2'⟩, h3.kept (fun k _ hk => e k hk)⟩
theorem mM.some (h : mM G M am F) : ∀ k, k < 11 → ∃ e, M (am k) = Option.some e := by
  obtain ⟨⟨tl, h1⟩, ⟨st, h2, h2'⟩, ⟨a3, b3, -⟩, ⟨a4, b4, -⟩, ⟨a5, b5, -⟩, ⟨a6, b6, -⟩, ⟨a7, b7⟩, ⟨a8, b8⟩, ⟨a9, b9⟩, ⟨a10, b10⟩, ⟨a11, b11⟩⟩ := h
  intro k hk
  match k, hk with
  | 0, _ => exact ⟨_, h1⟩
  | 1, _ => exact ⟨_, h2⟩
  | 2, _ => exact ⟨_, b3⟩
  | 3, _ => exact ⟨_, b4⟩
  | 4, _ => exact ⟨_, b5⟩
  | 5, _ => exact ⟨_, b6⟩
  | 6, _ => exact ⟨_, b7⟩
  | 7, _ => exact ⟨_, b8⟩
  | 8, _ => exact ⟨_, b9⟩
  | 9, _ => exact ⟨_, b10⟩
  | 10, _ => exact ⟨_, b11⟩
  | k + 11, hk => exact absurd hk (by omega)
/-- the class at x holds F, the reference at y holds F2 -/
def lI (G : k_G) (M : k_M) (x y : Nat) (F F2 : kF) : Prop := ∃ (ad hi : Nat → Nat) (cap : Nat) (am : Nat → Nat), gInj ad ∧ hOk hi ∧ capOk cap ∧ cF G M ad hi cap F ∧ mInj am ∧ mM G M am F2 ∧ ad 342 = x ∧ am 0 = y ∧ ∀ k j, k < 354 → j < 11 → ad k ≠ am j
theorem lI.cx (h : lI G M x y F F2) : ∃ fs, M x = some (.inr (4, fs)) := by
  obtain ⟨ad, hi, cap, am, hg, ho, hk, hF, hI, hM, rfl, rfl, hd⟩ := h
  exact ⟨_, hF.1⟩
theorem lI.cy (h : lI G M x y F F2) : ∃ fs, M y = some (.inr (5, fs)) := by
  obtain ⟨ad, hi, cap, am, hg, ho, hk, hF, hI, hM, rfl, rfl, hd⟩ := h
  obtain ⟨tl, h1⟩ := hM.1
  exact ⟨_, h1⟩
theorem l_mv {M1 : k_M} (hM : mM G M am F2) (f : kFr M M1 ad) (hd : ∀ k j, k < 354 → j < 11 → ad k ≠ am j) : mM G M1 am F2 := by
  refine hM.all (fun k hk => ?_)
  obtain ⟨e, he⟩ := hM.some k hk
  rw [he]
  exact f _ _ he (fun j hj z => hd j k hj hk z.symm)
theorem l_xp {r : Int32 × kF} (hg : gInj ad) (hk : capOk cap) (hI : mInj am) (hM : mM G M am F2) (hx : ad 342 = x) (hy : am 0 = y) (hd : ∀ k j, k < 354 → j < 11 → ad k ≠ am j) : xPost G M ad cap r (fun v M1 => v = r.1 ∧ lI G M1 x y r.2 F2) := by
  intro M1 hi' f ho' hF'
  exact ⟨rfl, ad, hi', cap, am, hg, ho', hk, hF', hI, l_mv hM f hd, hx, hy, hd⟩
theorem l_xt {r : Int32 × kF} (hI : mInj am) (hM : mM G M am F2) (hx : ad 342 = x) (hy : am 0 = y) (hd : ∀ k j, k < 354 → j < 11 → ad k ≠ am j) : xPostT G M ad r (fun v M1 => v = r.1 ∧ lI G M1 x y r.2 F2) := by
  intro M1 ad' hi' cap' f hg' en h353 ho' hk' hF'
  refine ⟨rfl, ad', hi', cap', am, hg', ho', hk', hF', hI, l_mv hM f hd, (en 342 (by decide)).trans hx, hy, fun k j hk hj => ?_⟩
  by_cases h : k = 353
  · subst h
    rcases h353 with e | e
    · rw [e]; exact hd _ _ hk hj
    · intro z
      obtain ⟨v, hv⟩ := hM.some j hj
      rw [← z, e] at hv
      cases hv
  · rw [en k h]; exact hd k j hk hj
theorem l_yp {r : Int32 × kF} (hg : gInj ad) (ho : hOk hi) (hk : capOk cap) (hF : cF G M ad hi cap F) (hI : mInj am) (hx : ad 342 = x) (hy : am 0 = y) (hd : ∀ k j, k < 354 → j < 11 → ad k ≠ am j) : yPost G M am r (fun v M1 => v = r.1 ∧ lI G M1 x y F r.2) := by
  intro M1 f hM'
  exact ⟨rfl, ad, hi, cap, am, hg, ho, hk, hF.all ho (fun k hk => f _ (fun j hj => hd k j hk hj)), hI, hM', hx, hy, hd⟩
theorem l_fork {a1 : Int32} (hok : okF F) (h : lI G M x y F F) : wp_X3_fork G (fun v M1 => v = (xfork F a1).1 ∧ lI G M1 x y (xfork F a1).2 F) x a1 M := by
  obtain ⟨ad, hi, cap, am, hg, ho, hk, hF, hI, hM, rfl, rfl, hd⟩ := id h
  exact s_X3_fork hg ho hok.2.2.1 hF (l_xp hg hk hI hM rfl rfl hd)
theorem r_fork {a1 : Int32} (hok : okF F) (h : lI G M x y F2 F) : wp_X4_fork G (fun v M1 => v = (xfork F a1).1 ∧ lI G M1 x y F2 (xfork F a1).2) y a1 M := by
  obtain ⟨ad, hi, cap, am, hg, ho, hk, hF, hI, hM, rfl, rfl, hd⟩ := id h
  exact y_fork hI hok hM (l_yp hg ho hk hF hI rfl rfl hd)
theorem l_gather {a1 a2 : Int32} (hok : okF F) (h : lI G M x y F F) : wp_X3_gather G (fun v M1 => v = (xgather F a1 a2).1 ∧ lI G M1 x y (xgather F a1 a2).2 F) x a1 a2 M := by
  obtain ⟨ad, hi, cap, am, hg, ho, hk, hF, hI, hM, rfl, rfl, hd⟩ := id h
  exact s_X3_gather hg ho hok.2.2.1 hF (l_xp hg hk hI hM rfl rfl hd)
theorem r_gather {a1 a2 : Int32} (hok : okF F) (h : lI G M x y F2 F) : wp_X4_gather G (fun v M1 => v = (xgather F a1 a2).1 ∧ lI G M1 x y F2 (xgather F a1 a2).2) y a1 a2 M := by
  obtain ⟨ad, hi, cap, am, hg, ho, hk, hF, hI, hM, rfl, rfl, hd⟩ := id h
  exact y_gather hI hok hM (l_yp hg ho hk hF hI rfl rfl hd)
theorem l_event {a1 : Int32} (hok : okF F) (h : lI G M x y F F) : wp_X3_event G (fun v M1 => v = (xevent F a1).1 ∧ lI G M1 x y (xevent F a1).2 F) x a1 M := by
  obtain ⟨ad, hi, cap, am, hg, ho, hk, hF, hI, hM, rfl, rfl, hd⟩ := id h
  exact s_X3_event hg ho hok.1.2.1 hok.2.2.1 hF (l_xp hg hk hI hM rfl rfl hd)
theorem r_event {a1 : Int32} (hok : okF F) (h : lI G M x y F2 F) : wp_X4_event G (fun v M1 => v = (xevent F a1).1 ∧ lI G M1 x y F2 (xevent F a1).2) y a1 M := by
  obtain ⟨ad, hi, cap, am, hg, ho, hk, hF, hI, hM, rfl, rfl, hd⟩ := id h
  exact y_event hI hok hM (l_yp hg ho hk hF hI rfl rfl hd)
theorem l_send {a1 : Int32} (hok : okF F) (h : lI G M x y F F) : wp_X3_send G (fun v M1 => v = (xsend F a1).1 ∧ lI G M1 x y (xsend F a1).2 F) x a1 M := by
  obtain ⟨ad, hi, cap, am, hg, ho, hk, hF, hI, hM, rfl, rfl, hd⟩ := id h
  exact s_X3_send hg ho hok.1.1 hok.2.2.1 hF (l_xp hg hk hI hM rfl rfl hd)
theorem r_send {a1 : Int32} (hok : okF F) (h : lI G M x y F2 F) : wp_X4_send G (fun v M1 => v = (xsend F a1).1 ∧ lI G M1 x y F2 (xsend F a1).2) y a1 M := by
  obtain ⟨ad, hi, cap, am, hg, ho, hk, hF, hI, hM, rfl, rfl, hd⟩ := id h
  exact y_send hI hok hM (l_yp hg ho hk hF hI rfl rfl hd)
theorem l_receive {a1 a2 : Int32} (hok : okF F) (h : lI G M x y F F) : wp_X3_receive G (fun v M1 => v = (xreceive F a1 a2).1 ∧ lI G M1 x y (xreceive F a1 a2).2 F) x a1 a2 M := by
  obtain ⟨ad, hi, cap, am, hg, ho, hk, hF, hI, hM, rfl, rfl, hd⟩ := id h
  exact s_X3_receive hg ho hok.1.1 hok.1.2.1 hok.2.2.1 hF (l_xp hg hk hI hM rfl rfl hd)
theorem r_receive {a1 a2 : Int32} (hok : okF F) (h : lI G M x y F2 F) : wp_X4_receive G (fun v M1 => v = (xreceive F a1 a2).1 ∧ lI G M1 x y F2 (xreceive F a1 a2).2) y a1 a2 M := by
  obtain ⟨ad, hi, cap, am, hg, ho, hk, hF, hI, hM, rfl, rfl, hd⟩ := id h
  exact y_receive hI hok hM (l_yp hg ho hk hF hI rfl rfl hd)
theorem l_drop {a1 : Int32} (hok : okF F) (h : lI G M x y F F) : wp_X3_drop G (fun v M1 => v = (xdrop F a1).1 ∧ lI G M1 x y (xdrop F a1).2 F) x a1 M := by
  obtain ⟨ad, hi, cap, am, hg, ho, hk, hF, hI, hM, rfl, rfl, hd⟩ := id h
  exact s_X3_drop hg ho hok.1.1 hok.2.2.1 hF (l_xp hg hk hI hM rfl rfl hd)
theorem r_drop {a1 : Int32} (hok : okF F) (h : lI G M x y F2 F) : wp_X4_drop G (fun v M1 => v = (xdrop F a1).1 ∧ lI G M1 x y F2 (xdrop F a1).2) y a1 M := by
  obtain ⟨ad, hi, cap, am, hg, ho, hk, hF, hI, hM, rfl, rfl, hd⟩ := id h
  exact y_drop hI hok hM (l_yp hg ho hk hF hI rfl rfl hd)
theorem l_of {a1 a2 : Int32} (hok : okF F) (h : lI G M x y F F) : wp_X3_of G 62 8804 (fun v M1 => v = ((xof F a1 a2, F)).1 ∧ lI G M1 x y ((xof F a1 a2, F)).2 F) x a1 a2 M := by
  obtain ⟨ad, hi, cap, am, hg, ho, hk, hF, hI, hM, rfl, rfl, hd⟩ := id h
  exact s_X3_of hg ho hk (ok_hBd hok) hF (l_xt hI hM rfl rfl hd)
theorem r_of {a1 a2 : Int32} (hok : okF F) (h : lI G M x y F2 F) : wp_X4_of G (fun v M1 => v = ((xof F a1 a2, F)).1 ∧ lI G M1 x y F2 ((xof F a1 a2, F)).2) y a1 a2 M := by
  obtain ⟨ad, hi, cap, am, hg, ho, hk, hF, hI, hM, rfl, rfl, hd⟩ := id h
  exact y_of hI hok hM (l_yp hg ho hk hF hI rfl rfl hd)
theorem l_ofMessage {a1 a2 : Int32} (hok : okF F) (h : lI G M x y F F) : wp_X3_ofMessage G (fun v M1 => v = ((xofM F a1 a2, F)).1 ∧ lI G M1 x y ((xofM F a1 a2, F)).2 F) x a1 a2 M := by
  obtain ⟨ad, hi, cap, am, hg, ho, hk, hF, hI, hM, rfl, rfl, hd⟩ := id h
  exact s_X3_ofMessage hok.1.1 hF ⟨rfl, h⟩
theorem r_ofMessage {a1 a2 : Int32} (hok : okF F) (h : lI G M x y F2 F) : wp_X4_ofMessage G (fun v M1 => v = ((xofM F a1 a2, F)).1 ∧ lI G M1 x y F2 ((xofM F a1 a2, F)).2) y a1 a2 M := by
  obtain ⟨ad, hi, cap, am, hg, ho, hk, hF, hI, hM, rfl, rfl, hd⟩ := id h
  exact y_ofMessage hok hM ⟨rfl, h⟩
theorem l_height {a1 a2 a3 : Int32} (hok : okF F) (h : lI G M x y F F) : wp_X3_height G (fun v M1 => v = ((xheight F a1 a2 a3, F)).1 ∧ lI G M1 x y ((xheight F a1 a2 a3, F)).2 F) x a1 a2 a3 M := by
  obtain ⟨ad, hi, cap, am, hg, ho, hk, hF, hI, hM, rfl, rfl, hd⟩ := id h
  exact s_X3_height hok.1.1 hF ⟨rfl, h⟩
theorem r_height {a1 a2 a3 : Int32} (hok : okF F) (h : lI G M x y F2 F) : wp_X4_height G (fun v M1 => v = ((xheight F a1 a2 a3, F)).1 ∧ lI G M1 x y F2 ((xheight F a1 a2 a3, F)).2) y a1 a2 a3 M := by
  obtain ⟨ad, hi, cap, am, hg, ho, hk, hF, hI, hM, rfl, rfl, hd⟩ := id h
  exact y_height hok hM ⟨rfl, h⟩
theorem l_knows {a1 a2 a3 : Int32} (hok : okF F) (h : lI G M x y F F) : wp_X3_knows G (fun v M1 => v = ((xknows F a1 a2 a3, F)).1 ∧ lI G M1 x y ((xknows F a1 a2 a3, F)).2 F) x a1 a2 a3 M := by
  obtain ⟨ad, hi, cap, am, hg, ho, hk, hF, hI, hM, rfl, rfl, hd⟩ := id h
  exact s_X3_knows hok.1.1 hok.1.2.1 hF ⟨rfl, h⟩
theorem r_knows {a1 a2 a3 : Int32} (hok : okF F) (h : lI G M x y F2 F) : wp_X4_knows G (fun v M1 => v = ((xknows F a1 a2 a3, F)).1 ∧ lI G M1 x y F2 ((xknows F a1 a2 a3, F)).2) y a1 a2 a3 M := by
  obtain ⟨ad, hi, cap, am, hg, ho, hk, hF, hI, hM, rfl, rfl, hd⟩ := id h
  exact y_knows hok hM ⟨rfl, h⟩
theorem l_count {a1 : Int32} (hok : okF F) (h : lI G M x y F F) : wp_X3_count G (fun v M1 => v = ((xcount F a1, F)).1 ∧ lI G M1 x y ((xcount F a1, F)).2 F) x a1 M := by
  obtain ⟨ad, hi, cap, am, hg, ho, hk, hF, hI, hM, rfl, rfl, hd⟩ := id h
  exact s_X3_count hF ⟨rfl, h⟩
theorem r_count {a1 : Int32} (hok : okF F) (h : lI G M x y F2 F) : wp_X4_count G (fun v M1 => v = ((xcount F a1, F)).1 ∧ lI G M1 x y F2 ((xcount F a1, F)).2) y a1 M := by
  obtain ⟨ad, hi, cap, am, hg, ho, hk, hF, hI, hM, rfl, rfl, hd⟩ := id h
  exact y_count hM ⟨rfl, h⟩
theorem l_whose {a1 : Int32} (hok : okF F) (h : lI G M x y F F) : wp_X3_whose G (fun v M1 => v = ((xwhose F a1, F)).1 ∧ lI G M1 x y ((xwhose F a1, F)).2 F) x a1 M := by
  obtain ⟨ad, hi, cap, am, hg, ho, hk, hF, hI, hM, rfl, rfl, hd⟩ := id h
  exact s_X3_whose hok.1.2.1 hF ⟨rfl, h⟩
theorem r_whose {a1 : Int32} (hok : okF F) (h : lI G M x y F2 F) : wp_X4_whose G (fun v M1 => v = ((xwhose F a1, F)).1 ∧ lI G M1 x y F2 ((xwhose F a1, F)).2) y a1 M := by
  obtain ⟨ad, hi, cap, am, hg, ho, hk, hF, hI, hM, rfl, rfl, hd⟩ := id h
  exact y_whose hok hM ⟨rfl, h⟩
theorem l_order {a1 a2 a3 a4 : Int32} (hok : okF F) (h : lI G M x y F F) : wp_X3_order G (fun v M1 => v = ((xorder F a1 a2 a3 a4, F)).1 ∧ lI G M1 x y ((xorder F a1 a2 a3 a4, F)).2 F) x a1 a2 a3 a4 M := by
  obtain ⟨ad, hi, cap, am, hg, ho, hk, hF, hI, hM, rfl, rfl, hd⟩ := id h
  exact s_X3_order hok.1.1 hF ⟨rfl, h⟩
theorem r_order {a1 a2 a3 a4 : Int32} (hok : okF F) (h : lI G M x y F2 F) : wp_X4_order G (fun v M1 => v = ((xorder F a1 a2 a3 a4, F)).1 ∧ lI G M1 x y F2 ((xorder F a1 a2 a3 a4, F)).2) y a1 a2 a3 a4 M := by
  obtain ⟨ad, hi, cap, am, hg, ho, hk, hF, hI, hM, rfl, rfl, hd⟩ := id h
  exact y_order hok hM ⟨rfl, h⟩
theorem l_more {a1 a2 a3 a4 : Int32} (hok : okF F) (h : lI G M x y F F) : wp_X3_more G (fun v M1 => v = ((xmore F a1 a2 a3 a4, F)).1 ∧ lI G M1 x y ((xmore F a1 a2 a3 a4, F)).2 F) x a1 a2 a3 a4 M := by
  obtain ⟨ad, hi, cap, am, hg, ho, hk, hF, hI, hM, rfl, rfl, hd⟩ := id h
  exact s_X3_more hok.1.1 hF ⟨rfl, h⟩
theorem r_more {a1 a2 a3 a4 : Int32} (hok : okF F) (h : lI G M x y F2 F) : wp_X4_more G (fun v M1 => v = ((xmore F a1 a2 a3 a4, F)).1 ∧ lI G M1 x y F2 ((xmore F a1 a2 a3 a4, F)).2) y a1 a2 a3 a4 M := by
  obtain ⟨ad, hi, cap, am, hg, ho, hk, hF, hI, hM, rfl, rfl, hd⟩ := id h
  exact y_more hok hM ⟨rfl, h⟩
theorem l_orderToPad {a1 : Int32} (hok : okF F) (h : lI G M x y F F) : wp_X3_orderToPad G (fun v M1 => v = ((xpad F a1, F)).1 ∧ lI G M1 x y ((xpad F a1, F)).2 F) x a1 M := by
  obtain ⟨ad, hi, cap, am, hg, ho, hk, hF, hI, hM, rfl, rfl, hd⟩ := id h
  exact s_X3_orderToPad hg ho hok.2.2.2.2.1 hF (l_xp hg hk hI hM rfl rfl hd)
theorem r_orderToPad {a1 : Int32} (hok : okF F) (h : lI G M x y F2 F) : wp_X4_orderToPad G (fun v M1 => v = ((xpad F a1, F)).1 ∧ lI G M1 x y F2 ((xpad F a1, F)).2) y a1 M := by
  obtain ⟨ad, hi, cap, am, hg, ho, hk, hF, hI, hM, rfl, rfl, hd⟩ := id h
  exact y_orderToPad hI hok hM (l_yp hg ho hk hF hI rfl rfl hd)
theorem l_printed {a1 a2 : Int32} (hok : okF F) (h : lI G M x y F F) : wp_X3_printed G 62 8804 (fun v M1 => v = ((xprinted F a1 a2, F)).1 ∧ lI G M1 x y ((xprinted F a1 a2, F)).2 F) x a1 a2 M := by
  obtain ⟨ad, hi, cap, am, hg, ho, hk, hF, hI, hM, rfl, rfl, hd⟩ := id h
  exact s_X3_printed hg ho hk (ok_hBd hok) hF (l_xt hI hM rfl rfl hd)
theorem r_printed {a1 a2 : Int32} (hok : okF F) (h : lI G M x y F2 F) : wp_X4_printed G (fun v M1 => v = ((xprinted F a1 a2, F)).1 ∧ lI G M1 x y F2 ((xprinted F a1 a2, F)).2) y a1 a2 M := by
  obtain ⟨ad, hi, cap, am, hg, ho, hk, hF, hI, hM, rfl, rfl, hd⟩ := id h
  exact y_printed hI hok hM (l_yp hg ho hk hF hI rfl rfl hd)
theorem l_ifReceive {a1 a2 a3 : Int32} (hok : okF F) (h : lI G M x y F F) : wp_X3_ifReceive G (fun v M1 => v = ((xifR F a1 a2 a3, F)).1 ∧ lI G M1 x y ((xifR F a1 a2 a3, F)).2 F) x a1 a2 a3 M := by
  obtain ⟨ad, hi, cap, am, hg, ho, hk, hF, hI, hM, rfl, rfl, hd⟩ := id h
  exact s_X3_ifReceive hg ho hok.1.1 hF (l_xp hg hk hI hM rfl rfl hd)
theorem r_ifReceive {a1 a2 a3 : Int32} (hok : okF F) (h : lI G M x y F2 F) : wp_X4_ifReceive G (fun v M1 => v = ((xifR F a1 a2 a3, F)).1 ∧ lI G M1 x y F2 ((xifR F a1 a2 a3, F)).2) y a1 a2 a3 M := by
  obtain ⟨ad, hi, cap, am, hg, ho, hk, hF, hI, hM, rfl, rfl, hd⟩ := id h
  exact y_ifReceive hI hok hM (l_yp hg ho hk hF hI rfl rfl hd)
theorem l_laggard {a1 : Int32} (hok : okF F) (h : lI G M x y F F) : wp_X3_laggard G (fun v M1 => v = ((xlag F a1, F)).1 ∧ lI G M1 x y ((xlag F a1, F)).2 F) x a1 M := by
  obtain ⟨ad, hi, cap, am, hg, ho, hk, hF, hI, hM, rfl, rfl, hd⟩ := id h
  exact s_X3_laggard hF ⟨rfl, h⟩
theorem r_laggard {a1 : Int32} (hok : okF F) (h : lI G M x y F2 F) : wp_X4_laggard G (fun v M1 => v = ((xlag F a1, F)).1 ∧ lI G M1 x y F2 ((xlag F a1, F)).2) y a1 M := by
  obtain ⟨ad, hi, cap, am, hg, ho, hk, hF, hI, hM, rfl, rfl, hd⟩ := id h
  exact y_laggard hok hM ⟨rfl, h⟩
theorem l_put {u : Nat} (hu : u < 2 ^ 64) (hok : okF F) (h : lI G M x y F F) : wp_X3_put G (fun v M1 => v = (xput F u).1 ∧ lI G M1 x y (xput F u).2 F) x (lN u) M := by
  obtain ⟨ad, hi, cap, am, hg, ho, hk, hF, hI, hM, rfl, rfl, hd⟩ := id h
  exact s_X3_put hu hg ho hok.2.2.2.2.1 hF (l_xp hg hk hI hM rfl rfl hd)
theorem r_put {u : Nat} (hu : u < 2 ^ 64) (hok : okF F) (h : lI G M x y F2 F) : wp_X4_put G (fun v M1 => v = (xput F u).1 ∧ lI G M1 x y F2 (xput F u).2) y (lN u) M := by
  obtain ⟨ad, hi, cap, am, hg, ho, hk, hF, hI, hM, rfl, rfl, hd⟩ := id h
  exact y_put hu hI hok hM (l_yp hg ho hk hF hI rfl rfl hd)
theorem l_wipe (hok : okF F) (h : lI G M x y F F) : wp_X3_wipe G (fun v M1 => v = (xwipe F).1 ∧ lI G M1 x y (xwipe F).2 F) x  M := by
  obtain ⟨ad, hi, cap, am, hg, ho, hk, hF, hI, hM, rfl, rfl, hd⟩ := id h
  exact s_X3_wipe hg ho hF (l_xp hg hk hI hM rfl rfl hd)
theorem r_wipe (hok : okF F) (h : lI G M x y F2 F) : wp_X4_wipe G (fun v M1 => v = (xwipe F).1 ∧ lI G M1 x y F2 (xwipe F).2) y  M := by
  obtain ⟨ad, hi, cap, am, hg, ho, hk, hF, hI, hM, rfl, rfl, hd⟩ := id h
  exact y_wipe hI hM (l_yp hg ho hk hF hI rfl rfl hd)
theorem l_fault (hok : okF F) (h : lI G M x y F F) : wp_X3_fault G (fun v M1 => v = ((pFault F.ch F.pn, F)).1 ∧ lI G M1 x y ((pFault F.ch F.pn, F)).2 F) x  M := by
  obtain ⟨ad, hi, cap, am, hg, ho, hk, hF, hI, hM, rfl, rfl, hd⟩ := id h
  exact s_X3_fault hg ho hok.2.2.2.2.1 hF (l_xp hg hk hI hM rfl rfl hd)
theorem r_fault (hok : okF F) (h : lI G M x y F2 F) : wp_X4_fault G (fun v M1 => v = ((pFault F.ch F.pn, F)).1 ∧ lI G M1 x y F2 ((pFault F.ch F.pn, F)).2) y  M := by
  obtain ⟨ad, hi, cap, am, hg, ho, hk, hF, hI, hM, rfl, rfl, hd⟩ := id h
  exact y_fault hI hok hM (l_yp hg ho hk hF hI rfl rfl hd)
theorem l_undo (hok : okF F) (h : lI G M x y F F) : wp_X3_undo G (fun v M1 => v = (xundo F).1 ∧ lI G M1 x y (xundo F).2 F) x  M := by
  obtain ⟨ad, hi, cap, am, hg, ho, hk, hF, hI, hM, rfl, rfl, hd⟩ := id h
  exact s_X3_undo hg ho hok.2.2.1 hF (l_xp hg hk hI hM rfl rfl hd)
theorem r_undo (hok : okF F) (h : lI G M x y F2 F) : wp_X4_undo G (fun v M1 => v = (xundo F).1 ∧ lI G M1 x y F2 (xundo F).2) y  M := by
  obtain ⟨ad, hi, cap, am, hg, ho, hk, hF, hI, hM, rfl, rfl, hd⟩ := id h
  exact y_undo hI hok hM (l_yp hg ho hk hF hI rfl rfl hd)
theorem l_save {a1 : Int32} (hok : okF F) (h : lI G M x y F F) : wp_X3_save G (fun v M1 => v = (xsave F a1).1 ∧ lI G M1 x y (xsave F a1).2 F) x a1 M := by
  obtain ⟨ad, hi, cap, am, hg, ho, hk, hF, hI, hM, rfl, rfl, hd⟩ := id h
  exact s_X3_save hg ho hF (l_xp hg hk hI hM rfl rfl hd)
theorem r_save {a1 : Int32} (hok : okF F) (h : lI G M x y F2 F) : wp_X4_save G (fun v M1 => v = (xsave F a1).1 ∧ lI G M1 x y F2 (xsave F a1).2) y a1 M := by
  obtain ⟨ad, hi, cap, am, hg, ho, hk, hF, hI, hM, rfl, rfl, hd⟩ := id h
  exact y_save hI hok hM (l_yp hg ho hk hF hI rfl rfl hd)
theorem l_restore {a1 : Int32} (hok : okF F) (h : lI G M x y F F) : wp_X3_restore G (fun v M1 => v = (xrestore F a1).1 ∧ lI G M1 x y (xrestore F a1).2 F) x a1 M := by
  obtain ⟨ad, hi, cap, am, hg, ho, hk, hF, hI, hM, rfl, rfl, hd⟩ := id h
  exact s_X3_restore hg ho hok.2.2.1 hF (l_xp hg hk hI hM rfl rfl hd)
theorem r_restore {a1 : Int32} (hok : okF F) (h : lI G M x y F2 F) : wp_X4_restore G (fun v M1 => v = (xrestore F a1).1 ∧ lI G M1 x y F2 (xrestore F a1).2) y a1 M := by
  obtain ⟨ad, hi, cap, am, hg, ho, hk, hF, hI, hM, rfl, rfl, hd⟩ := id h
  exact y_restore hI hok hM (l_yp hg ho hk hF hI rfl rfl hd)
end LAW1
