/-! ===== the law's acts ===== -/
theorem li_2m : ∀ i, i < 17 → (2 : Int32) * nI i = nI (2 * i) := by decide +kernel
theorem kCt_z {p : Nat → Bool} : ∀ {n : Nat}, kCt p n = 0 → ∀ i, i < n → p i = false := by
  intro n
  induction n with
  | zero => intro _ i hi; exact absurd hi (Nat.not_lt_zero i)
  | succ n ih =>
    intro h i hi
    rw [kCt] at h
    by_cases e : i = n
    · subst e
      cases hp : p i with
      | false => rfl
      | true => rw [hp, if_pos rfl] at h; omega
    · exact ih (by split at h <;> omega) i (by omega)
theorem kCt_one {x : Int32} (h : x ≠ 0) : 1 ≤ kCt (bt x) 32 := by
  rcases Nat.eq_zero_or_pos (kCt (bt x) 32) with z | z
  · exact absurd (b_ext (fun i hi => by rw [kCt_z z i hi, b_0])) h
  · exact z
theorem kMin_at {p : Nat → Bool} {n i : Nat} (h1 : ∀ k, k < i → p k = false) (h2 : i = n ∨ (i < n ∧ p i = true)) : kMin p n = i := by
  obtain ⟨a, b, c⟩ := kMin_spec p n
  rcases Nat.lt_trichotomy (kMin p n) i with z | z | z
  · have : kMin p n < n := by omega
    have := c this
    rw [h1 _ z] at this; cases this
  · exact z
  · rcases h2 with y | ⟨y1, y2⟩
    · omega
    · rw [b i z] at y2; cases y2
/-- a row of heights copied -/
theorem row_cp (f : Nat → Int64) (a b : Nat) : ∀ r c, c < 16 → hgt (vp_updL (vp_updL f (2 * a) (f (2 * b))) (2 * a + 1) ((vp_updL f (2 * a) (f (2 * b))) (2 * b + 1))) r c = if r = a then hgt f b c else hgt f r c := by
  intro r c hc
  have e1 : (vp_updL f (2 * a) (f (2 * b))) (2 * b + 1) = f (2 * b + 1) := updL_n (by omega)
  rw [e1]
  by_cases h : r = a
  · subst h
    rw [if_pos rfl]
    exact hgt_cong (by rw [updL_n (by omega), updL_s]) updL_s hc
  · rw [if_neg h]
    exact hgt_cong (by rw [updL_n (by omega), updL_n (by omega)]) (by rw [updL_n (by omega), updL_n (by omega)]) hc
section ACTS
variable {G : k_G} {M : k_M} {o sa ta ka qa wa cap t mc ms kc ks : Nat} {F : kF} {s : Nat → Int32} {f g : Nat → Int64} {q w : Nat → Int32} {post : Int32 → k_M → Prop}
theorem w_row {P : k_M → Prop} (hW : W5 G M o sa ta ka qa wa cap F s f g q w) {a b : Nat} (ha : a < 17) (hb : b < 17) (hp : ∀ M2 f', (∀ r c, c < 16 → hgt f' r c = if r = a then hgt f b c else hgt f r c) → W5 G M2 o sa ta ka qa wa cap F s f' g q w → P M2) :
    (∃ n1 f1, M ta = some (kJ G n1 f1) ∧ vp_in (nI (2 * b)) n1 ∧ (∃ n2 f2, M ta = some (kJ G n2 f2) ∧ vp_in (nI (2 * a)) n2 ∧ ∀ M1 : k_M, M1 = va_up M ta (some (kJ G n2 (vp_updL f2 (nI (2 * a)).toNatClampNeg (f1 (nI (2 * b)).toNatClampNeg)))) →
      (∃ n3 f3, M1 ta = some (kJ G n3 f3) ∧ vp_in (nI (2 * b + 1)) n3 ∧ (∃ n4 f4, M1 ta = some (kJ G n4 f4) ∧ vp_in (nI (2 * a + 1)) n4 ∧ ∀ M2 : k_M, M2 = va_up M1 ta (some (kJ G n4 (vp_updL f4 (nI (2 * a + 1)).toNatClampNeg (f3 (nI (2 * b + 1)).toNatClampNeg)))) → P M2)))) := by
  refine ⟨_, _, hW.L.2.1, kvin (by omega) (by decide), _, _, hW.L.2.1, kvin (by omega) (by decide), fun M1 e1 => ?_⟩
  try rw [kcl (show 2 * a < 2 ^ 31 by omega)] at e1
  try rw [kcl (show 2 * b < 2 ^ 31 by omega)] at e1
  have hW1 : W5 G M1 o sa ta ka qa wa cap F s (vp_updL f (2 * a) (f (2 * b))) g q w := by rw [e1]; exact hW.ut _
  refine ⟨_, _, hW1.L.2.1, kvin (by omega) (by decide), _, _, hW1.L.2.1, kvin (by omega) (by decide), fun M2 e2 => ?_⟩
  try rw [kcl (show 2 * a + 1 < 2 ^ 31 by omega)] at e2
  try rw [kcl (show 2 * b + 1 < 2 ^ 31 by omega)] at e2
  exact hp M2 _ (row_cp f a b) (by rw [e2]; exact hW1.ut _)
theorem w_kn {P : k_M → Prop} (hW : W5 G M o sa ta ka qa wa cap F s f g q w) {a b : Nat} (ha : a < 17) (hb : b < 17) (hp : ∀ M2, W5 G M2 o sa ta ka qa wa cap F s f (vp_updL g a (g b)) q w → P M2) :
    (∃ n1 f1, M ka = some (kJ G n1 f1) ∧ vp_in (nI b) n1 ∧ (∃ n2 f2, M ka = some (kJ G n2 f2) ∧ vp_in (nI a) n2 ∧ ∀ M1 : k_M, M1 = va_up M ka (some (kJ G n2 (vp_updL f2 (nI a).toNatClampNeg (f1 (nI b).toNatClampNeg)))) → P M1)) := by
  refine ⟨_, _, hW.L.2.2.1, kvin (by omega) (by decide), _, _, hW.L.2.2.1, kvin (by omega) (by decide), fun M1 e1 => ?_⟩
  try rw [kcl (show a < 2 ^ 31 by omega)] at e1
  try rw [kcl (show b < 2 ^ 31 by omega)] at e1
  exact hp M1 (by rw [e1]; exact hW.ug _)
theorem w_tick {P : k_M → Prop} {i : Nat} {sh : Int32} (hW : W5 G M o sa ta ka qa wa cap F s f g q w) (hi : i < 17) (hh : ∀ c, c < 16 → uI (hgt f i c) ≤ 120) (hp : ∀ M1 f', (∀ i' c', c' < 16 → hgt f' i' c' = if i' = i ∧ bt sh c' = true then rz (hgt f i) sh else hgt f i' c') → W5 G M1 o sa ta ka qa wa cap F s f' g q w → P M1) : wp_L_tick G P (nI i) sh ta M := s_L_tick hW.L.2.1 hi hh (fun f' hf' => hp _ f' hf' (hW.ut f'))
theorem w_take {P : k_M → Prop} {i j : Nat} (hW : W5 G M o sa ta ka qa wa cap F s f g q w) (hi : i < 17) (hj : j < 17) (hij : j ≠ i) (hp : ∀ M1 f', (∀ i' c', c' < 16 → hgt f' i' c' = if i' = i then mx (hgt f i) (hgt f j) c' else hgt f i' c') → W5 G M1 o sa ta ka qa wa cap F s f' (vp_updL g i (g i ||| g j)) q w → P M1) : wp_L_take G P (nI i) (nI j) ta ka M := s_L_take hW.L.2.1 hW.L.2.2.1 (w5ne hW.L.2.2.1 hW.L.2.1 (by decide)) hi hj hij (fun f' hf' => hp _ f' hf' ((hW.ut f').ug _))
/-- what the class does -/
theorem x_event {h : Nat} (hh : h < 8) (hl : F.S.sh h ≠ 0) (hec : F.S.ec < 120) : xevent F (nI h) = (nI F.S.ec, (evS F.S h, (remF F).2)) := by
  unfold xevent
  rw [if_neg (by rw [inH_lv hh hl]; decide), if_neg (by omega), kcl (by omega)]
theorem x_send {h : Nat} (hh : h < 8) (hl : F.S.sh h ≠ 0) : xsend F (nI h) = if 8 ≤ F.S.mc then (-4, F) else (nI F.S.mc, (sndS F.S h, (remF F).2)) := by
  unfold xsend
  rw [if_neg (by rw [inH_lv hh hl]; decide), kcl (by omega)]
theorem x_receive {h m : Nat} (hh : h < 8) (hl : F.S.sh h ≠ 0) (hm : m < F.S.mc) (hmc : F.S.mc ≤ 8) (hec : F.S.ec < 120) : xreceive F (nI h) (nI m) = (nI F.S.ec, (evS (tkS F.S h m) h, (remF F).2)) := by
  unfold xreceive
  rw [if_neg (by rw [inH_lv hh hl, inR_nI (by omega) hm]; decide), if_neg (by omega), kcl (show h < 2 ^ 31 by omega), kcl (show m < 2 ^ 31 by omega)]
theorem x_drop {m : Nat} (hm : m < F.S.mc) (hmc : F.S.mc ≤ 8) : xdrop F (nI m) = (nI (F.S.mc - 1), (rmS F.S m, (remF F).2)) := by
  unfold xdrop
  rw [if_neg (by rw [inR_nI (by omega) hm]; decide), kcl (by omega)]
theorem x_ifR0 {h m : Nat} (hh : h < 8) (hl : F.S.sh h ≠ 0) (hm : m < F.S.mc) (hmc : F.S.mc ≤ 8) : xifR F (nI h) (nI m) (0 : Int32) = nI (kCt (fun i => (F.S.ms m).2 i && !((F.S.hs h).2 i)) 128) + 1 := by
  have ek : (0 : Int32).toInt = (0 : Int) := by decide +kernel
  unfold xifR
  rw [if_neg (by rw [inH_lv hh hl, inR_nI (by omega) hm]; decide), kcl (show h < 2 ^ 31 by omega), kcl (show m < 2 ^ 31 by omega), ek, if_pos (by decide)]
theorem x_ifR1 {h m : Nat} (hh : h < 8) (hl : F.S.sh h ≠ 0) (hm : m < F.S.mc) (hmc : F.S.mc ≤ 8) : xifR F (nI h) (nI m) (1 : Int32) = ordf (rais (mrg (F.S.hs h) (F.S.ms m)) (F.S.sh h)) (F.S.ms m).1 := by
  have ek : (1 : Int32).toInt = (1 : Int) := by decide +kernel
  unfold xifR
  rw [if_neg (by rw [inH_lv hh hl, inR_nI (by omega) hm]; decide), kcl (show h < 2 ^ 31 by omega), kcl (show m < 2 ^ 31 by omega), ek, if_neg (by decide), if_pos (by decide)]
theorem x_ifR2 {h m : Nat} (hh : h < 8) (hl : F.S.sh h ≠ 0) (hm : m < F.S.mc) (hmc : F.S.mc ≤ 8) : xifR F (nI h) (nI m) (2 : Int32) = nI (kKn (rais (mrg (F.S.hs h) (F.S.ms m)) (F.S.sh h)) 4 0) := by
  have ek : (2 : Int32).toInt = (2 : Int) := by decide +kernel
  unfold xifR
  rw [if_neg (by rw [inH_lv hh hl, inR_nI (by omega) hm]; decide), kcl (show h < 2 ^ 31 by omega), kcl (show m < 2 ^ 31 by omega), ek, if_neg (by decide), if_neg (by decide), if_pos (by decide)]
section ONE
variable {K43 : Nat → Nat → Nat → Nat → Nat → Nat → Nat → Int32 → Nat → Nat → k_M → Prop} {x0 h : Nat} {x7 x8 x11 s0 : Int32}
theorem lr_le (hR : LR t F s f g q w) (ht : t < 28) {i : Nat} (hi : i < 8) (hl : F.S.sh i ≠ 0) : ∀ c, c < 16 → uI (hgt f i c) ≤ 120 := fun c hc => by
  obtain ⟨hok, hec, hq0, hq1, hsh, hsn, hhs, hms, hac, hap⟩ := hR
  rw [(hhs i hi hl).1 c hc]
  have := (hok.1.2.2.2.2.1 i hi hl).1 c hc
  omega
theorem a_event (hW : W5 G M o sa ta ka qa wa cap F s f g q w) (hR : LR t F s f g q w) (ht : t < 28) (hkc : kc ≤ mc) (hks : ks ≤ ms) (hh : h < 8) (hl : F.S.sh h ≠ 0) {kd : Nat} (k3 : 3 ≤ kd) (k7 : kd < 7)
    (hC : ∀ (M1 : k_M) (F1 : kF) (s1 : Nat → Int32) (f1 g1 : Nat → Int64) (q1 w1 : Nat → Int32), W5 G M1 o sa ta ka qa wa cap F1 s1 f1 g1 q1 w1 → LR (t + 1) F1 s1 f1 g1 q1 w1 → wp_L_law_b988 G mc ms post K43 x0 o sa ta ka qa wa x7 x8 kc ks M1) :
    wp_L_law_b144 G mc ms post K43 x0 o sa ta ka qa wa x7 x8 (nI kd) (nI h) x11 s0 kc ks M := by
  obtain ⟨hok, hec, hq0, hq1, hsh, hsn, hhs, hms, hac, hap⟩ := id hR
  unfold wp_L_law_b144
  refine ⟨fun _ => ⟨fun _ => ⟨fun h7 => absurd h7 (kge (N := 7) (i := kd) (by omega) (by decide)), fun _ => ?_⟩, fun h2 => absurd ((nI_eq (b := 2) (by omega) (by decide)).mp h2) (by omega)⟩, fun h2 => absurd (nI_le (a := 2) (by omega) (by omega)) h2⟩
  refine ⟨_, _, hW.L.1, kvin (by omega) (by decide), hkc, hks, ?_⟩
  try rw [kcl (show h < 2 ^ 31 by omega)]
  rw [hsh h hh]
  refine s_L_tick hW.L.2.1 (by omega) (lr_le hR ht hh hl) (fun f' hf' => ?_)
  have hW1 := hW.ut f'
  refine ⟨_, _, hW1.L.2.2.1, kvin (by omega) (by decide), _, _, hW1.L.2.2.2.1, vin1, _, _, hW1.L.2.2.1, kvin (by omega) (by decide), fun M2 e2 => ?_⟩
  try rw [kcl (show h < 2 ^ 31 by omega)] at e2
  try rw [e_1] at e2
  rw [hq1] at e2
  have hW2 : W5 G M2 o sa ta ka qa wa cap F s f' (vp_updL g h (g h ||| ((1 : Int64) <<< ((nI F.S.ec).toInt64 &&& 63)))) q w := by rw [e2]; exact hW1.ug _
  refine ⟨_, _, hW2.L.2.2.2.1, vin1, ?_⟩
  try rw [e_1]
  rw [hq1]
  refine ⟨_, _, hW2.L.2.2.2.2, kvin (show F.S.ec < 40 by omega) (by decide), fun M3 e3 => ?_⟩
  try rw [kcl (show F.S.ec < 2 ^ 31 by omega)] at e3
  have hW3 : W5 G M3 o sa ta ka qa wa cap F s f' (vp_updL g h (g h ||| ((1 : Int64) <<< ((nI F.S.ec).toInt64 &&& 63)))) q (upd w F.S.ec (nI h)) := by rw [e3]; exact hW2.uw _
  obtain ⟨fs, ho⟩ := hW3.obj
  refine ⟨fs, ho, hkc, hks, w_event hW3 hok.1.2.1 hok.2.2.1 (fun M4 hW4 => ?_)⟩
  rw [x_event hh hl (by omega)] at hW4 ⊢
  refine ⟨_, _, hW4.L.2.2.2.1, vin1, _, _, hW4.L.2.2.2.1, vin1, fun M5 e5 => ?_⟩
  try rw [e_1] at e5
  try rw [e_1]
  try rw [hq1] at e5
  try rw [hq1]
  have hW5 : W5 G M5 o sa ta ka qa wa cap (evS F.S h, (remF F).2) s f' (vp_updL g h (g h ||| ((1 : Int64) <<< ((nI F.S.ec).toInt64 &&& 63)))) (upd q 1 (nI F.S.ec + (1 : Int32))) (upd w F.S.ec (nI h)) := by rw [e5]; exact hW4.uq _
  refine ⟨fun _ => hC M5 _ _ _ _ _ _ hW5 ⟨?_, ?_, ?_⟩, fun z => absurd rfl z⟩
  · have := ok_event hok (nI h)
    rw [x_event hh hl (by omega)] at this
    exact this
  · show F.S.ec + 1 ≤ t + 1
    omega
  · have hv := hhs h hh hl
    refine LSt.ev hR.ls hh (fun r c _ hr hc => ?_) (fun r _ hr => updL_n hr) ⟨fun c hc => ?_, fun e he => ?_⟩ hok.1.1
    · rw [hf' r c hc, if_neg (fun z => hr z.1)]
    · rw [hf' h c hc]
      show _ = rais (F.S.hs h) (F.S.sh h) c
      unfold rais
      by_cases hb : bt (F.S.sh h) c = true
      · rw [if_pos ⟨rfl, hb⟩, if_pos hb]
        exact rz_cong (fun c hc => hv.1 c hc)
      · rw [if_neg (fun z => hb z.2), if_neg hb]
        exact hv.1 c hc
    · rw [updL_s, bl_or, bl_one (show F.S.ec < 64 by omega), hv.2 e he]
theorem a_send (hW : W5 G M o sa ta ka qa wa cap F s f g q w) (hR : LR t F s f g q w) (ht : t < 28) (hkc : kc ≤ mc) (hks : ks ≤ ms) (hh : h < 8) (hl : F.S.sh h ≠ 0) {kd : Nat} (k7 : 7 ≤ kd) (k9 : kd < 9)
    (hC : ∀ (M1 : k_M) (F1 : kF) (s1 : Nat → Int32) (f1 g1 : Nat → Int64) (q1 w1 : Nat → Int32), W5 G M1 o sa ta ka qa wa cap F1 s1 f1 g1 q1 w1 → LR (t + 1) F1 s1 f1 g1 q1 w1 → wp_L_law_b988 G mc ms post K43 x0 o sa ta ka qa wa x7 x8 kc ks M1) :
    wp_L_law_b144 G mc ms post K43 x0 o sa ta ka qa wa x7 x8 (nI kd) (nI h) x11 s0 kc ks M := by
  obtain ⟨hok, hec, hq0, hq1, hsh, hsn, hhs, hms, hac, hap⟩ := id hR
  have hmc := hok.1.1
  unfold wp_L_law_b144
  refine ⟨fun _ => ⟨fun _ => ⟨fun _ => ⟨fun h9 => absurd h9 (kge (N := 9) (i := kd) (by omega) (by decide)), fun _ => ?_⟩, fun h7 => absurd (nI_le (a := 7) (by omega) (by omega)) h7⟩, fun h2 => absurd ((nI_eq (b := 2) (by omega) (by decide)).mp h2) (by omega)⟩, fun h2 => absurd (nI_le (a := 2) (by omega) (by omega)) h2⟩
  obtain ⟨fs, ho⟩ := hW.obj
  refine ⟨fs, ho, hkc, hks, w_send hW hmc hok.2.2.1 (fun M1 hW1 => ?_)⟩
  refine ⟨_, _, hW1.L.2.2.2.1, vin0, ?_⟩
  try rw [e_0]
  rw [hq0]
  rw [x_send hh hl] at hW1 ⊢
  by_cases h8 : 8 ≤ F.S.mc
  · rw [if_pos h8] at hW1 ⊢
    have e8 : F.S.mc = 8 := by omega
    refine ⟨fun z => absurd (by rw [e8]; rfl) z, fun _ => ?_⟩
    unfold wp_L_law_b569
    refine ⟨fun _ => ⟨_, _, hW1.L.2.2.2.1, vin0, ?_⟩, fun z => absurd rfl z⟩
    try rw [e_0]
    rw [hq0]
    have hRt : LR (t + 1) F s f g q w := ⟨hok, by omega, hR.ls⟩
    exact ⟨fun _ => hC M1 _ _ _ _ _ _ hW1 hRt, fun z => absurd (nI_le (a := 8) h8 (by omega)) z⟩
  · rw [if_neg h8] at hW1 ⊢
    refine ⟨fun _ => ⟨_, _, hW1.L.2.2.2.1, vin0, ?_⟩, fun z => absurd ((nI_eq (b := 8) (by omega) (by decide)).mp z) (by omega)⟩
    try rw [e_0]
    rw [hq0]
    unfold wp_L_law_b569
    refine ⟨fun _ => ⟨_, _, hW1.L.2.2.2.1, vin0, ?_⟩, fun z => absurd rfl z⟩
    try rw [e_0]
    rw [hq0]
    refine ⟨fun z => absurd z (kge (N := 8) (by omega) (by decide)), fun _ => ⟨_, _, hW1.L.2.2.2.1, vin0, ?_⟩⟩
    refine ⟨_, _, hW1.L.2.2.2.1, vin0, fun M2 e2 y ey => ?_⟩
    try rw [e_0] at e2
    try rw [e_0] at ey
    rw [hq0] at e2
    rw [hq0] at ey
    rw [show (8 : Int32) + nI F.S.mc = nI (8 + F.S.mc) from nI_add 8 F.S.mc] at ey
    subst ey
    have hW2 : W5 G M2 o sa ta ka qa wa cap (sndS F.S h, (remF F).2) s f g (upd q 0 (nI F.S.mc + (1 : Int32))) w := by rw [e2]; exact hW1.uq _
    refine ⟨_, _, hW2.L.1, kvin (by omega) (by decide), fun M3 e3 => ?_⟩
    try rw [kcl (show 8 + F.S.mc < 2 ^ 31 by omega)] at e3
    have hW3 : W5 G M3 o sa ta ka qa wa cap (sndS F.S h, (remF F).2) (upd s (8 + F.S.mc) (nI h)) f g (upd q 0 (nI F.S.mc + (1 : Int32))) w := by rw [e3]; exact hW2.us _
    rw [li_2m h (by omega), li_2m (8 + F.S.mc) (by omega), kns, kns]
    refine w_row hW3 (a := 8 + F.S.mc) (b := h) (by omega) (by omega) (fun M4 f' hf' hW4 => w_kn hW4 (a := 8 + F.S.mc) (b := h) (by omega) (by omega) (fun M5 hW5 => ?_))
    refine hC M5 _ _ _ _ _ _ hW5 ⟨?_, ?_, ?_⟩
    · have := ok_send hok (nI h)
      rw [x_send hh hl, if_neg h8] at this
      exact this
    · show F.S.ec ≤ t + 1
      omega
    · refine LSt.snd hR.ls hh hl (by omega) (fun r c _ hc => hf' r c hc) (fun r _ => ?_)
      by_cases e : r = 8 + F.S.mc
      · rw [if_pos e, e, updL_s]
      · rw [if_neg e, updL_n e]
/-- dropping -/
theorem a_drop (hW : W5 G M o sa ta ka qa wa cap F s f g q w) (hR : LR t F s f g q w) (ht : t < 28) (hkc : kc ≤ mc) (hks : ks ≤ ms) {m : Nat} (hm : m < F.S.mc ∨ (F.S.mc = 0 ∧ m = 0))
    (hC : ∀ (M1 : k_M) (F1 : kF) (s1 : Nat → Int32) (f1 g1 : Nat → Int64) (q1 w1 : Nat → Int32), W5 G M1 o sa ta ka qa wa cap F1 s1 f1 g1 q1 w1 → LR (t + 1) F1 s1 f1 g1 q1 w1 → wp_L_law_b988 G mc ms post K43 x0 o sa ta ka qa wa x7 x8 kc ks M1) :
    wp_L_law_b857 G mc ms post K43 x0 o sa ta ka qa wa x7 x8 (11 : Int32) (nI m) kc ks M := by
  obtain ⟨hok, hec, hq0, hq1, hsh, hsn, hhs, hms, hac, hap⟩ := id hR
  have hmc := hok.1.1
  unfold wp_L_law_b857
  refine ⟨fun z => absurd rfl z, fun _ => ?_⟩
  obtain ⟨fs, ho⟩ := hW.obj
  refine ⟨fs, ho, hkc, hks, w_drop hW hmc hok.2.2.1 (fun M1 hW1 => ?_)⟩
  refine ⟨_, _, hW1.L.2.2.2.1, vin0, ?_⟩
  try rw [e_0]
  rw [hq0]
  rcases hm with hm | ⟨hm0, hm1⟩
  · rw [x_drop hm hmc] at hW1 ⊢
    refine ⟨fun _ => ⟨_, _, hW1.L.2.2.2.1, vin0, ?_⟩, fun z => absurd ((nI_eq (b := 0) (by omega) (by decide)).mp z) (by omega)⟩
    try rw [e_0]
    rw [hq0]
    rw [nI_sub1 (by omega)]
    unfold wp_L_law_b887
    rw [show (8 : Int32) + nI m = nI (8 + m) from nI_add 8 m]
    refine ⟨fun _ => ?_, fun z => absurd rfl z⟩
    have key : ∀ (n k : Nat), m + k + n + 1 = F.S.mc → ∀ (M2 : k_M) (s2 : Nat → Int32) (f2 g2 : Nat → Int64), W5 G M2 o sa ta ka qa wa cap (rmS F.S m, (remF F).2) s2 f2 g2 q w → LSt (rmv F.S m k) s2 f2 g2 q w → wp_L_law_L899 G mc ms post K43 (n + 1) x0 o sa ta ka qa wa x7 x8 (nI (8 + (m + k))) kc ks M2 := by
      intro n
      induction n with
      | zero =>
        intro k hk M2 s2 f2 g2 hW2 hL2
        have ek : k = F.S.mc - 1 - m := by omega
        rw [wp_L_law_L899]
        refine ⟨_, _, hW2.L.2.2.2.1, vin0, ?_⟩
        try rw [e_0]
        rw [hq0]
        rw [show (7 : Int32) + nI F.S.mc = nI (7 + F.S.mc) from nI_add 7 F.S.mc]
        refine ⟨fun _ => ⟨_, _, hW2.L.2.2.2.1, vin0, _, _, hW2.L.2.2.2.1, vin0, ?_⟩, fun z => absurd (nI_le (by omega) (by omega)) z⟩
        try rw [e_0]
        rw [hq0]
        refine ⟨fun z => absurd z (kge (N := F.S.mc) (i := 0) (by omega) (by omega)), fun _ => ?_⟩
        unfold wp_L_law_b986
        refine ⟨_, _, hW2.L.2.2.2.1, vin0, fun M3 e3 => ?_⟩
        try rw [e_0] at e3
        have hW3 : W5 G M3 o sa ta ka qa wa cap (rmS F.S m, (remF F).2) s2 f2 g2 (upd q 0 (nI F.S.mc - (1 : Int32))) w := by rw [e3]; exact hW2.uq _
        refine hC M3 _ _ _ _ _ _ hW3 ⟨?_, ?_, ?_⟩
        · have := ok_drop hok (nI m)
          rw [x_drop hm hmc] at this
          exact this
        · show (rmv F.S m (F.S.mc - 1 - m)).ec ≤ t + 1
          rw [(rmv_mc F.S m _).2]
          omega
        · rw [ek] at hL2
          exact LSt.rm hL2 hm
      | succ n ih =>
        intro k hk M2 s2 f2 g2 hW2 hL2
        rw [wp_L_law_L899]
        refine ⟨_, _, hW2.L.2.2.2.1, vin0, ?_⟩
        try rw [e_0]
        rw [hq0]
        rw [show (7 : Int32) + nI F.S.mc = nI (7 + F.S.mc) from nI_add 7 F.S.mc]
        refine ⟨fun z => absurd z (kge (by omega) (by omega)), fun _ => ?_⟩
        rw [kns, li_2m (8 + (m + k)) (by omega), show nI (2 * (8 + (m + k))) + (2 : Int32) = nI (2 * (8 + (m + k) + 1)) from (nI_add _ 2).trans (congrArg nI (by omega)), show nI (2 * (8 + (m + k))) + (3 : Int32) = nI (2 * (8 + (m + k) + 1) + 1) from (nI_add _ 3).trans (congrArg nI (by omega)), kns]
        refine ⟨_, _, hW2.L.1, kvin (by omega) (by decide), _, _, hW2.L.1, kvin (by omega) (by decide), fun M3 e3 => ?_⟩
        try rw [kcl (show 8 + (m + k) < 2 ^ 31 by omega)] at e3
        try rw [kcl (show 8 + (m + k) + 1 < 2 ^ 31 by omega)] at e3
        have hW3 : W5 G M3 o sa ta ka qa wa cap (rmS F.S m, (remF F).2) (upd s2 (8 + (m + k)) (s2 (8 + (m + k) + 1))) f2 g2 q w := by rw [e3]; exact hW2.us _
        refine w_row hW3 (a := 8 + (m + k)) (b := 8 + (m + k) + 1) (by omega) (by omega) (fun M4 f' hf' hW4 => w_kn hW4 (a := 8 + (m + k)) (b := 8 + (m + k) + 1) (by omega) (by omega) (fun M5 hW5 => ?_))
        refine ih (k + 1) (by omega) M5 _ _ _ hW5 ?_
        refine LSt.rm1 hL2 hmc (by omega) (fun r c _ hc => hf' r c hc) (fun r _ => ?_)
        by_cases e : r = 8 + (m + k)
        · rw [if_pos e, e, updL_s]; rfl
        · rw [if_neg e, updL_n e]
    have := key (F.S.mc - 1 - m) 0 (by omega) M1 s f g hW1 hR.ls
    exact ⟨_, this⟩
  · subst hm1
    have hd : xdrop F (nI 0) = (-1, F) := by
      unfold xdrop
      rw [if_pos (ts_nt (fun z => by
        obtain ⟨j, hj, _⟩ := inR_ex (by omega) z
        omega))]
    rw [hd] at hW1 ⊢
    rw [hm0]
    refine ⟨fun z => absurd rfl z, fun _ => ?_⟩
    unfold wp_L_law_b887
    refine ⟨fun _ => ⟨1, ?_⟩, fun z => absurd rfl z⟩
    rw [wp_L_law_L899]
    refine ⟨_, _, hW1.L.2.2.2.1, vin0, ?_⟩
    try rw [e_0]
    rw [hq0]
    rw [hm0]
    refine ⟨fun _ => ⟨_, _, hW1.L.2.2.2.1, vin0, _, _, hW1.L.2.2.2.1, vin0, ?_⟩, fun z => absurd (by decide +kernel) z⟩
    try rw [e_0]
    rw [hq0]
    rw [hm0]
    refine ⟨fun _ => ?_, fun z => absurd (by decide +kernel) z⟩
    unfold wp_L_law_b986
    refine ⟨_, _, hW1.L.2.2.2.1, vin0, fun M3 e3 => ?_⟩
    try rw [e_0] at e3
    have eq0 : upd q 0 (nI 0 - (0 : Int32)) = q := by
      funext i
      by_cases e : i = 0
      · rw [e, upd_s, hq0, hm0]; rfl
      · rw [upd_n e]
    rw [eq0] at e3
    have hW3 : W5 G M3 o sa ta ka qa wa cap F s f g q w := by rw [e3]; exact hW1.uq _
    have hRt : LR (t + 1) F s f g q w := ⟨hok, by omega, hR.ls⟩
    exact hC M3 _ _ _ _ _ _ hW3 hRt
theorem kCt_or {p r : Nat → Bool} (h : ∀ i, p i = true → r i = false) : ∀ n, kCt (fun i => p i || r i) n = kCt p n + kCt r n := by
  intro n
  induction n with
  | zero => rfl
  | succ n ih =>
    rw [kCt, kCt, kCt, ih]
    cases hp : p n with
    | true =>
      rw [h n hp]
      show kCt p n + kCt r n + 1 = kCt p n + 1 + (kCt r n + 0)
      omega
    | false =>
      show kCt p n + kCt r n + (if r n = true then 1 else 0) = kCt p n + 0 + (kCt r n + (if r n = true then 1 else 0))
      generalize (if r n = true then 1 else 0) = z
      omega
theorem a_gather (hW : W5 G M o sa ta ka qa wa cap F s f g q w) (hR : LR t F s f g q w) (ht : t < 28) (hkc : kc ≤ mc) (hks : ks ≤ ms) (hh : h < 8) (hl : F.S.sh h ≠ 0) {j : Nat} (hj : j < 8)
    (hC : ∀ (M1 : k_M) (F1 : kF) (s1 : Nat → Int32) (f1 g1 : Nat → Int64) (q1 w1 : Nat → Int32), W5 G M1 o sa ta ka qa wa cap F1 s1 f1 g1 q1 w1 → LR (t + 1) F1 s1 f1 g1 q1 w1 → wp_L_law_b988 G mc ms post K43 x0 o sa ta ka qa wa x7 x8 kc ks M1) :
    wp_L_law_b144 G mc ms post K43 x0 o sa ta ka qa wa x7 x8 (nI 2) (nI h) (nI j) s0 kc ks M := by
  obtain ⟨hok, hec, hq0, hq1, hsh, hsn, hhs, hms, hac, hap⟩ := id hR
  have hmc := hok.1.1
  have hRt : LR (t + 1) F s f g q w := ⟨hok, by omega, hR.ls⟩
  obtain ⟨fs, ho⟩ := hW.obj
  -- the class's answer
  have blk : ∀ b : Bool, b = (decide (F.S.sh j ≠ 0) && decide (j ≠ h)) → wp_L_law_b387 G mc ms post K43 x0 o sa ta ka qa wa x7 x8 (nI h) (nI j) (k01 b) kc ks M := by
    intro b hb
    unfold wp_L_law_b387
    refine ⟨_, _, hW.L.1, kvin (by omega) (by decide), hkc, hks, ?_⟩
    try rw [kcl (show h < 2 ^ 31 by omega)]
    rw [hsh h hh]
    refine s_L_bits ?_
    rw [kCt_i2l (hok.1.2.2.1 h hh)]
    refine ⟨_, _, hW.L.1, kvin (by omega) (by decide), hkc, hks, ?_⟩
    try rw [kcl (show j < 2 ^ 31 by omega)]
    rw [hsh j hj]
    refine s_L_bits ?_
    rw [kCt_i2l (hok.1.2.2.1 j hj)]
    refine ⟨fs, ho, hkc, hks, w_gather hW hok.2.2.1 (fun M1 hW1 => ⟨_, _, hW1.L.1, kvin (by omega) (by decide), ?_⟩)⟩
    try rw [kcl (show j < 2 ^ 31 by omega)]
    rw [hsh j hj]
    by_cases hz : F.S.sh j = 0
    · have ex : xgather F (nI j) (nI h) = (-1, F) := by
        unfold xgather
        rw [if_pos (Or.inl (by rw [inH_nI hj, decide_eq_true hz]; rfl))]
      rw [ex] at hW1 ⊢
      refine ⟨fun z => absurd hz z, fun _ => ?_⟩
      have hb0 : b = false := by rw [hb, decide_eq_false (fun z => z hz)]; rfl
      unfold wp_L_law_b439
      refine ⟨fun _ => ⟨fun _ => ?_, fun z => absurd (by rw [hb0]; rfl) z⟩, fun z => absurd rfl z⟩
      unfold wp_L_law_b475
      exact hC M1 _ _ _ _ _ _ hW1 hRt
    · refine ⟨fun _ => ?_, fun z => absurd z hz⟩
      by_cases hjh : j = h
      · have ex : xgather F (nI j) (nI h) = (-2, F) := by
          unfold xgather
          rw [if_neg (by rw [inH_lv hj hz, inH_lv hh hl]; decide), if_pos (by rw [hjh])]
        rw [ex] at hW1 ⊢
        have hb0 : b = false := by rw [hb, decide_eq_false (p := j ≠ h) (fun z => z hjh), Bool.and_false]
        refine ⟨fun _ => ?_, fun z => absurd (by rw [hb0]; rfl) z⟩
        unfold wp_L_law_b439
        refine ⟨fun _ => ⟨fun _ => ?_, fun z => absurd (by rw [hb0]; rfl) z⟩, fun z => absurd rfl z⟩
        unfold wp_L_law_b475
        exact hC M1 _ _ _ _ _ _ hW1 hRt
      · have hne : ¬ nI j = nI h := fun z => hjh ((nI_eq (by omega) (by omega)).mp z)
        have ex : xgather F (nI j) (nI h) = (nI (kCt (bt ((mrgS F.S j h).sh h)) 32), (mrgS F.S j h, (remF F).2)) := by
          unfold xgather
          rw [if_neg (by rw [inH_lv hj hz, inH_lv hh hl]; decide), if_neg hne, kcl (show j < 2 ^ 31 by omega), kcl (show h < 2 ^ 31 by omega)]
        have ect : kCt (bt ((mrgS F.S j h).sh h)) 32 = kCt (bt (F.S.sh h)) 32 + kCt (bt (F.S.sh j)) 32 := by
          have e1 : (mrgS F.S j h).sh h = F.S.sh h ||| F.S.sh j := by
            show upd (upd F.S.sh h (F.S.sh h ||| F.S.sh j)) j 0 h = _
            rw [upd_n (Ne.symm hjh), upd_s]
          rw [e1, ← kCt_or (fun i hi => hap h j i hh hj (Ne.symm hjh) hi)]
          exact kCt_cong (fun i _ => b_or _ _ i)
        have hb1 : b = true := by rw [hb, decide_eq_true hz, decide_eq_true hjh]; rfl
        have hokg := ok_gather hok (nI j) (nI h)
        rw [ex] at hW1 hokg ⊢
        rw [ect]
        refine ⟨fun z => absurd z (by rw [hb1]; decide), fun _ => ?_⟩
        rw [nI_add]
        unfold wp_L_law_b439
        refine ⟨fun _ => ⟨fun z => absurd z (by rw [hb1]; decide), fun _ => ⟨hkc, hks, ?_⟩⟩, fun z => absurd rfl z⟩
        refine s_L_take hW1.L.2.1 hW1.L.2.2.1 (w5ne hW1.L.2.2.1 hW1.L.2.1 (by decide)) (by omega) (by omega) hjh (fun f' hf' => ?_)
        have hW2 := (hW1.ut f').ug (vp_updL g h (g h ||| g j))
        refine ⟨_, _, hW2.L.1, kvin (by omega) (by decide), _, _, hW2.L.1, kvin (by omega) (by decide), _, _, hW2.L.1, kvin (by omega) (by decide), fun M3 e3 => ?_⟩
        try rw [kcl (show h < 2 ^ 31 by omega)] at e3
        try rw [kcl (show j < 2 ^ 31 by omega)] at e3
        rw [hsh h hh] at e3
        rw [hsh j hj] at e3
        have hW3 : W5 G M3 o sa ta ka qa wa cap (mrgS F.S j h, (remF F).2) (upd s h (F.S.sh h ||| F.S.sh j)) f' (vp_updL g h (g h ||| g j)) q w := by rw [e3]; exact hW2.us _
        refine ⟨_, _, hW3.L.1, kvin (by omega) (by decide), fun M4 e4 => ?_⟩
        try rw [kcl (show j < 2 ^ 31 by omega)] at e4
        have hW4 : W5 G M4 o sa ta ka qa wa cap (mrgS F.S j h, (remF F).2) (upd (upd s h (F.S.sh h ||| F.S.sh j)) j 0) f' (vp_updL g h (g h ||| g j)) q w := by rw [e4]; exact hW3.us _
        unfold wp_L_law_b475
        refine hC M4 _ _ _ _ _ _ hW4 ⟨hokg, ?_, LSt.mg hR.ls hj hh hjh hz hl hmc hf'⟩
        show F.S.ec ≤ t + 1
        omega
  unfold wp_L_law_b144
  refine ⟨fun _ => ⟨fun h2 => absurd rfl h2, fun _ => ?_⟩, fun h2 => absurd (by decide +kernel) h2⟩
  refine ⟨_, _, hW.L.1, kvin (by omega) (by decide), ?_⟩
  try rw [kcl (show j < 2 ^ 31 by omega)]
  rw [hsh j hj]
  refine ⟨fun hz => ?_, fun hz => ⟨fun hjh => ?_, fun hjh => ?_⟩⟩
  · unfold wp_L_law_b386
    exact blk false (by rw [decide_eq_false (fun z => z hz)]; rfl)
  · unfold wp_L_law_b386
    exact blk false (by rw [decide_eq_false (p := j ≠ h) (fun z => z ((nI_eq (by omega) (by omega)).mp hjh)), Bool.and_false])
  · exact blk true (by rw [decide_eq_true hz, decide_eq_true (show j ≠ h from fun z => hjh (by rw [z]))]; rfl)
theorem a_receive (hW : W5 G M o sa ta ka qa wa cap F s f g q w) (hR : LR t F s f g q w) (ht : t < 28) (hkc : kc ≤ mc) (hks : ks ≤ ms) (hh : h < 8) (hl : F.S.sh h ≠ 0) {kd m : Nat} (k9 : 9 ≤ kd) (k11 : kd < 11) (hm : m < F.S.mc)
    (hC : ∀ (M1 : k_M) (F1 : kF) (s1 : Nat → Int32) (f1 g1 : Nat → Int64) (q1 w1 : Nat → Int32), W5 G M1 o sa ta ka qa wa cap F1 s1 f1 g1 q1 w1 → LR (t + 1) F1 s1 f1 g1 q1 w1 → wp_L_law_b988 G mc ms post K43 x0 o sa ta ka qa wa x7 x8 kc ks M1) :
    wp_L_law_b144 G mc ms post K43 x0 o sa ta ka qa wa x7 x8 (nI kd) (nI h) x11 (nI m) kc ks M := by
  obtain ⟨hok, hec, hq0, hq1, hsh, hsn, hhs, hms, hac, hap⟩ := id hR
  have hmc := hok.1.1
  have hv := hhs h hh hl
  have hvm := hms m hm
  have hoh := hok.1.2.2.2.2.1 h hh hl
  have hom := hok.1.2.2.2.2.2 m hm
  unfold wp_L_law_b144
  refine ⟨fun _ => ⟨fun _ => ⟨fun _ => ⟨fun _ => ⟨fun h11 => absurd h11 (kge (N := 11) (i := kd) (by omega) (by decide)), fun _ => ?_⟩, fun h9 => absurd (nI_le (a := 9) (by omega) (by omega)) h9⟩, fun h7 => absurd (nI_le (a := 7) (by omega) (by omega)) h7⟩, fun h2 => absurd ((nI_eq (b := 2) (by omega) (by decide)).mp h2) (by omega)⟩, fun h2 => absurd (nI_le (a := 2) (by omega) (by omega)) h2⟩
  refine ⟨_, _, hW.L.2.2.2.1, vin0, ?_⟩
  try rw [e_0]
  rw [hq0]
  refine ⟨fun z => absurd z (kge (N := F.S.mc) (i := 0) (by omega) (by omega)), fun _ => ?_⟩
  rw [li_2m h (by omega), kns, show (8 : Int32) + nI m = nI (8 + m) from nI_add 8 m, show (32 : Int32) = nI (2 * 16) by decide +kernel, show (33 : Int32) = nI (2 * 16 + 1) by decide +kernel, show (16 : Int32) = nI 16 by decide +kernel]
  refine w_row hW (a := 16) (b := h) (by omega) (by omega) (fun M1 f1 hf1 hW1 => w_kn hW1 (a := 16) (b := h) (by omega) (by omega) (fun M2 hW2 => ⟨hkc, hks, ?_⟩))
  refine w_take (i := 16) (j := 8 + m) hW2 (by omega) (by omega) (by omega) (fun M3 f2 hf2 hW3 => ?_)
  have g3h : ∀ r, r < 16 → vp_updL (vp_updL g 16 (g h)) 16 (vp_updL g 16 (g h) 16 ||| vp_updL g 16 (g h) (8 + m)) r = g r := fun r hr => by rw [updL_n (by omega), updL_n (by omega)]
  have g316 : vp_updL (vp_updL g 16 (g h)) 16 (vp_updL g 16 (g h) 16 ||| vp_updL g 16 (g h) (8 + m)) 16 = g h ||| g (8 + m) := by rw [updL_s, updL_s, updL_n (by omega)]
  generalize vp_updL (vp_updL g 16 (g h)) 16 (vp_updL g 16 (g h) 16 ||| vp_updL g 16 (g h) (8 + m)) = g3 at hW3 g3h g316
  refine ⟨_, _, hW3.L.1, kvin (by omega) (by decide), hkc, hks, ?_⟩
  try rw [kcl (show h < 2 ^ 31 by omega)]
  rw [hsh h hh]
  have hr16 : ∀ c, c < 16 → hgt f2 16 c = mx (F.S.hs h).1 (F.S.ms m).1 c := fun c hc => by
    rw [hf2 16 c hc, if_pos rfl]
    unfold mx
    have a1 := hf1 16 c hc
    rw [if_pos rfl] at a1
    have a2 := hf1 (8 + m) c hc
    rw [if_neg (by omega)] at a2
    rw [a1, a2, hv.1 c hc, hvm.1 c hc]
  have hr : ∀ r c, r < 16 → c < 16 → hgt f2 r c = hgt f r c := fun r c h1 hc => by
    rw [hf2 r c hc, if_neg (by omega), hf1 r c hc, if_neg (by omega)]
  refine w_tick (i := 16) hW3 (by omega) (fun c hc => ?_) (fun M4 f3 hf3 hW4 => ?_)
  · rw [hr16 c hc]
    have := uI_mx (ec := F.S.ec) (c := c) (hoh.1 c hc) (hom.1 c hc)
    omega
  have hr16' : ∀ c, c < 16 → hgt f3 16 c = rais (mrg (F.S.hs h) (F.S.ms m)) (F.S.sh h) c := fun c hc => by
    rw [hf3 16 c hc]
    unfold rais
    by_cases hb : bt (F.S.sh h) c = true
    · rw [if_pos ⟨rfl, hb⟩, if_pos hb]
      exact rz_cong hr16
    · rw [if_neg (fun z => hb z.2), if_neg hb]
      exact hr16 c hc
  have hr' : ∀ r c, r < 16 → c < 16 → hgt f3 r c = hgt f r c := fun r c h1 hc => by
    rw [hf3 r c hc, if_neg (by omega), hr r c h1 hc]
  obtain ⟨fs4, ho4⟩ := hW4.obj
  refine ⟨fs4, ho4, hkc, hks, w_ifR hW4 hmc (fun M5 hW5 => ?_)⟩
  rw [x_ifR0 hh hl hm hmc]
  refine ⟨_, _, hW5.L.2.2.1, kvin (by omega) (by decide), hkc, hks, ?_⟩
  try rw [kcl (show 16 < 2 ^ 31 by omega)]
  rw [g316]
  refine s_L_bits ⟨_, _, hW5.L.2.2.1, kvin (by omega) (by decide), hkc, hks, ?_⟩
  try rw [kcl (show h < 2 ^ 31 by omega)]
  rw [g3h h (by omega)]
  refine s_L_bits ?_
  have hct : kCt (bl (g h ||| g (8 + m))) 64 = kCt (bl (g h)) 64 + kCt (fun i => (F.S.ms m).2 i && !((F.S.hs h).2 i)) 128 := by
    rw [← kCt_lo (p := fun i => (F.S.ms m).2 i && !((F.S.hs h).2 i)) (fun i hi => by rw [hom.2 i (by omega)]; rfl), kCt_cong (p := bl (g h)) (q := (F.S.hs h).2) (fun i hi => hv.2 i hi), ← kCt_or (r := fun i => (F.S.ms m).2 i && !((F.S.hs h).2 i)) (fun i hi => by rw [hi]; simp)]
    refine kCt_cong (fun i hi => ?_)
    rw [bl_or, hv.2 i hi, hvm.2 i hi]
    cases (F.S.hs h).2 i <;> cases (F.S.ms m).2 i <;> rfl
  have hsb : ∀ a b : Nat, nI (a + b) + (1 : Int32) - nI a = nI b + (1 : Int32) := fun a b => by
    rw [kns, pk_sub (by omega), kns, show a + b + 1 - a = b + 1 by omega]
  rw [hct, hsb]
  obtain ⟨fs5, ho5⟩ := hW5.obj
  refine ⟨fun z => absurd rfl z, fun _ => ⟨fs5, ho5, hkc, hks, w_ifR hW5 hmc (fun M6 hW6 => ⟨hkc, hks, ?_⟩)⟩⟩
  rw [x_ifR1 hh hl hm hmc]
  refine s_L_order hW6.L.2.1 (by omega) (by omega) ?_
  rw [ordf_cong hr16' (fun c hc => (hr' (8 + m) c (by omega) hc).trans (hvm.1 c hc))]
  obtain ⟨fs6, ho6⟩ := hW6.obj
  refine ⟨fun z => absurd rfl z, fun _ => ⟨fs6, ho6, hkc, hks, w_ifR hW6 hmc (fun M7 hW7 => ⟨hkc, hks, ?_⟩)⟩⟩
  rw [x_ifR2 hh hl hm hmc]
  refine s_L_knots hW7.L.2.1 (by omega) ?_
  rw [← kKn_rows, kKn_cong hr16' 4 0 (by decide)]
  refine ⟨fun _ => ?_, fun z => absurd rfl z⟩
  refine w_row hW7 (a := h) (b := 16) (by omega) (by omega) (fun M8 f4 hf4 hW8 => ?_)
  refine ⟨_, _, hW8.L.2.2.1, kvin (by omega) (by decide), _, _, hW8.L.2.2.2.1, vin1, _, _, hW8.L.2.2.1, kvin (by omega) (by decide), fun M9 e9 => ?_⟩
  try rw [kcl (show h < 2 ^ 31 by omega)] at e9
  try rw [kcl (show 16 < 2 ^ 31 by omega)] at e9
  try rw [e_1] at e9
  rw [hq1] at e9
  rw [g316] at e9
  have hW9 : W5 G M9 o sa ta ka qa wa cap F s f4 (vp_updL g3 h ((g h ||| g (8 + m)) ||| ((1 : Int64) <<< ((nI F.S.ec).toInt64 &&& 63)))) q w := by rw [e9]; exact hW8.ug _
  refine ⟨_, _, hW9.L.2.2.2.1, vin1, ?_⟩
  try rw [e_1]
  rw [hq1]
  refine ⟨_, _, hW9.L.2.2.2.2, kvin (show F.S.ec < 40 by omega) (by decide), fun M10 e10 => ?_⟩
  try rw [kcl (show F.S.ec < 2 ^ 31 by omega)] at e10
  have hW10 : W5 G M10 o sa ta ka qa wa cap F s f4 (vp_updL g3 h ((g h ||| g (8 + m)) ||| ((1 : Int64) <<< ((nI F.S.ec).toInt64 &&& 63)))) q (upd w F.S.ec (nI h)) := by rw [e10]; exact hW9.uw _
  obtain ⟨fs10, ho10⟩ := hW10.obj
  refine ⟨fs10, ho10, hkc, hks, w_receive hW10 hmc hok.1.2.1 hok.2.2.1 (fun M11 hW11 => ?_)⟩
  rw [x_receive hh hl hm hmc (by omega)] at hW11 ⊢
  refine ⟨_, _, hW11.L.2.2.2.1, vin1, _, _, hW11.L.2.2.2.1, vin1, fun M12 e12 => ?_⟩
  try rw [e_1] at e12
  try rw [e_1]
  try rw [hq1] at e12
  try rw [hq1]
  have hW12 : W5 G M12 o sa ta ka qa wa cap (evS (tkS F.S h m) h, (remF F).2) s f4 (vp_updL g3 h ((g h ||| g (8 + m)) ||| ((1 : Int64) <<< ((nI F.S.ec).toInt64 &&& 63)))) (upd q 1 (nI F.S.ec + (1 : Int32))) (upd w F.S.ec (nI h)) := by rw [e12]; exact hW11.uq _
  refine ⟨fun _ => hC M12 _ _ _ _ _ _ hW12 ⟨?_, ?_, ?_⟩, fun z => absurd rfl z⟩
  · have := ok_receive hok (nI h) (nI m)
    rw [x_receive hh hl hm hmc (by omega)] at this
    exact this
  · show F.S.ec + 1 ≤ t + 1
    omega
  · have ee : evS (tkS F.S h m) h = (F.S.sh, va_up F.S.hs h (rais (mrg (F.S.hs h) (F.S.ms m)) (F.S.sh h), fun i => (mrg (F.S.hs h) (F.S.ms m)).2 i || decide (i = F.S.ec)), F.S.ms, F.S.sn, F.S.mc, upd F.S.ac F.S.ec (nI h), F.S.ec + 1) := by
      show (F.S.sh, va_up (va_up F.S.hs h (mrg (F.S.hs h) (F.S.ms m))) h (rais (va_up F.S.hs h (mrg (F.S.hs h) (F.S.ms m)) h) (F.S.sh h), fun i => (va_up F.S.hs h (mrg (F.S.hs h) (F.S.ms m)) h).2 i || decide (i = F.S.ec)), F.S.ms, F.S.sn, F.S.mc, upd F.S.ac F.S.ec (nI h), F.S.ec + 1) = _
      rw [va_up2, vup_s]
    rw [ee]
    refine LSt.ev hR.ls hh (fun r c hr1 hr2 hc => ?_) (fun r hr1 hr2 => ?_) ⟨fun c hc => ?_, fun e he => ?_⟩ hmc
    · rw [hf4 r c hc, if_neg hr2, hr' r c hr1 hc]
    · rw [updL_n hr2, g3h r hr1]
    · rw [hf4 h c hc, if_pos rfl]
      exact hr16' c hc
    · rw [updL_s, bl_or, bl_or, bl_one (show F.S.ec < 64 by omega), hv.2 e he, hvm.2 e he]
      rfl
end ONE
end ACTS
