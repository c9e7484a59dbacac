/-! ===== the JDK's text: numbers ===== -/
def digs (v : Nat) : List Nat := if v < 10 then [48 + v] else if v < 100 then [48 + v / 10, 48 + v % 10] else [48 + v / 100, 48 + v / 10 % 10, 48 + v % 10]
theorem digs1 {v : Nat} (h : v < 10) : digs v = [48 + v] := if_pos h
theorem digs2 {v : Nat} (h : ¬ v < 10) (h2 : v < 100) : digs v = [48 + v / 10, 48 + v % 10] := by rw [digs, if_neg h, if_pos h2]
theorem digs3 {v : Nat} (h2 : ¬ v < 100) : digs v = [48 + v / 100, 48 + v / 10 % 10, 48 + v % 10] := by rw [digs, if_neg (by omega), if_neg h2]
theorem digs_len (v : Nat) : 1 ≤ (digs v).length ∧ (digs v).length ≤ 3 := by
  unfold digs
  split
  · exact ⟨Nat.le_refl 1, by show 1 ≤ 3; omega⟩
  · split
    · exact ⟨by show 1 ≤ 2; omega, by show 2 ≤ 3; omega⟩
    · exact ⟨by show 1 ≤ 3; omega, Nat.le_refl 3⟩
section T2
variable {G : k_G} {M : k_M} {o b cap : Nat} {tl : List Nat}
theorem t_stringSize {post : Int32 → k_M → Prop} {v : Nat} (hv : v < 1000) (hp : post (nI (digs v).length) M) : wp_J6_stringSize_0f7a4 G post (nI v) M := by
  have at_ : ∀ {x y : Int32}, x = y → post y M → post x M := fun e h => e ▸ h
  unfold wp_J6_stringSize_0f7a4
  refine ⟨fun z => absurd z (nI_pos (by omega)), fun _ => ⟨11, ?_⟩⟩
  rw [wp_J6_stringSize_0f7a4_L16]
  refine ⟨fun z => absurd z (by decide), fun _ => ⟨fun h1 => ?_, fun h1 => ?_⟩⟩
  · have g1 : 10 ≤ v := (sb_nle (by omega) (by decide)).mp (show -nI v ≤ -nI 10 from h1)
    rw [show (10 : Int32) * (-10 : Int32) = -100 by decide, show (1 : Int32) + (1 : Int32) = 2 by decide, wp_J6_stringSize_0f7a4_L16]
    refine ⟨fun z => absurd z (by decide), fun _ => ⟨fun h2 => ?_, fun h2 => ?_⟩⟩
    · have g2 : 100 ≤ v := (sb_nle (by omega) (by decide)).mp (show -nI v ≤ -nI 100 from h2)
      rw [show (10 : Int32) * (-100 : Int32) = -1000 by decide, show (2 : Int32) + (1 : Int32) = 3 by decide, wp_J6_stringSize_0f7a4_L16]
      refine ⟨fun z => absurd z (by decide), fun _ => ⟨fun h3 => ?_, fun h3 => ?_⟩⟩
      · have g3 : 1000 ≤ v := (sb_nle (by omega) (by decide)).mp (show -nI v ≤ -nI 1000 from h3)
        omega
      · rw [digs3 (by omega)] at hp; exact at_ (y := nI 3) (by decide) hp
    · have g2 : ¬ 100 ≤ v := fun z => h2 ((sb_nle (by omega) (by decide)).mpr z)
      rw [digs2 (by omega) (by omega)] at hp; exact at_ (y := nI 2) (by decide) hp
  · have g1 : ¬ 10 ≤ v := fun z => h1 ((sb_nle (by omega) (by decide)).mpr z)
    rw [digs1 (by omega)] at hp; exact at_ (y := nI 1) (by decide) hp
def gcP (G : k_G) (M : k_M) (b cap n p : Nat) (f : Nat → Int32) (l : List Nat) (post : Int32 → k_M → Prop) : Prop :=
  ∀ (M1 : k_M) (f' : Nat → Int32), (∀ a, a ≠ b → M1 a = M a) → M1 b = some (kY G cap f') → (∀ j, j < n ∨ p ≤ j → f' j = f j) → (∀ i, i < l.length → f' (n + i) = sb_b (l.getD i 0)) → (sb_Fit f → sb_Fit f') → post (nI n) M1
theorem t_nb (c : Nat) : vp_nar .byte (nI c) = sb_b c := vp_nar_byte _
theorem t_gc1 {post : Int32 → k_M → Prop} {w p n k : Nat} {f : Nat → Int32} (hw : w < 100) (hcap : cap ≤ 142) (hb : M b = some (kY G cap f)) (hnp : n + (digs w).length = p) (hpm : p ≤ cap) (hp : gcP G M b cap n p f (digs w) post) : wp_J6_getChars_ba4f3_L22 G post (k + 1) (-nI w) b (nI p) 0 M := by
  have hd := digs_len w
  have e1 : -(-nI w) = nI w := Int32.neg_neg
  have ew : (nI w).toNatClampNeg = w := kcl (by omega)
  rw [wp_J6_getChars_ba4f3_L22]
  dsimp only
  rw [e1, ew, sb_m1 (show 0 < p by omega), kcl (show p - 1 < 2 ^ 31 by omega), t_nb]
  refine ⟨fun _ => ⟨kvin hw (by decide), _, _, hb, kvin (by omega) (by omega), fun M8 e8 => ⟨fun h9 => ?_, fun h9 => ?_⟩⟩, fun z => absurd ((sb_nlt (by decide) (by omega)).mpr hw) (show ¬ -nI 100 < -nI w from z)⟩
  · have g9 : w ≤ 9 := (sb_nle (by decide) (by omega)).mp (show -nI 9 ≤ -nI w from h9)
    have ed := digs1 (v := w) (by omega)
    rw [ed] at hnp hp
    have hl : n + 1 = p := hnp
    unfold wp_J6_getChars_ba4f3_b104
    refine ⟨fun _ => ?_, fun z => absurd rfl z⟩
    rw [show p - 1 = n by omega] at e8 ⊢
    refine hp M8 _ (fun a ha => kup_off e8 ha) (kup_at e8) (fun j hj => upd_n (by omega)) (fun i hi => ?_) (fun hf => sb_fitU hf (sb_fitB _))
    have : i = 0 := by have : i < 1 := hi; omega
    subst this
    rw [Nat.add_zero, upd_s, show w % 10 = w by omega]
    rfl
  · have g9 : ¬ w ≤ 9 := fun z => h9 ((sb_nle (by decide) (by omega)).mpr z)
    have ed := digs2 (v := w) (by omega) hw
    rw [ed] at hnp hp
    have hl : n + 2 = p := hnp
    rw [sb_m1 (show 0 < p - 1 by omega), kcl (show p - 1 - 1 < 2 ^ 31 by omega), t_nb]
    refine ⟨kvin hw (by decide), _, _, kup_at e8, kvin (by omega) (by omega), fun M2 e2 => ?_⟩
    unfold wp_J6_getChars_ba4f3_b104
    refine ⟨fun _ => ?_, fun z => absurd rfl z⟩
    rw [show p - 1 - 1 = n by omega] at e2 ⊢
    rw [show p - 1 = n + 1 by omega] at e2 e8
    refine hp M2 _ (fun a ha => (kup_off e2 ha).trans (kup_off e8 ha)) (kup_at e2) (fun j hj => by rw [upd_n (by omega), upd_n (by omega)]) (fun i hi => ?_) (fun hf => sb_fitU (sb_fitU hf (sb_fitB _)) (sb_fitB _))
    have hi2 : i < 2 := hi
    obtain rfl | rfl : i = 0 ∨ i = 1 := by omega
    · exact upd_s
    · rw [upd_n (by omega), upd_s]; rfl
theorem t_gc {post : Int32 → k_M → Prop} {w p n : Nat} {f : Nat → Int32} (hw : w < 1000) (hcap : cap ≤ 142) (hb : M b = some (kY G cap f)) (hnp : n + (digs w).length = p) (hpm : p ≤ cap) (hp : gcP G M b cap n p f (digs w) post) : wp_J6_getChars_ba4f3 G post (nI w) (nI p) b M := by
  unfold wp_J6_getChars_ba4f3
  refine ⟨fun _ => ?_, fun z => absurd (nI_pos' (by omega)) z⟩
  unfold wp_J6_getChars_ba4f3_b12
  refine ⟨fun z => absurd rfl z, fun _ => ⟨2, ?_⟩⟩
  by_cases h100 : w < 100
  · exact t_gc1 h100 hcap hb hnp hpm hp
  · have ed := digs3 (v := w) h100
    have hnp' : n + 3 = p := by rw [ed] at hnp; exact hnp
    rw [wp_J6_getChars_ba4f3_L22]
    dsimp only
    refine ⟨fun z => absurd ((sb_nlt (by decide) (by omega)).mp (show -nI 100 < -nI w from z)) h100, fun _ => fun y ey => ?_⟩
    rw [sb_ndiv (by omega), sb_nrem (by omega)] at ey
    subst ey
    have hm : w % 100 < 100 := Nat.mod_lt _ (by decide)
    rw [kcl (show w % 100 < 2 ^ 31 by omega), sb_m1 (show 0 < p by omega), kcl (show p - 1 < 2 ^ 31 by omega), t_nb, sb_m1 (show 0 < p - 1 by omega), kcl (show p - 1 - 1 < 2 ^ 31 by omega), t_nb, sb_ndiv (by omega)]
    refine ⟨kvin hm (by decide), _, _, hb, kvin (by omega) (by omega), fun M2 e2 => ⟨kvin hm (by decide), _, _, kup_at e2, kvin (by omega) (by omega), fun M3 e3 => ?_⟩⟩
    have ed1 := digs1 (v := w / 100) (by omega)
    rw [show p - 1 - 1 = n + 1 by omega] at e3 ⊢
    rw [show p - 1 = n + 2 by omega] at e2 e3
    refine t_gc1 (n := n) (by omega) hcap (kup_at e3) (by rw [ed1]; rfl) (by omega) (fun M4 f' f1 f2 f3 f4 f5 => ?_)
    refine hp M4 f' (fun a ha => (f1 a ha).trans ((kup_off e3 ha).trans (kup_off e2 ha))) f2 (fun j hj => ?_) (fun i hi => ?_) (fun hf => f5 (sb_fitU (sb_fitU hf (sb_fitB _)) (sb_fitB _)))
    · rw [f3 j (by omega), upd_n (by omega), upd_n (by omega)]
    · rw [ed] at hi ⊢
      have hi2 : i < 3 := hi
      obtain rfl | rfl | rfl : i = 0 ∨ i = 1 ∨ i = 2 := by omega
      · have := f4 0 (by rw [ed1]; show 0 < 1; omega)
        rw [ed1] at this
        exact this
      · rw [f3 _ (by omega), upd_s]
        show sb_b (48 + w % 100 / 10) = sb_b (48 + w / 10 % 10)
        exact congrArg sb_b (by omega)
      · rw [f3 _ (by omega), upd_n (by omega), upd_s]
        show sb_b (48 + w % 100 % 10) = sb_b (48 + w % 10)
        exact congrArg sb_b (by omega)
theorem t_appendInt {post : Option Nat → k_M → Prop} {v : Nat} (hv : v < 1000) (hl : tl.length + 3 ≤ 142) (hk : capOk cap) (hT : cTt G M o b cap tl)
    (hp : ∀ (M1 : k_M) (b' cap' : Nat), trF M M1 o b b' → capOk cap' → cTt G M1 o b' cap' (tl ++ digs v) → post (some o) M1) : wp_J4_append_bf812 G 1 142 post o (nI v) M := by
  have hT0 := hT
  have hd := digs_len v
  obtain ⟨mb, f, h0, h1, hf, hle, hlv⟩ := hT
  unfold wp_J4_append_bf812
  refine ⟨_, h0, 1, 142, by omega, by omega, ?_⟩
  unfold wp_J5_append_c97b9
  refine ⟨_, _, h0, rfl, by omega, by omega, t_stringSize hv ?_⟩
  rw [nI_add]
  refine ⟨_, h0, 1, 142, by omega, by omega, t_ensure (by omega) (by omega) hk hT0 (fun M1 b1 cap1 t1 k1 q1 hT1 => ?_)⟩
  have hob1 := hT1.ob
  have hc1 : cap1 ≤ 142 := by rcases k1 with z | z | z | z <;> omega
  obtain ⟨mb1, f1, g0, g1, gf, gl, gv⟩ := hT1
  refine ⟨_, g0, by omega, by omega, t_isLatin g0 ⟨fun z => absurd z (by decide), fun _ => ⟨_, _, g0, rfl, by omega, by omega, ?_⟩⟩⟩
  refine t_gc hv hc1 g1 rfl q1 (fun M2 f2 p1 p2 p3 p4 p5 => ?_)
  unfold wp_J5_append_c97b9_b48
  refine ⟨_, (p1 o hob1).trans g0, by simp, fun M3 e3 => ⟨by omega, by omega, o, rfl, by omega, by omega, ?_⟩⟩
  refine hp M3 b1 cap1 ⟨fun a e ha n1 n2 => ?_, t1.2⟩ k1 ⟨mb1, f2, by rw [kup_at e3, List.length_append]; rfl, (kup_off e3 (Ne.symm hob1)).trans p2, p5 gf, by rw [List.length_append]; exact q1, fun i hi => ?_⟩
  · obtain ⟨z1, z2⟩ := t1.q ha n1 n2
    rw [kup_off e3 n1, p1 a z2]; exact z1
  · rw [List.length_append] at hi
    by_cases hik : i < tl.length
    · rw [getD_l hik, p3 i (Or.inl hik)]
      exact gv i hik
    · obtain ⟨j, rfl⟩ : ∃ j, i = tl.length + j := ⟨i - tl.length, by omega⟩
      rw [getD_r]
      exact p4 j (by omega)
theorem t_length {post : Int32 → k_M → Prop} (hT : cTt G M o b cap tl) (hp : post (nI tl.length) M) : wp_J4_length_8abf5 G post o M := by
  obtain ⟨mb, f, h0, -⟩ := hT
  exact ⟨_, h0, _, _, h0, rfl, hp⟩
theorem t_setLength0 {post : k_M → Prop} (hk : capOk cap) (hT : cTx G M o b cap)
    (hp : ∀ (M1 : k_M), (∀ a, a ≠ o → M1 a = M a) → cTt G M1 o b cap [] → post M1) : wp_J4_setLength_d00df G 1 142 post o 0 M := by
  have hcap : cap ≤ 142 := by rcases hk with z | z | z | z <;> omega
  obtain ⟨mb, n, f, h0, h1, hf, hle⟩ := hT
  have hob : o ≠ b := fun z => by rw [z, h1] at h0; cases h0
  unfold wp_J4_setLength_d00df
  refine ⟨_, h0, 1, 142, by omega, by omega, ?_⟩
  unfold wp_J5_setLength_d00df
  refine ⟨fun _ => ⟨_, h0, 1, 142, by omega, by omega, ?_⟩, fun z => absurd (by decide) z⟩
  unfold wp_J5_ensureCapacityInternal_d00df
  refine ⟨_, _, h0, rfl, _, _, h1, _, _, h0, rfl, ?_⟩
  rw [sb_shr0]
  have hle0 : ((0 : Int32) - nI cap) ≤ 0 := by
    have e1 : (nI 0 - nI cap).toInt = ((0 : Nat) : Int) - cap := pk_sub_toInt (by omega) (by omega)
    show nI 0 - nI cap ≤ 0
    rw [Int32.le_iff_toInt_le, e1, Int32.toInt_zero]
    omega
  refine ⟨fun _ => ⟨by omega, by omega, ?_⟩, fun z => absurd hle0 z⟩
  have fin : ∀ (M1 : k_M) (mb1 : Int32), (∀ a, a ≠ o → M1 a = M a) → M1 o = some (kO 0 [.ref b, .int 0, .int mb1, .int (nI n)]) → wp_J5_setLength_d00df_b76 G 1 142 (fun M4 => (0 + 1) ≤ 1 ∧ (0 + 142) ≤ 142 ∧ post M4) o 0 (0 + 1) (0 + 142) M1 := by
    intro M1 mb1 f1 g0
    unfold wp_J5_setLength_d00df_b76
    refine ⟨_, g0, by simp, fun M2 e2 => ⟨by omega, by omega, by omega, by omega, ?_⟩⟩
    exact hp M2 (fun a ha => (kup_off e2 ha).trans (f1 a ha)) ⟨mb1, f, by rw [kup_at e2]; rfl, (kup_off e2 (Ne.symm hob)).trans ((f1 _ (Ne.symm hob)).trans h1), hf, Nat.zero_le _, fun i hi => absurd hi (Nat.not_lt_zero i)⟩
  refine ⟨_, _, h0, rfl, fun _ => ⟨_, _, h0, rfl, fun _ => fin M mb (fun _ _ => rfl) h0, fun _ => ⟨k_nar1, by decide, _, h0, by simp, fun M2 e2 => fin M2 1 (fun a ha => kup_off e2 ha) (by rw [kup_at e2]; rfl)⟩⟩, fun z => absurd (nI_pos' (by omega)) z⟩
theorem t_charAt {post : Int32 → k_M → Prop} {i : Nat} (hk : capOk cap) (hi : i < tl.length) (h256 : tl.getD i 0 < 256) (hT : cTt G M o b cap tl) (hp : post (nI (tl.getD i 0)) M) : wp_J4_charAt_5068e G post o (nI i) M := by
  have hcap : cap ≤ 142 := by rcases hk with z | z | z | z <;> omega
  obtain ⟨mb, f, h0, h1, hf, hle, hlv⟩ := hT
  obtain ⟨b1, b2, -⟩ := sb_byte _ h256
  have hc := (pk_charN (q := tl.getD i 0) (by omega)).1
  unfold wp_J4_charAt_5068e
  refine ⟨_, h0, ?_⟩
  unfold wp_J5_charAt_5068e
  refine ⟨_, _, h0, rfl, _, _, h0, rfl, _, _, h0, rfl, _, _, h1, fun y ey => ?_⟩
  have ey2 : y = nI tl.length := by rw [ey, sb_shr0]; exact if_neg (nI_nlt hle (by omega))
  subst ey2
  have hlt : nI i < nI tl.length := nI_lt hi (by omega)
  have fin : narrow .char (.int ((f i &&& (255 : Int32)).toUInt32 % 65536).toInt32) = .int ((f i &&& (255 : Int32)).toUInt32 % 65536).toInt32 ∧ narrow .char (.int ((f i &&& (255 : Int32)).toUInt32 % 65536).toInt32) = .int ((f i &&& (255 : Int32)).toUInt32 % 65536).toInt32 ∧ post ((f i &&& (255 : Int32)).toUInt32 % 65536).toInt32 M := by
    rw [hlv i hi, b1, b2]
    exact ⟨hc, hc, hp⟩
  have g : ∀ M18 : k_M, M18 = M → ((¬ (0 : Int32) = 0 → False) ∧ ((0 : Int32) = 0 → ∃ n20 f21, M18 b = some (kY G n20 f21) ∧ vp_in (nI i) n20 ∧ (narrow .char (.int ((((f21 (nI i).toNatClampNeg) &&& (255 : Int32))).toUInt32 % 65536).toInt32) = .int ((((f21 (nI i).toNatClampNeg) &&& (255 : Int32))).toUInt32 % 65536).toInt32 ∧ (narrow .char (.int ((((f21 (nI i).toNatClampNeg) &&& (255 : Int32))).toUInt32 % 65536).toInt32) = .int ((((f21 (nI i).toNatClampNeg) &&& (255 : Int32))).toUInt32 % 65536).toInt32 ∧ post ((((f21 (nI i).toNatClampNeg) &&& (255 : Int32))).toUInt32 % 65536).toInt32 M18)))) := by
    intro M18 e
    subst e
    refine ⟨fun z => absurd rfl z, fun _ => ⟨_, _, h1, kvin (by omega) (by omega), ?_⟩⟩
    rw [kcl (by omega)]
    exact fin
  exact ⟨⟨fun z => absurd z (nI_pos (by omega)), fun _ => ⟨fun _ => g M rfl, fun z => absurd hlt z⟩⟩, fun _ => ⟨fun z => absurd z (nI_pos (by omega)), fun _ => ⟨fun _ => g M rfl, fun z => absurd hlt z⟩⟩⟩
end T2
