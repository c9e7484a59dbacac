/-! ===== the reference: a stamp's text ===== -/
def mTx (G : k_G) (M : k_M) (am : Nat → Nat) (rc pl : Nat) (tl : List Nat) : Prop := M (am 0) = some (kO 5 (mO am rc pl (nI tl.length))) ∧ ∃ t, M (am 10) = some (kI G 128 t) ∧ ∀ i, i < tl.length → t i = nI (tl.getD i 0)
/-- the memory while a text is made -/
def mW (G : k_G) (M0 M1 : k_M) (am : Nat → Nat) (rc pl : Nat) (tl : List Nat) : Prop := (∀ a, a ≠ am 0 → a ≠ am 10 → M1 a = M0 a) ∧ mTx G M1 am rc pl tl
section G10
variable {G : k_G} {M0 : k_M} {am : Nat → Nat} {rc pl : Nat} {post : k_M → Prop}
theorem g_says {M1 : k_M} {tl : List Nat} {c : Nat} {postv : k_M → Prop} (hI : mInj am) (hl : tl.length < 128) (hT : mW G M0 M1 am rc pl tl) (hp : ∀ M2 : k_M, mW G M0 M2 am rc pl (tl ++ [c]) → postv M2) : wp_X4_says G postv (am 0) (nI c) M1 := by
  obtain ⟨f1, h0, t, h1, h2⟩ := hT
  unfold wp_X4_says
  refine ⟨_, _, h0, rfl, _, _, h0, rfl, _, _, h1, kvin hl (by omega), fun M2 e2 => ?_⟩
  rw [kcl (by omega)] at e2
  have q0 := (kup_off e2 (hI.ne (i := 0) (by omega) (by omega) (by omega))).trans h0
  refine ⟨_, _, q0, rfl, _, q0, by simp, fun M3 e3 => ?_⟩
  rw [kns] at e3
  refine hp M3 ⟨fun a a0 a10 => (kup_off e3 a0).trans ((kup_off e2 a10).trans (f1 a a0 a10)), by rw [kup_at e3, List.length_append]; rfl, _, (kup_off e3 (hI.ne (by omega) (by omega) (by omega))).trans (kup_at e2), fun i hi => ?_⟩
  rw [List.length_append] at hi
  have hi' : i < tl.length + 1 := hi
  by_cases hik : i = tl.length
  · subst hik
    have := getD_r (l := tl) (r := [c]) (i := 0)
    rw [Nat.add_zero] at this
    rw [upd_s, this]; rfl
  · rw [upd_n hik, getD_l (by omega)]
    exact h2 i (by omega)
theorem g_saysNumber {M1 : k_M} {tl : List Nat} {v : Nat} {postv : k_M → Prop} (hI : mInj am) (hv : v < 1000) (hl : tl.length + 3 ≤ 128) (hT : mW G M0 M1 am rc pl tl) (hp : ∀ M2 : k_M, mW G M0 M2 am rc pl (tl ++ digs v) → postv M2) : wp_X4_saysNumber G postv (am 0) (nI v) M1 := by
  have d10 : nI v / (10 : Int32) = nI (v / 10) := pk_div (a := v) (d := 10) (by omega) (by omega) (by omega)
  have d100 : nI v / (100 : Int32) = nI (v / 100) := pk_div (a := v) (d := 100) (by omega) (by omega) (by omega)
  have r10 : nI v - nI v / (10 : Int32) * (10 : Int32) = nI (v % 10) := pk_rem (a := v) (d := 10) (by omega) (by omega) (by omega)
  have r100 : nI (v / 10) - nI (v / 10) / (10 : Int32) * (10 : Int32) = nI (v / 10 % 10) := pk_rem (a := v / 10) (d := 10) (by omega) (by omega) (by omega)
  have b37 : ∀ (M2 : k_M) (l : List Nat), l.length + 1 ≤ 128 → mW G M0 M2 am rc pl l → (∀ M3 : k_M, mW G M0 M3 am rc pl (l ++ [48 + v % 10]) → postv M3) → wp_X4_saysNumber_b37 G postv (am 0) (nI v) M2 := by
    intro M2 l hl2 hT2 hp2
    unfold wp_X4_saysNumber_b37
    rw [r10, show (48 : Int32) + nI (v % 10) = nI (48 + v % 10) from nIa 48 _]
    exact ⟨_, hT2.2.1, g_says hI (by omega) hT2 hp2⟩
  have b17 : ∀ (M2 : k_M) (l : List Nat), l.length + 2 ≤ 128 → mW G M0 M2 am rc pl l → (v ≤ 9 → ∀ M3 : k_M, mW G M0 M3 am rc pl (l ++ [48 + v % 10]) → postv M3) → (9 < v → ∀ M3 : k_M, mW G M0 M3 am rc pl (l ++ [48 + v / 10 % 10] ++ [48 + v % 10]) → postv M3) → wp_X4_saysNumber_b17 G postv (am 0) (nI v) M2 := by
    intro M2 l hl2 hT2 ha hb
    unfold wp_X4_saysNumber_b17
    refine ⟨fun h => b37 M2 l (by omega) hT2 (ha ((nI_leI (b := 9) (by omega) (by omega)).mp h)), fun h => ⟨_, hT2.2.1, ?_⟩⟩
    have h9 : 9 < v := by
      rcases Nat.lt_or_ge 9 v with q | q
      · exact q
      · exact absurd (nI_le (b := 9) q (by omega)) h
    rw [d10, r100, show (48 : Int32) + nI (v / 10 % 10) = nI (48 + v / 10 % 10) from nIa 48 _]
    refine g_says hI (by omega) hT2 (fun M3 hT3 => b37 M3 _ (by rw [List.length_append]; show l.length + 1 + 1 ≤ 128; omega) hT3 (hb h9))
  unfold wp_X4_saysNumber
  refine ⟨fun h => b17 M1 tl (by omega) hT (fun h9 M3 hT3 => ?_) (fun h9 M3 hT3 => ?_), fun h => ⟨_, hT.2.1, ?_⟩⟩
  · rw [digs1 (by omega)] at hp
    rw [show v % 10 = v by omega] at hT3
    exact hp M3 hT3
  · have h99 : v ≤ 99 := (nI_leI (b := 99) (by omega) (by omega)).mp h
    rw [digs2 (by omega) (by omega)] at hp
    rw [show v / 10 % 10 = v / 10 by omega, List.append_assoc] at hT3
    exact hp M3 hT3
  · have h99 : ¬ v ≤ 99 := fun z => h (nI_le (b := 99) z (by omega))
    rw [digs3 (by omega)] at hp
    rw [d100, show (48 : Int32) + nI (v / 100) = nI (48 + v / 100) from nIa 48 _]
    refine g_says hI (by omega) hT (fun M2 hT2 => b17 M2 _ (by rw [List.length_append]; show tl.length + 1 + 2 ≤ 128; omega) hT2 (fun h9 => by omega) (fun _ M3 hT3 => hp M3 ?_))
    rw [List.append_assoc, List.append_assoc] at hT3
    exact hT3
theorem pr_desc {K : Nat → Int32 → Int32 → k_M → Prop} {p b d k : Nat} {M1 : k_M} : ∀ n, d + n ≤ 4 → b < 16 → (∀ e, d < e → e ≤ d + n → b % 2 ^ e ≠ 0) → wp_X4_print_L16 G post K k (am 0) (nI p) (nI b) (nI (2 ^ d)) M1 → wp_X4_print_L16 G post K (n + k) (am 0) (nI p) (nI b) (nI (2 ^ (d + n))) M1 := by
  intro n
  induction n with
  | zero => intro _ _ _ h; rw [Nat.zero_add]; exact h
  | succ n ih =>
    intro hn hb hne h
    have h1 := ih (by omega) hb (fun e e1 e2 => hne e e1 (by omega)) h
    have hp : 2 ^ (d + n + 1) ≤ 16 := Nat.pow_le_pow_right (by omega) (show d + n + 1 ≤ 4 by omega)
    have hq : 0 < 2 ^ (d + n) := Nat.pos_of_ne_zero (by simp)
    have e2 : 2 ^ (d + n + 1) = 2 ^ (d + n) + 2 ^ (d + n) := by rw [Nat.pow_succ]; omega
    have hrem : nI b - nI b / nI (2 ^ (d + n + 1)) * nI (2 ^ (d + n + 1)) = nI (b % 2 ^ (d + n + 1)) := pk_rem (by omega) (by omega) (by omega)
    have hlt : b % 2 ^ (d + n + 1) < 2 ^ (d + n + 1) := Nat.mod_lt _ (by omega)
    have hnz : ¬ nI (b % 2 ^ (d + n + 1)) = 0 := fun z => hne (d + n + 1) (by omega) (by omega) ((nI_eq (b := 0) (by omega) (by omega)).mp z)
    have hx0 : ¬ nI (2 ^ (d + n + 1)) = 0 := fun z => by
      have := (nI_eq (b := 0) (by omega) (by omega)).mp z
      omega
    rw [show n + 1 + k = (n + k) + 1 by omega, ← Nat.add_assoc, wp_X4_print_L16]
    dsimp only
    rw [hrem]
    refine ⟨fun z => absurd z (k_big (d := d + n) (by omega)), fun _ => ⟨hx0, fun _ => ?_, fun z => absurd z hnz⟩⟩
    unfold wp_X4_print_b40
    rw [hrem, k_half (d := d + n) (by omega)]
    exact ⟨hx0, fun _ => h1, fun z => absurd z hnz⟩
/-- a segment of cells is printed -/
theorem pr_Q {st : Nat → Int32} {p : Nat} (hI : mInj am) (h1 : M0 (am 1) = some (kI G 459 st)) (hp21 : p + 21 ≤ 459) (hv : ∀ c, c < 16 → uI (hR st p c) < 1000) : ∀ d, d ≤ 4 → ∀ (a r n7 kk : Nat) (M1 : k_M) (tl : List Nat), a % 2 ^ d = 0 → a + 2 ^ d ≤ 16 → 2 ^ d - 1 + r ≤ n7 → d + 1 ≤ kk → mW G M0 M1 am rc pl tl → tl.length + Lb d ≤ 128 →
    (∀ (M2 : k_M) (n' k82 : Nat), r ≤ n' → 6 - d ≤ k82 → mW G M0 M2 am rc pl (tl ++ tx (hR st p) d a) → wp_X4_print_L82 G post (wp_X4_print_L7 G post n') k82 (am 0) (nI p) (nI (a + 2 ^ d)) (nI (2 ^ (d + 1))) M2) →
    wp_X4_print_L16 G post (wp_X4_print_L7 G post n7) kk (am 0) (nI p) (nI a) (nI (2 ^ d)) M1 := by
  have k1 : ∀ (M1 : k_M) (tl : List Nat), mW G M0 M1 am rc pl tl → M1 (am 1) = some (kI G 459 st) := fun M1 tl h => (h.1 _ (hI.ne (by omega) (by omega) (by omega)) (hI.ne (by omega) (by omega) (by omega))).trans h1
  -- a number
  have b59 : ∀ d, d ≤ 4 → ∀ (a r n7 : Nat) (M1 : k_M) (tl : List Nat), a + 2 ^ d ≤ 16 → r ≤ n7 → mW G M0 M1 am rc pl tl → tl.length + 3 ≤ 128 → tx (hR st p) d a = digs (uI (hR st p a)) →
      (∀ (M2 : k_M) (n' k82 : Nat), r ≤ n' → 6 - d ≤ k82 → mW G M0 M2 am rc pl (tl ++ tx (hR st p) d a) → wp_X4_print_L82 G post (wp_X4_print_L7 G post n') k82 (am 0) (nI p) (nI (a + 2 ^ d)) (nI (2 ^ (d + 1))) M2) →
      wp_X4_print_b59 G post (wp_X4_print_L7 G post n7) (am 0) (nI p) (nI a) (nI (2 ^ d)) M1 := by
    intro d hd a r n7 M1 tl ha hr hW hl htx hC
    have hq : 0 < 2 ^ d := Nat.pos_of_ne_zero (by simp)
    unfold wp_X4_print_b59
    refine ⟨_, _, hW.2.1, rfl, _, _, k1 M1 tl hW, ?_⟩
    rw [kns, nIa, kcl (show p + 1 + a < 2 ^ 31 by omega), nIa, show (2 : Int32) * nI (2 ^ d) = nI (2 * 2 ^ d) from pk_mul 2 _]
    refine ⟨kvin (by omega) (by omega), _, hW.2.1, ?_⟩
    have ev : st (p + 1 + a) = nI (uI (hR st p a)) := (nI_uI (hR st p a)).symm
    rw [ev]
    refine g_saysNumber hI (hv a (by omega)) hl hW (fun M2 hW2 => ⟨6, ?_⟩)
    rw [show 2 * 2 ^ d = 2 ^ (d + 1) by rw [Nat.pow_succ]; omega]
    exact hC M2 n7 6 hr (by omega) (by rw [htx]; exact hW2)
  intro d
  induction d with
  | zero =>
    intro _ a r n7 kk M1 tl ha1 ha2 hn hk hW hl hC
    obtain ⟨k, rfl⟩ : ∃ k, kk = k + 1 := ⟨kk - 1, by omega⟩
    rw [wp_X4_print_L16]
    exact ⟨fun _ => b59 0 (by omega) a r n7 M1 tl ha2 (by have : 2 ^ 0 = 1 := rfl; omega) hW hl rfl hC, fun z => absurd (by decide) z⟩
  | succ d ih =>
    intro hd a r n7 kk M1 tl ha1 ha2 hn hk hW hl hC
    obtain ⟨k, rfl⟩ : ∃ k, kk = k + 1 := ⟨kk - 1, by omega⟩
    have hq : 0 < 2 ^ d := Nat.pos_of_ne_zero (by simp)
    have e2 : 2 ^ (d + 1) = 2 ^ d + 2 ^ d := by rw [Nat.pow_succ]; omega
    have hL3 := Lb_ge d
    have hLe : Lb (d + 1) = 2 * Lb d + 3 := rfl
    have hx0 : ¬ nI (2 ^ (d + 1)) = 0 := fun z => by
      have := (nI_eq (b := 0) (by omega) (by omega)).mp z
      omega
    have hrem : ∀ b, b < 2 ^ 31 → nI b - nI b / nI (2 ^ (d + 1)) * nI (2 ^ (d + 1)) = nI (b % 2 ^ (d + 1)) := fun b hb => pk_rem hb (by omega) (by omega)
    have hmid : (a + 2 ^ d) % 2 ^ (d + 1) = 2 ^ d := by
      rw [Nat.add_mod, ha1, Nat.zero_add, Nat.mod_mod, Nat.mod_eq_of_lt (by omega)]
    have hend : (a + 2 ^ d + 2 ^ d) % 2 ^ (d + 1) = 0 := by
      rw [Nat.add_assoc, ← e2, Nat.add_mod_right, ha1]
    have hlow : a % 2 ^ d = 0 := by
      have : a % 2 ^ (d + 1) % 2 ^ d = a % 2 ^ d := Nat.mod_mod_of_dvd a (by rw [e2]; exact ⟨2, by omega⟩)
      rw [← this, ha1, Nat.zero_mod]
    have hlow2 : (a + 2 ^ d) % 2 ^ d = 0 := by rw [Nat.add_mod_right, hlow]
    rw [wp_X4_print_L16]
    dsimp only
    rw [hrem a (by omega), ha1]
    refine ⟨fun z => absurd z (k_big (d := d) (by omega)), fun _ => ⟨hx0, fun z => absurd rfl z, fun _ => ⟨_, _, hW.2.1, rfl, g_areAlike (n := 459) (by omega) hp21 (by omega) ha2 (k1 M1 tl hW) ⟨fun h => ?_, fun h => ?_⟩⟩⟩⟩
    · have htx : tx (hR st p) (d + 1) a = digs (uI (hR st p a)) := by
        show (if leaf (hR st p) a (2 ^ (d + 1)) = true then digs (uI (hR st p a)) else _) = _
        rw [if_pos (k01_nz h)]
      exact b59 (d + 1) hd a r n7 M1 tl ha2 (by omega) hW (by omega) htx hC
    · have htx : tx (hR st p) (d + 1) a = [40] ++ tx (hR st p) d a ++ [44] ++ tx (hR st p) d (a + 2 ^ d) ++ [41] := by
        show (if leaf (hR st p) a (2 ^ (d + 1)) = true then digs (uI (hR st p a)) else [40] ++ tx (hR st p) d a ++ [44] ++ tx (hR st p) d (a + 2 ^ d) ++ [41]) = _
        rw [if_neg (by rw [k01_z.mp h]; decide)]
      have l1 := tx_len (hR st p) d a
      have l2 := tx_len (hR st p) d (a + 2 ^ d)
      unfold wp_X4_print_b40
      rw [hrem a (by omega), ha1, k_half (d := d) (by omega)]
      refine ⟨hx0, fun z => absurd rfl z, fun _ => ⟨_, hW.2.1, g_says (c := 40) hI (by omega) hW (fun M2 hW2 => ?_)⟩⟩
      have len1 : (tl ++ [40]).length = tl.length + 1 := List.length_append
      refine ih (by omega) a (1 + (2 ^ d - 1) + r) n7 k M2 (tl ++ [40]) hlow (by omega) (by omega) (by omega) hW2 (by omega) (fun M3 n' k82 hn' hk82 hW3 => ?_)
      obtain ⟨k8, rfl⟩ : ∃ k8, k82 = k8 + 1 := ⟨k82 - 1, by omega⟩
      have len2 : (tl ++ [40] ++ tx (hR st p) d a).length = tl.length + 1 + (tx (hR st p) d a).length := by rw [List.length_append, len1]
      have hmidz : ¬ nI (2 ^ d) = 0 := fun z => by
        have := (nI_eq (b := 0) (by omega) (by omega)).mp z
        omega
      rw [wp_X4_print_L82]
      dsimp only
      rw [hrem (a + 2 ^ d) (by omega), hmid]
      refine ⟨fun z => absurd z (fun y => absurd ((nI_ltI (a := 16) (by omega) (by omega)).mp y) (by omega)), fun _ => ⟨hx0, fun _ => ?_, fun z => absurd z hmidz⟩⟩
      unfold wp_X4_print_b111
      refine ⟨fun z => absurd z (kge (N := 16) (by omega) (by decide)), fun _ => ⟨_, hW3.2.1, g_says (c := 44) hI (by omega) hW3 (fun M4 hW4 => ?_)⟩⟩
      obtain ⟨n2, rfl⟩ : ∃ n2, n' = n2 + 1 := ⟨n' - 1, by omega⟩
      have len3 : (tl ++ [40] ++ tx (hR st p) d a ++ [44]).length = tl.length + 2 + (tx (hR st p) d a).length := by rw [List.length_append, len2]; show _ + 1 = _; omega
      rw [wp_X4_print_L7]
      refine ⟨fun z => absurd z (kge (N := 16) (by omega) (by decide)), fun _ => ⟨(4 - d) + (d + 1), ?_⟩⟩
      have hdesc := @pr_desc G am post (wp_X4_print_L7 G post n2) p (a + 2 ^ d) d (d + 1) M4 (4 - d) (by omega) (by omega) (fun e e1 e3 z => by
        have h2 : (a + 2 ^ d) % 2 ^ e % 2 ^ (d + 1) = (a + 2 ^ d) % 2 ^ (d + 1) := Nat.mod_mod_of_dvd _ (Nat.pow_dvd_pow 2 (by omega))
        rw [z, Nat.zero_mod, hmid] at h2
        omega)
      rw [show d + (4 - d) = 4 by omega] at hdesc
      refine hdesc ?_
      refine ih (by omega) (a + 2 ^ d) r n2 (d + 1) M4 _ hlow2 (by omega) (by omega) (by omega) hW4 (by omega) (fun M5 n5 k5 hn5 hk5 hW5 => ?_)
      obtain ⟨k6, rfl⟩ : ∃ k6, k5 = k6 + 1 := ⟨k5 - 1, by omega⟩
      have len4 : (tl ++ [40] ++ tx (hR st p) d a ++ [44] ++ tx (hR st p) d (a + 2 ^ d)).length = tl.length + 2 + (tx (hR st p) d a).length + (tx (hR st p) d (a + 2 ^ d)).length := by rw [List.length_append, len3]
      rw [wp_X4_print_L82]
      dsimp only
      rw [hrem (a + 2 ^ d + 2 ^ d) (by omega), hend]
      refine ⟨fun z => absurd z (fun y => absurd ((nI_ltI (a := 16) (by omega) (by omega)).mp y) (by omega)), fun _ => ⟨hx0, fun z => absurd rfl z, fun _ => ⟨_, hW5.2.1, g_says (c := 41) hI (by omega) hW5 (fun M6 hW6 => ?_)⟩⟩⟩
      rw [show nI (2 ^ (d + 1)) * (2 : Int32) = nI (2 ^ (d + 1) * 2) from pk_mul _ 2, ← Nat.pow_succ, show a + 2 ^ d + 2 ^ d = a + 2 ^ (d + 1) by omega]
      refine hC M6 n5 k6 hn5 (by omega) ?_
      rw [htx, ← List.append_assoc, ← List.append_assoc, ← List.append_assoc, ← List.append_assoc]
      exact hW6
theorem g_print {M : k_M} {st : Nat → Int32} {p : Nat} {tl0 : Int32} {postv : k_M → Prop} (hI : mInj am) (h0 : M (am 0) = some (kO 5 (mO am rc pl tl0))) (h1 : M (am 1) = some (kI G 459 st)) (h10 : ∃ t, M (am 10) = some (kI G 128 t)) (hp21 : p + 21 ≤ 459) (hv : ∀ c, c < 16 → uI (hR st p c) < 1000)
    (hp : ∀ M1 : k_M, mW G M M1 am rc pl (tx (hR st p) 4 0) → postv M1) : wp_X4_print G postv (am 0) (nI p) M := by
  unfold wp_X4_print
  refine ⟨_, h0, by simp, fun M2 e2 => ⟨17, ?_⟩⟩
  obtain ⟨t, h10⟩ := h10
  have hW : mW G M M2 am rc pl [] := ⟨fun a a0 _ => kup_off e2 a0, by rw [kup_at e2]; rfl, t, (kup_off e2 (hI.ne (by omega) (by omega) (by omega))).trans h10, fun i hi => absurd hi (Nat.not_lt_zero i)⟩
  rw [wp_X4_print_L7]
  refine ⟨fun z => absurd z (by decide), fun _ => ⟨5, ?_⟩⟩
  refine pr_Q (M0 := M) hI h1 hp21 hv 4 (by omega) 0 1 16 5 M2 [] (by decide) (by decide) (by decide) (by omega) hW (by decide) (fun M3 n' k82 hn' hk82 hW3 => ?_)
  obtain ⟨k8, rfl⟩ : ∃ k8, k82 = k8 + 1 := ⟨k82 - 1, by omega⟩
  obtain ⟨n2, rfl⟩ : ∃ n2, n' = n2 + 1 := ⟨n' - 1, by omega⟩
  rw [wp_X4_print_L82]
  refine ⟨fun _ => ?_, fun z => absurd (by decide) z⟩
  unfold wp_X4_print_b111
  refine ⟨fun _ => ?_, fun z => absurd (by decide) z⟩
  rw [wp_X4_print_L7]
  exact ⟨fun _ => hp M3 hW3, fun z => absurd (by decide) z⟩
end G10
