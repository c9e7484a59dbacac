/-! ===== a stamp's text that fits: nothing is made ===== -/
section Z1
variable {G : k_G} {M : k_M} {o b cap : Nat} {tl : List Nat}
theorem z_ensure {post : k_M → Prop} {mc ms q : Nat} (hq : q ≤ cap) (hc : capOk cap) (hT : cTt G M o b cap tl) (hp : post M) : wp_J5_ensureCapacityInternal_d00df G mc ms post o (nI q) M := by
  obtain ⟨mb, f, h0, h1, hf, hl, hv⟩ := hT
  have hcap : cap ≤ 142 := by rcases hc with z | z | z | z <;> omega
  have e1 : (nI q - nI cap).toInt = (q : Int) - cap := pk_sub_toInt (by omega) (by omega)
  unfold wp_J5_ensureCapacityInternal_d00df
  refine ⟨_, _, h0, rfl, _, _, h1, _, _, h0, rfl, ?_⟩
  rw [sb_shr0]
  refine ⟨fun h => ⟨Nat.zero_le _, Nat.zero_le _, hp⟩, fun h => absurd ?_ h⟩
  rw [Int32.le_iff_toInt_le, e1, Int32.toInt_zero]; omega
theorem z_appendChar {post : Option Nat → k_M → Prop} {mc ms c : Nat} (hc : c < 128) (hl : tl.length + 1 ≤ cap) (hk : capOk cap) (hT : cTt G M o b cap tl)
    (hp : ∀ (M1 : k_M), trF M M1 o b b → cTt G M1 o b cap (tl ++ [c]) → post (some o) M1) : wp_J4_append_cf468 G mc ms post o (nI c) M := by
  have hT0 := hT
  have hob1 := hT.ob
  obtain ⟨mb1, f1, g0, g1, gf, gl, gv⟩ := hT
  have hc1 : cap ≤ 142 := by rcases hk with z | z | z | z <;> omega
  unfold wp_J4_append_cf468
  refine ⟨_, g0, 0, 0, by omega, by omega, ?_⟩
  unfold wp_J5_append_3fe6f
  refine ⟨_, _, g0, rfl, _, g0, 0, 0, by omega, by omega, ?_⟩
  rw [kns]
  refine z_ensure hl hk hT0 ?_
  refine ⟨_, g0, by omega, by omega, t_isLatin g0 ⟨fun z => absurd z (by decide), fun _ => ⟨by omega, by omega, ?_⟩⟩⟩
  unfold wp_J1_canEncode_fc78d
  refine ⟨fun z => absurd z (show ¬ nI 255 < nI c from nI_nlt (by omega) (by decide)), fun _ => ⟨fun z => absurd z (by decide), fun _ => ⟨_, _, g0, rfl, _, _, g0, rfl, _, g0, by simp, fun M2 e2 => ?_⟩⟩⟩
  rw [kns] at e2
  refine ⟨_, _, (kup_off e2 (Ne.symm hob1)).trans g1, kvin (by omega) (by omega), fun M3 e3 => ⟨by omega, by omega, o, rfl, by omega, by omega, ?_⟩⟩
  rw [kcl (by omega), pk_vb] at e3
  refine hp M3 ⟨fun a e ha n1 n2 => ?_, Or.inl rfl⟩ ⟨mb1, _, by rw [kup_off e3 hob1, kup_at e2, List.length_append]; rfl, kup_at e3, sb_fitU gf (sb_fitB c), by rw [List.length_append]; exact hl, fun i hi => ?_⟩
  · rw [kup_off e3 n2, kup_off e2 n1]; exact ha
  · rw [List.length_append] at hi
    have hi' : i < tl.length + 1 := hi
    by_cases hik : i = tl.length
    · subst hik
      have := getD_r (l := tl) (r := [c]) (i := 0)
      rw [Nat.add_zero] at this
      rw [upd_s, this]
      rfl
    · rw [upd_n hik, getD_l (by omega)]
      exact gv i (by omega)
theorem z_appendInt {post : Option Nat → k_M → Prop} {mc ms v : Nat} (hv : v < 1000) (hl : tl.length + (digs v).length ≤ cap) (hk : capOk cap) (hT : cTt G M o b cap tl)
    (hp : ∀ (M1 : k_M), trF M M1 o b b → cTt G M1 o b cap (tl ++ digs v) → post (some o) M1) : wp_J4_append_bf812 G mc ms post o (nI v) M := by
  have hT0 := hT
  have hd := digs_len v
  have hob1 := hT.ob
  obtain ⟨mb1, f1, g0, g1, gf, gl, gv⟩ := hT
  have hc1 : cap ≤ 142 := by rcases hk with z | z | z | z <;> omega
  unfold wp_J4_append_bf812
  refine ⟨_, g0, 0, 0, by omega, by omega, ?_⟩
  unfold wp_J5_append_c97b9
  refine ⟨_, _, g0, rfl, by omega, by omega, t_stringSize hv ?_⟩
  rw [nI_add]
  refine ⟨_, g0, 0, 0, by omega, by omega, z_ensure hl hk hT0 ?_⟩
  refine ⟨_, g0, by omega, by omega, t_isLatin g0 ⟨fun z => absurd z (by decide), fun _ => ⟨_, _, g0, rfl, by omega, by omega, ?_⟩⟩⟩
  refine t_gc hv hc1 g1 rfl hl (fun M2 f2 p1 p2 p3 p4 p5 => ?_)
  unfold wp_J5_append_c97b9_b48
  refine ⟨_, (p1 o hob1).trans g0, by simp, fun M3 e3 => ⟨by omega, by omega, o, rfl, by omega, by omega, ?_⟩⟩
  refine hp M3 ⟨fun a e ha n1 n2 => ?_, Or.inl rfl⟩ ⟨mb1, f2, by rw [kup_at e3, List.length_append]; rfl, (kup_off e3 (Ne.symm hob1)).trans p2, p5 gf, by rw [List.length_append]; exact hl, fun i hi => ?_⟩
  · rw [kup_off e3 n1, p1 a n2]; exact ha
  · rw [List.length_append] at hi
    by_cases hik : i < tl.length
    · rw [getD_l hik, p3 i (Or.inl hik)]
      exact gv i hik
    · obtain ⟨j, rfl⟩ : ∃ j, i = tl.length + j := ⟨i - tl.length, by omega⟩
      rw [getD_r]
      exact p4 j (by omega)
theorem z_setLength0 {post : k_M → Prop} {mc ms : Nat} (hk : capOk cap) (hT : cTx G M o b cap)
    (hp : ∀ (M1 : k_M), (∀ a, a ≠ o → M1 a = M a) → cTt G M1 o b cap [] → post M1) : wp_J4_setLength_d00df G mc ms post o 0 M := by
  have hcap : cap ≤ 142 := by rcases hk with z | z | z | z <;> omega
  obtain ⟨mb, n, f, h0, h1, hf, hle⟩ := hT
  have hob : o ≠ b := fun z => by rw [z, h1] at h0; cases h0
  unfold wp_J4_setLength_d00df
  refine ⟨_, h0, 0, 0, by omega, by omega, ?_⟩
  unfold wp_J5_setLength_d00df
  refine ⟨fun _ => ⟨_, h0, 0, 0, by omega, by omega, ?_⟩, fun z => absurd (by decide) z⟩
  unfold wp_J5_ensureCapacityInternal_d00df
  refine ⟨_, _, h0, rfl, _, _, h1, _, _, h0, rfl, ?_⟩
  rw [sb_shr0]
  have hle0 : ((0 : Int32) - nI cap) ≤ 0 := by
    have e1 : (nI 0 - nI cap).toInt = ((0 : Nat) : Int) - cap := pk_sub_toInt (by omega) (by omega)
    show nI 0 - nI cap ≤ 0
    rw [Int32.le_iff_toInt_le, e1, Int32.toInt_zero]
    omega
  refine ⟨fun _ => ⟨by omega, by omega, ?_⟩, fun z => absurd hle0 z⟩
  have fin : ∀ (M1 : k_M) (mb1 : Int32), (∀ a, a ≠ o → M1 a = M a) → M1 o = some (kO 0 [.ref b, .int 0, .int mb1, .int (nI n)]) → wp_J5_setLength_d00df_b76 G 0 0 (fun M4 => (0 + 0) ≤ mc ∧ (0 + 0) ≤ ms ∧ post M4) o 0 (0 + 0) (0 + 0) M1 := by
    intro M1 mb1 f1 g0
    unfold wp_J5_setLength_d00df_b76
    refine ⟨_, g0, by simp, fun M2 e2 => ⟨by omega, by omega, by omega, by omega, ?_⟩⟩
    exact hp M2 (fun a ha => (kup_off e2 ha).trans (f1 a ha)) ⟨mb1, f, by rw [kup_at e2]; rfl, (kup_off e2 (Ne.symm hob)).trans ((f1 _ (Ne.symm hob)).trans h1), hf, Nat.zero_le _, fun i hi => absurd hi (Nat.not_lt_zero i)⟩
  refine ⟨_, _, h0, rfl, fun _ => ⟨_, _, h0, rfl, fun _ => fin M mb (fun _ _ => rfl) h0, fun _ => ⟨k_nar1, by decide, _, h0, by simp, fun M2 e2 => fin M2 1 (fun a ha => kup_off e2 ha) (by rw [kup_at e2]; rfl)⟩⟩, fun z => absurd (nI_pos' (by omega)) z⟩
end Z1
def rowSpecz (wp : Nat → Nat → (k_M → Prop) → Nat → Int32 → Int32 → Nat → k_M → Prop) (G : k_G) (d : Nat) : Prop :=
  ∀ (M : k_M) (o b cap : Nat) (tl : List Nat) (q : Nat) (f : Nat → Int32) (a mc ms : Nat) (post : k_M → Prop), M q = some (kI G 16 f) → q ≠ o → q ≠ b → (∀ c, c < 16 → uI (f c) < 1000) → a + 2 ^ d ≤ 16 → tl.length + (tx f d a).length ≤ cap → capOk cap → cTt G M o b cap tl →
    (∀ (M1 : k_M), trF M M1 o b b → cTt G M1 o b cap (tl ++ tx f d a) → post M1) → wp mc ms post q (nI a) (nI (2 ^ d)) o M

theorem z_b14_v1 {G : k_G} {M : k_M} {o b cap mc ms : Nat} {tl : List Nat} {q a : Nat} {f : Nat → Int32} {post : k_M → Prop} (hq : M q = some (kI G 16 f)) (ha : a < 16) (hv : uI (f a) < 1000) (hl : tl.length + (digs (uI (f a))).length ≤ cap) (hk : capOk cap) (hT : cTt G M o b cap tl)
    (hp : ∀ (M1 : k_M), trF M M1 o b b → cTt G M1 o b cap (tl ++ digs (uI (f a))) → post M1) : wp_X1_printRow_v1_b14 G mc ms post q (nI a) o 0 0 M := by
  obtain ⟨_, _, h0, -⟩ := id hT
  unfold wp_X1_printRow_v1_b14
  refine ⟨_, _, hq, kvin ha (by decide), _, h0, 0, 0, by omega, by omega, ?_⟩
  rw [kcl (by omega), ← nI_uI (f a)]
  exact z_appendInt hv hl hk hT (fun M1 t1 hT1 => ⟨o, rfl, by omega, by omega, hp M1 t1 hT1⟩)
theorem rowz_v1 (G : k_G) : rowSpecz (wp_X1_printRow_v1 G) G 0 := by
  intro M o b cap tl q f a mc ms post hq hqo hqb hv ha hl hk hT hp
  unfold wp_X1_printRow_v1
  refine ⟨fun _ => z_b14_v1 hq (by omega) (hv a (by omega)) hl hk hT hp, fun z => absurd (by decide) z⟩
theorem z_b14_v2 {G : k_G} {M : k_M} {o b cap mc ms : Nat} {tl : List Nat} {q a : Nat} {f : Nat → Int32} {post : k_M → Prop} (hq : M q = some (kI G 16 f)) (ha : a < 16) (hv : uI (f a) < 1000) (hl : tl.length + (digs (uI (f a))).length ≤ cap) (hk : capOk cap) (hT : cTt G M o b cap tl)
    (hp : ∀ (M1 : k_M), trF M M1 o b b → cTt G M1 o b cap (tl ++ digs (uI (f a))) → post M1) : wp_X1_printRow_v2_b14 G mc ms post q (nI a) o 0 0 M := by
  obtain ⟨_, _, h0, -⟩ := id hT
  unfold wp_X1_printRow_v2_b14
  refine ⟨_, _, hq, kvin ha (by decide), _, h0, 0, 0, by omega, by omega, ?_⟩
  rw [kcl (by omega), ← nI_uI (f a)]
  exact z_appendInt hv hl hk hT (fun M1 t1 hT1 => ⟨o, rfl, by omega, by omega, hp M1 t1 hT1⟩)
theorem rowz_v2 (G : k_G) : rowSpecz (wp_X1_printRow_v2 G) G 1 := by
  intro M o b cap tl q f a mc ms post hq hqo hqb hv ha hl hk hT hp
  have ha' : a + 2 ≤ 16 := ha
  unfold wp_X1_printRow_v2
  refine ⟨fun z => absurd z (k_big (d := 0) (by omega)), fun _ => ⟨by omega, by omega, ?_⟩⟩
  rw [k_half (d := 0) (by omega), nI_add]
  refine s_X1_isLeaf (s := 2) hq (by omega) ha' ⟨fun hz => ?_, fun hz => ?_⟩
  · have hlf : leaf f a 2 = false := k01_z.mp hz
    have etx : tx f 1 a = [40] ++ tx f 0 a ++ [44] ++ tx f 0 (a + 1) ++ [41] := by
      show (if leaf f a 2 = true then digs (uI (f a)) else [40] ++ tx f 0 a ++ [44] ++ tx f 0 (a + 1) ++ [41]) = _
      rw [if_neg (by rw [hlf]; decide)]
    have hlen : (tx f 1 a).length = (tx f 0 a).length + (tx f 0 (a + 1)).length + 3 := by
      rw [etx]
      simp only [List.length_append, List.length_cons, List.length_nil]
      omega
    obtain ⟨_, _, g0, -⟩ := id hT
    refine ⟨_, g0, 0, 0, by omega, by omega, z_appendChar (c := 40) (by omega) (by omega) hk hT (fun M1 t1 T1 => ⟨o, rfl, 0, 0, by omega, by omega, ?_⟩)⟩
    obtain ⟨q1, n1⟩ := t1.q hq hqo hqb
    have len1 : (tl ++ [40]).length = tl.length + 1 := List.length_append
    refine rowz_v1 G M1 o b cap (tl ++ [40]) q f a _ _ _ q1 hqo n1 hv (show a + 1 ≤ 16 by omega) (by omega) hk T1 (fun M2 t2 T2 => ?_)
    have t12 := t1.trans t2 T1.oo.choose_spec
    obtain ⟨q2, n2⟩ := t12.q hq hqo hqb
    have len2 : (tl ++ [40] ++ tx f 0 a).length = tl.length + 1 + (tx f 0 a).length := by rw [List.length_append, len1]
    obtain ⟨_, _, g2, -⟩ := id T2
    refine ⟨_, g2, 0, 0, by omega, by omega, z_appendChar (c := 44) (by omega) (by omega) hk T2 (fun M3 t3 T3 => ⟨o, rfl, 0, 0, by omega, by omega, ?_⟩)⟩
    have t13 := t12.trans t3 T2.oo.choose_spec
    obtain ⟨q3, n3⟩ := t13.q hq hqo hqb
    have len3 : (tl ++ [40] ++ tx f 0 a ++ [44]).length = tl.length + 2 + (tx f 0 a).length := by rw [List.length_append, len2]; show _ + 1 = _; omega
    refine rowz_v1 G M3 o b cap _ q f (a + 1) _ _ _ q3 hqo n3 hv (show a + 1 + 1 ≤ 16 by omega) (by omega) hk T3 (fun M4 t4 T4 => ?_)
    have t14 := t13.trans t4 T3.oo.choose_spec
    have len4 : (tl ++ [40] ++ tx f 0 a ++ [44] ++ tx f 0 (a + 1)).length = tl.length + 2 + (tx f 0 a).length + (tx f 0 (a + 1)).length := by rw [List.length_append, len3]
    obtain ⟨_, _, g4, -⟩ := id T4
    refine ⟨_, g4, 0, 0, by omega, by omega, z_appendChar (c := 41) (by omega) (by omega) hk T4 (fun M5 t5 T5 => ⟨o, rfl, by omega, by omega, ?_⟩)⟩
    refine hp M5 (t14.trans t5 T4.oo.choose_spec) ?_
    rw [etx, ← List.append_assoc, ← List.append_assoc, ← List.append_assoc, ← List.append_assoc]
    exact T5
  · have hlf : leaf f a 2 = true := k01_nz hz
    have etx : tx f 1 a = digs (uI (f a)) := by
      show (if leaf f a 2 = true then digs (uI (f a)) else [40] ++ tx f 0 a ++ [44] ++ tx f 0 (a + 1) ++ [41]) = _
      rw [if_pos hlf]
    rw [etx] at hp hl
    exact z_b14_v2 hq (by omega) (hv a (by omega)) hl hk hT hp
theorem z_b14_v3 {G : k_G} {M : k_M} {o b cap mc ms : Nat} {tl : List Nat} {q a : Nat} {f : Nat → Int32} {post : k_M → Prop} (hq : M q = some (kI G 16 f)) (ha : a < 16) (hv : uI (f a) < 1000) (hl : tl.length + (digs (uI (f a))).length ≤ cap) (hk : capOk cap) (hT : cTt G M o b cap tl)
    (hp : ∀ (M1 : k_M), trF M M1 o b b → cTt G M1 o b cap (tl ++ digs (uI (f a))) → post M1) : wp_X1_printRow_v3_b14 G mc ms post q (nI a) o 0 0 M := by
  obtain ⟨_, _, h0, -⟩ := id hT
  unfold wp_X1_printRow_v3_b14
  refine ⟨_, _, hq, kvin ha (by decide), _, h0, 0, 0, by omega, by omega, ?_⟩
  rw [kcl (by omega), ← nI_uI (f a)]
  exact z_appendInt hv hl hk hT (fun M1 t1 hT1 => ⟨o, rfl, by omega, by omega, hp M1 t1 hT1⟩)
theorem rowz_v3 (G : k_G) : rowSpecz (wp_X1_printRow_v3 G) G 2 := by
  intro M o b cap tl q f a mc ms post hq hqo hqb hv ha hl hk hT hp
  have ha' : a + 4 ≤ 16 := ha
  unfold wp_X1_printRow_v3
  refine ⟨fun z => absurd z (k_big (d := 1) (by omega)), fun _ => ⟨by omega, by omega, ?_⟩⟩
  rw [k_half (d := 1) (by omega), nI_add]
  refine s_X1_isLeaf (s := 4) hq (by omega) ha' ⟨fun hz => ?_, fun hz => ?_⟩
  · have hlf : leaf f a 4 = false := k01_z.mp hz
    have etx : tx f 2 a = [40] ++ tx f 1 a ++ [44] ++ tx f 1 (a + 2) ++ [41] := by
      show (if leaf f a 4 = true then digs (uI (f a)) else [40] ++ tx f 1 a ++ [44] ++ tx f 1 (a + 2) ++ [41]) = _
      rw [if_neg (by rw [hlf]; decide)]
    have hlen : (tx f 2 a).length = (tx f 1 a).length + (tx f 1 (a + 2)).length + 3 := by
      rw [etx]
      simp only [List.length_append, List.length_cons, List.length_nil]
      omega
    obtain ⟨_, _, g0, -⟩ := id hT
    refine ⟨_, g0, 0, 0, by omega, by omega, z_appendChar (c := 40) (by omega) (by omega) hk hT (fun M1 t1 T1 => ⟨o, rfl, 0, 0, by omega, by omega, ?_⟩)⟩
    obtain ⟨q1, n1⟩ := t1.q hq hqo hqb
    have len1 : (tl ++ [40]).length = tl.length + 1 := List.length_append
    refine rowz_v2 G M1 o b cap (tl ++ [40]) q f a _ _ _ q1 hqo n1 hv (show a + 2 ≤ 16 by omega) (by omega) hk T1 (fun M2 t2 T2 => ?_)
    have t12 := t1.trans t2 T1.oo.choose_spec
    obtain ⟨q2, n2⟩ := t12.q hq hqo hqb
    have len2 : (tl ++ [40] ++ tx f 1 a).length = tl.length + 1 + (tx f 1 a).length := by rw [List.length_append, len1]
    obtain ⟨_, _, g2, -⟩ := id T2
    refine ⟨_, g2, 0, 0, by omega, by omega, z_appendChar (c := 44) (by omega) (by omega) hk T2 (fun M3 t3 T3 => ⟨o, rfl, 0, 0, by omega, by omega, ?_⟩)⟩
    have t13 := t12.trans t3 T2.oo.choose_spec
    obtain ⟨q3, n3⟩ := t13.q hq hqo hqb
    have len3 : (tl ++ [40] ++ tx f 1 a ++ [44]).length = tl.length + 2 + (tx f 1 a).length := by rw [List.length_append, len2]; show _ + 1 = _; omega
    refine rowz_v2 G M3 o b cap _ q f (a + 2) _ _ _ q3 hqo n3 hv (show a + 2 + 2 ≤ 16 by omega) (by omega) hk T3 (fun M4 t4 T4 => ?_)
    have t14 := t13.trans t4 T3.oo.choose_spec
    have len4 : (tl ++ [40] ++ tx f 1 a ++ [44] ++ tx f 1 (a + 2)).length = tl.length + 2 + (tx f 1 a).length + (tx f 1 (a + 2)).length := by rw [List.length_append, len3]
    obtain ⟨_, _, g4, -⟩ := id T4
    refine ⟨_, g4, 0, 0, by omega, by omega, z_appendChar (c := 41) (by omega) (by omega) hk T4 (fun M5 t5 T5 => ⟨o, rfl, by omega, by omega, ?_⟩)⟩
    refine hp M5 (t14.trans t5 T4.oo.choose_spec) ?_
    rw [etx, ← List.append_assoc, ← List.append_assoc, ← List.append_assoc, ← List.append_assoc]
    exact T5
  · have hlf : leaf f a 4 = true := k01_nz hz
    have etx : tx f 2 a = digs (uI (f a)) := by
      show (if leaf f a 4 = true then digs (uI (f a)) else [40] ++ tx f 1 a ++ [44] ++ tx f 1 (a + 2) ++ [41]) = _
      rw [if_pos hlf]
    rw [etx] at hp hl
    exact z_b14_v3 hq (by omega) (hv a (by omega)) hl hk hT hp
theorem z_b14_v4 {G : k_G} {M : k_M} {o b cap mc ms : Nat} {tl : List Nat} {q a : Nat} {f : Nat → Int32} {post : k_M → Prop} (hq : M q = some (kI G 16 f)) (ha : a < 16) (hv : uI (f a) < 1000) (hl : tl.length + (digs (uI (f a))).length ≤ cap) (hk : capOk cap) (hT : cTt G M o b cap tl)
    (hp : ∀ (M1 : k_M), trF M M1 o b b → cTt G M1 o b cap (tl ++ digs (uI (f a))) → post M1) : wp_X1_printRow_v4_b14 G mc ms post q (nI a) o 0 0 M := by
  obtain ⟨_, _, h0, -⟩ := id hT
  unfold wp_X1_printRow_v4_b14
  refine ⟨_, _, hq, kvin ha (by decide), _, h0, 0, 0, by omega, by omega, ?_⟩
  rw [kcl (by omega), ← nI_uI (f a)]
  exact z_appendInt hv hl hk hT (fun M1 t1 hT1 => ⟨o, rfl, by omega, by omega, hp M1 t1 hT1⟩)
theorem rowz_v4 (G : k_G) : rowSpecz (wp_X1_printRow_v4 G) G 3 := by
  intro M o b cap tl q f a mc ms post hq hqo hqb hv ha hl hk hT hp
  have ha' : a + 8 ≤ 16 := ha
  unfold wp_X1_printRow_v4
  refine ⟨fun z => absurd z (k_big (d := 2) (by omega)), fun _ => ⟨by omega, by omega, ?_⟩⟩
  rw [k_half (d := 2) (by omega), nI_add]
  refine s_X1_isLeaf (s := 8) hq (by omega) ha' ⟨fun hz => ?_, fun hz => ?_⟩
  · have hlf : leaf f a 8 = false := k01_z.mp hz
    have etx : tx f 3 a = [40] ++ tx f 2 a ++ [44] ++ tx f 2 (a + 4) ++ [41] := by
      show (if leaf f a 8 = true then digs (uI (f a)) else [40] ++ tx f 2 a ++ [44] ++ tx f 2 (a + 4) ++ [41]) = _
      rw [if_neg (by rw [hlf]; decide)]
    have hlen : (tx f 3 a).length = (tx f 2 a).length + (tx f 2 (a + 4)).length + 3 := by
      rw [etx]
      simp only [List.length_append, List.length_cons, List.length_nil]
      omega
    obtain ⟨_, _, g0, -⟩ := id hT
    refine ⟨_, g0, 0, 0, by omega, by omega, z_appendChar (c := 40) (by omega) (by omega) hk hT (fun M1 t1 T1 => ⟨o, rfl, 0, 0, by omega, by omega, ?_⟩)⟩
    obtain ⟨q1, n1⟩ := t1.q hq hqo hqb
    have len1 : (tl ++ [40]).length = tl.length + 1 := List.length_append
    refine rowz_v3 G M1 o b cap (tl ++ [40]) q f a _ _ _ q1 hqo n1 hv (show a + 4 ≤ 16 by omega) (by omega) hk T1 (fun M2 t2 T2 => ?_)
    have t12 := t1.trans t2 T1.oo.choose_spec
    obtain ⟨q2, n2⟩ := t12.q hq hqo hqb
    have len2 : (tl ++ [40] ++ tx f 2 a).length = tl.length + 1 + (tx f 2 a).length := by rw [List.length_append, len1]
    obtain ⟨_, _, g2, -⟩ := id T2
    refine ⟨_, g2, 0, 0, by omega, by omega, z_appendChar (c := 44) (by omega) (by omega) hk T2 (fun M3 t3 T3 => ⟨o, rfl, 0, 0, by omega, by omega, ?_⟩)⟩
    have t13 := t12.trans t3 T2.oo.choose_spec
    obtain ⟨q3, n3⟩ := t13.q hq hqo hqb
    have len3 : (tl ++ [40] ++ tx f 2 a ++ [44]).length = tl.length + 2 + (tx f 2 a).length := by rw [List.length_append, len2]; show _ + 1 = _; omega
    refine rowz_v3 G M3 o b cap _ q f (a + 4) _ _ _ q3 hqo n3 hv (show a + 4 + 4 ≤ 16 by omega) (by omega) hk T3 (fun M4 t4 T4 => ?_)
    have t14 := t13.trans t4 T3.oo.choose_spec
    have len4 : (tl ++ [40] ++ tx f 2 a ++ [44] ++ tx f 2 (a + 4)).length = tl.length + 2 + (tx f 2 a).length + (tx f 2 (a + 4)).length := by rw [List.length_append, len3]
    obtain ⟨_, _, g4, -⟩ := id T4
    refine ⟨_, g4, 0, 0, by omega, by omega, z_appendChar (c := 41) (by omega) (by omega) hk T4 (fun M5 t5 T5 => ⟨o, rfl, by omega, by omega, ?_⟩)⟩
    refine hp M5 (t14.trans t5 T4.oo.choose_spec) ?_
    rw [etx, ← List.append_assoc, ← List.append_assoc, ← List.append_assoc, ← List.append_assoc]
    exact T5
  · have hlf : leaf f a 8 = true := k01_nz hz
    have etx : tx f 3 a = digs (uI (f a)) := by
      show (if leaf f a 8 = true then digs (uI (f a)) else [40] ++ tx f 2 a ++ [44] ++ tx f 2 (a + 4) ++ [41]) = _
      rw [if_pos hlf]
    rw [etx] at hp hl
    exact z_b14_v4 hq (by omega) (hv a (by omega)) hl hk hT hp
theorem z_b14_v5 {G : k_G} {M : k_M} {o b cap mc ms : Nat} {tl : List Nat} {q a : Nat} {f : Nat → Int32} {post : k_M → Prop} (hq : M q = some (kI G 16 f)) (ha : a < 16) (hv : uI (f a) < 1000) (hl : tl.length + (digs (uI (f a))).length ≤ cap) (hk : capOk cap) (hT : cTt G M o b cap tl)
    (hp : ∀ (M1 : k_M), trF M M1 o b b → cTt G M1 o b cap (tl ++ digs (uI (f a))) → post M1) : wp_X1_printRow_v5_b14 G mc ms post q (nI a) o 0 0 M := by
  obtain ⟨_, _, h0, -⟩ := id hT
  unfold wp_X1_printRow_v5_b14
  refine ⟨_, _, hq, kvin ha (by decide), _, h0, 0, 0, by omega, by omega, ?_⟩
  rw [kcl (by omega), ← nI_uI (f a)]
  exact z_appendInt hv hl hk hT (fun M1 t1 hT1 => ⟨o, rfl, by omega, by omega, hp M1 t1 hT1⟩)
theorem rowz_v5 (G : k_G) : rowSpecz (wp_X1_printRow_v5 G) G 4 := by
  intro M o b cap tl q f a mc ms post hq hqo hqb hv ha hl hk hT hp
  have ha' : a + 16 ≤ 16 := ha
  unfold wp_X1_printRow_v5
  refine ⟨fun z => absurd z (k_big (d := 3) (by omega)), fun _ => ⟨by omega, by omega, ?_⟩⟩
  rw [k_half (d := 3) (by omega), nI_add]
  refine s_X1_isLeaf (s := 16) hq (by omega) ha' ⟨fun hz => ?_, fun hz => ?_⟩
  · have hlf : leaf f a 16 = false := k01_z.mp hz
    have etx : tx f 4 a = [40] ++ tx f 3 a ++ [44] ++ tx f 3 (a + 8) ++ [41] := by
      show (if leaf f a 16 = true then digs (uI (f a)) else [40] ++ tx f 3 a ++ [44] ++ tx f 3 (a + 8) ++ [41]) = _
      rw [if_neg (by rw [hlf]; decide)]
    have hlen : (tx f 4 a).length = (tx f 3 a).length + (tx f 3 (a + 8)).length + 3 := by
      rw [etx]
      simp only [List.length_append, List.length_cons, List.length_nil]
      omega
    obtain ⟨_, _, g0, -⟩ := id hT
    refine ⟨_, g0, 0, 0, by omega, by omega, z_appendChar (c := 40) (by omega) (by omega) hk hT (fun M1 t1 T1 => ⟨o, rfl, 0, 0, by omega, by omega, ?_⟩)⟩
    obtain ⟨q1, n1⟩ := t1.q hq hqo hqb
    have len1 : (tl ++ [40]).length = tl.length + 1 := List.length_append
    refine rowz_v4 G M1 o b cap (tl ++ [40]) q f a _ _ _ q1 hqo n1 hv (show a + 8 ≤ 16 by omega) (by omega) hk T1 (fun M2 t2 T2 => ?_)
    have t12 := t1.trans t2 T1.oo.choose_spec
    obtain ⟨q2, n2⟩ := t12.q hq hqo hqb
    have len2 : (tl ++ [40] ++ tx f 3 a).length = tl.length + 1 + (tx f 3 a).length := by rw [List.length_append, len1]
    obtain ⟨_, _, g2, -⟩ := id T2
    refine ⟨_, g2, 0, 0, by omega, by omega, z_appendChar (c := 44) (by omega) (by omega) hk T2 (fun M3 t3 T3 => ⟨o, rfl, 0, 0, by omega, by omega, ?_⟩)⟩
    have t13 := t12.trans t3 T2.oo.choose_spec
    obtain ⟨q3, n3⟩ := t13.q hq hqo hqb
    have len3 : (tl ++ [40] ++ tx f 3 a ++ [44]).length = tl.length + 2 + (tx f 3 a).length := by rw [List.length_append, len2]; show _ + 1 = _; omega
    refine rowz_v4 G M3 o b cap _ q f (a + 8) _ _ _ q3 hqo n3 hv (show a + 8 + 8 ≤ 16 by omega) (by omega) hk T3 (fun M4 t4 T4 => ?_)
    have t14 := t13.trans t4 T3.oo.choose_spec
    have len4 : (tl ++ [40] ++ tx f 3 a ++ [44] ++ tx f 3 (a + 8)).length = tl.length + 2 + (tx f 3 a).length + (tx f 3 (a + 8)).length := by rw [List.length_append, len3]
    obtain ⟨_, _, g4, -⟩ := id T4
    refine ⟨_, g4, 0, 0, by omega, by omega, z_appendChar (c := 41) (by omega) (by omega) hk T4 (fun M5 t5 T5 => ⟨o, rfl, by omega, by omega, ?_⟩)⟩
    refine hp M5 (t14.trans t5 T4.oo.choose_spec) ?_
    rw [etx, ← List.append_assoc, ← List.append_assoc, ← List.append_assoc, ← List.append_assoc]
    exact T5
  · have hlf : leaf f a 16 = true := k01_nz hz
    have etx : tx f 4 a = digs (uI (f a)) := by
      show (if leaf f a 16 = true then digs (uI (f a)) else [40] ++ tx f 3 a ++ [44] ++ tx f 3 (a + 8) ++ [41]) = _
      rw [if_pos hlf]
    rw [etx] at hp hl
    exact z_b14_v5 hq (by omega) (hv a (by omega)) hl hk hT hp
theorem z_print {G : k_G} {M : k_M} {o b cap h q mc ms : Nat} {f : Nat → Int32} {e l : Int64} {post : k_M → Prop} (hM : M h = some (kO 2 [.ref q, .long e, .long l])) (hq : M q = some (kI G 16 f)) (hqo : q ≠ o) (hqb : q ≠ b) (hv : ∀ c, c < 16 → uI (f c) < 1000) (hk : capOk cap) (hT : cTt G M o b cap []) (hl : (tx f 4 0).length ≤ cap)
    (hp : ∀ (M1 : k_M), trF M M1 o b b → cTt G M1 o b cap (tx f 4 0) → post M1) : wp_X1_print G mc ms post h o M := by
  unfold wp_X1_print
  exact ⟨_, _, hM, rfl, 0, 0, by omega, by omega, rowz_v5 G M o b cap [] q f 0 _ _ _ hq hqo hqb hv (by decide) (by rw [List.length_nil, Nat.zero_add]; exact hl) hk hT (fun M1 t T => ⟨by omega, by omega, hp M1 t T⟩)⟩
theorem cTt.le {G : k_G} {M : k_M} {o b cap : Nat} {tl : List Nat} (h : cTt G M o b cap tl) : tl.length ≤ cap := by
  obtain ⟨_, _, _, _, _, h, _⟩ := h
  exact h
section Z2
variable {G : k_G} {M : k_M} {ad hi : Nat → Nat} {cap : Nat} {F : kF} {post : Int32 → k_M → Prop}
/-- textOf, with what it makes: nothing where the text fits -/
theorem s_textOf2 {j mc ms : Nat} {postq : Option Nat → k_M → Prop} (hB : (tx (F.S.hs j).1 4 0).length ≤ cap ∨ (62 ≤ mc ∧ 8804 ≤ ms)) (hg : gInj ad) (ho : hOk hi) (hk : capOk cap) (hj : j < 8) (hb : ∀ c, c < 16 → uI ((F.S.hs j).1 c) < 1000) (hF : cF G M ad hi cap F)
    (hp : ∀ (M1 : k_M) (b' cap' : Nat), trF M M1 (ad 352) (ad 353) b' → capOk cap' → ((tx (F.S.hs j).1 4 0).length ≤ cap → cap' = cap) → cTt G M1 (ad 352) b' cap' (tx (F.S.hs j).1 4 0) → postq (some (ad 352)) M1) : wp_X3_textOf G mc ms postq (ad 342) (ad (6 + 2 * j)) M := by
  obtain ⟨q0, -, -, -, -, -, q6, -⟩ := hF.st
  obtain ⟨e, l, g, s1, s2, s3, s4⟩ := q6 j hj
  have e1 : stA ad 0 (6 + 2 * j) = ad (6 + 2 * j) := by show ad (38 * 0 + (6 + 2 * j)) = _; congr 1; omega
  have e2 : stA ad 0 (7 + 2 * j) = ad (7 + 2 * j) := by show ad (38 * 0 + (7 + 2 * j)) = _; congr 1; omega
  rw [e1, e2] at s1
  rw [e2] at s2
  obtain ⟨mb, n, f, t0, t1, t2, t3⟩ := hF.txt
  have hcap : cap ≤ 142 := by rcases hk with z | z | z | z <;> omega
  have n2 : ad (7 + 2 * j) ≠ ad 352 := hg.ne (by omega) (by omega) (by omega)
  have n3 : ad (7 + 2 * j) ≠ ad 353 := hg.ne (by omega) (by omega) (by omega)
  have n1 : ad (6 + 2 * j) ≠ ad 352 := hg.ne (by omega) (by omega) (by omega)
  have etx := tx_cong s3 4 0 (by decide)
  have hbg : ∀ c, c < 16 → uI (g c) < 1000 := fun c hc => by rw [s3 c hc]; exact hb c hc
  have k0 : ∀ M1 : k_M, (∀ a, a ≠ ad 352 → M1 a = M a) → ∀ k, k < 354 → k ≠ 352 → M1 (ad k) = M (ad k) := fun M1 f1 k hk' hne => f1 _ (hg.ne hk' (by omega) hne)
  unfold wp_X3_textOf
  by_cases hfit : (tx (F.S.hs j).1 4 0).length ≤ cap
  · refine ⟨_, _, hF.1, rfl, _, t0, 0, 0, by omega, by omega, z_setLength0 hk hF.txt (fun M1 f1 T1 => ?_)⟩
    have k1 := k0 M1 f1
    have m1 := (f1 _ n1).trans s1
    have m2 := (f1 _ n2).trans s2
    refine ⟨_, _, (k1 342 (by omega) (by omega)).trans hF.1, rfl, _, m1, 0, 0, by omega, by omega, z_print m1 m2 n2 n3 hbg hk T1 (by rw [etx]; exact hfit) (fun M2 t T2 => ?_)⟩
    have h342 := t.1 _ _ ((k1 342 (by omega) (by omega)).trans hF.1) (hg.ne (by omega) (by omega) (by omega)) (hg.ne (by omega) (by omega) (by omega))
    refine ⟨_, _, h342, rfl, by omega, by omega, ?_⟩
    rw [etx] at T2
    exact hp M2 (ad 353) cap ⟨fun a e' he' y1 y2 => t.1 a e' ((f1 a y1).trans he') y1 y2, Or.inl rfl⟩ hk (fun _ => rfl) T2
  · have hB2 : 62 ≤ mc ∧ 8804 ≤ ms := hB.resolve_left hfit
    obtain ⟨hB3, hB4⟩ := hB2
    refine ⟨_, _, hF.1, rfl, _, t0, 1, 142, by omega, by omega, t_setLength0 hk hF.txt (fun M1 f1 T1 => ?_)⟩
    have k1 := k0 M1 f1
    have m1 := (f1 _ n1).trans s1
    have m2 := (f1 _ n2).trans s2
    refine ⟨_, _, (k1 342 (by omega) (by omega)).trans hF.1, rfl, _, m1, 61, 8662, by omega, by omega, t_print m1 m2 n2 n3 hbg hk T1 (fun M2 b' cap' t k T2 => ?_)⟩
    have h342 := t.1 _ _ ((k1 342 (by omega) (by omega)).trans hF.1) (hg.ne (by omega) (by omega) (by omega)) (hg.ne (by omega) (by omega) (by omega))
    refine ⟨_, _, h342, rfl, by omega, by omega, ?_⟩
    rw [etx] at T2
    refine hp M2 b' cap' ⟨fun a e' he' y1 y2 => t.1 a e' ((f1 a y1).trans he') y1 y2, ?_⟩ k (fun z => absurd z hfit) T2
    rcases t.2 with z | z
    · exact Or.inl z
    · refine Or.inr ?_
      by_cases hb' : b' = ad 352
      · obtain ⟨e', he'⟩ := T1.oo
        rw [hb', he'] at z; cases z
      · rw [← f1 b' hb']; exact z
/-- behind of(.., 7) and printed -/
def xPost2 (G : k_G) (M : k_M) (ad : Nat → Nat) (cap L : Nat) (r : Int32) (F : kF) (post : Int32 → k_M → Prop) : Prop :=
  ∀ (M1 : k_M) (ad' hi' : Nat → Nat) (cap' : Nat), kFr M M1 ad → gInj ad' → (∀ k, k ≠ 353 → ad' k = ad k) → (ad' 353 = ad 353 ∨ M (ad' 353) = none) → hOk hi' → capOk cap' → L ≤ cap' → (L ≤ cap → cap' = cap) → cF G M1 ad' hi' cap' F → post r M1
theorem inH_lv {sh : Nat → Int32} {j : Nat} (hj : j < 8) (hl : sh j ≠ 0) : inH sh (nI j) = true := by
  unfold inH inR
  rw [kcl (by omega), decide_eq_true (nI_pos (by omega)), decide_eq_true (kge (N := 8) hj (by decide)), decide_eq_false hl]
  rfl
theorem s_of7 {j mc ms : Nat} (hB : (tx (F.S.hs j).1 4 0).length ≤ cap ∨ (62 ≤ mc ∧ 8804 ≤ ms)) (hg : gInj ad) (ho : hOk hi) (hk : capOk cap) (hj : j < 8) (hl : F.S.sh j ≠ 0) (hb : ∀ c, c < 16 → uI ((F.S.hs j).1 c) < 1000) (hF : cF G M ad hi cap F)
    (hp : xPost2 G M ad cap (tx (F.S.hs j).1 4 0).length (nI (tx (F.S.hs j).1 4 0).length) F post) : wp_X3_of G mc ms post (ad 342) (nI j) 7 M := by
  have hst := hF.st
  unfold wp_X3_of
  refine ⟨_, _, hF.1, rfl, _, hst.1, by omega, by omega, s_X2_isHelper (ad := stA ad 0) hst ⟨fun h => ?_, fun h => ?_⟩⟩
  · obtain ⟨q0, ⟨r1, q1, q1'⟩, ⟨r2, q2, q2'⟩, -, -, -, q6, -⟩ := hst
    refine ⟨_, _, hF.1, rfl, _, _, q0, rfl, _, _, _, q2, kvin hj (by omega), k_at (q2' j hj) (by omega), fun h2 => absurd h2 (by decide), fun h2 => absurd h2 (by decide), fun h2 => absurd h2 (by decide), fun h2 => absurd h2 (by decide), fun h2 => absurd h2 (by decide), fun h2 => absurd h2 (by decide), fun h2 => absurd h2 (by decide), fun h2 => ?_, fun h2 => absurd h2 (by decide)⟩
    have ea : stA ad 0 (6 + 2 * j) = ad (6 + 2 * j) := by show ad (38 * 0 + (6 + 2 * j)) = _; congr 1; omega
    refine ⟨_, hF.1, mc, ms, by omega, by omega, ?_⟩
    rw [ea]
    refine s_textOf2 hB hg ho hk hj hb hF (fun M1 b' cap' t k hcc T => ⟨_, rfl, ?_⟩)
    obtain ⟨z1, z2, z3, z4, z5⟩ := hF.text hg ho t T
    obtain ⟨_, _, g0, -⟩ := id T
    exact ⟨_, g0, by omega, by omega, t_length T ⟨by omega, by omega, hp M1 _ hi cap' z3 z2 z4 z5 ho k T.le hcc z1⟩⟩
  · rw [inH_lv hj hl] at h
    exact absurd h (by decide)
theorem s_printed2 {j i mc ms : Nat} (hB : (tx (F.S.hs j).1 4 0).length ≤ cap ∨ (62 ≤ mc ∧ 8804 ≤ ms)) (hg : gInj ad) (ho : hOk hi) (hk : capOk cap) (hj : j < 8) (hl : F.S.sh j ≠ 0) (hi100 : i < 1000) (hb : ∀ c, c < 16 → uI ((F.S.hs j).1 c) < 1000) (hF : cF G M ad hi cap F)
    (hp : xPost2 G M ad cap (tx (F.S.hs j).1 4 0).length (if i < (tx (F.S.hs j).1 4 0).length then nI ((tx (F.S.hs j).1 4 0).getD i 0) else -1) F post) : wp_X3_printed G mc ms post (ad 342) (nI j) (nI i) M := by
  have hst := hF.st
  unfold wp_X3_printed
  refine ⟨_, _, hF.1, rfl, _, hst.1, by omega, by omega, s_X2_isHelper (ad := stA ad 0) hst ⟨fun h => ?_, fun h => ?_⟩⟩
  · obtain ⟨q0, -, ⟨r2, q2, q2'⟩, -, -, -, q6, -⟩ := hst
    have ea : stA ad 0 (6 + 2 * j) = ad (6 + 2 * j) := by show ad (38 * 0 + (6 + 2 * j)) = _; congr 1; omega
    have q2j := q2' j hj
    rw [ea] at q2j
    refine ⟨_, _, hF.1, rfl, _, _, q0, rfl, _, _, _, q2, kvin hj (by omega), k_at q2j (by omega), _, hF.1, mc, ms, by omega, by omega, s_textOf2 hB hg ho hk hj hb hF (fun M1 b' cap' t k hcc T => ⟨_, rfl, ?_⟩)⟩
    obtain ⟨z1, z2, z3, z4, z5⟩ := hF.text hg ho t T
    obtain ⟨_, _, g0, -⟩ := id T
    have fin := hp M1 _ hi cap' z3 z2 z4 z5 ho k T.le hcc z1
    have hlen : (tx (F.S.hs j).1 4 0).length ≤ 93 := tx_len _ 4 0
    have hmem := tx_lt hb 4 0 (by decide)
    generalize hl : tx (F.S.hs j).1 4 0 = tl at *
    refine ⟨fun hneg => absurd hneg (nI_pos (by omega)), fun hge => ⟨_, g0, by omega, by omega, t_length T ⟨fun hlt => ?_, fun hlt => ⟨by omega, by omega, ?_⟩⟩⟩⟩
    · have hi' : i < tl.length := (nI_ltI (by omega) (by omega)).mp hlt
      rw [if_pos hi'] at fin
      refine ⟨_, g0, by omega, by omega, t_charAt k hi' ?_ T ⟨by omega, by omega, fin⟩⟩
      rw [List.getD_eq_getElem?_getD, List.getElem?_eq_getElem hi']
      exact hmem _ (List.getElem_mem hi')
    · have hi' : ¬ i < tl.length := fun z => hlt ((nI_ltI (by omega) (by omega)).mpr z)
      rw [if_neg hi'] at fin
      exact fin
  · rw [inH_lv hj hl] at h
    exact absurd h (by decide)
/-- of(.., 0) to of(.., 6): nothing is made, nothing changes -/
theorem s_of06 {j k mc ms : Nat} (hj : j < 8) (hl : F.S.sh j ≠ 0) (hk : k < 7) (hF : cF G M ad hi cap F) (hp : post (xof F (nI j) (nI k)) M) : wp_X3_of G mc ms post (ad 342) (nI j) (nI k) M := by
  have hst := hF.st
  have ek : (nI k).toInt = (k : Int) := nI_toInt (by omega)
  unfold wp_X3_of
  unfold xof at hp
  rw [if_neg (by rw [inH_lv hj hl]; decide), kcl (show j < 2 ^ 31 by omega)] at hp
  simp only [ek] at hp ⊢
  refine ⟨_, _, hF.1, rfl, _, hst.1, by omega, by omega, s_X2_isHelper (ad := stA ad 0) hst ⟨fun h => ?_, fun h => ?_⟩⟩
  · obtain ⟨q0, ⟨r1, q1, q1'⟩, ⟨r2, q2, q2'⟩, -, -, -, q6, -⟩ := hst
    obtain ⟨e1, l1, g1, s1, s2, s3, s4⟩ := q6 j hj
    refine ⟨_, _, hF.1, rfl, _, _, q0, rfl, _, _, _, q2, kvin hj (by omega), k_at (q2' j hj) (by omega), fun h2 => ?_, fun h2 => ?_, fun h2 => ?_, fun h2 => ?_, fun h2 => ?_, fun h2 => ?_, fun h2 => ?_, fun h2 => ?_, fun h2 => ?_⟩
    · rw [if_pos h2] at hp
      refine ⟨_, _, hF.1, rfl, _, _, q0, rfl, _, _, q1, kvin hj (by omega), by omega, by omega, ?_⟩
      rw [kcl (by omega), q1' j hj]; exact hp
    · rw [if_neg (by omega), if_pos h2] at hp
      refine ⟨_, _, hF.1, rfl, _, _, q0, rfl, _, _, q1, kvin hj (by omega), by omega, by omega, ?_⟩
      rw [kcl (by omega), q1' j hj]
      exact s_bitCountI ⟨by omega, by omega, hp⟩
    · rw [if_neg (by omega), if_neg (by omega), if_pos h2] at hp
      refine ⟨_, s1, by omega, by omega, s_X1_greatestIn s1 s2 ⟨by omega, by omega, ?_⟩⟩
      rw [gIn_cong s3]; exact hp
    · rw [if_neg (by omega), if_neg (by omega), if_neg (by omega), if_pos h2] at hp
      refine ⟨_, s1, by omega, by omega, s_X1_sum s1 s2 ⟨by omega, by omega, ?_⟩⟩
      rw [kSum_cong s3]; exact hp
    · rw [if_neg (by omega), if_neg (by omega), if_neg (by omega), if_neg (by omega), if_pos h2] at hp
      refine ⟨_, s1, by omega, by omega, s_X1_knownCount s1 ⟨by omega, by omega, ?_⟩⟩
      rw [kCt_cong s4]; exact hp
    · rw [if_neg (by omega), if_neg (by omega), if_neg (by omega), if_neg (by omega), if_neg (by omega), if_pos h2] at hp
      refine ⟨_, s1, by omega, by omega, s_X1_latestKnown s1 ⟨by omega, by omega, ?_⟩⟩
      rw [kLast_cong (fun i hi => s4 i (by omega))]; exact hp
    · rw [if_neg (by omega), if_neg (by omega), if_neg (by omega), if_neg (by omega), if_neg (by omega), if_neg (by omega), if_pos h2] at hp
      refine ⟨_, s1, by omega, by omega, s_X1_knots s1 s2 ⟨by omega, by omega, ?_⟩⟩
      rw [kKn_cong s3 4 0 (by decide)]; exact hp
    · omega
    · omega
  · rw [inH_lv hj hl] at h
    exact absurd h (by decide)
end Z2
