/-! ===== a stamp's text ===== -/
def tx (f : Nat → Int32) : Nat → Nat → List Nat
  | 0 => fun a => digs (uI (f a))
  | d + 1 => fun a => if leaf f a (2 ^ (d + 1)) = true then digs (uI (f a)) else [40] ++ tx f d a ++ [44] ++ tx f d (a + 2 ^ d) ++ [41]
def Lb : Nat → Nat
  | 0 => 3
  | d + 1 => 2 * Lb d + 3
theorem Lb_ge : ∀ d, 3 ≤ Lb d := by
  intro d
  induction d with
  | zero => exact Nat.le_refl 3
  | succ d ih => rw [Lb]; omega
theorem tx_len (f : Nat → Int32) : ∀ d a, (tx f d a).length ≤ Lb d := by
  intro d
  induction d with
  | zero => intro a; exact (digs_len _).2
  | succ d ih =>
    intro a
    rw [tx]
    dsimp only
    have h3 := Lb_ge (d + 1)
    have hd := (digs_len (uI (f a))).2
    split
    · omega
    · have i1 := ih a
      have i2 := ih (a + 2 ^ d)
      simp only [List.length_append, List.length_cons, List.length_nil]
      rw [Lb]; omega
theorem nI_uI (x : Int32) : nI (uI x) = x := uI_inj (uI_nI (uI_lt x))
def rowSpec (wp : Nat → Nat → (k_M → Prop) → Nat → Int32 → Int32 → Nat → k_M → Prop) (G : k_G) (d B L : Nat) : Prop :=
  ∀ (M : k_M) (o b cap : Nat) (tl : List Nat) (q : Nat) (f : Nat → Int32) (a : Nat) (post : k_M → Prop), M q = some (kI G 16 f) → q ≠ o → q ≠ b → (∀ c, c < 16 → uI (f c) < 1000) → a + 2 ^ d ≤ 16 → tl.length + L ≤ 142 → capOk cap → cTt G M o b cap tl →
    (∀ (M1 : k_M) (b' cap' : Nat), trF M M1 o b b' → capOk cap' → cTt G M1 o b' cap' (tl ++ tx f d a) → post M1) → wp B (142 * B) post q (nI a) (nI (2 ^ d)) o M

theorem t_b14_v1 {G : k_G} {M : k_M} {o b cap mc ms : Nat} {tl : List Nat} {q a : Nat} {f : Nat → Int32} {post : k_M → Prop} (hmc : 1 ≤ mc) (hms : 142 ≤ ms) (hq : M q = some (kI G 16 f)) (ha : a < 16) (hv : uI (f a) < 1000) (hl : tl.length + 3 ≤ 142) (hk : capOk cap) (hT : cTt G M o b cap tl)
    (hp : ∀ (M1 : k_M) (b' cap' : Nat), trF M M1 o b b' → capOk cap' → cTt G M1 o b' cap' (tl ++ digs (uI (f a))) → post M1) : wp_X1_printRow_v1_b14 G mc ms post q (nI a) o 0 0 M := by
  obtain ⟨_, _, h0, -⟩ := id hT
  unfold wp_X1_printRow_v1_b14
  refine ⟨_, _, hq, kvin ha (by decide), _, h0, 1, 142, by omega, by omega, ?_⟩
  rw [kcl (by omega), ← nI_uI (f a)]
  exact t_appendInt hv hl hk hT (fun M1 b' cap' t1 k1 hT1 => ⟨o, rfl, by omega, by omega, hp M1 b' cap' t1 k1 hT1⟩)
theorem row_v1 (G : k_G) : rowSpec (wp_X1_printRow_v1 G) G 0 1 3 := by
  intro M o b cap tl q f a post hq hqo hqb hv ha hl hk hT hp
  unfold wp_X1_printRow_v1
  refine ⟨fun _ => t_b14_v1 (by omega) (by omega) hq (by omega) (hv a (by omega)) hl hk hT hp, fun z => absurd (by decide) z⟩
theorem t_b14_v2 {G : k_G} {M : k_M} {o b cap mc ms : Nat} {tl : List Nat} {q a : Nat} {f : Nat → Int32} {post : k_M → Prop} (hmc : 1 ≤ mc) (hms : 142 ≤ ms) (hq : M q = some (kI G 16 f)) (ha : a < 16) (hv : uI (f a) < 1000) (hl : tl.length + 3 ≤ 142) (hk : capOk cap) (hT : cTt G M o b cap tl)
    (hp : ∀ (M1 : k_M) (b' cap' : Nat), trF M M1 o b b' → capOk cap' → cTt G M1 o b' cap' (tl ++ digs (uI (f a))) → post M1) : wp_X1_printRow_v2_b14 G mc ms post q (nI a) o 0 0 M := by
  obtain ⟨_, _, h0, -⟩ := id hT
  unfold wp_X1_printRow_v2_b14
  refine ⟨_, _, hq, kvin ha (by decide), _, h0, 1, 142, by omega, by omega, ?_⟩
  rw [kcl (by omega), ← nI_uI (f a)]
  exact t_appendInt hv hl hk hT (fun M1 b' cap' t1 k1 hT1 => ⟨o, rfl, by omega, by omega, hp M1 b' cap' t1 k1 hT1⟩)
theorem row_v2 (G : k_G) : rowSpec (wp_X1_printRow_v2 G) G 1 5 9 := by
  intro M o b cap tl q f a post hq hqo hqb hv ha hl hk hT hp
  have ha' : a + 2 ≤ 16 := ha
  unfold wp_X1_printRow_v2
  refine ⟨fun z => absurd z (k_big (d := 0) (by omega)), fun _ => ⟨by omega, by omega, ?_⟩⟩
  rw [k_half (d := 0) (by omega), nI_add]
  refine s_X1_isLeaf (s := 2) hq (by omega) ha' ⟨fun hz => ?_, fun hz => ?_⟩
  · have hlf : leaf f a 2 = false := k01_z.mp hz
    have etx : tx f 1 a = [40] ++ tx f 0 a ++ [44] ++ tx f 0 (a + 1) ++ [41] := by
      show (if leaf f a 2 = true then digs (uI (f a)) else [40] ++ tx f 0 a ++ [44] ++ tx f 0 (a + 1) ++ [41]) = _
      rw [if_neg (by rw [hlf]; decide)]
    have l1 : (tx f 0 a).length ≤ 3 := tx_len f 0 a
    have l2 : (tx f 0 (a + 1)).length ≤ 3 := tx_len f 0 (a + 1)
    obtain ⟨_, _, g0, -⟩ := id hT
    refine ⟨_, g0, 1, 142, by omega, by omega, t_appendChar (c := 40) (by omega) (by omega) hk hT (fun M1 b1 c1 t1 k1 T1 => ⟨o, rfl, 1, 142 * 1, by omega, by omega, ?_⟩)⟩
    obtain ⟨q1, n1⟩ := t1.q hq hqo hqb
    have len1 : (tl ++ [40]).length = tl.length + 1 := List.length_append
    refine row_v1 G M1 o b1 c1 (tl ++ [40]) q f a _ q1 hqo n1 hv (show a + 1 ≤ 16 by omega) (by omega) k1 T1 (fun M2 b2 c2 t2 k2 T2 => ?_)
    have t12 := t1.trans t2 T1.oo.choose_spec
    obtain ⟨q2, n2⟩ := t12.q hq hqo hqb
    have len2 : (tl ++ [40] ++ tx f 0 a).length = tl.length + 1 + (tx f 0 a).length := by rw [List.length_append, len1]
    obtain ⟨_, _, g2, -⟩ := id T2
    refine ⟨_, g2, 1, 142, by omega, by omega, t_appendChar (c := 44) (by omega) (by omega) k2 T2 (fun M3 b3 c3 t3 k3 T3 => ⟨o, rfl, 1, 142 * 1, by omega, by omega, ?_⟩)⟩
    have t13 := t12.trans t3 T2.oo.choose_spec
    obtain ⟨q3, n3⟩ := t13.q hq hqo hqb
    have len3 : (tl ++ [40] ++ tx f 0 a ++ [44]).length = tl.length + 2 + (tx f 0 a).length := by rw [List.length_append, len2]; show _ + 1 = _; omega
    refine row_v1 G M3 o b3 c3 _ q f (a + 1) _ q3 hqo n3 hv (show a + 1 + 1 ≤ 16 by omega) (by omega) k3 T3 (fun M4 b4 c4 t4 k4 T4 => ?_)
    have t14 := t13.trans t4 T3.oo.choose_spec
    have len4 : (tl ++ [40] ++ tx f 0 a ++ [44] ++ tx f 0 (a + 1)).length = tl.length + 2 + (tx f 0 a).length + (tx f 0 (a + 1)).length := by rw [List.length_append, len3]
    obtain ⟨_, _, g4, -⟩ := id T4
    refine ⟨_, g4, 1, 142, by omega, by omega, t_appendChar (c := 41) (by omega) (by omega) k4 T4 (fun M5 b5 c5 t5 k5 T5 => ⟨o, rfl, by omega, by omega, ?_⟩)⟩
    refine hp M5 b5 c5 (t14.trans t5 T4.oo.choose_spec) k5 ?_
    rw [etx, ← List.append_assoc, ← List.append_assoc, ← List.append_assoc, ← List.append_assoc]
    exact T5
  · have hlf : leaf f a 2 = true := k01_nz hz
    have etx : tx f 1 a = digs (uI (f a)) := by
      show (if leaf f a 2 = true then digs (uI (f a)) else [40] ++ tx f 0 a ++ [44] ++ tx f 0 (a + 1) ++ [41]) = _
      rw [if_pos hlf]
    rw [etx] at hp
    exact t_b14_v2 (by omega) (by omega) hq (by omega) (hv a (by omega)) (by omega) hk hT hp
theorem t_b14_v3 {G : k_G} {M : k_M} {o b cap mc ms : Nat} {tl : List Nat} {q a : Nat} {f : Nat → Int32} {post : k_M → Prop} (hmc : 1 ≤ mc) (hms : 142 ≤ ms) (hq : M q = some (kI G 16 f)) (ha : a < 16) (hv : uI (f a) < 1000) (hl : tl.length + 3 ≤ 142) (hk : capOk cap) (hT : cTt G M o b cap tl)
    (hp : ∀ (M1 : k_M) (b' cap' : Nat), trF M M1 o b b' → capOk cap' → cTt G M1 o b' cap' (tl ++ digs (uI (f a))) → post M1) : wp_X1_printRow_v3_b14 G mc ms post q (nI a) o 0 0 M := by
  obtain ⟨_, _, h0, -⟩ := id hT
  unfold wp_X1_printRow_v3_b14
  refine ⟨_, _, hq, kvin ha (by decide), _, h0, 1, 142, by omega, by omega, ?_⟩
  rw [kcl (by omega), ← nI_uI (f a)]
  exact t_appendInt hv hl hk hT (fun M1 b' cap' t1 k1 hT1 => ⟨o, rfl, by omega, by omega, hp M1 b' cap' t1 k1 hT1⟩)
theorem row_v3 (G : k_G) : rowSpec (wp_X1_printRow_v3 G) G 2 13 21 := by
  intro M o b cap tl q f a post hq hqo hqb hv ha hl hk hT hp
  have ha' : a + 4 ≤ 16 := ha
  unfold wp_X1_printRow_v3
  refine ⟨fun z => absurd z (k_big (d := 1) (by omega)), fun _ => ⟨by omega, by omega, ?_⟩⟩
  rw [k_half (d := 1) (by omega), nI_add]
  refine s_X1_isLeaf (s := 4) hq (by omega) ha' ⟨fun hz => ?_, fun hz => ?_⟩
  · have hlf : leaf f a 4 = false := k01_z.mp hz
    have etx : tx f 2 a = [40] ++ tx f 1 a ++ [44] ++ tx f 1 (a + 2) ++ [41] := by
      show (if leaf f a 4 = true then digs (uI (f a)) else [40] ++ tx f 1 a ++ [44] ++ tx f 1 (a + 2) ++ [41]) = _
      rw [if_neg (by rw [hlf]; decide)]
    have l1 : (tx f 1 a).length ≤ 9 := tx_len f 1 a
    have l2 : (tx f 1 (a + 2)).length ≤ 9 := tx_len f 1 (a + 2)
    obtain ⟨_, _, g0, -⟩ := id hT
    refine ⟨_, g0, 1, 142, by omega, by omega, t_appendChar (c := 40) (by omega) (by omega) hk hT (fun M1 b1 c1 t1 k1 T1 => ⟨o, rfl, 5, 142 * 5, by omega, by omega, ?_⟩)⟩
    obtain ⟨q1, n1⟩ := t1.q hq hqo hqb
    have len1 : (tl ++ [40]).length = tl.length + 1 := List.length_append
    refine row_v2 G M1 o b1 c1 (tl ++ [40]) q f a _ q1 hqo n1 hv (show a + 2 ≤ 16 by omega) (by omega) k1 T1 (fun M2 b2 c2 t2 k2 T2 => ?_)
    have t12 := t1.trans t2 T1.oo.choose_spec
    obtain ⟨q2, n2⟩ := t12.q hq hqo hqb
    have len2 : (tl ++ [40] ++ tx f 1 a).length = tl.length + 1 + (tx f 1 a).length := by rw [List.length_append, len1]
    obtain ⟨_, _, g2, -⟩ := id T2
    refine ⟨_, g2, 1, 142, by omega, by omega, t_appendChar (c := 44) (by omega) (by omega) k2 T2 (fun M3 b3 c3 t3 k3 T3 => ⟨o, rfl, 5, 142 * 5, by omega, by omega, ?_⟩)⟩
    have t13 := t12.trans t3 T2.oo.choose_spec
    obtain ⟨q3, n3⟩ := t13.q hq hqo hqb
    have len3 : (tl ++ [40] ++ tx f 1 a ++ [44]).length = tl.length + 2 + (tx f 1 a).length := by rw [List.length_append, len2]; show _ + 1 = _; omega
    refine row_v2 G M3 o b3 c3 _ q f (a + 2) _ q3 hqo n3 hv (show a + 2 + 2 ≤ 16 by omega) (by omega) k3 T3 (fun M4 b4 c4 t4 k4 T4 => ?_)
    have t14 := t13.trans t4 T3.oo.choose_spec
    have len4 : (tl ++ [40] ++ tx f 1 a ++ [44] ++ tx f 1 (a + 2)).length = tl.length + 2 + (tx f 1 a).length + (tx f 1 (a + 2)).length := by rw [List.length_append, len3]
    obtain ⟨_, _, g4, -⟩ := id T4
    refine ⟨_, g4, 1, 142, by omega, by omega, t_appendChar (c := 41) (by omega) (by omega) k4 T4 (fun M5 b5 c5 t5 k5 T5 => ⟨o, rfl, by omega, by omega, ?_⟩)⟩
    refine hp M5 b5 c5 (t14.trans t5 T4.oo.choose_spec) k5 ?_
    rw [etx, ← List.append_assoc, ← List.append_assoc, ← List.append_assoc, ← List.append_assoc]
    exact T5
  · have hlf : leaf f a 4 = true := k01_nz hz
    have etx : tx f 2 a = digs (uI (f a)) := by
      show (if leaf f a 4 = true then digs (uI (f a)) else [40] ++ tx f 1 a ++ [44] ++ tx f 1 (a + 2) ++ [41]) = _
      rw [if_pos hlf]
    rw [etx] at hp
    exact t_b14_v3 (by omega) (by omega) hq (by omega) (hv a (by omega)) (by omega) hk hT hp
theorem t_b14_v4 {G : k_G} {M : k_M} {o b cap mc ms : Nat} {tl : List Nat} {q a : Nat} {f : Nat → Int32} {post : k_M → Prop} (hmc : 1 ≤ mc) (hms : 142 ≤ ms) (hq : M q = some (kI G 16 f)) (ha : a < 16) (hv : uI (f a) < 1000) (hl : tl.length + 3 ≤ 142) (hk : capOk cap) (hT : cTt G M o b cap tl)
    (hp : ∀ (M1 : k_M) (b' cap' : Nat), trF M M1 o b b' → capOk cap' → cTt G M1 o b' cap' (tl ++ digs (uI (f a))) → post M1) : wp_X1_printRow_v4_b14 G mc ms post q (nI a) o 0 0 M := by
  obtain ⟨_, _, h0, -⟩ := id hT
  unfold wp_X1_printRow_v4_b14
  refine ⟨_, _, hq, kvin ha (by decide), _, h0, 1, 142, by omega, by omega, ?_⟩
  rw [kcl (by omega), ← nI_uI (f a)]
  exact t_appendInt hv hl hk hT (fun M1 b' cap' t1 k1 hT1 => ⟨o, rfl, by omega, by omega, hp M1 b' cap' t1 k1 hT1⟩)
theorem row_v4 (G : k_G) : rowSpec (wp_X1_printRow_v4 G) G 3 29 45 := by
  intro M o b cap tl q f a post hq hqo hqb hv ha hl hk hT hp
  have ha' : a + 8 ≤ 16 := ha
  unfold wp_X1_printRow_v4
  refine ⟨fun z => absurd z (k_big (d := 2) (by omega)), fun _ => ⟨by omega, by omega, ?_⟩⟩
  rw [k_half (d := 2) (by omega), nI_add]
  refine s_X1_isLeaf (s := 8) hq (by omega) ha' ⟨fun hz => ?_, fun hz => ?_⟩
  · have hlf : leaf f a 8 = false := k01_z.mp hz
    have etx : tx f 3 a = [40] ++ tx f 2 a ++ [44] ++ tx f 2 (a + 4) ++ [41] := by
      show (if leaf f a 8 = true then digs (uI (f a)) else [40] ++ tx f 2 a ++ [44] ++ tx f 2 (a + 4) ++ [41]) = _
      rw [if_neg (by rw [hlf]; decide)]
    have l1 : (tx f 2 a).length ≤ 21 := tx_len f 2 a
    have l2 : (tx f 2 (a + 4)).length ≤ 21 := tx_len f 2 (a + 4)
    obtain ⟨_, _, g0, -⟩ := id hT
    refine ⟨_, g0, 1, 142, by omega, by omega, t_appendChar (c := 40) (by omega) (by omega) hk hT (fun M1 b1 c1 t1 k1 T1 => ⟨o, rfl, 13, 142 * 13, by omega, by omega, ?_⟩)⟩
    obtain ⟨q1, n1⟩ := t1.q hq hqo hqb
    have len1 : (tl ++ [40]).length = tl.length + 1 := List.length_append
    refine row_v3 G M1 o b1 c1 (tl ++ [40]) q f a _ q1 hqo n1 hv (show a + 4 ≤ 16 by omega) (by omega) k1 T1 (fun M2 b2 c2 t2 k2 T2 => ?_)
    have t12 := t1.trans t2 T1.oo.choose_spec
    obtain ⟨q2, n2⟩ := t12.q hq hqo hqb
    have len2 : (tl ++ [40] ++ tx f 2 a).length = tl.length + 1 + (tx f 2 a).length := by rw [List.length_append, len1]
    obtain ⟨_, _, g2, -⟩ := id T2
    refine ⟨_, g2, 1, 142, by omega, by omega, t_appendChar (c := 44) (by omega) (by omega) k2 T2 (fun M3 b3 c3 t3 k3 T3 => ⟨o, rfl, 13, 142 * 13, by omega, by omega, ?_⟩)⟩
    have t13 := t12.trans t3 T2.oo.choose_spec
    obtain ⟨q3, n3⟩ := t13.q hq hqo hqb
    have len3 : (tl ++ [40] ++ tx f 2 a ++ [44]).length = tl.length + 2 + (tx f 2 a).length := by rw [List.length_append, len2]; show _ + 1 = _; omega
    refine row_v3 G M3 o b3 c3 _ q f (a + 4) _ q3 hqo n3 hv (show a + 4 + 4 ≤ 16 by omega) (by omega) k3 T3 (fun M4 b4 c4 t4 k4 T4 => ?_)
    have t14 := t13.trans t4 T3.oo.choose_spec
    have len4 : (tl ++ [40] ++ tx f 2 a ++ [44] ++ tx f 2 (a + 4)).length = tl.length + 2 + (tx f 2 a).length + (tx f 2 (a + 4)).length := by rw [List.length_append, len3]
    obtain ⟨_, _, g4, -⟩ := id T4
    refine ⟨_, g4, 1, 142, by omega, by omega, t_appendChar (c := 41) (by omega) (by omega) k4 T4 (fun M5 b5 c5 t5 k5 T5 => ⟨o, rfl, by omega, by omega, ?_⟩)⟩
    refine hp M5 b5 c5 (t14.trans t5 T4.oo.choose_spec) k5 ?_
    rw [etx, ← List.append_assoc, ← List.append_assoc, ← List.append_assoc, ← List.append_assoc]
    exact T5
  · have hlf : leaf f a 8 = true := k01_nz hz
    have etx : tx f 3 a = digs (uI (f a)) := by
      show (if leaf f a 8 = true then digs (uI (f a)) else [40] ++ tx f 2 a ++ [44] ++ tx f 2 (a + 4) ++ [41]) = _
      rw [if_pos hlf]
    rw [etx] at hp
    exact t_b14_v4 (by omega) (by omega) hq (by omega) (hv a (by omega)) (by omega) hk hT hp
theorem t_b14_v5 {G : k_G} {M : k_M} {o b cap mc ms : Nat} {tl : List Nat} {q a : Nat} {f : Nat → Int32} {post : k_M → Prop} (hmc : 1 ≤ mc) (hms : 142 ≤ ms) (hq : M q = some (kI G 16 f)) (ha : a < 16) (hv : uI (f a) < 1000) (hl : tl.length + 3 ≤ 142) (hk : capOk cap) (hT : cTt G M o b cap tl)
    (hp : ∀ (M1 : k_M) (b' cap' : Nat), trF M M1 o b b' → capOk cap' → cTt G M1 o b' cap' (tl ++ digs (uI (f a))) → post M1) : wp_X1_printRow_v5_b14 G mc ms post q (nI a) o 0 0 M := by
  obtain ⟨_, _, h0, -⟩ := id hT
  unfold wp_X1_printRow_v5_b14
  refine ⟨_, _, hq, kvin ha (by decide), _, h0, 1, 142, by omega, by omega, ?_⟩
  rw [kcl (by omega), ← nI_uI (f a)]
  exact t_appendInt hv hl hk hT (fun M1 b' cap' t1 k1 hT1 => ⟨o, rfl, by omega, by omega, hp M1 b' cap' t1 k1 hT1⟩)
theorem row_v5 (G : k_G) : rowSpec (wp_X1_printRow_v5 G) G 4 61 93 := by
  intro M o b cap tl q f a post hq hqo hqb hv ha hl hk hT hp
  have ha' : a + 16 ≤ 16 := ha
  unfold wp_X1_printRow_v5
  refine ⟨fun z => absurd z (k_big (d := 3) (by omega)), fun _ => ⟨by omega, by omega, ?_⟩⟩
  rw [k_half (d := 3) (by omega), nI_add]
  refine s_X1_isLeaf (s := 16) hq (by omega) ha' ⟨fun hz => ?_, fun hz => ?_⟩
  · have hlf : leaf f a 16 = false := k01_z.mp hz
    have etx : tx f 4 a = [40] ++ tx f 3 a ++ [44] ++ tx f 3 (a + 8) ++ [41] := by
      show (if leaf f a 16 = true then digs (uI (f a)) else [40] ++ tx f 3 a ++ [44] ++ tx f 3 (a + 8) ++ [41]) = _
      rw [if_neg (by rw [hlf]; decide)]
    have l1 : (tx f 3 a).length ≤ 45 := tx_len f 3 a
    have l2 : (tx f 3 (a + 8)).length ≤ 45 := tx_len f 3 (a + 8)
    obtain ⟨_, _, g0, -⟩ := id hT
    refine ⟨_, g0, 1, 142, by omega, by omega, t_appendChar (c := 40) (by omega) (by omega) hk hT (fun M1 b1 c1 t1 k1 T1 => ⟨o, rfl, 29, 142 * 29, by omega, by omega, ?_⟩)⟩
    obtain ⟨q1, n1⟩ := t1.q hq hqo hqb
    have len1 : (tl ++ [40]).length = tl.length + 1 := List.length_append
    refine row_v4 G M1 o b1 c1 (tl ++ [40]) q f a _ q1 hqo n1 hv (show a + 8 ≤ 16 by omega) (by omega) k1 T1 (fun M2 b2 c2 t2 k2 T2 => ?_)
    have t12 := t1.trans t2 T1.oo.choose_spec
    obtain ⟨q2, n2⟩ := t12.q hq hqo hqb
    have len2 : (tl ++ [40] ++ tx f 3 a).length = tl.length + 1 + (tx f 3 a).length := by rw [List.length_append, len1]
    obtain ⟨_, _, g2, -⟩ := id T2
    refine ⟨_, g2, 1, 142, by omega, by omega, t_appendChar (c := 44) (by omega) (by omega) k2 T2 (fun M3 b3 c3 t3 k3 T3 => ⟨o, rfl, 29, 142 * 29, by omega, by omega, ?_⟩)⟩
    have t13 := t12.trans t3 T2.oo.choose_spec
    obtain ⟨q3, n3⟩ := t13.q hq hqo hqb
    have len3 : (tl ++ [40] ++ tx f 3 a ++ [44]).length = tl.length + 2 + (tx f 3 a).length := by rw [List.length_append, len2]; show _ + 1 = _; omega
    refine row_v4 G M3 o b3 c3 _ q f (a + 8) _ q3 hqo n3 hv (show a + 8 + 8 ≤ 16 by omega) (by omega) k3 T3 (fun M4 b4 c4 t4 k4 T4 => ?_)
    have t14 := t13.trans t4 T3.oo.choose_spec
    have len4 : (tl ++ [40] ++ tx f 3 a ++ [44] ++ tx f 3 (a + 8)).length = tl.length + 2 + (tx f 3 a).length + (tx f 3 (a + 8)).length := by rw [List.length_append, len3]
    obtain ⟨_, _, g4, -⟩ := id T4
    refine ⟨_, g4, 1, 142, by omega, by omega, t_appendChar (c := 41) (by omega) (by omega) k4 T4 (fun M5 b5 c5 t5 k5 T5 => ⟨o, rfl, by omega, by omega, ?_⟩)⟩
    refine hp M5 b5 c5 (t14.trans t5 T4.oo.choose_spec) k5 ?_
    rw [etx, ← List.append_assoc, ← List.append_assoc, ← List.append_assoc, ← List.append_assoc]
    exact T5
  · have hlf : leaf f a 16 = true := k01_nz hz
    have etx : tx f 4 a = digs (uI (f a)) := by
      show (if leaf f a 16 = true then digs (uI (f a)) else [40] ++ tx f 3 a ++ [44] ++ tx f 3 (a + 8) ++ [41]) = _
      rw [if_pos hlf]
    rw [etx] at hp
    exact t_b14_v5 (by omega) (by omega) hq (by omega) (hv a (by omega)) (by omega) hk hT hp
theorem t_print {G : k_G} {M : k_M} {o b cap h q : Nat} {f : Nat → Int32} {e l : Int64} {post : k_M → Prop} (hM : M h = some (kO 2 [.ref q, .long e, .long l])) (hq : M q = some (kI G 16 f)) (hqo : q ≠ o) (hqb : q ≠ b) (hv : ∀ c, c < 16 → uI (f c) < 1000) (hk : capOk cap) (hT : cTt G M o b cap [])
    (hp : ∀ (M1 : k_M) (b' cap' : Nat), trF M M1 o b b' → capOk cap' → cTt G M1 o b' cap' (tx f 4 0) → post M1) : wp_X1_print G 61 8662 post h o M := by
  unfold wp_X1_print
  exact ⟨_, _, hM, rfl, 61, 142 * 61, by omega, by omega, row_v5 G M o b cap [] q f 0 _ hq hqo hqb hv (by decide) (by decide) hk hT (fun M1 b' cap' t k T => ⟨by omega, by omega, hp M1 b' cap' t k T⟩)⟩
