/-! ===== the class: saving, and what is read ===== -/
def isK (x : Int32) : Bool := decide (x = 0 ∨ x = 1)
def stVal (S : kS) (k x : Int32) : Option kSV := if k = 0 then (if inH S.sh x = true then some (S.hs x.toNatClampNeg) else none) else (if inR S.mc x = true then some (S.ms x.toNatClampNeg) else none)
def xheight (F : kF) (k x c : Int32) : Int32 := if isK k = false then -2 else (stVal F.S k x).elim (-1) (fun v => if inR 16 c = true then v.1 c.toNatClampNeg else -1)
def xknows (F : kF) (k x e : Int32) : Int32 := if isK k = false then -2 else (stVal F.S k x).elim (-1) (fun v => if inR F.S.ec e = true then k01 (v.2 e.toNatClampNeg) else -1)
def xorder (F : kF) (k x k2 x2 : Int32) : Int32 := if isK k = false ∨ isK k2 = false then -2 else (stVal F.S k x).elim (-1) (fun a => (stVal F.S k2 x2).elim (-1) (fun b => kOrd a b))
def xmore (F : kF) (k x k2 x2 : Int32) : Int32 := if isK k = false ∨ isK k2 = false then -2 else (stVal F.S k x).elim (-1) (fun a => (stVal F.S k2 x2).elim (-1) (fun b => nI (kCt (fun i => a.2 i && !(b.2 i)) 128)))
def xwhose (F : kF) (x : Int32) : Int32 := if inR F.S.ec x = true then F.S.ac x.toNatClampNeg else -1
def xcount (F : kF) (x : Int32) : Int32 :=
  if x.toInt = 0 then hset F.S 8 else if x.toInt = 1 then nI F.S.mc else if x.toInt = 2 then nI F.S.ec else if x.toInt = 3 then nI (clO F.S 8) else if x.toInt = 4 then nI (kHk F.S 8) else if x.toInt = 5 then kAns (fun i => live F.S i && isFo F.S i) 8 else if x.toInt = 6 then nI F.pn else if x.toInt = 7 then nI F.hc else -2
def xofM (F : kF) (x w : Int32) : Int32 :=
  if inR F.S.mc x = false then -1 else if w.toInt = 0 then F.S.sn x.toNatClampNeg else if w.toInt = 1 then kSum (F.S.ms x.toNatClampNeg).1 16 else if w.toInt = 2 then nI (kCnt (F.S.ms x.toNatClampNeg)) else if w.toInt = 3 then nI (kKts (F.S.ms x.toNatClampNeg)) else -2
def xlag (F : kF) (w : Int32) : Int32 := if w = 0 then nI (lkS F.S 8).1 else if w = 1 then nI F.S.ec - nI (kCnt (F.S.hs (lkS F.S 8).1)) else -2
def xpad (F : kF) (x : Int32) : Int32 := if inH F.S.sh x = false then -1 else if pFault F.ch F.pn = -6 then ordf (F.S.hs x.toNatClampNeg).1 (pHf F.ch F.pn) else -3
def xifR (F : kF) (x y w : Int32) : Int32 :=
  if inH F.S.sh x = false ∨ inR F.S.mc y = false then -1
  else if w.toInt = 0 then nI (kCt (fun i => (F.S.ms y.toNatClampNeg).2 i && !((F.S.hs x.toNatClampNeg).2 i)) 128) + 1
  else if w.toInt = 1 then ordf (rais (mrg (F.S.hs x.toNatClampNeg) (F.S.ms y.toNatClampNeg)) (F.S.sh x.toNatClampNeg)) (F.S.ms y.toNatClampNeg).1
  else if w.toInt = 2 then nI (kKn (rais (mrg (F.S.hs x.toNatClampNeg) (F.S.ms y.toNatClampNeg)) (F.S.sh x.toNatClampNeg)) 4 0)
  else -2
def xwipe (F : kF) : Int32 × kF := (nI F.pn, F.S, F.hist, F.hc, F.sl, F.sv, F.ch, 0)
theorem lkS_lt (S : kS) : ∀ n, n ≤ 8 → (lkS S n).1 < 8 := by
  intro n
  induction n with
  | zero => intro _; show (0 : Nat) < 8; omega
  | succ n ih =>
    intro hn
    rw [lkS]
    split
    · show n < 8; omega
    · exact ih (by omega)
section F3
variable {G : k_G} {M : k_M} {ad hi : Nat → Nat} {cap : Nat} {F : kF} {post : Int32 → k_M → Prop}
theorem cF.side {M1 : k_M} {ch : Nat → Nat} {pn cap' : Nat} (h : cF G M ad hi cap F) (ho : hOk hi) (e : ∀ n, n < 346 → M1 (ad n) = M (ad n)) (hP : cPad G M1 (fun k => ad (346 + k)) ch pn)
    (hT : ∃ e l g, M1 (ad 350) = some (kO 2 [.ref (ad 351), .long e, .long l]) ∧ M1 (ad 351) = some (kI G 16 g)) (hX : cTx G M1 (ad 352) (ad 353) cap') : cF G M1 ad hi cap' (F.S, F.hist, F.hc, F.sl, F.sv, ch, pn) := by
  obtain ⟨h0, ⟨r1, h1, h1'⟩, ⟨r2, h2, h2'⟩, ⟨g, h3, h3'⟩, h4, h5, h6, h7, h8, h9⟩ := h
  refine ⟨(e 342 (by omega)).trans h0, ⟨r1, (e 343 (by omega)).trans h1, h1'⟩, ⟨r2, (e 344 (by omega)).trans h2, h2'⟩, ⟨g, (e 345 (by omega)).trans h3, h3'⟩, hP, hT, hX, h7.kept (fun n hn => e _ (by omega)), fun i hi' => (h8 i hi').kept (fun n hn => e _ ?_), fun i hi' => (h9 i hi').kept (fun n hn => e _ (by omega))⟩
  have := (ho.1 i hi').2; omega
theorem cF.pad (h : cF G M ad hi cap F) : cPad G M (fun k => ad (346 + k)) F.ch F.pn := h.2.2.2.2.1
theorem cF.tri (h : cF G M ad hi cap F) : ∃ e l g, M (ad 350) = some (kO 2 [.ref (ad 351), .long e, .long l]) ∧ M (ad 351) = some (kI G 16 g) := h.2.2.2.2.2.1
theorem cF.txt (h : cF G M ad hi cap F) : cTx G M (ad 352) (ad 353) cap := h.2.2.2.2.2.2.1
theorem s_isKind {x : Int32} (hp : post (k01 (isK x)) M) : wp_X3_isKind G post x M := by
  unfold wp_X3_isKind
  refine ⟨fun h => ?_, fun h => ⟨fun h2 => ?_, fun h2 => ?_⟩⟩
  · rw [show isK x = true from decide_eq_true (Or.inl h)] at hp; exact hp
  · rw [show isK x = false from decide_eq_false (fun z => z.elim h h2)] at hp; exact hp
  · rw [show isK x = true from decide_eq_true (Or.inr h2)] at hp; exact hp
theorem s_stmp {ad : Nat → Nat} {S : kS} {postq : Option Nat → k_M → Prop} {k x : Int32} (hmc : S.mc ≤ 8) (hS : cSt G M ad S) (hn : stVal S k x = none → postq none M) (hs : ∀ v a q, stVal S k x = some v → cStp G M a q v → postq (some a) M) : wp_X2_stampOf G postq (ad 0) k x M := by
  refine s_X2_stampOf hmc hS ?_
  unfold stVal at hn hs
  unfold stOf
  obtain ⟨-, -, -, -, -, -, h6, h7⟩ := hS
  by_cases hk : k = 0
  · rw [if_pos hk] at hn hs ⊢
    by_cases h : inH S.sh x = true
    · rw [if_pos h] at hs ⊢
      obtain ⟨j, hj, rfl, -⟩ := inH_ex h
      rw [kcl (by omega)] at hs ⊢
      exact hs _ _ _ rfl (h6 j hj)
    · rw [if_neg h] at hn ⊢
      exact hn rfl
  · rw [if_neg hk] at hn hs ⊢
    by_cases h : inR S.mc x = true
    · rw [if_pos h] at hs ⊢
      obtain ⟨j, hj, rfl⟩ := inR_ex (by omega) h
      rw [kcl (by omega)] at hs ⊢
      exact hs _ _ _ rfl (h7 j (by omega))
    · rw [if_neg h] at hn ⊢
      exact hn rfl
theorem s_X3_height {k x c : Int32} (hmc : F.S.mc ≤ 8) (hF : cF G M ad hi cap F) (hp : post (xheight F k x c) M) : wp_X3_height G post (ad 342) k x c M := by
  have hst := hF.st
  unfold wp_X3_height
  unfold xheight at hp
  refine s_isKind ⟨fun h => ?_, fun h => ?_⟩
  · rw [if_neg (by rw [k01_nz h]; decide)] at hp
    refine ⟨_, _, hF.1, rfl, _, hst.1, s_stmp (ad := stA ad 0) hmc hst (fun hn => ⟨fun _ => ?_, fun v z => nomatch z⟩) (fun v a q hv hc => ⟨fun z => (nomatch z), fun b z => ?_⟩)⟩
    · rw [hn] at hp; exact hp
    · cases z
      replace hp : post (if inR 16 c = true then v.1 c.toNatClampNeg else -1) M := by rw [hv] at hp; exact hp
      obtain ⟨e, l, g, c1, c2, c3, c4⟩ := hc
      refine ⟨fun hlt => ?_, fun hge => ⟨fun h16 => ?_, fun h16 => ?_⟩⟩
      · rw [show inR 16 c = false by simp [inR, hlt]] at hp; exact hp
      · have hin : inR 16 c = true := by
          unfold inR
          rw [decide_eq_true hge, decide_eq_true (p := ¬ nI 16 ≤ c) (k_nle.mpr h16)]
          rfl
        rw [if_pos hin] at hp
        obtain ⟨j, hj, rfl⟩ := inR_ex (by omega) hin
        refine ⟨_, _, c1, rfl, _, _, c2, kvin hj (by omega), ?_⟩
        rw [kcl (by omega)] at hp ⊢
        rw [c3 j hj]; exact hp
      · rw [show inR 16 c = false by
          unfold inR
          rw [decide_eq_false (p := ¬ nI 16 ≤ c) (fun z => h16 (k_nle.mp z))]
          simp] at hp
        exact hp
  · rw [if_pos (k01_z.mp h)] at hp; exact hp
theorem s_X3_knows {k x e : Int32} (hmc : F.S.mc ≤ 8) (hec : F.S.ec ≤ 120) (hF : cF G M ad hi cap F) (hp : post (xknows F k x e) M) : wp_X3_knows G post (ad 342) k x e M := by
  have hst := hF.st
  unfold wp_X3_knows
  unfold xknows at hp
  refine s_isKind ⟨fun h => ?_, fun h => ?_⟩
  · rw [if_neg (by rw [k01_nz h]; decide)] at hp
    refine ⟨_, _, hF.1, rfl, _, hst.1, s_stmp (ad := stA ad 0) hmc hst (fun hn => ⟨fun _ => ?_, fun v z => nomatch z⟩) (fun v a q hv hc => ⟨fun z => (nomatch z), fun b z => ?_⟩)⟩
    · rw [hn] at hp; exact hp
    · cases z
      replace hp : post (if inR F.S.ec e = true then k01 (v.2 e.toNatClampNeg) else -1) M := by rw [hv] at hp; exact hp
      obtain ⟨e1, l, g, c1, c2, c3, c4⟩ := hc
      refine ⟨_, _, hF.1, rfl, _, hst.1, s_X2_isEvent (ad := stA ad 0) hst ⟨fun h2 => ?_, fun h2 => ?_⟩⟩
      · rw [if_pos (k01_nz h2)] at hp
        obtain ⟨j, hj, rfl⟩ := inR_ex (by omega) (k01_nz h2)
        rw [kcl (by omega)] at hp
        refine ⟨_, c1, s_X1_isKnown (by omega) c1 ?_⟩
        rw [c4 j (by omega)]
        refine ⟨fun h3 => ?_, fun h3 => ?_⟩
        · rw [k01_z.mp h3] at hp; exact hp
        · rw [k01_nz h3] at hp; exact hp
      · rw [if_neg (by rw [k01_z.mp h2]; decide)] at hp; exact hp
  · rw [if_pos (k01_z.mp h)] at hp; exact hp
theorem s_X3_order {k x k2 x2 : Int32} (hmc : F.S.mc ≤ 8) (hF : cF G M ad hi cap F) (hp : post (xorder F k x k2 x2) M) : wp_X3_order G post (ad 342) k x k2 x2 M := by
  have hst := hF.st
  unfold wp_X3_order
  unfold xorder at hp
  refine s_isKind ⟨fun h => ?_, fun h => s_isKind ⟨fun h2 => ?_, fun h2 => ?_⟩⟩
  · rw [if_pos (Or.inl (k01_z.mp h))] at hp; exact hp
  · rw [if_neg (by rw [k01_nz h, k01_nz h2]; decide)] at hp
    refine ⟨_, _, hF.1, rfl, _, hst.1, s_stmp (ad := stA ad 0) hmc hst (fun hn => ⟨fun _ => ?_, fun v z => nomatch z⟩) (fun v a q hv hc => ⟨fun z => (nomatch z), fun b z => ?_⟩)⟩
    · rw [hn] at hp
      exact ⟨_, _, hF.1, rfl, _, hst.1, s_stmp (ad := stA ad 0) hmc hst (fun _ => ⟨fun _ => hp, fun v z => nomatch z⟩) (fun _ _ _ _ _ => ⟨fun z => (nomatch z), fun _ _ => hp⟩)⟩
    · cases z
      replace hp : post ((stVal F.S k2 x2).elim (-1) (fun b => kOrd v b)) M := by rw [hv] at hp; exact hp
      refine ⟨_, _, hF.1, rfl, _, hst.1, s_stmp (ad := stA ad 0) hmc hst (fun hn => ⟨fun _ => ?_, fun v z => nomatch z⟩) (fun v2 a2 q2 hv2 hc2 => ⟨fun z => (nomatch z), fun b z => ?_⟩)⟩
      · rw [hn] at hp; exact hp
      · cases z
        replace hp : post (kOrd v v2) M := by rw [hv2] at hp; exact hp
        obtain ⟨e1, l1, g1, c1, c2, c3, c4⟩ := hc
        obtain ⟨e2, l2, g2, d1, d2, d3, d4⟩ := hc2
        refine ⟨_, c1, s_X1_orderTo c1 c2 d1 d2 ?_⟩
        rw [ordf_cong c3 d3]; exact hp
  · rw [if_pos (Or.inr (k01_z.mp h2))] at hp; exact hp
theorem s_X3_more {k x k2 x2 : Int32} (hmc : F.S.mc ≤ 8) (hF : cF G M ad hi cap F) (hp : post (xmore F k x k2 x2) M) : wp_X3_more G post (ad 342) k x k2 x2 M := by
  have hst := hF.st
  unfold wp_X3_more
  unfold xmore at hp
  refine s_isKind ⟨fun h => ?_, fun h => s_isKind ⟨fun h2 => ?_, fun h2 => ?_⟩⟩
  · rw [if_pos (Or.inl (k01_z.mp h))] at hp; exact hp
  · rw [if_neg (by rw [k01_nz h, k01_nz h2]; decide)] at hp
    refine ⟨_, _, hF.1, rfl, _, hst.1, s_stmp (ad := stA ad 0) hmc hst (fun hn => ⟨fun _ => ?_, fun v z => nomatch z⟩) (fun v a q hv hc => ⟨fun z => (nomatch z), fun b z => ?_⟩)⟩
    · rw [hn] at hp
      exact ⟨_, _, hF.1, rfl, _, hst.1, s_stmp (ad := stA ad 0) hmc hst (fun _ => ⟨fun _ => hp, fun v z => nomatch z⟩) (fun _ _ _ _ _ => ⟨fun z => (nomatch z), fun _ _ => hp⟩)⟩
    · cases z
      replace hp : post ((stVal F.S k2 x2).elim (-1) (fun b => nI (kCt (fun i => v.2 i && !(b.2 i)) 128))) M := by rw [hv] at hp; exact hp
      refine ⟨_, _, hF.1, rfl, _, hst.1, s_stmp (ad := stA ad 0) hmc hst (fun hn => ⟨fun _ => ?_, fun v z => nomatch z⟩) (fun v2 a2 q2 hv2 hc2 => ⟨fun z => (nomatch z), fun b z => ?_⟩)⟩
      · rw [hn] at hp; exact hp
      · cases z
        replace hp : post (nI (kCt (fun i => v.2 i && !(v2.2 i)) 128)) M := by rw [hv2] at hp; exact hp
        obtain ⟨e1, l1, g1, c1, c2, c3, c4⟩ := hc
        obtain ⟨e2, l2, g2, d1, d2, d3, d4⟩ := hc2
        refine ⟨_, c1, s_X1_knownBeyond c1 d1 ?_⟩
        rw [kCt_cong (q := fun i => v.2 i && !(v2.2 i)) (fun i hi => by rw [c4 i hi, d4 i hi])]; exact hp
  · rw [if_pos (Or.inr (k01_z.mp h2))] at hp; exact hp
theorem s_X3_whose {x : Int32} (hec : F.S.ec ≤ 120) (hF : cF G M ad hi cap F) (hp : post (xwhose F x) M) : wp_X3_whose G post (ad 342) x M := by
  have hst := hF.st
  unfold wp_X3_whose
  unfold xwhose at hp
  refine ⟨_, _, hF.1, rfl, _, hst.1, s_X2_isEvent (ad := stA ad 0) hst ⟨fun h => ?_, fun h => ?_⟩⟩
  · rw [if_neg (by rw [k01_z.mp h]; decide)] at hp; exact hp
  · rw [if_pos (k01_nz h)] at hp
    obtain ⟨j, hj, rfl⟩ := inR_ex (by omega) (k01_nz h)
    obtain ⟨q0, -, -, -, -, ⟨g, q5, q5'⟩, -, -⟩ := hst
    refine ⟨_, _, hF.1, rfl, _, _, q0, rfl, _, _, q5, kvin (show j < 120 by omega) (by omega), ?_⟩
    rw [kcl (by omega)] at hp ⊢
    rw [q5' j (by omega)]; exact hp
theorem s_X3_count {x : Int32} (hF : cF G M ad hi cap F) (hp : post (xcount F x) M) : wp_X3_count G post (ad 342) x M := by
  have hst := hF.st
  unfold wp_X3_count
  unfold xcount at hp
  refine ⟨fun h => ?_, fun h => ?_, fun h => ?_, fun h => ?_, fun h => ?_, fun h => ?_, fun h => ?_, fun h => ?_, fun h => ?_⟩
  · rw [if_pos h] at hp
    exact ⟨_, _, hF.1, rfl, _, hst.1, s_X2_helperSet (ad := stA ad 0) hst hp⟩
  · rw [if_neg (by omega), if_pos h] at hp
    exact ⟨_, _, hF.1, rfl, _, _, hst.1, rfl, hp⟩
  · rw [if_neg (by omega), if_neg (by omega), if_pos h] at hp
    exact ⟨_, _, hF.1, rfl, _, _, hst.1, rfl, hp⟩
  · rw [if_neg (by omega), if_neg (by omega), if_neg (by omega), if_pos h] at hp
    exact ⟨_, _, hF.1, rfl, _, hst.1, s_X2_clashingPairs (ad := stA ad 0) hst hp⟩
  · rw [if_neg (by omega), if_neg (by omega), if_neg (by omega), if_neg (by omega), if_pos h] at hp
    exact ⟨_, _, hF.1, rfl, _, hst.1, s_X2_knotsOfHelpers (ad := stA ad 0) hst hp⟩
  · rw [if_neg (by omega), if_neg (by omega), if_neg (by omega), if_neg (by omega), if_neg (by omega), if_pos h] at hp
    exact ⟨_, _, hF.1, rfl, _, hst.1, s_X2_foremost (ad := stA ad 0) hst hp⟩
  · rw [if_neg (by omega), if_neg (by omega), if_neg (by omega), if_neg (by omega), if_neg (by omega), if_neg (by omega), if_pos h] at hp
    obtain ⟨a, b, c, d, h0⟩ := hF.pad.1
    exact ⟨_, _, hF.1, rfl, _, _, h0, rfl, hp⟩
  · rw [if_neg (by omega), if_neg (by omega), if_neg (by omega), if_neg (by omega), if_neg (by omega), if_neg (by omega), if_neg (by omega), if_pos h] at hp
    exact ⟨_, _, hF.1, rfl, hp⟩
  · rw [if_neg (by omega), if_neg (by omega), if_neg (by omega), if_neg (by omega), if_neg (by omega), if_neg (by omega), if_neg (by omega), if_neg (by omega)] at hp
    exact hp
theorem s_X3_ofMessage {x w : Int32} (hmc : F.S.mc ≤ 8) (hF : cF G M ad hi cap F) (hp : post (xofM F x w) M) : wp_X3_ofMessage G post (ad 342) x w M := by
  have hst := hF.st
  unfold wp_X3_ofMessage
  unfold xofM at hp
  refine ⟨_, _, hF.1, rfl, _, hst.1, s_X2_isMessage (ad := stA ad 0) hst ⟨fun h => ?_, fun h => ?_⟩⟩
  · rw [if_neg (by rw [k01_nz h]; decide)] at hp
    obtain ⟨j, hj, rfl⟩ := inR_ex (by omega) (k01_nz h)
    rw [kcl (by omega)] at hp
    obtain ⟨q0, -, -, ⟨r3, q3, q3'⟩, ⟨g, q4, q4'⟩, -, -, q7⟩ := hst
    obtain ⟨e1, l, f, c1, c2, c3, c4⟩ := q7 j (by omega)
    refine ⟨_, _, hF.1, rfl, _, _, q0, rfl, _, _, _, q3, kvin (show j < 8 by omega) (by omega), k_at (q3' j (by omega)) (by omega), fun h2 => ?_, fun h2 => ?_, fun h2 => ?_, fun h2 => ?_, fun h2 => ?_⟩
    · rw [if_pos h2] at hp
      refine ⟨_, _, hF.1, rfl, _, _, q0, rfl, _, _, q4, kvin (show j < 8 by omega) (by omega), ?_⟩
      rw [kcl (by omega), q4' j (by omega)]; exact hp
    · rw [if_neg (by omega), if_pos h2] at hp
      refine ⟨_, c1, s_X1_sum c1 c2 ?_⟩
      rw [kSum_cong c3]; exact hp
    · rw [if_neg (by omega), if_neg (by omega), if_pos h2] at hp
      refine ⟨_, c1, s_X1_knownCount c1 ?_⟩
      rw [kCt_cong c4]; exact hp
    · rw [if_neg (by omega), if_neg (by omega), if_neg (by omega), if_pos h2] at hp
      refine ⟨_, c1, s_X1_knots c1 c2 ?_⟩
      rw [kKn_cong c3 4 0 (by decide)]; exact hp
    · rw [if_neg (by omega), if_neg (by omega), if_neg (by omega), if_neg (by omega)] at hp
      exact hp
  · rw [if_pos (k01_z.mp h)] at hp; exact hp
theorem s_lag12 {w : Int32} (hF : cF G M ad hi cap F) (hp : post (if w = 0 then nI (lkS F.S 8).1 else nI F.S.ec - nI (kCnt (F.S.hs (lkS F.S 8).1))) M) : wp_X3_laggard_b12 G post (ad 342) w M := by
  have hst := hF.st
  unfold wp_X3_laggard_b12
  refine ⟨_, _, hF.1, rfl, _, hst.1, s_X2_leastKnowing (ad := stA ad 0) hst ⟨fun h => ?_, fun h => ?_⟩⟩
  · rw [if_neg h] at hp
    have hlt := lkS_lt F.S 8 (by omega)
    obtain ⟨q0, -, ⟨r2, q2, q2'⟩, -, -, -, q6, -⟩ := hst
    obtain ⟨e1, l, f, c1, c2, c3, c4⟩ := q6 _ hlt
    refine ⟨_, _, hF.1, rfl, _, _, q0, rfl, _, _, hF.1, rfl, _, _, q0, rfl, _, _, _, q2, kvin hlt (by omega), k_at (q2' _ hlt) (by omega), _, c1, s_X1_knownCount c1 ?_⟩
    rw [kCt_cong c4]; exact hp
  · rw [if_pos h] at hp; exact hp
theorem s_X3_laggard {w : Int32} (hF : cF G M ad hi cap F) (hp : post (xlag F w) M) : wp_X3_laggard G post (ad 342) w M := by
  unfold wp_X3_laggard
  unfold xlag at hp
  refine ⟨fun h => s_lag12 hF ?_, fun h => ⟨fun h2 => s_lag12 hF ?_, fun h2 => ?_⟩⟩
  · rw [if_pos h] at hp ⊢; exact hp
  · rw [if_neg h, if_pos h2] at hp; rw [if_neg h]; exact hp
  · rw [if_neg h, if_neg h2] at hp; exact hp
end F3
