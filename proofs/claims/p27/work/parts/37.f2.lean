/-! ===== the class' changes ===== -/
theorem remF_S (F : kF) : (remF F).S = F.S := by unfold remF; split <;> rfl
def xfork (F : kF) (x : Int32) : Int32 × kF :=
  if inH F.S.sh x = false then (-1, F)
  else if 8 ≤ kMin (fun i => decide (F.S.sh i = 0)) 8 then (-4, F)
  else if kCt (bt (F.S.sh x.toNatClampNeg)) 32 = 1 then (-5, F)
  else (nI (kMin (fun i => decide (F.S.sh i = 0)) 8), (splS F.S x.toNatClampNeg (kMin (fun i => decide (F.S.sh i = 0)) 8), (remF F).2))
def xgather (F : kF) (x y : Int32) : Int32 × kF :=
  if inH F.S.sh x = false ∨ inH F.S.sh y = false then (-1, F)
  else if x = y then (-2, F)
  else (nI (kCt (bt ((mrgS F.S x.toNatClampNeg y.toNatClampNeg).sh y.toNatClampNeg)) 32), (mrgS F.S x.toNatClampNeg y.toNatClampNeg, (remF F).2))
def xevent (F : kF) (x : Int32) : Int32 × kF :=
  if inH F.S.sh x = false then (-1, F) else if 120 ≤ F.S.ec then (-4, F) else (nI F.S.ec, (evS F.S x.toNatClampNeg, (remF F).2))
def xsend (F : kF) (x : Int32) : Int32 × kF :=
  if inH F.S.sh x = false then (-1, F) else if 8 ≤ F.S.mc then (-4, F) else (nI F.S.mc, (sndS F.S x.toNatClampNeg, (remF F).2))
def xreceive (F : kF) (x y : Int32) : Int32 × kF :=
  if inH F.S.sh x = false ∨ inR F.S.mc y = false then (-1, F) else if 120 ≤ F.S.ec then (-4, F) else (nI F.S.ec, (evS (tkS F.S x.toNatClampNeg y.toNatClampNeg) x.toNatClampNeg, (remF F).2))
def xdrop (F : kF) (y : Int32) : Int32 × kF :=
  if inR F.S.mc y = false then (-1, F) else (nI (F.S.mc - 1), (rmS F.S y.toNatClampNeg, (remF F).2))
def xundo (F : kF) : Int32 × kF :=
  if F.hc = 0 then (-5, F) else (nI (F.hc - 1), (F.hist (F.hc - 1), F.hist, F.hc - 1, F.2.2.2))
def xsave (F : kF) (x : Int32) : Int32 × kF :=
  if inR 2 x = false then (-2, F) else (nI F.S.ec, (F.S, F.hist, F.hc, va_up F.sl x.toNatClampNeg F.S, va_up F.sv x.toNatClampNeg true, F.2.2.2.2.2))
def xrestore (F : kF) (x : Int32) : Int32 × kF :=
  if inR 2 x = false then (-2, F) else if F.sv x.toNatClampNeg = false then (-5, F) else (nI (F.sl x.toNatClampNeg).ec, (F.sl x.toNatClampNeg, (remF F).2))
/-- what a call needs of the class, and what it leaves -/
def xPost (G : k_G) (M : k_M) (ad : Nat → Nat) (cap : Nat) (r : Int32 × kF) (post : Int32 → k_M → Prop) : Prop := ∀ (M1 : k_M) (hi' : Nat → Nat), kFr M M1 ad → hOk hi' → cF G M1 ad hi' cap r.2 → post r.1 M1
theorem kAns_none {p : Nat → Bool} {n : Nat} (hn : n ≤ 1000) : kAns p n = -6 ↔ n ≤ kMin p n := by
  unfold kAns
  constructor
  · intro h
    rcases Nat.lt_or_ge (kMin p n) n with q | q
    · rw [if_pos q] at h
      exact absurd (show nI (kMin p n) < 0 by rw [h]; decide) (nI_pos (by omega))
    · exact q
  · intro h
    rw [if_neg (by omega)]
section F2
variable {G : k_G} {M : k_M} {ad hi : Nat → Nat} {cap : Nat} {F : kF} {post : Int32 → k_M → Prop}
theorem cF.st {M : k_M} (h : cF G M ad hi cap F) : cSt G M (stA ad 0) F.S := h.2.2.2.2.2.2.2.1
/-- behind remember: a change of the present state -/
theorem s_change {S' : kS} {M1 : k_M} {hi1 : Nat → Nat} (hg : gInj ad) (ho : hOk hi1) (f1 : kFr M M1 ad) (h1 : cF G M1 ad hi1 cap (remF F)) {M2 : k_M} (f2 : ∀ a, (∀ i, i < 38 → a ≠ stA ad 0 i) → M2 a = M1 a) (hS : cSt G M2 (stA ad 0) S') {r : Int32} (hp : xPost G M ad cap (r, (S', (remF F).2)) post) : post r M2 :=
  hp M2 hi1 (f1.trans (kFr.st (j := 0) (by omega) f2)) ho (h1.now hg ho f2 hS)
theorem s_X3_event {x : Int32} (hg : gInj ad) (ho : hOk hi) (hec : F.S.ec ≤ 120) (hc : F.hc ≤ 6) (hF : cF G M ad hi cap F) (hp : xPost G M ad cap (xevent F x) post) : wp_X3_event G post (ad 342) x M := by
  have hst := hF.st
  unfold wp_X3_event
  unfold xevent at hp
  refine ⟨_, _, hF.1, rfl, _, hst.1, s_X2_isHelper (ad := stA ad 0) hst ⟨fun h => ?_, fun h => ?_⟩⟩
  · rw [if_neg (by rw [k01_nz h]; decide)] at hp
    obtain ⟨j, hj, rfl, -⟩ := inH_ex (k01_nz h)
    rw [kcl (by omega)] at hp
    refine ⟨_, _, hF.1, rfl, _, _, hst.1, rfl, fun h2 => ?_, fun h2 => ?_⟩
    · have hlt : F.S.ec < 120 := (nI_ltI (a := F.S.ec) (b := 120) (by omega) (by omega)).mp h2
      rw [if_neg (by omega)] at hp
      refine ⟨_, hF.1, s_X3_remember hg ho hc hF (fun M1 hi1 f1 ho1 h1 => ?_)⟩
      have hst1 := h1.st
      rw [remF_S] at hst1
      exact ⟨_, _, h1.1, rfl, _, hst1.1, s_X2_addEvent (ad := stA ad 0) hj hlt (hg.st (by omega)) hst1 (fun M2 f2 h2 => s_change hg ho1 f1 h1 f2 h2 hp)⟩
    · rw [if_pos (by
        rcases Nat.lt_or_ge F.S.ec 120 with q | q
        · exact absurd (nI_lt (a := F.S.ec) (b := 120) q (by omega)) h2
        · exact q)] at hp
      exact hp M hi kFr.refl ho hF
  · rw [if_pos (k01_z.mp h)] at hp
    exact hp M hi kFr.refl ho hF
theorem s_X3_send {x : Int32} (hg : gInj ad) (ho : hOk hi) (hmc : F.S.mc ≤ 8) (hc : F.hc ≤ 6) (hF : cF G M ad hi cap F) (hp : xPost G M ad cap (xsend F x) post) : wp_X3_send G post (ad 342) x M := by
  have hst := hF.st
  unfold wp_X3_send
  unfold xsend at hp
  refine ⟨_, _, hF.1, rfl, _, hst.1, s_X2_isHelper (ad := stA ad 0) hst ⟨fun h => ?_, fun h => ?_⟩⟩
  · rw [if_neg (by rw [k01_nz h]; decide)] at hp
    obtain ⟨j, hj, rfl, -⟩ := inH_ex (k01_nz h)
    rw [kcl (by omega)] at hp
    refine ⟨_, _, hF.1, rfl, _, _, hst.1, rfl, fun h2 => ?_, fun h2 => ?_⟩
    · have hlt : F.S.mc < 8 := (nI_ltI (a := F.S.mc) (b := 8) (by omega) (by omega)).mp h2
      rw [if_neg (by omega)] at hp
      refine ⟨_, hF.1, s_X3_remember hg ho hc hF (fun M1 hi1 f1 ho1 h1 => ?_)⟩
      have hst1 := h1.st
      rw [remF_S] at hst1
      exact ⟨_, _, h1.1, rfl, _, hst1.1, s_X2_addMessage (ad := stA ad 0) hj hlt (hg.st (by omega)) hst1 (fun M2 f2 h2 => s_change hg ho1 f1 h1 f2 h2 hp)⟩
    · rw [if_pos (by
        rcases Nat.lt_or_ge F.S.mc 8 with q | q
        · exact absurd (nI_lt (a := F.S.mc) (b := 8) q (by omega)) h2
        · exact q)] at hp
      exact hp M hi kFr.refl ho hF
  · rw [if_pos (k01_z.mp h)] at hp
    exact hp M hi kFr.refl ho hF
theorem s_X3_fork {x : Int32} (hg : gInj ad) (ho : hOk hi) (hc : F.hc ≤ 6) (hF : cF G M ad hi cap F) (hp : xPost G M ad cap (xfork F x) post) : wp_X3_fork G post (ad 342) x M := by
  have hst := hF.st
  unfold wp_X3_fork
  unfold xfork at hp
  refine ⟨_, _, hF.1, rfl, _, hst.1, s_X2_isHelper (ad := stA ad 0) hst ⟨fun h => ?_, fun h => ?_⟩⟩
  · rw [if_neg (by rw [k01_nz h]; decide)] at hp
    obtain ⟨j, hj, rfl, hjl⟩ := inH_ex (k01_nz h)
    rw [kcl (by omega)] at hp
    refine ⟨_, _, hF.1, rfl, _, hst.1, s_X2_lowestFree (ad := stA ad 0) hst ⟨fun h2 => ?_, fun h2 => ?_⟩⟩
    · have h8 : kMin (fun i => decide (F.S.sh i = 0)) 8 < 8 := by
        rcases Nat.lt_or_ge (kMin (fun i => decide (F.S.sh i = 0)) 8) 8 with q | q
        · exact q
        · exact absurd ((kAns_none (by omega)).mpr q) h2
      have hk0 := (kMin_spec (fun i => decide (F.S.sh i = 0)) 8).2.2 h8
      rw [if_neg (by omega)] at hp
      obtain ⟨g, hg1, hg1'⟩ := hst.2.1
      refine ⟨_, _, hF.1, rfl, _, _, hst.1, rfl, _, _, hg1, kvin hj (by omega), ?_⟩
      rw [kcl (by omega), hg1' j hj]
      refine s_bitCountI ⟨fun h3 => ?_, fun h3 => ?_⟩
      · rw [if_neg (fun z => h3 (by rw [z]; rfl))] at hp
        refine ⟨_, hF.1, s_X3_remember hg ho hc hF (fun M1 hi1 f1 ho1 h1 => ?_)⟩
        have hst1 := h1.st
        rw [remF_S] at hst1
        have ek : kAns (fun i => decide (F.S.sh i = 0)) 8 = nI (kMin (fun i => decide (F.S.sh i = 0)) 8) := if_pos h8
        rw [ek]
        refine ⟨_, _, h1.1, rfl, _, hst1.1, s_X2_split (ad := stA ad 0) hj h8 (fun z => hjl (by rw [z]; simpa using hk0)) (hg.st (by omega)) hst1 (fun M2 f2 h2 => s_change hg ho1 f1 h1 f2 h2 hp)⟩
      · have hle : kCt (bt (F.S.sh j)) 32 ≤ 32 := kCt_le
        rw [if_pos ((nI_eq (b := 1) (by omega) (by omega)).mp h3)] at hp
        exact hp M hi kFr.refl ho hF
    · rw [if_pos ((kAns_none (by omega)).mp h2)] at hp
      exact hp M hi kFr.refl ho hF
  · rw [if_pos (k01_z.mp h)] at hp
    exact hp M hi kFr.refl ho hF
theorem s_X3_gather {x y : Int32} (hg : gInj ad) (ho : hOk hi) (hc : F.hc ≤ 6) (hF : cF G M ad hi cap F) (hp : xPost G M ad cap (xgather F x y) post) : wp_X3_gather G post (ad 342) x y M := by
  have hst := hF.st
  unfold wp_X3_gather
  unfold xgather at hp
  refine ⟨_, _, hF.1, rfl, _, hst.1, s_X2_isHelper (ad := stA ad 0) hst ⟨fun h => ?_, fun h => ⟨_, _, hF.1, rfl, _, hst.1, s_X2_isHelper (ad := stA ad 0) hst ⟨fun h2 => ?_, fun h2 => ?_⟩⟩⟩⟩
  · rw [if_pos (Or.inl (k01_z.mp h))] at hp
    exact hp M hi kFr.refl ho hF
  · rw [if_neg (by rw [k01_nz h, k01_nz h2]; decide)] at hp
    refine ⟨fun h3 => ?_, fun h3 => ?_⟩
    · rw [if_neg h3] at hp
      obtain ⟨i, hi8, rfl, -⟩ := inH_ex (k01_nz h)
      obtain ⟨j, hj, rfl, -⟩ := inH_ex (k01_nz h2)
      rw [kcl (i := i) (by omega), kcl (i := j) (by omega)] at hp
      refine ⟨_, hF.1, s_X3_remember hg ho hc hF (fun M1 hi1 f1 ho1 h1 => ?_)⟩
      have hst1 := h1.st
      rw [remF_S] at hst1
      refine ⟨_, _, h1.1, rfl, _, hst1.1, s_X2_merge (ad := stA ad 0) hi8 hj (fun z => h3 (by rw [z])) (hg.st (by omega)) hst1 (fun M2 f2 h2 => ?_)⟩
      have hF2 := h1.now hg ho1 f2 h2
      obtain ⟨g, hg1, hg1'⟩ := h2.2.1
      refine ⟨_, _, hF2.1, rfl, _, _, h2.1, rfl, _, _, hg1, kvin hj (by omega), ?_⟩
      rw [kcl (by omega), hg1' j hj]
      exact s_bitCountI (s_change hg ho1 f1 h1 f2 h2 hp)
    · rw [if_pos h3] at hp
      exact hp M hi kFr.refl ho hF
  · rw [if_pos (Or.inr (k01_z.mp h2))] at hp
    exact hp M hi kFr.refl ho hF
theorem s_X3_receive {x y : Int32} (hg : gInj ad) (ho : hOk hi) (hmc : F.S.mc ≤ 8) (hec : F.S.ec ≤ 120) (hc : F.hc ≤ 6) (hF : cF G M ad hi cap F) (hp : xPost G M ad cap (xreceive F x y) post) : wp_X3_receive G post (ad 342) x y M := by
  have hst := hF.st
  unfold wp_X3_receive
  unfold xreceive at hp
  refine ⟨_, _, hF.1, rfl, _, hst.1, s_X2_isHelper (ad := stA ad 0) hst ⟨fun h => ?_, fun h => ⟨_, _, hF.1, rfl, _, hst.1, s_X2_isMessage (ad := stA ad 0) hst ⟨fun h2 => ?_, fun h2 => ?_⟩⟩⟩⟩
  · rw [if_pos (Or.inl (k01_z.mp h))] at hp
    exact hp M hi kFr.refl ho hF
  · rw [if_neg (by rw [k01_nz h, k01_nz h2]; decide)] at hp
    obtain ⟨j, hj, rfl, -⟩ := inH_ex (k01_nz h)
    obtain ⟨m, hm, rfl⟩ := inR_ex (by omega) (k01_nz h2)
    rw [kcl (i := j) (by omega), kcl (i := m) (by omega)] at hp
    refine ⟨_, _, hF.1, rfl, _, _, hst.1, rfl, fun h3 => ?_, fun h3 => ?_⟩
    · have hlt : F.S.ec < 120 := (nI_ltI (a := F.S.ec) (b := 120) (by omega) (by omega)).mp h3
      rw [if_neg (by omega)] at hp
      refine ⟨_, hF.1, s_X3_remember hg ho hc hF (fun M1 hi1 f1 ho1 h1 => ?_)⟩
      have hst1 := h1.st
      rw [remF_S] at hst1
      have hst1' := hst1
      obtain ⟨q0, -, ⟨r2, q2, q2'⟩, ⟨r3, q3, q3'⟩, -, -, q6, q7⟩ := hst1'
      obtain ⟨ej, lj, gj, j1, -⟩ := q6 j hj
      refine ⟨_, _, h1.1, rfl, _, _, q0, rfl, _, _, _, q2, kvin hj (by omega), k_at (q2' j hj) (by omega), _, _, h1.1, rfl, _, _, q0, rfl, _, _, _, q3, kvin (show m < 8 by omega) (by omega), k_at (q3' m (by omega)) (by omega), _, j1, ?_⟩
      refine s_take (ad := stA ad 0) hj (by omega) (hg.st (by omega)) hst1 (fun M2 f2 h2 => ?_)
      have hF2 := h1.now hg ho1 f2 h2
      refine ⟨_, _, hF2.1, rfl, _, h2.1, s_X2_addEvent (ad := stA ad 0) (S := tkS F.S j m) hj hlt (hg.st (by omega)) h2 (fun M3 f3 h3 => ?_)⟩
      exact s_change hg ho1 f1 h1 (fun a ha => (f3 a ha).trans (f2 a ha)) h3 hp
    · rw [if_pos (by
        rcases Nat.lt_or_ge F.S.ec 120 with q | q
        · exact absurd (nI_lt (a := F.S.ec) (b := 120) q (by omega)) h3
        · exact q)] at hp
      exact hp M hi kFr.refl ho hF
  · rw [if_pos (Or.inr (k01_z.mp h2))] at hp
    exact hp M hi kFr.refl ho hF
theorem s_X3_drop {y : Int32} (hg : gInj ad) (ho : hOk hi) (hmc : F.S.mc ≤ 8) (hc : F.hc ≤ 6) (hF : cF G M ad hi cap F) (hp : xPost G M ad cap (xdrop F y) post) : wp_X3_drop G post (ad 342) y M := by
  have hst := hF.st
  unfold wp_X3_drop
  unfold xdrop at hp
  refine ⟨_, _, hF.1, rfl, _, hst.1, s_X2_isMessage (ad := stA ad 0) hst ⟨fun h => ?_, fun h => ?_⟩⟩
  · rw [if_neg (by rw [k01_nz h]; decide)] at hp
    obtain ⟨m, hm, rfl⟩ := inR_ex (by omega) (k01_nz h)
    rw [kcl (by omega)] at hp
    refine ⟨_, hF.1, s_X3_remember hg ho hc hF (fun M1 hi1 f1 ho1 h1 => ?_)⟩
    have hst1 := h1.st
    rw [remF_S] at hst1
    refine ⟨_, _, h1.1, rfl, _, hst1.1, s_X2_removeMessage (ad := stA ad 0) hm hmc (hg.st (by omega)) hst1 (fun M2 f2 h2 => ?_)⟩
    have hF2 := h1.now hg ho1 f2 h2
    exact ⟨_, _, hF2.1, rfl, _, _, h2.1, rfl, s_change hg ho1 f1 h1 f2 h2 hp⟩
  · rw [if_pos (k01_z.mp h)] at hp
    exact hp M hi kFr.refl ho hF
end F2
