/-! ===== what stays true of the state ===== -/
theorem okV.mono {ec ec' : Nat} {v : kSV} (h : okV ec v) (hle : ec ≤ ec') : okV ec' v := ⟨fun c hc => Nat.le_trans (h.1 c hc) hle, fun i hi => h.2 i (by omega)⟩
theorem uI_mx {ec : Nat} {f g : Nat → Int32} {c : Nat} (h1 : uI (f c) ≤ ec) (h2 : uI (g c) ≤ ec) : uI (mx f g c) ≤ ec := by
  unfold mx
  split
  · exact h2
  · exact h1
theorem okV.mrg {ec : Nat} {a b : kSV} (ha : okV ec a) (hb : okV ec b) : okV ec (mrg a b) := by
  refine ⟨fun c hc => uI_mx (ha.1 c hc) (hb.1 c hc), fun i hi => ?_⟩
  show (a.2 i || b.2 i) = false
  rw [ha.2 i hi, hb.2 i hi]; rfl
theorem uI_gIn {ec : Nat} {f : Nat → Int32} {sh : Int32} : ∀ {n : Nat}, n ≤ 16 → (∀ c, c < 16 → uI (f c) ≤ ec) → uI (gIn f sh n) ≤ ec := by
  intro n
  induction n with
  | zero => intro _ _; exact Nat.zero_le ec
  | succ n ih =>
    intro hn h
    have := ih (by omega) h
    rw [gIn]
    split
    · split
      · exact h n (by omega)
      · exact this
    · exact this
theorem uI_rz {ec : Nat} {f : Nat → Int32} {sh : Int32} (hec : ec ≤ 120) (h : ∀ c, c < 16 → uI (f c) ≤ ec) : uI (rz f sh) ≤ ec + 1 := by
  have hg := uI_gIn (sh := sh) (Nat.le_refl 16) h
  unfold rz
  split
  · rw [uI_add, show uI 1 = 1 from rfl]
    omega
  · omega
theorem ok_rem {F : kF} (h : okF F) {S' : kS} (hS : okS S') : okF (S', (remF F).2) := by
  obtain ⟨o1, o2, o3, o4, o5, o6⟩ := h
  refine ⟨hS, ?_, ?_, ?_, ?_, ?_⟩
  · intro i hi
    show okS ((remF F).hist i)
    replace hi : i < (remF F).hc := hi
    unfold remF at hi ⊢
    split at hi
    · rename_i hc
      rw [if_pos hc]
      show okS (va_up F.hist F.hc F.S i)
      replace hi : i < F.hc + 1 := hi
      by_cases hic : i = F.hc
      · rw [hic, vup_s]; exact o1
      · rw [vup_n hic]; exact o2 i (by omega)
    · rename_i hc
      rw [if_neg hc]
      show okS (va_up (rot F.hist) 5 F.S i)
      replace hi : i < 6 := hi
      by_cases hic : i = 5
      · rw [hic, vup_s]; exact o1
      · rw [vup_n hic]
        unfold rot
        rw [if_pos (by omega)]
        exact o2 (i + 1) (by omega)
  · show (remF F).hc ≤ 6
    unfold remF
    split
    · show F.hc + 1 ≤ 6; omega
    · show (6 : Nat) ≤ 6; omega
  · show ∀ i, i < 2 → (remF F).sv i = true → okS ((remF F).sl i)
    rw [remF_sv, remF_sl]; exact o4
  · show (remF F).pn ≤ 64
    rw [remF_pn]; exact o5
  · show ∀ i, i < (remF F).pn → (remF F).ch i < 128
    rw [remF_pn, remF_ch]; exact o6
theorem ok_spl {S : kS} (h : okS S) {j k : Nat} (hj : j < 8) (hk : k < 8) (hjk : j ≠ k) (hl : S.sh j ≠ 0) (h1 : kCt (bt (S.sh j)) 32 ≠ 1) : okS (splS S j k) := by
  obtain ⟨o1, o2, o3, o4, o5, o6⟩ := h
  obtain ⟨n1, n2, n3⟩ := split_ne (o3 j hj) hl h1
  refine ⟨o1, o2, fun i hi b hb => ?_, ⟨j, hj, ?_⟩, fun i hi hli => ?_, o6⟩
  · show bt (upd (upd S.sh j (stay (S.sh j))) k (S.sh j &&& (stay (S.sh j) ^^^ (-1 : Int32))) i) b = false
    by_cases hik : i = k
    · rw [hik, upd_s, b_and, o3 j hj b hb]; rfl
    · rw [upd_n hik]
      by_cases hij : i = j
      · rw [hij, upd_s]; exact n3 b hb
      · rw [upd_n hij]; exact o3 i hi b hb
  · show upd (upd S.sh j (stay (S.sh j))) k (S.sh j &&& (stay (S.sh j) ^^^ (-1 : Int32))) j ≠ 0
    rw [upd_n hjk, upd_s]; exact n1
  · replace hli : upd (upd S.sh j (stay (S.sh j))) k (S.sh j &&& (stay (S.sh j) ^^^ (-1 : Int32))) i ≠ 0 := hli
    show okV S.ec (va_up S.hs k (S.hs j) i)
    by_cases hik : i = k
    · rw [hik, vup_s]; exact o5 j hj hl
    · rw [upd_n hik] at hli
      rw [vup_n hik]
      by_cases hij : i = j
      · rw [hij]; exact o5 j hj hl
      · rw [upd_n hij] at hli; exact o5 i hi hli
theorem ok_mrg {S : kS} (h : okS S) {i j : Nat} (hi : i < 8) (hj : j < 8) (hij : i ≠ j) (hli : S.sh i ≠ 0) (hlj : S.sh j ≠ 0) : okS (mrgS S i j) := by
  obtain ⟨o1, o2, o3, o4, o5, o6⟩ := h
  refine ⟨o1, o2, fun k hk b hb => ?_, ⟨j, hj, ?_⟩, fun k hk hlk => ?_, o6⟩
  · show bt (upd (upd S.sh j (S.sh j ||| S.sh i)) i 0 k) b = false
    by_cases hki : k = i
    · rw [hki, upd_s]; exact b_0 b
    · rw [upd_n hki]
      by_cases hkj : k = j
      · rw [hkj, upd_s, b_or, o3 j hj b hb, o3 i hi b hb]; rfl
      · rw [upd_n hkj]; exact o3 k hk b hb
  · show upd (upd S.sh j (S.sh j ||| S.sh i)) i 0 j ≠ 0
    rw [upd_n (Ne.symm hij), upd_s]; exact or_ne0 hlj
  · replace hlk : upd (upd S.sh j (S.sh j ||| S.sh i)) i 0 k ≠ 0 := hlk
    show okV S.ec (va_up S.hs j (mrg (S.hs j) (S.hs i)) k)
    have hki : k ≠ i := fun z => hlk (by rw [z, upd_s])
    rw [upd_n hki] at hlk
    by_cases hkj : k = j
    · rw [hkj, vup_s]; exact (o5 j hj hlj).mrg (o5 i hi hli)
    · rw [upd_n hkj] at hlk
      rw [vup_n hkj]; exact o5 k hk hlk
theorem ok_tk {S : kS} (h : okS S) {j m : Nat} (hj : j < 8) (hl : S.sh j ≠ 0) (hm : m < S.mc) : okS (tkS S j m) := by
  obtain ⟨o1, o2, o3, o4, o5, o6⟩ := h
  refine ⟨o1, o2, o3, o4, fun k hk hlk => ?_, o6⟩
  show okV S.ec (va_up S.hs j (mrg (S.hs j) (S.ms m)) k)
  by_cases hkj : k = j
  · rw [hkj, vup_s]; exact (o5 j hj hl).mrg (o6 m hm)
  · rw [vup_n hkj]; exact o5 k hk hlk
theorem ok_ev {S : kS} (h : okS S) {j : Nat} (hj : j < 8) (hl : S.sh j ≠ 0) (hec : S.ec < 120) : okS (evS S j) := by
  obtain ⟨o1, o2, o3, o4, o5, o6⟩ := h
  refine ⟨o1, hec, o3, o4, fun k hk hlk => ?_, fun m hm => (o6 m hm).mono (Nat.le_succ S.ec)⟩
  show okV (S.ec + 1) (va_up S.hs j (rais (S.hs j) (S.sh j), fun i => (S.hs j).2 i || decide (i = S.ec)) k)
  by_cases hkj : k = j
  · rw [hkj, vup_s]
    have oj := o5 j hj hl
    refine ⟨fun c hc => ?_, fun i hi => ?_⟩
    · show uI (rais (S.hs j) (S.sh j) c) ≤ S.ec + 1
      unfold rais
      split
      · exact uI_rz o2 oj.1
      · exact Nat.le_trans (oj.1 c hc) (Nat.le_succ _)
    · show ((S.hs j).2 i || decide (i = S.ec)) = false
      rw [oj.2 i (by omega), decide_eq_false (by omega)]; rfl
  · rw [vup_n hkj]; exact (o5 k hk hlk).mono (Nat.le_succ S.ec)
theorem ok_snd {S : kS} (h : okS S) {j : Nat} (hj : j < 8) (hl : S.sh j ≠ 0) (hmc : S.mc < 8) : okS (sndS S j) := by
  obtain ⟨o1, o2, o3, o4, o5, o6⟩ := h
  refine ⟨hmc, o2, o3, o4, o5, fun m hm => ?_⟩
  replace hm : m < S.mc + 1 := hm
  show okV S.ec (va_up S.ms S.mc (S.hs j) m)
  by_cases hmm : m = S.mc
  · rw [hmm, vup_s]; exact o5 j hj hl
  · rw [vup_n hmm]; exact o6 m (by omega)
theorem ok_rm {S : kS} (h : okS S) {m : Nat} (hm : m < S.mc) : okS (rmS S m) := by
  obtain ⟨o1, o2, o3, o4, o5, o6⟩ := h
  obtain ⟨r1, r2, r3, r4, r5, r6⟩ := rmv_val S m (S.mc - 1 - m)
  refine ⟨show S.mc - 1 ≤ 8 by omega, ?_, ?_, ?_, ?_, fun i hi => ?_⟩
  · show (rmv S m (S.mc - 1 - m)).ec ≤ 120
    rw [r6]; exact o2
  · show ∀ h, h < 8 → ∀ i, 16 ≤ i → bt ((rmv S m (S.mc - 1 - m)).sh h) i = false
    rw [r1]; exact o3
  · show ∃ h, h < 8 ∧ (rmv S m (S.mc - 1 - m)).sh h ≠ 0
    rw [r1]; exact o4
  · show ∀ h, h < 8 → (rmv S m (S.mc - 1 - m)).sh h ≠ 0 → okV (rmv S m (S.mc - 1 - m)).ec ((rmv S m (S.mc - 1 - m)).hs h)
    rw [r1, r2, r6]; exact o5
  · replace hi : i < S.mc - 1 := hi
    show okV (rmv S m (S.mc - 1 - m)).ec ((rmv S m (S.mc - 1 - m)).ms i)
    rw [r6, r3]
    split
    · exact o6 (i + 1) (by omega)
    · exact o6 i (by omega)
section OK
variable {F : kF}
theorem nf {b : Bool} (h : ¬ b = false) : b = true := by cases b with | true => rfl | false => exact absurd rfl h
theorem ok_fork (h : okF F) (x : Int32) : okF (xfork F x).2 := by
  unfold xfork
  split
  · exact h
  · rename_i h1
    split
    · exact h
    · rename_i h2
      split
      · exact h
      · rename_i h3
        obtain ⟨j, hj, rfl, hl⟩ := inH_ex (nf h1)
        rw [kcl (by omega)] at h3 ⊢
        have hk0 := (kMin_spec (fun i => decide (F.S.sh i = 0)) 8).2.2 (by omega)
        exact ok_rem h (ok_spl h.1 hj (by omega) (fun z => hl (by rw [z]; simpa using hk0)) hl h3)
theorem ok_gather (h : okF F) (x y : Int32) : okF (xgather F x y).2 := by
  unfold xgather
  split
  · exact h
  · rename_i h1
    split
    · exact h
    · rename_i h2
      obtain ⟨i, hi, rfl, hli⟩ := inH_ex (nf (fun z => h1 (Or.inl z)))
      obtain ⟨j, hj, rfl, hlj⟩ := inH_ex (nf (fun z => h1 (Or.inr z)))
      rw [kcl (i := i) (by omega), kcl (i := j) (by omega)]
      exact ok_rem h (ok_mrg h.1 hi hj (fun z => h2 (by rw [z])) hli hlj)
theorem ok_event (h : okF F) (x : Int32) : okF (xevent F x).2 := by
  unfold xevent
  split
  · exact h
  · rename_i h1
    split
    · exact h
    · rename_i h2
      obtain ⟨j, hj, rfl, hl⟩ := inH_ex (nf h1)
      rw [kcl (by omega)]
      exact ok_rem h (ok_ev h.1 hj hl (by omega))
theorem ok_send (h : okF F) (x : Int32) : okF (xsend F x).2 := by
  unfold xsend
  split
  · exact h
  · rename_i h1
    split
    · exact h
    · rename_i h2
      obtain ⟨j, hj, rfl, hl⟩ := inH_ex (nf h1)
      rw [kcl (by omega)]
      exact ok_rem h (ok_snd h.1 hj hl (by omega))
theorem ok_receive (h : okF F) (x y : Int32) : okF (xreceive F x y).2 := by
  unfold xreceive
  split
  · exact h
  · rename_i h1
    split
    · exact h
    · rename_i h2
      obtain ⟨j, hj, rfl, hl⟩ := inH_ex (nf (fun z => h1 (Or.inl z)))
      have hmc := h.1.1
      obtain ⟨m, hm, rfl⟩ := inR_ex (by omega) (nf (fun z => h1 (Or.inr z)))
      rw [kcl (i := j) (by omega), kcl (i := m) (by omega)]
      exact ok_rem h (ok_ev (S := tkS F.S j m) (ok_tk h.1 hj hl hm) hj hl (by show F.S.ec < 120; omega))
theorem ok_drop (h : okF F) (y : Int32) : okF (xdrop F y).2 := by
  unfold xdrop
  split
  · exact h
  · rename_i h1
    have hmc := h.1.1
    obtain ⟨m, hm, rfl⟩ := inR_ex (by omega) (nf h1)
    rw [kcl (by omega)]
    exact ok_rem h (ok_rm h.1 hm)
theorem ok_put (h : okF F) (u : Nat) : okF (xput F u).2 := by
  unfold xput
  split
  · exact h
  · split
    · exact h
    · rename_i h1 h2
      obtain ⟨c1, c2⟩ := cI_spec u 8 0 u (by simp) (fun i hi => absurd hi (Nat.not_lt_zero i)) (by omega)
      obtain ⟨o1, o2, o3, o4, o5, o6⟩ := h
      refine ⟨o1, o2, o3, o4, show F.pn + cI 8 u 0 ≤ 64 by omega, fun i hi => ?_⟩
      replace hi : i < F.pn + cI 8 u 0 := hi
      show (if F.pn ≤ i then byt u (F.pn + cI 8 u 0 - 1 - i) else F.ch i) < 128
      split
      · exact c2 _ (by omega)
      · exact o6 i (by omega)
theorem ok_wipe (h : okF F) : okF (xwipe F).2 := by
  obtain ⟨o1, o2, o3, o4, o5, o6⟩ := h
  exact ⟨o1, o2, o3, o4, Nat.zero_le _, fun i hi => absurd hi (Nat.not_lt_zero i)⟩
theorem ok_undo (h : okF F) : okF (xundo F).2 := by
  unfold xundo
  split
  · exact h
  · rename_i h1
    obtain ⟨o1, o2, o3, o4, o5, o6⟩ := h
    refine ⟨o2 _ (by omega), fun i hi => o2 i (by have : i < F.hc - 1 := hi; omega), show F.hc - 1 ≤ 6 by omega, o4, o5, o6⟩
theorem ok_save (h : okF F) (x : Int32) : okF (xsave F x).2 := by
  unfold xsave
  split
  · exact h
  · obtain ⟨o1, o2, o3, o4, o5, o6⟩ := h
    refine ⟨o1, o2, o3, fun i hi hs => ?_, o5, o6⟩
    replace hs : va_up F.sv x.toNatClampNeg true i = true := hs
    show okS (va_up F.sl x.toNatClampNeg F.S i)
    by_cases hix : i = x.toNatClampNeg
    · rw [← hix, vup_s]; exact o1
    · rw [vup_n hix] at hs ⊢
      exact o4 i hi hs
theorem ok_restore (h : okF F) (x : Int32) : okF (xrestore F x).2 := by
  unfold xrestore
  split
  · exact h
  · rename_i h1
    split
    · exact h
    · rename_i h2
      obtain ⟨j, hj, rfl⟩ := inR_ex (n := 2) (by omega) (nf h1)
      rw [kcl (by omega)] at h2 ⊢
      exact ok_rem h (h.2.2.2.1 j hj (nf h2))
theorem ok_hBd (h : okF F) : hBd F := fun i c hi hl hc => by
  have := (h.1.2.2.2.2.1 i hi hl).1 c hc
  have := h.1.2.1
  omega
end OK
