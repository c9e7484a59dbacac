/-! ===== the law's acts: what they do to the rows ===== -/
theorem LR.ls {t : Nat} {F : kF} {s : Nat → Int32} {f g : Nat → Int64} {q w : Nat → Int32} (h : LR t F s f g q w) : LSt F.S s f g q w := h.2.2
theorem SV.mv {f g f' g' : Nat → Int64} {r r' : Nat} {v : kSV} (h : SV f g r v) (h1 : ∀ c, c < 16 → hgt f' r' c = hgt f r c) (h2 : g' r' = g r) : SV f' g' r' v := ⟨fun c hc => (h1 c hc).trans (h.1 c hc), fun e he => by rw [h2]; exact h.2 e he⟩
section LSS
variable {S : kS} {s : Nat → Int32} {f g f' g' : Nat → Int64} {q w : Nat → Int32}
/-- an event of a helper: its stamp is v then -/
theorem LSt.ev (h : LSt S s f g q w) {j : Nat} {v : kSV} (hj : j < 8) (hf : ∀ r c, r < 16 → r ≠ j → c < 16 → hgt f' r c = hgt f r c) (hg : ∀ r, r < 16 → r ≠ j → g' r = g r) (hv : SV f' g' j v) (hmc : S.mc ≤ 8) : LSt (S.sh, va_up S.hs j v, S.ms, S.sn, S.mc, upd S.ac S.ec (nI j), S.ec + 1) s f' g' (upd q 1 (nI S.ec + (1 : Int32))) (upd w S.ec (nI j)) := by
  obtain ⟨hq0, hq1, hsh, hsn, hhs, hms, hac, hap⟩ := h
  refine ⟨?_, ?_, hsh, hsn, fun i hi hl => ?_, fun m hm => ?_, fun e he => ?_, hap⟩
  · show upd q 1 (nI S.ec + (1 : Int32)) 0 = nI S.mc
    rw [upd_n (by decide)]; exact hq0
  · show upd q 1 (nI S.ec + (1 : Int32)) 1 = nI (S.ec + 1)
    rw [upd_s, kns]
  · show SV f' g' i (va_up S.hs j v i)
    by_cases e : i = j
    · subst e; rw [vup_s]; exact hv
    · rw [vup_n e]
      exact (hhs i hi hl).mv (fun c hc => hf i c (by omega) e hc) (hg i (by omega) e)
  · replace hm : m < S.mc := hm
    exact (hms m hm).mv (fun c hc => hf (8 + m) c (by omega) (by omega) hc) (hg (8 + m) (by omega) (by omega))
  · show upd w S.ec (nI j) e = upd S.ac S.ec (nI j) e
    replace he : e < S.ec + 1 := he
    by_cases z : e = S.ec
    · subst z; rw [upd_s, upd_s]
    · rw [upd_n z, upd_n z]; exact hac e (by omega)
theorem LSt.snd (h : LSt S s f g q w) {j : Nat} (hj : j < 8) (hl : S.sh j ≠ 0) (hmc : S.mc < 8) (hf : ∀ r c, r < 16 → c < 16 → hgt f' r c = if r = 8 + S.mc then hgt f j c else hgt f r c) (hg : ∀ r, r < 16 → g' r = if r = 8 + S.mc then g j else g r) : LSt (sndS S j) (upd s (8 + S.mc) (nI j)) f' g' (upd q 0 (nI S.mc + (1 : Int32))) w := by
  obtain ⟨hq0, hq1, hsh, hsn, hhs, hms, hac, hap⟩ := h
  refine ⟨?_, ?_, fun i hi => ?_, fun m hm => ?_, fun i hi hl => ?_, fun m hm => ?_, hac, hap⟩
  · show upd q 0 (nI S.mc + (1 : Int32)) 0 = nI (S.mc + 1)
    rw [upd_s, kns]
  · show upd q 0 (nI S.mc + (1 : Int32)) 1 = nI S.ec
    rw [upd_n (by decide)]; exact hq1
  · rw [upd_n (by omega)]; exact hsh i hi
  · replace hm : m < S.mc + 1 := hm
    show upd s (8 + S.mc) (nI j) (8 + m) = upd S.sn S.mc (nI j) m
    by_cases z : m = S.mc
    · subst z; rw [upd_s, upd_s]
    · rw [upd_n (by omega), upd_n z]; exact hsn m (by omega)
  · exact (hhs i hi hl).mv (fun c hc => by rw [hf i c (by omega) hc, if_neg (by omega)]) (by rw [hg i (by omega), if_neg (by omega)])
  · replace hm : m < S.mc + 1 := hm
    show SV f' g' (8 + m) (va_up S.ms S.mc (S.hs j) m)
    by_cases z : m = S.mc
    · subst z
      rw [vup_s]
      exact (hhs j hj hl).mv (fun c hc => by rw [hf _ c (by omega) hc, if_pos rfl]) (by rw [hg _ (by omega), if_pos rfl])
    · rw [vup_n z]
      exact (hms m (by omega)).mv (fun c hc => by rw [hf _ c (by omega) hc, if_neg (by omega)]) (by rw [hg _ (by omega), if_neg (by omega)])
/-- one step of dropping -/
theorem LSt.rm1 {m k : Nat} (h : LSt (rmv S m k) s f g q w) (hmc : S.mc ≤ 8) (hk : m + k + 1 < S.mc) (hf : ∀ r c, r < 16 → c < 16 → hgt f' r c = if r = 8 + (m + k) then hgt f (8 + (m + k + 1)) c else hgt f r c) (hg : ∀ r, r < 16 → g' r = if r = 8 + (m + k) then g (8 + (m + k + 1)) else g r) : LSt (rmv S m (k + 1)) (upd s (8 + (m + k)) (s (8 + (m + k + 1)))) f' g' q w := by
  obtain ⟨hq0, hq1, hsh, hsn, hhs, hms, hac, hap⟩ := h
  have e1 := (rmv_mc S m k).1
  refine ⟨hq0, hq1, fun i hi => ?_, fun i hi => ?_, fun i hi hl => ?_, fun i hi => ?_, hac, hap⟩
  · rw [upd_n (by omega)]; exact hsh i hi
  · replace hi : i < (rmv S m k).mc := hi
    show upd s (8 + (m + k)) (s (8 + (m + k + 1))) (8 + i) = upd (rmv S m k).sn (m + k) ((rmv S m k).sn (m + k + 1)) i
    by_cases z : i = m + k
    · subst z; rw [upd_s, upd_s]; exact hsn _ (by omega)
    · rw [upd_n (by omega), upd_n z]; exact hsn i hi
  · exact (hhs i hi hl).mv (fun c hc => by rw [hf i c (by omega) hc, if_neg (by omega)]) (by rw [hg i (by omega), if_neg (by omega)])
  · replace hi : i < (rmv S m k).mc := hi
    show SV f' g' (8 + i) (va_up (rmv S m k).ms (m + k) ((rmv S m k).ms (m + k + 1)) i)
    by_cases z : i = m + k
    · subst z
      rw [vup_s]
      exact (hms _ (by omega)).mv (fun c hc => by rw [hf _ c (by omega) hc, if_pos rfl]) (by rw [hg _ (by omega), if_pos rfl])
    · rw [vup_n z]
      exact (hms i hi).mv (fun c hc => by rw [hf _ c (by omega) hc, if_neg (by omega)]) (by rw [hg _ (by omega), if_neg (by omega)])
theorem LSt.rm {m : Nat} (h : LSt (rmv S m (S.mc - 1 - m)) s f g q w) (hm : m < S.mc) : LSt (rmS S m) s f g (upd q 0 (nI S.mc - (1 : Int32))) w := by
  obtain ⟨hq0, hq1, hsh, hsn, hhs, hms, hac, hap⟩ := h
  have e1 := (rmv_mc S m (S.mc - 1 - m)).1
  refine ⟨?_, ?_, hsh, fun i hi => ?_, hhs, fun i hi => ?_, hac, hap⟩
  · show upd q 0 (nI S.mc - (1 : Int32)) 0 = nI (S.mc - 1)
    rw [upd_s, nI_sub1 (by omega)]
  · show upd q 0 (nI S.mc - (1 : Int32)) 1 = nI (rmv S m (S.mc - 1 - m)).ec
    rw [upd_n (by decide)]; exact hq1
  · replace hi : i < S.mc - 1 := hi
    exact hsn i (by omega)
  · replace hi : i < S.mc - 1 := hi
    exact hms i (by omega)
theorem LSt.mg (h : LSt S s f g q w) {i j : Nat} (hi8 : i < 8) (hj8 : j < 8) (hij : i ≠ j) (hli : S.sh i ≠ 0) (hlj : S.sh j ≠ 0) (hmc : S.mc ≤ 8) (hf : ∀ r c, c < 16 → hgt f' r c = if r = j then mx (hgt f j) (hgt f i) c else hgt f r c) : LSt (mrgS S i j) (upd (upd s j (S.sh j ||| S.sh i)) i 0) f' (vp_updL g j (g j ||| g i)) q w := by
  obtain ⟨hq0, hq1, hsh, hsn, hhs, hms, hac, hap⟩ := h
  refine ⟨hq0, hq1, fun k hk => ?_, fun m hm => ?_, fun k hk hl => ?_, fun m hm => ?_, hac, fun a b x ha hb hab hx => ?_⟩
  · show upd (upd s j (S.sh j ||| S.sh i)) i 0 k = upd (upd S.sh j (S.sh j ||| S.sh i)) i 0 k
    by_cases z : k = i
    · rw [z, upd_s, upd_s]
    · rw [upd_n z, upd_n z]
      by_cases y : k = j
      · rw [y, upd_s, upd_s]
      · rw [upd_n y, upd_n y]; exact hsh k hk
  · replace hm : m < S.mc := hm
    rw [upd_n (by omega), upd_n (by omega)]; exact hsn m hm
  · replace hl : upd (upd S.sh j (S.sh j ||| S.sh i)) i 0 k ≠ 0 := hl
    have hki : k ≠ i := fun z => hl (by rw [z, upd_s])
    rw [upd_n hki] at hl
    show SV f' (vp_updL g j (g j ||| g i)) k (va_up S.hs j (mrg (S.hs j) (S.hs i)) k)
    by_cases y : k = j
    · subst y
      rw [vup_s]
      have h1 := hhs k hk hlj
      have h2 := hhs i hi8 hli
      refine ⟨fun c hc => ?_, fun e he => ?_⟩
      · rw [hf k c hc, if_pos rfl]
        show mx (hgt f k) (hgt f i) c = mx (S.hs k).1 (S.hs i).1 c
        unfold mx
        rw [h1.1 c hc, h2.1 c hc]
      · rw [updL_s, bl_or, h1.2 e he, h2.2 e he]; rfl
    · rw [vup_n y]
      rw [upd_n y] at hl
      exact (hhs k hk hl).mv (fun c hc => by rw [hf k c hc, if_neg y]) (updL_n y)
  · replace hm : m < S.mc := hm
    exact (hms m hm).mv (fun c hc => by rw [hf _ c hc, if_neg (by omega)]) (updL_n (by omega))
  · replace hx : bt (upd (upd S.sh j (S.sh j ||| S.sh i)) i 0 a) x = true := hx
    show bt (upd (upd S.sh j (S.sh j ||| S.sh i)) i 0 b) x = false
    have hai : a ≠ i := fun z => by rw [z, upd_s, b_0] at hx; cases hx
    rw [upd_n hai] at hx
    by_cases hbi : b = i
    · rw [hbi, upd_s]; exact b_0 x
    · rw [upd_n hbi]
      by_cases haj : a = j
      · subst haj
        rw [upd_s, b_or, Bool.or_eq_true] at hx
        rw [upd_n (Ne.symm hab)]
        rcases hx with z | z
        · exact hap a b x ha hb hab z
        · exact hap i b x hi8 hb (Ne.symm hbi) z
      · rw [upd_n haj] at hx
        by_cases hbj : b = j
        · subst hbj
          rw [upd_s, b_or, hap a b x ha hb hab hx, hap a i x ha hi8 hai hx]; rfl
        · rw [upd_n hbj]; exact hap a b x ha hb hab hx
theorem LSt.spl (h : LSt S s f g q w) {j k : Nat} (hj8 : j < 8) (hk8 : k < 8) (hjk : j ≠ k) (hlj : S.sh j ≠ 0) (hdk : S.sh k = 0) (hmc : S.mc ≤ 8) (hst : ∀ i, i < 32 → bt (stay (S.sh j)) i = true → bt (S.sh j) i = true) (hf : ∀ r c, c < 16 → hgt f' r c = if r = k then hgt f j c else hgt f r c) (hg : ∀ r, g' r = if r = k then g j else g r) : LSt (splS S j k) (upd (upd s k (S.sh j ^^^ stay (S.sh j))) j (stay (S.sh j))) f' g' q w := by
  obtain ⟨hq0, hq1, hsh, hsn, hhs, hms, hac, hap⟩ := h
  have ex : S.sh j ^^^ stay (S.sh j) = S.sh j &&& (stay (S.sh j) ^^^ (-1 : Int32)) := by
    refine b_ext (fun i hi => ?_)
    rw [b_xor, b_and, bt_not _ hi]
    have := hst i hi
    cases h1 : bt (stay (S.sh j)) i with
    | false => simp
    | true => rw [this h1]; rfl
  have esub : ∀ x, bt (stay (S.sh j)) x = true → bt (S.sh j) x = true := fun x hx => by
    rcases Nat.lt_or_ge x 32 with z | z
    · exact hst x z hx
    · rw [b_big z] at hx; cases hx
  have esub2 : ∀ x, bt (S.sh j &&& (stay (S.sh j) ^^^ (-1 : Int32))) x = true → bt (S.sh j) x = true ∧ bt (stay (S.sh j)) x = false := fun x hx => by
    rcases Nat.lt_or_ge x 32 with z | z
    · rw [b_and, bt_not _ z, Bool.and_eq_true] at hx
      exact ⟨hx.1, by simpa using hx.2⟩
    · rw [b_big z] at hx; cases hx
  refine ⟨hq0, hq1, fun i hi => ?_, fun m hm => ?_, fun i hi hl => ?_, fun m hm => ?_, hac, fun a b x ha hb hab hx => ?_⟩
  · show upd (upd s k (S.sh j ^^^ stay (S.sh j))) j (stay (S.sh j)) i = upd (upd S.sh j (stay (S.sh j))) k (S.sh j &&& (stay (S.sh j) ^^^ (-1 : Int32))) i
    by_cases z : i = j
    · subst z
      rw [upd_s, upd_n hjk, upd_s]
    · rw [upd_n z]
      by_cases y : i = k
      · subst y
        rw [upd_s, upd_s, ex]
      · rw [upd_n y, upd_n y, upd_n z]; exact hsh i hi
  · replace hm : m < S.mc := hm
    rw [upd_n (by omega), upd_n (by omega)]; exact hsn m hm
  · replace hl : upd (upd S.sh j (stay (S.sh j))) k (S.sh j &&& (stay (S.sh j) ^^^ (-1 : Int32))) i ≠ 0 := hl
    show SV f' g' i (va_up S.hs k (S.hs j) i)
    by_cases y : i = k
    · subst y
      rw [vup_s]
      exact (hhs j hj8 hlj).mv (fun c hc => by rw [hf _ c hc, if_pos rfl]) (by rw [hg, if_pos rfl])
    · rw [vup_n y]
      rw [upd_n y] at hl
      have hl' : S.sh i ≠ 0 := by
        by_cases z : i = j
        · rw [z]; exact hlj
        · rw [upd_n z] at hl; exact hl
      exact (hhs i hi hl').mv (fun c hc => by rw [hf _ c hc, if_neg y]) (by rw [hg, if_neg y])
  · replace hm : m < S.mc := hm
    exact (hms m hm).mv (fun c hc => by rw [hf _ c hc, if_neg (by omega)]) (by rw [hg, if_neg (by omega)])
  · replace hx : bt (upd (upd S.sh j (stay (S.sh j))) k (S.sh j &&& (stay (S.sh j) ^^^ (-1 : Int32))) a) x = true := hx
    show bt (upd (upd S.sh j (stay (S.sh j))) k (S.sh j &&& (stay (S.sh j) ^^^ (-1 : Int32))) b) x = false
    refine ts_nt (fun hy => ?_)
    by_cases hak : a = k
    · rw [hak, upd_s] at hx
      have hbk : b ≠ k := fun z => hab (hak.trans z.symm)
      obtain ⟨x1, x2⟩ := esub2 x hx
      rw [upd_n hbk] at hy
      by_cases hbj : b = j
      · rw [hbj, upd_s, x2] at hy; cases hy
      · rw [upd_n hbj, hap j b x hj8 hb (Ne.symm hbj) x1] at hy; cases hy
    · rw [upd_n hak] at hx
      by_cases hbk : b = k
      · rw [hbk, upd_s] at hy
        obtain ⟨y1, y2⟩ := esub2 x hy
        by_cases haj : a = j
        · rw [haj, upd_s, y2] at hx; cases hx
        · rw [upd_n haj] at hx
          rw [hap a j x ha hj8 haj hx] at y1; cases y1
      · rw [upd_n hbk] at hy
        have hx' : bt (S.sh a) x = true := by
          by_cases haj : a = j
          · rw [haj, upd_s] at hx; rw [haj]; exact esub x hx
          · rw [upd_n haj] at hx; exact hx
        have hy' : bt (S.sh b) x = true := by
          by_cases hbj : b = j
          · rw [hbj, upd_s] at hy; rw [hbj]; exact esub x hy
          · rw [upd_n hbj] at hy; exact hy
        rw [hap a b x ha hb hab hx'] at hy'
        cases hy'
end LSS
