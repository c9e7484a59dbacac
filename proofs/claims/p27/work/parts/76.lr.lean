/-! ===== the law's rows and the class hold the same ===== -/
def SV (f g : Nat → Int64) (r : Nat) (v : kSV) : Prop := (∀ c, c < 16 → hgt f r c = v.1 c) ∧ ∀ e, e < 64 → bl (g r) e = v.2 e
def LSt (S : kS) (s : Nat → Int32) (f g : Nat → Int64) (q w : Nat → Int32) : Prop :=
  q 0 = nI S.mc ∧ q 1 = nI S.ec ∧ (∀ i, i < 8 → s i = S.sh i) ∧ (∀ m, m < S.mc → s (8 + m) = S.sn m) ∧ (∀ i, i < 8 → S.sh i ≠ 0 → SV f g i (S.hs i)) ∧ (∀ m, m < S.mc → SV f g (8 + m) (S.ms m)) ∧ (∀ e, e < S.ec → w e = S.ac e) ∧ ∀ i j b, i < 8 → j < 8 → i ≠ j → bt (S.sh i) b = true → bt (S.sh j) b = false
def LR (t : Nat) (F : kF) (s : Nat → Int32) (f g : Nat → Int64) (q w : Nat → Int32) : Prop := okF F ∧ F.S.ec ≤ t ∧ LSt F.S s f g q w
theorem kCt_lo {p : Nat → Bool} (h : ∀ i, 64 ≤ i → p i = false) : kCt p 64 = kCt p 128 := by
  rw [show (128 : Nat) = 64 + 64 from rfl, kCt_split p 64 64, kCt_0 (p := fun i => p (64 + i)) (fun i _ => h _ (by omega)), Nat.add_zero]
section SVS
variable {f g : Nat → Int64} {r r2 ec : Nat} {v v2 : kSV}
theorem SV.cnt (h : SV f g r v) (hv : okV ec v) (hec : ec ≤ 64) : kCt (bl (g r)) 64 = kCnt v := by
  unfold kCnt
  rw [← kCt_lo (fun i hi => hv.2 i (by omega))]
  exact kCt_cong (fun i hi => h.2 i hi)
theorem SV.more (h : SV f g r v) (h2 : SV f g r2 v2) (hv : okV ec v) (hec : ec ≤ 64) : kCt (bl (g r &&& (g r2 ^^^ (-1 : Int64)))) 64 = kCt (fun i => v.2 i && !(v2.2 i)) 128 := by
  rw [← kCt_lo (p := fun i => v.2 i && !(v2.2 i)) (fun i hi => by rw [hv.2 i (by omega)]; rfl)]
  exact kCt_cong (fun i hi => by rw [bl_and, bl_not _ hi, h.2 i hi, h2.2 i hi])
theorem SV.ord (h : SV f g r v) (h2 : SV f g r2 v2) : ordf (hgt f r) (hgt f r2) = kOrd v v2 := ordf_cong h.1 h2.1
theorem SV.kts (h : SV f g r v) : nlf (hgt f r) 1 8 + nlf (hgt f r) 2 4 + nlf (hgt f r) 3 2 + nlf (hgt f r) 4 1 = kKts v := by
  rw [← kKn_rows]
  exact kKn_cong h.1 4 0 (by decide)
theorem okV.cnt_le (hv : okV ec v) (hec : ec ≤ 128) : kCnt v ≤ ec := by
  unfold kCnt
  rw [show (128 : Nat) = ec + (128 - ec) by omega, kCt_split v.2 ec (128 - ec), kCt_0 (p := fun i => v.2 (ec + i)) (fun i _ => hv.2 _ (by omega)), Nat.add_zero]
  exact kCt_le
theorem kLast_hi {p : Nat → Bool} (h : ∀ i, ec ≤ i → p i = false) : ∀ n, kLast p (ec + n) = kLast p ec := by
  intro n
  induction n with
  | zero => rfl
  | succ n ih =>
    show (if p (ec + n) = true then _ else kLast p (ec + n)) = _
    rw [if_neg (by rw [h _ (by omega)]; decide), ih]
end SVS
theorem k_bit (x : Int64) {e : Nat} (he : e < 64) : ((((x).toUInt64 >>> ((nI e).toInt64.toUInt64 &&& Int64.toUInt64 63)).toInt64 &&& (1 : Int64))).toInt32 = k01 (bl x e) := by
  obtain ⟨n, hn, rfl⟩ := wb_of x
  rw [show (1 : Int64) = lN (2 ^ 1 - 1) by decide, wb_shr hn he, wb_mask (Nat.lt_of_le_of_lt (Nat.div_le_self _ _) hn) (by decide), bl_lN hn, Nat.testBit_eq_decide_div_mod_eq, lb_l2i _ (by have := Nat.mod_lt (n / 2 ^ e) (show 0 < 2 ^ 1 by decide); omega)]
  rcases Nat.mod_two_eq_zero_or_one (n / 2 ^ e) with z | z
  · rw [show n / 2 ^ e % 2 ^ 1 = 0 from z]; rfl
  · rw [show n / 2 ^ e % 2 ^ 1 = 1 from z]; rfl
theorem bl_i2l (x : Int32) {i : Nat} (hi : i < 64) : bl (x.toInt64) i = if i < 32 then bt x i else bt x 31 := by
  unfold bl bt
  rw [Int32.toBitVec_toInt64, BitVec.getLsbD_signExtend, decide_eq_true hi, Bool.true_and]
  split
  · rfl
  · rw [BitVec.msb_eq_getLsbD_last]
theorem kCt_i2l {x : Int32} (h : ∀ i, 16 ≤ i → bt x i = false) : kCt (bl (x.toInt64)) 64 = kCt (bt x) 32 := by
  rw [show (64 : Nat) = 32 + 32 from rfl, kCt_split _ 32 32, kCt_0 (p := fun i => bl (x.toInt64) (32 + i)) (fun i hi => by
    show bl (x.toInt64) (32 + i) = false
    rw [bl_i2l x (by omega), if_neg (by omega)]; exact h 31 (by omega)), Nat.add_zero]
  exact kCt_cong (fun i hi => by rw [bl_i2l x (by omega), if_pos hi])
/-! what the class answers -/
section XS
variable {F : kF} {i j m k e c : Nat}
theorem stVal_h (hi : i < 8) (hl : F.S.sh i ≠ 0) : stVal F.S 0 (nI i) = some (F.S.hs i) := by
  unfold stVal
  rw [if_pos rfl, if_pos (inH_lv hi hl), kcl (by omega)]
theorem stVal_m (hm : m < F.S.mc) (hmc : F.S.mc ≤ 8) : stVal F.S 1 (nI m) = some (F.S.ms m) := by
  unfold stVal
  rw [if_neg (by decide), if_pos (inR_nI (by omega) hm), kcl (by omega)]
theorem x_height_h (hi : i < 8) (hl : F.S.sh i ≠ 0) (hc : c < 16) : xheight F 0 (nI i) (nI c) = (F.S.hs i).1 c := by
  unfold xheight
  rw [if_neg (by decide), stVal_h hi hl]
  show (if inR 16 (nI c) = true then (F.S.hs i).1 (nI c).toNatClampNeg else -1) = _
  rw [if_pos (inR_nI (by omega) hc), kcl (by omega)]
theorem x_height_m (hm : m < F.S.mc) (hmc : F.S.mc ≤ 8) (hc : c < 16) : xheight F 1 (nI m) (nI c) = (F.S.ms m).1 c := by
  unfold xheight
  rw [if_neg (by decide), stVal_m hm hmc]
  show (if inR 16 (nI c) = true then (F.S.ms m).1 (nI c).toNatClampNeg else -1) = _
  rw [if_pos (inR_nI (by omega) hc), kcl (by omega)]
theorem x_knows_h (hi : i < 8) (hl : F.S.sh i ≠ 0) (he : e < F.S.ec) (hec : F.S.ec ≤ 120) : xknows F 0 (nI i) (nI e) = k01 ((F.S.hs i).2 e) := by
  unfold xknows
  rw [if_neg (by decide), stVal_h hi hl]
  show (if inR F.S.ec (nI e) = true then k01 ((F.S.hs i).2 (nI e).toNatClampNeg) else -1) = _
  rw [if_pos (inR_nI (by omega) he), kcl (by omega)]
theorem x_order_hh (hi : i < 8) (hl : F.S.sh i ≠ 0) (hj : j < 8) (hlj : F.S.sh j ≠ 0) : xorder F 0 (nI i) 0 (nI j) = kOrd (F.S.hs i) (F.S.hs j) := by
  unfold xorder
  rw [if_neg (by decide), stVal_h hi hl, stVal_h hj hlj]; rfl
theorem x_order_hm (hi : i < 8) (hl : F.S.sh i ≠ 0) (hm : m < F.S.mc) (hmc : F.S.mc ≤ 8) : xorder F 0 (nI i) 1 (nI m) = kOrd (F.S.hs i) (F.S.ms m) := by
  unfold xorder
  rw [if_neg (by decide), stVal_h hi hl, stVal_m hm hmc]; rfl
theorem x_more_hh (hi : i < 8) (hl : F.S.sh i ≠ 0) (hj : j < 8) (hlj : F.S.sh j ≠ 0) : xmore F 0 (nI i) 0 (nI j) = nI (kCt (fun e => (F.S.hs i).2 e && !((F.S.hs j).2 e)) 128) := by
  unfold xmore
  rw [if_neg (by decide), stVal_h hi hl, stVal_h hj hlj]; rfl
theorem x_more_mh (hi : i < 8) (hl : F.S.sh i ≠ 0) (hm : m < F.S.mc) (hmc : F.S.mc ≤ 8) : xmore F 1 (nI m) 0 (nI i) = nI (kCt (fun e => (F.S.ms m).2 e && !((F.S.hs i).2 e)) 128) := by
  unfold xmore
  rw [if_neg (by decide), stVal_h hi hl, stVal_m hm hmc]; rfl
theorem x_whose (he : e < F.S.ec) (hec : F.S.ec ≤ 120) : xwhose F (nI e) = F.S.ac e := by
  unfold xwhose
  rw [if_pos (inR_nI (by omega) he), kcl (by omega)]
theorem x_whose_n (hec : F.S.ec ≤ 120) : xwhose F (nI F.S.ec) = -1 := by
  unfold xwhose
  rw [if_neg (fun z => by
    obtain ⟨j, hj, e⟩ := inR_ex (by omega) z
    have := (nI_eq (a := F.S.ec) (b := j) (by omega) (by omega)).mp e
    omega)]
theorem x_of (hi : i < 8) (hl : F.S.sh i ≠ 0) (hk : k < 7) : xof F (nI i) (nI k) = if k = 0 then F.S.sh i else if k = 1 then nI (kCt (bt (F.S.sh i)) 32) else if k = 2 then gIn (F.S.hs i).1 65535 16 else if k = 3 then kSum (F.S.hs i).1 16 else if k = 4 then nI (kCnt (F.S.hs i)) else if k = 5 then kLast (F.S.hs i).2 120 else nI (kKts (F.S.hs i)) := by
  have ek : (nI k).toInt = (k : Int) := nI_toInt (by omega)
  unfold xof
  rw [if_neg (by rw [inH_lv hi hl]; decide), kcl (show i < 2 ^ 31 by omega)]
  simp only [ek]
  rcases (show k = 0 ∨ k = 1 ∨ k = 2 ∨ k = 3 ∨ k = 4 ∨ k = 5 ∨ k = 6 by omega) with rfl | rfl | rfl | rfl | rfl | rfl | rfl <;> rfl
theorem x_ofM (hm : m < F.S.mc) (hmc : F.S.mc ≤ 8) (hk : k < 4) : xofM F (nI m) (nI k) = if k = 0 then F.S.sn m else if k = 1 then kSum (F.S.ms m).1 16 else if k = 2 then nI (kCnt (F.S.ms m)) else nI (kKts (F.S.ms m)) := by
  have ek : (nI k).toInt = (k : Int) := nI_toInt (by omega)
  unfold xofM
  rw [if_neg (by rw [inR_nI (by omega) hm]; decide), kcl (show m < 2 ^ 31 by omega)]
  simp only [ek]
  rcases (show k = 0 ∨ k = 1 ∨ k = 2 ∨ k = 3 by omega) with rfl | rfl | rfl | rfl <;> rfl
theorem x_count0 : xcount F (nI 0) = hset F.S 8 := by
  have ek : (nI 0).toInt = (0 : Int) := nI_toInt (by decide)
  unfold xcount
  rw [ek, if_pos (by decide)]
theorem x_count1 : xcount F (nI 1) = nI F.S.mc := by
  have ek : (nI 1).toInt = (1 : Int) := nI_toInt (by decide)
  unfold xcount
  rw [ek, if_neg (by decide), if_pos (by decide)]
theorem x_count2 : xcount F (nI 2) = nI F.S.ec := by
  have ek : (nI 2).toInt = (2 : Int) := nI_toInt (by decide)
  unfold xcount
  rw [ek, if_neg (by decide), if_neg (by decide), if_pos (by decide)]
theorem x_count3 : xcount F (nI 3) = nI (clO F.S 8) := by
  have ek : (nI 3).toInt = (3 : Int) := nI_toInt (by decide)
  unfold xcount
  rw [ek, if_neg (by decide), if_neg (by decide), if_neg (by decide), if_pos (by decide)]
theorem x_count4 : xcount F (nI 4) = nI (kHk F.S 8) := by
  have ek : (nI 4).toInt = (4 : Int) := nI_toInt (by decide)
  unfold xcount
  rw [ek, if_neg (by decide), if_neg (by decide), if_neg (by decide), if_neg (by decide), if_pos (by decide)]
theorem x_count5 : xcount F (nI 5) = kAns (fun i => live F.S i && isFo F.S i) 8 := by
  have ek : (nI 5).toInt = (5 : Int) := nI_toInt (by decide)
  unfold xcount
  rw [ek, if_neg (by decide), if_neg (by decide), if_neg (by decide), if_neg (by decide), if_neg (by decide), if_pos (by decide)]
end XS
/-! what the law counts -/
def frs (S : kS) (i : Nat) : Nat → Bool := kAll (fun o => !(live S o) || decide (o = i) || !(oLt (S.hs i).1 (S.hs o).1 16))
def lkL (S : kS) (n : Nat) : Int32 := if kAny (live S) n = true then nI (lkS S n).1 else -6
def lkF (S : kS) (n : Nat) : Int32 := if kAny (live S) n = true then nI (lkS S n).2 else 999
theorem oLt_irr (f : Nat → Int32) (n : Nat) : oLt f f n = false := by
  refine ts_nt (fun h => ?_)
  unfold oLt at h
  rw [kAny_iff] at h
  obtain ⟨i, -, h⟩ := h
  have := of_decide_eq_true h
  rw [i_lt] at this
  omega
theorem ord_02 (f g : Nat → Int32) : (ordf f g = 0 ∨ ordf f g = 2) ↔ oLt f g 16 = false := by
  unfold ordf
  cases oLt f g 16 <;> cases oLt g f 16 <;> decide
theorem isFo_frs (S : kS) (i : Nat) : isFo S i = frs S i 8 := by
  unfold isFo frs
  refine kAll_cong (fun o _ => ?_)
  unfold kOrd
  by_cases h : o = i
  · subst h
    have e : ordf (S.hs o).1 (S.hs o).1 = 0 := by unfold ordf; rw [oLt_irr]; rfl
    rw [e, decide_eq_true (p := o = o) rfl]
    simp
  · rw [decide_eq_false h, Bool.or_false]
    congr 1
    unfold ordf
    cases oLt (S.hs i).1 (S.hs o).1 16 <;> cases oLt (S.hs o).1 (S.hs i).1 16 <;> decide
theorem kAns_s (p : Nat → Bool) (n : Nat) (hn : n < 1000) : kAns p (n + 1) = if 0 ≤ kAns p n then kAns p n else if p n = true then nI n else -6 := by
  have e : kMin p (n + 1) = if kMin p n < n then kMin p n else if p n = true then n else n + 1 := rfl
  unfold kAns
  rw [e]
  by_cases h : kMin p n < n
  · rw [if_pos h, if_pos h, if_pos (by omega), if_pos (nI_pos' (by omega))]
  · rw [if_neg h, if_neg h, if_neg (show ¬ (0 : Int32) ≤ -6 by decide)]
    by_cases hp : p n = true
    · rw [if_pos hp, if_pos hp, if_pos (by omega)]
    · rw [if_neg hp, if_neg hp, if_neg (by omega)]
theorem lk_inv (S : kS) (hc : ∀ i, i < 8 → live S i = true → kCnt (S.hs i) ≤ 120) : ∀ n, n ≤ 8 → (kAny (live S) n = true → live S (lkS S n).1 = true ∧ (lkS S n).1 < n ∧ (lkS S n).2 = kCnt (S.hs (lkS S n).1)) ∧ (kAny (live S) n = false → lkS S n = (0, 121)) := by
  intro n
  induction n with
  | zero => intro _; exact ⟨fun h => absurd (show false = true from h) (by decide), fun _ => rfl⟩
  | succ n ih =>
    intro hn
    obtain ⟨i1, i2⟩ := ih (by omega)
    have ea : kAny (live S) (n + 1) = (kAny (live S) n || live S n) := rfl
    rw [ea, lkS]
    by_cases hl : live S n = true
    · rw [hl, Bool.or_true]
      refine ⟨fun _ => ?_, fun z => absurd z (by decide)⟩
      by_cases hk : kCnt (S.hs n) < (lkS S n).2
      · rw [if_pos ⟨rfl, hk⟩]
        exact ⟨hl, Nat.lt_succ_self n, rfl⟩
      · rw [if_neg (fun z => hk z.2)]
        cases ha : kAny (live S) n with
        | true =>
          obtain ⟨a, b, c⟩ := i1 ha
          exact ⟨a, by omega, c⟩
        | false =>
          rw [i2 ha] at hk
          have := hc n (by omega) hl
          exact absurd (show kCnt (S.hs n) < 121 by omega) hk
    · have hl' := ts_nt hl
      rw [hl', Bool.or_false, if_neg (fun z => absurd z.1 (by decide))]
      exact ⟨fun h => by obtain ⟨a, b, c⟩ := i1 h; exact ⟨a, by omega, c⟩, i2⟩
theorem lk_dead {S : kS} {n : Nat} (h : live S n = false) : lkL S (n + 1) = lkL S n ∧ lkF S (n + 1) = lkF S n := by
  have ea : kAny (live S) (n + 1) = (kAny (live S) n || live S n) := rfl
  have es : lkS S (n + 1) = lkS S n := if_neg (fun z => by rw [h] at z; exact absurd z.1 (by decide))
  unfold lkL lkF
  rw [ea, h, Bool.or_false, es]
  exact ⟨rfl, rfl⟩
theorem lk_live {S : kS} (hc : ∀ i, i < 8 → live S i = true → kCnt (S.hs i) ≤ 120) {n : Nat} (hn : n < 8) (h : live S n = true) : (lkF S n ≤ nI (kCnt (S.hs n)) → lkL S (n + 1) = lkL S n ∧ lkF S (n + 1) = lkF S n) ∧ (¬ lkF S n ≤ nI (kCnt (S.hs n)) → lkL S (n + 1) = nI n ∧ lkF S (n + 1) = nI (kCnt (S.hs n))) := by
  have ea : kAny (live S) (n + 1) = true := by
    show (kAny (live S) n || live S n) = true
    rw [h, Bool.or_true]
  have hk := hc n hn h
  obtain ⟨i1, i2⟩ := lk_inv S hc n (by omega)
  have es : lkS S (n + 1) = if live S n = true ∧ kCnt (S.hs n) < (lkS S n).2 then (n, kCnt (S.hs n)) else lkS S n := rfl
  have eL : lkL S (n + 1) = nI (lkS S (n + 1)).1 := if_pos ea
  have eF : lkF S (n + 1) = nI (lkS S (n + 1)).2 := if_pos ea
  rw [eL, eF]
  cases ha : kAny (live S) n with
  | true =>
    have fL : lkL S n = nI (lkS S n).1 := if_pos ha
    have fF : lkF S n = nI (lkS S n).2 := if_pos ha
    rw [fL, fF]
    obtain ⟨a, b, c⟩ := i1 ha
    have h2 : (lkS S n).2 ≤ 120 := by rw [c]; exact hc _ (by omega) a
    refine ⟨fun z => ?_, fun z => ?_⟩
    · have h3 : ¬ kCnt (S.hs n) < (lkS S n).2 := by
        have := (nI_leI (by omega) (by omega)).mp z
        omega
      rw [es, if_neg (fun y => h3 y.2)]
      exact ⟨rfl, rfl⟩
    · have h3 : kCnt (S.hs n) < (lkS S n).2 := by
        rcases Nat.lt_or_ge (kCnt (S.hs n)) (lkS S n).2 with y | y
        · exact y
        · exact absurd (nI_le y (by omega)) z
      rw [es, if_pos ⟨h, h3⟩]
      exact ⟨rfl, rfl⟩
  | false =>
    have fL : lkL S n = -6 := if_neg (by rw [ha]; decide)
    have fF : lkF S n = 999 := if_neg (by rw [ha]; decide)
    rw [fL, fF]
    refine ⟨fun z => absurd z (kge (N := 999) (by omega) (by decide)), fun _ => ?_⟩
    rw [es, i2 ha, if_pos ⟨h, show kCnt (S.hs n) < 121 by omega⟩]
    exact ⟨rfl, rfl⟩
