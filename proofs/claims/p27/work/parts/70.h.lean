/-! ===== the law: heights in longs ===== -/
theorem lb_shl {n : Nat} (hn : n < 64) (x : Int64) {i : Nat} (hi : i < 64) : bl (x <<< ((nI n).toInt64 &&& 63)) i = (decide (n ≤ i) && bl x (i - n)) := by
  rw [wb_c n hn]
  unfold bl
  rw [Int64.toBitVec_shiftLeft, wb_tb, wb_sm n hn]
  show (x.toBitVec <<< (BitVec.ofNat 64 n).toNat).getLsbD i = _
  rw [BitVec.toNat_ofNat, Nat.mod_eq_of_lt (show n < 2 ^ 64 by omega), BitVec.getLsbD_shiftLeft]
  rcases Nat.lt_or_ge i n with h | h
  · simp [h, Nat.not_le.mpr h]
  · simp [hi, h, Nat.not_lt.mpr h]
theorem lb_255 (i : Nat) (hi : i < 64) : bl 255 i = decide (i < 8) := (show ∀ i, i < 64 → bl 255 i = decide (i < 8) by decide +kernel) i hi
theorem lb_ext {x y : Int64} (h : ∀ i, i < 64 → bl x i = bl y i) : x = y := wb_inj (BitVec.eq_of_getLsbD_eq (fun i hi => h i hi))
theorem lb_i2l : ∀ n, n < 256 → (nI n).toInt64 = lN n := by decide +kernel
theorem lb_l2i : ∀ n, n < 256 → (lN n).toInt32 = nI n := by decide +kernel
theorem uI_ex {v : Int32} {N : Nat} (h : uI v < N) : ∃ n, n < N ∧ v = nI n := by
  refine ⟨uI v, h, uI_inj ?_⟩
  rw [uI_nI (uI_lt v)]
theorem bt_nI {n i : Nat} (hi : i < 32) : bt (nI n) i = n.testBit i := by
  show (BitVec.ofNat 32 n).getLsbD i = _
  rw [BitVec.getLsbD_ofNat, decide_eq_true hi, Bool.true_and]
/-- the byte k of a long -/
def hg (w : Int64) (k : Nat) : Int32 := nI (uL w / 2 ^ (8 * k) % 2 ^ 8)
theorem hg_lt (w : Int64) (k : Nat) : uI (hg w k) < 256 := by
  have : uL w / 2 ^ (8 * k) % 2 ^ 8 < 2 ^ 8 := Nat.mod_lt _ (by decide)
  unfold hg
  rw [uI_nI (by omega)]
  exact this
theorem hg_bt (w : Int64) (k : Nat) {i : Nat} (hi : i < 32) : bt (hg w k) i = (decide (i < 8) && bl w (8 * k + i)) := by
  unfold hg
  rw [bt_nI hi, Nat.testBit_mod_two_pow, Nat.testBit_div_two_pow, bl_uL, Nat.add_comm]
theorem hg_e (w : Int64) {k : Nat} (hk : k < 8) : ((((w).toUInt64 >>> ((nI (8 * k)).toInt64.toUInt64 &&& Int64.toUInt64 63)).toInt64 &&& (255 : Int64))).toInt32 = hg w k := by
  obtain ⟨n, hn, rfl⟩ := wb_of w
  rw [wb_shr hn (by omega), show (255 : Int64) = lN (2 ^ 8 - 1) by decide, wb_mask (Nat.lt_of_le_of_lt (Nat.div_le_self _ _) hn) (by decide), lb_l2i _ (Nat.mod_lt _ (by decide))]
  unfold hg
  rw [show uL (lN n) = n from wb_tn hn]
/-- the long with another byte k -/
def rs (w : Int64) (k : Nat) (v : Int32) : Int64 := (w &&& (((255 : Int64) <<< ((nI (8 * k)).toInt64 &&& 63)) ^^^ (-1 : Int64))) ||| ((v).toInt64 <<< ((nI (8 * k)).toInt64 &&& 63))
theorem rs_bl {w : Int64} {k : Nat} {v : Int32} (hk : k < 8) (hv : uI v < 256) {j : Nat} (hj : j < 64) : bl (rs w k v) j = if 8 * k ≤ j ∧ j < 8 * k + 8 then bt v (j - 8 * k) else bl w j := by
  obtain ⟨n, hn, rfl⟩ := uI_ex hv
  have h8 : ∀ i, 8 ≤ i → n.testBit i = false := fun i hi => Nat.testBit_lt_two_pow (Nat.lt_of_lt_of_le hn (Nat.pow_le_pow_right (by decide) hi : 2 ^ 8 ≤ 2 ^ i))
  unfold rs
  rw [bl_or, bl_and, bl_not _ hj, lb_shl (by omega) _ hj, lb_shl (by omega) _ hj, lb_i2l n hn, lb_255 _ (by omega), bl_lN (by omega)]
  by_cases h1 : 8 * k ≤ j
  · by_cases h2 : j < 8 * k + 8
    · rw [if_pos ⟨h1, h2⟩, decide_eq_true h1, decide_eq_true (show j - 8 * k < 8 by omega), bt_nI (by omega)]
      simp
    · rw [if_neg (fun z => h2 z.2), decide_eq_true h1, decide_eq_false (show ¬ j - 8 * k < 8 by omega), h8 _ (by omega)]
      simp
  · rw [if_neg (fun z => h1 z.1), decide_eq_false h1]
    simp
theorem hg_rs {w : Int64} {k k' : Nat} {v : Int32} (hk : k < 8) (hk' : k' < 8) (hv : uI v < 256) : hg (rs w k v) k' = if k' = k then v else hg w k' := by
  refine b_ext (fun i hi => ?_)
  rw [hg_bt _ _ hi]
  by_cases h8 : i < 8
  · rw [decide_eq_true h8, Bool.true_and, rs_bl hk hv (by omega)]
    by_cases e : k' = k
    · subst e
      rw [if_pos (by omega), if_pos rfl]
      congr 1; omega
    · rw [if_neg (by omega), if_neg e, hg_bt _ _ hi, decide_eq_true h8, Bool.true_and]
  · rw [decide_eq_false h8, Bool.false_and]
    split
    · obtain ⟨n, hn, rfl⟩ := uI_ex hv
      rw [bt_nI hi]
      exact (Nat.testBit_lt_two_pow (Nat.lt_of_lt_of_le hn (Nat.pow_le_pow_right (by decide) (by omega) : 2 ^ 8 ≤ 2 ^ i))).symm
    · rw [hg_bt _ _ hi, decide_eq_false h8, Bool.false_and]
/-- the height of the cell c in the row i of the law's table -/
def hgt (f : Nat → Int64) (i c : Nat) : Int32 := hg (f (2 * i + c / 8)) (c % 8)
theorem hgt_lt (f : Nat → Int64) (i c : Nat) : uI (hgt f i c) < 256 := hg_lt _ _
theorem hgt_cong {f g : Nat → Int64} {i j : Nat} (h0 : f (2 * i) = g (2 * j)) (h1 : f (2 * i + 1) = g (2 * j + 1)) {c : Nat} (hc : c < 16) : hgt f i c = hgt g j c := by
  unfold hgt
  rcases (show c / 8 = 0 ∨ c / 8 = 1 by omega) with e | e
  · rw [e, Nat.add_zero, Nat.add_zero, h0]
  · rw [e, h1]
theorem updL_s {f : Nat → Int64} {k : Nat} {x : Int64} : vp_updL f k x k = x := if_pos rfl
theorem updL_n {f : Nat → Int64} {k i : Nat} {x : Int64} (h : i ≠ k) : vp_updL f k x i = f i := if_neg h
theorem hgt_up {f : Nat → Int64} {i c i' c' : Nat} {v : Int32} (hc : c < 16) (hc' : c' < 16) (hv : uI v < 256) : hgt (vp_updL f (2 * i + c / 8) (rs (f (2 * i + c / 8)) (c % 8) v)) i' c' = if i' = i ∧ c' = c then v else hgt f i' c' := by
  unfold hgt
  by_cases e : 2 * i' + c' / 8 = 2 * i + c / 8
  · rw [e, updL_s, hg_rs (by omega) (by omega) hv]
    by_cases e2 : c' % 8 = c % 8
    · rw [if_pos e2, if_pos (by omega)]
    · rw [if_neg e2, if_neg (by omega)]
  · rw [updL_n e, if_neg (by omega)]
theorem lh_ix : ∀ i, i < 17 → ∀ c, c < 16 → ((2 : Int32) * nI i) + (nI c / (8 : Int32)) = nI (2 * i + c / 8) := by decide +kernel
theorem lh_sh : ∀ c, c < 16 → ((8 : Int32) * (nI c - nI c / (8 : Int32) * (8 : Int32))) = nI (8 * (c % 8)) := by decide +kernel
theorem va_up2 {α : Type} {f : Nat → α} {k : Nat} {x y : α} : va_up (va_up f k x) k y = va_up f k y := by
  funext i
  unfold va_up
  split <;> rfl
theorem va_upid {α : Type} {f : Nat → α} {k : Nat} {x : α} (h : f k = x) : va_up f k x = f := by
  funext i
  unfold va_up
  split
  · rename_i e; rw [e, h]
  · rfl
section LH
variable {G : k_G} {M : k_M} {ta ka : Nat} {f g : Nat → Int64}
theorem s_L_height {post : Int32 → k_M → Prop} {i c : Nat} (hM : M ta = some (kJ G 34 f)) (hi : i < 17) (hc : c < 16) (hp : post (hgt f i c) M) : wp_L_height G post (nI i) (nI c) ta M := by
  unfold wp_L_height
  rw [lh_ix i hi c hc, lh_sh c hc]
  refine ⟨_, _, hM, kvin (by omega) (by omega), ?_⟩
  rw [kcl (by omega), hg_e _ (by omega)]
  exact hp
theorem s_L_raise {post : k_M → Prop} {i c : Nat} {v : Int32} (hM : M ta = some (kJ G 34 f)) (hi : i < 17) (hc : c < 16) (hv : uI v < 256)
    (hp : ∀ f', (∀ i' c', c' < 16 → hgt f' i' c' = if i' = i ∧ c' = c then v else hgt f i' c') → post (va_up M ta (some (kJ G 34 f')))) : wp_L_raise G post (nI i) (nI c) v ta M := by
  unfold wp_L_raise
  intro y ey
  rw [lh_ix i hi c hc] at ey
  subst ey
  refine ⟨_, _, hM, kvin (by omega) (by omega), _, _, hM, kvin (by omega) (by omega), fun M8 e8 => ?_⟩
  rw [kcl (by omega), lh_sh c hc] at e8
  rw [e8]
  exact hp _ (fun i' c' hc' => hgt_up hc hc' hv)
/-- 2 if more -/
def k02 (b : Bool) : Int32 := if b = true then 2 else 0
theorem k02_or (a b : Bool) : k02 a ||| k02 b = k02 (a || b) := by cases a <;> cases b <;> decide
theorem ordf_sum (f g : Nat → Int32) : k01 (oLt f g 16) + k02 (oLt g f 16) = ordf f g := by
  unfold ordf k01 k02
  split <;> split <;> rfl
theorem s_L_order {post : Int32 → k_M → Prop} {i j : Nat} (hM : M ta = some (kJ G 34 f)) (hi : i < 17) (hj : j < 17) (hp : post (ordf (hgt f i) (hgt f j)) M) : wp_L_order G post (nI i) (nI j) ta M := by
  have key : ∀ (n c : Nat), c + n = 16 → wp_L_order_L8 G post (n + 1) (nI i) (nI j) ta (k01 (oLt (hgt f i) (hgt f j) c)) (k02 (oLt (hgt f j) (hgt f i) c)) (nI c) M := by
    intro n
    induction n with
    | zero =>
      intro c hc
      have : c = 16 := by omega
      subst this
      rw [wp_L_order_L8]
      rw [← ordf_sum] at hp
      exact ⟨fun _ => hp, fun h0 => absurd (by decide) h0⟩
    | succ n ih =>
      intro c hc
      rw [wp_L_order_L8]
      have ih1 := ih (c + 1) (by omega)
      rw [← kns c] at ih1
      have e1 : oLt (hgt f i) (hgt f j) (c + 1) = (oLt (hgt f i) (hgt f j) c || decide (hgt f i c < hgt f j c)) := rfl
      have e2 : oLt (hgt f j) (hgt f i) (c + 1) = (oLt (hgt f j) (hgt f i) c || decide (hgt f j c < hgt f i c)) := rfl
      rw [e1, e2, ← k01_or, ← k02_or] at ih1
      have blk : ∀ s : Int32, s = k01 (decide (hgt f i c < hgt f j c)) → wp_L_order_b38 G post (wp_L_order_L8 G post (n + 1)) (nI i) (nI j) ta (k02 (oLt (hgt f j) (hgt f i) c)) (nI c) s (k01 (oLt (hgt f i) (hgt f j) c)) M := by
        intro s hs
        unfold wp_L_order_b38
        refine s_L_height hM hi (by omega) (s_L_height hM hj (by omega) ⟨fun hc2 => ?_, fun hc2 => ?_⟩)
        · have : decide (hgt f j c < hgt f i c) = false := decide_eq_false (fun z => absurd hc2 (k_nle.mpr z))
          rw [this, ← hs] at ih1
          exact ih1
        · have : decide (hgt f j c < hgt f i c) = true := decide_eq_true (k_nle.mp hc2)
          rw [this, ← hs] at ih1
          exact ih1
      refine ⟨fun h0 => absurd h0 (kge (N := 16) (by omega) (by decide)), fun _ => s_L_height hM hi (by omega) (s_L_height hM hj (by omega) ⟨fun hc2 => ?_, fun hc2 => ?_⟩)⟩
      · exact blk 0 (by rw [decide_eq_false (fun z => absurd hc2 (k_nle.mpr z))]; rfl)
      · exact blk 1 (by rw [decide_eq_true (k_nle.mp hc2)]; rfl)
  unfold wp_L_order
  exact ⟨17, key 16 0 (by omega)⟩
theorem s_L_take {post : k_M → Prop} {i j : Nat} (hM : M ta = some (kJ G 34 f)) (hK : M ka = some (kJ G 17 g)) (hne : ka ≠ ta) (hi : i < 17) (hj : j < 17) (hij : j ≠ i)
    (hp : ∀ f', (∀ i' c', c' < 16 → hgt f' i' c' = if i' = i then mx (hgt f i) (hgt f j) c' else hgt f i' c') → post (va_up (va_up M ta (some (kJ G 34 f'))) ka (some (kJ G 17 (vp_updL g i (g i ||| g j)))))) : wp_L_take G post (nI i) (nI j) ta ka M := by
  have key : ∀ (n c : Nat), c + n = 16 → ∀ f', (∀ i' c', c' < 16 → hgt f' i' c' = if i' = i ∧ c' < c then mx (hgt f i) (hgt f j) c' else hgt f i' c') → wp_L_take_L3 G post (n + 1) (nI i) (nI j) ta ka (nI c) (va_up M ta (some (kJ G 34 f'))) := by
    intro n
    induction n with
    | zero =>
      intro c hc f' hf
      have : c = 16 := by omega
      subst this
      rw [wp_L_take_L3]
      have hk1 : va_up M ta (some (kJ G 34 f')) ka = some (kJ G 17 g) := by rw [vup_n hne]; exact hK
      refine ⟨fun _ => ⟨_, _, hk1, kvin hi (by decide), _, _, hk1, kvin hj (by decide), _, _, hk1, kvin hi (by decide), fun M12 e12 => ?_⟩, fun h0 => absurd (by decide) h0⟩
      rw [kcl (by omega), kcl (by omega)] at e12
      rw [e12]
      refine hp f' (fun i' c' hc' => ?_)
      rw [hf i' c' hc']
      by_cases e : i' = i
      · rw [if_pos ⟨e, hc'⟩, if_pos e]
      · rw [if_neg (fun z => e z.1), if_neg e]
    | succ n ih =>
      intro c hc f' hf
      rw [wp_L_take_L3]
      have hm : va_up M ta (some (kJ G 34 f')) ta = some (kJ G 34 f') := vup_s
      have ei : hgt f' i c = hgt f i c := by rw [hf i c (by omega), if_neg (by omega)]
      have ej : hgt f' j c = hgt f j c := by rw [hf j c (by omega), if_neg (fun z => hij z.1)]
      refine ⟨fun h0 => absurd h0 (kge (N := 16) (by omega) (by decide)), fun _ => s_L_height hm hj (by omega) (s_L_height hm hi (by omega) ⟨fun hc2 => ?_, fun hc2 => s_L_height hm hj (by omega) (s_L_raise hm hi (by omega) (hgt_lt _ _ _) (fun f2 h2 => ?_))⟩)⟩
      · rw [ei, ej] at hc2
        have := ih (c + 1) (by omega) f' (fun i' c' hc' => by
          rw [hf i' c' hc']
          by_cases e : i' = i ∧ c' < c
          · rw [if_pos e, if_pos ⟨e.1, by omega⟩]
          · rw [if_neg e]
            by_cases e2 : i' = i ∧ c' < c + 1
            · have hcc : c' = c := by omega
              rw [if_pos e2, e2.1, hcc]
              unfold mx
              rw [if_neg (fun z => absurd hc2 (k_nle.mpr z))]
            · rw [if_neg e2])
        rw [← kns c] at this
        exact this
      · rw [ei, ej] at hc2
        rw [va_up2]
        have := ih (c + 1) (by omega) f2 (fun i' c' hc' => by
          rw [h2 i' c' hc']
          by_cases e : i' = i ∧ c' = c
          · rw [if_pos e, if_pos ⟨e.1, by omega⟩, ej, e.2]
            unfold mx
            rw [if_pos (k_nle.mp hc2)]
          · rw [if_neg e, hf i' c' hc']
            by_cases e2 : i' = i ∧ c' < c
            · rw [if_pos e2, if_pos ⟨e2.1, by omega⟩]
            · rw [if_neg e2, if_neg (fun z => e (by constructor <;> omega))])
        rw [← kns c] at this
        exact this
  unfold wp_L_take
  have := key 16 0 (by omega) f (fun i' c' hc' => by rw [if_neg (by omega)])
  rw [va_upid hM] at this
  exact ⟨17, this⟩
end LH
