/-! ===== the JDK's text ===== -/
def capOk (c : Nat) : Prop := c = 16 ∨ c = 34 ∨ c = 70 ∨ c = 142
def cTt (G : k_G) (M : k_M) (o b cap : Nat) (tl : List Nat) : Prop := ∃ (mb : Int32) (f : Nat → Int32), M o = some (kO 0 [.ref b, .int 0, .int mb, .int (nI tl.length)]) ∧ M b = some (kY G cap f) ∧ sb_Fit f ∧ tl.length ≤ cap ∧ ∀ i, i < tl.length → f i = sb_b (tl.getD i 0)
def trF (M M1 : k_M) (o b b' : Nat) : Prop := (∀ a e, M a = some e → a ≠ o → a ≠ b → M1 a = some e) ∧ (b' = b ∨ M b' = none)
theorem trF.refl {M : k_M} {o b : Nat} : trF M M o b b := ⟨fun _ _ h _ _ => h, Or.inl rfl⟩
theorem trF.q {M M1 : k_M} {o b b' q : Nat} {e : va_E} (h : trF M M1 o b b') (hq : M q = some e) (h1 : q ≠ o) (h2 : q ≠ b) : M1 q = some e ∧ q ≠ b' := by
  refine ⟨h.1 q e hq h1 h2, fun z => ?_⟩
  subst z
  rcases h.2 with z | z
  · exact h2 z
  · rw [hq] at z; cases z
theorem trF.trans {M M1 M2 : k_M} {o b b1 b2 : Nat} {e : va_E} (h1 : trF M M1 o b b1) (h2 : trF M1 M2 o b1 b2) (ho : M1 o = some e) : trF M M2 o b b2 := by
  refine ⟨fun a e h n1 n2 => ?_, ?_⟩
  · obtain ⟨q1, q2⟩ := h1.q h n1 n2
    exact h2.1 a e q1 n1 q2
  · rcases h2.2 with z | z
    · rw [z]; exact h1.2
    · by_cases hb : b2 = b
      · exact Or.inl hb
      · refine Or.inr ?_
        cases hM : M b2 with
        | none => rfl
        | some e2 =>
          have hbo : b2 ≠ o := fun y => by rw [y, ho] at z; cases z
          have := h1.1 b2 e2 hM hbo hb
          rw [z] at this; cases this
section T1
variable {G : k_G} {M : k_M} {o b cap : Nat} {tl : List Nat}
theorem cTt.ob (h : cTt G M o b cap tl) : o ≠ b := by
  obtain ⟨mb, f, h1, h2, -⟩ := h
  intro z
  rw [z, h2] at h1; cases h1
theorem cTt.oo (h : cTt G M o b cap tl) : ∃ e, M o = some e := by
  obtain ⟨mb, f, h1, -⟩ := h
  exact ⟨_, h1⟩
theorem t_copyOf {post : Option Nat → k_M → Prop} {n q : Nat} {f : Nat → Int32} (hn : n < q) (hq : q ≤ 142) (hb : M b = some (kY G n f)) (hf : sb_Fit f)
    (hp : ∀ (b' : Nat) (M1 : k_M) (f' : Nat → Int32), M b' = none → (∀ a, a ≠ b' → M1 a = M a) → M1 b' = some (kY G q f') → sb_Fit f' → (∀ j, j < n → f' j = f j) → post (some b') M1) : wp_J7_copyOf_9075b G 1 142 post b (nI q) M := by
  unfold wp_J7_copyOf_9075b
  have ei : (if nI q < nI n then nI q else nI n) = nI n := if_neg (nI_nlt (by omega) (by omega))
  refine ⟨_, _, hb, fun _ => ⟨q, nI_pos (by omega), kcl (by omega), by omega, by omega, by omega, fun b' M6 hno e6 => ?_⟩, fun z => ?_⟩
  · have hbb : b ≠ b' := fun z => by rw [z, hno] at hb; cases hb
    have m6 := (kup_off e6 hbb).trans hb
    refine ⟨_, _, m6, ?_⟩
    rw [ei, sb_cl0, kcl (by omega)]
    exact ⟨by omega, by omega, _, _, _, _, m6, kup_at e6, by decide, by decide, nI_pos (by omega), by omega, by omega, fun i _ => hf _, fun M21 e21 => ⟨by omega, by omega, hp b' M21 _ hno (fun a ha => (kup_off e21 ha).trans (kup_off e6 ha)) (kup_at e21) (sb_fitC hf sb_fit0) (fun j hj => sb_cpy0 hj)⟩⟩
  · have := (nI_eq (by omega) (by omega)).mp z
    omega
theorem t_ensure {post : k_M → Prop} {q : Nat} (hq : q ≤ 142) (hq2 : q ≤ cap + 10) (hc : capOk cap) (hT : cTt G M o b cap tl)
    (hp : ∀ (M1 : k_M) (b' cap' : Nat), trF M M1 o b b' → capOk cap' → q ≤ cap' → cTt G M1 o b' cap' tl → post M1) : wp_J5_ensureCapacityInternal_d00df G 1 142 post o (nI q) M := by
  have hT0 := hT
  have hob := hT.ob
  obtain ⟨mb, f, h0, h1, hf, hl, hv⟩ := hT
  have hcap : cap ≤ 142 := by rcases hc with z | z | z | z <;> omega
  have hcap2 : 16 ≤ cap := by rcases hc with z | z | z | z <;> omega
  have e1 : (nI q - nI cap).toInt = (q : Int) - cap := pk_sub_toInt (by omega) (by omega)
  unfold wp_J5_ensureCapacityInternal_d00df
  refine ⟨_, _, h0, rfl, _, _, h1, _, _, h0, rfl, ?_⟩
  rw [sb_shr0]
  refine ⟨fun h => ⟨by omega, by omega, ?_⟩, fun h => ?_⟩
  · rw [Int32.le_iff_toInt_le, e1, Int32.toInt_zero] at h
    exact hp M b cap trF.refl hc (by omega) hT0
  · have hlt : cap < q := by
      rcases Nat.lt_or_ge cap q with z | z
      · exact z
      · refine absurd ?_ h
        rw [Int32.le_iff_toInt_le, e1, Int32.toInt_zero]; omega
    refine ⟨_, _, h0, rfl, _, h0, by omega, by omega, ?_⟩
    unfold wp_J5_newCapacity_0f7a4
    refine ⟨_, _, h0, rfl, _, _, h1, _, _, h0, rfl, _, _, h0, rfl, ?_⟩
    have e2 : nI cap + ((2 : Int32) <<< ((0 : Int32) &&& 31)) = nI (cap + 2) := by
      rw [sb_shl0]; exact nI_add cap 2
    have e3 : nI q - nI cap = nI (q - cap) := pk_sub (by omega)
    rw [sb_shl0, e2, e3]
    unfold wp_J8_newLength_cabcc
    have e4 : nI cap + (if nI (q - cap) < nI (cap + 2) then nI (cap + 2) else nI (q - cap)) = nI (2 * cap + 2) := by
      rw [if_pos (nI_lt (by omega) (by omega)), nI_add]
      exact congrArg nI (by omega)
    rw [e4]
    refine ⟨fun z => absurd z (nI_nle (by omega) (by omega)), fun _ => ⟨fun z => absurd z (show ¬ nI 2147483639 < nI (2 * cap + 2) from nI_nlt (by omega) (by decide)), fun _ => ⟨fun _ => ⟨_, _, h0, rfl, ?_⟩, fun z => ?_⟩⟩⟩
    · refine ⟨_, _, h0, rfl, 1, 142, by omega, by omega, ?_⟩
      rw [sb_shr0, sb_shl0]
      have hc' : capOk (2 * cap + 2) := by
        rcases hc with z | z | z | z
        · exact Or.inr (Or.inl (by omega))
        · exact Or.inr (Or.inr (Or.inl (by omega)))
        · exact Or.inr (Or.inr (Or.inr (by omega)))
        · omega
      refine t_copyOf (n := cap) (by omega) (by rcases hc' with z | z | z | z <;> omega) h1 hf (fun b' M1 f' hno hfr hb1 hf' hk => ⟨b', rfl, ?_⟩)
      have hob' : o ≠ b' := fun z => by rw [z, hno] at h0; cases h0
      refine ⟨_, (hfr o hob').trans h0, by simp, fun M2 e5 => ⟨by omega, by omega, ?_⟩⟩
      refine hp M2 b' (2 * cap + 2) ⟨fun a e ha n1 n2 => ?_, Or.inr hno⟩ hc' (by omega) ⟨mb, f', by rw [kup_at e5]; rfl, (kup_off e5 (Ne.symm hob')).trans hb1, hf', by omega, fun i hi => (hk i (by omega)).trans (hv i hi)⟩
      have hab : a ≠ b' := fun z => by rw [z, hno] at ha; cases ha
      rw [kup_off e5 n1, hfr a hab]; exact ha
    · have := (nI_eq (by omega) (by decide)).mp (show nI (2 * cap + 2) = nI 2147483647 from z)
      omega
theorem t_isLatin {post : Int32 → k_M → Prop} {x2 x3 : Value} (h0 : M o = some (kO 0 [.ref b, .int 0, x2, x3])) (hp : post 1 M) : wp_J5_isLatin1_aae02 G post o M := by
  unfold wp_J5_isLatin1_aae02
  exact ⟨fun z => absurd z (by decide), fun _ => ⟨_, _, h0, rfl, fun z => absurd rfl z, fun _ => hp⟩⟩
theorem getD_l {l r : List Nat} {i : Nat} (h : i < l.length) : (l ++ r).getD i 0 = l.getD i 0 := by
  rw [List.getD_eq_getElem?_getD, List.getD_eq_getElem?_getD, List.getElem?_append_left h]
theorem getD_r {l r : List Nat} {i : Nat} : (l ++ r).getD (l.length + i) 0 = r.getD i 0 := by
  rw [List.getD_eq_getElem?_getD, List.getD_eq_getElem?_getD, List.getElem?_append_right (by omega), Nat.add_sub_cancel_left]
theorem t_appendChar {post : Option Nat → k_M → Prop} {c : Nat} (hc : c < 128) (hl : tl.length + 1 ≤ 142) (hk : capOk cap) (hT : cTt G M o b cap tl)
    (hp : ∀ (M1 : k_M) (b' cap' : Nat), trF M M1 o b b' → capOk cap' → cTt G M1 o b' cap' (tl ++ [c]) → post (some o) M1) : wp_J4_append_cf468 G 1 142 post o (nI c) M := by
  have hT0 := hT
  obtain ⟨mb, f, h0, h1, hf, hle, hv⟩ := hT
  unfold wp_J4_append_cf468
  refine ⟨_, h0, 1, 142, by omega, by omega, ?_⟩
  unfold wp_J5_append_3fe6f
  refine ⟨_, _, h0, rfl, _, h0, 1, 142, by omega, by omega, ?_⟩
  rw [kns]
  refine t_ensure hl (by omega) hk hT0 (fun M1 b1 cap1 t1 k1 q1 hT1 => ?_)
  have hob1 := hT1.ob
  have hc1 : cap1 ≤ 142 := by rcases k1 with z | z | z | z <;> omega
  obtain ⟨mb1, f1, g0, g1, gf, gl, gv⟩ := hT1
  refine ⟨_, g0, by omega, by omega, t_isLatin g0 ⟨fun z => absurd z (by decide), fun _ => ⟨by omega, by omega, ?_⟩⟩⟩
  unfold wp_J1_canEncode_fc78d
  refine ⟨fun z => absurd z (show ¬ nI 255 < nI c from nI_nlt (by omega) (by decide)), fun _ => ⟨fun z => absurd z (by decide), fun _ => ⟨_, _, g0, rfl, _, _, g0, rfl, _, g0, by simp, fun M2 e2 => ?_⟩⟩⟩
  rw [kns] at e2
  refine ⟨_, _, (kup_off e2 (Ne.symm hob1)).trans g1, kvin (by omega) (by omega), fun M3 e3 => ⟨by omega, by omega, o, rfl, by omega, by omega, ?_⟩⟩
  rw [kcl (by omega), pk_vb] at e3
  refine hp M3 b1 cap1 ⟨fun a e ha n1 n2 => ?_, t1.2⟩ k1 ⟨mb1, _, by rw [kup_off e3 hob1, kup_at e2, List.length_append]; rfl, kup_at e3, sb_fitU gf (sb_fitB c), by rw [List.length_append]; exact q1, fun i hi => ?_⟩
  · obtain ⟨p1, p2⟩ := t1.q ha n1 n2
    rw [kup_off e3 p2, kup_off e2 n1]; exact p1
  · rw [List.length_append] at hi
    have hi' : i < tl.length + 1 := hi
    by_cases hik : i = tl.length
    · subst hik
      have := getD_r (l := tl) (r := [c]) (i := 0)
      rw [Nat.add_zero] at this
      rw [upd_s, this]
      rfl
    · rw [upd_n hik, getD_l (by omega)]
      exact gv i (by omega)
end T1
